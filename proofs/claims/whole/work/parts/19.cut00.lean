set_option maxRecDepth 100000 in
theorem q0_clear_0 {N d : Nat} (hd : 5 ≤ d) {δ : mi_D} {Q : mi_D → Prop} (F : (∀ δ1 : mi_D, δ1 = mi_setI δ 4 9 0 → Q δ1)) : mi_wV N d 1 0 [.ref 4] [] δ Q := by
  unfold mi_wV
  refine ms_seq mB_1 mO_1 [(.aload_n 0, 1), (.iconst 0, 1)] (pc' := 2) (L' := [.ref 4]) (st' := [.int 0, .ref 4]) ⟨dX0_clear_0, dX0_clear_1, trivial⟩ rfl ?_
  refine ms_putI mB_1 mO_1 dX0_clear_2 mF_0_48 (gk_4 N) rfl rfl ?_
  refine mr_st (fun δ1 e_δ1 => ?_)
  have F := F δ1 e_δ1
  exact ms_vret mB_1 dX0_clear_5 mR_1 ⟨rfl, rfl, F⟩
set_option maxRecDepth 100000 in
theorem q0_has_0 {N d : Nat} (hd : 5 ≤ d) {p0 : Int32} {δ : mi_D} {Q : Int32 → mi_D → Prop} (F : ((p0 < 0 → Q 0 δ) ∧ (¬ p0 < 0 → ((p0 < (δ.1 4 9) → Q 1 δ) ∧ (¬ p0 < (δ.1 4 9) → Q 0 δ))))) : mi_wI N d 2 0 [.ref 4, .int p0] [] δ Q := by
  unfold mi_wI
  refine ms_seq mB_2 mO_2 [(.iload_n 1, 1)] (pc' := 1) (L' := [.ref 4, .int p0]) (st' := [.int p0]) ⟨dX0_has_0, trivial⟩ rfl ?_
  refine ms_if_lt mB_2 dX0_has_1 (t := 16) rfl (fun c => ?_) (fun c => ?_)
  · have F := F.1 c
    refine ms_seq mB_2 mO_2 [(.iconst 0, 1)] (pc' := 17) (L' := [.ref 4, .int p0]) (st' := [.int 0]) ⟨dX0_has_16, trivial⟩ rfl ?_
    exact ms_zret mB_2 dX0_has_17 mR_2 (by decide) ⟨_, rfl, rfl, F⟩
  · have F := F.2 c
    refine ms_seq mB_2 mO_2 [(.iload_n 1, 1), (.aload_n 0, 1)] (pc' := 6) (L' := [.ref 4, .int p0]) (st' := [.ref 4, .int p0]) ⟨dX0_has_4, dX0_has_5, trivial⟩ rfl ?_
    refine ms_getI mB_2 mO_2 dX0_has_6 mF_0_48 (gk_4 N) (Or.inl rfl) ?_
    refine ms_icmp_ge mB_2 dX0_has_9 (t := 16) rfl (fun c => ?_) (fun c => ?_)
    · have F := F.2 c
      refine ms_seq mB_2 mO_2 [(.iconst 0, 1)] (pc' := 17) (L' := [.ref 4, .int p0]) (st' := [.int 0]) ⟨dX0_has_16, trivial⟩ rfl ?_
      exact ms_zret mB_2 dX0_has_17 mR_2 (by decide) ⟨_, rfl, rfl, F⟩
    · have F := F.1 c
      refine ms_seq mB_2 mO_2 [(.iconst 1, 1)] (pc' := 13) (L' := [.ref 4, .int p0]) (st' := [.int 1]) ⟨dX0_has_12, trivial⟩ rfl ?_
      refine ms_goto mB_2 dX0_has_13 (t := 17) rfl ?_
      exact ms_zret mB_2 dX0_has_17 mR_2 (by decide) ⟨_, rfl, rfl, F⟩
set_option maxRecDepth 100000 in
theorem q0_isLeaf_0 {N d : Nat} (hd : 5 ≤ d) {p0 : Int32} {δ : mi_D} {Q : Int32 → mi_D → Prop} (F : (mi_wI N (d - 1) 2 0 [.ref 4, .int p0] [] δ (fun r2 δ1 => ((r2 = 0 → Q 0 δ1) ∧ (¬ r2 = 0 → (((mi_at δ1 12 p0) = 0 → Q 1 δ1) ∧ (¬ (mi_at δ1 12 p0) = 0 → Q 0 δ1))))))) : mi_wI N d 3 0 [.ref 4, .int p0] [] δ Q := by
  unfold mi_wI
  refine ms_seq mB_3 mO_3 [(.aload_n 0, 1), (.iload_n 1, 1)] (pc' := 2) (L' := [.ref 4, .int p0]) (st' := [.int p0, .ref 4]) ⟨dX0_isLeaf_0, dX0_isLeaf_1, trivial⟩ rfl ?_
  refine ms_callvI mB_3 mO_3 (by omega) dX0_isLeaf_2 mQ_0_52 mC_0_52 mL_2 mO_2 rfl (Nat.le_of_ble_eq_true rfl) (Nat.le_of_ble_eq_true rfl) (gk_4 N) rfl F (fun r2 δ1 F => ?_)
  refine ms_if_eq mB_3 dX0_isLeaf_5 (t := 23) rfl (fun c => ?_) (fun c => ?_)
  · have F := F.1 c
    refine ms_seq mB_3 mO_3 [(.iconst 0, 1)] (pc' := 24) (L' := [.ref 4, .int p0]) (st' := [.int 0]) ⟨dX0_isLeaf_23, trivial⟩ rfl ?_
    exact ms_zret mB_3 dX0_isLeaf_24 mR_3 (by decide) ⟨_, rfl, rfl, F⟩
  · have F := F.2 c
    refine ms_seq mB_3 mO_3 [(.aload_n 0, 1)] (pc' := 9) (L' := [.ref 4, .int p0]) (st' := [.ref 4]) ⟨dX0_isLeaf_8, trivial⟩ rfl ?_
    refine ms_getR mB_3 mO_3 dX0_isLeaf_9 mF_0_42 (gk_4 N) rfl (b := 12) (gr_4_7 N) ?_
    refine ms_seq mB_3 mO_3 [(.iload_n 1, 1)] (pc' := 13) (L' := [.ref 4, .int p0]) (st' := [.int p0, .ref 12]) ⟨dX0_isLeaf_12, trivial⟩ rfl ?_
    refine ms_at mB_3 mO_3 hd dX0_isLeaf_13 mQ_0_56 (Nat.le_of_ble_eq_true rfl) (gk_12 N) (mi_ne (gl_12 N)) ?_
    refine ms_if_ne mB_3 dX0_isLeaf_16 (t := 23) rfl (fun c => ?_) (fun c => ?_)
    · have F := F.2 c
      refine ms_seq mB_3 mO_3 [(.iconst 0, 1)] (pc' := 24) (L' := [.ref 4, .int p0]) (st' := [.int 0]) ⟨dX0_isLeaf_23, trivial⟩ rfl ?_
      exact ms_zret mB_3 dX0_isLeaf_24 mR_3 (by decide) ⟨_, rfl, rfl, F⟩
    · have F := F.1 c
      refine ms_seq mB_3 mO_3 [(.iconst 1, 1)] (pc' := 20) (L' := [.ref 4, .int p0]) (st' := [.int 1]) ⟨dX0_isLeaf_19, trivial⟩ rfl ?_
      refine ms_goto mB_3 dX0_isLeaf_20 (t := 24) rfl ?_
      exact ms_zret mB_3 dX0_isLeaf_24 mR_3 (by decide) ⟨_, rfl, rfl, F⟩
set_option maxRecDepth 100000 in
theorem q0_isShut_0 {N d : Nat} (hd : 5 ≤ d) {p0 : Int32} {δ : mi_D} {Q : Int32 → mi_D → Prop} (F : (((mi_at δ 13 p0) = 1 → Q 1 δ) ∧ (¬ (mi_at δ 13 p0) = 1 → Q 0 δ))) : mi_wI N d 4 0 [.ref 4, .int p0] [] δ Q := by
  unfold mi_wI
  refine ms_seq mB_4 mO_4 [(.aload_n 0, 1)] (pc' := 1) (L' := [.ref 4, .int p0]) (st' := [.ref 4]) ⟨dX0_isShut_0, trivial⟩ rfl ?_
  refine ms_getR mB_4 mO_4 dX0_isShut_1 mF_0_45 (gk_4 N) rfl (b := 13) (gr_4_8 N) ?_
  refine ms_seq mB_4 mO_4 [(.iload_n 1, 1)] (pc' := 5) (L' := [.ref 4, .int p0]) (st' := [.int p0, .ref 13]) ⟨dX0_isShut_4, trivial⟩ rfl ?_
  refine ms_at mB_4 mO_4 hd dX0_isShut_5 mQ_0_56 (Nat.le_of_ble_eq_true rfl) (gk_13 N) (mi_ne (gl_13 N)) ?_
  refine ms_seq mB_4 mO_4 [(.iconst 1, 1)] (pc' := 9) (L' := [.ref 4, .int p0]) (st' := [.int 1, .int (mi_at δ 13 p0)]) ⟨dX0_isShut_8, trivial⟩ rfl ?_
  refine ms_icmp_ne mB_4 dX0_isShut_9 (t := 16) rfl (fun c => ?_) (fun c => ?_)
  · have F := F.2 c
    refine ms_seq mB_4 mO_4 [(.iconst 0, 1)] (pc' := 17) (L' := [.ref 4, .int p0]) (st' := [.int 0]) ⟨dX0_isShut_16, trivial⟩ rfl ?_
    exact ms_zret mB_4 dX0_isShut_17 mR_4 (by decide) ⟨_, rfl, rfl, F⟩
  · have F := F.1 c
    refine ms_seq mB_4 mO_4 [(.iconst 1, 1)] (pc' := 13) (L' := [.ref 4, .int p0]) (st' := [.int 1]) ⟨dX0_isShut_12, trivial⟩ rfl ?_
    refine ms_goto mB_4 dX0_isShut_13 (t := 17) rfl ?_
    exact ms_zret mB_4 dX0_isShut_17 mR_4 (by decide) ⟨_, rfl, rfl, F⟩
set_option maxRecDepth 100000 in
theorem q0_setShut_0 {N d : Nat} (hd : 5 ≤ d) {p0 p1 : Int32} {δ : mi_D} {Q : mi_D → Prop} (F : ((p1 = 0 → mi_wV N d 5 14 [.ref 4, .int p0, .int p1] [.int 0, .int p0, .ref 13] δ Q) ∧ (¬ p1 = 0 → mi_wV N d 5 14 [.ref 4, .int p0, .int p1] [.int 1, .int p0, .ref 13] δ Q))) : mi_wV N d 5 0 [.ref 4, .int p0, .int p1] [] δ Q := by
  unfold mi_wV
  refine ms_seq mB_5 mO_5 [(.aload_n 0, 1)] (pc' := 1) (L' := [.ref 4, .int p0, .int p1]) (st' := [.ref 4]) ⟨dX0_setShut_0, trivial⟩ rfl ?_
  refine ms_getR mB_5 mO_5 dX0_setShut_1 mF_0_45 (gk_4 N) rfl (b := 13) (gr_4_8 N) ?_
  refine ms_seq mB_5 mO_5 [(.iload_n 1, 1), (.iload_n 2, 1)] (pc' := 6) (L' := [.ref 4, .int p0, .int p1]) (st' := [.int p1, .int p0, .ref 13]) ⟨dX0_setShut_4, dX0_setShut_5, trivial⟩ rfl ?_
  refine ms_if_eq mB_5 dX0_setShut_6 (t := 13) rfl (fun c => ?_) (fun c => ?_)
  · have F := F.1 c
    refine ms_seq mB_5 mO_5 [(.iconst 0, 1)] (pc' := 14) (L' := [.ref 4, .int p0, .int p1]) (st' := [.int 0, .int p0, .ref 13]) ⟨dX0_setShut_13, trivial⟩ rfl ?_
    exact F
  · have F := F.2 c
    refine ms_seq mB_5 mO_5 [(.iconst 1, 1)] (pc' := 10) (L' := [.ref 4, .int p0, .int p1]) (st' := [.int 1, .int p0, .ref 13]) ⟨dX0_setShut_9, trivial⟩ rfl ?_
    refine ms_goto mB_5 dX0_setShut_10 (t := 14) rfl ?_
    exact F
set_option maxRecDepth 100000 in
theorem q0_setShut_14 {N d : Nat} (hd : 5 ≤ d) {l1 l2 s1 s2 : Int32} {δ : mi_D} {Q : mi_D → Prop} (F : (∀ δ1 : mi_D, δ1 = mi_pt δ 13 60 s1 s2 → Q δ1)) : mi_wV N d 5 14 [.ref 4, .int l1, .int l2] [.int s2, .int s1, .ref 13] δ Q := by
  unfold mi_wV
  refine ms_put mB_5 mO_5 (lim := 60) hd dX0_setShut_14 mQ_0_60 (Nat.le_of_ble_eq_true rfl) (gk_13 N) (gl_13 N) ?_
  refine mr_st (fun δ1 e_δ1 => ?_)
  have F := F δ1 e_δ1
  exact ms_vret mB_5 dX0_setShut_17 mR_5 ⟨rfl, rfl, F⟩
set_option maxRecDepth 100000 in
theorem q0_takesChild_0 {N d : Nat} (hd : 5 ≤ d) {p0 p1 : Int32} {δ : mi_D} {Q : Int32 → mi_D → Prop} (F : (((mi_at δ 12 p0) = 1 → (((mi_at δ 6 p0) = p1 → (((mi_at δ 8 p0) < 5 → Q 1 δ) ∧ (¬ (mi_at δ 8 p0) < 5 → Q 0 δ))) ∧ (¬ (mi_at δ 6 p0) = p1 → Q 0 δ))) ∧ (¬ (mi_at δ 12 p0) = 1 → Q 0 δ))) : mi_wI N d 6 0 [.ref 4, .int p0, .int p1] [] δ Q := by
  unfold mi_wI
  refine ms_seq mB_6 mO_6 [(.aload_n 0, 1)] (pc' := 1) (L' := [.ref 4, .int p0, .int p1]) (st' := [.ref 4]) ⟨dX0_takesChild_0, trivial⟩ rfl ?_
  refine ms_getR mB_6 mO_6 dX0_takesChild_1 mF_0_42 (gk_4 N) rfl (b := 12) (gr_4_7 N) ?_
  refine ms_seq mB_6 mO_6 [(.iload_n 1, 1)] (pc' := 5) (L' := [.ref 4, .int p0, .int p1]) (st' := [.int p0, .ref 12]) ⟨dX0_takesChild_4, trivial⟩ rfl ?_
  refine ms_at mB_6 mO_6 hd dX0_takesChild_5 mQ_0_56 (Nat.le_of_ble_eq_true rfl) (gk_12 N) (mi_ne (gl_12 N)) ?_
  refine ms_seq mB_6 mO_6 [(.iconst 1, 1)] (pc' := 9) (L' := [.ref 4, .int p0, .int p1]) (st' := [.int 1, .int (mi_at δ 12 p0)]) ⟨dX0_takesChild_8, trivial⟩ rfl ?_
  refine ms_icmp_ne mB_6 dX0_takesChild_9 (t := 40) rfl (fun c => ?_) (fun c => ?_)
  · have F := F.2 c
    refine ms_seq mB_6 mO_6 [(.iconst 0, 1)] (pc' := 41) (L' := [.ref 4, .int p0, .int p1]) (st' := [.int 0]) ⟨dX0_takesChild_40, trivial⟩ rfl ?_
    exact ms_zret mB_6 dX0_takesChild_41 mR_6 (by decide) ⟨_, rfl, rfl, F⟩
  · have F := F.1 c
    refine ms_seq mB_6 mO_6 [(.aload_n 0, 1)] (pc' := 13) (L' := [.ref 4, .int p0, .int p1]) (st' := [.ref 4]) ⟨dX0_takesChild_12, trivial⟩ rfl ?_
    refine ms_getR mB_6 mO_6 dX0_takesChild_13 mF_0_20 (gk_4 N) rfl (b := 6) (gr_4_1 N) ?_
    refine ms_seq mB_6 mO_6 [(.iload_n 1, 1)] (pc' := 17) (L' := [.ref 4, .int p0, .int p1]) (st' := [.int p0, .ref 6]) ⟨dX0_takesChild_16, trivial⟩ rfl ?_
    refine ms_at mB_6 mO_6 hd dX0_takesChild_17 mQ_0_56 (Nat.le_of_ble_eq_true rfl) (gk_6 N) (mi_ne (gl_6 N)) ?_
    refine ms_seq mB_6 mO_6 [(.iload_n 2, 1)] (pc' := 21) (L' := [.ref 4, .int p0, .int p1]) (st' := [.int p1, .int (mi_at δ 6 p0)]) ⟨dX0_takesChild_20, trivial⟩ rfl ?_
    refine ms_icmp_ne mB_6 dX0_takesChild_21 (t := 40) rfl (fun c => ?_) (fun c => ?_)
    · have F := F.2 c
      refine ms_seq mB_6 mO_6 [(.iconst 0, 1)] (pc' := 41) (L' := [.ref 4, .int p0, .int p1]) (st' := [.int 0]) ⟨dX0_takesChild_40, trivial⟩ rfl ?_
      exact ms_zret mB_6 dX0_takesChild_41 mR_6 (by decide) ⟨_, rfl, rfl, F⟩
    · have F := F.1 c
      refine ms_seq mB_6 mO_6 [(.aload_n 0, 1)] (pc' := 25) (L' := [.ref 4, .int p0, .int p1]) (st' := [.ref 4]) ⟨dX0_takesChild_24, trivial⟩ rfl ?_
      refine ms_getR mB_6 mO_6 dX0_takesChild_25 mF_0_26 (gk_4 N) rfl (b := 8) (gr_4_3 N) ?_
      refine ms_seq mB_6 mO_6 [(.iload_n 1, 1)] (pc' := 29) (L' := [.ref 4, .int p0, .int p1]) (st' := [.int p0, .ref 8]) ⟨dX0_takesChild_28, trivial⟩ rfl ?_
      refine ms_at mB_6 mO_6 hd dX0_takesChild_29 mQ_0_56 (Nat.le_of_ble_eq_true rfl) (gk_8 N) (mi_ne (gl_8 N)) ?_
      refine ms_seq mB_6 mO_6 [(.iconst 5, 1)] (pc' := 33) (L' := [.ref 4, .int p0, .int p1]) (st' := [.int 5, .int (mi_at δ 8 p0)]) ⟨dX0_takesChild_32, trivial⟩ rfl ?_
      refine ms_icmp_ge mB_6 dX0_takesChild_33 (t := 40) rfl (fun c => ?_) (fun c => ?_)
      · have F := F.2 c
        refine ms_seq mB_6 mO_6 [(.iconst 0, 1)] (pc' := 41) (L' := [.ref 4, .int p0, .int p1]) (st' := [.int 0]) ⟨dX0_takesChild_40, trivial⟩ rfl ?_
        exact ms_zret mB_6 dX0_takesChild_41 mR_6 (by decide) ⟨_, rfl, rfl, F⟩
      · have F := F.1 c
        refine ms_seq mB_6 mO_6 [(.iconst 1, 1)] (pc' := 37) (L' := [.ref 4, .int p0, .int p1]) (st' := [.int 1]) ⟨dX0_takesChild_36, trivial⟩ rfl ?_
        refine ms_goto mB_6 dX0_takesChild_37 (t := 41) rfl ?_
        exact ms_zret mB_6 dX0_takesChild_41 mR_6 (by decide) ⟨_, rfl, rfl, F⟩
set_option maxRecDepth 100000 in
theorem q0_hasCode_0 {N d : Nat} (hd : 5 ≤ d) {p0 : Int32} {δ : mi_D} {Q : Int32 → mi_D → Prop} (F : mi_wI N d 7 2 [.ref 4, .int p0, .int 0] [] δ Q) : mi_wI N d 7 0 [.ref 4, .int p0, .null] [] δ Q := by
  unfold mi_wI
  refine ms_seq mB_7 mO_7 [(.iconst 0, 1), (.istore_n 2, 1)] (pc' := 2) (L' := [.ref 4, .int p0, .int 0]) (st' := []) ⟨dX0_hasCode_0, dX0_hasCode_1, trivial⟩ rfl ?_
  exact F
set_option maxRecDepth 100000 in
theorem q0_hasCode_2 {N d : Nat} (hd : 5 ≤ d) {l1 l2 : Int32} {δ : mi_D} {Q : Int32 → mi_D → Prop} (F : ((l2 < (δ.1 4 9) → (((mi_at δ 5 l2) = l1 → Q 1 δ) ∧ (¬ (mi_at δ 5 l2) = l1 → mi_wI N d 7 2 [.ref 4, .int l1, .int (l2 + 1)] [] δ Q))) ∧ (¬ l2 < (δ.1 4 9) → Q 0 δ))) : mi_wI N d 7 2 [.ref 4, .int l1, .int l2] [] δ Q := by
  unfold mi_wI
  refine ms_seq mB_7 mO_7 [(.iload_n 2, 1), (.aload_n 0, 1)] (pc' := 4) (L' := [.ref 4, .int l1, .int l2]) (st' := [.ref 4, .int l2]) ⟨dX0_hasCode_2, dX0_hasCode_3, trivial⟩ rfl ?_
  refine ms_getI mB_7 mO_7 dX0_hasCode_4 mF_0_48 (gk_4 N) (Or.inl rfl) ?_
  refine ms_icmp_ge mB_7 dX0_hasCode_7 (t := 30) rfl (fun c => ?_) (fun c => ?_)
  · have F := F.2 c
    refine ms_seq mB_7 mO_7 [(.iconst 0, 1)] (pc' := 31) (L' := [.ref 4, .int l1, .int l2]) (st' := [.int 0]) ⟨dX0_hasCode_30, trivial⟩ rfl ?_
    exact ms_zret mB_7 dX0_hasCode_31 mR_7 (by decide) ⟨_, rfl, rfl, F⟩
  · have F := F.1 c
    refine ms_seq mB_7 mO_7 [(.aload_n 0, 1)] (pc' := 11) (L' := [.ref 4, .int l1, .int l2]) (st' := [.ref 4]) ⟨dX0_hasCode_10, trivial⟩ rfl ?_
    refine ms_getR mB_7 mO_7 dX0_hasCode_11 mF_0_14 (gk_4 N) rfl (b := 5) (gr_4_0 N) ?_
    refine ms_seq mB_7 mO_7 [(.iload_n 2, 1)] (pc' := 15) (L' := [.ref 4, .int l1, .int l2]) (st' := [.int l2, .ref 5]) ⟨dX0_hasCode_14, trivial⟩ rfl ?_
    refine ms_at mB_7 mO_7 hd dX0_hasCode_15 mQ_0_56 (Nat.le_of_ble_eq_true rfl) (gk_5 N) (mi_ne (gl_5 N)) ?_
    refine ms_seq mB_7 mO_7 [(.iload_n 1, 1)] (pc' := 19) (L' := [.ref 4, .int l1, .int l2]) (st' := [.int l1, .int (mi_at δ 5 l2)]) ⟨dX0_hasCode_18, trivial⟩ rfl ?_
    refine ms_icmp_ne mB_7 dX0_hasCode_19 (t := 24) rfl (fun c => ?_) (fun c => ?_)
    · have F := F.2 c
      refine ms_seq mB_7 mO_7 [(.iinc 2 1, 3)] (pc' := 27) (L' := [.ref 4, .int l1, .int (l2 + 1)]) (st' := []) ⟨dX0_hasCode_24, trivial⟩ rfl ?_
      refine ms_goto mB_7 dX0_hasCode_27 (t := 2) rfl ?_
      exact F
    · have F := F.1 c
      refine ms_seq mB_7 mO_7 [(.iconst 1, 1)] (pc' := 23) (L' := [.ref 4, .int l1, .int l2]) (st' := [.int 1]) ⟨dX0_hasCode_22, trivial⟩ rfl ?_
      exact ms_zret mB_7 dX0_hasCode_23 mR_7 (by decide) ⟨_, rfl, rfl, F⟩
set_option maxRecDepth 100000 in
theorem q0_add_0 {N d : Nat} (hd : 5 ≤ d) {p0 p1 p2 p3 : Int32} {δ : mi_D} {Q : Int32 → mi_D → Prop} (F : (∀ x1 : Int32, x1 = (δ.1 4 9) → (∀ δ2 : mi_D, δ2 = mi_pt δ 5 60 x1 p0 → (∀ δ3 : mi_D, δ3 = mi_pt δ2 6 60 x1 p1 → (∀ δ4 : mi_D, δ4 = mi_pt δ3 7 60 x1 p2 → ((p2 = (-1) → mi_wI N d 8 61 [.ref 4, .int p0, .int p1, .int p2, .int p3, .int x1] [.int 0, .int x1, .ref 8] δ4 Q) ∧ (¬ p2 = (-1) → mi_wI N d 8 61 [.ref 4, .int p0, .int p1, .int p2, .int p3, .int x1] [.int ((mi_at δ4 8 p2) + 1), .int x1, .ref 8] δ4 Q))))))) : mi_wI N d 8 0 [.ref 4, .int p0, .int p1, .int p2, .int p3, .null] [] δ Q := by
  unfold mi_wI
  refine ms_seq mB_8 mO_8 [(.aload_n 0, 1)] (pc' := 1) (L' := [.ref 4, .int p0, .int p1, .int p2, .int p3, .null]) (st' := [.ref 4]) ⟨dX0_add_0, trivial⟩ rfl ?_
  refine ms_getI mB_8 mO_8 dX0_add_1 mF_0_48 (gk_4 N) (Or.inl rfl) ?_
  refine mr_topi (fun x1 e_x1 => ?_)
  have F := F x1 e_x1
  refine ms_seq mB_8 mO_8 [(.istore 5, 2), (.aload_n 0, 1)] (pc' := 7) (L' := [.ref 4, .int p0, .int p1, .int p2, .int p3, .int x1]) (st' := [.ref 4]) ⟨dX0_add_4, dX0_add_6, trivial⟩ rfl ?_
  refine ms_getR mB_8 mO_8 dX0_add_7 mF_0_14 (gk_4 N) rfl (b := 5) (gr_4_0 N) ?_
  refine ms_seq mB_8 mO_8 [(.iload 5, 2), (.iload_n 1, 1)] (pc' := 13) (L' := [.ref 4, .int p0, .int p1, .int p2, .int p3, .int x1]) (st' := [.int p0, .int x1, .ref 5]) ⟨dX0_add_10, dX0_add_12, trivial⟩ rfl ?_
  refine ms_put mB_8 mO_8 (lim := 60) hd dX0_add_13 mQ_0_60 (Nat.le_of_ble_eq_true rfl) (gk_5 N) (gl_5 N) ?_
  refine mr_st (fun δ2 e_δ2 => ?_)
  have F := F δ2 e_δ2
  refine ms_seq mB_8 mO_8 [(.aload_n 0, 1)] (pc' := 17) (L' := [.ref 4, .int p0, .int p1, .int p2, .int p3, .int x1]) (st' := [.ref 4]) ⟨dX0_add_16, trivial⟩ rfl ?_
  refine ms_getR mB_8 mO_8 dX0_add_17 mF_0_20 (gk_4 N) rfl (b := 6) (gr_4_1 N) ?_
  refine ms_seq mB_8 mO_8 [(.iload 5, 2), (.iload_n 2, 1)] (pc' := 23) (L' := [.ref 4, .int p0, .int p1, .int p2, .int p3, .int x1]) (st' := [.int p1, .int x1, .ref 6]) ⟨dX0_add_20, dX0_add_22, trivial⟩ rfl ?_
  refine ms_put mB_8 mO_8 (lim := 60) hd dX0_add_23 mQ_0_60 (Nat.le_of_ble_eq_true rfl) (gk_6 N) (gl_6 N) ?_
  refine mr_st (fun δ3 e_δ3 => ?_)
  have F := F δ3 e_δ3
  refine ms_seq mB_8 mO_8 [(.aload_n 0, 1)] (pc' := 27) (L' := [.ref 4, .int p0, .int p1, .int p2, .int p3, .int x1]) (st' := [.ref 4]) ⟨dX0_add_26, trivial⟩ rfl ?_
  refine ms_getR mB_8 mO_8 dX0_add_27 mF_0_23 (gk_4 N) rfl (b := 7) (gr_4_2 N) ?_
  refine ms_seq mB_8 mO_8 [(.iload 5, 2), (.iload_n 3, 1)] (pc' := 33) (L' := [.ref 4, .int p0, .int p1, .int p2, .int p3, .int x1]) (st' := [.int p2, .int x1, .ref 7]) ⟨dX0_add_30, dX0_add_32, trivial⟩ rfl ?_
  refine ms_put mB_8 mO_8 (lim := 60) hd dX0_add_33 mQ_0_60 (Nat.le_of_ble_eq_true rfl) (gk_7 N) (gl_7 N) ?_
  refine mr_st (fun δ4 e_δ4 => ?_)
  have F := F δ4 e_δ4
  refine ms_seq mB_8 mO_8 [(.aload_n 0, 1)] (pc' := 37) (L' := [.ref 4, .int p0, .int p1, .int p2, .int p3, .int x1]) (st' := [.ref 4]) ⟨dX0_add_36, trivial⟩ rfl ?_
  refine ms_getR mB_8 mO_8 dX0_add_37 mF_0_26 (gk_4 N) rfl (b := 8) (gr_4_3 N) ?_
  refine ms_seq mB_8 mO_8 [(.iload 5, 2), (.iload_n 3, 1), (.iconst (-1), 1)] (pc' := 44) (L' := [.ref 4, .int p0, .int p1, .int p2, .int p3, .int x1]) (st' := [.int (-1), .int p2, .int x1, .ref 8]) ⟨dX0_add_40, dX0_add_42, dX0_add_43, trivial⟩ rfl ?_
  refine ms_icmp_ne mB_8 dX0_add_44 (t := 51) rfl (fun c => ?_) (fun c => ?_)
  · have F := F.2 c
    refine ms_seq mB_8 mO_8 [(.aload_n 0, 1)] (pc' := 52) (L' := [.ref 4, .int p0, .int p1, .int p2, .int p3, .int x1]) (st' := [.ref 4, .int x1, .ref 8]) ⟨dX0_add_51, trivial⟩ rfl ?_
    refine ms_getR mB_8 mO_8 dX0_add_52 mF_0_26 (gk_4 N) rfl (b := 8) (gr_4_3 N) ?_
    refine ms_seq mB_8 mO_8 [(.iload_n 3, 1)] (pc' := 56) (L' := [.ref 4, .int p0, .int p1, .int p2, .int p3, .int x1]) (st' := [.int p2, .ref 8, .int x1, .ref 8]) ⟨dX0_add_55, trivial⟩ rfl ?_
    refine ms_at mB_8 mO_8 hd dX0_add_56 mQ_0_56 (Nat.le_of_ble_eq_true rfl) (gk_8 N) (mi_ne (gl_8 N)) ?_
    refine ms_seq mB_8 mO_8 [(.iconst 1, 1), (.iadd, 1)] (pc' := 61) (L' := [.ref 4, .int p0, .int p1, .int p2, .int p3, .int x1]) (st' := [.int ((mi_at δ4 8 p2) + 1), .int x1, .ref 8]) ⟨dX0_add_59, dX0_add_60, trivial⟩ rfl ?_
    exact F
  · have F := F.1 c
    refine ms_seq mB_8 mO_8 [(.iconst 0, 1)] (pc' := 48) (L' := [.ref 4, .int p0, .int p1, .int p2, .int p3, .int x1]) (st' := [.int 0, .int x1, .ref 8]) ⟨dX0_add_47, trivial⟩ rfl ?_
    refine ms_goto mB_8 dX0_add_48 (t := 61) rfl ?_
    exact F
set_option maxRecDepth 100000 in
theorem q0_add_61 {N d : Nat} (hd : 5 ≤ d) {l1 l2 l3 l4 l5 s1 s2 : Int32} {δ : mi_D} {Q : Int32 → mi_D → Prop} (F : (∀ δ1 : mi_D, δ1 = mi_pt δ 8 60 s1 s2 → ((l4 = 0 → mi_wI N d 8 80 [.ref 4, .int l1, .int l2, .int l3, .int l4, .int l5] [.int 0, .int l5, .ref 12] δ1 Q) ∧ (¬ l4 = 0 → mi_wI N d 8 80 [.ref 4, .int l1, .int l2, .int l3, .int l4, .int l5] [.int 1, .int l5, .ref 12] δ1 Q)))) : mi_wI N d 8 61 [.ref 4, .int l1, .int l2, .int l3, .int l4, .int l5] [.int s2, .int s1, .ref 8] δ Q := by
  unfold mi_wI
  refine ms_put mB_8 mO_8 (lim := 60) hd dX0_add_61 mQ_0_60 (Nat.le_of_ble_eq_true rfl) (gk_8 N) (gl_8 N) ?_
  refine mr_st (fun δ1 e_δ1 => ?_)
  have F := F δ1 e_δ1
  refine ms_seq mB_8 mO_8 [(.aload_n 0, 1)] (pc' := 65) (L' := [.ref 4, .int l1, .int l2, .int l3, .int l4, .int l5]) (st' := [.ref 4]) ⟨dX0_add_64, trivial⟩ rfl ?_
  refine ms_getR mB_8 mO_8 dX0_add_65 mF_0_42 (gk_4 N) rfl (b := 12) (gr_4_7 N) ?_
  refine ms_seq mB_8 mO_8 [(.iload 5, 2), (.iload 4, 2)] (pc' := 72) (L' := [.ref 4, .int l1, .int l2, .int l3, .int l4, .int l5]) (st' := [.int l4, .int l5, .ref 12]) ⟨dX0_add_68, dX0_add_70, trivial⟩ rfl ?_
  refine ms_if_eq mB_8 dX0_add_72 (t := 79) rfl (fun c => ?_) (fun c => ?_)
  · have F := F.1 c
    refine ms_seq mB_8 mO_8 [(.iconst 0, 1)] (pc' := 80) (L' := [.ref 4, .int l1, .int l2, .int l3, .int l4, .int l5]) (st' := [.int 0, .int l5, .ref 12]) ⟨dX0_add_79, trivial⟩ rfl ?_
    exact F
  · have F := F.2 c
    refine ms_seq mB_8 mO_8 [(.iconst 1, 1)] (pc' := 76) (L' := [.ref 4, .int l1, .int l2, .int l3, .int l4, .int l5]) (st' := [.int 1, .int l5, .ref 12]) ⟨dX0_add_75, trivial⟩ rfl ?_
    refine ms_goto mB_8 dX0_add_76 (t := 80) rfl ?_
    exact F
set_option maxRecDepth 100000 in
theorem q0_add_80 {N d : Nat} (hd : 5 ≤ d) {l1 l2 l3 l4 l5 s1 s2 : Int32} {δ : mi_D} {Q : Int32 → mi_D → Prop} (F : (∀ δ1 : mi_D, δ1 = mi_pt δ 12 60 s1 s2 → (∀ δ2 : mi_D, δ2 = mi_pt δ1 13 60 l5 0 → (∀ δ3 : mi_D, δ3 = mi_pt δ2 9 60 l5 0 → (∀ δ4 : mi_D, δ4 = mi_pl δ3 11 60 l5 0 → (mi_wV N (d - 1) 9 0 [.ref 4, .int l5, .null] [] δ4 (fun δ5 => (∀ δ6 : mi_D, δ6 = mi_setI δ5 4 9 ((δ5.1 4 9) + 1) → Q l5 δ6)))))))) : mi_wI N d 8 80 [.ref 4, .int l1, .int l2, .int l3, .int l4, .int l5] [.int s2, .int s1, .ref 12] δ Q := by
  unfold mi_wI
  refine ms_put mB_8 mO_8 (lim := 60) hd dX0_add_80 mQ_0_60 (Nat.le_of_ble_eq_true rfl) (gk_12 N) (gl_12 N) ?_
  refine mr_st (fun δ1 e_δ1 => ?_)
  have F := F δ1 e_δ1
  refine ms_seq mB_8 mO_8 [(.aload_n 0, 1)] (pc' := 84) (L' := [.ref 4, .int l1, .int l2, .int l3, .int l4, .int l5]) (st' := [.ref 4]) ⟨dX0_add_83, trivial⟩ rfl ?_
  refine ms_getR mB_8 mO_8 dX0_add_84 mF_0_45 (gk_4 N) rfl (b := 13) (gr_4_8 N) ?_
  refine ms_seq mB_8 mO_8 [(.iload 5, 2), (.iconst 0, 1)] (pc' := 90) (L' := [.ref 4, .int l1, .int l2, .int l3, .int l4, .int l5]) (st' := [.int 0, .int l5, .ref 13]) ⟨dX0_add_87, dX0_add_89, trivial⟩ rfl ?_
  refine ms_put mB_8 mO_8 (lim := 60) hd dX0_add_90 mQ_0_60 (Nat.le_of_ble_eq_true rfl) (gk_13 N) (gl_13 N) ?_
  refine mr_st (fun δ2 e_δ2 => ?_)
  have F := F δ2 e_δ2
  refine ms_seq mB_8 mO_8 [(.aload_n 0, 1)] (pc' := 94) (L' := [.ref 4, .int l1, .int l2, .int l3, .int l4, .int l5]) (st' := [.ref 4]) ⟨dX0_add_93, trivial⟩ rfl ?_
  refine ms_getR mB_8 mO_8 dX0_add_94 mF_0_29 (gk_4 N) rfl (b := 9) (gr_4_4 N) ?_
  refine ms_seq mB_8 mO_8 [(.iload 5, 2), (.iconst 0, 1)] (pc' := 100) (L' := [.ref 4, .int l1, .int l2, .int l3, .int l4, .int l5]) (st' := [.int 0, .int l5, .ref 9]) ⟨dX0_add_97, dX0_add_99, trivial⟩ rfl ?_
  refine ms_put mB_8 mO_8 (lim := 60) hd dX0_add_100 mQ_0_60 (Nat.le_of_ble_eq_true rfl) (gk_9 N) (gl_9 N) ?_
  refine mr_st (fun δ3 e_δ3 => ?_)
  have F := F δ3 e_δ3
  refine ms_seq mB_8 mO_8 [(.aload_n 0, 1)] (pc' := 104) (L' := [.ref 4, .int l1, .int l2, .int l3, .int l4, .int l5]) (st' := [.ref 4]) ⟨dX0_add_103, trivial⟩ rfl ?_
  refine ms_getR mB_8 mO_8 dX0_add_104 mF_0_38 (gk_4 N) rfl (b := 11) (gr_4_6 N) ?_
  refine ms_seq mB_8 mO_8 [(.iload 5, 2), (.lconst 0, 1)] (pc' := 110) (L' := [.ref 4, .int l1, .int l2, .int l3, .int l4, .int l5]) (st' := [.long 0, .int l5, .ref 11]) ⟨dX0_add_107, dX0_add_109, trivial⟩ rfl ?_
  refine ms_pl mB_8 mO_8 (lim := 60) hd dX0_add_110 mQ_0_64 (Nat.le_of_ble_eq_true rfl) (gk_11 N) (gl_11 N) ?_
  refine mr_st (fun δ4 e_δ4 => ?_)
  have F := F δ4 e_δ4
  refine ms_seq mB_8 mO_8 [(.aload_n 0, 1), (.iload 5, 2)] (pc' := 116) (L' := [.ref 4, .int l1, .int l2, .int l3, .int l4, .int l5]) (st' := [.int l5, .ref 4]) ⟨dX0_add_113, dX0_add_114, trivial⟩ rfl ?_
  refine ms_callvV mB_8 mO_8 (by omega) dX0_add_116 mQ_0_67 mC_0_67 mL_9 mO_9 rfl (Nat.le_of_ble_eq_true rfl) (Nat.le_of_ble_eq_true rfl) (gk_4 N) rfl F (fun δ5 F => ?_)
  refine ms_seq mB_8 mO_8 [(.aload_n 0, 1), (.dup, 1)] (pc' := 121) (L' := [.ref 4, .int l1, .int l2, .int l3, .int l4, .int l5]) (st' := [.ref 4, .ref 4]) ⟨dX0_add_119, dX0_add_120, trivial⟩ rfl ?_
  refine ms_getI mB_8 mO_8 dX0_add_121 mF_0_48 (gk_4 N) (Or.inl rfl) ?_
  refine ms_seq mB_8 mO_8 [(.iconst 1, 1), (.iadd, 1)] (pc' := 126) (L' := [.ref 4, .int l1, .int l2, .int l3, .int l4, .int l5]) (st' := [.int ((δ5.1 4 9) + 1), .ref 4]) ⟨dX0_add_124, dX0_add_125, trivial⟩ rfl ?_
  refine ms_putI mB_8 mO_8 dX0_add_126 mF_0_48 (gk_4 N) rfl rfl ?_
  refine mr_st (fun δ6 e_δ6 => ?_)
  have F := F δ6 e_δ6
  refine ms_seq mB_8 mO_8 [(.iload 5, 2)] (pc' := 131) (L' := [.ref 4, .int l1, .int l2, .int l3, .int l4, .int l5]) (st' := [.int l5]) ⟨dX0_add_129, trivial⟩ rfl ?_
  exact ms_iret mB_8 dX0_add_131 mR_8 ⟨_, rfl, rfl, F⟩
set_option maxRecDepth 100000 in
theorem q0_putByCode_0 {N d : Nat} (hd : 5 ≤ d) {p0 : Int32} {δ : mi_D} {Q : mi_D → Prop} (F : (∀ x1 : Int32, x1 = (δ.1 4 9) → mi_wV N d 9 5 [.ref 4, .int p0, .int x1] [] δ Q)) : mi_wV N d 9 0 [.ref 4, .int p0, .null] [] δ Q := by
  unfold mi_wV
  refine ms_seq mB_9 mO_9 [(.aload_n 0, 1)] (pc' := 1) (L' := [.ref 4, .int p0, .null]) (st' := [.ref 4]) ⟨dX0_putByCode_0, trivial⟩ rfl ?_
  refine ms_getI mB_9 mO_9 dX0_putByCode_1 mF_0_48 (gk_4 N) (Or.inl rfl) ?_
  refine mr_topi (fun x1 e_x1 => ?_)
  have F := F x1 e_x1
  refine ms_seq mB_9 mO_9 [(.istore_n 2, 1)] (pc' := 5) (L' := [.ref 4, .int p0, .int x1]) (st' := []) ⟨dX0_putByCode_4, trivial⟩ rfl ?_
  exact F
set_option maxRecDepth 100000 in
theorem q0_putByCode_5 {N d : Nat} (hd : 5 ≤ d) {l1 l2 : Int32} {δ : mi_D} {Q : mi_D → Prop} (F : ((0 < l2 → (((mi_at δ 5 l1) < (mi_at δ 5 (mi_at δ 10 (l2 - 1))) → (∀ δ1 : mi_D, δ1 = mi_pt δ 10 60 l2 (mi_at δ 10 (l2 - 1)) → mi_wV N d 9 5 [.ref 4, .int l1, .int (l2 + (-1))] [] δ1 Q)) ∧ (¬ (mi_at δ 5 l1) < (mi_at δ 5 (mi_at δ 10 (l2 - 1))) → mi_wV N d 9 61 [.ref 4, .int l1, .int l2] [] δ Q))) ∧ (¬ 0 < l2 → mi_wV N d 9 61 [.ref 4, .int l1, .int l2] [] δ Q))) : mi_wV N d 9 5 [.ref 4, .int l1, .int l2] [] δ Q := by
  unfold mi_wV
  refine ms_seq mB_9 mO_9 [(.iload_n 2, 1)] (pc' := 6) (L' := [.ref 4, .int l1, .int l2]) (st' := [.int l2]) ⟨dX0_putByCode_5, trivial⟩ rfl ?_
  refine ms_if_le mB_9 dX0_putByCode_6 (t := 61) rfl (fun c => ?_) (fun c => ?_)
  · have F := F.2 c
    exact F
  · have F := F.1 c
    refine ms_seq mB_9 mO_9 [(.aload_n 0, 1)] (pc' := 10) (L' := [.ref 4, .int l1, .int l2]) (st' := [.ref 4]) ⟨dX0_putByCode_9, trivial⟩ rfl ?_
    refine ms_getR mB_9 mO_9 dX0_putByCode_10 mF_0_14 (gk_4 N) rfl (b := 5) (gr_4_0 N) ?_
    refine ms_seq mB_9 mO_9 [(.aload_n 0, 1)] (pc' := 14) (L' := [.ref 4, .int l1, .int l2]) (st' := [.ref 4, .ref 5]) ⟨dX0_putByCode_13, trivial⟩ rfl ?_
    refine ms_getR mB_9 mO_9 dX0_putByCode_14 mF_0_32 (gk_4 N) rfl (b := 10) (gr_4_5 N) ?_
    refine ms_seq mB_9 mO_9 [(.iload_n 2, 1), (.iconst 1, 1), (.isub, 1)] (pc' := 20) (L' := [.ref 4, .int l1, .int l2]) (st' := [.int (l2 - 1), .ref 10, .ref 5]) ⟨dX0_putByCode_17, dX0_putByCode_18, dX0_putByCode_19, trivial⟩ rfl ?_
    refine ms_at mB_9 mO_9 hd dX0_putByCode_20 mQ_0_56 (Nat.le_of_ble_eq_true rfl) (gk_10 N) (mi_ne (gl_10 N)) ?_
    refine ms_at mB_9 mO_9 hd dX0_putByCode_23 mQ_0_56 (Nat.le_of_ble_eq_true rfl) (gk_5 N) (mi_ne (gl_5 N)) ?_
    refine ms_seq mB_9 mO_9 [(.aload_n 0, 1)] (pc' := 27) (L' := [.ref 4, .int l1, .int l2]) (st' := [.ref 4, .int (mi_at δ 5 (mi_at δ 10 (l2 - 1)))]) ⟨dX0_putByCode_26, trivial⟩ rfl ?_
    refine ms_getR mB_9 mO_9 dX0_putByCode_27 mF_0_14 (gk_4 N) rfl (b := 5) (gr_4_0 N) ?_
    refine ms_seq mB_9 mO_9 [(.iload_n 1, 1)] (pc' := 31) (L' := [.ref 4, .int l1, .int l2]) (st' := [.int l1, .ref 5, .int (mi_at δ 5 (mi_at δ 10 (l2 - 1)))]) ⟨dX0_putByCode_30, trivial⟩ rfl ?_
    refine ms_at mB_9 mO_9 hd dX0_putByCode_31 mQ_0_56 (Nat.le_of_ble_eq_true rfl) (gk_5 N) (mi_ne (gl_5 N)) ?_
    refine ms_icmp_le mB_9 dX0_putByCode_34 (t := 61) rfl (fun c => ?_) (fun c => ?_)
    · have F := F.2 c
      exact F
    · have F := F.1 c
      refine ms_seq mB_9 mO_9 [(.aload_n 0, 1)] (pc' := 38) (L' := [.ref 4, .int l1, .int l2]) (st' := [.ref 4]) ⟨dX0_putByCode_37, trivial⟩ rfl ?_
      refine ms_getR mB_9 mO_9 dX0_putByCode_38 mF_0_32 (gk_4 N) rfl (b := 10) (gr_4_5 N) ?_
      refine ms_seq mB_9 mO_9 [(.iload_n 2, 1), (.aload_n 0, 1)] (pc' := 43) (L' := [.ref 4, .int l1, .int l2]) (st' := [.ref 4, .int l2, .ref 10]) ⟨dX0_putByCode_41, dX0_putByCode_42, trivial⟩ rfl ?_
      refine ms_getR mB_9 mO_9 dX0_putByCode_43 mF_0_32 (gk_4 N) rfl (b := 10) (gr_4_5 N) ?_
      refine ms_seq mB_9 mO_9 [(.iload_n 2, 1), (.iconst 1, 1), (.isub, 1)] (pc' := 49) (L' := [.ref 4, .int l1, .int l2]) (st' := [.int (l2 - 1), .ref 10, .int l2, .ref 10]) ⟨dX0_putByCode_46, dX0_putByCode_47, dX0_putByCode_48, trivial⟩ rfl ?_
      refine ms_at mB_9 mO_9 hd dX0_putByCode_49 mQ_0_56 (Nat.le_of_ble_eq_true rfl) (gk_10 N) (mi_ne (gl_10 N)) ?_
      refine ms_put mB_9 mO_9 (lim := 60) hd dX0_putByCode_52 mQ_0_60 (Nat.le_of_ble_eq_true rfl) (gk_10 N) (gl_10 N) ?_
      refine mr_st (fun δ1 e_δ1 => ?_)
      have F := F δ1 e_δ1
      refine ms_seq mB_9 mO_9 [(.iinc 2 (-1), 3)] (pc' := 58) (L' := [.ref 4, .int l1, .int (l2 + (-1))]) (st' := []) ⟨dX0_putByCode_55, trivial⟩ rfl ?_
      refine ms_goto mB_9 dX0_putByCode_58 (t := 5) rfl ?_
      exact F
set_option maxRecDepth 100000 in
theorem q0_putByCode_61 {N d : Nat} (hd : 5 ≤ d) {l1 l2 : Int32} {δ : mi_D} {Q : mi_D → Prop} (F : (∀ δ1 : mi_D, δ1 = mi_pt δ 10 60 l2 l1 → Q δ1)) : mi_wV N d 9 61 [.ref 4, .int l1, .int l2] [] δ Q := by
  unfold mi_wV
  refine ms_seq mB_9 mO_9 [(.aload_n 0, 1)] (pc' := 62) (L' := [.ref 4, .int l1, .int l2]) (st' := [.ref 4]) ⟨dX0_putByCode_61, trivial⟩ rfl ?_
  refine ms_getR mB_9 mO_9 dX0_putByCode_62 mF_0_32 (gk_4 N) rfl (b := 10) (gr_4_5 N) ?_
  refine ms_seq mB_9 mO_9 [(.iload_n 2, 1), (.iload_n 1, 1)] (pc' := 67) (L' := [.ref 4, .int l1, .int l2]) (st' := [.int l1, .int l2, .ref 10]) ⟨dX0_putByCode_65, dX0_putByCode_66, trivial⟩ rfl ?_
  refine ms_put mB_9 mO_9 (lim := 60) hd dX0_putByCode_67 mQ_0_60 (Nat.le_of_ble_eq_true rfl) (gk_10 N) (gl_10 N) ?_
  refine mr_st (fun δ1 e_δ1 => ?_)
  have F := F δ1 e_δ1
  exact ms_vret mB_9 dX0_putByCode_70 mR_9 ⟨rfl, rfl, F⟩
set_option maxRecDepth 100000 in
theorem q0_enterLine_0 {N d : Nat} (hd : 5 ≤ d) {p0 : Int32} {p1 : Int64} {δ : mi_D} {Q : mi_D → Prop} (F : (∀ δ1 : mi_D, δ1 = mi_pl δ 11 60 p0 ((mi_al δ 11 p0) + p1) → (∀ δ2 : mi_D, δ2 = mi_pt δ1 9 60 p0 ((mi_at δ1 9 p0) + 1) → Q δ2))) : mi_wV N d 10 0 [.ref 4, .int p0, .long p1, .null] [] δ Q := by
  unfold mi_wV
  refine ms_seq mB_10 mO_10 [(.aload_n 0, 1)] (pc' := 1) (L' := [.ref 4, .int p0, .long p1, .null]) (st' := [.ref 4]) ⟨dX0_enterLine_0, trivial⟩ rfl ?_
  refine ms_getR mB_10 mO_10 dX0_enterLine_1 mF_0_38 (gk_4 N) rfl (b := 11) (gr_4_6 N) ?_
  refine ms_seq mB_10 mO_10 [(.iload_n 1, 1), (.aload_n 0, 1)] (pc' := 6) (L' := [.ref 4, .int p0, .long p1, .null]) (st' := [.ref 4, .int p0, .ref 11]) ⟨dX0_enterLine_4, dX0_enterLine_5, trivial⟩ rfl ?_
  refine ms_getR mB_10 mO_10 dX0_enterLine_6 mF_0_38 (gk_4 N) rfl (b := 11) (gr_4_6 N) ?_
  refine ms_seq mB_10 mO_10 [(.iload_n 1, 1)] (pc' := 10) (L' := [.ref 4, .int p0, .long p1, .null]) (st' := [.int p0, .ref 11, .int p0, .ref 11]) ⟨dX0_enterLine_9, trivial⟩ rfl ?_
  refine ms_al mB_10 mO_10 hd dX0_enterLine_10 mQ_0_70 (Nat.le_of_ble_eq_true rfl) (gk_11 N) (mi_ne (gl_11 N)) ?_
  refine ms_seq mB_10 mO_10 [(.lload_n 2, 1), (.ladd, 1)] (pc' := 15) (L' := [.ref 4, .int p0, .long p1, .null]) (st' := [.long ((mi_al δ 11 p0) + p1), .int p0, .ref 11]) ⟨dX0_enterLine_13, dX0_enterLine_14, trivial⟩ rfl ?_
  refine ms_pl mB_10 mO_10 (lim := 60) hd dX0_enterLine_15 mQ_0_64 (Nat.le_of_ble_eq_true rfl) (gk_11 N) (gl_11 N) ?_
  refine mr_st (fun δ1 e_δ1 => ?_)
  have F := F δ1 e_δ1
  refine ms_seq mB_10 mO_10 [(.aload_n 0, 1)] (pc' := 19) (L' := [.ref 4, .int p0, .long p1, .null]) (st' := [.ref 4]) ⟨dX0_enterLine_18, trivial⟩ rfl ?_
  refine ms_getR mB_10 mO_10 dX0_enterLine_19 mF_0_29 (gk_4 N) rfl (b := 9) (gr_4_4 N) ?_
  refine ms_seq mB_10 mO_10 [(.iload_n 1, 1), (.aload_n 0, 1)] (pc' := 24) (L' := [.ref 4, .int p0, .long p1, .null]) (st' := [.ref 4, .int p0, .ref 9]) ⟨dX0_enterLine_22, dX0_enterLine_23, trivial⟩ rfl ?_
  refine ms_getR mB_10 mO_10 dX0_enterLine_24 mF_0_29 (gk_4 N) rfl (b := 9) (gr_4_4 N) ?_
  refine ms_seq mB_10 mO_10 [(.iload_n 1, 1)] (pc' := 28) (L' := [.ref 4, .int p0, .long p1, .null]) (st' := [.int p0, .ref 9, .int p0, .ref 9]) ⟨dX0_enterLine_27, trivial⟩ rfl ?_
  refine ms_at mB_10 mO_10 hd dX0_enterLine_28 mQ_0_56 (Nat.le_of_ble_eq_true rfl) (gk_9 N) (mi_ne (gl_9 N)) ?_
  refine ms_seq mB_10 mO_10 [(.iconst 1, 1), (.iadd, 1)] (pc' := 33) (L' := [.ref 4, .int p0, .long p1, .null]) (st' := [.int ((mi_at δ1 9 p0) + 1), .int p0, .ref 9]) ⟨dX0_enterLine_31, dX0_enterLine_32, trivial⟩ rfl ?_
  refine ms_put mB_10 mO_10 (lim := 60) hd dX0_enterLine_33 mQ_0_60 (Nat.le_of_ble_eq_true rfl) (gk_9 N) (gl_9 N) ?_
  refine mr_st (fun δ2 e_δ2 => ?_)
  have F := F δ2 e_δ2
  exact ms_vret mB_10 dX0_enterLine_36 mR_10 ⟨rfl, rfl, F⟩
set_option maxRecDepth 100000 in
theorem q0_totalUnder_0 {N d : Nat} (hd : 5 ≤ d) {rw rlim : Nat} (hk_rw : mi_k (mi_GG N) rw = 6) (hl_rw : mi_len (mi_GG N) rw = rlim + 1) {p0 : Int32} {δ : mi_D} {Q : Int64 → mi_D → Prop} (F : (mi_wI N (d - 1) 3 0 [.ref 4, .int p0] [] δ (fun r2 δ1 => ((r2 = 0 → mi_wL N d 11 19 [.ref 4, .int p0, .ref rw, .long 0, .null, .int 0] [] δ1 Q) ∧ (¬ r2 = 0 → Q (mi_al δ1 rw p0) δ1))))) : mi_wL N d 11 0 [.ref 4, .int p0, .ref rw, .null, .null, .null] [] δ Q := by
  unfold mi_wL
  refine ms_seq mB_11 mO_11 [(.aload_n 0, 1), (.iload_n 1, 1)] (pc' := 2) (L' := [.ref 4, .int p0, .ref rw, .null, .null, .null]) (st' := [.int p0, .ref 4]) ⟨dX0_totalUnder_0, dX0_totalUnder_1, trivial⟩ rfl ?_
  refine ms_callvI mB_11 mO_11 (by omega) dX0_totalUnder_2 mQ_0_73 mC_0_73 mL_3 mO_3 rfl (Nat.le_of_ble_eq_true rfl) (Nat.le_of_ble_eq_true rfl) (gk_4 N) rfl F (fun r2 δ1 F => ?_)
  refine ms_if_eq mB_11 dX0_totalUnder_5 (t := 14) rfl (fun c => ?_) (fun c => ?_)
  · have F := F.1 c
    refine ms_seq mB_11 mO_11 [(.lconst 0, 1), (.lstore_n 3, 1), (.iconst 0, 1), (.istore 5, 2)] (pc' := 19) (L' := [.ref 4, .int p0, .ref rw, .long 0, .null, .int 0]) (st' := []) ⟨dX0_totalUnder_14, dX0_totalUnder_15, dX0_totalUnder_16, dX0_totalUnder_17, trivial⟩ rfl ?_
    exact F
  · have F := F.2 c
    refine ms_seq mB_11 mO_11 [(.aload_n 2, 1), (.iload_n 1, 1)] (pc' := 10) (L' := [.ref 4, .int p0, .ref rw, .null, .null, .null]) (st' := [.int p0, .ref rw]) ⟨dX0_totalUnder_8, dX0_totalUnder_9, trivial⟩ rfl ?_
    refine ms_al mB_11 mO_11 hd dX0_totalUnder_10 mQ_0_70 (Nat.le_of_ble_eq_true rfl) (hk_rw) (mi_ne (hl_rw)) ?_
    exact ms_lret mB_11 dX0_totalUnder_13 mR_11 ⟨_, rfl, rfl, F⟩
set_option maxRecDepth 100000 in
theorem q0_totalUnder_19 {N d : Nat} (hd : 5 ≤ d) {rw rlim : Nat} (hk_rw : mi_k (mi_GG N) rw = 6) (hl_rw : mi_len (mi_GG N) rw = rlim + 1) {l1 l5 : Int32} {l3 : Int64} {δ : mi_D} {Q : Int64 → mi_D → Prop} (F : ((l5 < (δ.1 4 9) → (mi_wI N (d - 1) 3 0 [.ref 4, .int l5] [] δ (fun r2 δ1 => ((r2 = 0 → mi_wL N d 11 19 [.ref 4, .int l1, .ref rw, .long l3, .null, .int (l5 + 1)] [] δ1 Q) ∧ (¬ r2 = 0 → (mi_wI N (d - 1) 12 0 [.ref 4, .int l5, .int l1, .null, .null] [] δ1 (fun r4 δ3 => ((r4 = 0 → mi_wL N d 11 19 [.ref 4, .int l1, .ref rw, .long l3, .null, .int (l5 + 1)] [] δ3 Q) ∧ (¬ r4 = 0 → (∀ x5 : Int64, x5 = (l3 + (mi_al δ3 rw l5)) → mi_wL N d 11 19 [.ref 4, .int l1, .ref rw, .long x5, .null, .int (l5 + 1)] [] δ3 Q)))))))))) ∧ (¬ l5 < (δ.1 4 9) → Q l3 δ))) : mi_wL N d 11 19 [.ref 4, .int l1, .ref rw, .long l3, .null, .int l5] [] δ Q := by
  unfold mi_wL
  refine ms_seq mB_11 mO_11 [(.iload 5, 2), (.aload_n 0, 1)] (pc' := 22) (L' := [.ref 4, .int l1, .ref rw, .long l3, .null, .int l5]) (st' := [.ref 4, .int l5]) ⟨dX0_totalUnder_19, dX0_totalUnder_21, trivial⟩ rfl ?_
  refine ms_getI mB_11 mO_11 dX0_totalUnder_22 mF_0_48 (gk_4 N) (Or.inl rfl) ?_
  refine ms_icmp_ge mB_11 dX0_totalUnder_25 (t := 62) rfl (fun c => ?_) (fun c => ?_)
  · have F := F.2 c
    refine ms_seq mB_11 mO_11 [(.lload_n 3, 1)] (pc' := 63) (L' := [.ref 4, .int l1, .ref rw, .long l3, .null, .int l5]) (st' := [.long l3]) ⟨dX0_totalUnder_62, trivial⟩ rfl ?_
    exact ms_lret mB_11 dX0_totalUnder_63 mR_11 ⟨_, rfl, rfl, F⟩
  · have F := F.1 c
    refine ms_seq mB_11 mO_11 [(.aload_n 0, 1), (.iload 5, 2)] (pc' := 31) (L' := [.ref 4, .int l1, .ref rw, .long l3, .null, .int l5]) (st' := [.int l5, .ref 4]) ⟨dX0_totalUnder_28, dX0_totalUnder_29, trivial⟩ rfl ?_
    refine ms_callvI mB_11 mO_11 (by omega) dX0_totalUnder_31 mQ_0_73 mC_0_73 mL_3 mO_3 rfl (Nat.le_of_ble_eq_true rfl) (Nat.le_of_ble_eq_true rfl) (gk_4 N) rfl F (fun r2 δ1 F => ?_)
    refine ms_if_eq mB_11 dX0_totalUnder_34 (t := 56) rfl (fun c => ?_) (fun c => ?_)
    · have F := F.1 c
      refine ms_seq mB_11 mO_11 [(.iinc 5 1, 3)] (pc' := 59) (L' := [.ref 4, .int l1, .ref rw, .long l3, .null, .int (l5 + 1)]) (st' := []) ⟨dX0_totalUnder_56, trivial⟩ rfl ?_
      refine ms_goto mB_11 dX0_totalUnder_59 (t := 19) rfl ?_
      exact F
    · have F := F.2 c
      refine ms_seq mB_11 mO_11 [(.aload_n 0, 1), (.iload 5, 2), (.iload_n 1, 1)] (pc' := 41) (L' := [.ref 4, .int l1, .ref rw, .long l3, .null, .int l5]) (st' := [.int l1, .int l5, .ref 4]) ⟨dX0_totalUnder_37, dX0_totalUnder_38, dX0_totalUnder_40, trivial⟩ rfl ?_
      refine ms_callvI mB_11 mO_11 (by omega) dX0_totalUnder_41 mQ_0_76 mC_0_76 mL_12 mO_12 rfl (Nat.le_of_ble_eq_true rfl) (Nat.le_of_ble_eq_true rfl) (gk_4 N) rfl F (fun r4 δ3 F => ?_)
      refine ms_if_eq mB_11 dX0_totalUnder_44 (t := 56) rfl (fun c => ?_) (fun c => ?_)
      · have F := F.1 c
        refine ms_seq mB_11 mO_11 [(.iinc 5 1, 3)] (pc' := 59) (L' := [.ref 4, .int l1, .ref rw, .long l3, .null, .int (l5 + 1)]) (st' := []) ⟨dX0_totalUnder_56, trivial⟩ rfl ?_
        refine ms_goto mB_11 dX0_totalUnder_59 (t := 19) rfl ?_
        exact F
      · have F := F.2 c
        refine ms_seq mB_11 mO_11 [(.lload_n 3, 1), (.aload_n 2, 1), (.iload 5, 2)] (pc' := 51) (L' := [.ref 4, .int l1, .ref rw, .long l3, .null, .int l5]) (st' := [.int l5, .ref rw, .long l3]) ⟨dX0_totalUnder_47, dX0_totalUnder_48, dX0_totalUnder_49, trivial⟩ rfl ?_
        refine ms_al mB_11 mO_11 hd dX0_totalUnder_51 mQ_0_70 (Nat.le_of_ble_eq_true rfl) (hk_rw) (mi_ne (hl_rw)) ?_
        refine ms_seq mB_11 mO_11 [(.ladd, 1)] (pc' := 55) (L' := [.ref 4, .int l1, .ref rw, .long l3, .null, .int l5]) (st' := [.long (l3 + (mi_al δ3 rw l5))]) ⟨dX0_totalUnder_54, trivial⟩ rfl ?_
        refine mr_topl (fun x5 e_x5 => ?_)
        have F := F x5 e_x5
        refine ms_seq mB_11 mO_11 [(.lstore_n 3, 1), (.iinc 5 1, 3)] (pc' := 59) (L' := [.ref 4, .int l1, .ref rw, .long x5, .null, .int (l5 + 1)]) (st' := []) ⟨dX0_totalUnder_55, dX0_totalUnder_56, trivial⟩ rfl ?_
        refine ms_goto mB_11 dX0_totalUnder_59 (t := 19) rfl ?_
        exact F
set_option maxRecDepth 100000 in
theorem q0_isUnder_0 {N d : Nat} (hd : 5 ≤ d) {p0 p1 : Int32} {δ : mi_D} {Q : Int32 → mi_D → Prop} (F : (∀ x1 : Int32, x1 = (mi_at δ 7 p0) → mi_wI N d 12 12 [.ref 4, .int p0, .int p1, .int x1, .int 0] [] δ Q)) : mi_wI N d 12 0 [.ref 4, .int p0, .int p1, .null, .null] [] δ Q := by
  unfold mi_wI
  refine ms_seq mB_12 mO_12 [(.aload_n 0, 1)] (pc' := 1) (L' := [.ref 4, .int p0, .int p1, .null, .null]) (st' := [.ref 4]) ⟨dX0_isUnder_0, trivial⟩ rfl ?_
  refine ms_getR mB_12 mO_12 dX0_isUnder_1 mF_0_23 (gk_4 N) rfl (b := 7) (gr_4_2 N) ?_
  refine ms_seq mB_12 mO_12 [(.iload_n 1, 1)] (pc' := 5) (L' := [.ref 4, .int p0, .int p1, .null, .null]) (st' := [.int p0, .ref 7]) ⟨dX0_isUnder_4, trivial⟩ rfl ?_
  refine ms_at mB_12 mO_12 hd dX0_isUnder_5 mQ_0_56 (Nat.le_of_ble_eq_true rfl) (gk_7 N) (mi_ne (gl_7 N)) ?_
  refine mr_topi (fun x1 e_x1 => ?_)
  have F := F x1 e_x1
  refine ms_seq mB_12 mO_12 [(.istore_n 3, 1), (.iconst 0, 1), (.istore 4, 2)] (pc' := 12) (L' := [.ref 4, .int p0, .int p1, .int x1, .int 0]) (st' := []) ⟨dX0_isUnder_8, dX0_isUnder_9, dX0_isUnder_10, trivial⟩ rfl ?_
  exact F
set_option maxRecDepth 100000 in
theorem q0_isUnder_12 {N d : Nat} (hd : 5 ≤ d) {l1 l2 l3 l4 : Int32} {δ : mi_D} {Q : Int32 → mi_D → Prop} (F : ((l4 < 5 → ((l3 = (-1) → Q 0 δ) ∧ (¬ l3 = (-1) → ((l3 = l2 → Q 1 δ) ∧ (¬ l3 = l2 → (∀ x1 : Int32, x1 = (mi_at δ 7 l3) → mi_wI N d 12 12 [.ref 4, .int l1, .int l2, .int x1, .int (l4 + 1)] [] δ Q)))))) ∧ (¬ l4 < 5 → Q 0 δ))) : mi_wI N d 12 12 [.ref 4, .int l1, .int l2, .int l3, .int l4] [] δ Q := by
  unfold mi_wI
  refine ms_seq mB_12 mO_12 [(.iload 4, 2), (.iconst 5, 1)] (pc' := 15) (L' := [.ref 4, .int l1, .int l2, .int l3, .int l4]) (st' := [.int 5, .int l4]) ⟨dX0_isUnder_12, dX0_isUnder_14, trivial⟩ rfl ?_
  refine ms_icmp_ge mB_12 dX0_isUnder_15 (t := 45) rfl (fun c => ?_) (fun c => ?_)
  · have F := F.2 c
    refine ms_seq mB_12 mO_12 [(.iconst 0, 1)] (pc' := 46) (L' := [.ref 4, .int l1, .int l2, .int l3, .int l4]) (st' := [.int 0]) ⟨dX0_isUnder_45, trivial⟩ rfl ?_
    exact ms_zret mB_12 dX0_isUnder_46 mR_12 (by decide) ⟨_, rfl, rfl, F⟩
  · have F := F.1 c
    refine ms_seq mB_12 mO_12 [(.iload_n 3, 1), (.iconst (-1), 1)] (pc' := 20) (L' := [.ref 4, .int l1, .int l2, .int l3, .int l4]) (st' := [.int (-1), .int l3]) ⟨dX0_isUnder_18, dX0_isUnder_19, trivial⟩ rfl ?_
    refine ms_icmp_eq mB_12 dX0_isUnder_20 (t := 45) rfl (fun c => ?_) (fun c => ?_)
    · have F := F.1 c
      refine ms_seq mB_12 mO_12 [(.iconst 0, 1)] (pc' := 46) (L' := [.ref 4, .int l1, .int l2, .int l3, .int l4]) (st' := [.int 0]) ⟨dX0_isUnder_45, trivial⟩ rfl ?_
      exact ms_zret mB_12 dX0_isUnder_46 mR_12 (by decide) ⟨_, rfl, rfl, F⟩
    · have F := F.2 c
      refine ms_seq mB_12 mO_12 [(.iload_n 3, 1), (.iload_n 2, 1)] (pc' := 25) (L' := [.ref 4, .int l1, .int l2, .int l3, .int l4]) (st' := [.int l2, .int l3]) ⟨dX0_isUnder_23, dX0_isUnder_24, trivial⟩ rfl ?_
      refine ms_icmp_ne mB_12 dX0_isUnder_25 (t := 30) rfl (fun c => ?_) (fun c => ?_)
      · have F := F.2 c
        refine ms_seq mB_12 mO_12 [(.aload_n 0, 1)] (pc' := 31) (L' := [.ref 4, .int l1, .int l2, .int l3, .int l4]) (st' := [.ref 4]) ⟨dX0_isUnder_30, trivial⟩ rfl ?_
        refine ms_getR mB_12 mO_12 dX0_isUnder_31 mF_0_23 (gk_4 N) rfl (b := 7) (gr_4_2 N) ?_
        refine ms_seq mB_12 mO_12 [(.iload_n 3, 1)] (pc' := 35) (L' := [.ref 4, .int l1, .int l2, .int l3, .int l4]) (st' := [.int l3, .ref 7]) ⟨dX0_isUnder_34, trivial⟩ rfl ?_
        refine ms_at mB_12 mO_12 hd dX0_isUnder_35 mQ_0_56 (Nat.le_of_ble_eq_true rfl) (gk_7 N) (mi_ne (gl_7 N)) ?_
        refine mr_topi (fun x1 e_x1 => ?_)
        have F := F x1 e_x1
        refine ms_seq mB_12 mO_12 [(.istore_n 3, 1), (.iinc 4 1, 3)] (pc' := 42) (L' := [.ref 4, .int l1, .int l2, .int x1, .int (l4 + 1)]) (st' := []) ⟨dX0_isUnder_38, dX0_isUnder_39, trivial⟩ rfl ?_
        refine ms_goto mB_12 dX0_isUnder_42 (t := 12) rfl ?_
        exact F
      · have F := F.1 c
        refine ms_seq mB_12 mO_12 [(.iconst 1, 1)] (pc' := 29) (L' := [.ref 4, .int l1, .int l2, .int l3, .int l4]) (st' := [.int 1]) ⟨dX0_isUnder_28, trivial⟩ rfl ?_
        exact ms_zret mB_12 dX0_isUnder_29 mR_12 (by decide) ⟨_, rfl, rfl, F⟩
set_option maxRecDepth 100000 in
theorem q0_totalOfKind_0 {N d : Nat} (hd : 5 ≤ d) {p0 : Int32} {δ : mi_D} {Q : Int64 → mi_D → Prop} (F : mi_wL N d 13 5 [.ref 4, .int p0, .long 0, .null, .int 0] [] δ Q) : mi_wL N d 13 0 [.ref 4, .int p0, .null, .null, .null] [] δ Q := by
  unfold mi_wL
  refine ms_seq mB_13 mO_13 [(.lconst 0, 1), (.lstore_n 2, 1), (.iconst 0, 1), (.istore 4, 2)] (pc' := 5) (L' := [.ref 4, .int p0, .long 0, .null, .int 0]) (st' := []) ⟨dX0_totalOfKind_0, dX0_totalOfKind_1, dX0_totalOfKind_2, dX0_totalOfKind_3, trivial⟩ rfl ?_
  exact F
set_option maxRecDepth 100000 in
theorem q0_totalOfKind_5 {N d : Nat} (hd : 5 ≤ d) {l1 l4 : Int32} {l2 : Int64} {δ : mi_D} {Q : Int64 → mi_D → Prop} (F : ((l4 < (δ.1 4 9) → (mi_wI N (d - 1) 3 0 [.ref 4, .int l4] [] δ (fun r2 δ1 => ((r2 = 0 → mi_wL N d 13 5 [.ref 4, .int l1, .long l2, .null, .int (l4 + 1)] [] δ1 Q) ∧ (¬ r2 = 0 → (((mi_at δ1 6 l4) = l1 → (∀ x3 : Int64, x3 = (l2 + (mi_al δ1 11 l4)) → mi_wL N d 13 5 [.ref 4, .int l1, .long x3, .null, .int (l4 + 1)] [] δ1 Q)) ∧ (¬ (mi_at δ1 6 l4) = l1 → mi_wL N d 13 5 [.ref 4, .int l1, .long l2, .null, .int (l4 + 1)] [] δ1 Q))))))) ∧ (¬ l4 < (δ.1 4 9) → Q l2 δ))) : mi_wL N d 13 5 [.ref 4, .int l1, .long l2, .null, .int l4] [] δ Q := by
  unfold mi_wL
  refine ms_seq mB_13 mO_13 [(.iload 4, 2), (.aload_n 0, 1)] (pc' := 8) (L' := [.ref 4, .int l1, .long l2, .null, .int l4]) (st' := [.ref 4, .int l4]) ⟨dX0_totalOfKind_5, dX0_totalOfKind_7, trivial⟩ rfl ?_
  refine ms_getI mB_13 mO_13 dX0_totalOfKind_8 mF_0_48 (gk_4 N) (Or.inl rfl) ?_
  refine ms_icmp_ge mB_13 dX0_totalOfKind_11 (t := 54) rfl (fun c => ?_) (fun c => ?_)
  · have F := F.2 c
    refine ms_seq mB_13 mO_13 [(.lload_n 2, 1)] (pc' := 55) (L' := [.ref 4, .int l1, .long l2, .null, .int l4]) (st' := [.long l2]) ⟨dX0_totalOfKind_54, trivial⟩ rfl ?_
    exact ms_lret mB_13 dX0_totalOfKind_55 mR_13 ⟨_, rfl, rfl, F⟩
  · have F := F.1 c
    refine ms_seq mB_13 mO_13 [(.aload_n 0, 1), (.iload 4, 2)] (pc' := 17) (L' := [.ref 4, .int l1, .long l2, .null, .int l4]) (st' := [.int l4, .ref 4]) ⟨dX0_totalOfKind_14, dX0_totalOfKind_15, trivial⟩ rfl ?_
    refine ms_callvI mB_13 mO_13 (by omega) dX0_totalOfKind_17 mQ_0_73 mC_0_73 mL_3 mO_3 rfl (Nat.le_of_ble_eq_true rfl) (Nat.le_of_ble_eq_true rfl) (gk_4 N) rfl F (fun r2 δ1 F => ?_)
    refine ms_if_eq mB_13 dX0_totalOfKind_20 (t := 48) rfl (fun c => ?_) (fun c => ?_)
    · have F := F.1 c
      refine ms_seq mB_13 mO_13 [(.iinc 4 1, 3)] (pc' := 51) (L' := [.ref 4, .int l1, .long l2, .null, .int (l4 + 1)]) (st' := []) ⟨dX0_totalOfKind_48, trivial⟩ rfl ?_
      refine ms_goto mB_13 dX0_totalOfKind_51 (t := 5) rfl ?_
      exact F
    · have F := F.2 c
      refine ms_seq mB_13 mO_13 [(.aload_n 0, 1)] (pc' := 24) (L' := [.ref 4, .int l1, .long l2, .null, .int l4]) (st' := [.ref 4]) ⟨dX0_totalOfKind_23, trivial⟩ rfl ?_
      refine ms_getR mB_13 mO_13 dX0_totalOfKind_24 mF_0_20 (gk_4 N) rfl (b := 6) (gr_4_1 N) ?_
      refine ms_seq mB_13 mO_13 [(.iload 4, 2)] (pc' := 29) (L' := [.ref 4, .int l1, .long l2, .null, .int l4]) (st' := [.int l4, .ref 6]) ⟨dX0_totalOfKind_27, trivial⟩ rfl ?_
      refine ms_at mB_13 mO_13 hd dX0_totalOfKind_29 mQ_0_56 (Nat.le_of_ble_eq_true rfl) (gk_6 N) (mi_ne (gl_6 N)) ?_
      refine ms_seq mB_13 mO_13 [(.iload_n 1, 1)] (pc' := 33) (L' := [.ref 4, .int l1, .long l2, .null, .int l4]) (st' := [.int l1, .int (mi_at δ1 6 l4)]) ⟨dX0_totalOfKind_32, trivial⟩ rfl ?_
      refine ms_icmp_ne mB_13 dX0_totalOfKind_33 (t := 48) rfl (fun c => ?_) (fun c => ?_)
      · have F := F.2 c
        refine ms_seq mB_13 mO_13 [(.iinc 4 1, 3)] (pc' := 51) (L' := [.ref 4, .int l1, .long l2, .null, .int (l4 + 1)]) (st' := []) ⟨dX0_totalOfKind_48, trivial⟩ rfl ?_
        refine ms_goto mB_13 dX0_totalOfKind_51 (t := 5) rfl ?_
        exact F
      · have F := F.1 c
        refine ms_seq mB_13 mO_13 [(.lload_n 2, 1), (.aload_n 0, 1)] (pc' := 38) (L' := [.ref 4, .int l1, .long l2, .null, .int l4]) (st' := [.ref 4, .long l2]) ⟨dX0_totalOfKind_36, dX0_totalOfKind_37, trivial⟩ rfl ?_
        refine ms_getR mB_13 mO_13 dX0_totalOfKind_38 mF_0_38 (gk_4 N) rfl (b := 11) (gr_4_6 N) ?_
        refine ms_seq mB_13 mO_13 [(.iload 4, 2)] (pc' := 43) (L' := [.ref 4, .int l1, .long l2, .null, .int l4]) (st' := [.int l4, .ref 11, .long l2]) ⟨dX0_totalOfKind_41, trivial⟩ rfl ?_
        refine ms_al mB_13 mO_13 hd dX0_totalOfKind_43 mQ_0_70 (Nat.le_of_ble_eq_true rfl) (gk_11 N) (mi_ne (gl_11 N)) ?_
        refine ms_seq mB_13 mO_13 [(.ladd, 1)] (pc' := 47) (L' := [.ref 4, .int l1, .long l2, .null, .int l4]) (st' := [.long (l2 + (mi_al δ1 11 l4))]) ⟨dX0_totalOfKind_46, trivial⟩ rfl ?_
        refine mr_topl (fun x3 e_x3 => ?_)
        have F := F x3 e_x3
        refine ms_seq mB_13 mO_13 [(.lstore_n 2, 1), (.iinc 4 1, 3)] (pc' := 51) (L' := [.ref 4, .int l1, .long x3, .null, .int (l4 + 1)]) (st' := []) ⟨dX0_totalOfKind_47, dX0_totalOfKind_48, trivial⟩ rfl ?_
        refine ms_goto mB_13 dX0_totalOfKind_51 (t := 5) rfl ?_
        exact F
set_option maxRecDepth 100000 in
theorem q0_told_0 {N d : Nat} (hd : 5 ≤ d) {p0 p1 : Int32} {δ : mi_D} {Q : Int32 → mi_D → Prop} (F : ((p1 = 0 → Q (mi_at δ 5 p0) δ) ∧ (p1 = 1 → Q (mi_at δ 6 p0) δ) ∧ (p1 = 2 → Q (mi_at δ 7 p0) δ) ∧ (p1 = 3 → Q (mi_at δ 12 p0) δ) ∧ (p1 = 4 → Q (mi_at δ 13 p0) δ) ∧ (p1 = 5 → Q (mi_at δ 8 p0) δ) ∧ (p1 = 6 → Q (mi_at δ 9 p0) δ) ∧ (¬ p1 = 0 → ¬ p1 = 1 → ¬ p1 = 2 → ¬ p1 = 3 → ¬ p1 = 4 → ¬ p1 = 5 → ¬ p1 = 6 → Q (-3) δ))) : mi_wI N d 14 0 [.ref 4, .int p0, .int p1] [] δ Q := by
  unfold mi_wI
  refine ms_seq mB_14 mO_14 [(.iload_n 2, 1)] (pc' := 1) (L' := [.ref 4, .int p0, .int p1]) (st' := [.int p1]) ⟨dX0_told_0, trivial⟩ rfl ?_
  by_cases n0 : p1 = 0
  · refine ms_pure mB_14 mO_14 (pc' := 44) (L' := [.ref 4, .int p0, .int p1]) (st' := []) dX0_told_1 (by rw [n0]; rfl) ?_
    have F := F.1 n0
    refine ms_seq mB_14 mO_14 [(.aload_n 0, 1)] (pc' := 45) (L' := [.ref 4, .int p0, .int p1]) (st' := [.ref 4]) ⟨dX0_told_44, trivial⟩ rfl ?_
    refine ms_getR mB_14 mO_14 dX0_told_45 mF_0_14 (gk_4 N) rfl (b := 5) (gr_4_0 N) ?_
    refine ms_seq mB_14 mO_14 [(.iload_n 1, 1)] (pc' := 49) (L' := [.ref 4, .int p0, .int p1]) (st' := [.int p0, .ref 5]) ⟨dX0_told_48, trivial⟩ rfl ?_
    refine ms_at mB_14 mO_14 hd dX0_told_49 mQ_0_56 (Nat.le_of_ble_eq_true rfl) (gk_5 N) (mi_ne (gl_5 N)) ?_
    exact ms_iret mB_14 dX0_told_52 mR_14 ⟨_, rfl, rfl, F⟩
  have F := F.2
  by_cases n1 : p1 = 1
  · refine ms_pure mB_14 mO_14 (pc' := 53) (L' := [.ref 4, .int p0, .int p1]) (st' := []) dX0_told_1 (by rw [n1]; rfl) ?_
    have F := F.1 n1
    refine ms_seq mB_14 mO_14 [(.aload_n 0, 1)] (pc' := 54) (L' := [.ref 4, .int p0, .int p1]) (st' := [.ref 4]) ⟨dX0_told_53, trivial⟩ rfl ?_
    refine ms_getR mB_14 mO_14 dX0_told_54 mF_0_20 (gk_4 N) rfl (b := 6) (gr_4_1 N) ?_
    refine ms_seq mB_14 mO_14 [(.iload_n 1, 1)] (pc' := 58) (L' := [.ref 4, .int p0, .int p1]) (st' := [.int p0, .ref 6]) ⟨dX0_told_57, trivial⟩ rfl ?_
    refine ms_at mB_14 mO_14 hd dX0_told_58 mQ_0_56 (Nat.le_of_ble_eq_true rfl) (gk_6 N) (mi_ne (gl_6 N)) ?_
    exact ms_iret mB_14 dX0_told_61 mR_14 ⟨_, rfl, rfl, F⟩
  have F := F.2
  by_cases n2 : p1 = 2
  · refine ms_pure mB_14 mO_14 (pc' := 62) (L' := [.ref 4, .int p0, .int p1]) (st' := []) dX0_told_1 (by rw [n2]; rfl) ?_
    have F := F.1 n2
    refine ms_seq mB_14 mO_14 [(.aload_n 0, 1)] (pc' := 63) (L' := [.ref 4, .int p0, .int p1]) (st' := [.ref 4]) ⟨dX0_told_62, trivial⟩ rfl ?_
    refine ms_getR mB_14 mO_14 dX0_told_63 mF_0_23 (gk_4 N) rfl (b := 7) (gr_4_2 N) ?_
    refine ms_seq mB_14 mO_14 [(.iload_n 1, 1)] (pc' := 67) (L' := [.ref 4, .int p0, .int p1]) (st' := [.int p0, .ref 7]) ⟨dX0_told_66, trivial⟩ rfl ?_
    refine ms_at mB_14 mO_14 hd dX0_told_67 mQ_0_56 (Nat.le_of_ble_eq_true rfl) (gk_7 N) (mi_ne (gl_7 N)) ?_
    exact ms_iret mB_14 dX0_told_70 mR_14 ⟨_, rfl, rfl, F⟩
  have F := F.2
  by_cases n3 : p1 = 3
  · refine ms_pure mB_14 mO_14 (pc' := 71) (L' := [.ref 4, .int p0, .int p1]) (st' := []) dX0_told_1 (by rw [n3]; rfl) ?_
    have F := F.1 n3
    refine ms_seq mB_14 mO_14 [(.aload_n 0, 1)] (pc' := 72) (L' := [.ref 4, .int p0, .int p1]) (st' := [.ref 4]) ⟨dX0_told_71, trivial⟩ rfl ?_
    refine ms_getR mB_14 mO_14 dX0_told_72 mF_0_42 (gk_4 N) rfl (b := 12) (gr_4_7 N) ?_
    refine ms_seq mB_14 mO_14 [(.iload_n 1, 1)] (pc' := 76) (L' := [.ref 4, .int p0, .int p1]) (st' := [.int p0, .ref 12]) ⟨dX0_told_75, trivial⟩ rfl ?_
    refine ms_at mB_14 mO_14 hd dX0_told_76 mQ_0_56 (Nat.le_of_ble_eq_true rfl) (gk_12 N) (mi_ne (gl_12 N)) ?_
    exact ms_iret mB_14 dX0_told_79 mR_14 ⟨_, rfl, rfl, F⟩
  have F := F.2
  by_cases n4 : p1 = 4
  · refine ms_pure mB_14 mO_14 (pc' := 80) (L' := [.ref 4, .int p0, .int p1]) (st' := []) dX0_told_1 (by rw [n4]; rfl) ?_
    have F := F.1 n4
    refine ms_seq mB_14 mO_14 [(.aload_n 0, 1)] (pc' := 81) (L' := [.ref 4, .int p0, .int p1]) (st' := [.ref 4]) ⟨dX0_told_80, trivial⟩ rfl ?_
    refine ms_getR mB_14 mO_14 dX0_told_81 mF_0_45 (gk_4 N) rfl (b := 13) (gr_4_8 N) ?_
    refine ms_seq mB_14 mO_14 [(.iload_n 1, 1)] (pc' := 85) (L' := [.ref 4, .int p0, .int p1]) (st' := [.int p0, .ref 13]) ⟨dX0_told_84, trivial⟩ rfl ?_
    refine ms_at mB_14 mO_14 hd dX0_told_85 mQ_0_56 (Nat.le_of_ble_eq_true rfl) (gk_13 N) (mi_ne (gl_13 N)) ?_
    exact ms_iret mB_14 dX0_told_88 mR_14 ⟨_, rfl, rfl, F⟩
  have F := F.2
  by_cases n5 : p1 = 5
  · refine ms_pure mB_14 mO_14 (pc' := 89) (L' := [.ref 4, .int p0, .int p1]) (st' := []) dX0_told_1 (by rw [n5]; rfl) ?_
    have F := F.1 n5
    refine ms_seq mB_14 mO_14 [(.aload_n 0, 1)] (pc' := 90) (L' := [.ref 4, .int p0, .int p1]) (st' := [.ref 4]) ⟨dX0_told_89, trivial⟩ rfl ?_
    refine ms_getR mB_14 mO_14 dX0_told_90 mF_0_26 (gk_4 N) rfl (b := 8) (gr_4_3 N) ?_
    refine ms_seq mB_14 mO_14 [(.iload_n 1, 1)] (pc' := 94) (L' := [.ref 4, .int p0, .int p1]) (st' := [.int p0, .ref 8]) ⟨dX0_told_93, trivial⟩ rfl ?_
    refine ms_at mB_14 mO_14 hd dX0_told_94 mQ_0_56 (Nat.le_of_ble_eq_true rfl) (gk_8 N) (mi_ne (gl_8 N)) ?_
    exact ms_iret mB_14 dX0_told_97 mR_14 ⟨_, rfl, rfl, F⟩
  have F := F.2
  by_cases n6 : p1 = 6
  · refine ms_pure mB_14 mO_14 (pc' := 98) (L' := [.ref 4, .int p0, .int p1]) (st' := []) dX0_told_1 (by rw [n6]; rfl) ?_
    have F := F.1 n6
    refine ms_seq mB_14 mO_14 [(.aload_n 0, 1)] (pc' := 99) (L' := [.ref 4, .int p0, .int p1]) (st' := [.ref 4]) ⟨dX0_told_98, trivial⟩ rfl ?_
    refine ms_getR mB_14 mO_14 dX0_told_99 mF_0_29 (gk_4 N) rfl (b := 9) (gr_4_4 N) ?_
    refine ms_seq mB_14 mO_14 [(.iload_n 1, 1)] (pc' := 103) (L' := [.ref 4, .int p0, .int p1]) (st' := [.int p0, .ref 9]) ⟨dX0_told_102, trivial⟩ rfl ?_
    refine ms_at mB_14 mO_14 hd dX0_told_103 mQ_0_56 (Nat.le_of_ble_eq_true rfl) (gk_9 N) (mi_ne (gl_9 N)) ?_
    exact ms_iret mB_14 dX0_told_106 mR_14 ⟨_, rfl, rfl, F⟩
  have F := F.2
  refine ms_swd mB_14 dX0_told_1 (t := 107) (by have a0 := lv_neT n0 (a := 0) rfl; have a1 := lv_neT n1 (a := 1) rfl; have a2 := lv_neT n2 (a := 2) rfl; have a3 := lv_neT n3 (a := 3) rfl; have a4 := lv_neT n4 (a := 4) rfl; have a5 := lv_neT n5 (a := 5) rfl; have a6 := lv_neT n6 (a := 6) rfl; omega) rfl ?_
  have F := F n0
  have F := F n1
  have F := F n2
  have F := F n3
  have F := F n4
  have F := F n5
  have F := F n6
  refine ms_seq mB_14 mO_14 [(.bipush (-3), 2)] (pc' := 109) (L' := [.ref 4, .int p0, .int p1]) (st' := [.int (-3)]) ⟨dX0_told_107, trivial⟩ rfl ?_
  exact ms_iret mB_14 dX0_told_109 mR_14 ⟨_, rfl, rfl, F⟩
