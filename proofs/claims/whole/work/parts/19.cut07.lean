set_option maxRecDepth 100000 in
theorem q7_clear_0 {N d : Nat} (hd : 5 ≤ d) {δ : mi_D} {Q : mi_D → Prop} (F : (∀ δ1 : mi_D, δ1 = mi_setI δ 14 2 0 → (∀ δ2 : mi_D, δ2 = mi_setI δ1 14 3 0 → Q δ2))) : mi_wV N d 70 0 [.ref 14] [] δ Q := by
  unfold mi_wV
  refine ms_seq mB_70 mO_70 [(.aload_n 0, 1), (.iconst 0, 1)] (pc' := 2) (L' := [.ref 14]) (st' := [.int 0, .ref 14]) ⟨dX7_clear_0, dX7_clear_1, trivial⟩ rfl ?_
  refine ms_putI mB_70 mO_70 dX7_clear_2 mF_7_23 (gk_14 N) rfl rfl ?_
  refine mr_st (fun δ1 e_δ1 => ?_)
  have F := F δ1 e_δ1
  refine ms_seq mB_70 mO_70 [(.aload_n 0, 1), (.iconst 0, 1)] (pc' := 7) (L' := [.ref 14]) (st' := [.int 0, .ref 14]) ⟨dX7_clear_5, dX7_clear_6, trivial⟩ rfl ?_
  refine ms_putI mB_70 mO_70 dX7_clear_7 mF_7_27 (gk_14 N) rfl rfl ?_
  refine mr_st (fun δ2 e_δ2 => ?_)
  have F := F δ2 e_δ2
  exact ms_vret mB_70 dX7_clear_10 mR_70 ⟨rfl, rfl, F⟩
set_option maxRecDepth 100000 in
theorem q7_has_0 {N d : Nat} (hd : 5 ≤ d) {p0 : Int32} {δ : mi_D} {Q : Int32 → mi_D → Prop} (F : ((p0 < 0 → Q 0 δ) ∧ (¬ p0 < 0 → ((p0 < (δ.1 14 2) → Q 1 δ) ∧ (¬ p0 < (δ.1 14 2) → Q 0 δ))))) : mi_wI N d 71 0 [.ref 14, .int p0] [] δ Q := by
  unfold mi_wI
  refine ms_seq mB_71 mO_71 [(.iload_n 1, 1)] (pc' := 1) (L' := [.ref 14, .int p0]) (st' := [.int p0]) ⟨dX7_has_0, trivial⟩ rfl ?_
  refine ms_if_lt mB_71 dX7_has_1 (t := 16) rfl (fun c => ?_) (fun c => ?_)
  · have F := F.1 c
    refine ms_seq mB_71 mO_71 [(.iconst 0, 1)] (pc' := 17) (L' := [.ref 14, .int p0]) (st' := [.int 0]) ⟨dX7_has_16, trivial⟩ rfl ?_
    exact ms_zret mB_71 dX7_has_17 mR_71 (by decide) ⟨_, rfl, rfl, F⟩
  · have F := F.2 c
    refine ms_seq mB_71 mO_71 [(.iload_n 1, 1), (.aload_n 0, 1)] (pc' := 6) (L' := [.ref 14, .int p0]) (st' := [.ref 14, .int p0]) ⟨dX7_has_4, dX7_has_5, trivial⟩ rfl ?_
    refine ms_getI mB_71 mO_71 dX7_has_6 mF_7_23 (gk_14 N) (Or.inl rfl) ?_
    refine ms_icmp_ge mB_71 dX7_has_9 (t := 16) rfl (fun c => ?_) (fun c => ?_)
    · have F := F.2 c
      refine ms_seq mB_71 mO_71 [(.iconst 0, 1)] (pc' := 17) (L' := [.ref 14, .int p0]) (st' := [.int 0]) ⟨dX7_has_16, trivial⟩ rfl ?_
      exact ms_zret mB_71 dX7_has_17 mR_71 (by decide) ⟨_, rfl, rfl, F⟩
    · have F := F.1 c
      refine ms_seq mB_71 mO_71 [(.iconst 1, 1)] (pc' := 13) (L' := [.ref 14, .int p0]) (st' := [.int 1]) ⟨dX7_has_12, trivial⟩ rfl ?_
      refine ms_goto mB_71 dX7_has_13 (t := 17) rfl ?_
      exact ms_zret mB_71 dX7_has_17 mR_71 (by decide) ⟨_, rfl, rfl, F⟩
set_option maxRecDepth 100000 in
theorem q7_add_0 {N d : Nat} (hd : 5 ≤ d) {p0 : Int32} {δ : mi_D} {Q : Int32 → mi_D → Prop} (F : (∀ x1 : Int32, x1 = (δ.1 14 2) → (∀ δ2 : mi_D, δ2 = mi_pt δ 15 24 x1 p0 → (∀ δ3 : mi_D, δ3 = mi_pt δ2 16 24 x1 (-1) → (∀ δ4 : mi_D, δ4 = mi_setI δ3 14 2 ((δ3.1 14 2) + 1) → Q x1 δ4))))) : mi_wI N d 72 0 [.ref 14, .int p0, .null] [] δ Q := by
  unfold mi_wI
  refine ms_seq mB_72 mO_72 [(.aload_n 0, 1)] (pc' := 1) (L' := [.ref 14, .int p0, .null]) (st' := [.ref 14]) ⟨dX7_add_0, trivial⟩ rfl ?_
  refine ms_getI mB_72 mO_72 dX7_add_1 mF_7_23 (gk_14 N) (Or.inl rfl) ?_
  refine mr_topi (fun x1 e_x1 => ?_)
  have F := F x1 e_x1
  refine ms_seq mB_72 mO_72 [(.istore_n 2, 1), (.aload_n 0, 1)] (pc' := 6) (L' := [.ref 14, .int p0, .int x1]) (st' := [.ref 14]) ⟨dX7_add_4, dX7_add_5, trivial⟩ rfl ?_
  refine ms_getR mB_72 mO_72 dX7_add_6 mF_7_14 (gk_14 N) rfl (b := 15) (gr_14_0 N) ?_
  refine ms_seq mB_72 mO_72 [(.iload_n 2, 1), (.iload_n 1, 1)] (pc' := 11) (L' := [.ref 14, .int p0, .int x1]) (st' := [.int p0, .int x1, .ref 15]) ⟨dX7_add_9, dX7_add_10, trivial⟩ rfl ?_
  refine ms_put mB_72 mO_72 (lim := 24) hd dX7_add_11 mQ_7_30 (Nat.le_of_ble_eq_true rfl) (gk_15 N) (gl_15 N) ?_
  refine mr_st (fun δ2 e_δ2 => ?_)
  have F := F δ2 e_δ2
  refine ms_seq mB_72 mO_72 [(.aload_n 0, 1)] (pc' := 15) (L' := [.ref 14, .int p0, .int x1]) (st' := [.ref 14]) ⟨dX7_add_14, trivial⟩ rfl ?_
  refine ms_getR mB_72 mO_72 dX7_add_15 mF_7_20 (gk_14 N) rfl (b := 16) (gr_14_1 N) ?_
  refine ms_seq mB_72 mO_72 [(.iload_n 2, 1), (.iconst (-1), 1)] (pc' := 20) (L' := [.ref 14, .int p0, .int x1]) (st' := [.int (-1), .int x1, .ref 16]) ⟨dX7_add_18, dX7_add_19, trivial⟩ rfl ?_
  refine ms_put mB_72 mO_72 (lim := 24) hd dX7_add_20 mQ_7_30 (Nat.le_of_ble_eq_true rfl) (gk_16 N) (gl_16 N) ?_
  refine mr_st (fun δ3 e_δ3 => ?_)
  have F := F δ3 e_δ3
  refine ms_seq mB_72 mO_72 [(.aload_n 0, 1), (.dup, 1)] (pc' := 25) (L' := [.ref 14, .int p0, .int x1]) (st' := [.ref 14, .ref 14]) ⟨dX7_add_23, dX7_add_24, trivial⟩ rfl ?_
  refine ms_getI mB_72 mO_72 dX7_add_25 mF_7_23 (gk_14 N) (Or.inl rfl) ?_
  refine ms_seq mB_72 mO_72 [(.iconst 1, 1), (.iadd, 1)] (pc' := 30) (L' := [.ref 14, .int p0, .int x1]) (st' := [.int ((δ3.1 14 2) + 1), .ref 14]) ⟨dX7_add_28, dX7_add_29, trivial⟩ rfl ?_
  refine ms_putI mB_72 mO_72 dX7_add_30 mF_7_23 (gk_14 N) rfl rfl ?_
  refine mr_st (fun δ4 e_δ4 => ?_)
  have F := F δ4 e_δ4
  refine ms_seq mB_72 mO_72 [(.iload_n 2, 1)] (pc' := 34) (L' := [.ref 14, .int p0, .int x1]) (st' := [.int x1]) ⟨dX7_add_33, trivial⟩ rfl ?_
  exact ms_iret mB_72 dX7_add_34 mR_72 ⟨_, rfl, rfl, F⟩
set_option maxRecDepth 100000 in
theorem q7_firstDay_0 {N d : Nat} (hd : 5 ≤ d) {p0 : Int32} {δ : mi_D} {Q : Int32 → mi_D → Prop} (F : ((p0 = 0 → Q 0 δ) ∧ (¬ p0 = 0 → Q ((mi_at δ 15 (p0 - 1)) + 1) δ))) : mi_wI N d 73 0 [.ref 14, .int p0] [] δ Q := by
  unfold mi_wI
  refine ms_seq mB_73 mO_73 [(.iload_n 1, 1)] (pc' := 1) (L' := [.ref 14, .int p0]) (st' := [.int p0]) ⟨dX7_firstDay_0, trivial⟩ rfl ?_
  refine ms_if_ne mB_73 dX7_firstDay_1 (t := 8) rfl (fun c => ?_) (fun c => ?_)
  · have F := F.2 c
    refine ms_seq mB_73 mO_73 [(.aload_n 0, 1)] (pc' := 9) (L' := [.ref 14, .int p0]) (st' := [.ref 14]) ⟨dX7_firstDay_8, trivial⟩ rfl ?_
    refine ms_getR mB_73 mO_73 dX7_firstDay_9 mF_7_14 (gk_14 N) rfl (b := 15) (gr_14_0 N) ?_
    refine ms_seq mB_73 mO_73 [(.iload_n 1, 1), (.iconst 1, 1), (.isub, 1)] (pc' := 15) (L' := [.ref 14, .int p0]) (st' := [.int (p0 - 1), .ref 15]) ⟨dX7_firstDay_12, dX7_firstDay_13, dX7_firstDay_14, trivial⟩ rfl ?_
    refine ms_at mB_73 mO_73 hd dX7_firstDay_15 mQ_7_34 (Nat.le_of_ble_eq_true rfl) (gk_15 N) (mi_ne (gl_15 N)) ?_
    refine ms_seq mB_73 mO_73 [(.iconst 1, 1), (.iadd, 1)] (pc' := 20) (L' := [.ref 14, .int p0]) (st' := [.int ((mi_at δ 15 (p0 - 1)) + 1)]) ⟨dX7_firstDay_18, dX7_firstDay_19, trivial⟩ rfl ?_
    exact ms_iret mB_73 dX7_firstDay_20 mR_73 ⟨_, rfl, rfl, F⟩
  · have F := F.1 c
    refine ms_seq mB_73 mO_73 [(.iconst 0, 1)] (pc' := 5) (L' := [.ref 14, .int p0]) (st' := [.int 0]) ⟨dX7_firstDay_4, trivial⟩ rfl ?_
    refine ms_goto mB_73 dX7_firstDay_5 (t := 20) rfl ?_
    exact ms_iret mB_73 dX7_firstDay_20 mR_73 ⟨_, rfl, rfl, F⟩
set_option maxRecDepth 100000 in
theorem q7_lastDay_0 {N d : Nat} (hd : 5 ≤ d) {p0 : Int32} {δ : mi_D} {Q : Int32 → mi_D → Prop} (F : Q (mi_at δ 15 p0) δ) : mi_wI N d 74 0 [.ref 14, .int p0] [] δ Q := by
  unfold mi_wI
  refine ms_seq mB_74 mO_74 [(.aload_n 0, 1)] (pc' := 1) (L' := [.ref 14, .int p0]) (st' := [.ref 14]) ⟨dX7_lastDay_0, trivial⟩ rfl ?_
  refine ms_getR mB_74 mO_74 dX7_lastDay_1 mF_7_14 (gk_14 N) rfl (b := 15) (gr_14_0 N) ?_
  refine ms_seq mB_74 mO_74 [(.iload_n 1, 1)] (pc' := 5) (L' := [.ref 14, .int p0]) (st' := [.int p0, .ref 15]) ⟨dX7_lastDay_4, trivial⟩ rfl ?_
  refine ms_at mB_74 mO_74 hd dX7_lastDay_5 mQ_7_34 (Nat.le_of_ble_eq_true rfl) (gk_15 N) (mi_ne (gl_15 N)) ?_
  exact ms_iret mB_74 dX7_lastDay_8 mR_74 ⟨_, rfl, rfl, F⟩
set_option maxRecDepth 100000 in
theorem q7_firstFreeDay_0 {N d : Nat} (hd : 5 ≤ d) {δ : mi_D} {Q : Int32 → mi_D → Prop} (F : (mi_wI N (d - 1) 73 0 [.ref 14, .int (δ.1 14 2)] [] δ (fun r2 δ1 => Q r2 δ1))) : mi_wI N d 75 0 [.ref 14] [] δ Q := by
  unfold mi_wI
  refine ms_seq mB_75 mO_75 [(.aload_n 0, 1), (.aload_n 0, 1)] (pc' := 2) (L' := [.ref 14]) (st' := [.ref 14, .ref 14]) ⟨dX7_firstFreeDay_0, dX7_firstFreeDay_1, trivial⟩ rfl ?_
  refine ms_getI mB_75 mO_75 dX7_firstFreeDay_2 mF_7_23 (gk_14 N) (Or.inl rfl) ?_
  refine ms_callvI mB_75 mO_75 (by omega) dX7_firstFreeDay_5 mQ_7_38 mC_7_38 mL_73 mO_73 rfl (Nat.le_of_ble_eq_true rfl) (Nat.le_of_ble_eq_true rfl) (gk_14 N) rfl F (fun r2 δ1 F => ?_)
  exact ms_iret mB_75 dX7_firstFreeDay_8 mR_75 ⟨_, rfl, rfl, F⟩
set_option maxRecDepth 100000 in
theorem q7_withDay_0 {N d : Nat} (hd : 5 ≤ d) {p0 : Int32} {δ : mi_D} {Q : Int32 → mi_D → Prop} (F : mi_wI N d 76 2 [.ref 14, .int p0, .int 0] [] δ Q) : mi_wI N d 76 0 [.ref 14, .int p0, .null] [] δ Q := by
  unfold mi_wI
  refine ms_seq mB_76 mO_76 [(.iconst 0, 1), (.istore_n 2, 1)] (pc' := 2) (L' := [.ref 14, .int p0, .int 0]) (st' := []) ⟨dX7_withDay_0, dX7_withDay_1, trivial⟩ rfl ?_
  exact F
set_option maxRecDepth 100000 in
theorem q7_withDay_2 {N d : Nat} (hd : 5 ≤ d) {l1 l2 : Int32} {δ : mi_D} {Q : Int32 → mi_D → Prop} (F : ((l2 < (δ.1 14 2) → ((l1 < 0 → mi_wI N d 76 2 [.ref 14, .int l1, .int (l2 + 1)] [] δ Q) ∧ (¬ l1 < 0 → (((mi_at δ 15 l2) < l1 → mi_wI N d 76 2 [.ref 14, .int l1, .int (l2 + 1)] [] δ Q) ∧ (¬ (mi_at δ 15 l2) < l1 → Q l2 δ))))) ∧ (¬ l2 < (δ.1 14 2) → Q (-1) δ))) : mi_wI N d 76 2 [.ref 14, .int l1, .int l2] [] δ Q := by
  unfold mi_wI
  refine ms_seq mB_76 mO_76 [(.iload_n 2, 1), (.aload_n 0, 1)] (pc' := 4) (L' := [.ref 14, .int l1, .int l2]) (st' := [.ref 14, .int l2]) ⟨dX7_withDay_2, dX7_withDay_3, trivial⟩ rfl ?_
  refine ms_getI mB_76 mO_76 dX7_withDay_4 mF_7_23 (gk_14 N) (Or.inl rfl) ?_
  refine ms_icmp_ge mB_76 dX7_withDay_7 (t := 34) rfl (fun c => ?_) (fun c => ?_)
  · have F := F.2 c
    refine ms_seq mB_76 mO_76 [(.iconst (-1), 1)] (pc' := 35) (L' := [.ref 14, .int l1, .int l2]) (st' := [.int (-1)]) ⟨dX7_withDay_34, trivial⟩ rfl ?_
    exact ms_iret mB_76 dX7_withDay_35 mR_76 ⟨_, rfl, rfl, F⟩
  · have F := F.1 c
    refine ms_seq mB_76 mO_76 [(.iload_n 1, 1)] (pc' := 11) (L' := [.ref 14, .int l1, .int l2]) (st' := [.int l1]) ⟨dX7_withDay_10, trivial⟩ rfl ?_
    refine ms_if_lt mB_76 dX7_withDay_11 (t := 28) rfl (fun c => ?_) (fun c => ?_)
    · have F := F.1 c
      refine ms_seq mB_76 mO_76 [(.iinc 2 1, 3)] (pc' := 31) (L' := [.ref 14, .int l1, .int (l2 + 1)]) (st' := []) ⟨dX7_withDay_28, trivial⟩ rfl ?_
      refine ms_goto mB_76 dX7_withDay_31 (t := 2) rfl ?_
      exact F
    · have F := F.2 c
      refine ms_seq mB_76 mO_76 [(.iload_n 1, 1), (.aload_n 0, 1)] (pc' := 16) (L' := [.ref 14, .int l1, .int l2]) (st' := [.ref 14, .int l1]) ⟨dX7_withDay_14, dX7_withDay_15, trivial⟩ rfl ?_
      refine ms_getR mB_76 mO_76 dX7_withDay_16 mF_7_14 (gk_14 N) rfl (b := 15) (gr_14_0 N) ?_
      refine ms_seq mB_76 mO_76 [(.iload_n 2, 1)] (pc' := 20) (L' := [.ref 14, .int l1, .int l2]) (st' := [.int l2, .ref 15, .int l1]) ⟨dX7_withDay_19, trivial⟩ rfl ?_
      refine ms_at mB_76 mO_76 hd dX7_withDay_20 mQ_7_34 (Nat.le_of_ble_eq_true rfl) (gk_15 N) (mi_ne (gl_15 N)) ?_
      refine ms_icmp_gt mB_76 dX7_withDay_23 (t := 28) rfl (fun c => ?_) (fun c => ?_)
      · have F := F.1 c
        refine ms_seq mB_76 mO_76 [(.iinc 2 1, 3)] (pc' := 31) (L' := [.ref 14, .int l1, .int (l2 + 1)]) (st' := []) ⟨dX7_withDay_28, trivial⟩ rfl ?_
        refine ms_goto mB_76 dX7_withDay_31 (t := 2) rfl ?_
        exact F
      · have F := F.2 c
        refine ms_seq mB_76 mO_76 [(.iload_n 2, 1)] (pc' := 27) (L' := [.ref 14, .int l1, .int l2]) (st' := [.int l2]) ⟨dX7_withDay_26, trivial⟩ rfl ?_
        exact ms_iret mB_76 dX7_withDay_27 mR_76 ⟨_, rfl, rfl, F⟩
set_option maxRecDepth 100000 in
theorem q7_closingOf_0 {N d : Nat} (hd : 5 ≤ d) {p0 : Int32} {δ : mi_D} {Q : Int32 → mi_D → Prop} (F : Q (mi_at δ 16 p0) δ) : mi_wI N d 77 0 [.ref 14, .int p0] [] δ Q := by
  unfold mi_wI
  refine ms_seq mB_77 mO_77 [(.aload_n 0, 1)] (pc' := 1) (L' := [.ref 14, .int p0]) (st' := [.ref 14]) ⟨dX7_closingOf_0, trivial⟩ rfl ?_
  refine ms_getR mB_77 mO_77 dX7_closingOf_1 mF_7_20 (gk_14 N) rfl (b := 16) (gr_14_1 N) ?_
  refine ms_seq mB_77 mO_77 [(.iload_n 1, 1)] (pc' := 5) (L' := [.ref 14, .int p0]) (st' := [.int p0, .ref 16]) ⟨dX7_closingOf_4, trivial⟩ rfl ?_
  refine ms_at mB_77 mO_77 hd dX7_closingOf_5 mQ_7_34 (Nat.le_of_ble_eq_true rfl) (gk_16 N) (mi_ne (gl_16 N)) ?_
  exact ms_iret mB_77 dX7_closingOf_8 mR_77 ⟨_, rfl, rfl, F⟩
set_option maxRecDepth 100000 in
theorem q7_closeFirstOpen_0 {N d : Nat} (hd : 5 ≤ d) {p0 : Int32} {δ : mi_D} {Q : mi_D → Prop} (F : (∀ δ1 : mi_D, δ1 = mi_pt δ 16 24 (δ.1 14 3) p0 → (∀ δ2 : mi_D, δ2 = mi_setI δ1 14 3 ((δ1.1 14 3) + 1) → Q δ2))) : mi_wV N d 78 0 [.ref 14, .int p0] [] δ Q := by
  unfold mi_wV
  refine ms_seq mB_78 mO_78 [(.aload_n 0, 1)] (pc' := 1) (L' := [.ref 14, .int p0]) (st' := [.ref 14]) ⟨dX7_closeFirstOpen_0, trivial⟩ rfl ?_
  refine ms_getR mB_78 mO_78 dX7_closeFirstOpen_1 mF_7_20 (gk_14 N) rfl (b := 16) (gr_14_1 N) ?_
  refine ms_seq mB_78 mO_78 [(.aload_n 0, 1)] (pc' := 5) (L' := [.ref 14, .int p0]) (st' := [.ref 14, .ref 16]) ⟨dX7_closeFirstOpen_4, trivial⟩ rfl ?_
  refine ms_getI mB_78 mO_78 dX7_closeFirstOpen_5 mF_7_27 (gk_14 N) (Or.inl rfl) ?_
  refine ms_seq mB_78 mO_78 [(.iload_n 1, 1)] (pc' := 9) (L' := [.ref 14, .int p0]) (st' := [.int p0, .int (δ.1 14 3), .ref 16]) ⟨dX7_closeFirstOpen_8, trivial⟩ rfl ?_
  refine ms_put mB_78 mO_78 (lim := 24) hd dX7_closeFirstOpen_9 mQ_7_30 (Nat.le_of_ble_eq_true rfl) (gk_16 N) (gl_16 N) ?_
  refine mr_st (fun δ1 e_δ1 => ?_)
  have F := F δ1 e_δ1
  refine ms_seq mB_78 mO_78 [(.aload_n 0, 1), (.dup, 1)] (pc' := 14) (L' := [.ref 14, .int p0]) (st' := [.ref 14, .ref 14]) ⟨dX7_closeFirstOpen_12, dX7_closeFirstOpen_13, trivial⟩ rfl ?_
  refine ms_getI mB_78 mO_78 dX7_closeFirstOpen_14 mF_7_27 (gk_14 N) (Or.inl rfl) ?_
  refine ms_seq mB_78 mO_78 [(.iconst 1, 1), (.iadd, 1)] (pc' := 19) (L' := [.ref 14, .int p0]) (st' := [.int ((δ1.1 14 3) + 1), .ref 14]) ⟨dX7_closeFirstOpen_17, dX7_closeFirstOpen_18, trivial⟩ rfl ?_
  refine ms_putI mB_78 mO_78 dX7_closeFirstOpen_19 mF_7_27 (gk_14 N) rfl rfl ?_
  refine mr_st (fun δ2 e_δ2 => ?_)
  have F := F δ2 e_δ2
  exact ms_vret mB_78 dX7_closeFirstOpen_22 mR_78 ⟨rfl, rfl, F⟩
set_option maxRecDepth 100000 in
theorem q7_openLastClosed_0 {N d : Nat} (hd : 5 ≤ d) {δ : mi_D} {Q : mi_D → Prop} (F : (∀ δ1 : mi_D, δ1 = mi_setI δ 14 3 ((δ.1 14 3) - 1) → (∀ δ2 : mi_D, δ2 = mi_pt δ1 16 24 (δ1.1 14 3) (-1) → Q δ2))) : mi_wV N d 79 0 [.ref 14] [] δ Q := by
  unfold mi_wV
  refine ms_seq mB_79 mO_79 [(.aload_n 0, 1), (.dup, 1)] (pc' := 2) (L' := [.ref 14]) (st' := [.ref 14, .ref 14]) ⟨dX7_openLastClosed_0, dX7_openLastClosed_1, trivial⟩ rfl ?_
  refine ms_getI mB_79 mO_79 dX7_openLastClosed_2 mF_7_27 (gk_14 N) (Or.inl rfl) ?_
  refine ms_seq mB_79 mO_79 [(.iconst 1, 1), (.isub, 1)] (pc' := 7) (L' := [.ref 14]) (st' := [.int ((δ.1 14 3) - 1), .ref 14]) ⟨dX7_openLastClosed_5, dX7_openLastClosed_6, trivial⟩ rfl ?_
  refine ms_putI mB_79 mO_79 dX7_openLastClosed_7 mF_7_27 (gk_14 N) rfl rfl ?_
  refine mr_st (fun δ1 e_δ1 => ?_)
  have F := F δ1 e_δ1
  refine ms_seq mB_79 mO_79 [(.aload_n 0, 1)] (pc' := 11) (L' := [.ref 14]) (st' := [.ref 14]) ⟨dX7_openLastClosed_10, trivial⟩ rfl ?_
  refine ms_getR mB_79 mO_79 dX7_openLastClosed_11 mF_7_20 (gk_14 N) rfl (b := 16) (gr_14_1 N) ?_
  refine ms_seq mB_79 mO_79 [(.aload_n 0, 1)] (pc' := 15) (L' := [.ref 14]) (st' := [.ref 14, .ref 16]) ⟨dX7_openLastClosed_14, trivial⟩ rfl ?_
  refine ms_getI mB_79 mO_79 dX7_openLastClosed_15 mF_7_27 (gk_14 N) (Or.inl rfl) ?_
  refine ms_seq mB_79 mO_79 [(.iconst (-1), 1)] (pc' := 19) (L' := [.ref 14]) (st' := [.int (-1), .int (δ1.1 14 3), .ref 16]) ⟨dX7_openLastClosed_18, trivial⟩ rfl ?_
  refine ms_put mB_79 mO_79 (lim := 24) hd dX7_openLastClosed_19 mQ_7_30 (Nat.le_of_ble_eq_true rfl) (gk_16 N) (gl_16 N) ?_
  refine mr_st (fun δ2 e_δ2 => ?_)
  have F := F δ2 e_δ2
  exact ms_vret mB_79 dX7_openLastClosed_22 mR_79 ⟨rfl, rfl, F⟩
set_option maxRecDepth 100000 in
theorem q7_told_0 {N d : Nat} (hd : 5 ≤ d) {p0 p1 : Int32} {δ : mi_D} {Q : Int32 → mi_D → Prop} (F : ((p1 = 0 → (mi_wI N (d - 1) 73 0 [.ref 14, .int p0] [] δ (fun r2 δ1 => Q r2 δ1))) ∧ (p1 = 1 → (mi_wI N (d - 1) 74 0 [.ref 14, .int p0] [] δ (fun r4 δ3 => Q r4 δ3))) ∧ (p1 = 2 → ((p0 < (δ.1 14 3) → Q 1 δ) ∧ (¬ p0 < (δ.1 14 3) → Q 0 δ))) ∧ (p1 = 3 → (mi_wI N (d - 1) 77 0 [.ref 14, .int p0] [] δ (fun r6 δ5 => Q r6 δ5))) ∧ (¬ p1 = 0 → ¬ p1 = 1 → ¬ p1 = 2 → ¬ p1 = 3 → Q (-3) δ))) : mi_wI N d 80 0 [.ref 14, .int p0, .int p1] [] δ Q := by
  unfold mi_wI
  refine ms_seq mB_80 mO_80 [(.iload_n 2, 1)] (pc' := 1) (L' := [.ref 14, .int p0, .int p1]) (st' := [.int p1]) ⟨dX7_told_0, trivial⟩ rfl ?_
  by_cases n0 : p1 = 0
  · refine ms_pure mB_80 mO_80 (pc' := 32) (L' := [.ref 14, .int p0, .int p1]) (st' := []) dX7_told_1 (by rw [n0]; rfl) ?_
    have F := F.1 n0
    refine ms_seq mB_80 mO_80 [(.aload_n 0, 1), (.iload_n 1, 1)] (pc' := 34) (L' := [.ref 14, .int p0, .int p1]) (st' := [.int p0, .ref 14]) ⟨dX7_told_32, dX7_told_33, trivial⟩ rfl ?_
    refine ms_callvI mB_80 mO_80 (by omega) dX7_told_34 mQ_7_38 mC_7_38 mL_73 mO_73 rfl (Nat.le_of_ble_eq_true rfl) (Nat.le_of_ble_eq_true rfl) (gk_14 N) rfl F (fun r2 δ1 F => ?_)
    exact ms_iret mB_80 dX7_told_37 mR_80 ⟨_, rfl, rfl, F⟩
  have F := F.2
  by_cases n1 : p1 = 1
  · refine ms_pure mB_80 mO_80 (pc' := 38) (L' := [.ref 14, .int p0, .int p1]) (st' := []) dX7_told_1 (by rw [n1]; rfl) ?_
    have F := F.1 n1
    refine ms_seq mB_80 mO_80 [(.aload_n 0, 1), (.iload_n 1, 1)] (pc' := 40) (L' := [.ref 14, .int p0, .int p1]) (st' := [.int p0, .ref 14]) ⟨dX7_told_38, dX7_told_39, trivial⟩ rfl ?_
    refine ms_callvI mB_80 mO_80 (by omega) dX7_told_40 mQ_7_41 mC_7_41 mL_74 mO_74 rfl (Nat.le_of_ble_eq_true rfl) (Nat.le_of_ble_eq_true rfl) (gk_14 N) rfl F (fun r4 δ3 F => ?_)
    exact ms_iret mB_80 dX7_told_43 mR_80 ⟨_, rfl, rfl, F⟩
  have F := F.2
  by_cases n2 : p1 = 2
  · refine ms_pure mB_80 mO_80 (pc' := 44) (L' := [.ref 14, .int p0, .int p1]) (st' := []) dX7_told_1 (by rw [n2]; rfl) ?_
    have F := F.1 n2
    refine ms_seq mB_80 mO_80 [(.iload_n 1, 1), (.aload_n 0, 1)] (pc' := 46) (L' := [.ref 14, .int p0, .int p1]) (st' := [.ref 14, .int p0]) ⟨dX7_told_44, dX7_told_45, trivial⟩ rfl ?_
    refine ms_getI mB_80 mO_80 dX7_told_46 mF_7_27 (gk_14 N) (Or.inl rfl) ?_
    refine ms_icmp_ge mB_80 dX7_told_49 (t := 56) rfl (fun c => ?_) (fun c => ?_)
    · have F := F.2 c
      refine ms_seq mB_80 mO_80 [(.iconst 0, 1)] (pc' := 57) (L' := [.ref 14, .int p0, .int p1]) (st' := [.int 0]) ⟨dX7_told_56, trivial⟩ rfl ?_
      exact ms_iret mB_80 dX7_told_57 mR_80 ⟨_, rfl, rfl, F⟩
    · have F := F.1 c
      refine ms_seq mB_80 mO_80 [(.iconst 1, 1)] (pc' := 53) (L' := [.ref 14, .int p0, .int p1]) (st' := [.int 1]) ⟨dX7_told_52, trivial⟩ rfl ?_
      refine ms_goto mB_80 dX7_told_53 (t := 57) rfl ?_
      exact ms_iret mB_80 dX7_told_57 mR_80 ⟨_, rfl, rfl, F⟩
  have F := F.2
  by_cases n3 : p1 = 3
  · refine ms_pure mB_80 mO_80 (pc' := 58) (L' := [.ref 14, .int p0, .int p1]) (st' := []) dX7_told_1 (by rw [n3]; rfl) ?_
    have F := F.1 n3
    refine ms_seq mB_80 mO_80 [(.aload_n 0, 1), (.iload_n 1, 1)] (pc' := 60) (L' := [.ref 14, .int p0, .int p1]) (st' := [.int p0, .ref 14]) ⟨dX7_told_58, dX7_told_59, trivial⟩ rfl ?_
    refine ms_callvI mB_80 mO_80 (by omega) dX7_told_60 mQ_7_44 mC_7_44 mL_77 mO_77 rfl (Nat.le_of_ble_eq_true rfl) (Nat.le_of_ble_eq_true rfl) (gk_14 N) rfl F (fun r6 δ5 F => ?_)
    exact ms_iret mB_80 dX7_told_63 mR_80 ⟨_, rfl, rfl, F⟩
  have F := F.2
  refine ms_swd mB_80 dX7_told_1 (t := 64) (by have a0 := lv_neT n0 (a := 0) rfl; have a1 := lv_neT n1 (a := 1) rfl; have a2 := lv_neT n2 (a := 2) rfl; have a3 := lv_neT n3 (a := 3) rfl; omega) rfl ?_
  have F := F n0
  have F := F n1
  have F := F n2
  have F := F n3
  refine ms_seq mB_80 mO_80 [(.bipush (-3), 2)] (pc' := 66) (L' := [.ref 14, .int p0, .int p1]) (st' := [.int (-3)]) ⟨dX7_told_64, trivial⟩ rfl ?_
  exact ms_iret mB_80 dX7_told_66 mR_80 ⟨_, rfl, rfl, F⟩
