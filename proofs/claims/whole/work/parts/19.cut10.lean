set_option maxRecDepth 100000 in
theorem q10_clear_0 {N d : Nat} (hd : 5 ≤ d) {δ : mi_D} {Q : mi_D → Prop} (F : (∀ δ1 : mi_D, δ1 = mi_setI δ 45 3 0 → Q δ1)) : mi_wV N d 103 0 [.ref 45] [] δ Q := by
  unfold mi_wV
  refine ms_seq mB_103 mO_103 [(.aload_n 0, 1), (.iconst 0, 1)] (pc' := 2) (L' := [.ref 45]) (st' := [.int 0, .ref 45]) ⟨dX10_clear_0, dX10_clear_1, trivial⟩ rfl ?_
  refine ms_putI mB_103 mO_103 dX10_clear_2 mF_10_27 (gk_45 N) rfl rfl ?_
  refine mr_st (fun δ1 e_δ1 => ?_)
  have F := F δ1 e_δ1
  exact ms_vret mB_103 dX10_clear_5 mR_103 ⟨rfl, rfl, F⟩
set_option maxRecDepth 100000 in
theorem q10_write_0 {N d : Nat} (hd : 5 ≤ d) {p0 : Int32} {δ : mi_D} {Q : Int32 → mi_D → Prop} (F : (mi_wV N (d - 1) 103 0 [.ref 45] [] δ (fun δ1 => ((p0 = 0 → (mi_wV N (d - 1) 105 0 [.ref 45, .null, .null] [] δ1 (fun δ3 => mi_wI N d 104 47 [.ref 45, .int p0, .null] [] δ3 Q))) ∧ (¬ p0 = 0 → ((p0 = 1 → mi_wI N d 104 22 [.ref 45, .int p0, .int 0] [] δ1 Q) ∧ (¬ p0 = 1 → (mi_wV N (d - 1) 107 0 [.ref 45, .null, .null, .null, .null, .null] [] δ1 (fun δ2 => mi_wI N d 104 47 [.ref 45, .int p0, .null] [] δ2 Q))))))))) : mi_wI N d 104 0 [.ref 45, .int p0, .null] [] δ Q := by
  unfold mi_wI
  refine ms_seq mB_104 mO_104 [(.aload_n 0, 1)] (pc' := 1) (L' := [.ref 45, .int p0, .null]) (st' := [.ref 45]) ⟨dX10_write_0, trivial⟩ rfl ?_
  refine ms_callvV mB_104 mO_104 (by omega) dX10_write_1 mQ_10_31 mC_10_31 mL_103 mO_103 rfl (Nat.le_of_ble_eq_true rfl) (Nat.le_of_ble_eq_true rfl) (gk_45 N) rfl F (fun δ1 F => ?_)
  refine ms_seq mB_104 mO_104 [(.iload_n 1, 1)] (pc' := 5) (L' := [.ref 45, .int p0, .null]) (st' := [.int p0]) ⟨dX10_write_4, trivial⟩ rfl ?_
  refine ms_if_ne mB_104 dX10_write_5 (t := 15) rfl (fun c => ?_) (fun c => ?_)
  · have F := F.2 c
    refine ms_seq mB_104 mO_104 [(.iload_n 1, 1), (.iconst 1, 1)] (pc' := 17) (L' := [.ref 45, .int p0, .null]) (st' := [.int 1, .int p0]) ⟨dX10_write_15, dX10_write_16, trivial⟩ rfl ?_
    refine ms_icmp_ne mB_104 dX10_write_17 (t := 43) rfl (fun c => ?_) (fun c => ?_)
    · have F := F.2 c
      refine ms_seq mB_104 mO_104 [(.aload_n 0, 1)] (pc' := 44) (L' := [.ref 45, .int p0, .null]) (st' := [.ref 45]) ⟨dX10_write_43, trivial⟩ rfl ?_
      refine ms_callvV mB_104 mO_104 (by omega) dX10_write_44 mQ_10_41 mC_10_41 mL_107 mO_107 rfl (Nat.le_of_ble_eq_true rfl) (Nat.le_of_ble_eq_true rfl) (gk_45 N) rfl F (fun δ2 F => ?_)
      exact F
    · have F := F.1 c
      refine ms_seq mB_104 mO_104 [(.iconst 0, 1), (.istore_n 2, 1)] (pc' := 22) (L' := [.ref 45, .int p0, .int 0]) (st' := []) ⟨dX10_write_20, dX10_write_21, trivial⟩ rfl ?_
      exact F
  · have F := F.1 c
    refine ms_seq mB_104 mO_104 [(.aload_n 0, 1)] (pc' := 9) (L' := [.ref 45, .int p0, .null]) (st' := [.ref 45]) ⟨dX10_write_8, trivial⟩ rfl ?_
    refine ms_callvV mB_104 mO_104 (by omega) dX10_write_9 mQ_10_34 mC_10_34 mL_105 mO_105 rfl (Nat.le_of_ble_eq_true rfl) (Nat.le_of_ble_eq_true rfl) (gk_45 N) rfl F (fun δ3 F => ?_)
    refine ms_goto mB_104 dX10_write_12 (t := 47) rfl ?_
    exact F
set_option maxRecDepth 100000 in
theorem q10_write_47 {N d : Nat} (hd : 5 ≤ d) {l1 : Int32} {δ : mi_D} {Q : Int32 → mi_D → Prop} (F : ((4000 < (δ.1 45 3) → (mi_wV N (d - 1) 103 0 [.ref 45] [] δ (fun δ1 => Q 0 δ1))) ∧ (¬ 4000 < (δ.1 45 3) → Q 1 δ))) : mi_wI N d 104 47 [.ref 45, .int l1, .null] [] δ Q := by
  unfold mi_wI
  refine ms_seq mB_104 mO_104 [(.aload_n 0, 1)] (pc' := 48) (L' := [.ref 45, .int l1, .null]) (st' := [.ref 45]) ⟨dX10_write_47, trivial⟩ rfl ?_
  refine ms_getI mB_104 mO_104 dX10_write_48 mF_10_27 (gk_45 N) (Or.inl rfl) ?_
  refine ms_seq mB_104 mO_104 [(.sipush 4000, 3)] (pc' := 54) (L' := [.ref 45, .int l1, .null]) (st' := [.int 4000, .int (δ.1 45 3)]) ⟨dX10_write_51, trivial⟩ rfl ?_
  refine ms_icmp_le mB_104 dX10_write_54 (t := 63) rfl (fun c => ?_) (fun c => ?_)
  · have F := F.2 c
    refine ms_seq mB_104 mO_104 [(.iconst 1, 1)] (pc' := 64) (L' := [.ref 45, .int l1, .null]) (st' := [.int 1]) ⟨dX10_write_63, trivial⟩ rfl ?_
    exact ms_zret mB_104 dX10_write_64 mR_104 (by decide) ⟨_, rfl, rfl, F⟩
  · have F := F.1 c
    refine ms_seq mB_104 mO_104 [(.aload_n 0, 1)] (pc' := 58) (L' := [.ref 45, .int l1, .null]) (st' := [.ref 45]) ⟨dX10_write_57, trivial⟩ rfl ?_
    refine ms_callvV mB_104 mO_104 (by omega) dX10_write_58 mQ_10_31 mC_10_31 mL_103 mO_103 rfl (Nat.le_of_ble_eq_true rfl) (Nat.le_of_ble_eq_true rfl) (gk_45 N) rfl F (fun δ1 F => ?_)
    refine ms_seq mB_104 mO_104 [(.iconst 0, 1)] (pc' := 62) (L' := [.ref 45, .int l1, .null]) (st' := [.int 0]) ⟨dX10_write_61, trivial⟩ rfl ?_
    exact ms_zret mB_104 dX10_write_62 mR_104 (by decide) ⟨_, rfl, rfl, F⟩
set_option maxRecDepth 100000 in
theorem q10_write_22 {N d : Nat} (hd : 5 ≤ d) {l1 l2 : Int32} {δ : mi_D} {Q : Int32 → mi_D → Prop} (F : ((l2 < 5 → (mi_wV N (d - 1) 106 0 [.ref 45, .int (-1), .int l2, .int 0, .null, .null, .null] [] δ (fun δ1 => mi_wI N d 104 22 [.ref 45, .int l1, .int (l2 + 1)] [] δ1 Q))) ∧ (¬ l2 < 5 → mi_wI N d 104 47 [.ref 45, .int l1, .int l2] [] δ Q))) : mi_wI N d 104 22 [.ref 45, .int l1, .int l2] [] δ Q := by
  unfold mi_wI
  refine ms_seq mB_104 mO_104 [(.iload_n 2, 1), (.iconst 5, 1)] (pc' := 24) (L' := [.ref 45, .int l1, .int l2]) (st' := [.int 5, .int l2]) ⟨dX10_write_22, dX10_write_23, trivial⟩ rfl ?_
  refine ms_icmp_ge mB_104 dX10_write_24 (t := 40) rfl (fun c => ?_) (fun c => ?_)
  · have F := F.2 c
    refine ms_goto mB_104 dX10_write_40 (t := 47) rfl ?_
    exact F
  · have F := F.1 c
    refine ms_seq mB_104 mO_104 [(.aload_n 0, 1), (.iconst (-1), 1), (.iload_n 2, 1), (.iconst 0, 1)] (pc' := 31) (L' := [.ref 45, .int l1, .int l2]) (st' := [.int 0, .int l2, .int (-1), .ref 45]) ⟨dX10_write_27, dX10_write_28, dX10_write_29, dX10_write_30, trivial⟩ rfl ?_
    refine ms_callsV mB_104 mO_104 (by omega) dX10_write_31 mQ_10_37 mC_10_37 mL_106 (by decide) rfl (Nat.le_of_ble_eq_true rfl) (Nat.le_of_ble_eq_true rfl) rfl F (fun δ1 F => ?_)
    refine ms_seq mB_104 mO_104 [(.iinc 2 1, 3)] (pc' := 37) (L' := [.ref 45, .int l1, .int (l2 + 1)]) (st' := []) ⟨dX10_write_34, trivial⟩ rfl ?_
    refine ms_goto mB_104 dX10_write_37 (t := 22) rfl ?_
    exact F
set_option maxRecDepth 100000 in
theorem q10_write_47a {N d : Nat} (hd : 5 ≤ d) {l1 l2 : Int32} {δ : mi_D} {Q : Int32 → mi_D → Prop} (F : ((4000 < (δ.1 45 3) → (mi_wV N (d - 1) 103 0 [.ref 45] [] δ (fun δ1 => Q 0 δ1))) ∧ (¬ 4000 < (δ.1 45 3) → Q 1 δ))) : mi_wI N d 104 47 [.ref 45, .int l1, .int l2] [] δ Q := by
  unfold mi_wI
  refine ms_seq mB_104 mO_104 [(.aload_n 0, 1)] (pc' := 48) (L' := [.ref 45, .int l1, .int l2]) (st' := [.ref 45]) ⟨dX10_write_47, trivial⟩ rfl ?_
  refine ms_getI mB_104 mO_104 dX10_write_48 mF_10_27 (gk_45 N) (Or.inl rfl) ?_
  refine ms_seq mB_104 mO_104 [(.sipush 4000, 3)] (pc' := 54) (L' := [.ref 45, .int l1, .int l2]) (st' := [.int 4000, .int (δ.1 45 3)]) ⟨dX10_write_51, trivial⟩ rfl ?_
  refine ms_icmp_le mB_104 dX10_write_54 (t := 63) rfl (fun c => ?_) (fun c => ?_)
  · have F := F.2 c
    refine ms_seq mB_104 mO_104 [(.iconst 1, 1)] (pc' := 64) (L' := [.ref 45, .int l1, .int l2]) (st' := [.int 1]) ⟨dX10_write_63, trivial⟩ rfl ?_
    exact ms_zret mB_104 dX10_write_64 mR_104 (by decide) ⟨_, rfl, rfl, F⟩
  · have F := F.1 c
    refine ms_seq mB_104 mO_104 [(.aload_n 0, 1)] (pc' := 58) (L' := [.ref 45, .int l1, .int l2]) (st' := [.ref 45]) ⟨dX10_write_57, trivial⟩ rfl ?_
    refine ms_callvV mB_104 mO_104 (by omega) dX10_write_58 mQ_10_31 mC_10_31 mL_103 mO_103 rfl (Nat.le_of_ble_eq_true rfl) (Nat.le_of_ble_eq_true rfl) (gk_45 N) rfl F (fun δ1 F => ?_)
    refine ms_seq mB_104 mO_104 [(.iconst 0, 1)] (pc' := 62) (L' := [.ref 45, .int l1, .int l2]) (st' := [.int 0]) ⟨dX10_write_61, trivial⟩ rfl ?_
    exact ms_zret mB_104 dX10_write_62 mR_104 (by decide) ⟨_, rfl, rfl, F⟩
set_option maxRecDepth 100000 in
theorem q10_writeLeaves_0 {N d : Nat} (hd : 5 ≤ d) {δ : mi_D} {Q : mi_D → Prop} (F : mi_wV N d 105 2 [.ref 45, .int 0, .null] [] δ Q) : mi_wV N d 105 0 [.ref 45, .null, .null] [] δ Q := by
  unfold mi_wV
  refine ms_seq mB_105 mO_105 [(.iconst 0, 1), (.istore_n 1, 1)] (pc' := 2) (L' := [.ref 45, .int 0, .null]) (st' := []) ⟨dX10_writeLeaves_0, dX10_writeLeaves_1, trivial⟩ rfl ?_
  exact F
set_option maxRecDepth 100000 in
theorem q10_writeLeaves_2 {N d : Nat} (hd : 5 ≤ d) {l1 : Int32} {δ : mi_D} {Q : mi_D → Prop} (F : ((l1 < (δ.1 4 9) → (∀ x1 : Int32, x1 = (mi_at δ 10 l1) → (mi_wI N (d - 1) 3 0 [.ref 4, .int x1] [] δ (fun r3 δ2 => ((r3 = 0 → mi_wV N d 105 2 [.ref 45, .int (l1 + 1), .int x1] [] δ2 Q) ∧ (¬ r3 = 0 → (((lg_cmp (mi_al δ2 11 x1) 0) = 0 → mi_wV N d 105 2 [.ref 45, .int (l1 + 1), .int x1] [] δ2 Q) ∧ (¬ (lg_cmp (mi_al δ2 11 x1) 0) = 0 → (mi_wV N (d - 1) 109 0 [.ref 45, .int x1, .null] [] δ2 (fun δ4 => mi_wV N d 105 2 [.ref 45, .int (l1 + 1), .int x1] [] δ4 Q)))))))))) ∧ (¬ l1 < (δ.1 4 9) → Q δ))) : mi_wV N d 105 2 [.ref 45, .int l1, .null] [] δ Q := by
  unfold mi_wV
  refine ms_seq mB_105 mO_105 [(.iload_n 1, 1), (.aload_n 0, 1)] (pc' := 4) (L' := [.ref 45, .int l1, .null]) (st' := [.ref 45, .int l1]) ⟨dX10_writeLeaves_2, dX10_writeLeaves_3, trivial⟩ rfl ?_
  refine ms_getR mB_105 mO_105 dX10_writeLeaves_4 mF_10_23 (gk_45 N) rfl (b := 4) (gr_45_1 N) ?_
  refine ms_getI mB_105 mO_105 dX10_writeLeaves_7 mF_10_44 (gk_4 N) (Or.inl rfl) ?_
  refine ms_icmp_ge mB_105 dX10_writeLeaves_10 (t := 63) rfl (fun c => ?_) (fun c => ?_)
  · have F := F.2 c
    exact ms_vret mB_105 dX10_writeLeaves_63 mR_105 ⟨rfl, rfl, F⟩
  · have F := F.1 c
    refine ms_seq mB_105 mO_105 [(.aload_n 0, 1)] (pc' := 14) (L' := [.ref 45, .int l1, .null]) (st' := [.ref 45]) ⟨dX10_writeLeaves_13, trivial⟩ rfl ?_
    refine ms_getR mB_105 mO_105 dX10_writeLeaves_14 mF_10_23 (gk_45 N) rfl (b := 4) (gr_45_1 N) ?_
    refine ms_getR mB_105 mO_105 dX10_writeLeaves_17 mF_10_47 (gk_4 N) rfl (b := 10) (gr_4_5 N) ?_
    refine ms_seq mB_105 mO_105 [(.iload_n 1, 1)] (pc' := 21) (L' := [.ref 45, .int l1, .null]) (st' := [.int l1, .ref 10]) ⟨dX10_writeLeaves_20, trivial⟩ rfl ?_
    refine ms_at mB_105 mO_105 hd dX10_writeLeaves_21 mQ_10_50 (Nat.le_of_ble_eq_true rfl) (gk_10 N) (mi_ne (gl_10 N)) ?_
    refine mr_topi (fun x1 e_x1 => ?_)
    have F := F x1 e_x1
    refine ms_seq mB_105 mO_105 [(.istore_n 2, 1), (.aload_n 0, 1)] (pc' := 26) (L' := [.ref 45, .int l1, .int x1]) (st' := [.ref 45]) ⟨dX10_writeLeaves_24, dX10_writeLeaves_25, trivial⟩ rfl ?_
    refine ms_getR mB_105 mO_105 dX10_writeLeaves_26 mF_10_23 (gk_45 N) rfl (b := 4) (gr_45_1 N) ?_
    refine ms_seq mB_105 mO_105 [(.iload_n 2, 1)] (pc' := 30) (L' := [.ref 45, .int l1, .int x1]) (st' := [.int x1, .ref 4]) ⟨dX10_writeLeaves_29, trivial⟩ rfl ?_
    refine ms_callvI mB_105 mO_105 (by omega) dX10_writeLeaves_30 mQ_10_54 mC_10_54 mL_3 mO_3 rfl (Nat.le_of_ble_eq_true rfl) (Nat.le_of_ble_eq_true rfl) (gk_4 N) rfl F (fun r3 δ2 F => ?_)
    refine ms_if_eq mB_105 dX10_writeLeaves_33 (t := 57) rfl (fun c => ?_) (fun c => ?_)
    · have F := F.1 c
      refine ms_seq mB_105 mO_105 [(.iinc 1 1, 3)] (pc' := 60) (L' := [.ref 45, .int (l1 + 1), .int x1]) (st' := []) ⟨dX10_writeLeaves_57, trivial⟩ rfl ?_
      refine ms_goto mB_105 dX10_writeLeaves_60 (t := 2) rfl ?_
      exact F
    · have F := F.2 c
      refine ms_seq mB_105 mO_105 [(.aload_n 0, 1)] (pc' := 37) (L' := [.ref 45, .int l1, .int x1]) (st' := [.ref 45]) ⟨dX10_writeLeaves_36, trivial⟩ rfl ?_
      refine ms_getR mB_105 mO_105 dX10_writeLeaves_37 mF_10_23 (gk_45 N) rfl (b := 4) (gr_45_1 N) ?_
      refine ms_getR mB_105 mO_105 dX10_writeLeaves_40 mF_10_58 (gk_4 N) rfl (b := 11) (gr_4_6 N) ?_
      refine ms_seq mB_105 mO_105 [(.iload_n 2, 1)] (pc' := 44) (L' := [.ref 45, .int l1, .int x1]) (st' := [.int x1, .ref 11]) ⟨dX10_writeLeaves_43, trivial⟩ rfl ?_
      refine ms_al mB_105 mO_105 hd dX10_writeLeaves_44 mQ_10_62 (Nat.le_of_ble_eq_true rfl) (gk_11 N) (mi_ne (gl_11 N)) ?_
      refine ms_seq mB_105 mO_105 [(.lconst 0, 1), (.lcmp, 1)] (pc' := 49) (L' := [.ref 45, .int l1, .int x1]) (st' := [.int (lg_cmp (mi_al δ2 11 x1) 0)]) ⟨dX10_writeLeaves_47, dX10_writeLeaves_48, trivial⟩ rfl ?_
      refine ms_if_eq mB_105 dX10_writeLeaves_49 (t := 57) rfl (fun c => ?_) (fun c => ?_)
      · have F := F.1 c
        refine ms_seq mB_105 mO_105 [(.iinc 1 1, 3)] (pc' := 60) (L' := [.ref 45, .int (l1 + 1), .int x1]) (st' := []) ⟨dX10_writeLeaves_57, trivial⟩ rfl ?_
        refine ms_goto mB_105 dX10_writeLeaves_60 (t := 2) rfl ?_
        exact F
      · have F := F.2 c
        refine ms_seq mB_105 mO_105 [(.aload_n 0, 1), (.iload_n 2, 1)] (pc' := 54) (L' := [.ref 45, .int l1, .int x1]) (st' := [.int x1, .ref 45]) ⟨dX10_writeLeaves_52, dX10_writeLeaves_53, trivial⟩ rfl ?_
        refine ms_callvV mB_105 mO_105 (by omega) dX10_writeLeaves_54 mQ_10_67 mC_10_67 mL_109 mO_109 rfl (Nat.le_of_ble_eq_true rfl) (Nat.le_of_ble_eq_true rfl) (gk_45 N) rfl F (fun δ4 F => ?_)
        refine ms_seq mB_105 mO_105 [(.iinc 1 1, 3)] (pc' := 60) (L' := [.ref 45, .int (l1 + 1), .int x1]) (st' := []) ⟨dX10_writeLeaves_57, trivial⟩ rfl ?_
        refine ms_goto mB_105 dX10_writeLeaves_60 (t := 2) rfl ?_
        exact F
set_option maxRecDepth 100000 in
theorem q10_writeLeaves_2a {N d : Nat} (hd : 5 ≤ d) {l1 l2 : Int32} {δ : mi_D} {Q : mi_D → Prop} (F : ((l1 < (δ.1 4 9) → (∀ x1 : Int32, x1 = (mi_at δ 10 l1) → (mi_wI N (d - 1) 3 0 [.ref 4, .int x1] [] δ (fun r3 δ2 => ((r3 = 0 → mi_wV N d 105 2 [.ref 45, .int (l1 + 1), .int x1] [] δ2 Q) ∧ (¬ r3 = 0 → (((lg_cmp (mi_al δ2 11 x1) 0) = 0 → mi_wV N d 105 2 [.ref 45, .int (l1 + 1), .int x1] [] δ2 Q) ∧ (¬ (lg_cmp (mi_al δ2 11 x1) 0) = 0 → (mi_wV N (d - 1) 109 0 [.ref 45, .int x1, .null] [] δ2 (fun δ4 => mi_wV N d 105 2 [.ref 45, .int (l1 + 1), .int x1] [] δ4 Q)))))))))) ∧ (¬ l1 < (δ.1 4 9) → Q δ))) : mi_wV N d 105 2 [.ref 45, .int l1, .int l2] [] δ Q := by
  unfold mi_wV
  refine ms_seq mB_105 mO_105 [(.iload_n 1, 1), (.aload_n 0, 1)] (pc' := 4) (L' := [.ref 45, .int l1, .int l2]) (st' := [.ref 45, .int l1]) ⟨dX10_writeLeaves_2, dX10_writeLeaves_3, trivial⟩ rfl ?_
  refine ms_getR mB_105 mO_105 dX10_writeLeaves_4 mF_10_23 (gk_45 N) rfl (b := 4) (gr_45_1 N) ?_
  refine ms_getI mB_105 mO_105 dX10_writeLeaves_7 mF_10_44 (gk_4 N) (Or.inl rfl) ?_
  refine ms_icmp_ge mB_105 dX10_writeLeaves_10 (t := 63) rfl (fun c => ?_) (fun c => ?_)
  · have F := F.2 c
    exact ms_vret mB_105 dX10_writeLeaves_63 mR_105 ⟨rfl, rfl, F⟩
  · have F := F.1 c
    refine ms_seq mB_105 mO_105 [(.aload_n 0, 1)] (pc' := 14) (L' := [.ref 45, .int l1, .int l2]) (st' := [.ref 45]) ⟨dX10_writeLeaves_13, trivial⟩ rfl ?_
    refine ms_getR mB_105 mO_105 dX10_writeLeaves_14 mF_10_23 (gk_45 N) rfl (b := 4) (gr_45_1 N) ?_
    refine ms_getR mB_105 mO_105 dX10_writeLeaves_17 mF_10_47 (gk_4 N) rfl (b := 10) (gr_4_5 N) ?_
    refine ms_seq mB_105 mO_105 [(.iload_n 1, 1)] (pc' := 21) (L' := [.ref 45, .int l1, .int l2]) (st' := [.int l1, .ref 10]) ⟨dX10_writeLeaves_20, trivial⟩ rfl ?_
    refine ms_at mB_105 mO_105 hd dX10_writeLeaves_21 mQ_10_50 (Nat.le_of_ble_eq_true rfl) (gk_10 N) (mi_ne (gl_10 N)) ?_
    refine mr_topi (fun x1 e_x1 => ?_)
    have F := F x1 e_x1
    refine ms_seq mB_105 mO_105 [(.istore_n 2, 1), (.aload_n 0, 1)] (pc' := 26) (L' := [.ref 45, .int l1, .int x1]) (st' := [.ref 45]) ⟨dX10_writeLeaves_24, dX10_writeLeaves_25, trivial⟩ rfl ?_
    refine ms_getR mB_105 mO_105 dX10_writeLeaves_26 mF_10_23 (gk_45 N) rfl (b := 4) (gr_45_1 N) ?_
    refine ms_seq mB_105 mO_105 [(.iload_n 2, 1)] (pc' := 30) (L' := [.ref 45, .int l1, .int x1]) (st' := [.int x1, .ref 4]) ⟨dX10_writeLeaves_29, trivial⟩ rfl ?_
    refine ms_callvI mB_105 mO_105 (by omega) dX10_writeLeaves_30 mQ_10_54 mC_10_54 mL_3 mO_3 rfl (Nat.le_of_ble_eq_true rfl) (Nat.le_of_ble_eq_true rfl) (gk_4 N) rfl F (fun r3 δ2 F => ?_)
    refine ms_if_eq mB_105 dX10_writeLeaves_33 (t := 57) rfl (fun c => ?_) (fun c => ?_)
    · have F := F.1 c
      refine ms_seq mB_105 mO_105 [(.iinc 1 1, 3)] (pc' := 60) (L' := [.ref 45, .int (l1 + 1), .int x1]) (st' := []) ⟨dX10_writeLeaves_57, trivial⟩ rfl ?_
      refine ms_goto mB_105 dX10_writeLeaves_60 (t := 2) rfl ?_
      exact F
    · have F := F.2 c
      refine ms_seq mB_105 mO_105 [(.aload_n 0, 1)] (pc' := 37) (L' := [.ref 45, .int l1, .int x1]) (st' := [.ref 45]) ⟨dX10_writeLeaves_36, trivial⟩ rfl ?_
      refine ms_getR mB_105 mO_105 dX10_writeLeaves_37 mF_10_23 (gk_45 N) rfl (b := 4) (gr_45_1 N) ?_
      refine ms_getR mB_105 mO_105 dX10_writeLeaves_40 mF_10_58 (gk_4 N) rfl (b := 11) (gr_4_6 N) ?_
      refine ms_seq mB_105 mO_105 [(.iload_n 2, 1)] (pc' := 44) (L' := [.ref 45, .int l1, .int x1]) (st' := [.int x1, .ref 11]) ⟨dX10_writeLeaves_43, trivial⟩ rfl ?_
      refine ms_al mB_105 mO_105 hd dX10_writeLeaves_44 mQ_10_62 (Nat.le_of_ble_eq_true rfl) (gk_11 N) (mi_ne (gl_11 N)) ?_
      refine ms_seq mB_105 mO_105 [(.lconst 0, 1), (.lcmp, 1)] (pc' := 49) (L' := [.ref 45, .int l1, .int x1]) (st' := [.int (lg_cmp (mi_al δ2 11 x1) 0)]) ⟨dX10_writeLeaves_47, dX10_writeLeaves_48, trivial⟩ rfl ?_
      refine ms_if_eq mB_105 dX10_writeLeaves_49 (t := 57) rfl (fun c => ?_) (fun c => ?_)
      · have F := F.1 c
        refine ms_seq mB_105 mO_105 [(.iinc 1 1, 3)] (pc' := 60) (L' := [.ref 45, .int (l1 + 1), .int x1]) (st' := []) ⟨dX10_writeLeaves_57, trivial⟩ rfl ?_
        refine ms_goto mB_105 dX10_writeLeaves_60 (t := 2) rfl ?_
        exact F
      · have F := F.2 c
        refine ms_seq mB_105 mO_105 [(.aload_n 0, 1), (.iload_n 2, 1)] (pc' := 54) (L' := [.ref 45, .int l1, .int x1]) (st' := [.int x1, .ref 45]) ⟨dX10_writeLeaves_52, dX10_writeLeaves_53, trivial⟩ rfl ?_
        refine ms_callvV mB_105 mO_105 (by omega) dX10_writeLeaves_54 mQ_10_67 mC_10_67 mL_109 mO_109 rfl (Nat.le_of_ble_eq_true rfl) (Nat.le_of_ble_eq_true rfl) (gk_45 N) rfl F (fun δ4 F => ?_)
        refine ms_seq mB_105 mO_105 [(.iinc 1 1, 3)] (pc' := 60) (L' := [.ref 45, .int (l1 + 1), .int x1]) (st' := []) ⟨dX10_writeLeaves_57, trivial⟩ rfl ?_
        refine ms_goto mB_105 dX10_writeLeaves_60 (t := 2) rfl ?_
        exact F
set_option maxRecDepth 100000 in
theorem q10_writeUnder_0 {N d : Nat} (hd : 5 ≤ d) {p1 p2 p3 : Int32} {δ : mi_D} {Q : mi_D → Prop} (F : ((5 < p3 → Q δ) ∧ (¬ 5 < p3 → mi_wV N d 106 15 [.ref 45, .int p1, .int p2, .int p3, .ref 4, .int 0, .null] [] δ Q))) : mi_wV N d 106 0 [.ref 45, .int p1, .int p2, .int p3, .null, .null, .null] [] δ Q := by
  unfold mi_wV
  refine ms_seq mB_106 mO_106 [(.iload_n 3, 1), (.iconst 5, 1)] (pc' := 2) (L' := [.ref 45, .int p1, .int p2, .int p3, .null, .null, .null]) (st' := [.int 5, .int p3]) ⟨dX10_writeUnder_0, dX10_writeUnder_1, trivial⟩ rfl ?_
  refine ms_icmp_le mB_106 dX10_writeUnder_2 (t := 6) rfl (fun c => ?_) (fun c => ?_)
  · have F := F.2 c
    refine ms_seq mB_106 mO_106 [(.aload_n 0, 1)] (pc' := 7) (L' := [.ref 45, .int p1, .int p2, .int p3, .null, .null, .null]) (st' := [.ref 45]) ⟨dX10_writeUnder_6, trivial⟩ rfl ?_
    refine ms_getR mB_106 mO_106 dX10_writeUnder_7 mF_10_23 (gk_45 N) rfl (b := 4) (gr_45_1 N) ?_
    refine ms_seq mB_106 mO_106 [(.astore 4, 2), (.iconst 0, 1), (.istore 5, 2)] (pc' := 15) (L' := [.ref 45, .int p1, .int p2, .int p3, .ref 4, .int 0, .null]) (st' := []) ⟨dX10_writeUnder_10, dX10_writeUnder_12, dX10_writeUnder_13, trivial⟩ rfl ?_
    exact F
  · have F := F.1 c
    exact ms_vret mB_106 dX10_writeUnder_5 mR_106 ⟨rfl, rfl, F⟩
set_option maxRecDepth 100000 in
theorem q10_writeUnder_15 {N d : Nat} (hd : 5 ≤ d) {l1 l2 l3 l5 : Int32} {δ : mi_D} {Q : mi_D → Prop} (F : ((l5 < (δ.1 4 9) → (∀ x1 : Int32, x1 = (mi_at δ 10 l5) → (((mi_at δ 7 x1) = l1 → (((mi_at δ 6 x1) = l2 → (mi_wV N (d - 1) 109 0 [.ref 45, .int x1, .null] [] δ (fun δ2 => (mi_wV N (d - 1) 106 0 [.ref 45, .int x1, .int l2, .int (l3 + 1), .null, .null, .null] [] δ2 (fun δ3 => mi_wV N d 106 15 [.ref 45, .int l1, .int l2, .int l3, .ref 4, .int (l5 + 1), .int x1] [] δ3 Q))))) ∧ (¬ (mi_at δ 6 x1) = l2 → mi_wV N d 106 15 [.ref 45, .int l1, .int l2, .int l3, .ref 4, .int (l5 + 1), .int x1] [] δ Q))) ∧ (¬ (mi_at δ 7 x1) = l1 → mi_wV N d 106 15 [.ref 45, .int l1, .int l2, .int l3, .ref 4, .int (l5 + 1), .int x1] [] δ Q)))) ∧ (¬ l5 < (δ.1 4 9) → Q δ))) : mi_wV N d 106 15 [.ref 45, .int l1, .int l2, .int l3, .ref 4, .int l5, .null] [] δ Q := by
  unfold mi_wV
  refine ms_seq mB_106 mO_106 [(.iload 5, 2), (.aload 4, 2)] (pc' := 19) (L' := [.ref 45, .int l1, .int l2, .int l3, .ref 4, .int l5, .null]) (st' := [.ref 4, .int l5]) ⟨dX10_writeUnder_15, dX10_writeUnder_17, trivial⟩ rfl ?_
  refine ms_getI mB_106 mO_106 dX10_writeUnder_19 mF_10_44 (gk_4 N) (Or.inl rfl) ?_
  refine ms_icmp_ge mB_106 dX10_writeUnder_22 (t := 87) rfl (fun c => ?_) (fun c => ?_)
  · have F := F.2 c
    exact ms_vret mB_106 dX10_writeUnder_87 mR_106 ⟨rfl, rfl, F⟩
  · have F := F.1 c
    refine ms_seq mB_106 mO_106 [(.aload 4, 2)] (pc' := 27) (L' := [.ref 45, .int l1, .int l2, .int l3, .ref 4, .int l5, .null]) (st' := [.ref 4]) ⟨dX10_writeUnder_25, trivial⟩ rfl ?_
    refine ms_getR mB_106 mO_106 dX10_writeUnder_27 mF_10_47 (gk_4 N) rfl (b := 10) (gr_4_5 N) ?_
    refine ms_seq mB_106 mO_106 [(.iload 5, 2)] (pc' := 32) (L' := [.ref 45, .int l1, .int l2, .int l3, .ref 4, .int l5, .null]) (st' := [.int l5, .ref 10]) ⟨dX10_writeUnder_30, trivial⟩ rfl ?_
    refine ms_at mB_106 mO_106 hd dX10_writeUnder_32 mQ_10_50 (Nat.le_of_ble_eq_true rfl) (gk_10 N) (mi_ne (gl_10 N)) ?_
    refine mr_topi (fun x1 e_x1 => ?_)
    have F := F x1 e_x1
    refine ms_seq mB_106 mO_106 [(.istore 6, 2), (.aload 4, 2)] (pc' := 39) (L' := [.ref 45, .int l1, .int l2, .int l3, .ref 4, .int l5, .int x1]) (st' := [.ref 4]) ⟨dX10_writeUnder_35, dX10_writeUnder_37, trivial⟩ rfl ?_
    refine ms_getR mB_106 mO_106 dX10_writeUnder_39 mF_10_70 (gk_4 N) rfl (b := 7) (gr_4_2 N) ?_
    refine ms_seq mB_106 mO_106 [(.iload 6, 2)] (pc' := 44) (L' := [.ref 45, .int l1, .int l2, .int l3, .ref 4, .int l5, .int x1]) (st' := [.int x1, .ref 7]) ⟨dX10_writeUnder_42, trivial⟩ rfl ?_
    refine ms_at mB_106 mO_106 hd dX10_writeUnder_44 mQ_10_50 (Nat.le_of_ble_eq_true rfl) (gk_7 N) (mi_ne (gl_7 N)) ?_
    refine ms_seq mB_106 mO_106 [(.iload_n 1, 1)] (pc' := 48) (L' := [.ref 45, .int l1, .int l2, .int l3, .ref 4, .int l5, .int x1]) (st' := [.int l1, .int (mi_at δ 7 x1)]) ⟨dX10_writeUnder_47, trivial⟩ rfl ?_
    refine ms_icmp_ne mB_106 dX10_writeUnder_48 (t := 81) rfl (fun c => ?_) (fun c => ?_)
    · have F := F.2 c
      refine ms_seq mB_106 mO_106 [(.iinc 5 1, 3)] (pc' := 84) (L' := [.ref 45, .int l1, .int l2, .int l3, .ref 4, .int (l5 + 1), .int x1]) (st' := []) ⟨dX10_writeUnder_81, trivial⟩ rfl ?_
      refine ms_goto mB_106 dX10_writeUnder_84 (t := 15) rfl ?_
      exact F
    · have F := F.1 c
      refine ms_seq mB_106 mO_106 [(.aload 4, 2)] (pc' := 53) (L' := [.ref 45, .int l1, .int l2, .int l3, .ref 4, .int l5, .int x1]) (st' := [.ref 4]) ⟨dX10_writeUnder_51, trivial⟩ rfl ?_
      refine ms_getR mB_106 mO_106 dX10_writeUnder_53 mF_10_73 (gk_4 N) rfl (b := 6) (gr_4_1 N) ?_
      refine ms_seq mB_106 mO_106 [(.iload 6, 2)] (pc' := 58) (L' := [.ref 45, .int l1, .int l2, .int l3, .ref 4, .int l5, .int x1]) (st' := [.int x1, .ref 6]) ⟨dX10_writeUnder_56, trivial⟩ rfl ?_
      refine ms_at mB_106 mO_106 hd dX10_writeUnder_58 mQ_10_50 (Nat.le_of_ble_eq_true rfl) (gk_6 N) (mi_ne (gl_6 N)) ?_
      refine ms_seq mB_106 mO_106 [(.iload_n 2, 1)] (pc' := 62) (L' := [.ref 45, .int l1, .int l2, .int l3, .ref 4, .int l5, .int x1]) (st' := [.int l2, .int (mi_at δ 6 x1)]) ⟨dX10_writeUnder_61, trivial⟩ rfl ?_
      refine ms_icmp_ne mB_106 dX10_writeUnder_62 (t := 81) rfl (fun c => ?_) (fun c => ?_)
      · have F := F.2 c
        refine ms_seq mB_106 mO_106 [(.iinc 5 1, 3)] (pc' := 84) (L' := [.ref 45, .int l1, .int l2, .int l3, .ref 4, .int (l5 + 1), .int x1]) (st' := []) ⟨dX10_writeUnder_81, trivial⟩ rfl ?_
        refine ms_goto mB_106 dX10_writeUnder_84 (t := 15) rfl ?_
        exact F
      · have F := F.1 c
        refine ms_seq mB_106 mO_106 [(.aload_n 0, 1), (.iload 6, 2)] (pc' := 68) (L' := [.ref 45, .int l1, .int l2, .int l3, .ref 4, .int l5, .int x1]) (st' := [.int x1, .ref 45]) ⟨dX10_writeUnder_65, dX10_writeUnder_66, trivial⟩ rfl ?_
        refine ms_callvV mB_106 mO_106 (by omega) dX10_writeUnder_68 mQ_10_67 mC_10_67 mL_109 mO_109 rfl (Nat.le_of_ble_eq_true rfl) (Nat.le_of_ble_eq_true rfl) (gk_45 N) rfl F (fun δ2 F => ?_)
        refine ms_seq mB_106 mO_106 [(.aload_n 0, 1), (.iload 6, 2), (.iload_n 2, 1), (.iload_n 3, 1), (.iconst 1, 1), (.iadd, 1)] (pc' := 78) (L' := [.ref 45, .int l1, .int l2, .int l3, .ref 4, .int l5, .int x1]) (st' := [.int (l3 + 1), .int l2, .int x1, .ref 45]) ⟨dX10_writeUnder_71, dX10_writeUnder_72, dX10_writeUnder_74, dX10_writeUnder_75, dX10_writeUnder_76, dX10_writeUnder_77, trivial⟩ rfl ?_
        refine ms_callsV mB_106 mO_106 (by omega) dX10_writeUnder_78 mQ_10_37 mC_10_37 mL_106 (by decide) rfl (Nat.le_of_ble_eq_true rfl) (Nat.le_of_ble_eq_true rfl) rfl F (fun δ3 F => ?_)
        refine ms_seq mB_106 mO_106 [(.iinc 5 1, 3)] (pc' := 84) (L' := [.ref 45, .int l1, .int l2, .int l3, .ref 4, .int (l5 + 1), .int x1]) (st' := []) ⟨dX10_writeUnder_81, trivial⟩ rfl ?_
        refine ms_goto mB_106 dX10_writeUnder_84 (t := 15) rfl ?_
        exact F
set_option maxRecDepth 100000 in
theorem q10_writeUnder_15a {N d : Nat} (hd : 5 ≤ d) {l1 l2 l3 l5 l6 : Int32} {δ : mi_D} {Q : mi_D → Prop} (F : ((l5 < (δ.1 4 9) → (∀ x1 : Int32, x1 = (mi_at δ 10 l5) → (((mi_at δ 7 x1) = l1 → (((mi_at δ 6 x1) = l2 → (mi_wV N (d - 1) 109 0 [.ref 45, .int x1, .null] [] δ (fun δ2 => (mi_wV N (d - 1) 106 0 [.ref 45, .int x1, .int l2, .int (l3 + 1), .null, .null, .null] [] δ2 (fun δ3 => mi_wV N d 106 15 [.ref 45, .int l1, .int l2, .int l3, .ref 4, .int (l5 + 1), .int x1] [] δ3 Q))))) ∧ (¬ (mi_at δ 6 x1) = l2 → mi_wV N d 106 15 [.ref 45, .int l1, .int l2, .int l3, .ref 4, .int (l5 + 1), .int x1] [] δ Q))) ∧ (¬ (mi_at δ 7 x1) = l1 → mi_wV N d 106 15 [.ref 45, .int l1, .int l2, .int l3, .ref 4, .int (l5 + 1), .int x1] [] δ Q)))) ∧ (¬ l5 < (δ.1 4 9) → Q δ))) : mi_wV N d 106 15 [.ref 45, .int l1, .int l2, .int l3, .ref 4, .int l5, .int l6] [] δ Q := by
  unfold mi_wV
  refine ms_seq mB_106 mO_106 [(.iload 5, 2), (.aload 4, 2)] (pc' := 19) (L' := [.ref 45, .int l1, .int l2, .int l3, .ref 4, .int l5, .int l6]) (st' := [.ref 4, .int l5]) ⟨dX10_writeUnder_15, dX10_writeUnder_17, trivial⟩ rfl ?_
  refine ms_getI mB_106 mO_106 dX10_writeUnder_19 mF_10_44 (gk_4 N) (Or.inl rfl) ?_
  refine ms_icmp_ge mB_106 dX10_writeUnder_22 (t := 87) rfl (fun c => ?_) (fun c => ?_)
  · have F := F.2 c
    exact ms_vret mB_106 dX10_writeUnder_87 mR_106 ⟨rfl, rfl, F⟩
  · have F := F.1 c
    refine ms_seq mB_106 mO_106 [(.aload 4, 2)] (pc' := 27) (L' := [.ref 45, .int l1, .int l2, .int l3, .ref 4, .int l5, .int l6]) (st' := [.ref 4]) ⟨dX10_writeUnder_25, trivial⟩ rfl ?_
    refine ms_getR mB_106 mO_106 dX10_writeUnder_27 mF_10_47 (gk_4 N) rfl (b := 10) (gr_4_5 N) ?_
    refine ms_seq mB_106 mO_106 [(.iload 5, 2)] (pc' := 32) (L' := [.ref 45, .int l1, .int l2, .int l3, .ref 4, .int l5, .int l6]) (st' := [.int l5, .ref 10]) ⟨dX10_writeUnder_30, trivial⟩ rfl ?_
    refine ms_at mB_106 mO_106 hd dX10_writeUnder_32 mQ_10_50 (Nat.le_of_ble_eq_true rfl) (gk_10 N) (mi_ne (gl_10 N)) ?_
    refine mr_topi (fun x1 e_x1 => ?_)
    have F := F x1 e_x1
    refine ms_seq mB_106 mO_106 [(.istore 6, 2), (.aload 4, 2)] (pc' := 39) (L' := [.ref 45, .int l1, .int l2, .int l3, .ref 4, .int l5, .int x1]) (st' := [.ref 4]) ⟨dX10_writeUnder_35, dX10_writeUnder_37, trivial⟩ rfl ?_
    refine ms_getR mB_106 mO_106 dX10_writeUnder_39 mF_10_70 (gk_4 N) rfl (b := 7) (gr_4_2 N) ?_
    refine ms_seq mB_106 mO_106 [(.iload 6, 2)] (pc' := 44) (L' := [.ref 45, .int l1, .int l2, .int l3, .ref 4, .int l5, .int x1]) (st' := [.int x1, .ref 7]) ⟨dX10_writeUnder_42, trivial⟩ rfl ?_
    refine ms_at mB_106 mO_106 hd dX10_writeUnder_44 mQ_10_50 (Nat.le_of_ble_eq_true rfl) (gk_7 N) (mi_ne (gl_7 N)) ?_
    refine ms_seq mB_106 mO_106 [(.iload_n 1, 1)] (pc' := 48) (L' := [.ref 45, .int l1, .int l2, .int l3, .ref 4, .int l5, .int x1]) (st' := [.int l1, .int (mi_at δ 7 x1)]) ⟨dX10_writeUnder_47, trivial⟩ rfl ?_
    refine ms_icmp_ne mB_106 dX10_writeUnder_48 (t := 81) rfl (fun c => ?_) (fun c => ?_)
    · have F := F.2 c
      refine ms_seq mB_106 mO_106 [(.iinc 5 1, 3)] (pc' := 84) (L' := [.ref 45, .int l1, .int l2, .int l3, .ref 4, .int (l5 + 1), .int x1]) (st' := []) ⟨dX10_writeUnder_81, trivial⟩ rfl ?_
      refine ms_goto mB_106 dX10_writeUnder_84 (t := 15) rfl ?_
      exact F
    · have F := F.1 c
      refine ms_seq mB_106 mO_106 [(.aload 4, 2)] (pc' := 53) (L' := [.ref 45, .int l1, .int l2, .int l3, .ref 4, .int l5, .int x1]) (st' := [.ref 4]) ⟨dX10_writeUnder_51, trivial⟩ rfl ?_
      refine ms_getR mB_106 mO_106 dX10_writeUnder_53 mF_10_73 (gk_4 N) rfl (b := 6) (gr_4_1 N) ?_
      refine ms_seq mB_106 mO_106 [(.iload 6, 2)] (pc' := 58) (L' := [.ref 45, .int l1, .int l2, .int l3, .ref 4, .int l5, .int x1]) (st' := [.int x1, .ref 6]) ⟨dX10_writeUnder_56, trivial⟩ rfl ?_
      refine ms_at mB_106 mO_106 hd dX10_writeUnder_58 mQ_10_50 (Nat.le_of_ble_eq_true rfl) (gk_6 N) (mi_ne (gl_6 N)) ?_
      refine ms_seq mB_106 mO_106 [(.iload_n 2, 1)] (pc' := 62) (L' := [.ref 45, .int l1, .int l2, .int l3, .ref 4, .int l5, .int x1]) (st' := [.int l2, .int (mi_at δ 6 x1)]) ⟨dX10_writeUnder_61, trivial⟩ rfl ?_
      refine ms_icmp_ne mB_106 dX10_writeUnder_62 (t := 81) rfl (fun c => ?_) (fun c => ?_)
      · have F := F.2 c
        refine ms_seq mB_106 mO_106 [(.iinc 5 1, 3)] (pc' := 84) (L' := [.ref 45, .int l1, .int l2, .int l3, .ref 4, .int (l5 + 1), .int x1]) (st' := []) ⟨dX10_writeUnder_81, trivial⟩ rfl ?_
        refine ms_goto mB_106 dX10_writeUnder_84 (t := 15) rfl ?_
        exact F
      · have F := F.1 c
        refine ms_seq mB_106 mO_106 [(.aload_n 0, 1), (.iload 6, 2)] (pc' := 68) (L' := [.ref 45, .int l1, .int l2, .int l3, .ref 4, .int l5, .int x1]) (st' := [.int x1, .ref 45]) ⟨dX10_writeUnder_65, dX10_writeUnder_66, trivial⟩ rfl ?_
        refine ms_callvV mB_106 mO_106 (by omega) dX10_writeUnder_68 mQ_10_67 mC_10_67 mL_109 mO_109 rfl (Nat.le_of_ble_eq_true rfl) (Nat.le_of_ble_eq_true rfl) (gk_45 N) rfl F (fun δ2 F => ?_)
        refine ms_seq mB_106 mO_106 [(.aload_n 0, 1), (.iload 6, 2), (.iload_n 2, 1), (.iload_n 3, 1), (.iconst 1, 1), (.iadd, 1)] (pc' := 78) (L' := [.ref 45, .int l1, .int l2, .int l3, .ref 4, .int l5, .int x1]) (st' := [.int (l3 + 1), .int l2, .int x1, .ref 45]) ⟨dX10_writeUnder_71, dX10_writeUnder_72, dX10_writeUnder_74, dX10_writeUnder_75, dX10_writeUnder_76, dX10_writeUnder_77, trivial⟩ rfl ?_
        refine ms_callsV mB_106 mO_106 (by omega) dX10_writeUnder_78 mQ_10_37 mC_10_37 mL_106 (by decide) rfl (Nat.le_of_ble_eq_true rfl) (Nat.le_of_ble_eq_true rfl) rfl F (fun δ3 F => ?_)
        refine ms_seq mB_106 mO_106 [(.iinc 5 1, 3)] (pc' := 84) (L' := [.ref 45, .int l1, .int l2, .int l3, .ref 4, .int (l5 + 1), .int x1]) (st' := []) ⟨dX10_writeUnder_81, trivial⟩ rfl ?_
        refine ms_goto mB_106 dX10_writeUnder_84 (t := 15) rfl ?_
        exact F
set_option maxRecDepth 100000 in
theorem q10_writeKinds_0 {N d : Nat} (hd : 5 ≤ d) {δ : mi_D} {Q : mi_D → Prop} (F : mi_wV N d 107 4 [.ref 45, .long 0, .null, .int 0, .null, .null] [] δ Q) : mi_wV N d 107 0 [.ref 45, .null, .null, .null, .null, .null] [] δ Q := by
  unfold mi_wV
  refine ms_seq mB_107 mO_107 [(.lconst 0, 1), (.lstore_n 1, 1), (.iconst 0, 1), (.istore_n 3, 1)] (pc' := 4) (L' := [.ref 45, .long 0, .null, .int 0, .null, .null]) (st' := []) ⟨dX10_writeKinds_0, dX10_writeKinds_1, dX10_writeKinds_2, dX10_writeKinds_3, trivial⟩ rfl ?_
  exact F
set_option maxRecDepth 100000 in
theorem q10_writeKinds_4 {N d : Nat} (hd : 5 ≤ d) {l3 : Int32} {l1 : Int64} {δ : mi_D} {Q : mi_D → Prop} (F : ((l3 < 5 → (mi_wL N (d - 1) 13 0 [.ref 4, .int l3, .null, .null, .null] [] δ (fun r3 δ2 => (∀ x4 : Int64, x4 = (l1 + r3) → ((l3 < (nI 5) → (mi_ix l3 5 = true ∧ mi_wV N d 107 43 [.ref 45, .long x4, .null, .int l3, .long r3, .null] [.int (δ2.2.1 1 (Int32.toNatClampNeg l3)), .ref 45] δ2 Q)) ∧ (¬ l3 < (nI 5) → mi_wV N d 107 43 [.ref 45, .long x4, .null, .int l3, .long r3, .null] [.int 32, .ref 45] δ2 Q)))))) ∧ (¬ l3 < 5 → (mi_wV N (d - 1) 108 0 [.ref 45, .int 61, .long l1, .null] [] δ (fun δ1 => Q δ1))))) : mi_wV N d 107 4 [.ref 45, .long l1, .null, .int l3, .null, .null] [] δ Q := by
  unfold mi_wV
  refine ms_seq mB_107 mO_107 [(.iload_n 3, 1), (.iconst 5, 1)] (pc' := 6) (L' := [.ref 45, .long l1, .null, .int l3, .null, .null]) (st' := [.int 5, .int l3]) ⟨dX10_writeKinds_4, dX10_writeKinds_5, trivial⟩ rfl ?_
  refine ms_icmp_ge mB_107 dX10_writeKinds_6 (t := 54) rfl (fun c => ?_) (fun c => ?_)
  · have F := F.2 c
    refine ms_seq mB_107 mO_107 [(.aload_n 0, 1), (.bipush 61, 2), (.lload_n 1, 1)] (pc' := 58) (L' := [.ref 45, .long l1, .null, .int l3, .null, .null]) (st' := [.long l1, .int 61, .ref 45]) ⟨dX10_writeKinds_54, dX10_writeKinds_55, dX10_writeKinds_57, trivial⟩ rfl ?_
    refine ms_callvV mB_107 mO_107 (by omega) dX10_writeKinds_58 mQ_10_83 mC_10_83 mL_108 mO_108 rfl (Nat.le_of_ble_eq_true rfl) (Nat.le_of_ble_eq_true rfl) (gk_45 N) rfl F (fun δ1 F => ?_)
    exact ms_vret mB_107 dX10_writeKinds_61 mR_107 ⟨rfl, rfl, F⟩
  · have F := F.1 c
    refine ms_seq mB_107 mO_107 [(.aload_n 0, 1)] (pc' := 10) (L' := [.ref 45, .long l1, .null, .int l3, .null, .null]) (st' := [.ref 45]) ⟨dX10_writeKinds_9, trivial⟩ rfl ?_
    refine ms_getR mB_107 mO_107 dX10_writeKinds_10 mF_10_23 (gk_45 N) rfl (b := 4) (gr_45_1 N) ?_
    refine ms_seq mB_107 mO_107 [(.iload_n 3, 1)] (pc' := 14) (L' := [.ref 45, .long l1, .null, .int l3, .null, .null]) (st' := [.int l3, .ref 4]) ⟨dX10_writeKinds_13, trivial⟩ rfl ?_
    refine ms_callvL mB_107 mO_107 (by omega) dX10_writeKinds_14 mQ_10_76 mC_10_76 mL_13 mO_13 rfl (Nat.le_of_ble_eq_true rfl) (Nat.le_of_ble_eq_true rfl) (gk_4 N) rfl F (fun r3 δ2 F => ?_)
    refine ms_seq mB_107 mO_107 [(.lstore 4, 2), (.lload_n 1, 1), (.lload 4, 2), (.ladd, 1)] (pc' := 23) (L' := [.ref 45, .long l1, .null, .int l3, .long r3, .null]) (st' := [.long (l1 + r3)]) ⟨dX10_writeKinds_17, dX10_writeKinds_19, dX10_writeKinds_20, dX10_writeKinds_22, trivial⟩ rfl ?_
    refine mr_topl (fun x4 e_x4 => ?_)
    have F := F x4 e_x4
    refine ms_seq mB_107 mO_107 [(.lstore_n 1, 1), (.aload_n 0, 1), (.iload_n 3, 1)] (pc' := 26) (L' := [.ref 45, .long x4, .null, .int l3, .long r3, .null]) (st' := [.int l3, .ref 45]) ⟨dX10_writeKinds_23, dX10_writeKinds_24, dX10_writeKinds_25, trivial⟩ rfl ?_
    refine ms_gets mB_107 mO_107 dX10_writeKinds_26 rfl (gk_1 N) ?_
    refine ms_alen mB_107 dX10_writeKinds_29 (by rw [gk_1 N]; decide) ?_
    rw [gl_1 N]
    refine ms_icmp_ge mB_107 dX10_writeKinds_30 (t := 41) rfl (fun c => ?_) (fun c => ?_)
    · have F := F.2 c
      refine ms_seq mB_107 mO_107 [(.bipush 32, 2)] (pc' := 43) (L' := [.ref 45, .long x4, .null, .int l3, .long r3, .null]) (st' := [.int 32, .ref 45]) ⟨dX10_writeKinds_41, trivial⟩ rfl ?_
      exact F
    · have F := F.1 c
      refine ms_gets mB_107 mO_107 dX10_writeKinds_33 rfl (gk_1 N) ?_
      refine ms_seq mB_107 mO_107 [(.iload_n 3, 1)] (pc' := 37) (L' := [.ref 45, .long x4, .null, .int l3, .long r3, .null]) (st' := [.int l3, .ref 1, .ref 45]) ⟨dX10_writeKinds_36, trivial⟩ rfl ?_
      have G := F.1
      have F := F.2
      refine ms_cald mB_107 dX10_writeKinds_37 (gk_1 N) (by rw [gl_1 N]; exact G) ?_
      refine ms_goto mB_107 dX10_writeKinds_38 (t := 43) rfl ?_
      exact F
set_option maxRecDepth 100000 in
theorem q10_writeKinds_43 {N d : Nat} (hd : 5 ≤ d) {l3 s1 : Int32} {l1 l4 : Int64} {δ : mi_D} {Q : mi_D → Prop} (F : (mi_wV N (d - 1) 108 0 [.ref 45, .int s1, .long l4, .null] [] δ (fun δ1 => mi_wV N d 107 4 [.ref 45, .long l1, .null, .int (l3 + 1), .long l4, .null] [] δ1 Q))) : mi_wV N d 107 43 [.ref 45, .long l1, .null, .int l3, .long l4, .null] [.int s1, .ref 45] δ Q := by
  unfold mi_wV
  refine ms_seq mB_107 mO_107 [(.lload 4, 2)] (pc' := 45) (L' := [.ref 45, .long l1, .null, .int l3, .long l4, .null]) (st' := [.long l4, .int s1, .ref 45]) ⟨dX10_writeKinds_43, trivial⟩ rfl ?_
  refine ms_callvV mB_107 mO_107 (by omega) dX10_writeKinds_45 mQ_10_83 mC_10_83 mL_108 mO_108 rfl (Nat.le_of_ble_eq_true rfl) (Nat.le_of_ble_eq_true rfl) (gk_45 N) rfl F (fun δ1 F => ?_)
  refine ms_seq mB_107 mO_107 [(.iinc 3 1, 3)] (pc' := 51) (L' := [.ref 45, .long l1, .null, .int (l3 + 1), .long l4, .null]) (st' := []) ⟨dX10_writeKinds_48, trivial⟩ rfl ?_
  refine ms_goto mB_107 dX10_writeKinds_51 (t := 4) rfl ?_
  exact F
set_option maxRecDepth 100000 in
theorem q10_writeKinds_4a {N d : Nat} (hd : 5 ≤ d) {l3 : Int32} {l1 l4 : Int64} {δ : mi_D} {Q : mi_D → Prop} (F : ((l3 < 5 → (mi_wL N (d - 1) 13 0 [.ref 4, .int l3, .null, .null, .null] [] δ (fun r3 δ2 => (∀ x4 : Int64, x4 = (l1 + r3) → ((l3 < (nI 5) → (mi_ix l3 5 = true ∧ mi_wV N d 107 43 [.ref 45, .long x4, .null, .int l3, .long r3, .null] [.int (δ2.2.1 1 (Int32.toNatClampNeg l3)), .ref 45] δ2 Q)) ∧ (¬ l3 < (nI 5) → mi_wV N d 107 43 [.ref 45, .long x4, .null, .int l3, .long r3, .null] [.int 32, .ref 45] δ2 Q)))))) ∧ (¬ l3 < 5 → (mi_wV N (d - 1) 108 0 [.ref 45, .int 61, .long l1, .null] [] δ (fun δ1 => Q δ1))))) : mi_wV N d 107 4 [.ref 45, .long l1, .null, .int l3, .long l4, .null] [] δ Q := by
  unfold mi_wV
  refine ms_seq mB_107 mO_107 [(.iload_n 3, 1), (.iconst 5, 1)] (pc' := 6) (L' := [.ref 45, .long l1, .null, .int l3, .long l4, .null]) (st' := [.int 5, .int l3]) ⟨dX10_writeKinds_4, dX10_writeKinds_5, trivial⟩ rfl ?_
  refine ms_icmp_ge mB_107 dX10_writeKinds_6 (t := 54) rfl (fun c => ?_) (fun c => ?_)
  · have F := F.2 c
    refine ms_seq mB_107 mO_107 [(.aload_n 0, 1), (.bipush 61, 2), (.lload_n 1, 1)] (pc' := 58) (L' := [.ref 45, .long l1, .null, .int l3, .long l4, .null]) (st' := [.long l1, .int 61, .ref 45]) ⟨dX10_writeKinds_54, dX10_writeKinds_55, dX10_writeKinds_57, trivial⟩ rfl ?_
    refine ms_callvV mB_107 mO_107 (by omega) dX10_writeKinds_58 mQ_10_83 mC_10_83 mL_108 mO_108 rfl (Nat.le_of_ble_eq_true rfl) (Nat.le_of_ble_eq_true rfl) (gk_45 N) rfl F (fun δ1 F => ?_)
    exact ms_vret mB_107 dX10_writeKinds_61 mR_107 ⟨rfl, rfl, F⟩
  · have F := F.1 c
    refine ms_seq mB_107 mO_107 [(.aload_n 0, 1)] (pc' := 10) (L' := [.ref 45, .long l1, .null, .int l3, .long l4, .null]) (st' := [.ref 45]) ⟨dX10_writeKinds_9, trivial⟩ rfl ?_
    refine ms_getR mB_107 mO_107 dX10_writeKinds_10 mF_10_23 (gk_45 N) rfl (b := 4) (gr_45_1 N) ?_
    refine ms_seq mB_107 mO_107 [(.iload_n 3, 1)] (pc' := 14) (L' := [.ref 45, .long l1, .null, .int l3, .long l4, .null]) (st' := [.int l3, .ref 4]) ⟨dX10_writeKinds_13, trivial⟩ rfl ?_
    refine ms_callvL mB_107 mO_107 (by omega) dX10_writeKinds_14 mQ_10_76 mC_10_76 mL_13 mO_13 rfl (Nat.le_of_ble_eq_true rfl) (Nat.le_of_ble_eq_true rfl) (gk_4 N) rfl F (fun r3 δ2 F => ?_)
    refine ms_seq mB_107 mO_107 [(.lstore 4, 2), (.lload_n 1, 1), (.lload 4, 2), (.ladd, 1)] (pc' := 23) (L' := [.ref 45, .long l1, .null, .int l3, .long r3, .null]) (st' := [.long (l1 + r3)]) ⟨dX10_writeKinds_17, dX10_writeKinds_19, dX10_writeKinds_20, dX10_writeKinds_22, trivial⟩ rfl ?_
    refine mr_topl (fun x4 e_x4 => ?_)
    have F := F x4 e_x4
    refine ms_seq mB_107 mO_107 [(.lstore_n 1, 1), (.aload_n 0, 1), (.iload_n 3, 1)] (pc' := 26) (L' := [.ref 45, .long x4, .null, .int l3, .long r3, .null]) (st' := [.int l3, .ref 45]) ⟨dX10_writeKinds_23, dX10_writeKinds_24, dX10_writeKinds_25, trivial⟩ rfl ?_
    refine ms_gets mB_107 mO_107 dX10_writeKinds_26 rfl (gk_1 N) ?_
    refine ms_alen mB_107 dX10_writeKinds_29 (by rw [gk_1 N]; decide) ?_
    rw [gl_1 N]
    refine ms_icmp_ge mB_107 dX10_writeKinds_30 (t := 41) rfl (fun c => ?_) (fun c => ?_)
    · have F := F.2 c
      refine ms_seq mB_107 mO_107 [(.bipush 32, 2)] (pc' := 43) (L' := [.ref 45, .long x4, .null, .int l3, .long r3, .null]) (st' := [.int 32, .ref 45]) ⟨dX10_writeKinds_41, trivial⟩ rfl ?_
      exact F
    · have F := F.1 c
      refine ms_gets mB_107 mO_107 dX10_writeKinds_33 rfl (gk_1 N) ?_
      refine ms_seq mB_107 mO_107 [(.iload_n 3, 1)] (pc' := 37) (L' := [.ref 45, .long x4, .null, .int l3, .long r3, .null]) (st' := [.int l3, .ref 1, .ref 45]) ⟨dX10_writeKinds_36, trivial⟩ rfl ?_
      have G := F.1
      have F := F.2
      refine ms_cald mB_107 dX10_writeKinds_37 (gk_1 N) (by rw [gl_1 N]; exact G) ?_
      refine ms_goto mB_107 dX10_writeKinds_38 (t := 43) rfl ?_
      exact F
set_option maxRecDepth 100000 in
theorem q10_writeTotal_0 {N d : Nat} (hd : 5 ≤ d) {p0 : Int32} {p1 : Int64} {δ : mi_D} {Q : mi_D → Prop} (F : (mi_wV N (d - 1) 111 0 [.ref 45, .int p0] [] δ (fun δ1 => (mi_wV N (d - 1) 111 0 [.ref 45, .int 32] [] δ1 (fun δ2 => (mi_wV N (d - 1) 110 0 [.ref 45, .long p1, .null, .null, .null, .null, .null] [] δ2 (fun δ3 => (mi_wV N (d - 1) 111 0 [.ref 45, .int 10] [] δ3 (fun δ4 => Q δ4))))))))) : mi_wV N d 108 0 [.ref 45, .int p0, .long p1, .null] [] δ Q := by
  unfold mi_wV
  refine ms_seq mB_108 mO_108 [(.aload_n 0, 1), (.iload_n 1, 1)] (pc' := 2) (L' := [.ref 45, .int p0, .long p1, .null]) (st' := [.int p0, .ref 45]) ⟨dX10_writeTotal_0, dX10_writeTotal_1, trivial⟩ rfl ?_
  refine ms_callvV mB_108 mO_108 (by omega) dX10_writeTotal_2 mQ_10_87 mC_10_87 mL_111 mO_111 rfl (Nat.le_of_ble_eq_true rfl) (Nat.le_of_ble_eq_true rfl) (gk_45 N) rfl F (fun δ1 F => ?_)
  refine ms_seq mB_108 mO_108 [(.aload_n 0, 1), (.bipush 32, 2)] (pc' := 8) (L' := [.ref 45, .int p0, .long p1, .null]) (st' := [.int 32, .ref 45]) ⟨dX10_writeTotal_5, dX10_writeTotal_6, trivial⟩ rfl ?_
  refine ms_callvV mB_108 mO_108 (by omega) dX10_writeTotal_8 mQ_10_87 mC_10_87 mL_111 mO_111 rfl (Nat.le_of_ble_eq_true rfl) (Nat.le_of_ble_eq_true rfl) (gk_45 N) rfl F (fun δ2 F => ?_)
  refine ms_seq mB_108 mO_108 [(.aload_n 0, 1), (.lload_n 2, 1)] (pc' := 13) (L' := [.ref 45, .int p0, .long p1, .null]) (st' := [.long p1, .ref 45]) ⟨dX10_writeTotal_11, dX10_writeTotal_12, trivial⟩ rfl ?_
  refine ms_callvV mB_108 mO_108 (by omega) dX10_writeTotal_13 mQ_10_90 mC_10_90 mL_110 mO_110 rfl (Nat.le_of_ble_eq_true rfl) (Nat.le_of_ble_eq_true rfl) (gk_45 N) rfl F (fun δ3 F => ?_)
  refine ms_seq mB_108 mO_108 [(.aload_n 0, 1), (.bipush 10, 2)] (pc' := 19) (L' := [.ref 45, .int p0, .long p1, .null]) (st' := [.int 10, .ref 45]) ⟨dX10_writeTotal_16, dX10_writeTotal_17, trivial⟩ rfl ?_
  refine ms_callvV mB_108 mO_108 (by omega) dX10_writeTotal_19 mQ_10_87 mC_10_87 mL_111 mO_111 rfl (Nat.le_of_ble_eq_true rfl) (Nat.le_of_ble_eq_true rfl) (gk_45 N) rfl F (fun δ4 F => ?_)
  exact ms_vret mB_108 dX10_writeTotal_22 mR_108 ⟨rfl, rfl, F⟩
set_option maxRecDepth 100000 in
theorem q10_writeRow_0 {N d : Nat} (hd : 5 ≤ d) {p0 : Int32} {δ : mi_D} {Q : mi_D → Prop} (F : mi_wV N d 109 2 [.ref 45, .int p0, .int 0] [] δ Q) : mi_wV N d 109 0 [.ref 45, .int p0, .null] [] δ Q := by
  unfold mi_wV
  refine ms_seq mB_109 mO_109 [(.iconst 0, 1), (.istore_n 2, 1)] (pc' := 2) (L' := [.ref 45, .int p0, .int 0]) (st' := []) ⟨dX10_writeRow_0, dX10_writeRow_1, trivial⟩ rfl ?_
  exact F
set_option maxRecDepth 100000 in
theorem q10_writeRow_2 {N d : Nat} (hd : 5 ≤ d) {l1 l2 : Int32} {δ : mi_D} {Q : mi_D → Prop} (F : ((l2 < (mi_at δ 8 l1) → (mi_wV N (d - 1) 111 0 [.ref 45, .int 32] [] δ (fun δ11 => (mi_wV N (d - 1) 111 0 [.ref 45, .int 32] [] δ11 (fun δ12 => mi_wV N d 109 2 [.ref 45, .int l1, .int (l2 + 1)] [] δ12 Q))))) ∧ (¬ l2 < (mi_at δ 8 l1) → (∀ x1 : Int32, x1 = (mi_at δ 5 l1) → (mi_wV N (d - 1) 111 0 [.ref 45, .int (48 + ((x1 / 1000) - (x1 / 1000) / 10 * 10))] [] δ (fun δ2 => (mi_wV N (d - 1) 111 0 [.ref 45, .int (48 + ((x1 / 100) - (x1 / 100) / 10 * 10))] [] δ2 (fun δ3 => (mi_wV N (d - 1) 111 0 [.ref 45, .int (48 + ((x1 / 10) - (x1 / 10) / 10 * 10))] [] δ3 (fun δ4 => (mi_wV N (d - 1) 111 0 [.ref 45, .int (48 + (x1 - x1 / 10 * 10))] [] δ4 (fun δ5 => (mi_wV N (d - 1) 111 0 [.ref 45, .int 32] [] δ5 (fun δ6 => (mi_wL N (d - 1) 11 0 [.ref 4, .int l1, .ref 11, .null, .null, .null] [] δ6 (fun r8 δ7 => (mi_wV N (d - 1) 110 0 [.ref 45, .long r8, .null, .null, .null, .null, .null] [] δ7 (fun δ9 => (mi_wV N (d - 1) 111 0 [.ref 45, .int 10] [] δ9 (fun δ10 => Q δ10)))))))))))))))))))) : mi_wV N d 109 2 [.ref 45, .int l1, .int l2] [] δ Q := by
  unfold mi_wV
  refine ms_seq mB_109 mO_109 [(.iload_n 2, 1), (.aload_n 0, 1)] (pc' := 4) (L' := [.ref 45, .int l1, .int l2]) (st' := [.ref 45, .int l2]) ⟨dX10_writeRow_2, dX10_writeRow_3, trivial⟩ rfl ?_
  refine ms_getR mB_109 mO_109 dX10_writeRow_4 mF_10_23 (gk_45 N) rfl (b := 4) (gr_45_1 N) ?_
  refine ms_getR mB_109 mO_109 dX10_writeRow_7 mF_10_94 (gk_4 N) rfl (b := 8) (gr_4_3 N) ?_
  refine ms_seq mB_109 mO_109 [(.iload_n 1, 1)] (pc' := 11) (L' := [.ref 45, .int l1, .int l2]) (st' := [.int l1, .ref 8, .int l2]) ⟨dX10_writeRow_10, trivial⟩ rfl ?_
  refine ms_at mB_109 mO_109 hd dX10_writeRow_11 mQ_10_50 (Nat.le_of_ble_eq_true rfl) (gk_8 N) (mi_ne (gl_8 N)) ?_
  refine ms_icmp_ge mB_109 dX10_writeRow_14 (t := 35) rfl (fun c => ?_) (fun c => ?_)
  · have F := F.2 c
    refine ms_seq mB_109 mO_109 [(.aload_n 0, 1)] (pc' := 36) (L' := [.ref 45, .int l1, .int l2]) (st' := [.ref 45]) ⟨dX10_writeRow_35, trivial⟩ rfl ?_
    refine ms_getR mB_109 mO_109 dX10_writeRow_36 mF_10_23 (gk_45 N) rfl (b := 4) (gr_45_1 N) ?_
    refine ms_getR mB_109 mO_109 dX10_writeRow_39 mF_10_97 (gk_4 N) rfl (b := 5) (gr_4_0 N) ?_
    refine ms_seq mB_109 mO_109 [(.iload_n 1, 1)] (pc' := 43) (L' := [.ref 45, .int l1, .int l2]) (st' := [.int l1, .ref 5]) ⟨dX10_writeRow_42, trivial⟩ rfl ?_
    refine ms_at mB_109 mO_109 hd dX10_writeRow_43 mQ_10_50 (Nat.le_of_ble_eq_true rfl) (gk_5 N) (mi_ne (gl_5 N)) ?_
    refine mr_topi (fun x1 e_x1 => ?_)
    have F := F x1 e_x1
    refine ms_seq mB_109 mO_109 [(.istore_n 2, 1), (.aload_n 0, 1), (.bipush 48, 2), (.iload_n 2, 1), (.sipush 1000, 3)] (pc' := 54) (L' := [.ref 45, .int l1, .int x1]) (st' := [.int 1000, .int x1, .int 48, .ref 45]) ⟨dX10_writeRow_46, dX10_writeRow_47, dX10_writeRow_48, dX10_writeRow_50, dX10_writeRow_51, trivial⟩ rfl ?_
    refine ms_idiv mB_109 dX10_writeRow_54 (by decide) ?_
    refine ms_seq mB_109 mO_109 [(.bipush 10, 2)] (pc' := 57) (L' := [.ref 45, .int l1, .int x1]) (st' := [.int 10, .int (x1 / 1000), .int 48, .ref 45]) ⟨dX10_writeRow_55, trivial⟩ rfl ?_
    refine ms_irem mB_109 dX10_writeRow_57 (by decide) ?_
    refine ms_seq mB_109 mO_109 [(.iadd, 1)] (pc' := 59) (L' := [.ref 45, .int l1, .int x1]) (st' := [.int (48 + ((x1 / 1000) - (x1 / 1000) / 10 * 10)), .ref 45]) ⟨dX10_writeRow_58, trivial⟩ rfl ?_
    refine ms_callvV mB_109 mO_109 (by omega) dX10_writeRow_59 mQ_10_87 mC_10_87 mL_111 mO_111 rfl (Nat.le_of_ble_eq_true rfl) (Nat.le_of_ble_eq_true rfl) (gk_45 N) rfl F (fun δ2 F => ?_)
    refine ms_seq mB_109 mO_109 [(.aload_n 0, 1), (.bipush 48, 2), (.iload_n 2, 1), (.bipush 100, 2)] (pc' := 68) (L' := [.ref 45, .int l1, .int x1]) (st' := [.int 100, .int x1, .int 48, .ref 45]) ⟨dX10_writeRow_62, dX10_writeRow_63, dX10_writeRow_65, dX10_writeRow_66, trivial⟩ rfl ?_
    refine ms_idiv mB_109 dX10_writeRow_68 (by decide) ?_
    refine ms_seq mB_109 mO_109 [(.bipush 10, 2)] (pc' := 71) (L' := [.ref 45, .int l1, .int x1]) (st' := [.int 10, .int (x1 / 100), .int 48, .ref 45]) ⟨dX10_writeRow_69, trivial⟩ rfl ?_
    refine ms_irem mB_109 dX10_writeRow_71 (by decide) ?_
    refine ms_seq mB_109 mO_109 [(.iadd, 1)] (pc' := 73) (L' := [.ref 45, .int l1, .int x1]) (st' := [.int (48 + ((x1 / 100) - (x1 / 100) / 10 * 10)), .ref 45]) ⟨dX10_writeRow_72, trivial⟩ rfl ?_
    refine ms_callvV mB_109 mO_109 (by omega) dX10_writeRow_73 mQ_10_87 mC_10_87 mL_111 mO_111 rfl (Nat.le_of_ble_eq_true rfl) (Nat.le_of_ble_eq_true rfl) (gk_45 N) rfl F (fun δ3 F => ?_)
    refine ms_seq mB_109 mO_109 [(.aload_n 0, 1), (.bipush 48, 2), (.iload_n 2, 1), (.bipush 10, 2)] (pc' := 82) (L' := [.ref 45, .int l1, .int x1]) (st' := [.int 10, .int x1, .int 48, .ref 45]) ⟨dX10_writeRow_76, dX10_writeRow_77, dX10_writeRow_79, dX10_writeRow_80, trivial⟩ rfl ?_
    refine ms_idiv mB_109 dX10_writeRow_82 (by decide) ?_
    refine ms_seq mB_109 mO_109 [(.bipush 10, 2)] (pc' := 85) (L' := [.ref 45, .int l1, .int x1]) (st' := [.int 10, .int (x1 / 10), .int 48, .ref 45]) ⟨dX10_writeRow_83, trivial⟩ rfl ?_
    refine ms_irem mB_109 dX10_writeRow_85 (by decide) ?_
    refine ms_seq mB_109 mO_109 [(.iadd, 1)] (pc' := 87) (L' := [.ref 45, .int l1, .int x1]) (st' := [.int (48 + ((x1 / 10) - (x1 / 10) / 10 * 10)), .ref 45]) ⟨dX10_writeRow_86, trivial⟩ rfl ?_
    refine ms_callvV mB_109 mO_109 (by omega) dX10_writeRow_87 mQ_10_87 mC_10_87 mL_111 mO_111 rfl (Nat.le_of_ble_eq_true rfl) (Nat.le_of_ble_eq_true rfl) (gk_45 N) rfl F (fun δ4 F => ?_)
    refine ms_seq mB_109 mO_109 [(.aload_n 0, 1), (.bipush 48, 2), (.iload_n 2, 1), (.bipush 10, 2)] (pc' := 96) (L' := [.ref 45, .int l1, .int x1]) (st' := [.int 10, .int x1, .int 48, .ref 45]) ⟨dX10_writeRow_90, dX10_writeRow_91, dX10_writeRow_93, dX10_writeRow_94, trivial⟩ rfl ?_
    refine ms_irem mB_109 dX10_writeRow_96 (by decide) ?_
    refine ms_seq mB_109 mO_109 [(.iadd, 1)] (pc' := 98) (L' := [.ref 45, .int l1, .int x1]) (st' := [.int (48 + (x1 - x1 / 10 * 10)), .ref 45]) ⟨dX10_writeRow_97, trivial⟩ rfl ?_
    refine ms_callvV mB_109 mO_109 (by omega) dX10_writeRow_98 mQ_10_87 mC_10_87 mL_111 mO_111 rfl (Nat.le_of_ble_eq_true rfl) (Nat.le_of_ble_eq_true rfl) (gk_45 N) rfl F (fun δ5 F => ?_)
    refine ms_seq mB_109 mO_109 [(.aload_n 0, 1), (.bipush 32, 2)] (pc' := 104) (L' := [.ref 45, .int l1, .int x1]) (st' := [.int 32, .ref 45]) ⟨dX10_writeRow_101, dX10_writeRow_102, trivial⟩ rfl ?_
    refine ms_callvV mB_109 mO_109 (by omega) dX10_writeRow_104 mQ_10_87 mC_10_87 mL_111 mO_111 rfl (Nat.le_of_ble_eq_true rfl) (Nat.le_of_ble_eq_true rfl) (gk_45 N) rfl F (fun δ6 F => ?_)
    refine ms_seq mB_109 mO_109 [(.aload_n 0, 1), (.aload_n 0, 1)] (pc' := 109) (L' := [.ref 45, .int l1, .int x1]) (st' := [.ref 45, .ref 45]) ⟨dX10_writeRow_107, dX10_writeRow_108, trivial⟩ rfl ?_
    refine ms_getR mB_109 mO_109 dX10_writeRow_109 mF_10_23 (gk_45 N) rfl (b := 4) (gr_45_1 N) ?_
    refine ms_seq mB_109 mO_109 [(.iload_n 1, 1), (.aload_n 0, 1)] (pc' := 114) (L' := [.ref 45, .int l1, .int x1]) (st' := [.ref 45, .int l1, .ref 4, .ref 45]) ⟨dX10_writeRow_112, dX10_writeRow_113, trivial⟩ rfl ?_
    refine ms_getR mB_109 mO_109 dX10_writeRow_114 mF_10_23 (gk_45 N) rfl (b := 4) (gr_45_1 N) ?_
    refine ms_getR mB_109 mO_109 dX10_writeRow_117 mF_10_58 (gk_4 N) rfl (b := 11) (gr_4_6 N) ?_
    refine ms_callvL mB_109 mO_109 (by omega) dX10_writeRow_120 mQ_10_100 mC_10_100 mL_11 mO_11 rfl (Nat.le_of_ble_eq_true rfl) (Nat.le_of_ble_eq_true rfl) (gk_4 N) rfl F (fun r8 δ7 F => ?_)
    refine ms_callvV mB_109 mO_109 (by omega) dX10_writeRow_123 mQ_10_90 mC_10_90 mL_110 mO_110 rfl (Nat.le_of_ble_eq_true rfl) (Nat.le_of_ble_eq_true rfl) (gk_45 N) rfl F (fun δ9 F => ?_)
    refine ms_seq mB_109 mO_109 [(.aload_n 0, 1), (.bipush 10, 2)] (pc' := 129) (L' := [.ref 45, .int l1, .int x1]) (st' := [.int 10, .ref 45]) ⟨dX10_writeRow_126, dX10_writeRow_127, trivial⟩ rfl ?_
    refine ms_callvV mB_109 mO_109 (by omega) dX10_writeRow_129 mQ_10_87 mC_10_87 mL_111 mO_111 rfl (Nat.le_of_ble_eq_true rfl) (Nat.le_of_ble_eq_true rfl) (gk_45 N) rfl F (fun δ10 F => ?_)
    exact ms_vret mB_109 dX10_writeRow_132 mR_109 ⟨rfl, rfl, F⟩
  · have F := F.1 c
    refine ms_seq mB_109 mO_109 [(.aload_n 0, 1), (.bipush 32, 2)] (pc' := 20) (L' := [.ref 45, .int l1, .int l2]) (st' := [.int 32, .ref 45]) ⟨dX10_writeRow_17, dX10_writeRow_18, trivial⟩ rfl ?_
    refine ms_callvV mB_109 mO_109 (by omega) dX10_writeRow_20 mQ_10_87 mC_10_87 mL_111 mO_111 rfl (Nat.le_of_ble_eq_true rfl) (Nat.le_of_ble_eq_true rfl) (gk_45 N) rfl F (fun δ11 F => ?_)
    refine ms_seq mB_109 mO_109 [(.aload_n 0, 1), (.bipush 32, 2)] (pc' := 26) (L' := [.ref 45, .int l1, .int l2]) (st' := [.int 32, .ref 45]) ⟨dX10_writeRow_23, dX10_writeRow_24, trivial⟩ rfl ?_
    refine ms_callvV mB_109 mO_109 (by omega) dX10_writeRow_26 mQ_10_87 mC_10_87 mL_111 mO_111 rfl (Nat.le_of_ble_eq_true rfl) (Nat.le_of_ble_eq_true rfl) (gk_45 N) rfl F (fun δ12 F => ?_)
    refine ms_seq mB_109 mO_109 [(.iinc 2 1, 3)] (pc' := 32) (L' := [.ref 45, .int l1, .int (l2 + 1)]) (st' := []) ⟨dX10_writeRow_29, trivial⟩ rfl ?_
    refine ms_goto mB_109 dX10_writeRow_32 (t := 2) rfl ?_
    exact F
set_option maxRecDepth 100000 in
theorem q10_putMoney_0 {N d : Nat} (hd : 5 ≤ d) {p0 : Int64} {δ : mi_D} {Q : mi_D → Prop} (F : (((lg_cmp p0 0) < 0 → (mi_wV N (d - 1) 111 0 [.ref 45, .int 45] [] δ (fun δ1 => mi_wV N d 110 12 [.ref 45, .long p0, .null, .null, .null, .null, .null] [] δ1 Q))) ∧ (¬ (lg_cmp p0 0) < 0 → mi_wV N d 110 12 [.ref 45, .long p0, .null, .null, .null, .null, .null] [] δ Q))) : mi_wV N d 110 0 [.ref 45, .long p0, .null, .null, .null, .null, .null] [] δ Q := by
  unfold mi_wV
  refine ms_seq mB_110 mO_110 [(.lload_n 1, 1), (.lconst 0, 1), (.lcmp, 1)] (pc' := 3) (L' := [.ref 45, .long p0, .null, .null, .null, .null, .null]) (st' := [.int (lg_cmp p0 0)]) ⟨dX10_putMoney_0, dX10_putMoney_1, dX10_putMoney_2, trivial⟩ rfl ?_
  refine ms_if_ge mB_110 dX10_putMoney_3 (t := 12) rfl (fun c => ?_) (fun c => ?_)
  · have F := F.2 c
    exact F
  · have F := F.1 c
    refine ms_seq mB_110 mO_110 [(.aload_n 0, 1), (.bipush 45, 2)] (pc' := 9) (L' := [.ref 45, .long p0, .null, .null, .null, .null, .null]) (st' := [.int 45, .ref 45]) ⟨dX10_putMoney_6, dX10_putMoney_7, trivial⟩ rfl ?_
    refine ms_callvV mB_110 mO_110 (by omega) dX10_putMoney_9 mQ_10_87 mC_10_87 mL_111 mO_111 rfl (Nat.le_of_ble_eq_true rfl) (Nat.le_of_ble_eq_true rfl) (gk_45 N) rfl F (fun δ1 F => ?_)
    exact F
set_option maxRecDepth 100000 in
theorem q10_putMoney_12 {N d : Nat} (hd : 5 ≤ d) {l1 : Int64} {δ : mi_D} {Q : mi_D → Prop} (F : (∀ x1 : Int64, x1 = (if 0 < l1 then l1 else -l1) → mi_wV N d 110 20 [.ref 45, .long l1, .null, .long x1, .null, .int 0, .null] [] δ Q)) : mi_wV N d 110 12 [.ref 45, .long l1, .null, .null, .null, .null, .null] [] δ Q := by
  unfold mi_wV
  refine ms_seq mB_110 mO_110 [(.lload_n 1, 1)] (pc' := 13) (L' := [.ref 45, .long l1, .null, .null, .null, .null, .null]) (st' := [.long l1]) ⟨dX10_putMoney_12, trivial⟩ rfl ?_
  refine ms_abs mB_110 mO_110 hd dX10_putMoney_13 mQ_10_104 (Nat.le_of_ble_eq_true rfl) ?_
  refine mr_topl (fun x1 e_x1 => ?_)
  have F := F x1 e_x1
  refine ms_seq mB_110 mO_110 [(.lstore_n 3, 1), (.iconst 0, 1), (.istore 5, 2)] (pc' := 20) (L' := [.ref 45, .long l1, .null, .long x1, .null, .int 0, .null]) (st' := []) ⟨dX10_putMoney_16, dX10_putMoney_17, dX10_putMoney_18, trivial⟩ rfl ?_
  exact F
set_option maxRecDepth 100000 in
theorem q10_putMoney_20 {N d : Nat} (hd : 5 ≤ d) {l5 : Int32} {l1 l3 : Int64} {δ : mi_D} {Q : mi_D → Prop} (F : ((l5 < 20 → ((l5 < 3 → mi_wV N d 110 39 [.ref 45, .long l1, .null, .long l3, .null, .int l5, .null] [] δ Q) ∧ (¬ l5 < 3 → ((0 < (lg_cmp l3 0) → mi_wV N d 110 39 [.ref 45, .long l1, .null, .long l3, .null, .int l5, .null] [] δ Q) ∧ (¬ 0 < (lg_cmp l3 0) → (∀ x2 : Int32, x2 = (l5 - 1) → mi_wV N d 110 72 [.ref 45, .long l1, .null, .long l3, .null, .int l5, .int x2] [] δ Q)))))) ∧ (¬ l5 < 20 → (∀ x1 : Int32, x1 = (l5 - 1) → mi_wV N d 110 72 [.ref 45, .long l1, .null, .long l3, .null, .int l5, .int x1] [] δ Q)))) : mi_wV N d 110 20 [.ref 45, .long l1, .null, .long l3, .null, .int l5, .null] [] δ Q := by
  unfold mi_wV
  refine ms_seq mB_110 mO_110 [(.iload 5, 2), (.bipush 20, 2)] (pc' := 24) (L' := [.ref 45, .long l1, .null, .long l3, .null, .int l5, .null]) (st' := [.int 20, .int l5]) ⟨dX10_putMoney_20, dX10_putMoney_22, trivial⟩ rfl ?_
  refine ms_icmp_ge mB_110 dX10_putMoney_24 (t := 66) rfl (fun c => ?_) (fun c => ?_)
  · have F := F.2 c
    refine ms_seq mB_110 mO_110 [(.iload 5, 2), (.iconst 1, 1), (.isub, 1)] (pc' := 70) (L' := [.ref 45, .long l1, .null, .long l3, .null, .int l5, .null]) (st' := [.int (l5 - 1)]) ⟨dX10_putMoney_66, dX10_putMoney_68, dX10_putMoney_69, trivial⟩ rfl ?_
    refine mr_topi (fun x1 e_x1 => ?_)
    have F := F x1 e_x1
    refine ms_seq mB_110 mO_110 [(.istore 6, 2)] (pc' := 72) (L' := [.ref 45, .long l1, .null, .long l3, .null, .int l5, .int x1]) (st' := []) ⟨dX10_putMoney_70, trivial⟩ rfl ?_
    exact F
  · have F := F.1 c
    refine ms_seq mB_110 mO_110 [(.iload 5, 2), (.iconst 3, 1)] (pc' := 30) (L' := [.ref 45, .long l1, .null, .long l3, .null, .int l5, .null]) (st' := [.int 3, .int l5]) ⟨dX10_putMoney_27, dX10_putMoney_29, trivial⟩ rfl ?_
    refine ms_icmp_lt mB_110 dX10_putMoney_30 (t := 39) rfl (fun c => ?_) (fun c => ?_)
    · have F := F.1 c
      exact F
    · have F := F.2 c
      refine ms_seq mB_110 mO_110 [(.lload_n 3, 1), (.lconst 0, 1), (.lcmp, 1)] (pc' := 36) (L' := [.ref 45, .long l1, .null, .long l3, .null, .int l5, .null]) (st' := [.int (lg_cmp l3 0)]) ⟨dX10_putMoney_33, dX10_putMoney_34, dX10_putMoney_35, trivial⟩ rfl ?_
      refine ms_if_le mB_110 dX10_putMoney_36 (t := 66) rfl (fun c => ?_) (fun c => ?_)
      · have F := F.2 c
        refine ms_seq mB_110 mO_110 [(.iload 5, 2), (.iconst 1, 1), (.isub, 1)] (pc' := 70) (L' := [.ref 45, .long l1, .null, .long l3, .null, .int l5, .null]) (st' := [.int (l5 - 1)]) ⟨dX10_putMoney_66, dX10_putMoney_68, dX10_putMoney_69, trivial⟩ rfl ?_
        refine mr_topi (fun x2 e_x2 => ?_)
        have F := F x2 e_x2
        refine ms_seq mB_110 mO_110 [(.istore 6, 2)] (pc' := 72) (L' := [.ref 45, .long l1, .null, .long l3, .null, .int l5, .int x2]) (st' := []) ⟨dX10_putMoney_70, trivial⟩ rfl ?_
        exact F
      · have F := F.1 c
        exact F
set_option maxRecDepth 100000 in
theorem q10_putMoney_72 {N d : Nat} (hd : 5 ≤ d) {l5 l6 : Int32} {l1 l3 : Int64} {δ : mi_D} {Q : mi_D → Prop} (F : ((l6 < 0 → Q δ) ∧ (¬ l6 < 0 → (mi_wV N (d - 1) 111 0 [.ref 45, .int (48 + (mi_at δ 47 l6))] [] δ (fun δ1 => ((l6 = 2 → (mi_wV N (d - 1) 111 0 [.ref 45, .int 46] [] δ1 (fun δ3 => mi_wV N d 110 72 [.ref 45, .long l1, .null, .long l3, .null, .int l5, .int (l6 + (-1))] [] δ3 Q))) ∧ (¬ l6 = 2 → ((2 < l6 → ((((l6 - 2) - (l6 - 2) / 3 * 3) = 0 → (mi_wV N (d - 1) 111 0 [.ref 45, .int 44] [] δ1 (fun δ2 => mi_wV N d 110 72 [.ref 45, .long l1, .null, .long l3, .null, .int l5, .int (l6 + (-1))] [] δ2 Q))) ∧ (¬ ((l6 - 2) - (l6 - 2) / 3 * 3) = 0 → mi_wV N d 110 72 [.ref 45, .long l1, .null, .long l3, .null, .int l5, .int (l6 + (-1))] [] δ1 Q))) ∧ (¬ 2 < l6 → mi_wV N d 110 72 [.ref 45, .long l1, .null, .long l3, .null, .int l5, .int (l6 + (-1))] [] δ1 Q))))))))) : mi_wV N d 110 72 [.ref 45, .long l1, .null, .long l3, .null, .int l5, .int l6] [] δ Q := by
  unfold mi_wV
  refine ms_seq mB_110 mO_110 [(.iload 6, 2)] (pc' := 74) (L' := [.ref 45, .long l1, .null, .long l3, .null, .int l5, .int l6]) (st' := [.int l6]) ⟨dX10_putMoney_72, trivial⟩ rfl ?_
  refine ms_if_lt mB_110 dX10_putMoney_74 (t := 135) rfl (fun c => ?_) (fun c => ?_)
  · have F := F.1 c
    exact ms_vret mB_110 dX10_putMoney_135 mR_110 ⟨rfl, rfl, F⟩
  · have F := F.2 c
    refine ms_seq mB_110 mO_110 [(.aload_n 0, 1), (.bipush 48, 2), (.aload_n 0, 1)] (pc' := 81) (L' := [.ref 45, .long l1, .null, .long l3, .null, .int l5, .int l6]) (st' := [.ref 45, .int 48, .ref 45]) ⟨dX10_putMoney_77, dX10_putMoney_78, dX10_putMoney_80, trivial⟩ rfl ?_
    refine ms_getR mB_110 mO_110 dX10_putMoney_81 mF_10_20 (gk_45 N) rfl (b := 47) (gr_45_2 N) ?_
    refine ms_seq mB_110 mO_110 [(.iload 6, 2)] (pc' := 86) (L' := [.ref 45, .long l1, .null, .long l3, .null, .int l5, .int l6]) (st' := [.int l6, .ref 47, .int 48, .ref 45]) ⟨dX10_putMoney_84, trivial⟩ rfl ?_
    refine ms_at mB_110 mO_110 hd dX10_putMoney_86 mQ_10_50 (Nat.le_of_ble_eq_true rfl) (gk_47 N) (mi_ne (gl_47 N)) ?_
    refine ms_seq mB_110 mO_110 [(.iadd, 1)] (pc' := 90) (L' := [.ref 45, .long l1, .null, .long l3, .null, .int l5, .int l6]) (st' := [.int (48 + (mi_at δ 47 l6)), .ref 45]) ⟨dX10_putMoney_89, trivial⟩ rfl ?_
    refine ms_callvV mB_110 mO_110 (by omega) dX10_putMoney_90 mQ_10_87 mC_10_87 mL_111 mO_111 rfl (Nat.le_of_ble_eq_true rfl) (Nat.le_of_ble_eq_true rfl) (gk_45 N) rfl F (fun δ1 F => ?_)
    refine ms_seq mB_110 mO_110 [(.iload 6, 2), (.iconst 2, 1)] (pc' := 96) (L' := [.ref 45, .long l1, .null, .long l3, .null, .int l5, .int l6]) (st' := [.int 2, .int l6]) ⟨dX10_putMoney_93, dX10_putMoney_95, trivial⟩ rfl ?_
    refine ms_icmp_ne mB_110 dX10_putMoney_96 (t := 108) rfl (fun c => ?_) (fun c => ?_)
    · have F := F.2 c
      refine ms_seq mB_110 mO_110 [(.iload 6, 2), (.iconst 2, 1)] (pc' := 111) (L' := [.ref 45, .long l1, .null, .long l3, .null, .int l5, .int l6]) (st' := [.int 2, .int l6]) ⟨dX10_putMoney_108, dX10_putMoney_110, trivial⟩ rfl ?_
      refine ms_icmp_le mB_110 dX10_putMoney_111 (t := 129) rfl (fun c => ?_) (fun c => ?_)
      · have F := F.2 c
        refine ms_seq mB_110 mO_110 [(.iinc 6 (-1), 3)] (pc' := 132) (L' := [.ref 45, .long l1, .null, .long l3, .null, .int l5, .int (l6 + (-1))]) (st' := []) ⟨dX10_putMoney_129, trivial⟩ rfl ?_
        refine ms_goto mB_110 dX10_putMoney_132 (t := 72) rfl ?_
        exact F
      · have F := F.1 c
        refine ms_seq mB_110 mO_110 [(.iload 6, 2), (.iconst 2, 1), (.isub, 1), (.iconst 3, 1)] (pc' := 119) (L' := [.ref 45, .long l1, .null, .long l3, .null, .int l5, .int l6]) (st' := [.int 3, .int (l6 - 2)]) ⟨dX10_putMoney_114, dX10_putMoney_116, dX10_putMoney_117, dX10_putMoney_118, trivial⟩ rfl ?_
        refine ms_irem mB_110 dX10_putMoney_119 (by decide) ?_
        refine ms_if_ne mB_110 dX10_putMoney_120 (t := 129) rfl (fun c => ?_) (fun c => ?_)
        · have F := F.2 c
          refine ms_seq mB_110 mO_110 [(.iinc 6 (-1), 3)] (pc' := 132) (L' := [.ref 45, .long l1, .null, .long l3, .null, .int l5, .int (l6 + (-1))]) (st' := []) ⟨dX10_putMoney_129, trivial⟩ rfl ?_
          refine ms_goto mB_110 dX10_putMoney_132 (t := 72) rfl ?_
          exact F
        · have F := F.1 c
          refine ms_seq mB_110 mO_110 [(.aload_n 0, 1), (.bipush 44, 2)] (pc' := 126) (L' := [.ref 45, .long l1, .null, .long l3, .null, .int l5, .int l6]) (st' := [.int 44, .ref 45]) ⟨dX10_putMoney_123, dX10_putMoney_124, trivial⟩ rfl ?_
          refine ms_callvV mB_110 mO_110 (by omega) dX10_putMoney_126 mQ_10_87 mC_10_87 mL_111 mO_111 rfl (Nat.le_of_ble_eq_true rfl) (Nat.le_of_ble_eq_true rfl) (gk_45 N) rfl F (fun δ2 F => ?_)
          refine ms_seq mB_110 mO_110 [(.iinc 6 (-1), 3)] (pc' := 132) (L' := [.ref 45, .long l1, .null, .long l3, .null, .int l5, .int (l6 + (-1))]) (st' := []) ⟨dX10_putMoney_129, trivial⟩ rfl ?_
          refine ms_goto mB_110 dX10_putMoney_132 (t := 72) rfl ?_
          exact F
    · have F := F.1 c
      refine ms_seq mB_110 mO_110 [(.aload_n 0, 1), (.bipush 46, 2)] (pc' := 102) (L' := [.ref 45, .long l1, .null, .long l3, .null, .int l5, .int l6]) (st' := [.int 46, .ref 45]) ⟨dX10_putMoney_99, dX10_putMoney_100, trivial⟩ rfl ?_
      refine ms_callvV mB_110 mO_110 (by omega) dX10_putMoney_102 mQ_10_87 mC_10_87 mL_111 mO_111 rfl (Nat.le_of_ble_eq_true rfl) (Nat.le_of_ble_eq_true rfl) (gk_45 N) rfl F (fun δ3 F => ?_)
      refine ms_goto mB_110 dX10_putMoney_105 (t := 129) rfl ?_
      refine ms_seq mB_110 mO_110 [(.iinc 6 (-1), 3)] (pc' := 132) (L' := [.ref 45, .long l1, .null, .long l3, .null, .int l5, .int (l6 + (-1))]) (st' := []) ⟨dX10_putMoney_129, trivial⟩ rfl ?_
      refine ms_goto mB_110 dX10_putMoney_132 (t := 72) rfl ?_
      exact F
set_option maxRecDepth 100000 in
theorem q10_putMoney_39 {N d : Nat} (hd : 5 ≤ d) {l5 : Int32} {l1 l3 : Int64} {δ : mi_D} {Q : mi_D → Prop} (F : (∀ δ1 : mi_D, δ1 = mi_pt δ 47 20 l5 (Int64.toInt32 (l3 - l3 / 10 * 10)) → (∀ x2 : Int64, x2 = (l3 / 10) → mi_wV N d 110 20 [.ref 45, .long l1, .null, .long x2, .null, .int (l5 + 1), .null] [] δ1 Q))) : mi_wV N d 110 39 [.ref 45, .long l1, .null, .long l3, .null, .int l5, .null] [] δ Q := by
  unfold mi_wV
  refine ms_seq mB_110 mO_110 [(.aload_n 0, 1)] (pc' := 40) (L' := [.ref 45, .long l1, .null, .long l3, .null, .int l5, .null]) (st' := [.ref 45]) ⟨dX10_putMoney_39, trivial⟩ rfl ?_
  refine ms_getR mB_110 mO_110 dX10_putMoney_40 mF_10_20 (gk_45 N) rfl (b := 47) (gr_45_2 N) ?_
  refine ms_seq mB_110 mO_110 [(.iload 5, 2), (.lload_n 3, 1), (.ldc2_w 110, 3)] (pc' := 49) (L' := [.ref 45, .long l1, .null, .long l3, .null, .int l5, .null]) (st' := [.long 10, .long l3, .int l5, .ref 47]) ⟨dX10_putMoney_43, dX10_putMoney_45, dX10_putMoney_46, trivial⟩ rfl ?_
  refine ms_lrem mB_110 dX10_putMoney_49 (by decide) ?_
  refine ms_seq mB_110 mO_110 [(.l2i, 1)] (pc' := 51) (L' := [.ref 45, .long l1, .null, .long l3, .null, .int l5, .null]) (st' := [.int (Int64.toInt32 (l3 - l3 / 10 * 10)), .int l5, .ref 47]) ⟨dX10_putMoney_50, trivial⟩ rfl ?_
  refine ms_put mB_110 mO_110 (lim := 20) hd dX10_putMoney_51 mQ_10_112 (Nat.le_of_ble_eq_true rfl) (gk_47 N) (gl_47 N) ?_
  refine mr_st (fun δ1 e_δ1 => ?_)
  have F := F δ1 e_δ1
  refine ms_seq mB_110 mO_110 [(.lload_n 3, 1), (.ldc2_w 110, 3)] (pc' := 58) (L' := [.ref 45, .long l1, .null, .long l3, .null, .int l5, .null]) (st' := [.long 10, .long l3]) ⟨dX10_putMoney_54, dX10_putMoney_55, trivial⟩ rfl ?_
  refine ms_ldiv mB_110 dX10_putMoney_58 (by decide) ?_
  refine mr_topl (fun x2 e_x2 => ?_)
  have F := F x2 e_x2
  refine ms_seq mB_110 mO_110 [(.lstore_n 3, 1), (.iinc 5 1, 3)] (pc' := 63) (L' := [.ref 45, .long l1, .null, .long x2, .null, .int (l5 + 1), .null]) (st' := []) ⟨dX10_putMoney_59, dX10_putMoney_60, trivial⟩ rfl ?_
  refine ms_goto mB_110 dX10_putMoney_63 (t := 20) rfl ?_
  exact F
set_option maxRecDepth 100000 in
theorem q10_put_0 {N d : Nat} (hd : 5 ≤ d) {p0 : Int32} {δ : mi_D} {Q : mi_D → Prop} (F : (∀ δ1 : mi_D, δ1 = mi_pt δ 46 4000 (δ.1 45 3) p0 → (∀ δ2 : mi_D, δ2 = mi_setI δ1 45 3 ((δ1.1 45 3) + 1) → Q δ2))) : mi_wV N d 111 0 [.ref 45, .int p0] [] δ Q := by
  unfold mi_wV
  refine ms_seq mB_111 mO_111 [(.aload_n 0, 1)] (pc' := 1) (L' := [.ref 45, .int p0]) (st' := [.ref 45]) ⟨dX10_put_0, trivial⟩ rfl ?_
  refine ms_getR mB_111 mO_111 dX10_put_1 mF_10_14 (gk_45 N) rfl (b := 46) (gr_45_0 N) ?_
  refine ms_seq mB_111 mO_111 [(.aload_n 0, 1)] (pc' := 5) (L' := [.ref 45, .int p0]) (st' := [.ref 45, .ref 46]) ⟨dX10_put_4, trivial⟩ rfl ?_
  refine ms_getI mB_111 mO_111 dX10_put_5 mF_10_27 (gk_45 N) (Or.inl rfl) ?_
  refine ms_seq mB_111 mO_111 [(.iload_n 1, 1)] (pc' := 9) (L' := [.ref 45, .int p0]) (st' := [.int p0, .int (δ.1 45 3), .ref 46]) ⟨dX10_put_8, trivial⟩ rfl ?_
  refine ms_put mB_111 mO_111 (lim := 4000) hd dX10_put_9 mQ_10_112 (Nat.le_of_ble_eq_true rfl) (gk_46 N) (gl_46 N) ?_
  refine mr_st (fun δ1 e_δ1 => ?_)
  have F := F δ1 e_δ1
  refine ms_seq mB_111 mO_111 [(.aload_n 0, 1), (.dup, 1)] (pc' := 14) (L' := [.ref 45, .int p0]) (st' := [.ref 45, .ref 45]) ⟨dX10_put_12, dX10_put_13, trivial⟩ rfl ?_
  refine ms_getI mB_111 mO_111 dX10_put_14 mF_10_27 (gk_45 N) (Or.inl rfl) ?_
  refine ms_seq mB_111 mO_111 [(.iconst 1, 1), (.iadd, 1)] (pc' := 19) (L' := [.ref 45, .int p0]) (st' := [.int ((δ1.1 45 3) + 1), .ref 45]) ⟨dX10_put_17, dX10_put_18, trivial⟩ rfl ?_
  refine ms_putI mB_111 mO_111 dX10_put_19 mF_10_27 (gk_45 N) rfl rfl ?_
  refine mr_st (fun δ2 e_δ2 => ?_)
  have F := F δ2 e_δ2
  exact ms_vret mB_111 dX10_put_22 mR_111 ⟨rfl, rfl, F⟩
