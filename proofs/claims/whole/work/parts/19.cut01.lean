set_option maxRecDepth 100000 in
theorem q1_clear_0 {N d : Nat} (hd : 5 ≤ d) {δ : mi_D} {Q : mi_D → Prop} (F : (mi_wV N (d - 1) 1 0 [.ref 4] [] δ (fun δ1 => (mi_wV N (d - 1) 70 0 [.ref 14] [] δ1 (fun δ2 => (mi_wV N (d - 1) 38 0 [.ref 17] [] δ2 (fun δ3 => (∀ δ4 : mi_D, δ4 = mi_setI δ3 3 3 (-1) → Q δ4)))))))) : mi_wV N d 16 0 [.ref 3] [] δ Q := by
  unfold mi_wV
  refine ms_seq mB_16 mO_16 [(.aload_n 0, 1)] (pc' := 1) (L' := [.ref 3]) (st' := [.ref 3]) ⟨dX1_clear_0, trivial⟩ rfl ?_
  refine ms_getR mB_16 mO_16 dX1_clear_1 mF_1_12 (gk_3 N) rfl (b := 4) (gr_3_0 N) ?_
  refine ms_callvV mB_16 mO_16 (by omega) dX1_clear_4 mQ_1_45 mC_1_45 mL_1 mO_1 rfl (Nat.le_of_ble_eq_true rfl) (Nat.le_of_ble_eq_true rfl) (gk_4 N) rfl F (fun δ1 F => ?_)
  refine ms_seq mB_16 mO_16 [(.aload_n 0, 1)] (pc' := 8) (L' := [.ref 3]) (st' := [.ref 3]) ⟨dX1_clear_7, trivial⟩ rfl ?_
  refine ms_getR mB_16 mO_16 dX1_clear_8 mF_1_21 (gk_3 N) rfl (b := 14) (gr_3_1 N) ?_
  refine ms_callvV mB_16 mO_16 (by omega) dX1_clear_11 mQ_1_48 mC_1_48 mL_70 mO_70 rfl (Nat.le_of_ble_eq_true rfl) (Nat.le_of_ble_eq_true rfl) (gk_14 N) rfl F (fun δ2 F => ?_)
  refine ms_seq mB_16 mO_16 [(.aload_n 0, 1)] (pc' := 15) (L' := [.ref 3]) (st' := [.ref 3]) ⟨dX1_clear_14, trivial⟩ rfl ?_
  refine ms_getR mB_16 mO_16 dX1_clear_15 mF_1_28 (gk_3 N) rfl (b := 17) (gr_3_2 N) ?_
  refine ms_callvV mB_16 mO_16 (by omega) dX1_clear_18 mQ_1_49 mC_1_49 mL_38 mO_38 rfl (Nat.le_of_ble_eq_true rfl) (Nat.le_of_ble_eq_true rfl) (gk_17 N) rfl F (fun δ3 F => ?_)
  refine ms_seq mB_16 mO_16 [(.aload_n 0, 1), (.iconst (-1), 1)] (pc' := 23) (L' := [.ref 3]) (st' := [.int (-1), .ref 3]) ⟨dX1_clear_21, dX1_clear_22, trivial⟩ rfl ?_
  refine ms_putI mB_16 mO_16 dX1_clear_23 mF_1_32 (gk_3 N) rfl rfl ?_
  refine mr_st (fun δ4 e_δ4 => ?_)
  have F := F δ4 e_δ4
  exact ms_vret mB_16 dX1_clear_26 mR_16 ⟨rfl, rfl, F⟩
set_option maxRecDepth 100000 in
theorem q1_refusesAccount_0 {N d : Nat} (hd : 5 ≤ d) {p0 p1 p2 : Int32} {δ : mi_D} {Q : Int32 → mi_D → Prop} (F : ((p2 = (-1) → mi_wI N d 17 19 [.ref 3, .int p0, .int p1, .int p2] [] δ Q) ∧ (¬ p2 = (-1) → (mi_wI N (d - 1) 2 0 [.ref 4, .int p2] [] δ (fun r2 δ1 => ((r2 = 0 → Q (-2) δ1) ∧ (¬ r2 = 0 → mi_wI N d 17 19 [.ref 3, .int p0, .int p1, .int p2] [] δ1 Q))))))) : mi_wI N d 17 0 [.ref 3, .int p0, .int p1, .int p2] [] δ Q := by
  unfold mi_wI
  refine ms_seq mB_17 mO_17 [(.iload_n 3, 1), (.iconst (-1), 1)] (pc' := 2) (L' := [.ref 3, .int p0, .int p1, .int p2]) (st' := [.int (-1), .int p2]) ⟨dX1_refusesAccount_0, dX1_refusesAccount_1, trivial⟩ rfl ?_
  refine ms_icmp_eq mB_17 dX1_refusesAccount_2 (t := 19) rfl (fun c => ?_) (fun c => ?_)
  · have F := F.1 c
    exact F
  · have F := F.2 c
    refine ms_seq mB_17 mO_17 [(.aload_n 0, 1)] (pc' := 6) (L' := [.ref 3, .int p0, .int p1, .int p2]) (st' := [.ref 3]) ⟨dX1_refusesAccount_5, trivial⟩ rfl ?_
    refine ms_getR mB_17 mO_17 dX1_refusesAccount_6 mF_1_12 (gk_3 N) rfl (b := 4) (gr_3_0 N) ?_
    refine ms_seq mB_17 mO_17 [(.iload_n 3, 1)] (pc' := 10) (L' := [.ref 3, .int p0, .int p1, .int p2]) (st' := [.int p2, .ref 4]) ⟨dX1_refusesAccount_9, trivial⟩ rfl ?_
    refine ms_callvI mB_17 mO_17 (by omega) dX1_refusesAccount_10 mQ_1_50 mC_1_50 mL_2 mO_2 rfl (Nat.le_of_ble_eq_true rfl) (Nat.le_of_ble_eq_true rfl) (gk_4 N) rfl F (fun r2 δ1 F => ?_)
    refine ms_if_ne mB_17 dX1_refusesAccount_13 (t := 19) rfl (fun c => ?_) (fun c => ?_)
    · have F := F.2 c
      exact F
    · have F := F.1 c
      refine ms_seq mB_17 mO_17 [(.bipush (-2), 2)] (pc' := 18) (L' := [.ref 3, .int p0, .int p1, .int p2]) (st' := [.int (-2)]) ⟨dX1_refusesAccount_16, trivial⟩ rfl ?_
      exact ms_iret mB_17 dX1_refusesAccount_18 mR_17 ⟨_, rfl, rfl, F⟩
set_option maxRecDepth 100000 in
theorem q1_refusesAccount_19 {N d : Nat} (hd : 5 ≤ d) {l1 l2 l3 : Int32} {δ : mi_D} {Q : Int32 → mi_D → Prop} (F : ((l1 < 1 → Q (-3) δ) ∧ (¬ l1 < 1 → ((9999 < l1 → Q (-3) δ) ∧ (¬ 9999 < l1 → ((l2 < 0 → Q (-3) δ) ∧ (¬ l2 < 0 → ((l2 < 5 → ((l3 = (-1) → mi_wI N d 17 63 [.ref 3, .int l1, .int l2, .int l3] [] δ Q) ∧ (¬ l3 = (-1) → (mi_wI N (d - 1) 6 0 [.ref 4, .int l3, .int l2] [] δ (fun r2 δ1 => ((r2 = 0 → Q (-4) δ1) ∧ (¬ r2 = 0 → mi_wI N d 17 63 [.ref 3, .int l1, .int l2, .int l3] [] δ1 Q))))))) ∧ (¬ l2 < 5 → Q (-3) δ))))))))) : mi_wI N d 17 19 [.ref 3, .int l1, .int l2, .int l3] [] δ Q := by
  unfold mi_wI
  refine ms_seq mB_17 mO_17 [(.iload_n 1, 1), (.iconst 1, 1)] (pc' := 21) (L' := [.ref 3, .int l1, .int l2, .int l3]) (st' := [.int 1, .int l1]) ⟨dX1_refusesAccount_19, dX1_refusesAccount_20, trivial⟩ rfl ?_
  refine ms_icmp_lt mB_17 dX1_refusesAccount_21 (t := 40) rfl (fun c => ?_) (fun c => ?_)
  · have F := F.1 c
    refine ms_seq mB_17 mO_17 [(.bipush (-3), 2)] (pc' := 42) (L' := [.ref 3, .int l1, .int l2, .int l3]) (st' := [.int (-3)]) ⟨dX1_refusesAccount_40, trivial⟩ rfl ?_
    exact ms_iret mB_17 dX1_refusesAccount_42 mR_17 ⟨_, rfl, rfl, F⟩
  · have F := F.2 c
    refine ms_seq mB_17 mO_17 [(.iload_n 1, 1), (.sipush 9999, 3)] (pc' := 28) (L' := [.ref 3, .int l1, .int l2, .int l3]) (st' := [.int 9999, .int l1]) ⟨dX1_refusesAccount_24, dX1_refusesAccount_25, trivial⟩ rfl ?_
    refine ms_icmp_gt mB_17 dX1_refusesAccount_28 (t := 40) rfl (fun c => ?_) (fun c => ?_)
    · have F := F.1 c
      refine ms_seq mB_17 mO_17 [(.bipush (-3), 2)] (pc' := 42) (L' := [.ref 3, .int l1, .int l2, .int l3]) (st' := [.int (-3)]) ⟨dX1_refusesAccount_40, trivial⟩ rfl ?_
      exact ms_iret mB_17 dX1_refusesAccount_42 mR_17 ⟨_, rfl, rfl, F⟩
    · have F := F.2 c
      refine ms_seq mB_17 mO_17 [(.iload_n 2, 1)] (pc' := 32) (L' := [.ref 3, .int l1, .int l2, .int l3]) (st' := [.int l2]) ⟨dX1_refusesAccount_31, trivial⟩ rfl ?_
      refine ms_if_lt mB_17 dX1_refusesAccount_32 (t := 40) rfl (fun c => ?_) (fun c => ?_)
      · have F := F.1 c
        refine ms_seq mB_17 mO_17 [(.bipush (-3), 2)] (pc' := 42) (L' := [.ref 3, .int l1, .int l2, .int l3]) (st' := [.int (-3)]) ⟨dX1_refusesAccount_40, trivial⟩ rfl ?_
        exact ms_iret mB_17 dX1_refusesAccount_42 mR_17 ⟨_, rfl, rfl, F⟩
      · have F := F.2 c
        refine ms_seq mB_17 mO_17 [(.iload_n 2, 1), (.iconst 5, 1)] (pc' := 37) (L' := [.ref 3, .int l1, .int l2, .int l3]) (st' := [.int 5, .int l2]) ⟨dX1_refusesAccount_35, dX1_refusesAccount_36, trivial⟩ rfl ?_
        refine ms_icmp_lt mB_17 dX1_refusesAccount_37 (t := 43) rfl (fun c => ?_) (fun c => ?_)
        · have F := F.1 c
          refine ms_seq mB_17 mO_17 [(.iload_n 3, 1), (.iconst (-1), 1)] (pc' := 45) (L' := [.ref 3, .int l1, .int l2, .int l3]) (st' := [.int (-1), .int l3]) ⟨dX1_refusesAccount_43, dX1_refusesAccount_44, trivial⟩ rfl ?_
          refine ms_icmp_eq mB_17 dX1_refusesAccount_45 (t := 63) rfl (fun c => ?_) (fun c => ?_)
          · have F := F.1 c
            exact F
          · have F := F.2 c
            refine ms_seq mB_17 mO_17 [(.aload_n 0, 1)] (pc' := 49) (L' := [.ref 3, .int l1, .int l2, .int l3]) (st' := [.ref 3]) ⟨dX1_refusesAccount_48, trivial⟩ rfl ?_
            refine ms_getR mB_17 mO_17 dX1_refusesAccount_49 mF_1_12 (gk_3 N) rfl (b := 4) (gr_3_0 N) ?_
            refine ms_seq mB_17 mO_17 [(.iload_n 3, 1), (.iload_n 2, 1)] (pc' := 54) (L' := [.ref 3, .int l1, .int l2, .int l3]) (st' := [.int l2, .int l3, .ref 4]) ⟨dX1_refusesAccount_52, dX1_refusesAccount_53, trivial⟩ rfl ?_
            refine ms_callvI mB_17 mO_17 (by omega) dX1_refusesAccount_54 mQ_1_54 mC_1_54 mL_6 mO_6 rfl (Nat.le_of_ble_eq_true rfl) (Nat.le_of_ble_eq_true rfl) (gk_4 N) rfl F (fun r2 δ1 F => ?_)
            refine ms_if_ne mB_17 dX1_refusesAccount_57 (t := 63) rfl (fun c => ?_) (fun c => ?_)
            · have F := F.2 c
              exact F
            · have F := F.1 c
              refine ms_seq mB_17 mO_17 [(.bipush (-4), 2)] (pc' := 62) (L' := [.ref 3, .int l1, .int l2, .int l3]) (st' := [.int (-4)]) ⟨dX1_refusesAccount_60, trivial⟩ rfl ?_
              exact ms_iret mB_17 dX1_refusesAccount_62 mR_17 ⟨_, rfl, rfl, F⟩
        · have F := F.2 c
          refine ms_seq mB_17 mO_17 [(.bipush (-3), 2)] (pc' := 42) (L' := [.ref 3, .int l1, .int l2, .int l3]) (st' := [.int (-3)]) ⟨dX1_refusesAccount_40, trivial⟩ rfl ?_
          exact ms_iret mB_17 dX1_refusesAccount_42 mR_17 ⟨_, rfl, rfl, F⟩
set_option maxRecDepth 100000 in
theorem q1_refusesAccount_63 {N d : Nat} (hd : 5 ≤ d) {l1 l2 l3 : Int32} {δ : mi_D} {Q : Int32 → mi_D → Prop} (F : (mi_wI N (d - 1) 7 0 [.ref 4, .int l1, .null] [] δ (fun r2 δ1 => ((r2 = 0 → (((δ1.1 4 9) < 60 → Q 0 δ1) ∧ (¬ (δ1.1 4 9) < 60 → Q (-13) δ1))) ∧ (¬ r2 = 0 → Q (-5) δ1))))) : mi_wI N d 17 63 [.ref 3, .int l1, .int l2, .int l3] [] δ Q := by
  unfold mi_wI
  refine ms_seq mB_17 mO_17 [(.aload_n 0, 1)] (pc' := 64) (L' := [.ref 3, .int l1, .int l2, .int l3]) (st' := [.ref 3]) ⟨dX1_refusesAccount_63, trivial⟩ rfl ?_
  refine ms_getR mB_17 mO_17 dX1_refusesAccount_64 mF_1_12 (gk_3 N) rfl (b := 4) (gr_3_0 N) ?_
  refine ms_seq mB_17 mO_17 [(.iload_n 1, 1)] (pc' := 68) (L' := [.ref 3, .int l1, .int l2, .int l3]) (st' := [.int l1, .ref 4]) ⟨dX1_refusesAccount_67, trivial⟩ rfl ?_
  refine ms_callvI mB_17 mO_17 (by omega) dX1_refusesAccount_68 mQ_1_58 mC_1_58 mL_7 mO_7 rfl (Nat.le_of_ble_eq_true rfl) (Nat.le_of_ble_eq_true rfl) (gk_4 N) rfl F (fun r2 δ1 F => ?_)
  refine ms_if_eq mB_17 dX1_refusesAccount_71 (t := 77) rfl (fun c => ?_) (fun c => ?_)
  · have F := F.1 c
    refine ms_seq mB_17 mO_17 [(.aload_n 0, 1)] (pc' := 78) (L' := [.ref 3, .int l1, .int l2, .int l3]) (st' := [.ref 3]) ⟨dX1_refusesAccount_77, trivial⟩ rfl ?_
    refine ms_getR mB_17 mO_17 dX1_refusesAccount_78 mF_1_12 (gk_3 N) rfl (b := 4) (gr_3_0 N) ?_
    refine ms_getI mB_17 mO_17 dX1_refusesAccount_81 mF_1_61 (gk_4 N) (Or.inl rfl) ?_
    refine ms_seq mB_17 mO_17 [(.bipush 60, 2)] (pc' := 86) (L' := [.ref 3, .int l1, .int l2, .int l3]) (st' := [.int 60, .int (δ1.1 4 9)]) ⟨dX1_refusesAccount_84, trivial⟩ rfl ?_
    refine ms_icmp_lt mB_17 dX1_refusesAccount_86 (t := 94) rfl (fun c => ?_) (fun c => ?_)
    · have F := F.1 c
      refine ms_seq mB_17 mO_17 [(.iconst 0, 1)] (pc' := 95) (L' := [.ref 3, .int l1, .int l2, .int l3]) (st' := [.int 0]) ⟨dX1_refusesAccount_94, trivial⟩ rfl ?_
      exact ms_iret mB_17 dX1_refusesAccount_95 mR_17 ⟨_, rfl, rfl, F⟩
    · have F := F.2 c
      refine ms_seq mB_17 mO_17 [(.bipush (-13), 2)] (pc' := 91) (L' := [.ref 3, .int l1, .int l2, .int l3]) (st' := [.int (-13)]) ⟨dX1_refusesAccount_89, trivial⟩ rfl ?_
      refine ms_goto mB_17 dX1_refusesAccount_91 (t := 95) rfl ?_
      exact ms_iret mB_17 dX1_refusesAccount_95 mR_17 ⟨_, rfl, rfl, F⟩
  · have F := F.2 c
    refine ms_seq mB_17 mO_17 [(.bipush (-5), 2)] (pc' := 76) (L' := [.ref 3, .int l1, .int l2, .int l3]) (st' := [.int (-5)]) ⟨dX1_refusesAccount_74, trivial⟩ rfl ?_
    exact ms_iret mB_17 dX1_refusesAccount_76 mR_17 ⟨_, rfl, rfl, F⟩
set_option maxRecDepth 100000 in
theorem q1_refusesShut_0 {N d : Nat} (hd : 5 ≤ d) {p0 p1 : Int32} {δ : mi_D} {Q : Int32 → mi_D → Prop} (F : (mi_wI N (d - 1) 2 0 [.ref 4, .int p0] [] δ (fun r2 δ1 => ((r2 = 0 → Q (-2) δ1) ∧ (¬ r2 = 0 → (mi_wI N (d - 1) 3 0 [.ref 4, .int p0] [] δ1 (fun r4 δ3 => ((r4 = 0 → Q (-4) δ3) ∧ (¬ r4 = 0 → (mi_wI N (d - 1) 4 0 [.ref 4, .int p0] [] δ3 (fun r6 δ5 => ((r6 = p1 → Q (-6) δ5) ∧ (¬ r6 = p1 → Q 0 δ5))))))))))))) : mi_wI N d 18 0 [.ref 3, .int p0, .int p1] [] δ Q := by
  unfold mi_wI
  refine ms_seq mB_18 mO_18 [(.aload_n 0, 1)] (pc' := 1) (L' := [.ref 3, .int p0, .int p1]) (st' := [.ref 3]) ⟨dX1_refusesShut_0, trivial⟩ rfl ?_
  refine ms_getR mB_18 mO_18 dX1_refusesShut_1 mF_1_12 (gk_3 N) rfl (b := 4) (gr_3_0 N) ?_
  refine ms_seq mB_18 mO_18 [(.iload_n 1, 1)] (pc' := 5) (L' := [.ref 3, .int p0, .int p1]) (st' := [.int p0, .ref 4]) ⟨dX1_refusesShut_4, trivial⟩ rfl ?_
  refine ms_callvI mB_18 mO_18 (by omega) dX1_refusesShut_5 mQ_1_50 mC_1_50 mL_2 mO_2 rfl (Nat.le_of_ble_eq_true rfl) (Nat.le_of_ble_eq_true rfl) (gk_4 N) rfl F (fun r2 δ1 F => ?_)
  refine ms_if_ne mB_18 dX1_refusesShut_8 (t := 14) rfl (fun c => ?_) (fun c => ?_)
  · have F := F.2 c
    refine ms_seq mB_18 mO_18 [(.aload_n 0, 1)] (pc' := 15) (L' := [.ref 3, .int p0, .int p1]) (st' := [.ref 3]) ⟨dX1_refusesShut_14, trivial⟩ rfl ?_
    refine ms_getR mB_18 mO_18 dX1_refusesShut_15 mF_1_12 (gk_3 N) rfl (b := 4) (gr_3_0 N) ?_
    refine ms_seq mB_18 mO_18 [(.iload_n 1, 1)] (pc' := 19) (L' := [.ref 3, .int p0, .int p1]) (st' := [.int p0, .ref 4]) ⟨dX1_refusesShut_18, trivial⟩ rfl ?_
    refine ms_callvI mB_18 mO_18 (by omega) dX1_refusesShut_19 mQ_1_64 mC_1_64 mL_3 mO_3 rfl (Nat.le_of_ble_eq_true rfl) (Nat.le_of_ble_eq_true rfl) (gk_4 N) rfl F (fun r4 δ3 F => ?_)
    refine ms_if_ne mB_18 dX1_refusesShut_22 (t := 28) rfl (fun c => ?_) (fun c => ?_)
    · have F := F.2 c
      refine ms_seq mB_18 mO_18 [(.aload_n 0, 1)] (pc' := 29) (L' := [.ref 3, .int p0, .int p1]) (st' := [.ref 3]) ⟨dX1_refusesShut_28, trivial⟩ rfl ?_
      refine ms_getR mB_18 mO_18 dX1_refusesShut_29 mF_1_12 (gk_3 N) rfl (b := 4) (gr_3_0 N) ?_
      refine ms_seq mB_18 mO_18 [(.iload_n 1, 1)] (pc' := 33) (L' := [.ref 3, .int p0, .int p1]) (st' := [.int p0, .ref 4]) ⟨dX1_refusesShut_32, trivial⟩ rfl ?_
      refine ms_callvI mB_18 mO_18 (by omega) dX1_refusesShut_33 mQ_1_67 mC_1_67 mL_4 mO_4 rfl (Nat.le_of_ble_eq_true rfl) (Nat.le_of_ble_eq_true rfl) (gk_4 N) rfl F (fun r6 δ5 F => ?_)
      refine ms_seq mB_18 mO_18 [(.iload_n 2, 1)] (pc' := 37) (L' := [.ref 3, .int p0, .int p1]) (st' := [.int p1, .int r6]) ⟨dX1_refusesShut_36, trivial⟩ rfl ?_
      refine ms_icmp_ne mB_18 dX1_refusesShut_37 (t := 45) rfl (fun c => ?_) (fun c => ?_)
      · have F := F.2 c
        refine ms_seq mB_18 mO_18 [(.iconst 0, 1)] (pc' := 46) (L' := [.ref 3, .int p0, .int p1]) (st' := [.int 0]) ⟨dX1_refusesShut_45, trivial⟩ rfl ?_
        exact ms_iret mB_18 dX1_refusesShut_46 mR_18 ⟨_, rfl, rfl, F⟩
      · have F := F.1 c
        refine ms_seq mB_18 mO_18 [(.bipush (-6), 2)] (pc' := 42) (L' := [.ref 3, .int p0, .int p1]) (st' := [.int (-6)]) ⟨dX1_refusesShut_40, trivial⟩ rfl ?_
        refine ms_goto mB_18 dX1_refusesShut_42 (t := 46) rfl ?_
        exact ms_iret mB_18 dX1_refusesShut_46 mR_18 ⟨_, rfl, rfl, F⟩
    · have F := F.1 c
      refine ms_seq mB_18 mO_18 [(.bipush (-4), 2)] (pc' := 27) (L' := [.ref 3, .int p0, .int p1]) (st' := [.int (-4)]) ⟨dX1_refusesShut_25, trivial⟩ rfl ?_
      exact ms_iret mB_18 dX1_refusesShut_27 mR_18 ⟨_, rfl, rfl, F⟩
  · have F := F.1 c
    refine ms_seq mB_18 mO_18 [(.bipush (-2), 2)] (pc' := 13) (L' := [.ref 3, .int p0, .int p1]) (st' := [.int (-2)]) ⟨dX1_refusesShut_11, trivial⟩ rfl ?_
    exact ms_iret mB_18 dX1_refusesShut_13 mR_18 ⟨_, rfl, rfl, F⟩
set_option maxRecDepth 100000 in
theorem q1_refusesPeriod_0 {N d : Nat} (hd : 5 ≤ d) {p0 : Int32} {δ : mi_D} {Q : Int32 → mi_D → Prop} (F : (mi_wI N (d - 1) 75 0 [.ref 14] [] δ (fun r2 δ1 => ((p0 < r2 → Q (-3) δ1) ∧ (¬ p0 < r2 → ((9999 < p0 → Q (-3) δ1) ∧ (¬ 9999 < p0 → (((δ1.1 14 2) < 24 → Q 0 δ1) ∧ (¬ (δ1.1 14 2) < 24 → Q (-13) δ1))))))))) : mi_wI N d 19 0 [.ref 3, .int p0] [] δ Q := by
  unfold mi_wI
  refine ms_seq mB_19 mO_19 [(.iload_n 1, 1), (.aload_n 0, 1)] (pc' := 2) (L' := [.ref 3, .int p0]) (st' := [.ref 3, .int p0]) ⟨dX1_refusesPeriod_0, dX1_refusesPeriod_1, trivial⟩ rfl ?_
  refine ms_getR mB_19 mO_19 dX1_refusesPeriod_2 mF_1_21 (gk_3 N) rfl (b := 14) (gr_3_1 N) ?_
  refine ms_callvI mB_19 mO_19 (by omega) dX1_refusesPeriod_5 mQ_1_70 mC_1_70 mL_75 mO_75 rfl (Nat.le_of_ble_eq_true rfl) (Nat.le_of_ble_eq_true rfl) (gk_14 N) rfl F (fun r2 δ1 F => ?_)
  refine ms_icmp_lt mB_19 dX1_refusesPeriod_8 (t := 18) rfl (fun c => ?_) (fun c => ?_)
  · have F := F.1 c
    refine ms_seq mB_19 mO_19 [(.bipush (-3), 2)] (pc' := 20) (L' := [.ref 3, .int p0]) (st' := [.int (-3)]) ⟨dX1_refusesPeriod_18, trivial⟩ rfl ?_
    exact ms_iret mB_19 dX1_refusesPeriod_20 mR_19 ⟨_, rfl, rfl, F⟩
  · have F := F.2 c
    refine ms_seq mB_19 mO_19 [(.iload_n 1, 1), (.sipush 9999, 3)] (pc' := 15) (L' := [.ref 3, .int p0]) (st' := [.int 9999, .int p0]) ⟨dX1_refusesPeriod_11, dX1_refusesPeriod_12, trivial⟩ rfl ?_
    refine ms_icmp_le mB_19 dX1_refusesPeriod_15 (t := 21) rfl (fun c => ?_) (fun c => ?_)
    · have F := F.2 c
      refine ms_seq mB_19 mO_19 [(.aload_n 0, 1)] (pc' := 22) (L' := [.ref 3, .int p0]) (st' := [.ref 3]) ⟨dX1_refusesPeriod_21, trivial⟩ rfl ?_
      refine ms_getR mB_19 mO_19 dX1_refusesPeriod_22 mF_1_21 (gk_3 N) rfl (b := 14) (gr_3_1 N) ?_
      refine ms_getI mB_19 mO_19 dX1_refusesPeriod_25 mF_1_74 (gk_14 N) (Or.inl rfl) ?_
      refine ms_seq mB_19 mO_19 [(.bipush 24, 2)] (pc' := 30) (L' := [.ref 3, .int p0]) (st' := [.int 24, .int (δ1.1 14 2)]) ⟨dX1_refusesPeriod_28, trivial⟩ rfl ?_
      refine ms_icmp_lt mB_19 dX1_refusesPeriod_30 (t := 38) rfl (fun c => ?_) (fun c => ?_)
      · have F := F.1 c
        refine ms_seq mB_19 mO_19 [(.iconst 0, 1)] (pc' := 39) (L' := [.ref 3, .int p0]) (st' := [.int 0]) ⟨dX1_refusesPeriod_38, trivial⟩ rfl ?_
        exact ms_iret mB_19 dX1_refusesPeriod_39 mR_19 ⟨_, rfl, rfl, F⟩
      · have F := F.2 c
        refine ms_seq mB_19 mO_19 [(.bipush (-13), 2)] (pc' := 35) (L' := [.ref 3, .int p0]) (st' := [.int (-13)]) ⟨dX1_refusesPeriod_33, trivial⟩ rfl ?_
        refine ms_goto mB_19 dX1_refusesPeriod_35 (t := 39) rfl ?_
        exact ms_iret mB_19 dX1_refusesPeriod_39 mR_19 ⟨_, rfl, rfl, F⟩
    · have F := F.1 c
      refine ms_seq mB_19 mO_19 [(.bipush (-3), 2)] (pc' := 20) (L' := [.ref 3, .int p0]) (st' := [.int (-3)]) ⟨dX1_refusesPeriod_18, trivial⟩ rfl ?_
      exact ms_iret mB_19 dX1_refusesPeriod_20 mR_19 ⟨_, rfl, rfl, F⟩
set_option maxRecDepth 100000 in
theorem q1_refusesOwner_0 {N d : Nat} (hd : 5 ≤ d) {p0 : Int32} {δ : mi_D} {Q : Int32 → mi_D → Prop} (F : (mi_wI N (d - 1) 2 0 [.ref 4, .int p0] [] δ (fun r2 δ1 => ((r2 = 0 → Q (-2) δ1) ∧ (¬ r2 = 0 → (mi_wI N (d - 1) 3 0 [.ref 4, .int p0] [] δ1 (fun r4 δ3 => ((r4 = 0 → Q (-4) δ3) ∧ (¬ r4 = 0 → (((mi_at δ3 6 p0) = 2 → Q 0 δ3) ∧ (¬ (mi_at δ3 6 p0) = 2 → Q (-4) δ3))))))))))) : mi_wI N d 20 0 [.ref 3, .int p0] [] δ Q := by
  unfold mi_wI
  refine ms_seq mB_20 mO_20 [(.aload_n 0, 1)] (pc' := 1) (L' := [.ref 3, .int p0]) (st' := [.ref 3]) ⟨dX1_refusesOwner_0, trivial⟩ rfl ?_
  refine ms_getR mB_20 mO_20 dX1_refusesOwner_1 mF_1_12 (gk_3 N) rfl (b := 4) (gr_3_0 N) ?_
  refine ms_seq mB_20 mO_20 [(.iload_n 1, 1)] (pc' := 5) (L' := [.ref 3, .int p0]) (st' := [.int p0, .ref 4]) ⟨dX1_refusesOwner_4, trivial⟩ rfl ?_
  refine ms_callvI mB_20 mO_20 (by omega) dX1_refusesOwner_5 mQ_1_50 mC_1_50 mL_2 mO_2 rfl (Nat.le_of_ble_eq_true rfl) (Nat.le_of_ble_eq_true rfl) (gk_4 N) rfl F (fun r2 δ1 F => ?_)
  refine ms_if_ne mB_20 dX1_refusesOwner_8 (t := 14) rfl (fun c => ?_) (fun c => ?_)
  · have F := F.2 c
    refine ms_seq mB_20 mO_20 [(.aload_n 0, 1)] (pc' := 15) (L' := [.ref 3, .int p0]) (st' := [.ref 3]) ⟨dX1_refusesOwner_14, trivial⟩ rfl ?_
    refine ms_getR mB_20 mO_20 dX1_refusesOwner_15 mF_1_12 (gk_3 N) rfl (b := 4) (gr_3_0 N) ?_
    refine ms_seq mB_20 mO_20 [(.iload_n 1, 1)] (pc' := 19) (L' := [.ref 3, .int p0]) (st' := [.int p0, .ref 4]) ⟨dX1_refusesOwner_18, trivial⟩ rfl ?_
    refine ms_callvI mB_20 mO_20 (by omega) dX1_refusesOwner_19 mQ_1_64 mC_1_64 mL_3 mO_3 rfl (Nat.le_of_ble_eq_true rfl) (Nat.le_of_ble_eq_true rfl) (gk_4 N) rfl F (fun r4 δ3 F => ?_)
    refine ms_if_eq mB_20 dX1_refusesOwner_22 (t := 44) rfl (fun c => ?_) (fun c => ?_)
    · have F := F.1 c
      refine ms_seq mB_20 mO_20 [(.bipush (-4), 2)] (pc' := 46) (L' := [.ref 3, .int p0]) (st' := [.int (-4)]) ⟨dX1_refusesOwner_44, trivial⟩ rfl ?_
      exact ms_iret mB_20 dX1_refusesOwner_46 mR_20 ⟨_, rfl, rfl, F⟩
    · have F := F.2 c
      refine ms_seq mB_20 mO_20 [(.aload_n 0, 1)] (pc' := 26) (L' := [.ref 3, .int p0]) (st' := [.ref 3]) ⟨dX1_refusesOwner_25, trivial⟩ rfl ?_
      refine ms_getR mB_20 mO_20 dX1_refusesOwner_26 mF_1_12 (gk_3 N) rfl (b := 4) (gr_3_0 N) ?_
      refine ms_getR mB_20 mO_20 dX1_refusesOwner_29 mF_1_75 (gk_4 N) rfl (b := 6) (gr_4_1 N) ?_
      refine ms_seq mB_20 mO_20 [(.iload_n 1, 1)] (pc' := 33) (L' := [.ref 3, .int p0]) (st' := [.int p0, .ref 6]) ⟨dX1_refusesOwner_32, trivial⟩ rfl ?_
      refine ms_at mB_20 mO_20 hd dX1_refusesOwner_33 mQ_1_79 (Nat.le_of_ble_eq_true rfl) (gk_6 N) (mi_ne (gl_6 N)) ?_
      refine ms_seq mB_20 mO_20 [(.iconst 2, 1)] (pc' := 37) (L' := [.ref 3, .int p0]) (st' := [.int 2, .int (mi_at δ3 6 p0)]) ⟨dX1_refusesOwner_36, trivial⟩ rfl ?_
      refine ms_icmp_ne mB_20 dX1_refusesOwner_37 (t := 44) rfl (fun c => ?_) (fun c => ?_)
      · have F := F.2 c
        refine ms_seq mB_20 mO_20 [(.bipush (-4), 2)] (pc' := 46) (L' := [.ref 3, .int p0]) (st' := [.int (-4)]) ⟨dX1_refusesOwner_44, trivial⟩ rfl ?_
        exact ms_iret mB_20 dX1_refusesOwner_46 mR_20 ⟨_, rfl, rfl, F⟩
      · have F := F.1 c
        refine ms_seq mB_20 mO_20 [(.iconst 0, 1)] (pc' := 41) (L' := [.ref 3, .int p0]) (st' := [.int 0]) ⟨dX1_refusesOwner_40, trivial⟩ rfl ?_
        refine ms_goto mB_20 dX1_refusesOwner_41 (t := 46) rfl ?_
        exact ms_iret mB_20 dX1_refusesOwner_46 mR_20 ⟨_, rfl, rfl, F⟩
  · have F := F.1 c
    refine ms_seq mB_20 mO_20 [(.bipush (-2), 2)] (pc' := 13) (L' := [.ref 3, .int p0]) (st' := [.int (-2)]) ⟨dX1_refusesOwner_11, trivial⟩ rfl ?_
    exact ms_iret mB_20 dX1_refusesOwner_13 mR_20 ⟨_, rfl, rfl, F⟩
set_option maxRecDepth 100000 in
theorem q1_changeOwner_0 {N d : Nat} (hd : 5 ≤ d) {p0 : Int32} {δ : mi_D} {Q : Int32 → mi_D → Prop} (F : (∀ x1 : Int32, x1 = (δ.1 3 3) → (∀ δ2 : mi_D, δ2 = mi_setI δ 3 3 p0 → Q x1 δ2))) : mi_wI N d 21 0 [.ref 3, .int p0, .null] [] δ Q := by
  unfold mi_wI
  refine ms_seq mB_21 mO_21 [(.aload_n 0, 1)] (pc' := 1) (L' := [.ref 3, .int p0, .null]) (st' := [.ref 3]) ⟨dX1_changeOwner_0, trivial⟩ rfl ?_
  refine ms_getI mB_21 mO_21 dX1_changeOwner_1 mF_1_32 (gk_3 N) (Or.inl rfl) ?_
  refine mr_topi (fun x1 e_x1 => ?_)
  have F := F x1 e_x1
  refine ms_seq mB_21 mO_21 [(.istore_n 2, 1), (.aload_n 0, 1), (.iload_n 1, 1)] (pc' := 7) (L' := [.ref 3, .int p0, .int x1]) (st' := [.int p0, .ref 3]) ⟨dX1_changeOwner_4, dX1_changeOwner_5, dX1_changeOwner_6, trivial⟩ rfl ?_
  refine ms_putI mB_21 mO_21 dX1_changeOwner_7 mF_1_32 (gk_3 N) rfl rfl ?_
  refine mr_st (fun δ2 e_δ2 => ?_)
  have F := F δ2 e_δ2
  refine ms_seq mB_21 mO_21 [(.iload_n 2, 1)] (pc' := 11) (L' := [.ref 3, .int p0, .int x1]) (st' := [.int x1]) ⟨dX1_changeOwner_10, trivial⟩ rfl ?_
  exact ms_iret mB_21 dX1_changeOwner_11 mR_21 ⟨_, rfl, rfl, F⟩
set_option maxRecDepth 100000 in
theorem q1_refusesLine_0 {N d : Nat} (hd : 5 ≤ d) {p0 : Int32} {p1 : Int64} {δ : mi_D} {Q : Int32 → mi_D → Prop} (F : (mi_wI N (d - 1) 2 0 [.ref 4, .int p0] [] δ (fun r2 δ1 => ((r2 = 0 → Q (-2) δ1) ∧ (¬ r2 = 0 → (mi_wI N (d - 1) 145 0 [.long p1, .null] [] δ1 (fun r4 δ3 => ((r4 = 0 → Q (-3) δ3) ∧ (¬ r4 = 0 → (mi_wI N (d - 1) 3 0 [.ref 4, .int p0] [] δ3 (fun r6 δ5 => ((r6 = 0 → Q (-4) δ5) ∧ (¬ r6 = 0 → Q 0 δ5))))))))))))) : mi_wI N d 22 0 [.ref 3, .int p0, .long p1, .null] [] δ Q := by
  unfold mi_wI
  refine ms_seq mB_22 mO_22 [(.aload_n 0, 1)] (pc' := 1) (L' := [.ref 3, .int p0, .long p1, .null]) (st' := [.ref 3]) ⟨dX1_refusesLine_0, trivial⟩ rfl ?_
  refine ms_getR mB_22 mO_22 dX1_refusesLine_1 mF_1_12 (gk_3 N) rfl (b := 4) (gr_3_0 N) ?_
  refine ms_seq mB_22 mO_22 [(.iload_n 1, 1)] (pc' := 5) (L' := [.ref 3, .int p0, .long p1, .null]) (st' := [.int p0, .ref 4]) ⟨dX1_refusesLine_4, trivial⟩ rfl ?_
  refine ms_callvI mB_22 mO_22 (by omega) dX1_refusesLine_5 mQ_1_50 mC_1_50 mL_2 mO_2 rfl (Nat.le_of_ble_eq_true rfl) (Nat.le_of_ble_eq_true rfl) (gk_4 N) rfl F (fun r2 δ1 F => ?_)
  refine ms_if_ne mB_22 dX1_refusesLine_8 (t := 14) rfl (fun c => ?_) (fun c => ?_)
  · have F := F.2 c
    refine ms_seq mB_22 mO_22 [(.lload_n 2, 1)] (pc' := 15) (L' := [.ref 3, .int p0, .long p1, .null]) (st' := [.long p1]) ⟨dX1_refusesLine_14, trivial⟩ rfl ?_
    refine ms_callsI mB_22 mO_22 (by omega) dX1_refusesLine_15 mQ_1_85 mC_1_85 mL_145 (by decide) rfl (Nat.le_of_ble_eq_true rfl) (Nat.le_of_ble_eq_true rfl) rfl F (fun r4 δ3 F => ?_)
    refine ms_if_ne mB_22 dX1_refusesLine_18 (t := 24) rfl (fun c => ?_) (fun c => ?_)
    · have F := F.2 c
      refine ms_seq mB_22 mO_22 [(.aload_n 0, 1)] (pc' := 25) (L' := [.ref 3, .int p0, .long p1, .null]) (st' := [.ref 3]) ⟨dX1_refusesLine_24, trivial⟩ rfl ?_
      refine ms_getR mB_22 mO_22 dX1_refusesLine_25 mF_1_12 (gk_3 N) rfl (b := 4) (gr_3_0 N) ?_
      refine ms_seq mB_22 mO_22 [(.iload_n 1, 1)] (pc' := 29) (L' := [.ref 3, .int p0, .long p1, .null]) (st' := [.int p0, .ref 4]) ⟨dX1_refusesLine_28, trivial⟩ rfl ?_
      refine ms_callvI mB_22 mO_22 (by omega) dX1_refusesLine_29 mQ_1_64 mC_1_64 mL_3 mO_3 rfl (Nat.le_of_ble_eq_true rfl) (Nat.le_of_ble_eq_true rfl) (gk_4 N) rfl F (fun r6 δ5 F => ?_)
      refine ms_if_eq mB_22 dX1_refusesLine_32 (t := 39) rfl (fun c => ?_) (fun c => ?_)
      · have F := F.1 c
        refine ms_seq mB_22 mO_22 [(.bipush (-4), 2)] (pc' := 41) (L' := [.ref 3, .int p0, .long p1, .null]) (st' := [.int (-4)]) ⟨dX1_refusesLine_39, trivial⟩ rfl ?_
        exact ms_iret mB_22 dX1_refusesLine_41 mR_22 ⟨_, rfl, rfl, F⟩
      · have F := F.2 c
        refine ms_seq mB_22 mO_22 [(.iconst 0, 1)] (pc' := 36) (L' := [.ref 3, .int p0, .long p1, .null]) (st' := [.int 0]) ⟨dX1_refusesLine_35, trivial⟩ rfl ?_
        refine ms_goto mB_22 dX1_refusesLine_36 (t := 41) rfl ?_
        exact ms_iret mB_22 dX1_refusesLine_41 mR_22 ⟨_, rfl, rfl, F⟩
    · have F := F.1 c
      refine ms_seq mB_22 mO_22 [(.bipush (-3), 2)] (pc' := 23) (L' := [.ref 3, .int p0, .long p1, .null]) (st' := [.int (-3)]) ⟨dX1_refusesLine_21, trivial⟩ rfl ?_
      exact ms_iret mB_22 dX1_refusesLine_23 mR_22 ⟨_, rfl, rfl, F⟩
  · have F := F.1 c
    refine ms_seq mB_22 mO_22 [(.bipush (-2), 2)] (pc' := 13) (L' := [.ref 3, .int p0, .long p1, .null]) (st' := [.int (-2)]) ⟨dX1_refusesLine_11, trivial⟩ rfl ?_
    exact ms_iret mB_22 dX1_refusesLine_13 mR_22 ⟨_, rfl, rfl, F⟩
set_option maxRecDepth 100000 in
theorem q1_judge_0 {N d : Nat} (hd : 5 ≤ d) {ln la lb lim : Nat} (hl : mi_Ls ln la lb lim) {p1 : Int32} {δ : mi_D} {Q : Int32 → mi_D → Prop} (F : (((δ.1 ln 2) < 2 → Q (-7) δ) ∧ (¬ (δ.1 ln 2) < 2 → (mi_wL N (d - 1) 64 0 [.ref ln, .null, .null, .null] [] δ (fun r2 δ1 => (((lg_cmp r2 0) = 0 → (mi_wI N (d - 1) 76 0 [.ref 14, .int p1, .null] [] δ1 (fun r4 δ3 => ((r4 = (-1) → Q (-9) δ3) ∧ (¬ r4 = (-1) → ((r4 < (δ3.1 14 3) → Q (-10) δ3) ∧ (¬ r4 < (δ3.1 14 3) → (mi_wI N (d - 1) 25 0 [.ref 3, .ref ln, .null] [] δ3 (fun r6 δ5 => ((r6 = 0 → (mi_wI N (d - 1) 24 0 [.ref 3, .ref ln] [] δ5 (fun r8 δ7 => Q r8 δ7))) ∧ (¬ r6 = 0 → Q (-11) δ5))))))))))) ∧ (¬ (lg_cmp r2 0) = 0 → Q (-8) δ1))))))) : mi_wI N d 23 0 [.ref 3, .ref ln, .int p1, .null] [] δ Q := by
  unfold mi_wI
  obtain ⟨hk_ln, hr_ln_0, hr_ln_1, hk_la, hk_lb, hl_la, hl_lb⟩ := hl.all N
  refine ms_seq mB_23 mO_23 [(.aload_n 1, 1)] (pc' := 1) (L' := [.ref 3, .ref ln, .int p1, .null]) (st' := [.ref ln]) ⟨dX1_judge_0, trivial⟩ rfl ?_
  refine ms_getI mB_23 mO_23 dX1_judge_1 mF_1_89 (hk_ln) (Or.inl rfl) ?_
  refine ms_seq mB_23 mO_23 [(.iconst 2, 1)] (pc' := 5) (L' := [.ref 3, .ref ln, .int p1, .null]) (st' := [.int 2, .int (δ.1 ln 2)]) ⟨dX1_judge_4, trivial⟩ rfl ?_
  refine ms_icmp_ge mB_23 dX1_judge_5 (t := 11) rfl (fun c => ?_) (fun c => ?_)
  · have F := F.2 c
    refine ms_seq mB_23 mO_23 [(.aload_n 1, 1)] (pc' := 12) (L' := [.ref 3, .ref ln, .int p1, .null]) (st' := [.ref ln]) ⟨dX1_judge_11, trivial⟩ rfl ?_
    refine ms_callvL mB_23 mO_23 (by omega) dX1_judge_12 mQ_1_92 mC_1_92 mL_64 mO_64 rfl (Nat.le_of_ble_eq_true rfl) (Nat.le_of_ble_eq_true rfl) (hk_ln) rfl F (fun r2 δ1 F => ?_)
    refine ms_seq mB_23 mO_23 [(.lconst 0, 1), (.lcmp, 1)] (pc' := 17) (L' := [.ref 3, .ref ln, .int p1, .null]) (st' := [.int (lg_cmp r2 0)]) ⟨dX1_judge_15, dX1_judge_16, trivial⟩ rfl ?_
    refine ms_if_eq mB_23 dX1_judge_17 (t := 23) rfl (fun c => ?_) (fun c => ?_)
    · have F := F.1 c
      refine ms_seq mB_23 mO_23 [(.aload_n 0, 1)] (pc' := 24) (L' := [.ref 3, .ref ln, .int p1, .null]) (st' := [.ref 3]) ⟨dX1_judge_23, trivial⟩ rfl ?_
      refine ms_getR mB_23 mO_23 dX1_judge_24 mF_1_21 (gk_3 N) rfl (b := 14) (gr_3_1 N) ?_
      refine ms_seq mB_23 mO_23 [(.iload_n 2, 1)] (pc' := 28) (L' := [.ref 3, .ref ln, .int p1, .null]) (st' := [.int p1, .ref 14]) ⟨dX1_judge_27, trivial⟩ rfl ?_
      refine ms_callvI mB_23 mO_23 (by omega) dX1_judge_28 mQ_1_96 mC_1_96 mL_76 mO_76 rfl (Nat.le_of_ble_eq_true rfl) (Nat.le_of_ble_eq_true rfl) (gk_14 N) rfl F (fun r4 δ3 F => ?_)
      refine ms_seq mB_23 mO_23 [(.istore_n 3, 1), (.iload_n 3, 1), (.iconst (-1), 1)] (pc' := 34) (L' := [.ref 3, .ref ln, .int p1, .int r4]) (st' := [.int (-1), .int r4]) ⟨dX1_judge_31, dX1_judge_32, dX1_judge_33, trivial⟩ rfl ?_
      refine ms_icmp_ne mB_23 dX1_judge_34 (t := 40) rfl (fun c => ?_) (fun c => ?_)
      · have F := F.2 c
        refine ms_seq mB_23 mO_23 [(.iload_n 3, 1), (.aload_n 0, 1)] (pc' := 42) (L' := [.ref 3, .ref ln, .int p1, .int r4]) (st' := [.ref 3, .int r4]) ⟨dX1_judge_40, dX1_judge_41, trivial⟩ rfl ?_
        refine ms_getR mB_23 mO_23 dX1_judge_42 mF_1_21 (gk_3 N) rfl (b := 14) (gr_3_1 N) ?_
        refine ms_getI mB_23 mO_23 dX1_judge_45 mF_1_99 (gk_14 N) (Or.inl rfl) ?_
        refine ms_icmp_ge mB_23 dX1_judge_48 (t := 54) rfl (fun c => ?_) (fun c => ?_)
        · have F := F.2 c
          refine ms_seq mB_23 mO_23 [(.aload_n 0, 1), (.aload_n 1, 1)] (pc' := 56) (L' := [.ref 3, .ref ln, .int p1, .int r4]) (st' := [.ref ln, .ref 3]) ⟨dX1_judge_54, dX1_judge_55, trivial⟩ rfl ?_
          refine ms_callvI mB_23 mO_23 (by omega) dX1_judge_56 mQ_1_102 mC_1_102 mL_25 mO_25 rfl (Nat.le_of_ble_eq_true rfl) (Nat.le_of_ble_eq_true rfl) (gk_3 N) rfl F (fun r6 δ5 F => ?_)
          refine ms_if_eq mB_23 dX1_judge_59 (t := 67) rfl (fun c => ?_) (fun c => ?_)
          · have F := F.1 c
            refine ms_seq mB_23 mO_23 [(.aload_n 0, 1), (.aload_n 1, 1)] (pc' := 69) (L' := [.ref 3, .ref ln, .int p1, .int r4]) (st' := [.ref ln, .ref 3]) ⟨dX1_judge_67, dX1_judge_68, trivial⟩ rfl ?_
            refine ms_callvI mB_23 mO_23 (by omega) dX1_judge_69 mQ_1_106 mC_1_106 mL_24 mO_24 rfl (Nat.le_of_ble_eq_true rfl) (Nat.le_of_ble_eq_true rfl) (gk_3 N) rfl F (fun r8 δ7 F => ?_)
            exact ms_iret mB_23 dX1_judge_72 mR_23 ⟨_, rfl, rfl, F⟩
          · have F := F.2 c
            refine ms_seq mB_23 mO_23 [(.bipush (-11), 2)] (pc' := 64) (L' := [.ref 3, .ref ln, .int p1, .int r4]) (st' := [.int (-11)]) ⟨dX1_judge_62, trivial⟩ rfl ?_
            refine ms_goto mB_23 dX1_judge_64 (t := 72) rfl ?_
            exact ms_iret mB_23 dX1_judge_72 mR_23 ⟨_, rfl, rfl, F⟩
        · have F := F.1 c
          refine ms_seq mB_23 mO_23 [(.bipush (-10), 2)] (pc' := 53) (L' := [.ref 3, .ref ln, .int p1, .int r4]) (st' := [.int (-10)]) ⟨dX1_judge_51, trivial⟩ rfl ?_
          exact ms_iret mB_23 dX1_judge_53 mR_23 ⟨_, rfl, rfl, F⟩
      · have F := F.1 c
        refine ms_seq mB_23 mO_23 [(.bipush (-9), 2)] (pc' := 39) (L' := [.ref 3, .ref ln, .int p1, .int r4]) (st' := [.int (-9)]) ⟨dX1_judge_37, trivial⟩ rfl ?_
        exact ms_iret mB_23 dX1_judge_39 mR_23 ⟨_, rfl, rfl, F⟩
    · have F := F.2 c
      refine ms_seq mB_23 mO_23 [(.bipush (-8), 2)] (pc' := 22) (L' := [.ref 3, .ref ln, .int p1, .null]) (st' := [.int (-8)]) ⟨dX1_judge_20, trivial⟩ rfl ?_
      exact ms_iret mB_23 dX1_judge_22 mR_23 ⟨_, rfl, rfl, F⟩
  · have F := F.1 c
    refine ms_seq mB_23 mO_23 [(.bipush (-7), 2)] (pc' := 10) (L' := [.ref 3, .ref ln, .int p1, .null]) (st' := [.int (-7)]) ⟨dX1_judge_8, trivial⟩ rfl ?_
    exact ms_iret mB_23 dX1_judge_10 mR_23 ⟨_, rfl, rfl, F⟩
set_option maxRecDepth 100000 in
theorem q1_refusesUnjudged_0 {N d : Nat} (hd : 5 ≤ d) {ln la lb lim : Nat} (hl : mi_Ls ln la lb lim) {δ : mi_D} {Q : Int32 → mi_D → Prop} (F : (mi_wI N (d - 1) 26 0 [.ref 3, .ref ln, .null, .null, .null, .null, .null] [] δ (fun r2 δ1 => ((r2 = 0 → ((0 < (δ1.1 ln 2) → (((δ1.1 17 9) < 400 → Q 0 δ1) ∧ (¬ (δ1.1 17 9) < 400 → Q (-13) δ1))) ∧ (¬ 0 < (δ1.1 ln 2) → Q 0 δ1))) ∧ (¬ r2 = 0 → Q (-12) δ1))))) : mi_wI N d 24 0 [.ref 3, .ref ln] [] δ Q := by
  unfold mi_wI
  obtain ⟨hk_ln, hr_ln_0, hr_ln_1, hk_la, hk_lb, hl_la, hl_lb⟩ := hl.all N
  refine ms_seq mB_24 mO_24 [(.aload_n 0, 1), (.aload_n 1, 1)] (pc' := 2) (L' := [.ref 3, .ref ln]) (st' := [.ref ln, .ref 3]) ⟨dX1_refusesUnjudged_0, dX1_refusesUnjudged_1, trivial⟩ rfl ?_
  refine ms_callvI mB_24 mO_24 (by omega) dX1_refusesUnjudged_2 mQ_1_110 mC_1_110 mL_26 mO_26 rfl (Nat.le_of_ble_eq_true rfl) (Nat.le_of_ble_eq_true rfl) (gk_3 N) rfl F (fun r2 δ1 F => ?_)
  refine ms_if_eq mB_24 dX1_refusesUnjudged_5 (t := 11) rfl (fun c => ?_) (fun c => ?_)
  · have F := F.1 c
    refine ms_seq mB_24 mO_24 [(.aload_n 1, 1)] (pc' := 12) (L' := [.ref 3, .ref ln]) (st' := [.ref ln]) ⟨dX1_refusesUnjudged_11, trivial⟩ rfl ?_
    refine ms_getI mB_24 mO_24 dX1_refusesUnjudged_12 mF_1_89 (hk_ln) (Or.inl rfl) ?_
    refine ms_if_le mB_24 dX1_refusesUnjudged_15 (t := 36) rfl (fun c => ?_) (fun c => ?_)
    · have F := F.2 c
      refine ms_seq mB_24 mO_24 [(.iconst 0, 1)] (pc' := 37) (L' := [.ref 3, .ref ln]) (st' := [.int 0]) ⟨dX1_refusesUnjudged_36, trivial⟩ rfl ?_
      exact ms_iret mB_24 dX1_refusesUnjudged_37 mR_24 ⟨_, rfl, rfl, F⟩
    · have F := F.1 c
      refine ms_seq mB_24 mO_24 [(.aload_n 0, 1)] (pc' := 19) (L' := [.ref 3, .ref ln]) (st' := [.ref 3]) ⟨dX1_refusesUnjudged_18, trivial⟩ rfl ?_
      refine ms_getR mB_24 mO_24 dX1_refusesUnjudged_19 mF_1_28 (gk_3 N) rfl (b := 17) (gr_3_2 N) ?_
      refine ms_getI mB_24 mO_24 dX1_refusesUnjudged_22 mF_1_113 (gk_17 N) (Or.inl rfl) ?_
      refine ms_seq mB_24 mO_24 [(.sipush 400, 3)] (pc' := 28) (L' := [.ref 3, .ref ln]) (st' := [.int 400, .int (δ1.1 17 9)]) ⟨dX1_refusesUnjudged_25, trivial⟩ rfl ?_
      refine ms_icmp_lt mB_24 dX1_refusesUnjudged_28 (t := 36) rfl (fun c => ?_) (fun c => ?_)
      · have F := F.1 c
        refine ms_seq mB_24 mO_24 [(.iconst 0, 1)] (pc' := 37) (L' := [.ref 3, .ref ln]) (st' := [.int 0]) ⟨dX1_refusesUnjudged_36, trivial⟩ rfl ?_
        exact ms_iret mB_24 dX1_refusesUnjudged_37 mR_24 ⟨_, rfl, rfl, F⟩
      · have F := F.2 c
        refine ms_seq mB_24 mO_24 [(.bipush (-13), 2)] (pc' := 33) (L' := [.ref 3, .ref ln]) (st' := [.int (-13)]) ⟨dX1_refusesUnjudged_31, trivial⟩ rfl ?_
        refine ms_goto mB_24 dX1_refusesUnjudged_33 (t := 37) rfl ?_
        exact ms_iret mB_24 dX1_refusesUnjudged_37 mR_24 ⟨_, rfl, rfl, F⟩
  · have F := F.2 c
    refine ms_seq mB_24 mO_24 [(.bipush (-12), 2)] (pc' := 10) (L' := [.ref 3, .ref ln]) (st' := [.int (-12)]) ⟨dX1_refusesUnjudged_8, trivial⟩ rfl ?_
    exact ms_iret mB_24 dX1_refusesUnjudged_10 mR_24 ⟨_, rfl, rfl, F⟩
set_option maxRecDepth 100000 in
theorem q1_hasShut_0 {N d : Nat} (hd : 5 ≤ d) {ln la lb lim : Nat} (hl : mi_Ls ln la lb lim) {δ : mi_D} {Q : Int32 → mi_D → Prop} (F : mi_wI N d 25 2 [.ref 3, .ref ln, .int 0] [] δ Q) : mi_wI N d 25 0 [.ref 3, .ref ln, .null] [] δ Q := by
  unfold mi_wI
  obtain ⟨hk_ln, hr_ln_0, hr_ln_1, hk_la, hk_lb, hl_la, hl_lb⟩ := hl.all N
  refine ms_seq mB_25 mO_25 [(.iconst 0, 1), (.istore_n 2, 1)] (pc' := 2) (L' := [.ref 3, .ref ln, .int 0]) (st' := []) ⟨dX1_hasShut_0, dX1_hasShut_1, trivial⟩ rfl ?_
  exact F
set_option maxRecDepth 100000 in
theorem q1_hasShut_2 {N d : Nat} (hd : 5 ≤ d) {ln la lb lim : Nat} (hl : mi_Ls ln la lb lim) {l2 : Int32} {δ : mi_D} {Q : Int32 → mi_D → Prop} (F : ((l2 < (δ.1 ln 2) → (mi_wI N (d - 1) 4 0 [.ref 4, .int (mi_at δ la l2)] [] δ (fun r2 δ1 => ((r2 = 0 → mi_wI N d 25 2 [.ref 3, .ref ln, .int (l2 + 1)] [] δ1 Q) ∧ (¬ r2 = 0 → Q 1 δ1))))) ∧ (¬ l2 < (δ.1 ln 2) → Q 0 δ))) : mi_wI N d 25 2 [.ref 3, .ref ln, .int l2] [] δ Q := by
  unfold mi_wI
  obtain ⟨hk_ln, hr_ln_0, hr_ln_1, hk_la, hk_lb, hl_la, hl_lb⟩ := hl.all N
  refine ms_seq mB_25 mO_25 [(.iload_n 2, 1), (.aload_n 1, 1)] (pc' := 4) (L' := [.ref 3, .ref ln, .int l2]) (st' := [.ref ln, .int l2]) ⟨dX1_hasShut_2, dX1_hasShut_3, trivial⟩ rfl ?_
  refine ms_getI mB_25 mO_25 dX1_hasShut_4 mF_1_89 (hk_ln) (Or.inl rfl) ?_
  refine ms_icmp_ge mB_25 dX1_hasShut_7 (t := 36) rfl (fun c => ?_) (fun c => ?_)
  · have F := F.2 c
    refine ms_seq mB_25 mO_25 [(.iconst 0, 1)] (pc' := 37) (L' := [.ref 3, .ref ln, .int l2]) (st' := [.int 0]) ⟨dX1_hasShut_36, trivial⟩ rfl ?_
    exact ms_zret mB_25 dX1_hasShut_37 mR_25 (by decide) ⟨_, rfl, rfl, F⟩
  · have F := F.1 c
    refine ms_seq mB_25 mO_25 [(.aload_n 0, 1)] (pc' := 11) (L' := [.ref 3, .ref ln, .int l2]) (st' := [.ref 3]) ⟨dX1_hasShut_10, trivial⟩ rfl ?_
    refine ms_getR mB_25 mO_25 dX1_hasShut_11 mF_1_12 (gk_3 N) rfl (b := 4) (gr_3_0 N) ?_
    refine ms_seq mB_25 mO_25 [(.aload_n 1, 1)] (pc' := 15) (L' := [.ref 3, .ref ln, .int l2]) (st' := [.ref ln, .ref 4]) ⟨dX1_hasShut_14, trivial⟩ rfl ?_
    refine ms_getR mB_25 mO_25 dX1_hasShut_15 mF_1_114 (hk_ln) rfl (b := la) (hr_ln_0) ?_
    refine ms_seq mB_25 mO_25 [(.iload_n 2, 1)] (pc' := 19) (L' := [.ref 3, .ref ln, .int l2]) (st' := [.int l2, .ref la, .ref 4]) ⟨dX1_hasShut_18, trivial⟩ rfl ?_
    refine ms_at mB_25 mO_25 hd dX1_hasShut_19 mQ_1_79 (Nat.le_of_ble_eq_true rfl) (hk_la) (mi_ne (hl_la)) ?_
    refine ms_callvI mB_25 mO_25 (by omega) dX1_hasShut_22 mQ_1_67 mC_1_67 mL_4 mO_4 rfl (Nat.le_of_ble_eq_true rfl) (Nat.le_of_ble_eq_true rfl) (gk_4 N) rfl F (fun r2 δ1 F => ?_)
    refine ms_if_eq mB_25 dX1_hasShut_25 (t := 30) rfl (fun c => ?_) (fun c => ?_)
    · have F := F.1 c
      refine ms_seq mB_25 mO_25 [(.iinc 2 1, 3)] (pc' := 33) (L' := [.ref 3, .ref ln, .int (l2 + 1)]) (st' := []) ⟨dX1_hasShut_30, trivial⟩ rfl ?_
      refine ms_goto mB_25 dX1_hasShut_33 (t := 2) rfl ?_
      exact F
    · have F := F.2 c
      refine ms_seq mB_25 mO_25 [(.iconst 1, 1)] (pc' := 29) (L' := [.ref 3, .ref ln, .int l2]) (st' := [.int 1]) ⟨dX1_hasShut_28, trivial⟩ rfl ?_
      exact ms_zret mB_25 dX1_hasShut_29 mR_25 (by decide) ⟨_, rfl, rfl, F⟩
set_option maxRecDepth 100000 in
theorem q1_goesOver_0 {N d : Nat} (hd : 5 ≤ d) {ln la lb lim : Nat} (hl : mi_Ls ln la lb lim) {δ : mi_D} {Q : Int32 → mi_D → Prop} (F : mi_wI N d 26 2 [.ref 3, .ref ln, .int 0, .null, .null, .null, .null] [] δ Q) : mi_wI N d 26 0 [.ref 3, .ref ln, .null, .null, .null, .null, .null] [] δ Q := by
  unfold mi_wI
  obtain ⟨hk_ln, hr_ln_0, hr_ln_1, hk_la, hk_lb, hl_la, hl_lb⟩ := hl.all N
  refine ms_seq mB_26 mO_26 [(.iconst 0, 1), (.istore_n 2, 1)] (pc' := 2) (L' := [.ref 3, .ref ln, .int 0, .null, .null, .null, .null]) (st' := []) ⟨dX1_goesOver_0, dX1_goesOver_1, trivial⟩ rfl ?_
  exact F
set_option maxRecDepth 100000 in
theorem q1_goesOver_2 {N d : Nat} (hd : 5 ≤ d) {ln la lb lim : Nat} (hl : mi_Ls ln la lb lim) {l2 : Int32} {δ : mi_D} {Q : Int32 → mi_D → Prop} (F : ((l2 < (δ.1 ln 2) → (∀ x1 : Int32, x1 = (mi_at δ la l2) → (∀ x2 : Int64, x2 = (mi_al δ 11 x1) → mi_wI N d 26 35 [.ref 3, .ref ln, .int l2, .int x1, .long x2, .null, .int 0] [] δ Q))) ∧ (¬ l2 < (δ.1 ln 2) → Q 0 δ))) : mi_wI N d 26 2 [.ref 3, .ref ln, .int l2, .null, .null, .null, .null] [] δ Q := by
  unfold mi_wI
  obtain ⟨hk_ln, hr_ln_0, hr_ln_1, hk_la, hk_lb, hl_la, hl_lb⟩ := hl.all N
  refine ms_seq mB_26 mO_26 [(.iload_n 2, 1), (.aload_n 1, 1)] (pc' := 4) (L' := [.ref 3, .ref ln, .int l2, .null, .null, .null, .null]) (st' := [.ref ln, .int l2]) ⟨dX1_goesOver_2, dX1_goesOver_3, trivial⟩ rfl ?_
  refine ms_getI mB_26 mO_26 dX1_goesOver_4 mF_1_89 (hk_ln) (Or.inl rfl) ?_
  refine ms_icmp_ge mB_26 dX1_goesOver_7 (t := 100) rfl (fun c => ?_) (fun c => ?_)
  · have F := F.2 c
    refine ms_seq mB_26 mO_26 [(.iconst 0, 1)] (pc' := 101) (L' := [.ref 3, .ref ln, .int l2, .null, .null, .null, .null]) (st' := [.int 0]) ⟨dX1_goesOver_100, trivial⟩ rfl ?_
    exact ms_zret mB_26 dX1_goesOver_101 mR_26 (by decide) ⟨_, rfl, rfl, F⟩
  · have F := F.1 c
    refine ms_seq mB_26 mO_26 [(.aload_n 1, 1)] (pc' := 11) (L' := [.ref 3, .ref ln, .int l2, .null, .null, .null, .null]) (st' := [.ref ln]) ⟨dX1_goesOver_10, trivial⟩ rfl ?_
    refine ms_getR mB_26 mO_26 dX1_goesOver_11 mF_1_114 (hk_ln) rfl (b := la) (hr_ln_0) ?_
    refine ms_seq mB_26 mO_26 [(.iload_n 2, 1)] (pc' := 15) (L' := [.ref 3, .ref ln, .int l2, .null, .null, .null, .null]) (st' := [.int l2, .ref la]) ⟨dX1_goesOver_14, trivial⟩ rfl ?_
    refine ms_at mB_26 mO_26 hd dX1_goesOver_15 mQ_1_79 (Nat.le_of_ble_eq_true rfl) (hk_la) (mi_ne (hl_la)) ?_
    refine mr_topi (fun x1 e_x1 => ?_)
    have F := F x1 e_x1
    refine ms_seq mB_26 mO_26 [(.istore_n 3, 1), (.aload_n 0, 1)] (pc' := 20) (L' := [.ref 3, .ref ln, .int l2, .int x1, .null, .null, .null]) (st' := [.ref 3]) ⟨dX1_goesOver_18, dX1_goesOver_19, trivial⟩ rfl ?_
    refine ms_getR mB_26 mO_26 dX1_goesOver_20 mF_1_12 (gk_3 N) rfl (b := 4) (gr_3_0 N) ?_
    refine ms_getR mB_26 mO_26 dX1_goesOver_23 mF_1_116 (gk_4 N) rfl (b := 11) (gr_4_6 N) ?_
    refine ms_seq mB_26 mO_26 [(.iload_n 3, 1)] (pc' := 27) (L' := [.ref 3, .ref ln, .int l2, .int x1, .null, .null, .null]) (st' := [.int x1, .ref 11]) ⟨dX1_goesOver_26, trivial⟩ rfl ?_
    refine ms_al mB_26 mO_26 hd dX1_goesOver_27 mQ_1_119 (Nat.le_of_ble_eq_true rfl) (gk_11 N) (mi_ne (gl_11 N)) ?_
    refine mr_topl (fun x2 e_x2 => ?_)
    have F := F x2 e_x2
    refine ms_seq mB_26 mO_26 [(.lstore 4, 2), (.iconst 0, 1), (.istore 6, 2)] (pc' := 35) (L' := [.ref 3, .ref ln, .int l2, .int x1, .long x2, .null, .int 0]) (st' := []) ⟨dX1_goesOver_30, dX1_goesOver_32, dX1_goesOver_33, trivial⟩ rfl ?_
    exact F
set_option maxRecDepth 100000 in
theorem q1_goesOver_35 {N d : Nat} (hd : 5 ≤ d) {ln la lb lim : Nat} (hl : mi_Ls ln la lb lim) {l2 l3 l6 : Int32} {l4 : Int64} {δ : mi_D} {Q : Int32 → mi_D → Prop} (F : ((l6 < (δ.1 ln 2) → (((mi_at δ la l6) = l3 → (∀ x4 : Int64, x4 = (l4 + (mi_al δ lb l6)) → mi_wI N d 26 35 [.ref 3, .ref ln, .int l2, .int l3, .long x4, .null, .int (l6 + 1)] [] δ Q)) ∧ (¬ (mi_at δ la l6) = l3 → (∀ x3 : Int64, x3 = (l4 + 0) → mi_wI N d 26 35 [.ref 3, .ref ln, .int l2, .int l3, .long x3, .null, .int (l6 + 1)] [] δ Q)))) ∧ (¬ l6 < (δ.1 ln 2) → (mi_wI N (d - 1) 146 0 [.long l4, .null, .long 10000000000000000, .null] [] δ (fun r2 δ1 => ((r2 = 0 → Q 1 δ1) ∧ (¬ r2 = 0 → mi_wI N d 26 2 [.ref 3, .ref ln, .int (l2 + 1), .int l3, .long l4, .null, .int l6] [] δ1 Q))))))) : mi_wI N d 26 35 [.ref 3, .ref ln, .int l2, .int l3, .long l4, .null, .int l6] [] δ Q := by
  unfold mi_wI
  obtain ⟨hk_ln, hr_ln_0, hr_ln_1, hk_la, hk_lb, hl_la, hl_lb⟩ := hl.all N
  refine ms_seq mB_26 mO_26 [(.iload 6, 2), (.aload_n 1, 1)] (pc' := 38) (L' := [.ref 3, .ref ln, .int l2, .int l3, .long l4, .null, .int l6]) (st' := [.ref ln, .int l6]) ⟨dX1_goesOver_35, dX1_goesOver_37, trivial⟩ rfl ?_
  refine ms_getI mB_26 mO_26 dX1_goesOver_38 mF_1_89 (hk_ln) (Or.inl rfl) ?_
  refine ms_icmp_ge mB_26 dX1_goesOver_41 (t := 81) rfl (fun c => ?_) (fun c => ?_)
  · have F := F.2 c
    refine ms_seq mB_26 mO_26 [(.lload 4, 2), (.ldc2_w 125, 3)] (pc' := 86) (L' := [.ref 3, .ref ln, .int l2, .int l3, .long l4, .null, .int l6]) (st' := [.long 10000000000000000, .long l4]) ⟨dX1_goesOver_81, dX1_goesOver_83, trivial⟩ rfl ?_
    refine ms_callsI mB_26 mO_26 (by omega) dX1_goesOver_86 mQ_1_127 mC_1_127 mL_146 (by decide) rfl (Nat.le_of_ble_eq_true rfl) (Nat.le_of_ble_eq_true rfl) rfl F (fun r2 δ1 F => ?_)
    refine ms_if_ne mB_26 dX1_goesOver_89 (t := 94) rfl (fun c => ?_) (fun c => ?_)
    · have F := F.2 c
      refine ms_seq mB_26 mO_26 [(.iinc 2 1, 3)] (pc' := 97) (L' := [.ref 3, .ref ln, .int (l2 + 1), .int l3, .long l4, .null, .int l6]) (st' := []) ⟨dX1_goesOver_94, trivial⟩ rfl ?_
      refine ms_goto mB_26 dX1_goesOver_97 (t := 2) rfl ?_
      exact F
    · have F := F.1 c
      refine ms_seq mB_26 mO_26 [(.iconst 1, 1)] (pc' := 93) (L' := [.ref 3, .ref ln, .int l2, .int l3, .long l4, .null, .int l6]) (st' := [.int 1]) ⟨dX1_goesOver_92, trivial⟩ rfl ?_
      exact ms_zret mB_26 dX1_goesOver_93 mR_26 (by decide) ⟨_, rfl, rfl, F⟩
  · have F := F.1 c
    refine ms_seq mB_26 mO_26 [(.lload 4, 2), (.aload_n 1, 1)] (pc' := 47) (L' := [.ref 3, .ref ln, .int l2, .int l3, .long l4, .null, .int l6]) (st' := [.ref ln, .long l4]) ⟨dX1_goesOver_44, dX1_goesOver_46, trivial⟩ rfl ?_
    refine ms_getR mB_26 mO_26 dX1_goesOver_47 mF_1_114 (hk_ln) rfl (b := la) (hr_ln_0) ?_
    refine ms_seq mB_26 mO_26 [(.iload 6, 2)] (pc' := 52) (L' := [.ref 3, .ref ln, .int l2, .int l3, .long l4, .null, .int l6]) (st' := [.int l6, .ref la, .long l4]) ⟨dX1_goesOver_50, trivial⟩ rfl ?_
    refine ms_at mB_26 mO_26 hd dX1_goesOver_52 mQ_1_79 (Nat.le_of_ble_eq_true rfl) (hk_la) (mi_ne (hl_la)) ?_
    refine ms_seq mB_26 mO_26 [(.iload_n 3, 1)] (pc' := 56) (L' := [.ref 3, .ref ln, .int l2, .int l3, .long l4, .null, .int l6]) (st' := [.int l3, .int (mi_at δ la l6), .long l4]) ⟨dX1_goesOver_55, trivial⟩ rfl ?_
    refine ms_icmp_ne mB_26 dX1_goesOver_56 (t := 71) rfl (fun c => ?_) (fun c => ?_)
    · have F := F.2 c
      refine ms_seq mB_26 mO_26 [(.lconst 0, 1), (.ladd, 1)] (pc' := 73) (L' := [.ref 3, .ref ln, .int l2, .int l3, .long l4, .null, .int l6]) (st' := [.long (l4 + 0)]) ⟨dX1_goesOver_71, dX1_goesOver_72, trivial⟩ rfl ?_
      refine mr_topl (fun x3 e_x3 => ?_)
      have F := F x3 e_x3
      refine ms_seq mB_26 mO_26 [(.lstore 4, 2), (.iinc 6 1, 3)] (pc' := 78) (L' := [.ref 3, .ref ln, .int l2, .int l3, .long x3, .null, .int (l6 + 1)]) (st' := []) ⟨dX1_goesOver_73, dX1_goesOver_75, trivial⟩ rfl ?_
      refine ms_goto mB_26 dX1_goesOver_78 (t := 35) rfl ?_
      exact F
    · have F := F.1 c
      refine ms_seq mB_26 mO_26 [(.aload_n 1, 1)] (pc' := 60) (L' := [.ref 3, .ref ln, .int l2, .int l3, .long l4, .null, .int l6]) (st' := [.ref ln, .long l4]) ⟨dX1_goesOver_59, trivial⟩ rfl ?_
      refine ms_getR mB_26 mO_26 dX1_goesOver_60 mF_1_122 (hk_ln) rfl (b := lb) (hr_ln_1) ?_
      refine ms_seq mB_26 mO_26 [(.iload 6, 2)] (pc' := 65) (L' := [.ref 3, .ref ln, .int l2, .int l3, .long l4, .null, .int l6]) (st' := [.int l6, .ref lb, .long l4]) ⟨dX1_goesOver_63, trivial⟩ rfl ?_
      refine ms_al mB_26 mO_26 hd dX1_goesOver_65 mQ_1_119 (Nat.le_of_ble_eq_true rfl) (hk_lb) (mi_ne (hl_lb)) ?_
      refine ms_goto mB_26 dX1_goesOver_68 (t := 72) rfl ?_
      refine ms_seq mB_26 mO_26 [(.ladd, 1)] (pc' := 73) (L' := [.ref 3, .ref ln, .int l2, .int l3, .long l4, .null, .int l6]) (st' := [.long (l4 + (mi_al δ lb l6))]) ⟨dX1_goesOver_72, trivial⟩ rfl ?_
      refine mr_topl (fun x4 e_x4 => ?_)
      have F := F x4 e_x4
      refine ms_seq mB_26 mO_26 [(.lstore 4, 2), (.iinc 6 1, 3)] (pc' := 78) (L' := [.ref 3, .ref ln, .int l2, .int l3, .long x4, .null, .int (l6 + 1)]) (st' := []) ⟨dX1_goesOver_73, dX1_goesOver_75, trivial⟩ rfl ?_
      refine ms_goto mB_26 dX1_goesOver_78 (t := 35) rfl ?_
      exact F
set_option maxRecDepth 100000 in
theorem q1_goesOver_2a {N d : Nat} (hd : 5 ≤ d) {ln la lb lim : Nat} (hl : mi_Ls ln la lb lim) {l2 l3 l6 : Int32} {l4 : Int64} {δ : mi_D} {Q : Int32 → mi_D → Prop} (F : ((l2 < (δ.1 ln 2) → (∀ x1 : Int32, x1 = (mi_at δ la l2) → (∀ x2 : Int64, x2 = (mi_al δ 11 x1) → mi_wI N d 26 35 [.ref 3, .ref ln, .int l2, .int x1, .long x2, .null, .int 0] [] δ Q))) ∧ (¬ l2 < (δ.1 ln 2) → Q 0 δ))) : mi_wI N d 26 2 [.ref 3, .ref ln, .int l2, .int l3, .long l4, .null, .int l6] [] δ Q := by
  unfold mi_wI
  obtain ⟨hk_ln, hr_ln_0, hr_ln_1, hk_la, hk_lb, hl_la, hl_lb⟩ := hl.all N
  refine ms_seq mB_26 mO_26 [(.iload_n 2, 1), (.aload_n 1, 1)] (pc' := 4) (L' := [.ref 3, .ref ln, .int l2, .int l3, .long l4, .null, .int l6]) (st' := [.ref ln, .int l2]) ⟨dX1_goesOver_2, dX1_goesOver_3, trivial⟩ rfl ?_
  refine ms_getI mB_26 mO_26 dX1_goesOver_4 mF_1_89 (hk_ln) (Or.inl rfl) ?_
  refine ms_icmp_ge mB_26 dX1_goesOver_7 (t := 100) rfl (fun c => ?_) (fun c => ?_)
  · have F := F.2 c
    refine ms_seq mB_26 mO_26 [(.iconst 0, 1)] (pc' := 101) (L' := [.ref 3, .ref ln, .int l2, .int l3, .long l4, .null, .int l6]) (st' := [.int 0]) ⟨dX1_goesOver_100, trivial⟩ rfl ?_
    exact ms_zret mB_26 dX1_goesOver_101 mR_26 (by decide) ⟨_, rfl, rfl, F⟩
  · have F := F.1 c
    refine ms_seq mB_26 mO_26 [(.aload_n 1, 1)] (pc' := 11) (L' := [.ref 3, .ref ln, .int l2, .int l3, .long l4, .null, .int l6]) (st' := [.ref ln]) ⟨dX1_goesOver_10, trivial⟩ rfl ?_
    refine ms_getR mB_26 mO_26 dX1_goesOver_11 mF_1_114 (hk_ln) rfl (b := la) (hr_ln_0) ?_
    refine ms_seq mB_26 mO_26 [(.iload_n 2, 1)] (pc' := 15) (L' := [.ref 3, .ref ln, .int l2, .int l3, .long l4, .null, .int l6]) (st' := [.int l2, .ref la]) ⟨dX1_goesOver_14, trivial⟩ rfl ?_
    refine ms_at mB_26 mO_26 hd dX1_goesOver_15 mQ_1_79 (Nat.le_of_ble_eq_true rfl) (hk_la) (mi_ne (hl_la)) ?_
    refine mr_topi (fun x1 e_x1 => ?_)
    have F := F x1 e_x1
    refine ms_seq mB_26 mO_26 [(.istore_n 3, 1), (.aload_n 0, 1)] (pc' := 20) (L' := [.ref 3, .ref ln, .int l2, .int x1, .long l4, .null, .int l6]) (st' := [.ref 3]) ⟨dX1_goesOver_18, dX1_goesOver_19, trivial⟩ rfl ?_
    refine ms_getR mB_26 mO_26 dX1_goesOver_20 mF_1_12 (gk_3 N) rfl (b := 4) (gr_3_0 N) ?_
    refine ms_getR mB_26 mO_26 dX1_goesOver_23 mF_1_116 (gk_4 N) rfl (b := 11) (gr_4_6 N) ?_
    refine ms_seq mB_26 mO_26 [(.iload_n 3, 1)] (pc' := 27) (L' := [.ref 3, .ref ln, .int l2, .int x1, .long l4, .null, .int l6]) (st' := [.int x1, .ref 11]) ⟨dX1_goesOver_26, trivial⟩ rfl ?_
    refine ms_al mB_26 mO_26 hd dX1_goesOver_27 mQ_1_119 (Nat.le_of_ble_eq_true rfl) (gk_11 N) (mi_ne (gl_11 N)) ?_
    refine mr_topl (fun x2 e_x2 => ?_)
    have F := F x2 e_x2
    refine ms_seq mB_26 mO_26 [(.lstore 4, 2), (.iconst 0, 1), (.istore 6, 2)] (pc' := 35) (L' := [.ref 3, .ref ln, .int l2, .int x1, .long x2, .null, .int 0]) (st' := []) ⟨dX1_goesOver_30, dX1_goesOver_32, dX1_goesOver_33, trivial⟩ rfl ?_
    exact F
set_option maxRecDepth 100000 in
theorem q1_enter_0 {N d : Nat} (hd : 5 ≤ d) {ln la lb lim : Nat} (hl : mi_Ls ln la lb lim) {p1 p2 p3 p4 : Int32} {δ : mi_D} {Q : Int32 → mi_D → Prop} (F : mi_wI N d 27 3 [.ref 3, .ref ln, .int p1, .int p2, .int p3, .int p4, .int 0] [] δ Q) : mi_wI N d 27 0 [.ref 3, .ref ln, .int p1, .int p2, .int p3, .int p4, .null] [] δ Q := by
  unfold mi_wI
  obtain ⟨hk_ln, hr_ln_0, hr_ln_1, hk_la, hk_lb, hl_la, hl_lb⟩ := hl.all N
  refine ms_seq mB_27 mO_27 [(.iconst 0, 1), (.istore 6, 2)] (pc' := 3) (L' := [.ref 3, .ref ln, .int p1, .int p2, .int p3, .int p4, .int 0]) (st' := []) ⟨dX1_enter_0, dX1_enter_1, trivial⟩ rfl ?_
  exact F
set_option maxRecDepth 100000 in
theorem q1_enter_3 {N d : Nat} (hd : 5 ≤ d) {ln la lb lim : Nat} (hl : mi_Ls ln la lb lim) {l2 l3 l4 l5 l6 : Int32} {δ : mi_D} {Q : Int32 → mi_D → Prop} (F : ((l6 < (δ.1 ln 2) → (mi_wV N (d - 1) 10 0 [.ref 4, .int (mi_at δ la l6), .long (mi_al δ lb l6), .null] [] δ (fun δ3 => mi_wI N d 27 3 [.ref 3, .ref ln, .int l2, .int l3, .int l4, .int l5, .int (l6 + 1)] [] δ3 Q))) ∧ (¬ l6 < (δ.1 ln 2) → (mi_wI N (d - 1) 40 0 [.ref 17, .ref ln, .int l2, .int l3, .int l4, .int l5, .null, .null] [] δ (fun r2 δ1 => Q r2 δ1))))) : mi_wI N d 27 3 [.ref 3, .ref ln, .int l2, .int l3, .int l4, .int l5, .int l6] [] δ Q := by
  unfold mi_wI
  obtain ⟨hk_ln, hr_ln_0, hr_ln_1, hk_la, hk_lb, hl_la, hl_lb⟩ := hl.all N
  refine ms_seq mB_27 mO_27 [(.iload 6, 2), (.aload_n 1, 1)] (pc' := 6) (L' := [.ref 3, .ref ln, .int l2, .int l3, .int l4, .int l5, .int l6]) (st' := [.ref ln, .int l6]) ⟨dX1_enter_3, dX1_enter_5, trivial⟩ rfl ?_
  refine ms_getI mB_27 mO_27 dX1_enter_6 mF_1_89 (hk_ln) (Or.inl rfl) ?_
  refine ms_icmp_ge mB_27 dX1_enter_9 (t := 43) rfl (fun c => ?_) (fun c => ?_)
  · have F := F.2 c
    refine ms_seq mB_27 mO_27 [(.aload_n 0, 1)] (pc' := 44) (L' := [.ref 3, .ref ln, .int l2, .int l3, .int l4, .int l5, .int l6]) (st' := [.ref 3]) ⟨dX1_enter_43, trivial⟩ rfl ?_
    refine ms_getR mB_27 mO_27 dX1_enter_44 mF_1_28 (gk_3 N) rfl (b := 17) (gr_3_2 N) ?_
    refine ms_seq mB_27 mO_27 [(.aload_n 1, 1), (.iload_n 2, 1), (.iload_n 3, 1), (.iload 4, 2), (.iload 5, 2)] (pc' := 54) (L' := [.ref 3, .ref ln, .int l2, .int l3, .int l4, .int l5, .int l6]) (st' := [.int l5, .int l4, .int l3, .int l2, .ref ln, .ref 17]) ⟨dX1_enter_47, dX1_enter_48, dX1_enter_49, dX1_enter_50, dX1_enter_52, trivial⟩ rfl ?_
    refine ms_callvI mB_27 mO_27 (by omega) dX1_enter_54 mQ_1_135 mC_1_135 mL_40 mO_40 rfl (Nat.le_of_ble_eq_true rfl) (Nat.le_of_ble_eq_true rfl) (gk_17 N) rfl F (fun r2 δ1 F => ?_)
    exact ms_iret mB_27 dX1_enter_57 mR_27 ⟨_, rfl, rfl, F⟩
  · have F := F.1 c
    refine ms_seq mB_27 mO_27 [(.aload_n 0, 1)] (pc' := 13) (L' := [.ref 3, .ref ln, .int l2, .int l3, .int l4, .int l5, .int l6]) (st' := [.ref 3]) ⟨dX1_enter_12, trivial⟩ rfl ?_
    refine ms_getR mB_27 mO_27 dX1_enter_13 mF_1_12 (gk_3 N) rfl (b := 4) (gr_3_0 N) ?_
    refine ms_seq mB_27 mO_27 [(.aload_n 1, 1)] (pc' := 17) (L' := [.ref 3, .ref ln, .int l2, .int l3, .int l4, .int l5, .int l6]) (st' := [.ref ln, .ref 4]) ⟨dX1_enter_16, trivial⟩ rfl ?_
    refine ms_getR mB_27 mO_27 dX1_enter_17 mF_1_114 (hk_ln) rfl (b := la) (hr_ln_0) ?_
    refine ms_seq mB_27 mO_27 [(.iload 6, 2)] (pc' := 22) (L' := [.ref 3, .ref ln, .int l2, .int l3, .int l4, .int l5, .int l6]) (st' := [.int l6, .ref la, .ref 4]) ⟨dX1_enter_20, trivial⟩ rfl ?_
    refine ms_at mB_27 mO_27 hd dX1_enter_22 mQ_1_79 (Nat.le_of_ble_eq_true rfl) (hk_la) (mi_ne (hl_la)) ?_
    refine ms_seq mB_27 mO_27 [(.aload_n 1, 1)] (pc' := 26) (L' := [.ref 3, .ref ln, .int l2, .int l3, .int l4, .int l5, .int l6]) (st' := [.ref ln, .int (mi_at δ la l6), .ref 4]) ⟨dX1_enter_25, trivial⟩ rfl ?_
    refine ms_getR mB_27 mO_27 dX1_enter_26 mF_1_122 (hk_ln) rfl (b := lb) (hr_ln_1) ?_
    refine ms_seq mB_27 mO_27 [(.iload 6, 2)] (pc' := 31) (L' := [.ref 3, .ref ln, .int l2, .int l3, .int l4, .int l5, .int l6]) (st' := [.int l6, .ref lb, .int (mi_at δ la l6), .ref 4]) ⟨dX1_enter_29, trivial⟩ rfl ?_
    refine ms_al mB_27 mO_27 hd dX1_enter_31 mQ_1_119 (Nat.le_of_ble_eq_true rfl) (hk_lb) (mi_ne (hl_lb)) ?_
    refine ms_callvV mB_27 mO_27 (by omega) dX1_enter_34 mQ_1_131 mC_1_131 mL_10 mO_10 rfl (Nat.le_of_ble_eq_true rfl) (Nat.le_of_ble_eq_true rfl) (gk_4 N) rfl F (fun δ3 F => ?_)
    refine ms_seq mB_27 mO_27 [(.iinc 6 1, 3)] (pc' := 40) (L' := [.ref 3, .ref ln, .int l2, .int l3, .int l4, .int l5, .int (l6 + 1)]) (st' := []) ⟨dX1_enter_37, trivial⟩ rfl ?_
    refine ms_goto mB_27 dX1_enter_40 (t := 3) rfl ?_
    exact F
set_option maxRecDepth 100000 in
theorem q1_refusesBack_0 {N d : Nat} (hd : 5 ≤ d) {ln la lb lim : Nat} (hl : mi_Ls ln la lb lim) {p0 p1 : Int32} {δ : mi_D} {Q : Int32 → mi_D → Prop} (F : (mi_wI N (d - 1) 39 0 [.ref 17, .int p0] [] δ (fun r2 δ1 => ((r2 = 0 → Q (-2) δ1) ∧ (¬ r2 = 0 → (((mi_at δ1 20 p0) = 0 → (((mi_at δ1 22 p0) = (-1) → (mi_wV N (d - 1) 43 0 [.ref 17, .int p0, .ref ln, .null] [] δ1 (fun δ3 => (mi_wI N (d - 1) 23 0 [.ref 3, .ref ln, .int p1, .null] [] δ3 (fun r5 δ4 => Q r5 δ4))))) ∧ (¬ (mi_at δ1 22 p0) = (-1) → Q (-5) δ1))) ∧ (¬ (mi_at δ1 20 p0) = 0 → Q (-4) δ1))))))) : mi_wI N d 28 0 [.ref 3, .int p0, .int p1, .ref ln] [] δ Q := by
  unfold mi_wI
  obtain ⟨hk_ln, hr_ln_0, hr_ln_1, hk_la, hk_lb, hl_la, hl_lb⟩ := hl.all N
  refine ms_seq mB_28 mO_28 [(.aload_n 0, 1)] (pc' := 1) (L' := [.ref 3, .int p0, .int p1, .ref ln]) (st' := [.ref 3]) ⟨dX1_refusesBack_0, trivial⟩ rfl ?_
  refine ms_getR mB_28 mO_28 dX1_refusesBack_1 mF_1_28 (gk_3 N) rfl (b := 17) (gr_3_2 N) ?_
  refine ms_seq mB_28 mO_28 [(.iload_n 1, 1)] (pc' := 5) (L' := [.ref 3, .int p0, .int p1, .ref ln]) (st' := [.int p0, .ref 17]) ⟨dX1_refusesBack_4, trivial⟩ rfl ?_
  refine ms_callvI mB_28 mO_28 (by omega) dX1_refusesBack_5 mQ_1_139 mC_1_139 mL_39 mO_39 rfl (Nat.le_of_ble_eq_true rfl) (Nat.le_of_ble_eq_true rfl) (gk_17 N) rfl F (fun r2 δ1 F => ?_)
  refine ms_if_ne mB_28 dX1_refusesBack_8 (t := 14) rfl (fun c => ?_) (fun c => ?_)
  · have F := F.2 c
    refine ms_seq mB_28 mO_28 [(.aload_n 0, 1)] (pc' := 15) (L' := [.ref 3, .int p0, .int p1, .ref ln]) (st' := [.ref 3]) ⟨dX1_refusesBack_14, trivial⟩ rfl ?_
    refine ms_getR mB_28 mO_28 dX1_refusesBack_15 mF_1_28 (gk_3 N) rfl (b := 17) (gr_3_2 N) ?_
    refine ms_getR mB_28 mO_28 dX1_refusesBack_18 mF_1_140 (gk_17 N) rfl (b := 20) (gr_17_2 N) ?_
    refine ms_seq mB_28 mO_28 [(.iload_n 1, 1)] (pc' := 22) (L' := [.ref 3, .int p0, .int p1, .ref ln]) (st' := [.int p0, .ref 20]) ⟨dX1_refusesBack_21, trivial⟩ rfl ?_
    refine ms_at mB_28 mO_28 hd dX1_refusesBack_22 mQ_1_79 (Nat.le_of_ble_eq_true rfl) (gk_20 N) (mi_ne (gl_20 N)) ?_
    refine ms_if_eq mB_28 dX1_refusesBack_25 (t := 31) rfl (fun c => ?_) (fun c => ?_)
    · have F := F.1 c
      refine ms_seq mB_28 mO_28 [(.aload_n 0, 1)] (pc' := 32) (L' := [.ref 3, .int p0, .int p1, .ref ln]) (st' := [.ref 3]) ⟨dX1_refusesBack_31, trivial⟩ rfl ?_
      refine ms_getR mB_28 mO_28 dX1_refusesBack_32 mF_1_28 (gk_3 N) rfl (b := 17) (gr_3_2 N) ?_
      refine ms_getR mB_28 mO_28 dX1_refusesBack_35 mF_1_143 (gk_17 N) rfl (b := 22) (gr_17_4 N) ?_
      refine ms_seq mB_28 mO_28 [(.iload_n 1, 1)] (pc' := 39) (L' := [.ref 3, .int p0, .int p1, .ref ln]) (st' := [.int p0, .ref 22]) ⟨dX1_refusesBack_38, trivial⟩ rfl ?_
      refine ms_at mB_28 mO_28 hd dX1_refusesBack_39 mQ_1_79 (Nat.le_of_ble_eq_true rfl) (gk_22 N) (mi_ne (gl_22 N)) ?_
      refine ms_seq mB_28 mO_28 [(.iconst (-1), 1)] (pc' := 43) (L' := [.ref 3, .int p0, .int p1, .ref ln]) (st' := [.int (-1), .int (mi_at δ1 22 p0)]) ⟨dX1_refusesBack_42, trivial⟩ rfl ?_
      refine ms_icmp_eq mB_28 dX1_refusesBack_43 (t := 49) rfl (fun c => ?_) (fun c => ?_)
      · have F := F.1 c
        refine ms_seq mB_28 mO_28 [(.aload_n 0, 1)] (pc' := 50) (L' := [.ref 3, .int p0, .int p1, .ref ln]) (st' := [.ref 3]) ⟨dX1_refusesBack_49, trivial⟩ rfl ?_
        refine ms_getR mB_28 mO_28 dX1_refusesBack_50 mF_1_28 (gk_3 N) rfl (b := 17) (gr_3_2 N) ?_
        refine ms_seq mB_28 mO_28 [(.iload_n 1, 1), (.aload_n 3, 1)] (pc' := 55) (L' := [.ref 3, .int p0, .int p1, .ref ln]) (st' := [.ref ln, .int p0, .ref 17]) ⟨dX1_refusesBack_53, dX1_refusesBack_54, trivial⟩ rfl ?_
        refine ms_callvV mB_28 mO_28 (by omega) dX1_refusesBack_55 mQ_1_146 mC_1_146 mL_43 mO_43 rfl (Nat.le_of_ble_eq_true rfl) (Nat.le_of_ble_eq_true rfl) (gk_17 N) rfl F (fun δ3 F => ?_)
        refine ms_seq mB_28 mO_28 [(.aload_n 0, 1), (.aload_n 3, 1), (.iload_n 2, 1)] (pc' := 61) (L' := [.ref 3, .int p0, .int p1, .ref ln]) (st' := [.int p1, .ref ln, .ref 3]) ⟨dX1_refusesBack_58, dX1_refusesBack_59, dX1_refusesBack_60, trivial⟩ rfl ?_
        refine ms_callvI mB_28 mO_28 (by omega) dX1_refusesBack_61 mQ_1_150 mC_1_150 mL_23 mO_23 rfl (Nat.le_of_ble_eq_true rfl) (Nat.le_of_ble_eq_true rfl) (gk_3 N) rfl F (fun r5 δ4 F => ?_)
        exact ms_iret mB_28 dX1_refusesBack_64 mR_28 ⟨_, rfl, rfl, F⟩
      · have F := F.2 c
        refine ms_seq mB_28 mO_28 [(.bipush (-5), 2)] (pc' := 48) (L' := [.ref 3, .int p0, .int p1, .ref ln]) (st' := [.int (-5)]) ⟨dX1_refusesBack_46, trivial⟩ rfl ?_
        exact ms_iret mB_28 dX1_refusesBack_48 mR_28 ⟨_, rfl, rfl, F⟩
    · have F := F.2 c
      refine ms_seq mB_28 mO_28 [(.bipush (-4), 2)] (pc' := 30) (L' := [.ref 3, .int p0, .int p1, .ref ln]) (st' := [.int (-4)]) ⟨dX1_refusesBack_28, trivial⟩ rfl ?_
      exact ms_iret mB_28 dX1_refusesBack_30 mR_28 ⟨_, rfl, rfl, F⟩
  · have F := F.1 c
    refine ms_seq mB_28 mO_28 [(.bipush (-2), 2)] (pc' := 13) (L' := [.ref 3, .int p0, .int p1, .ref ln]) (st' := [.int (-2)]) ⟨dX1_refusesBack_11, trivial⟩ rfl ?_
    exact ms_iret mB_28 dX1_refusesBack_13 mR_28 ⟨_, rfl, rfl, F⟩
set_option maxRecDepth 100000 in
theorem q1_turnBack_0 {N d : Nat} (hd : 5 ≤ d) {ln la lb lim : Nat} (hl : mi_Ls ln la lb lim) {p0 p1 : Int32} {δ : mi_D} {Q : Int32 → mi_D → Prop} (F : (mi_wI N (d - 1) 27 0 [.ref 3, .ref ln, .int p1, .int (mi_at δ 19 p0), .int 1, .int p0, .null] [] δ (fun r2 δ1 => (∀ δ3 : mi_D, δ3 = mi_pt δ1 22 400 p0 r2 → Q r2 δ3)))) : mi_wI N d 29 0 [.ref 3, .int p0, .int p1, .ref ln, .null] [] δ Q := by
  unfold mi_wI
  obtain ⟨hk_ln, hr_ln_0, hr_ln_1, hk_la, hk_lb, hl_la, hl_lb⟩ := hl.all N
  refine ms_seq mB_29 mO_29 [(.aload_n 0, 1), (.aload_n 3, 1), (.iload_n 2, 1), (.aload_n 0, 1)] (pc' := 4) (L' := [.ref 3, .int p0, .int p1, .ref ln, .null]) (st' := [.ref 3, .int p1, .ref ln, .ref 3]) ⟨dX1_turnBack_0, dX1_turnBack_1, dX1_turnBack_2, dX1_turnBack_3, trivial⟩ rfl ?_
  refine ms_getR mB_29 mO_29 dX1_turnBack_4 mF_1_28 (gk_3 N) rfl (b := 17) (gr_3_2 N) ?_
  refine ms_getR mB_29 mO_29 dX1_turnBack_7 mF_1_154 (gk_17 N) rfl (b := 19) (gr_17_1 N) ?_
  refine ms_seq mB_29 mO_29 [(.iload_n 1, 1)] (pc' := 11) (L' := [.ref 3, .int p0, .int p1, .ref ln, .null]) (st' := [.int p0, .ref 19, .int p1, .ref ln, .ref 3]) ⟨dX1_turnBack_10, trivial⟩ rfl ?_
  refine ms_at mB_29 mO_29 hd dX1_turnBack_11 mQ_1_79 (Nat.le_of_ble_eq_true rfl) (gk_19 N) (mi_ne (gl_19 N)) ?_
  refine ms_seq mB_29 mO_29 [(.iconst 1, 1), (.iload_n 1, 1)] (pc' := 16) (L' := [.ref 3, .int p0, .int p1, .ref ln, .null]) (st' := [.int p0, .int 1, .int (mi_at δ 19 p0), .int p1, .ref ln, .ref 3]) ⟨dX1_turnBack_14, dX1_turnBack_15, trivial⟩ rfl ?_
  refine ms_callvI mB_29 mO_29 (by omega) dX1_turnBack_16 mQ_1_157 mC_1_157 mL_27 mO_27 rfl (Nat.le_of_ble_eq_true rfl) (Nat.le_of_ble_eq_true rfl) (gk_3 N) rfl F (fun r2 δ1 F => ?_)
  refine ms_seq mB_29 mO_29 [(.istore 4, 2), (.aload_n 0, 1)] (pc' := 22) (L' := [.ref 3, .int p0, .int p1, .ref ln, .int r2]) (st' := [.ref 3]) ⟨dX1_turnBack_19, dX1_turnBack_21, trivial⟩ rfl ?_
  refine ms_getR mB_29 mO_29 dX1_turnBack_22 mF_1_28 (gk_3 N) rfl (b := 17) (gr_3_2 N) ?_
  refine ms_getR mB_29 mO_29 dX1_turnBack_25 mF_1_143 (gk_17 N) rfl (b := 22) (gr_17_4 N) ?_
  refine ms_seq mB_29 mO_29 [(.iload_n 1, 1), (.iload 4, 2)] (pc' := 31) (L' := [.ref 3, .int p0, .int p1, .ref ln, .int r2]) (st' := [.int r2, .int p0, .ref 22]) ⟨dX1_turnBack_28, dX1_turnBack_29, trivial⟩ rfl ?_
  refine ms_put mB_29 mO_29 (lim := 400) hd dX1_turnBack_31 mQ_1_160 (Nat.le_of_ble_eq_true rfl) (gk_22 N) (gl_22 N) ?_
  refine mr_st (fun δ3 e_δ3 => ?_)
  have F := F δ3 e_δ3
  refine ms_seq mB_29 mO_29 [(.iload 4, 2)] (pc' := 36) (L' := [.ref 3, .int p0, .int p1, .ref ln, .int r2]) (st' := [.int r2]) ⟨dX1_turnBack_34, trivial⟩ rfl ?_
  exact ms_iret mB_29 dX1_turnBack_36 mR_29 ⟨_, rfl, rfl, F⟩
set_option maxRecDepth 100000 in
theorem q1_refusesClose_0 {N d : Nat} (hd : 5 ≤ d) {ln la lb lim : Nat} (hl : mi_Ls ln la lb lim) {δ : mi_D} {Q : Int32 → mi_D → Prop} (F : (((δ.1 14 3) < (δ.1 14 2) → (((δ.1 3 3) = (-1) → Q (-6) δ) ∧ (¬ (δ.1 3 3) = (-1) → (mi_wV N (d - 1) 31 0 [.ref 3, .int (δ.1 14 3), .ref ln, .null, .null] [] δ (fun δ1 => (mi_wI N (d - 1) 24 0 [.ref 3, .ref ln] [] δ1 (fun r3 δ2 => Q r3 δ2))))))) ∧ (¬ (δ.1 14 3) < (δ.1 14 2) → Q (-6) δ))) : mi_wI N d 30 0 [.ref 3, .ref ln] [] δ Q := by
  unfold mi_wI
  obtain ⟨hk_ln, hr_ln_0, hr_ln_1, hk_la, hk_lb, hl_la, hl_lb⟩ := hl.all N
  refine ms_seq mB_30 mO_30 [(.aload_n 0, 1)] (pc' := 1) (L' := [.ref 3, .ref ln]) (st' := [.ref 3]) ⟨dX1_refusesClose_0, trivial⟩ rfl ?_
  refine ms_getR mB_30 mO_30 dX1_refusesClose_1 mF_1_21 (gk_3 N) rfl (b := 14) (gr_3_1 N) ?_
  refine ms_getI mB_30 mO_30 dX1_refusesClose_4 mF_1_99 (gk_14 N) (Or.inl rfl) ?_
  refine ms_seq mB_30 mO_30 [(.aload_n 0, 1)] (pc' := 8) (L' := [.ref 3, .ref ln]) (st' := [.ref 3, .int (δ.1 14 3)]) ⟨dX1_refusesClose_7, trivial⟩ rfl ?_
  refine ms_getR mB_30 mO_30 dX1_refusesClose_8 mF_1_21 (gk_3 N) rfl (b := 14) (gr_3_1 N) ?_
  refine ms_getI mB_30 mO_30 dX1_refusesClose_11 mF_1_74 (gk_14 N) (Or.inl rfl) ?_
  refine ms_icmp_ge mB_30 dX1_refusesClose_14 (t := 25) rfl (fun c => ?_) (fun c => ?_)
  · have F := F.2 c
    refine ms_seq mB_30 mO_30 [(.bipush (-6), 2)] (pc' := 27) (L' := [.ref 3, .ref ln]) (st' := [.int (-6)]) ⟨dX1_refusesClose_25, trivial⟩ rfl ?_
    exact ms_iret mB_30 dX1_refusesClose_27 mR_30 ⟨_, rfl, rfl, F⟩
  · have F := F.1 c
    refine ms_seq mB_30 mO_30 [(.aload_n 0, 1)] (pc' := 18) (L' := [.ref 3, .ref ln]) (st' := [.ref 3]) ⟨dX1_refusesClose_17, trivial⟩ rfl ?_
    refine ms_getI mB_30 mO_30 dX1_refusesClose_18 mF_1_32 (gk_3 N) (Or.inl rfl) ?_
    refine ms_seq mB_30 mO_30 [(.iconst (-1), 1)] (pc' := 22) (L' := [.ref 3, .ref ln]) (st' := [.int (-1), .int (δ.1 3 3)]) ⟨dX1_refusesClose_21, trivial⟩ rfl ?_
    refine ms_icmp_ne mB_30 dX1_refusesClose_22 (t := 28) rfl (fun c => ?_) (fun c => ?_)
    · have F := F.2 c
      refine ms_seq mB_30 mO_30 [(.aload_n 0, 1), (.aload_n 0, 1)] (pc' := 30) (L' := [.ref 3, .ref ln]) (st' := [.ref 3, .ref 3]) ⟨dX1_refusesClose_28, dX1_refusesClose_29, trivial⟩ rfl ?_
      refine ms_getR mB_30 mO_30 dX1_refusesClose_30 mF_1_21 (gk_3 N) rfl (b := 14) (gr_3_1 N) ?_
      refine ms_getI mB_30 mO_30 dX1_refusesClose_33 mF_1_99 (gk_14 N) (Or.inl rfl) ?_
      refine ms_seq mB_30 mO_30 [(.aload_n 1, 1)] (pc' := 37) (L' := [.ref 3, .ref ln]) (st' := [.ref ln, .int (δ.1 14 3), .ref 3]) ⟨dX1_refusesClose_36, trivial⟩ rfl ?_
      refine ms_callvV mB_30 mO_30 (by omega) dX1_refusesClose_37 mQ_1_164 mC_1_164 mL_31 mO_31 rfl (Nat.le_of_ble_eq_true rfl) (Nat.le_of_ble_eq_true rfl) (gk_3 N) rfl F (fun δ1 F => ?_)
      refine ms_seq mB_30 mO_30 [(.aload_n 0, 1), (.aload_n 1, 1)] (pc' := 42) (L' := [.ref 3, .ref ln]) (st' := [.ref ln, .ref 3]) ⟨dX1_refusesClose_40, dX1_refusesClose_41, trivial⟩ rfl ?_
      refine ms_callvI mB_30 mO_30 (by omega) dX1_refusesClose_42 mQ_1_106 mC_1_106 mL_24 mO_24 rfl (Nat.le_of_ble_eq_true rfl) (Nat.le_of_ble_eq_true rfl) (gk_3 N) rfl F (fun r3 δ2 F => ?_)
      exact ms_iret mB_30 dX1_refusesClose_45 mR_30 ⟨_, rfl, rfl, F⟩
    · have F := F.1 c
      refine ms_seq mB_30 mO_30 [(.bipush (-6), 2)] (pc' := 27) (L' := [.ref 3, .ref ln]) (st' := [.int (-6)]) ⟨dX1_refusesClose_25, trivial⟩ rfl ?_
      exact ms_iret mB_30 dX1_refusesClose_27 mR_30 ⟨_, rfl, rfl, F⟩
set_option maxRecDepth 100000 in
theorem q1_fillClosing_0 {N d : Nat} (hd : 5 ≤ d) {ln la lb lim : Nat} (hl : mi_Ls ln la lb lim) {p0 : Int32} {δ : mi_D} {Q : mi_D → Prop} (F : (mi_wI N (d - 1) 73 0 [.ref 14, .int p0] [] δ (fun r2 δ1 => (mi_wI N (d - 1) 74 0 [.ref 14, .int p0] [] δ1 (fun r4 δ3 => (mi_wV N (d - 1) 44 0 [.ref 17, .int r2, .int r4, .ref 27, .null, .null, .null] [] δ3 (fun δ5 => (mi_wV N (d - 1) 62 0 [.ref ln] [] δ5 (fun δ6 => mi_wV N d 31 33 [.ref 3, .int p0, .ref ln, .int 0, .null] [] δ6 Q))))))))) : mi_wV N d 31 0 [.ref 3, .int p0, .ref ln, .null, .null] [] δ Q := by
  unfold mi_wV
  obtain ⟨hk_ln, hr_ln_0, hr_ln_1, hk_la, hk_lb, hl_la, hl_lb⟩ := hl.all N
  refine ms_seq mB_31 mO_31 [(.aload_n 0, 1)] (pc' := 1) (L' := [.ref 3, .int p0, .ref ln, .null, .null]) (st' := [.ref 3]) ⟨dX1_fillClosing_0, trivial⟩ rfl ?_
  refine ms_getR mB_31 mO_31 dX1_fillClosing_1 mF_1_28 (gk_3 N) rfl (b := 17) (gr_3_2 N) ?_
  refine ms_seq mB_31 mO_31 [(.aload_n 0, 1)] (pc' := 5) (L' := [.ref 3, .int p0, .ref ln, .null, .null]) (st' := [.ref 3, .ref 17]) ⟨dX1_fillClosing_4, trivial⟩ rfl ?_
  refine ms_getR mB_31 mO_31 dX1_fillClosing_5 mF_1_21 (gk_3 N) rfl (b := 14) (gr_3_1 N) ?_
  refine ms_seq mB_31 mO_31 [(.iload_n 1, 1)] (pc' := 9) (L' := [.ref 3, .int p0, .ref ln, .null, .null]) (st' := [.int p0, .ref 14, .ref 17]) ⟨dX1_fillClosing_8, trivial⟩ rfl ?_
  refine ms_callvI mB_31 mO_31 (by omega) dX1_fillClosing_9 mQ_1_167 mC_1_167 mL_73 mO_73 rfl (Nat.le_of_ble_eq_true rfl) (Nat.le_of_ble_eq_true rfl) (gk_14 N) rfl F (fun r2 δ1 F => ?_)
  refine ms_seq mB_31 mO_31 [(.aload_n 0, 1)] (pc' := 13) (L' := [.ref 3, .int p0, .ref ln, .null, .null]) (st' := [.ref 3, .int r2, .ref 17]) ⟨dX1_fillClosing_12, trivial⟩ rfl ?_
  refine ms_getR mB_31 mO_31 dX1_fillClosing_13 mF_1_21 (gk_3 N) rfl (b := 14) (gr_3_1 N) ?_
  refine ms_seq mB_31 mO_31 [(.iload_n 1, 1)] (pc' := 17) (L' := [.ref 3, .int p0, .ref ln, .null, .null]) (st' := [.int p0, .ref 14, .int r2, .ref 17]) ⟨dX1_fillClosing_16, trivial⟩ rfl ?_
  refine ms_callvI mB_31 mO_31 (by omega) dX1_fillClosing_17 mQ_1_170 mC_1_170 mL_74 mO_74 rfl (Nat.le_of_ble_eq_true rfl) (Nat.le_of_ble_eq_true rfl) (gk_14 N) rfl F (fun r4 δ3 F => ?_)
  refine ms_seq mB_31 mO_31 [(.aload_n 0, 1)] (pc' := 21) (L' := [.ref 3, .int p0, .ref ln, .null, .null]) (st' := [.ref 3, .int r4, .int r2, .ref 17]) ⟨dX1_fillClosing_20, trivial⟩ rfl ?_
  refine ms_getR mB_31 mO_31 dX1_fillClosing_21 mF_1_41 (gk_3 N) rfl (b := 27) (gr_3_4 N) ?_
  refine ms_callvV mB_31 mO_31 (by omega) dX1_fillClosing_24 mQ_1_173 mC_1_173 mL_44 mO_44 rfl (Nat.le_of_ble_eq_true rfl) (Nat.le_of_ble_eq_true rfl) (gk_17 N) rfl F (fun δ5 F => ?_)
  refine ms_seq mB_31 mO_31 [(.aload_n 2, 1)] (pc' := 28) (L' := [.ref 3, .int p0, .ref ln, .null, .null]) (st' := [.ref ln]) ⟨dX1_fillClosing_27, trivial⟩ rfl ?_
  refine ms_callvV mB_31 mO_31 (by omega) dX1_fillClosing_28 mQ_1_177 mC_1_177 mL_62 mO_62 rfl (Nat.le_of_ble_eq_true rfl) (Nat.le_of_ble_eq_true rfl) (hk_ln) rfl F (fun δ6 F => ?_)
  refine ms_seq mB_31 mO_31 [(.iconst 0, 1), (.istore_n 3, 1)] (pc' := 33) (L' := [.ref 3, .int p0, .ref ln, .int 0, .null]) (st' := []) ⟨dX1_fillClosing_31, dX1_fillClosing_32, trivial⟩ rfl ?_
  exact F
set_option maxRecDepth 100000 in
theorem q1_fillClosing_33 {N d : Nat} (hd : 5 ≤ d) {ln la lb lim : Nat} (hl : mi_Ls ln la lb lim) {l1 l3 : Int32} {δ : mi_D} {Q : mi_D → Prop} (F : ((l3 < (δ.1 4 9) → (∀ x4 : Int32, x4 = (mi_at δ 10 l3) → (mi_wI N (d - 1) 32 0 [.ref 3, .int x4, .null] [] δ (fun r6 δ5 => ((r6 = 0 → mi_wV N d 31 33 [.ref 3, .int l1, .ref ln, .int (l3 + 1), .int x4] [] δ5 Q) ∧ (¬ r6 = 0 → (((lg_cmp (mi_al δ5 27 x4) 0) = 0 → mi_wV N d 31 33 [.ref 3, .int l1, .ref ln, .int (l3 + 1), .int x4] [] δ5 Q) ∧ (¬ (lg_cmp (mi_al δ5 27 x4) 0) = 0 → (mi_wV N (d - 1) 63 0 [.ref ln, .int x4, .long (-(mi_al δ5 27 x4)), .null] [] δ5 (fun δ7 => mi_wV N d 31 33 [.ref 3, .int l1, .ref ln, .int (l3 + 1), .int x4] [] δ7 Q)))))))))) ∧ (¬ l3 < (δ.1 4 9) → (mi_wL N (d - 1) 64 0 [.ref ln, .null, .null, .null] [] δ (fun r2 δ1 => (((lg_cmp r2 0) = 0 → Q δ1) ∧ (¬ (lg_cmp r2 0) = 0 → (mi_wV N (d - 1) 63 0 [.ref ln, .int (δ1.1 3 3), .long (-r2), .null] [] δ1 (fun δ3 => Q δ3))))))))) : mi_wV N d 31 33 [.ref 3, .int l1, .ref ln, .int l3, .null] [] δ Q := by
  unfold mi_wV
  obtain ⟨hk_ln, hr_ln_0, hr_ln_1, hk_la, hk_lb, hl_la, hl_lb⟩ := hl.all N
  refine ms_seq mB_31 mO_31 [(.iload_n 3, 1), (.aload_n 0, 1)] (pc' := 35) (L' := [.ref 3, .int l1, .ref ln, .int l3, .null]) (st' := [.ref 3, .int l3]) ⟨dX1_fillClosing_33, dX1_fillClosing_34, trivial⟩ rfl ?_
  refine ms_getR mB_31 mO_31 dX1_fillClosing_35 mF_1_12 (gk_3 N) rfl (b := 4) (gr_3_0 N) ?_
  refine ms_getI mB_31 mO_31 dX1_fillClosing_38 mF_1_61 (gk_4 N) (Or.inl rfl) ?_
  refine ms_icmp_ge mB_31 dX1_fillClosing_41 (t := 102) rfl (fun c => ?_) (fun c => ?_)
  · have F := F.2 c
    refine ms_seq mB_31 mO_31 [(.aload_n 2, 1)] (pc' := 103) (L' := [.ref 3, .int l1, .ref ln, .int l3, .null]) (st' := [.ref ln]) ⟨dX1_fillClosing_102, trivial⟩ rfl ?_
    refine ms_callvL mB_31 mO_31 (by omega) dX1_fillClosing_103 mQ_1_92 mC_1_92 mL_64 mO_64 rfl (Nat.le_of_ble_eq_true rfl) (Nat.le_of_ble_eq_true rfl) (hk_ln) rfl F (fun r2 δ1 F => ?_)
    refine ms_seq mB_31 mO_31 [(.lstore_n 3, 1), (.lload_n 3, 1), (.lconst 0, 1), (.lcmp, 1)] (pc' := 110) (L' := [.ref 3, .int l1, .ref ln, .long r2, .null]) (st' := [.int (lg_cmp r2 0)]) ⟨dX1_fillClosing_106, dX1_fillClosing_107, dX1_fillClosing_108, dX1_fillClosing_109, trivial⟩ rfl ?_
    refine ms_if_eq mB_31 dX1_fillClosing_110 (t := 123) rfl (fun c => ?_) (fun c => ?_)
    · have F := F.1 c
      exact ms_vret mB_31 dX1_fillClosing_123 mR_31 ⟨rfl, rfl, F⟩
    · have F := F.2 c
      refine ms_seq mB_31 mO_31 [(.aload_n 2, 1), (.aload_n 0, 1)] (pc' := 115) (L' := [.ref 3, .int l1, .ref ln, .long r2, .null]) (st' := [.ref 3, .ref ln]) ⟨dX1_fillClosing_113, dX1_fillClosing_114, trivial⟩ rfl ?_
      refine ms_getI mB_31 mO_31 dX1_fillClosing_115 mF_1_32 (gk_3 N) (Or.inl rfl) ?_
      refine ms_seq mB_31 mO_31 [(.lload_n 3, 1), (.lneg, 1)] (pc' := 120) (L' := [.ref 3, .int l1, .ref ln, .long r2, .null]) (st' := [.long (-r2), .int (δ1.1 3 3), .ref ln]) ⟨dX1_fillClosing_118, dX1_fillClosing_119, trivial⟩ rfl ?_
      refine ms_callvV mB_31 mO_31 (by omega) dX1_fillClosing_120 mQ_1_184 mC_1_184 mL_63 mO_63 rfl (Nat.le_of_ble_eq_true rfl) (Nat.le_of_ble_eq_true rfl) (hk_ln) rfl F (fun δ3 F => ?_)
      exact ms_vret mB_31 dX1_fillClosing_123 mR_31 ⟨rfl, rfl, F⟩
  · have F := F.1 c
    refine ms_seq mB_31 mO_31 [(.aload_n 0, 1)] (pc' := 45) (L' := [.ref 3, .int l1, .ref ln, .int l3, .null]) (st' := [.ref 3]) ⟨dX1_fillClosing_44, trivial⟩ rfl ?_
    refine ms_getR mB_31 mO_31 dX1_fillClosing_45 mF_1_12 (gk_3 N) rfl (b := 4) (gr_3_0 N) ?_
    refine ms_getR mB_31 mO_31 dX1_fillClosing_48 mF_1_178 (gk_4 N) rfl (b := 10) (gr_4_5 N) ?_
    refine ms_seq mB_31 mO_31 [(.iload_n 3, 1)] (pc' := 52) (L' := [.ref 3, .int l1, .ref ln, .int l3, .null]) (st' := [.int l3, .ref 10]) ⟨dX1_fillClosing_51, trivial⟩ rfl ?_
    refine ms_at mB_31 mO_31 hd dX1_fillClosing_52 mQ_1_79 (Nat.le_of_ble_eq_true rfl) (gk_10 N) (mi_ne (gl_10 N)) ?_
    refine mr_topi (fun x4 e_x4 => ?_)
    have F := F x4 e_x4
    refine ms_seq mB_31 mO_31 [(.istore 4, 2), (.aload_n 0, 1), (.iload 4, 2)] (pc' := 60) (L' := [.ref 3, .int l1, .ref ln, .int l3, .int x4]) (st' := [.int x4, .ref 3]) ⟨dX1_fillClosing_55, dX1_fillClosing_57, dX1_fillClosing_58, trivial⟩ rfl ?_
    refine ms_callvI mB_31 mO_31 (by omega) dX1_fillClosing_60 mQ_1_181 mC_1_181 mL_32 mO_32 rfl (Nat.le_of_ble_eq_true rfl) (Nat.le_of_ble_eq_true rfl) (gk_3 N) rfl F (fun r6 δ5 F => ?_)
    refine ms_if_eq mB_31 dX1_fillClosing_63 (t := 96) rfl (fun c => ?_) (fun c => ?_)
    · have F := F.1 c
      refine ms_seq mB_31 mO_31 [(.iinc 3 1, 3)] (pc' := 99) (L' := [.ref 3, .int l1, .ref ln, .int (l3 + 1), .int x4]) (st' := []) ⟨dX1_fillClosing_96, trivial⟩ rfl ?_
      refine ms_goto mB_31 dX1_fillClosing_99 (t := 33) rfl ?_
      exact F
    · have F := F.2 c
      refine ms_seq mB_31 mO_31 [(.aload_n 0, 1)] (pc' := 67) (L' := [.ref 3, .int l1, .ref ln, .int l3, .int x4]) (st' := [.ref 3]) ⟨dX1_fillClosing_66, trivial⟩ rfl ?_
      refine ms_getR mB_31 mO_31 dX1_fillClosing_67 mF_1_41 (gk_3 N) rfl (b := 27) (gr_3_4 N) ?_
      refine ms_seq mB_31 mO_31 [(.iload 4, 2)] (pc' := 72) (L' := [.ref 3, .int l1, .ref ln, .int l3, .int x4]) (st' := [.int x4, .ref 27]) ⟨dX1_fillClosing_70, trivial⟩ rfl ?_
      refine ms_al mB_31 mO_31 hd dX1_fillClosing_72 mQ_1_119 (Nat.le_of_ble_eq_true rfl) (gk_27 N) (mi_ne (gl_27 N)) ?_
      refine ms_seq mB_31 mO_31 [(.lconst 0, 1), (.lcmp, 1)] (pc' := 77) (L' := [.ref 3, .int l1, .ref ln, .int l3, .int x4]) (st' := [.int (lg_cmp (mi_al δ5 27 x4) 0)]) ⟨dX1_fillClosing_75, dX1_fillClosing_76, trivial⟩ rfl ?_
      refine ms_if_eq mB_31 dX1_fillClosing_77 (t := 96) rfl (fun c => ?_) (fun c => ?_)
      · have F := F.1 c
        refine ms_seq mB_31 mO_31 [(.iinc 3 1, 3)] (pc' := 99) (L' := [.ref 3, .int l1, .ref ln, .int (l3 + 1), .int x4]) (st' := []) ⟨dX1_fillClosing_96, trivial⟩ rfl ?_
        refine ms_goto mB_31 dX1_fillClosing_99 (t := 33) rfl ?_
        exact F
      · have F := F.2 c
        refine ms_seq mB_31 mO_31 [(.aload_n 2, 1), (.iload 4, 2), (.aload_n 0, 1)] (pc' := 84) (L' := [.ref 3, .int l1, .ref ln, .int l3, .int x4]) (st' := [.ref 3, .int x4, .ref ln]) ⟨dX1_fillClosing_80, dX1_fillClosing_81, dX1_fillClosing_83, trivial⟩ rfl ?_
        refine ms_getR mB_31 mO_31 dX1_fillClosing_84 mF_1_41 (gk_3 N) rfl (b := 27) (gr_3_4 N) ?_
        refine ms_seq mB_31 mO_31 [(.iload 4, 2)] (pc' := 89) (L' := [.ref 3, .int l1, .ref ln, .int l3, .int x4]) (st' := [.int x4, .ref 27, .int x4, .ref ln]) ⟨dX1_fillClosing_87, trivial⟩ rfl ?_
        refine ms_al mB_31 mO_31 hd dX1_fillClosing_89 mQ_1_119 (Nat.le_of_ble_eq_true rfl) (gk_27 N) (mi_ne (gl_27 N)) ?_
        refine ms_seq mB_31 mO_31 [(.lneg, 1)] (pc' := 93) (L' := [.ref 3, .int l1, .ref ln, .int l3, .int x4]) (st' := [.long (-(mi_al δ5 27 x4)), .int x4, .ref ln]) ⟨dX1_fillClosing_92, trivial⟩ rfl ?_
        refine ms_callvV mB_31 mO_31 (by omega) dX1_fillClosing_93 mQ_1_184 mC_1_184 mL_63 mO_63 rfl (Nat.le_of_ble_eq_true rfl) (Nat.le_of_ble_eq_true rfl) (hk_ln) rfl F (fun δ7 F => ?_)
        refine ms_seq mB_31 mO_31 [(.iinc 3 1, 3)] (pc' := 99) (L' := [.ref 3, .int l1, .ref ln, .int (l3 + 1), .int x4]) (st' := []) ⟨dX1_fillClosing_96, trivial⟩ rfl ?_
        refine ms_goto mB_31 dX1_fillClosing_99 (t := 33) rfl ?_
        exact F
set_option maxRecDepth 100000 in
theorem q1_fillClosing_33a {N d : Nat} (hd : 5 ≤ d) {ln la lb lim : Nat} (hl : mi_Ls ln la lb lim) {l1 l3 l4 : Int32} {δ : mi_D} {Q : mi_D → Prop} (F : ((l3 < (δ.1 4 9) → (∀ x4 : Int32, x4 = (mi_at δ 10 l3) → (mi_wI N (d - 1) 32 0 [.ref 3, .int x4, .null] [] δ (fun r6 δ5 => ((r6 = 0 → mi_wV N d 31 33 [.ref 3, .int l1, .ref ln, .int (l3 + 1), .int x4] [] δ5 Q) ∧ (¬ r6 = 0 → (((lg_cmp (mi_al δ5 27 x4) 0) = 0 → mi_wV N d 31 33 [.ref 3, .int l1, .ref ln, .int (l3 + 1), .int x4] [] δ5 Q) ∧ (¬ (lg_cmp (mi_al δ5 27 x4) 0) = 0 → (mi_wV N (d - 1) 63 0 [.ref ln, .int x4, .long (-(mi_al δ5 27 x4)), .null] [] δ5 (fun δ7 => mi_wV N d 31 33 [.ref 3, .int l1, .ref ln, .int (l3 + 1), .int x4] [] δ7 Q)))))))))) ∧ (¬ l3 < (δ.1 4 9) → (mi_wL N (d - 1) 64 0 [.ref ln, .null, .null, .null] [] δ (fun r2 δ1 => (((lg_cmp r2 0) = 0 → Q δ1) ∧ (¬ (lg_cmp r2 0) = 0 → (mi_wV N (d - 1) 63 0 [.ref ln, .int (δ1.1 3 3), .long (-r2), .null] [] δ1 (fun δ3 => Q δ3))))))))) : mi_wV N d 31 33 [.ref 3, .int l1, .ref ln, .int l3, .int l4] [] δ Q := by
  unfold mi_wV
  obtain ⟨hk_ln, hr_ln_0, hr_ln_1, hk_la, hk_lb, hl_la, hl_lb⟩ := hl.all N
  refine ms_seq mB_31 mO_31 [(.iload_n 3, 1), (.aload_n 0, 1)] (pc' := 35) (L' := [.ref 3, .int l1, .ref ln, .int l3, .int l4]) (st' := [.ref 3, .int l3]) ⟨dX1_fillClosing_33, dX1_fillClosing_34, trivial⟩ rfl ?_
  refine ms_getR mB_31 mO_31 dX1_fillClosing_35 mF_1_12 (gk_3 N) rfl (b := 4) (gr_3_0 N) ?_
  refine ms_getI mB_31 mO_31 dX1_fillClosing_38 mF_1_61 (gk_4 N) (Or.inl rfl) ?_
  refine ms_icmp_ge mB_31 dX1_fillClosing_41 (t := 102) rfl (fun c => ?_) (fun c => ?_)
  · have F := F.2 c
    refine ms_seq mB_31 mO_31 [(.aload_n 2, 1)] (pc' := 103) (L' := [.ref 3, .int l1, .ref ln, .int l3, .int l4]) (st' := [.ref ln]) ⟨dX1_fillClosing_102, trivial⟩ rfl ?_
    refine ms_callvL mB_31 mO_31 (by omega) dX1_fillClosing_103 mQ_1_92 mC_1_92 mL_64 mO_64 rfl (Nat.le_of_ble_eq_true rfl) (Nat.le_of_ble_eq_true rfl) (hk_ln) rfl F (fun r2 δ1 F => ?_)
    refine ms_seq mB_31 mO_31 [(.lstore_n 3, 1), (.lload_n 3, 1), (.lconst 0, 1), (.lcmp, 1)] (pc' := 110) (L' := [.ref 3, .int l1, .ref ln, .long r2, .null]) (st' := [.int (lg_cmp r2 0)]) ⟨dX1_fillClosing_106, dX1_fillClosing_107, dX1_fillClosing_108, dX1_fillClosing_109, trivial⟩ rfl ?_
    refine ms_if_eq mB_31 dX1_fillClosing_110 (t := 123) rfl (fun c => ?_) (fun c => ?_)
    · have F := F.1 c
      exact ms_vret mB_31 dX1_fillClosing_123 mR_31 ⟨rfl, rfl, F⟩
    · have F := F.2 c
      refine ms_seq mB_31 mO_31 [(.aload_n 2, 1), (.aload_n 0, 1)] (pc' := 115) (L' := [.ref 3, .int l1, .ref ln, .long r2, .null]) (st' := [.ref 3, .ref ln]) ⟨dX1_fillClosing_113, dX1_fillClosing_114, trivial⟩ rfl ?_
      refine ms_getI mB_31 mO_31 dX1_fillClosing_115 mF_1_32 (gk_3 N) (Or.inl rfl) ?_
      refine ms_seq mB_31 mO_31 [(.lload_n 3, 1), (.lneg, 1)] (pc' := 120) (L' := [.ref 3, .int l1, .ref ln, .long r2, .null]) (st' := [.long (-r2), .int (δ1.1 3 3), .ref ln]) ⟨dX1_fillClosing_118, dX1_fillClosing_119, trivial⟩ rfl ?_
      refine ms_callvV mB_31 mO_31 (by omega) dX1_fillClosing_120 mQ_1_184 mC_1_184 mL_63 mO_63 rfl (Nat.le_of_ble_eq_true rfl) (Nat.le_of_ble_eq_true rfl) (hk_ln) rfl F (fun δ3 F => ?_)
      exact ms_vret mB_31 dX1_fillClosing_123 mR_31 ⟨rfl, rfl, F⟩
  · have F := F.1 c
    refine ms_seq mB_31 mO_31 [(.aload_n 0, 1)] (pc' := 45) (L' := [.ref 3, .int l1, .ref ln, .int l3, .int l4]) (st' := [.ref 3]) ⟨dX1_fillClosing_44, trivial⟩ rfl ?_
    refine ms_getR mB_31 mO_31 dX1_fillClosing_45 mF_1_12 (gk_3 N) rfl (b := 4) (gr_3_0 N) ?_
    refine ms_getR mB_31 mO_31 dX1_fillClosing_48 mF_1_178 (gk_4 N) rfl (b := 10) (gr_4_5 N) ?_
    refine ms_seq mB_31 mO_31 [(.iload_n 3, 1)] (pc' := 52) (L' := [.ref 3, .int l1, .ref ln, .int l3, .int l4]) (st' := [.int l3, .ref 10]) ⟨dX1_fillClosing_51, trivial⟩ rfl ?_
    refine ms_at mB_31 mO_31 hd dX1_fillClosing_52 mQ_1_79 (Nat.le_of_ble_eq_true rfl) (gk_10 N) (mi_ne (gl_10 N)) ?_
    refine mr_topi (fun x4 e_x4 => ?_)
    have F := F x4 e_x4
    refine ms_seq mB_31 mO_31 [(.istore 4, 2), (.aload_n 0, 1), (.iload 4, 2)] (pc' := 60) (L' := [.ref 3, .int l1, .ref ln, .int l3, .int x4]) (st' := [.int x4, .ref 3]) ⟨dX1_fillClosing_55, dX1_fillClosing_57, dX1_fillClosing_58, trivial⟩ rfl ?_
    refine ms_callvI mB_31 mO_31 (by omega) dX1_fillClosing_60 mQ_1_181 mC_1_181 mL_32 mO_32 rfl (Nat.le_of_ble_eq_true rfl) (Nat.le_of_ble_eq_true rfl) (gk_3 N) rfl F (fun r6 δ5 F => ?_)
    refine ms_if_eq mB_31 dX1_fillClosing_63 (t := 96) rfl (fun c => ?_) (fun c => ?_)
    · have F := F.1 c
      refine ms_seq mB_31 mO_31 [(.iinc 3 1, 3)] (pc' := 99) (L' := [.ref 3, .int l1, .ref ln, .int (l3 + 1), .int x4]) (st' := []) ⟨dX1_fillClosing_96, trivial⟩ rfl ?_
      refine ms_goto mB_31 dX1_fillClosing_99 (t := 33) rfl ?_
      exact F
    · have F := F.2 c
      refine ms_seq mB_31 mO_31 [(.aload_n 0, 1)] (pc' := 67) (L' := [.ref 3, .int l1, .ref ln, .int l3, .int x4]) (st' := [.ref 3]) ⟨dX1_fillClosing_66, trivial⟩ rfl ?_
      refine ms_getR mB_31 mO_31 dX1_fillClosing_67 mF_1_41 (gk_3 N) rfl (b := 27) (gr_3_4 N) ?_
      refine ms_seq mB_31 mO_31 [(.iload 4, 2)] (pc' := 72) (L' := [.ref 3, .int l1, .ref ln, .int l3, .int x4]) (st' := [.int x4, .ref 27]) ⟨dX1_fillClosing_70, trivial⟩ rfl ?_
      refine ms_al mB_31 mO_31 hd dX1_fillClosing_72 mQ_1_119 (Nat.le_of_ble_eq_true rfl) (gk_27 N) (mi_ne (gl_27 N)) ?_
      refine ms_seq mB_31 mO_31 [(.lconst 0, 1), (.lcmp, 1)] (pc' := 77) (L' := [.ref 3, .int l1, .ref ln, .int l3, .int x4]) (st' := [.int (lg_cmp (mi_al δ5 27 x4) 0)]) ⟨dX1_fillClosing_75, dX1_fillClosing_76, trivial⟩ rfl ?_
      refine ms_if_eq mB_31 dX1_fillClosing_77 (t := 96) rfl (fun c => ?_) (fun c => ?_)
      · have F := F.1 c
        refine ms_seq mB_31 mO_31 [(.iinc 3 1, 3)] (pc' := 99) (L' := [.ref 3, .int l1, .ref ln, .int (l3 + 1), .int x4]) (st' := []) ⟨dX1_fillClosing_96, trivial⟩ rfl ?_
        refine ms_goto mB_31 dX1_fillClosing_99 (t := 33) rfl ?_
        exact F
      · have F := F.2 c
        refine ms_seq mB_31 mO_31 [(.aload_n 2, 1), (.iload 4, 2), (.aload_n 0, 1)] (pc' := 84) (L' := [.ref 3, .int l1, .ref ln, .int l3, .int x4]) (st' := [.ref 3, .int x4, .ref ln]) ⟨dX1_fillClosing_80, dX1_fillClosing_81, dX1_fillClosing_83, trivial⟩ rfl ?_
        refine ms_getR mB_31 mO_31 dX1_fillClosing_84 mF_1_41 (gk_3 N) rfl (b := 27) (gr_3_4 N) ?_
        refine ms_seq mB_31 mO_31 [(.iload 4, 2)] (pc' := 89) (L' := [.ref 3, .int l1, .ref ln, .int l3, .int x4]) (st' := [.int x4, .ref 27, .int x4, .ref ln]) ⟨dX1_fillClosing_87, trivial⟩ rfl ?_
        refine ms_al mB_31 mO_31 hd dX1_fillClosing_89 mQ_1_119 (Nat.le_of_ble_eq_true rfl) (gk_27 N) (mi_ne (gl_27 N)) ?_
        refine ms_seq mB_31 mO_31 [(.lneg, 1)] (pc' := 93) (L' := [.ref 3, .int l1, .ref ln, .int l3, .int x4]) (st' := [.long (-(mi_al δ5 27 x4)), .int x4, .ref ln]) ⟨dX1_fillClosing_92, trivial⟩ rfl ?_
        refine ms_callvV mB_31 mO_31 (by omega) dX1_fillClosing_93 mQ_1_184 mC_1_184 mL_63 mO_63 rfl (Nat.le_of_ble_eq_true rfl) (Nat.le_of_ble_eq_true rfl) (hk_ln) rfl F (fun δ7 F => ?_)
        refine ms_seq mB_31 mO_31 [(.iinc 3 1, 3)] (pc' := 99) (L' := [.ref 3, .int l1, .ref ln, .int (l3 + 1), .int x4]) (st' := []) ⟨dX1_fillClosing_96, trivial⟩ rfl ?_
        refine ms_goto mB_31 dX1_fillClosing_99 (t := 33) rfl ?_
        exact F
set_option maxRecDepth 100000 in
theorem q1_isClosedOut_0 {N d : Nat} (hd : 5 ≤ d) {p0 : Int32} {δ : mi_D} {Q : Int32 → mi_D → Prop} (F : (∀ x1 : Int32, x1 = (mi_at δ 6 p0) → (mi_wI N (d - 1) 3 0 [.ref 4, .int p0] [] δ (fun r3 δ2 => ((r3 = 0 → Q 0 δ2) ∧ (¬ r3 = 0 → ((x1 = 3 → Q 1 δ2) ∧ (¬ x1 = 3 → ((x1 = 4 → Q 1 δ2) ∧ (¬ x1 = 4 → Q 0 δ2)))))))))) : mi_wI N d 32 0 [.ref 3, .int p0, .null] [] δ Q := by
  unfold mi_wI
  refine ms_seq mB_32 mO_32 [(.aload_n 0, 1)] (pc' := 1) (L' := [.ref 3, .int p0, .null]) (st' := [.ref 3]) ⟨dX1_isClosedOut_0, trivial⟩ rfl ?_
  refine ms_getR mB_32 mO_32 dX1_isClosedOut_1 mF_1_12 (gk_3 N) rfl (b := 4) (gr_3_0 N) ?_
  refine ms_getR mB_32 mO_32 dX1_isClosedOut_4 mF_1_75 (gk_4 N) rfl (b := 6) (gr_4_1 N) ?_
  refine ms_seq mB_32 mO_32 [(.iload_n 1, 1)] (pc' := 8) (L' := [.ref 3, .int p0, .null]) (st' := [.int p0, .ref 6]) ⟨dX1_isClosedOut_7, trivial⟩ rfl ?_
  refine ms_at mB_32 mO_32 hd dX1_isClosedOut_8 mQ_1_79 (Nat.le_of_ble_eq_true rfl) (gk_6 N) (mi_ne (gl_6 N)) ?_
  refine mr_topi (fun x1 e_x1 => ?_)
  have F := F x1 e_x1
  refine ms_seq mB_32 mO_32 [(.istore_n 2, 1), (.aload_n 0, 1)] (pc' := 13) (L' := [.ref 3, .int p0, .int x1]) (st' := [.ref 3]) ⟨dX1_isClosedOut_11, dX1_isClosedOut_12, trivial⟩ rfl ?_
  refine ms_getR mB_32 mO_32 dX1_isClosedOut_13 mF_1_12 (gk_3 N) rfl (b := 4) (gr_3_0 N) ?_
  refine ms_seq mB_32 mO_32 [(.iload_n 1, 1)] (pc' := 17) (L' := [.ref 3, .int p0, .int x1]) (st' := [.int p0, .ref 4]) ⟨dX1_isClosedOut_16, trivial⟩ rfl ?_
  refine ms_callvI mB_32 mO_32 (by omega) dX1_isClosedOut_17 mQ_1_64 mC_1_64 mL_3 mO_3 rfl (Nat.le_of_ble_eq_true rfl) (Nat.le_of_ble_eq_true rfl) (gk_4 N) rfl F (fun r3 δ2 F => ?_)
  refine ms_if_eq mB_32 dX1_isClosedOut_20 (t := 37) rfl (fun c => ?_) (fun c => ?_)
  · have F := F.1 c
    refine ms_seq mB_32 mO_32 [(.iconst 0, 1)] (pc' := 38) (L' := [.ref 3, .int p0, .int x1]) (st' := [.int 0]) ⟨dX1_isClosedOut_37, trivial⟩ rfl ?_
    exact ms_zret mB_32 dX1_isClosedOut_38 mR_32 (by decide) ⟨_, rfl, rfl, F⟩
  · have F := F.2 c
    refine ms_seq mB_32 mO_32 [(.iload_n 2, 1), (.iconst 3, 1)] (pc' := 25) (L' := [.ref 3, .int p0, .int x1]) (st' := [.int 3, .int x1]) ⟨dX1_isClosedOut_23, dX1_isClosedOut_24, trivial⟩ rfl ?_
    refine ms_icmp_eq mB_32 dX1_isClosedOut_25 (t := 33) rfl (fun c => ?_) (fun c => ?_)
    · have F := F.1 c
      refine ms_seq mB_32 mO_32 [(.iconst 1, 1)] (pc' := 34) (L' := [.ref 3, .int p0, .int x1]) (st' := [.int 1]) ⟨dX1_isClosedOut_33, trivial⟩ rfl ?_
      refine ms_goto mB_32 dX1_isClosedOut_34 (t := 38) rfl ?_
      exact ms_zret mB_32 dX1_isClosedOut_38 mR_32 (by decide) ⟨_, rfl, rfl, F⟩
    · have F := F.2 c
      refine ms_seq mB_32 mO_32 [(.iload_n 2, 1), (.iconst 4, 1)] (pc' := 30) (L' := [.ref 3, .int p0, .int x1]) (st' := [.int 4, .int x1]) ⟨dX1_isClosedOut_28, dX1_isClosedOut_29, trivial⟩ rfl ?_
      refine ms_icmp_ne mB_32 dX1_isClosedOut_30 (t := 37) rfl (fun c => ?_) (fun c => ?_)
      · have F := F.2 c
        refine ms_seq mB_32 mO_32 [(.iconst 0, 1)] (pc' := 38) (L' := [.ref 3, .int p0, .int x1]) (st' := [.int 0]) ⟨dX1_isClosedOut_37, trivial⟩ rfl ?_
        exact ms_zret mB_32 dX1_isClosedOut_38 mR_32 (by decide) ⟨_, rfl, rfl, F⟩
      · have F := F.1 c
        refine ms_seq mB_32 mO_32 [(.iconst 1, 1)] (pc' := 34) (L' := [.ref 3, .int p0, .int x1]) (st' := [.int 1]) ⟨dX1_isClosedOut_33, trivial⟩ rfl ?_
        refine ms_goto mB_32 dX1_isClosedOut_34 (t := 38) rfl ?_
        exact ms_zret mB_32 dX1_isClosedOut_38 mR_32 (by decide) ⟨_, rfl, rfl, F⟩
set_option maxRecDepth 100000 in
theorem q1_closePeriod_0 {N d : Nat} (hd : 5 ≤ d) {ln la lb lim : Nat} (hl : mi_Ls ln la lb lim) {δ : mi_D} {Q : Int32 → mi_D → Prop} (F : (∀ x1 : Int32, x1 = (δ.1 14 3) → ((0 < (δ.1 ln 2) → (mi_wI N (d - 1) 74 0 [.ref 14, .int x1] [] δ (fun r3 δ2 => (mi_wI N (d - 1) 27 0 [.ref 3, .ref ln, .int r3, .int 0, .int 2, .int x1, .null] [] δ2 (fun r5 δ4 => mi_wI N d 33 34 [.ref 3, .ref ln, .int x1, .int r5] [] δ4 Q))))) ∧ (¬ 0 < (δ.1 ln 2) → mi_wI N d 33 34 [.ref 3, .ref ln, .int x1, .int (-1)] [] δ Q)))) : mi_wI N d 33 0 [.ref 3, .ref ln, .null, .null] [] δ Q := by
  unfold mi_wI
  obtain ⟨hk_ln, hr_ln_0, hr_ln_1, hk_la, hk_lb, hl_la, hl_lb⟩ := hl.all N
  refine ms_seq mB_33 mO_33 [(.aload_n 0, 1)] (pc' := 1) (L' := [.ref 3, .ref ln, .null, .null]) (st' := [.ref 3]) ⟨dX1_closePeriod_0, trivial⟩ rfl ?_
  refine ms_getR mB_33 mO_33 dX1_closePeriod_1 mF_1_21 (gk_3 N) rfl (b := 14) (gr_3_1 N) ?_
  refine ms_getI mB_33 mO_33 dX1_closePeriod_4 mF_1_99 (gk_14 N) (Or.inl rfl) ?_
  refine mr_topi (fun x1 e_x1 => ?_)
  have F := F x1 e_x1
  refine ms_seq mB_33 mO_33 [(.istore_n 2, 1), (.iconst (-1), 1), (.istore_n 3, 1), (.aload_n 1, 1)] (pc' := 11) (L' := [.ref 3, .ref ln, .int x1, .int (-1)]) (st' := [.ref ln]) ⟨dX1_closePeriod_7, dX1_closePeriod_8, dX1_closePeriod_9, dX1_closePeriod_10, trivial⟩ rfl ?_
  refine ms_getI mB_33 mO_33 dX1_closePeriod_11 mF_1_89 (hk_ln) (Or.inl rfl) ?_
  refine ms_if_le mB_33 dX1_closePeriod_14 (t := 34) rfl (fun c => ?_) (fun c => ?_)
  · have F := F.2 c
    exact F
  · have F := F.1 c
    refine ms_seq mB_33 mO_33 [(.aload_n 0, 1), (.aload_n 1, 1), (.aload_n 0, 1)] (pc' := 20) (L' := [.ref 3, .ref ln, .int x1, .int (-1)]) (st' := [.ref 3, .ref ln, .ref 3]) ⟨dX1_closePeriod_17, dX1_closePeriod_18, dX1_closePeriod_19, trivial⟩ rfl ?_
    refine ms_getR mB_33 mO_33 dX1_closePeriod_20 mF_1_21 (gk_3 N) rfl (b := 14) (gr_3_1 N) ?_
    refine ms_seq mB_33 mO_33 [(.iload_n 2, 1)] (pc' := 24) (L' := [.ref 3, .ref ln, .int x1, .int (-1)]) (st' := [.int x1, .ref 14, .ref ln, .ref 3]) ⟨dX1_closePeriod_23, trivial⟩ rfl ?_
    refine ms_callvI mB_33 mO_33 (by omega) dX1_closePeriod_24 mQ_1_170 mC_1_170 mL_74 mO_74 rfl (Nat.le_of_ble_eq_true rfl) (Nat.le_of_ble_eq_true rfl) (gk_14 N) rfl F (fun r3 δ2 F => ?_)
    refine ms_seq mB_33 mO_33 [(.iconst 0, 1), (.iconst 2, 1), (.iload_n 2, 1)] (pc' := 30) (L' := [.ref 3, .ref ln, .int x1, .int (-1)]) (st' := [.int x1, .int 2, .int 0, .int r3, .ref ln, .ref 3]) ⟨dX1_closePeriod_27, dX1_closePeriod_28, dX1_closePeriod_29, trivial⟩ rfl ?_
    refine ms_callvI mB_33 mO_33 (by omega) dX1_closePeriod_30 mQ_1_157 mC_1_157 mL_27 mO_27 rfl (Nat.le_of_ble_eq_true rfl) (Nat.le_of_ble_eq_true rfl) (gk_3 N) rfl F (fun r5 δ4 F => ?_)
    refine ms_seq mB_33 mO_33 [(.istore_n 3, 1)] (pc' := 34) (L' := [.ref 3, .ref ln, .int x1, .int r5]) (st' := []) ⟨dX1_closePeriod_33, trivial⟩ rfl ?_
    exact F
set_option maxRecDepth 100000 in
theorem q1_closePeriod_34 {N d : Nat} (hd : 5 ≤ d) {ln la lb lim : Nat} (hl : mi_Ls ln la lb lim) {l2 l3 : Int32} {δ : mi_D} {Q : Int32 → mi_D → Prop} (F : (mi_wV N (d - 1) 78 0 [.ref 14, .int l3] [] δ (fun δ1 => Q l2 δ1))) : mi_wI N d 33 34 [.ref 3, .ref ln, .int l2, .int l3] [] δ Q := by
  unfold mi_wI
  obtain ⟨hk_ln, hr_ln_0, hr_ln_1, hk_la, hk_lb, hl_la, hl_lb⟩ := hl.all N
  refine ms_seq mB_33 mO_33 [(.aload_n 0, 1)] (pc' := 35) (L' := [.ref 3, .ref ln, .int l2, .int l3]) (st' := [.ref 3]) ⟨dX1_closePeriod_34, trivial⟩ rfl ?_
  refine ms_getR mB_33 mO_33 dX1_closePeriod_35 mF_1_21 (gk_3 N) rfl (b := 14) (gr_3_1 N) ?_
  refine ms_seq mB_33 mO_33 [(.iload_n 3, 1)] (pc' := 39) (L' := [.ref 3, .ref ln, .int l2, .int l3]) (st' := [.int l3, .ref 14]) ⟨dX1_closePeriod_38, trivial⟩ rfl ?_
  refine ms_callvV mB_33 mO_33 (by omega) dX1_closePeriod_39 mQ_1_186 mC_1_186 mL_78 mO_78 rfl (Nat.le_of_ble_eq_true rfl) (Nat.le_of_ble_eq_true rfl) (gk_14 N) rfl F (fun δ1 F => ?_)
  refine ms_seq mB_33 mO_33 [(.iload_n 2, 1)] (pc' := 43) (L' := [.ref 3, .ref ln, .int l2, .int l3]) (st' := [.int l2]) ⟨dX1_closePeriod_42, trivial⟩ rfl ?_
  exact ms_iret mB_33 dX1_closePeriod_43 mR_33 ⟨_, rfl, rfl, F⟩
set_option maxRecDepth 100000 in
theorem q1_refusesReopen_0 {N d : Nat} (hd : 5 ≤ d) {ln la lb lim : Nat} (hl : mi_Ls ln la lb lim) {δ : mi_D} {Q : Int32 → mi_D → Prop} (F : ((0 < (δ.1 14 3) → (mi_wV N (d - 1) 62 0 [.ref ln] [] δ (fun δ1 => (mi_wI N (d - 1) 77 0 [.ref 14, .int ((δ1.1 14 3) - 1)] [] δ1 (fun r3 δ2 => ((r3 = (-1) → mi_wI N d 34 48 [.ref 3, .ref ln, .int r3] [] δ2 Q) ∧ (¬ r3 = (-1) → (mi_wV N (d - 1) 43 0 [.ref 17, .int r3, .ref ln, .null] [] δ2 (fun δ4 => mi_wI N d 34 48 [.ref 3, .ref ln, .int r3] [] δ4 Q))))))))) ∧ (¬ 0 < (δ.1 14 3) → Q (-6) δ))) : mi_wI N d 34 0 [.ref 3, .ref ln, .null] [] δ Q := by
  unfold mi_wI
  obtain ⟨hk_ln, hr_ln_0, hr_ln_1, hk_la, hk_lb, hl_la, hl_lb⟩ := hl.all N
  refine ms_seq mB_34 mO_34 [(.aload_n 0, 1)] (pc' := 1) (L' := [.ref 3, .ref ln, .null]) (st' := [.ref 3]) ⟨dX1_refusesReopen_0, trivial⟩ rfl ?_
  refine ms_getR mB_34 mO_34 dX1_refusesReopen_1 mF_1_21 (gk_3 N) rfl (b := 14) (gr_3_1 N) ?_
  refine ms_getI mB_34 mO_34 dX1_refusesReopen_4 mF_1_99 (gk_14 N) (Or.inl rfl) ?_
  refine ms_if_gt mB_34 dX1_refusesReopen_7 (t := 13) rfl (fun c => ?_) (fun c => ?_)
  · have F := F.1 c
    refine ms_seq mB_34 mO_34 [(.aload_n 1, 1)] (pc' := 14) (L' := [.ref 3, .ref ln, .null]) (st' := [.ref ln]) ⟨dX1_refusesReopen_13, trivial⟩ rfl ?_
    refine ms_callvV mB_34 mO_34 (by omega) dX1_refusesReopen_14 mQ_1_177 mC_1_177 mL_62 mO_62 rfl (Nat.le_of_ble_eq_true rfl) (Nat.le_of_ble_eq_true rfl) (hk_ln) rfl F (fun δ1 F => ?_)
    refine ms_seq mB_34 mO_34 [(.aload_n 0, 1)] (pc' := 18) (L' := [.ref 3, .ref ln, .null]) (st' := [.ref 3]) ⟨dX1_refusesReopen_17, trivial⟩ rfl ?_
    refine ms_getR mB_34 mO_34 dX1_refusesReopen_18 mF_1_21 (gk_3 N) rfl (b := 14) (gr_3_1 N) ?_
    refine ms_seq mB_34 mO_34 [(.aload_n 0, 1)] (pc' := 22) (L' := [.ref 3, .ref ln, .null]) (st' := [.ref 3, .ref 14]) ⟨dX1_refusesReopen_21, trivial⟩ rfl ?_
    refine ms_getR mB_34 mO_34 dX1_refusesReopen_22 mF_1_21 (gk_3 N) rfl (b := 14) (gr_3_1 N) ?_
    refine ms_getI mB_34 mO_34 dX1_refusesReopen_25 mF_1_99 (gk_14 N) (Or.inl rfl) ?_
    refine ms_seq mB_34 mO_34 [(.iconst 1, 1), (.isub, 1)] (pc' := 30) (L' := [.ref 3, .ref ln, .null]) (st' := [.int ((δ1.1 14 3) - 1), .ref 14]) ⟨dX1_refusesReopen_28, dX1_refusesReopen_29, trivial⟩ rfl ?_
    refine ms_callvI mB_34 mO_34 (by omega) dX1_refusesReopen_30 mQ_1_189 mC_1_189 mL_77 mO_77 rfl (Nat.le_of_ble_eq_true rfl) (Nat.le_of_ble_eq_true rfl) (gk_14 N) rfl F (fun r3 δ2 F => ?_)
    refine ms_seq mB_34 mO_34 [(.istore_n 2, 1), (.iload_n 2, 1), (.iconst (-1), 1)] (pc' := 36) (L' := [.ref 3, .ref ln, .int r3]) (st' := [.int (-1), .int r3]) ⟨dX1_refusesReopen_33, dX1_refusesReopen_34, dX1_refusesReopen_35, trivial⟩ rfl ?_
    refine ms_icmp_eq mB_34 dX1_refusesReopen_36 (t := 48) rfl (fun c => ?_) (fun c => ?_)
    · have F := F.1 c
      exact F
    · have F := F.2 c
      refine ms_seq mB_34 mO_34 [(.aload_n 0, 1)] (pc' := 40) (L' := [.ref 3, .ref ln, .int r3]) (st' := [.ref 3]) ⟨dX1_refusesReopen_39, trivial⟩ rfl ?_
      refine ms_getR mB_34 mO_34 dX1_refusesReopen_40 mF_1_28 (gk_3 N) rfl (b := 17) (gr_3_2 N) ?_
      refine ms_seq mB_34 mO_34 [(.iload_n 2, 1), (.aload_n 1, 1)] (pc' := 45) (L' := [.ref 3, .ref ln, .int r3]) (st' := [.ref ln, .int r3, .ref 17]) ⟨dX1_refusesReopen_43, dX1_refusesReopen_44, trivial⟩ rfl ?_
      refine ms_callvV mB_34 mO_34 (by omega) dX1_refusesReopen_45 mQ_1_146 mC_1_146 mL_43 mO_43 rfl (Nat.le_of_ble_eq_true rfl) (Nat.le_of_ble_eq_true rfl) (gk_17 N) rfl F (fun δ4 F => ?_)
      exact F
  · have F := F.2 c
    refine ms_seq mB_34 mO_34 [(.bipush (-6), 2)] (pc' := 12) (L' := [.ref 3, .ref ln, .null]) (st' := [.int (-6)]) ⟨dX1_refusesReopen_10, trivial⟩ rfl ?_
    exact ms_iret mB_34 dX1_refusesReopen_12 mR_34 ⟨_, rfl, rfl, F⟩
set_option maxRecDepth 100000 in
theorem q1_refusesReopen_48 {N d : Nat} (hd : 5 ≤ d) {ln la lb lim : Nat} (hl : mi_Ls ln la lb lim) {l2 : Int32} {δ : mi_D} {Q : Int32 → mi_D → Prop} (F : (mi_wI N (d - 1) 24 0 [.ref 3, .ref ln] [] δ (fun r2 δ1 => Q r2 δ1))) : mi_wI N d 34 48 [.ref 3, .ref ln, .int l2] [] δ Q := by
  unfold mi_wI
  obtain ⟨hk_ln, hr_ln_0, hr_ln_1, hk_la, hk_lb, hl_la, hl_lb⟩ := hl.all N
  refine ms_seq mB_34 mO_34 [(.aload_n 0, 1), (.aload_n 1, 1)] (pc' := 50) (L' := [.ref 3, .ref ln, .int l2]) (st' := [.ref ln, .ref 3]) ⟨dX1_refusesReopen_48, dX1_refusesReopen_49, trivial⟩ rfl ?_
  refine ms_callvI mB_34 mO_34 (by omega) dX1_refusesReopen_50 mQ_1_106 mC_1_106 mL_24 mO_24 rfl (Nat.le_of_ble_eq_true rfl) (Nat.le_of_ble_eq_true rfl) (gk_3 N) rfl F (fun r2 δ1 F => ?_)
  exact ms_iret mB_34 dX1_refusesReopen_53 mR_34 ⟨_, rfl, rfl, F⟩
set_option maxRecDepth 100000 in
theorem q1_reopenPeriod_0 {N d : Nat} (hd : 5 ≤ d) {ln la lb lim : Nat} (hl : mi_Ls ln la lb lim) {δ : mi_D} {Q : Int32 → mi_D → Prop} (F : (∀ x1 : Int32, x1 = ((δ.1 14 3) - 1) → ((0 < (δ.1 ln 2) → (mi_wI N (d - 1) 74 0 [.ref 14, .int x1] [] δ (fun r3 δ2 => (mi_wI N (d - 1) 27 0 [.ref 3, .ref ln, .int r3, .int 0, .int 3, .int x1, .null] [] δ2 (fun r5 δ4 => mi_wI N d 35 34 [.ref 3, .ref ln, .int x1] [] δ4 Q))))) ∧ (¬ 0 < (δ.1 ln 2) → mi_wI N d 35 34 [.ref 3, .ref ln, .int x1] [] δ Q)))) : mi_wI N d 35 0 [.ref 3, .ref ln, .null] [] δ Q := by
  unfold mi_wI
  obtain ⟨hk_ln, hr_ln_0, hr_ln_1, hk_la, hk_lb, hl_la, hl_lb⟩ := hl.all N
  refine ms_seq mB_35 mO_35 [(.aload_n 0, 1)] (pc' := 1) (L' := [.ref 3, .ref ln, .null]) (st' := [.ref 3]) ⟨dX1_reopenPeriod_0, trivial⟩ rfl ?_
  refine ms_getR mB_35 mO_35 dX1_reopenPeriod_1 mF_1_21 (gk_3 N) rfl (b := 14) (gr_3_1 N) ?_
  refine ms_getI mB_35 mO_35 dX1_reopenPeriod_4 mF_1_99 (gk_14 N) (Or.inl rfl) ?_
  refine ms_seq mB_35 mO_35 [(.iconst 1, 1), (.isub, 1)] (pc' := 9) (L' := [.ref 3, .ref ln, .null]) (st' := [.int ((δ.1 14 3) - 1)]) ⟨dX1_reopenPeriod_7, dX1_reopenPeriod_8, trivial⟩ rfl ?_
  refine mr_topi (fun x1 e_x1 => ?_)
  have F := F x1 e_x1
  refine ms_seq mB_35 mO_35 [(.istore_n 2, 1), (.aload_n 1, 1)] (pc' := 11) (L' := [.ref 3, .ref ln, .int x1]) (st' := [.ref ln]) ⟨dX1_reopenPeriod_9, dX1_reopenPeriod_10, trivial⟩ rfl ?_
  refine ms_getI mB_35 mO_35 dX1_reopenPeriod_11 mF_1_89 (hk_ln) (Or.inl rfl) ?_
  refine ms_if_le mB_35 dX1_reopenPeriod_14 (t := 34) rfl (fun c => ?_) (fun c => ?_)
  · have F := F.2 c
    exact F
  · have F := F.1 c
    refine ms_seq mB_35 mO_35 [(.aload_n 0, 1), (.aload_n 1, 1), (.aload_n 0, 1)] (pc' := 20) (L' := [.ref 3, .ref ln, .int x1]) (st' := [.ref 3, .ref ln, .ref 3]) ⟨dX1_reopenPeriod_17, dX1_reopenPeriod_18, dX1_reopenPeriod_19, trivial⟩ rfl ?_
    refine ms_getR mB_35 mO_35 dX1_reopenPeriod_20 mF_1_21 (gk_3 N) rfl (b := 14) (gr_3_1 N) ?_
    refine ms_seq mB_35 mO_35 [(.iload_n 2, 1)] (pc' := 24) (L' := [.ref 3, .ref ln, .int x1]) (st' := [.int x1, .ref 14, .ref ln, .ref 3]) ⟨dX1_reopenPeriod_23, trivial⟩ rfl ?_
    refine ms_callvI mB_35 mO_35 (by omega) dX1_reopenPeriod_24 mQ_1_170 mC_1_170 mL_74 mO_74 rfl (Nat.le_of_ble_eq_true rfl) (Nat.le_of_ble_eq_true rfl) (gk_14 N) rfl F (fun r3 δ2 F => ?_)
    refine ms_seq mB_35 mO_35 [(.iconst 0, 1), (.iconst 3, 1), (.iload_n 2, 1)] (pc' := 30) (L' := [.ref 3, .ref ln, .int x1]) (st' := [.int x1, .int 3, .int 0, .int r3, .ref ln, .ref 3]) ⟨dX1_reopenPeriod_27, dX1_reopenPeriod_28, dX1_reopenPeriod_29, trivial⟩ rfl ?_
    refine ms_callvI mB_35 mO_35 (by omega) dX1_reopenPeriod_30 mQ_1_157 mC_1_157 mL_27 mO_27 rfl (Nat.le_of_ble_eq_true rfl) (Nat.le_of_ble_eq_true rfl) (gk_3 N) rfl F (fun r5 δ4 F => ?_)
    refine ms_seq mB_35 mO_35 [(.pop, 1)] (pc' := 34) (L' := [.ref 3, .ref ln, .int x1]) (st' := []) ⟨dX1_reopenPeriod_33, trivial⟩ rfl ?_
    exact F
set_option maxRecDepth 100000 in
theorem q1_reopenPeriod_34 {N d : Nat} (hd : 5 ≤ d) {ln la lb lim : Nat} (hl : mi_Ls ln la lb lim) {l2 : Int32} {δ : mi_D} {Q : Int32 → mi_D → Prop} (F : (mi_wV N (d - 1) 79 0 [.ref 14] [] δ (fun δ1 => Q l2 δ1))) : mi_wI N d 35 34 [.ref 3, .ref ln, .int l2] [] δ Q := by
  unfold mi_wI
  obtain ⟨hk_ln, hr_ln_0, hr_ln_1, hk_la, hk_lb, hl_la, hl_lb⟩ := hl.all N
  refine ms_seq mB_35 mO_35 [(.aload_n 0, 1)] (pc' := 35) (L' := [.ref 3, .ref ln, .int l2]) (st' := [.ref 3]) ⟨dX1_reopenPeriod_34, trivial⟩ rfl ?_
  refine ms_getR mB_35 mO_35 dX1_reopenPeriod_35 mF_1_21 (gk_3 N) rfl (b := 14) (gr_3_1 N) ?_
  refine ms_callvV mB_35 mO_35 (by omega) dX1_reopenPeriod_38 mQ_1_192 mC_1_192 mL_79 mO_79 rfl (Nat.le_of_ble_eq_true rfl) (Nat.le_of_ble_eq_true rfl) (gk_14 N) rfl F (fun δ1 F => ?_)
  refine ms_seq mB_35 mO_35 [(.iload_n 2, 1)] (pc' := 42) (L' := [.ref 3, .ref ln, .int l2]) (st' := [.int l2]) ⟨dX1_reopenPeriod_41, trivial⟩ rfl ?_
  exact ms_iret mB_35 dX1_reopenPeriod_42 mR_35 ⟨_, rfl, rfl, F⟩
set_option maxRecDepth 100000 in
theorem q1_sumInDays_0 {N d : Nat} (hd : 5 ≤ d) {p0 p1 p2 : Int32} {δ : mi_D} {Q : Int64 → mi_D → Prop} (F : (mi_wV N (d - 1) 44 0 [.ref 17, .int p1, .int p2, .ref 27, .null, .null, .null] [] δ (fun δ1 => (mi_wL N (d - 1) 11 0 [.ref 4, .int p0, .ref 27, .null, .null, .null] [] δ1 (fun r3 δ2 => Q r3 δ2))))) : mi_wL N d 36 0 [.ref 3, .int p0, .int p1, .int p2] [] δ Q := by
  unfold mi_wL
  refine ms_seq mB_36 mO_36 [(.aload_n 0, 1)] (pc' := 1) (L' := [.ref 3, .int p0, .int p1, .int p2]) (st' := [.ref 3]) ⟨dX1_sumInDays_0, trivial⟩ rfl ?_
  refine ms_getR mB_36 mO_36 dX1_sumInDays_1 mF_1_28 (gk_3 N) rfl (b := 17) (gr_3_2 N) ?_
  refine ms_seq mB_36 mO_36 [(.iload_n 2, 1), (.iload_n 3, 1), (.aload_n 0, 1)] (pc' := 7) (L' := [.ref 3, .int p0, .int p1, .int p2]) (st' := [.ref 3, .int p2, .int p1, .ref 17]) ⟨dX1_sumInDays_4, dX1_sumInDays_5, dX1_sumInDays_6, trivial⟩ rfl ?_
  refine ms_getR mB_36 mO_36 dX1_sumInDays_7 mF_1_41 (gk_3 N) rfl (b := 27) (gr_3_4 N) ?_
  refine ms_callvV mB_36 mO_36 (by omega) dX1_sumInDays_10 mQ_1_173 mC_1_173 mL_44 mO_44 rfl (Nat.le_of_ble_eq_true rfl) (Nat.le_of_ble_eq_true rfl) (gk_17 N) rfl F (fun δ1 F => ?_)
  refine ms_seq mB_36 mO_36 [(.aload_n 0, 1)] (pc' := 14) (L' := [.ref 3, .int p0, .int p1, .int p2]) (st' := [.ref 3]) ⟨dX1_sumInDays_13, trivial⟩ rfl ?_
  refine ms_getR mB_36 mO_36 dX1_sumInDays_14 mF_1_12 (gk_3 N) rfl (b := 4) (gr_3_0 N) ?_
  refine ms_seq mB_36 mO_36 [(.iload_n 1, 1), (.aload_n 0, 1)] (pc' := 19) (L' := [.ref 3, .int p0, .int p1, .int p2]) (st' := [.ref 3, .int p0, .ref 4]) ⟨dX1_sumInDays_17, dX1_sumInDays_18, trivial⟩ rfl ?_
  refine ms_getR mB_36 mO_36 dX1_sumInDays_19 mF_1_41 (gk_3 N) rfl (b := 27) (gr_3_4 N) ?_
  refine ms_callvL mB_36 mO_36 (by omega) dX1_sumInDays_22 mQ_1_195 mC_1_195 mL_11 mO_11 rfl (Nat.le_of_ble_eq_true rfl) (Nat.le_of_ble_eq_true rfl) (gk_4 N) rfl F (fun r3 δ2 F => ?_)
  exact ms_lret mB_36 dX1_sumInDays_25 mR_36 ⟨_, rfl, rfl, F⟩
