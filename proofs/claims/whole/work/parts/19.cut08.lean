set_option maxRecDepth 100000 in
theorem q8_redo_0 {N d : Nat} (hd : 5 ≤ d) {p0 p1 : Int32} {δ : mi_D} {Q : Int32 → mi_D → Prop} (F : (∀ δ1 : mi_D, δ1 = mi_setI δ 31 3 (p0 + 2) → (∀ δ2 : mi_D, δ2 = mi_setI δ1 31 4 ((p0 + p1) - 2) → (∀ δ3 : mi_D, δ3 = mi_setI δ2 31 5 0 → (((mi_at δ3 29 (p0 + 1)) = 1 → (mi_wI N (d - 1) 83 0 [.ref 31, .null, .null, .null, .null] [] δ3 (fun r5 δ4 => ((r5 = 0 ∨ r5 = 1) ∧ Q r5 δ4)))) ∧ ((mi_at δ3 29 (p0 + 1)) = 2 → (mi_wI N (d - 1) 84 0 [.ref 31, .null, .null] [] δ3 (fun r7 δ6 => ((r7 = 0 ∨ r7 = 1) ∧ Q r7 δ6)))) ∧ ((mi_at δ3 29 (p0 + 1)) = 3 → (mi_wI N (d - 1) 85 0 [.ref 31, .null] [] δ3 (fun r9 δ8 => ((r9 = 0 ∨ r9 = 1) ∧ Q r9 δ8)))) ∧ ((mi_at δ3 29 (p0 + 1)) = 4 → (mi_wI N (d - 1) 86 0 [.ref 31, .null] [] δ3 (fun r11 δ10 => ((r11 = 0 ∨ r11 = 1) ∧ Q r11 δ10)))) ∧ ((mi_at δ3 29 (p0 + 1)) = 5 → (mi_wI N (d - 1) 87 0 [.ref 31, .null, .null] [] δ3 (fun r13 δ12 => ((r13 = 0 ∨ r13 = 1) ∧ Q r13 δ12)))) ∧ ((mi_at δ3 29 (p0 + 1)) = 6 → (mi_wI N (d - 1) 89 0 [.ref 31, .null, .null] [] δ3 (fun r15 δ14 => ((r15 = 0 ∨ r15 = 1) ∧ Q r15 δ14)))) ∧ ((mi_at δ3 29 (p0 + 1)) = 7 → (mi_wI N (d - 1) 90 0 [.ref 31] [] δ3 (fun r17 δ16 => ((r17 = 0 ∨ r17 = 1) ∧ Q r17 δ16)))) ∧ ((mi_at δ3 29 (p0 + 1)) = 8 → (mi_wI N (d - 1) 91 0 [.ref 31] [] δ3 (fun r19 δ18 => ((r19 = 0 ∨ r19 = 1) ∧ Q r19 δ18)))) ∧ (¬ (mi_at δ3 29 (p0 + 1)) = 1 → ¬ (mi_at δ3 29 (p0 + 1)) = 2 → ¬ (mi_at δ3 29 (p0 + 1)) = 3 → ¬ (mi_at δ3 29 (p0 + 1)) = 4 → ¬ (mi_at δ3 29 (p0 + 1)) = 5 → ¬ (mi_at δ3 29 (p0 + 1)) = 6 → ¬ (mi_at δ3 29 (p0 + 1)) = 7 → ¬ (mi_at δ3 29 (p0 + 1)) = 8 → Q 0 δ3)))))) : mi_wI N d 82 0 [.ref 31, .int p0, .int p1] [] δ Q := by
  unfold mi_wI
  refine ms_seq mB_82 mO_82 [(.aload_n 0, 1), (.iload_n 1, 1), (.iconst 2, 1), (.iadd, 1)] (pc' := 4) (L' := [.ref 31, .int p0, .int p1]) (st' := [.int (p0 + 2), .ref 31]) ⟨dX8_redo_0, dX8_redo_1, dX8_redo_2, dX8_redo_3, trivial⟩ rfl ?_
  refine ms_putI mB_82 mO_82 dX8_redo_4 mF_8_28 (gk_31 N) rfl rfl ?_
  refine mr_st (fun δ1 e_δ1 => ?_)
  have F := F δ1 e_δ1
  refine ms_seq mB_82 mO_82 [(.aload_n 0, 1), (.iload_n 1, 1), (.iload_n 2, 1), (.iadd, 1), (.iconst 2, 1), (.isub, 1)] (pc' := 13) (L' := [.ref 31, .int p0, .int p1]) (st' := [.int ((p0 + p1) - 2), .ref 31]) ⟨dX8_redo_7, dX8_redo_8, dX8_redo_9, dX8_redo_10, dX8_redo_11, dX8_redo_12, trivial⟩ rfl ?_
  refine ms_putI mB_82 mO_82 dX8_redo_13 mF_8_32 (gk_31 N) rfl rfl ?_
  refine mr_st (fun δ2 e_δ2 => ?_)
  have F := F δ2 e_δ2
  refine ms_seq mB_82 mO_82 [(.aload_n 0, 1), (.iconst 0, 1)] (pc' := 18) (L' := [.ref 31, .int p0, .int p1]) (st' := [.int 0, .ref 31]) ⟨dX8_redo_16, dX8_redo_17, trivial⟩ rfl ?_
  refine ms_putZ mB_82 mO_82 dX8_redo_18 mF_8_35 (gk_31 N) rfl rfl (by decide) ?_
  refine mr_st (fun δ3 e_δ3 => ?_)
  have F := F δ3 e_δ3
  refine ms_seq mB_82 mO_82 [(.aload_n 0, 1)] (pc' := 22) (L' := [.ref 31, .int p0, .int p1]) (st' := [.ref 31]) ⟨dX8_redo_21, trivial⟩ rfl ?_
  refine ms_getR mB_82 mO_82 dX8_redo_22 mF_8_20 (gk_31 N) rfl (b := 28) (gr_31_0 N) ?_
  refine ms_getR mB_82 mO_82 dX8_redo_25 mF_8_39 (gk_28 N) rfl (b := 29) (gr_28_0 N) ?_
  refine ms_seq mB_82 mO_82 [(.iload_n 1, 1), (.iconst 1, 1), (.iadd, 1)] (pc' := 31) (L' := [.ref 31, .int p0, .int p1]) (st' := [.int (p0 + 1), .ref 29]) ⟨dX8_redo_28, dX8_redo_29, dX8_redo_30, trivial⟩ rfl ?_
  refine ms_at mB_82 mO_82 hd dX8_redo_31 mQ_8_45 (Nat.le_of_ble_eq_true rfl) (gk_29 N) (mi_ne (gl_29 N)) ?_
  by_cases n1 : (mi_at δ3 29 (p0 + 1)) = 1
  · refine ms_pure mB_82 mO_82 (pc' := 80) (L' := [.ref 31, .int p0, .int p1]) (st' := []) dX8_redo_34 (by rw [n1]; rfl) ?_
    have F := F.1 n1
    refine ms_seq mB_82 mO_82 [(.aload_n 0, 1)] (pc' := 81) (L' := [.ref 31, .int p0, .int p1]) (st' := [.ref 31]) ⟨dX8_redo_80, trivial⟩ rfl ?_
    refine ms_callvI mB_82 mO_82 (by omega) dX8_redo_81 mQ_8_50 mC_8_50 mL_83 mO_83 rfl (Nat.le_of_ble_eq_true rfl) (Nat.le_of_ble_eq_true rfl) (gk_31 N) rfl F (fun r5 δ4 F => ?_)
    exact ms_zret mB_82 dX8_redo_84 mR_82 F.1 ⟨_, rfl, rfl, F.2⟩
  have F := F.2
  by_cases n2 : (mi_at δ3 29 (p0 + 1)) = 2
  · refine ms_pure mB_82 mO_82 (pc' := 85) (L' := [.ref 31, .int p0, .int p1]) (st' := []) dX8_redo_34 (by rw [n2]; rfl) ?_
    have F := F.1 n2
    refine ms_seq mB_82 mO_82 [(.aload_n 0, 1)] (pc' := 86) (L' := [.ref 31, .int p0, .int p1]) (st' := [.ref 31]) ⟨dX8_redo_85, trivial⟩ rfl ?_
    refine ms_callvI mB_82 mO_82 (by omega) dX8_redo_86 mQ_8_54 mC_8_54 mL_84 mO_84 rfl (Nat.le_of_ble_eq_true rfl) (Nat.le_of_ble_eq_true rfl) (gk_31 N) rfl F (fun r7 δ6 F => ?_)
    exact ms_zret mB_82 dX8_redo_89 mR_82 F.1 ⟨_, rfl, rfl, F.2⟩
  have F := F.2
  by_cases n3 : (mi_at δ3 29 (p0 + 1)) = 3
  · refine ms_pure mB_82 mO_82 (pc' := 90) (L' := [.ref 31, .int p0, .int p1]) (st' := []) dX8_redo_34 (by rw [n3]; rfl) ?_
    have F := F.1 n3
    refine ms_seq mB_82 mO_82 [(.aload_n 0, 1)] (pc' := 91) (L' := [.ref 31, .int p0, .int p1]) (st' := [.ref 31]) ⟨dX8_redo_90, trivial⟩ rfl ?_
    refine ms_callvI mB_82 mO_82 (by omega) dX8_redo_91 mQ_8_57 mC_8_57 mL_85 mO_85 rfl (Nat.le_of_ble_eq_true rfl) (Nat.le_of_ble_eq_true rfl) (gk_31 N) rfl F (fun r9 δ8 F => ?_)
    exact ms_zret mB_82 dX8_redo_94 mR_82 F.1 ⟨_, rfl, rfl, F.2⟩
  have F := F.2
  by_cases n4 : (mi_at δ3 29 (p0 + 1)) = 4
  · refine ms_pure mB_82 mO_82 (pc' := 95) (L' := [.ref 31, .int p0, .int p1]) (st' := []) dX8_redo_34 (by rw [n4]; rfl) ?_
    have F := F.1 n4
    refine ms_seq mB_82 mO_82 [(.aload_n 0, 1)] (pc' := 96) (L' := [.ref 31, .int p0, .int p1]) (st' := [.ref 31]) ⟨dX8_redo_95, trivial⟩ rfl ?_
    refine ms_callvI mB_82 mO_82 (by omega) dX8_redo_96 mQ_8_60 mC_8_60 mL_86 mO_86 rfl (Nat.le_of_ble_eq_true rfl) (Nat.le_of_ble_eq_true rfl) (gk_31 N) rfl F (fun r11 δ10 F => ?_)
    exact ms_zret mB_82 dX8_redo_99 mR_82 F.1 ⟨_, rfl, rfl, F.2⟩
  have F := F.2
  by_cases n5 : (mi_at δ3 29 (p0 + 1)) = 5
  · refine ms_pure mB_82 mO_82 (pc' := 100) (L' := [.ref 31, .int p0, .int p1]) (st' := []) dX8_redo_34 (by rw [n5]; rfl) ?_
    have F := F.1 n5
    refine ms_seq mB_82 mO_82 [(.aload_n 0, 1)] (pc' := 101) (L' := [.ref 31, .int p0, .int p1]) (st' := [.ref 31]) ⟨dX8_redo_100, trivial⟩ rfl ?_
    refine ms_callvI mB_82 mO_82 (by omega) dX8_redo_101 mQ_8_63 mC_8_63 mL_87 mO_87 rfl (Nat.le_of_ble_eq_true rfl) (Nat.le_of_ble_eq_true rfl) (gk_31 N) rfl F (fun r13 δ12 F => ?_)
    exact ms_zret mB_82 dX8_redo_104 mR_82 F.1 ⟨_, rfl, rfl, F.2⟩
  have F := F.2
  by_cases n6 : (mi_at δ3 29 (p0 + 1)) = 6
  · refine ms_pure mB_82 mO_82 (pc' := 105) (L' := [.ref 31, .int p0, .int p1]) (st' := []) dX8_redo_34 (by rw [n6]; rfl) ?_
    have F := F.1 n6
    refine ms_seq mB_82 mO_82 [(.aload_n 0, 1)] (pc' := 106) (L' := [.ref 31, .int p0, .int p1]) (st' := [.ref 31]) ⟨dX8_redo_105, trivial⟩ rfl ?_
    refine ms_callvI mB_82 mO_82 (by omega) dX8_redo_106 mQ_8_66 mC_8_66 mL_89 mO_89 rfl (Nat.le_of_ble_eq_true rfl) (Nat.le_of_ble_eq_true rfl) (gk_31 N) rfl F (fun r15 δ14 F => ?_)
    exact ms_zret mB_82 dX8_redo_109 mR_82 F.1 ⟨_, rfl, rfl, F.2⟩
  have F := F.2
  by_cases n7 : (mi_at δ3 29 (p0 + 1)) = 7
  · refine ms_pure mB_82 mO_82 (pc' := 110) (L' := [.ref 31, .int p0, .int p1]) (st' := []) dX8_redo_34 (by rw [n7]; rfl) ?_
    have F := F.1 n7
    refine ms_seq mB_82 mO_82 [(.aload_n 0, 1)] (pc' := 111) (L' := [.ref 31, .int p0, .int p1]) (st' := [.ref 31]) ⟨dX8_redo_110, trivial⟩ rfl ?_
    refine ms_callvI mB_82 mO_82 (by omega) dX8_redo_111 mQ_8_69 mC_8_69 mL_90 mO_90 rfl (Nat.le_of_ble_eq_true rfl) (Nat.le_of_ble_eq_true rfl) (gk_31 N) rfl F (fun r17 δ16 F => ?_)
    exact ms_zret mB_82 dX8_redo_114 mR_82 F.1 ⟨_, rfl, rfl, F.2⟩
  have F := F.2
  by_cases n8 : (mi_at δ3 29 (p0 + 1)) = 8
  · refine ms_pure mB_82 mO_82 (pc' := 115) (L' := [.ref 31, .int p0, .int p1]) (st' := []) dX8_redo_34 (by rw [n8]; rfl) ?_
    have F := F.1 n8
    refine ms_seq mB_82 mO_82 [(.aload_n 0, 1)] (pc' := 116) (L' := [.ref 31, .int p0, .int p1]) (st' := [.ref 31]) ⟨dX8_redo_115, trivial⟩ rfl ?_
    refine ms_callvI mB_82 mO_82 (by omega) dX8_redo_116 mQ_8_72 mC_8_72 mL_91 mO_91 rfl (Nat.le_of_ble_eq_true rfl) (Nat.le_of_ble_eq_true rfl) (gk_31 N) rfl F (fun r19 δ18 F => ?_)
    exact ms_zret mB_82 dX8_redo_119 mR_82 F.1 ⟨_, rfl, rfl, F.2⟩
  have F := F.2
  refine ms_swd mB_82 dX8_redo_34 (t := 120) (by have a1 := lv_neT n1 (a := 1) rfl; have a2 := lv_neT n2 (a := 2) rfl; have a3 := lv_neT n3 (a := 3) rfl; have a4 := lv_neT n4 (a := 4) rfl; have a5 := lv_neT n5 (a := 5) rfl; have a6 := lv_neT n6 (a := 6) rfl; have a7 := lv_neT n7 (a := 7) rfl; have a8 := lv_neT n8 (a := 8) rfl; omega) rfl ?_
  have F := F n1
  have F := F n2
  have F := F n3
  have F := F n4
  have F := F n5
  have F := F n6
  have F := F n7
  have F := F n8
  refine ms_seq mB_82 mO_82 [(.iconst 0, 1)] (pc' := 121) (L' := [.ref 31, .int p0, .int p1]) (st' := [.int 0]) ⟨dX8_redo_120, trivial⟩ rfl ?_
  exact ms_zret mB_82 dX8_redo_121 mR_82 (by decide) ⟨_, rfl, rfl, F⟩
set_option maxRecDepth 100000 in
theorem q8_redoAccount_0 {N d : Nat} (hd : 5 ≤ d) {δ : mi_D} {Q : Int32 → mi_D → Prop} (F : (mi_wI N (d - 1) 94 0 [.ref 31, .null, .null] [] δ (fun r2 δ1 => (mi_wI N (d - 1) 94 0 [.ref 31, .null, .null] [] δ1 (fun r4 δ3 => (mi_wI N (d - 1) 94 0 [.ref 31, .null, .null] [] δ3 (fun r6 δ5 => (mi_wI N (d - 1) 93 0 [.ref 31, .null, .null] [] δ5 (fun r8 δ7 => (mi_wI N (d - 1) 92 0 [.ref 31] [] δ7 (fun r10 δ9 => ((r10 = 0 → Q 0 δ9) ∧ (¬ r10 = 0 → (mi_wI N (d - 1) 17 0 [.ref 3, .int r2, .int r4, .int r6] [] δ9 (fun r12 δ11 => ((r12 = 0 → (mi_wI N (d - 1) 8 0 [.ref 4, .int r2, .int r4, .int r6, .int r8, .null] [] δ11 (fun r14 δ13 => Q 1 δ13))) ∧ (¬ r12 = 0 → Q 0 δ11))))))))))))))))) : mi_wI N d 83 0 [.ref 31, .null, .null, .null, .null] [] δ Q := by
  unfold mi_wI
  refine ms_seq mB_83 mO_83 [(.aload_n 0, 1)] (pc' := 1) (L' := [.ref 31, .null, .null, .null, .null]) (st' := [.ref 31]) ⟨dX8_redoAccount_0, trivial⟩ rfl ?_
  refine ms_callvI mB_83 mO_83 (by omega) dX8_redoAccount_1 mQ_8_75 mC_8_75 mL_94 mO_94 rfl (Nat.le_of_ble_eq_true rfl) (Nat.le_of_ble_eq_true rfl) (gk_31 N) rfl F (fun r2 δ1 F => ?_)
  refine ms_seq mB_83 mO_83 [(.istore_n 1, 1), (.aload_n 0, 1)] (pc' := 6) (L' := [.ref 31, .int r2, .null, .null, .null]) (st' := [.ref 31]) ⟨dX8_redoAccount_4, dX8_redoAccount_5, trivial⟩ rfl ?_
  refine ms_callvI mB_83 mO_83 (by omega) dX8_redoAccount_6 mQ_8_75 mC_8_75 mL_94 mO_94 rfl (Nat.le_of_ble_eq_true rfl) (Nat.le_of_ble_eq_true rfl) (gk_31 N) rfl F (fun r4 δ3 F => ?_)
  refine ms_seq mB_83 mO_83 [(.istore_n 2, 1), (.aload_n 0, 1)] (pc' := 11) (L' := [.ref 31, .int r2, .int r4, .null, .null]) (st' := [.ref 31]) ⟨dX8_redoAccount_9, dX8_redoAccount_10, trivial⟩ rfl ?_
  refine ms_callvI mB_83 mO_83 (by omega) dX8_redoAccount_11 mQ_8_75 mC_8_75 mL_94 mO_94 rfl (Nat.le_of_ble_eq_true rfl) (Nat.le_of_ble_eq_true rfl) (gk_31 N) rfl F (fun r6 δ5 F => ?_)
  refine ms_seq mB_83 mO_83 [(.istore_n 3, 1), (.aload_n 0, 1)] (pc' := 16) (L' := [.ref 31, .int r2, .int r4, .int r6, .null]) (st' := [.ref 31]) ⟨dX8_redoAccount_14, dX8_redoAccount_15, trivial⟩ rfl ?_
  refine ms_callvI mB_83 mO_83 (by omega) dX8_redoAccount_16 mQ_8_79 mC_8_79 mL_93 mO_93 rfl (Nat.le_of_ble_eq_true rfl) (Nat.le_of_ble_eq_true rfl) (gk_31 N) rfl F (fun r8 δ7 F => ?_)
  refine ms_seq mB_83 mO_83 [(.istore 4, 2), (.aload_n 0, 1)] (pc' := 22) (L' := [.ref 31, .int r2, .int r4, .int r6, .int r8]) (st' := [.ref 31]) ⟨dX8_redoAccount_19, dX8_redoAccount_21, trivial⟩ rfl ?_
  refine ms_callvI mB_83 mO_83 (by omega) dX8_redoAccount_22 mQ_8_82 mC_8_82 mL_92 mO_92 rfl (Nat.le_of_ble_eq_true rfl) (Nat.le_of_ble_eq_true rfl) (gk_31 N) rfl F (fun r10 δ9 F => ?_)
  refine ms_if_eq mB_83 dX8_redoAccount_25 (t := 41) rfl (fun c => ?_) (fun c => ?_)
  · have F := F.1 c
    refine ms_seq mB_83 mO_83 [(.iconst 0, 1)] (pc' := 42) (L' := [.ref 31, .int r2, .int r4, .int r6, .int r8]) (st' := [.int 0]) ⟨dX8_redoAccount_41, trivial⟩ rfl ?_
    exact ms_zret mB_83 dX8_redoAccount_42 mR_83 (by decide) ⟨_, rfl, rfl, F⟩
  · have F := F.2 c
    refine ms_seq mB_83 mO_83 [(.aload_n 0, 1)] (pc' := 29) (L' := [.ref 31, .int r2, .int r4, .int r6, .int r8]) (st' := [.ref 31]) ⟨dX8_redoAccount_28, trivial⟩ rfl ?_
    refine ms_getR mB_83 mO_83 dX8_redoAccount_29 mF_8_24 (gk_31 N) rfl (b := 3) (gr_31_1 N) ?_
    refine ms_seq mB_83 mO_83 [(.iload_n 1, 1), (.iload_n 2, 1), (.iload_n 3, 1)] (pc' := 35) (L' := [.ref 31, .int r2, .int r4, .int r6, .int r8]) (st' := [.int r6, .int r4, .int r2, .ref 3]) ⟨dX8_redoAccount_32, dX8_redoAccount_33, dX8_redoAccount_34, trivial⟩ rfl ?_
    refine ms_callvI mB_83 mO_83 (by omega) dX8_redoAccount_35 mQ_8_85 mC_8_85 mL_17 mO_17 rfl (Nat.le_of_ble_eq_true rfl) (Nat.le_of_ble_eq_true rfl) (gk_3 N) rfl F (fun r12 δ11 F => ?_)
    refine ms_if_eq mB_83 dX8_redoAccount_38 (t := 43) rfl (fun c => ?_) (fun c => ?_)
    · have F := F.1 c
      refine ms_seq mB_83 mO_83 [(.aload_n 0, 1)] (pc' := 44) (L' := [.ref 31, .int r2, .int r4, .int r6, .int r8]) (st' := [.ref 31]) ⟨dX8_redoAccount_43, trivial⟩ rfl ?_
      refine ms_getR mB_83 mO_83 dX8_redoAccount_44 mF_8_24 (gk_31 N) rfl (b := 3) (gr_31_1 N) ?_
      refine ms_getR mB_83 mO_83 dX8_redoAccount_47 mF_8_91 (gk_3 N) rfl (b := 4) (gr_3_0 N) ?_
      refine ms_seq mB_83 mO_83 [(.iload_n 1, 1), (.iload_n 2, 1), (.iload_n 3, 1), (.iload 4, 2)] (pc' := 55) (L' := [.ref 31, .int r2, .int r4, .int r6, .int r8]) (st' := [.int r8, .int r6, .int r4, .int r2, .ref 4]) ⟨dX8_redoAccount_50, dX8_redoAccount_51, dX8_redoAccount_52, dX8_redoAccount_53, trivial⟩ rfl ?_
      refine ms_callvI mB_83 mO_83 (by omega) dX8_redoAccount_55 mQ_8_95 mC_8_95 mL_8 mO_8 rfl (Nat.le_of_ble_eq_true rfl) (Nat.le_of_ble_eq_true rfl) (gk_4 N) rfl F (fun r14 δ13 F => ?_)
      refine ms_seq mB_83 mO_83 [(.pop, 1), (.iconst 1, 1)] (pc' := 60) (L' := [.ref 31, .int r2, .int r4, .int r6, .int r8]) (st' := [.int 1]) ⟨dX8_redoAccount_58, dX8_redoAccount_59, trivial⟩ rfl ?_
      exact ms_zret mB_83 dX8_redoAccount_60 mR_83 (by decide) ⟨_, rfl, rfl, F⟩
    · have F := F.2 c
      refine ms_seq mB_83 mO_83 [(.iconst 0, 1)] (pc' := 42) (L' := [.ref 31, .int r2, .int r4, .int r6, .int r8]) (st' := [.int 0]) ⟨dX8_redoAccount_41, trivial⟩ rfl ?_
      exact ms_zret mB_83 dX8_redoAccount_42 mR_83 (by decide) ⟨_, rfl, rfl, F⟩
set_option maxRecDepth 100000 in
theorem q8_redoShut_0 {N d : Nat} (hd : 5 ≤ d) {δ : mi_D} {Q : Int32 → mi_D → Prop} (F : (mi_wI N (d - 1) 94 0 [.ref 31, .null, .null] [] δ (fun r2 δ1 => (mi_wI N (d - 1) 93 0 [.ref 31, .null, .null] [] δ1 (fun r4 δ3 => (mi_wI N (d - 1) 92 0 [.ref 31] [] δ3 (fun r6 δ5 => ((r6 = 0 → Q 0 δ5) ∧ (¬ r6 = 0 → (mi_wI N (d - 1) 18 0 [.ref 3, .int r2, .int r4] [] δ5 (fun r8 δ7 => ((r8 = 0 → (mi_wV N (d - 1) 5 0 [.ref 4, .int r2, .int r4] [] δ7 (fun δ9 => Q 1 δ9))) ∧ (¬ r8 = 0 → Q 0 δ7))))))))))))) : mi_wI N d 84 0 [.ref 31, .null, .null] [] δ Q := by
  unfold mi_wI
  refine ms_seq mB_84 mO_84 [(.aload_n 0, 1)] (pc' := 1) (L' := [.ref 31, .null, .null]) (st' := [.ref 31]) ⟨dX8_redoShut_0, trivial⟩ rfl ?_
  refine ms_callvI mB_84 mO_84 (by omega) dX8_redoShut_1 mQ_8_75 mC_8_75 mL_94 mO_94 rfl (Nat.le_of_ble_eq_true rfl) (Nat.le_of_ble_eq_true rfl) (gk_31 N) rfl F (fun r2 δ1 F => ?_)
  refine ms_seq mB_84 mO_84 [(.istore_n 1, 1), (.aload_n 0, 1)] (pc' := 6) (L' := [.ref 31, .int r2, .null]) (st' := [.ref 31]) ⟨dX8_redoShut_4, dX8_redoShut_5, trivial⟩ rfl ?_
  refine ms_callvI mB_84 mO_84 (by omega) dX8_redoShut_6 mQ_8_79 mC_8_79 mL_93 mO_93 rfl (Nat.le_of_ble_eq_true rfl) (Nat.le_of_ble_eq_true rfl) (gk_31 N) rfl F (fun r4 δ3 F => ?_)
  refine ms_seq mB_84 mO_84 [(.istore_n 2, 1), (.aload_n 0, 1)] (pc' := 11) (L' := [.ref 31, .int r2, .int r4]) (st' := [.ref 31]) ⟨dX8_redoShut_9, dX8_redoShut_10, trivial⟩ rfl ?_
  refine ms_callvI mB_84 mO_84 (by omega) dX8_redoShut_11 mQ_8_82 mC_8_82 mL_92 mO_92 rfl (Nat.le_of_ble_eq_true rfl) (Nat.le_of_ble_eq_true rfl) (gk_31 N) rfl F (fun r6 δ5 F => ?_)
  refine ms_if_eq mB_84 dX8_redoShut_14 (t := 29) rfl (fun c => ?_) (fun c => ?_)
  · have F := F.1 c
    refine ms_seq mB_84 mO_84 [(.iconst 0, 1)] (pc' := 30) (L' := [.ref 31, .int r2, .int r4]) (st' := [.int 0]) ⟨dX8_redoShut_29, trivial⟩ rfl ?_
    exact ms_zret mB_84 dX8_redoShut_30 mR_84 (by decide) ⟨_, rfl, rfl, F⟩
  · have F := F.2 c
    refine ms_seq mB_84 mO_84 [(.aload_n 0, 1)] (pc' := 18) (L' := [.ref 31, .int r2, .int r4]) (st' := [.ref 31]) ⟨dX8_redoShut_17, trivial⟩ rfl ?_
    refine ms_getR mB_84 mO_84 dX8_redoShut_18 mF_8_24 (gk_31 N) rfl (b := 3) (gr_31_1 N) ?_
    refine ms_seq mB_84 mO_84 [(.iload_n 1, 1), (.iload_n 2, 1)] (pc' := 23) (L' := [.ref 31, .int r2, .int r4]) (st' := [.int r4, .int r2, .ref 3]) ⟨dX8_redoShut_21, dX8_redoShut_22, trivial⟩ rfl ?_
    refine ms_callvI mB_84 mO_84 (by omega) dX8_redoShut_23 mQ_8_101 mC_8_101 mL_18 mO_18 rfl (Nat.le_of_ble_eq_true rfl) (Nat.le_of_ble_eq_true rfl) (gk_3 N) rfl F (fun r8 δ7 F => ?_)
    refine ms_if_eq mB_84 dX8_redoShut_26 (t := 31) rfl (fun c => ?_) (fun c => ?_)
    · have F := F.1 c
      refine ms_seq mB_84 mO_84 [(.aload_n 0, 1)] (pc' := 32) (L' := [.ref 31, .int r2, .int r4]) (st' := [.ref 31]) ⟨dX8_redoShut_31, trivial⟩ rfl ?_
      refine ms_getR mB_84 mO_84 dX8_redoShut_32 mF_8_24 (gk_31 N) rfl (b := 3) (gr_31_1 N) ?_
      refine ms_getR mB_84 mO_84 dX8_redoShut_35 mF_8_91 (gk_3 N) rfl (b := 4) (gr_3_0 N) ?_
      refine ms_seq mB_84 mO_84 [(.iload_n 1, 1), (.iload_n 2, 1)] (pc' := 40) (L' := [.ref 31, .int r2, .int r4]) (st' := [.int r4, .int r2, .ref 4]) ⟨dX8_redoShut_38, dX8_redoShut_39, trivial⟩ rfl ?_
      refine ms_callvV mB_84 mO_84 (by omega) dX8_redoShut_40 mQ_8_105 mC_8_105 mL_5 mO_5 rfl (Nat.le_of_ble_eq_true rfl) (Nat.le_of_ble_eq_true rfl) (gk_4 N) rfl F (fun δ9 F => ?_)
      refine ms_seq mB_84 mO_84 [(.iconst 1, 1)] (pc' := 44) (L' := [.ref 31, .int r2, .int r4]) (st' := [.int 1]) ⟨dX8_redoShut_43, trivial⟩ rfl ?_
      exact ms_zret mB_84 dX8_redoShut_44 mR_84 (by decide) ⟨_, rfl, rfl, F⟩
    · have F := F.2 c
      refine ms_seq mB_84 mO_84 [(.iconst 0, 1)] (pc' := 30) (L' := [.ref 31, .int r2, .int r4]) (st' := [.int 0]) ⟨dX8_redoShut_29, trivial⟩ rfl ?_
      exact ms_zret mB_84 dX8_redoShut_30 mR_84 (by decide) ⟨_, rfl, rfl, F⟩
set_option maxRecDepth 100000 in
theorem q8_redoPeriod_0 {N d : Nat} (hd : 5 ≤ d) {δ : mi_D} {Q : Int32 → mi_D → Prop} (F : (mi_wI N (d - 1) 94 0 [.ref 31, .null, .null] [] δ (fun r2 δ1 => (mi_wI N (d - 1) 92 0 [.ref 31] [] δ1 (fun r4 δ3 => ((r4 = 0 → Q 0 δ3) ∧ (¬ r4 = 0 → (mi_wI N (d - 1) 19 0 [.ref 3, .int r2] [] δ3 (fun r6 δ5 => ((r6 = 0 → (mi_wI N (d - 1) 72 0 [.ref 14, .int r2, .null] [] δ5 (fun r8 δ7 => Q 1 δ7))) ∧ (¬ r6 = 0 → Q 0 δ5))))))))))) : mi_wI N d 85 0 [.ref 31, .null] [] δ Q := by
  unfold mi_wI
  refine ms_seq mB_85 mO_85 [(.aload_n 0, 1)] (pc' := 1) (L' := [.ref 31, .null]) (st' := [.ref 31]) ⟨dX8_redoPeriod_0, trivial⟩ rfl ?_
  refine ms_callvI mB_85 mO_85 (by omega) dX8_redoPeriod_1 mQ_8_75 mC_8_75 mL_94 mO_94 rfl (Nat.le_of_ble_eq_true rfl) (Nat.le_of_ble_eq_true rfl) (gk_31 N) rfl F (fun r2 δ1 F => ?_)
  refine ms_seq mB_85 mO_85 [(.istore_n 1, 1), (.aload_n 0, 1)] (pc' := 6) (L' := [.ref 31, .int r2]) (st' := [.ref 31]) ⟨dX8_redoPeriod_4, dX8_redoPeriod_5, trivial⟩ rfl ?_
  refine ms_callvI mB_85 mO_85 (by omega) dX8_redoPeriod_6 mQ_8_82 mC_8_82 mL_92 mO_92 rfl (Nat.le_of_ble_eq_true rfl) (Nat.le_of_ble_eq_true rfl) (gk_31 N) rfl F (fun r4 δ3 F => ?_)
  refine ms_if_eq mB_85 dX8_redoPeriod_9 (t := 23) rfl (fun c => ?_) (fun c => ?_)
  · have F := F.1 c
    refine ms_seq mB_85 mO_85 [(.iconst 0, 1)] (pc' := 24) (L' := [.ref 31, .int r2]) (st' := [.int 0]) ⟨dX8_redoPeriod_23, trivial⟩ rfl ?_
    exact ms_zret mB_85 dX8_redoPeriod_24 mR_85 (by decide) ⟨_, rfl, rfl, F⟩
  · have F := F.2 c
    refine ms_seq mB_85 mO_85 [(.aload_n 0, 1)] (pc' := 13) (L' := [.ref 31, .int r2]) (st' := [.ref 31]) ⟨dX8_redoPeriod_12, trivial⟩ rfl ?_
    refine ms_getR mB_85 mO_85 dX8_redoPeriod_13 mF_8_24 (gk_31 N) rfl (b := 3) (gr_31_1 N) ?_
    refine ms_seq mB_85 mO_85 [(.iload_n 1, 1)] (pc' := 17) (L' := [.ref 31, .int r2]) (st' := [.int r2, .ref 3]) ⟨dX8_redoPeriod_16, trivial⟩ rfl ?_
    refine ms_callvI mB_85 mO_85 (by omega) dX8_redoPeriod_17 mQ_8_109 mC_8_109 mL_19 mO_19 rfl (Nat.le_of_ble_eq_true rfl) (Nat.le_of_ble_eq_true rfl) (gk_3 N) rfl F (fun r6 δ5 F => ?_)
    refine ms_if_eq mB_85 dX8_redoPeriod_20 (t := 25) rfl (fun c => ?_) (fun c => ?_)
    · have F := F.1 c
      refine ms_seq mB_85 mO_85 [(.aload_n 0, 1)] (pc' := 26) (L' := [.ref 31, .int r2]) (st' := [.ref 31]) ⟨dX8_redoPeriod_25, trivial⟩ rfl ?_
      refine ms_getR mB_85 mO_85 dX8_redoPeriod_26 mF_8_24 (gk_31 N) rfl (b := 3) (gr_31_1 N) ?_
      refine ms_getR mB_85 mO_85 dX8_redoPeriod_29 mF_8_112 (gk_3 N) rfl (b := 14) (gr_3_1 N) ?_
      refine ms_seq mB_85 mO_85 [(.iload_n 1, 1)] (pc' := 33) (L' := [.ref 31, .int r2]) (st' := [.int r2, .ref 14]) ⟨dX8_redoPeriod_32, trivial⟩ rfl ?_
      refine ms_callvI mB_85 mO_85 (by omega) dX8_redoPeriod_33 mQ_8_116 mC_8_116 mL_72 mO_72 rfl (Nat.le_of_ble_eq_true rfl) (Nat.le_of_ble_eq_true rfl) (gk_14 N) rfl F (fun r8 δ7 F => ?_)
      refine ms_seq mB_85 mO_85 [(.pop, 1), (.iconst 1, 1)] (pc' := 38) (L' := [.ref 31, .int r2]) (st' := [.int 1]) ⟨dX8_redoPeriod_36, dX8_redoPeriod_37, trivial⟩ rfl ?_
      exact ms_zret mB_85 dX8_redoPeriod_38 mR_85 (by decide) ⟨_, rfl, rfl, F⟩
    · have F := F.2 c
      refine ms_seq mB_85 mO_85 [(.iconst 0, 1)] (pc' := 24) (L' := [.ref 31, .int r2]) (st' := [.int 0]) ⟨dX8_redoPeriod_23, trivial⟩ rfl ?_
      exact ms_zret mB_85 dX8_redoPeriod_24 mR_85 (by decide) ⟨_, rfl, rfl, F⟩
set_option maxRecDepth 100000 in
theorem q8_redoOwner_0 {N d : Nat} (hd : 5 ≤ d) {δ : mi_D} {Q : Int32 → mi_D → Prop} (F : (mi_wI N (d - 1) 94 0 [.ref 31, .null, .null] [] δ (fun r2 δ1 => (mi_wI N (d - 1) 92 0 [.ref 31] [] δ1 (fun r4 δ3 => ((r4 = 0 → Q 0 δ3) ∧ (¬ r4 = 0 → (mi_wI N (d - 1) 20 0 [.ref 3, .int r2] [] δ3 (fun r6 δ5 => ((r6 = 0 → (mi_wI N (d - 1) 21 0 [.ref 3, .int r2, .null] [] δ5 (fun r8 δ7 => Q 1 δ7))) ∧ (¬ r6 = 0 → Q 0 δ5))))))))))) : mi_wI N d 86 0 [.ref 31, .null] [] δ Q := by
  unfold mi_wI
  refine ms_seq mB_86 mO_86 [(.aload_n 0, 1)] (pc' := 1) (L' := [.ref 31, .null]) (st' := [.ref 31]) ⟨dX8_redoOwner_0, trivial⟩ rfl ?_
  refine ms_callvI mB_86 mO_86 (by omega) dX8_redoOwner_1 mQ_8_75 mC_8_75 mL_94 mO_94 rfl (Nat.le_of_ble_eq_true rfl) (Nat.le_of_ble_eq_true rfl) (gk_31 N) rfl F (fun r2 δ1 F => ?_)
  refine ms_seq mB_86 mO_86 [(.istore_n 1, 1), (.aload_n 0, 1)] (pc' := 6) (L' := [.ref 31, .int r2]) (st' := [.ref 31]) ⟨dX8_redoOwner_4, dX8_redoOwner_5, trivial⟩ rfl ?_
  refine ms_callvI mB_86 mO_86 (by omega) dX8_redoOwner_6 mQ_8_82 mC_8_82 mL_92 mO_92 rfl (Nat.le_of_ble_eq_true rfl) (Nat.le_of_ble_eq_true rfl) (gk_31 N) rfl F (fun r4 δ3 F => ?_)
  refine ms_if_eq mB_86 dX8_redoOwner_9 (t := 23) rfl (fun c => ?_) (fun c => ?_)
  · have F := F.1 c
    refine ms_seq mB_86 mO_86 [(.iconst 0, 1)] (pc' := 24) (L' := [.ref 31, .int r2]) (st' := [.int 0]) ⟨dX8_redoOwner_23, trivial⟩ rfl ?_
    exact ms_zret mB_86 dX8_redoOwner_24 mR_86 (by decide) ⟨_, rfl, rfl, F⟩
  · have F := F.2 c
    refine ms_seq mB_86 mO_86 [(.aload_n 0, 1)] (pc' := 13) (L' := [.ref 31, .int r2]) (st' := [.ref 31]) ⟨dX8_redoOwner_12, trivial⟩ rfl ?_
    refine ms_getR mB_86 mO_86 dX8_redoOwner_13 mF_8_24 (gk_31 N) rfl (b := 3) (gr_31_1 N) ?_
    refine ms_seq mB_86 mO_86 [(.iload_n 1, 1)] (pc' := 17) (L' := [.ref 31, .int r2]) (st' := [.int r2, .ref 3]) ⟨dX8_redoOwner_16, trivial⟩ rfl ?_
    refine ms_callvI mB_86 mO_86 (by omega) dX8_redoOwner_17 mQ_8_120 mC_8_120 mL_20 mO_20 rfl (Nat.le_of_ble_eq_true rfl) (Nat.le_of_ble_eq_true rfl) (gk_3 N) rfl F (fun r6 δ5 F => ?_)
    refine ms_if_eq mB_86 dX8_redoOwner_20 (t := 25) rfl (fun c => ?_) (fun c => ?_)
    · have F := F.1 c
      refine ms_seq mB_86 mO_86 [(.aload_n 0, 1)] (pc' := 26) (L' := [.ref 31, .int r2]) (st' := [.ref 31]) ⟨dX8_redoOwner_25, trivial⟩ rfl ?_
      refine ms_getR mB_86 mO_86 dX8_redoOwner_26 mF_8_24 (gk_31 N) rfl (b := 3) (gr_31_1 N) ?_
      refine ms_seq mB_86 mO_86 [(.iload_n 1, 1)] (pc' := 30) (L' := [.ref 31, .int r2]) (st' := [.int r2, .ref 3]) ⟨dX8_redoOwner_29, trivial⟩ rfl ?_
      refine ms_callvI mB_86 mO_86 (by omega) dX8_redoOwner_30 mQ_8_123 mC_8_123 mL_21 mO_21 rfl (Nat.le_of_ble_eq_true rfl) (Nat.le_of_ble_eq_true rfl) (gk_3 N) rfl F (fun r8 δ7 F => ?_)
      refine ms_seq mB_86 mO_86 [(.pop, 1), (.iconst 1, 1)] (pc' := 35) (L' := [.ref 31, .int r2]) (st' := [.int 1]) ⟨dX8_redoOwner_33, dX8_redoOwner_34, trivial⟩ rfl ?_
      exact ms_zret mB_86 dX8_redoOwner_35 mR_86 (by decide) ⟨_, rfl, rfl, F⟩
    · have F := F.2 c
      refine ms_seq mB_86 mO_86 [(.iconst 0, 1)] (pc' := 24) (L' := [.ref 31, .int r2]) (st' := [.int 0]) ⟨dX8_redoOwner_23, trivial⟩ rfl ?_
      exact ms_zret mB_86 dX8_redoOwner_24 mR_86 (by decide) ⟨_, rfl, rfl, F⟩
set_option maxRecDepth 100000 in
theorem q8_redoPost_0 {N d : Nat} (hd : 5 ≤ d) {δ : mi_D} {Q : Int32 → mi_D → Prop} (F : (mi_wI N (d - 1) 94 0 [.ref 31, .null, .null] [] δ (fun r2 δ1 => (mi_wI N (d - 1) 94 0 [.ref 31, .null, .null] [] δ1 (fun r4 δ3 => (mi_wI N (d - 1) 88 0 [.ref 31, .null, .null, .null, .null, .null] [] δ3 (fun r6 δ5 => ((r6 = 0 → Q 0 δ5) ∧ (¬ r6 = 0 → (mi_wI N (d - 1) 92 0 [.ref 31] [] δ5 (fun r8 δ7 => ((r8 = 0 → Q 0 δ7) ∧ (¬ r8 = 0 → (mi_wI N (d - 1) 23 0 [.ref 3, .ref 32, .int r2, .null] [] δ7 (fun r10 δ9 => ((r10 = 0 → (mi_wI N (d - 1) 27 0 [.ref 3, .ref 32, .int r2, .int r4, .int 0, .int (-1), .null] [] δ9 (fun r12 δ11 => Q 1 δ11))) ∧ (¬ r10 = 0 → Q 0 δ9))))))))))))))))) : mi_wI N d 87 0 [.ref 31, .null, .null] [] δ Q := by
  unfold mi_wI
  refine ms_seq mB_87 mO_87 [(.aload_n 0, 1)] (pc' := 1) (L' := [.ref 31, .null, .null]) (st' := [.ref 31]) ⟨dX8_redoPost_0, trivial⟩ rfl ?_
  refine ms_callvI mB_87 mO_87 (by omega) dX8_redoPost_1 mQ_8_75 mC_8_75 mL_94 mO_94 rfl (Nat.le_of_ble_eq_true rfl) (Nat.le_of_ble_eq_true rfl) (gk_31 N) rfl F (fun r2 δ1 F => ?_)
  refine ms_seq mB_87 mO_87 [(.istore_n 1, 1), (.aload_n 0, 1)] (pc' := 6) (L' := [.ref 31, .int r2, .null]) (st' := [.ref 31]) ⟨dX8_redoPost_4, dX8_redoPost_5, trivial⟩ rfl ?_
  refine ms_callvI mB_87 mO_87 (by omega) dX8_redoPost_6 mQ_8_75 mC_8_75 mL_94 mO_94 rfl (Nat.le_of_ble_eq_true rfl) (Nat.le_of_ble_eq_true rfl) (gk_31 N) rfl F (fun r4 δ3 F => ?_)
  refine ms_seq mB_87 mO_87 [(.istore_n 2, 1), (.aload_n 0, 1)] (pc' := 11) (L' := [.ref 31, .int r2, .int r4]) (st' := [.ref 31]) ⟨dX8_redoPost_9, dX8_redoPost_10, trivial⟩ rfl ?_
  refine ms_callvI mB_87 mO_87 (by omega) dX8_redoPost_11 mQ_8_126 mC_8_126 mL_88 mO_88 rfl (Nat.le_of_ble_eq_true rfl) (Nat.le_of_ble_eq_true rfl) (gk_31 N) rfl F (fun r6 δ5 F => ?_)
  refine ms_if_eq mB_87 dX8_redoPost_14 (t := 39) rfl (fun c => ?_) (fun c => ?_)
  · have F := F.1 c
    refine ms_seq mB_87 mO_87 [(.iconst 0, 1)] (pc' := 40) (L' := [.ref 31, .int r2, .int r4]) (st' := [.int 0]) ⟨dX8_redoPost_39, trivial⟩ rfl ?_
    exact ms_zret mB_87 dX8_redoPost_40 mR_87 (by decide) ⟨_, rfl, rfl, F⟩
  · have F := F.2 c
    refine ms_seq mB_87 mO_87 [(.aload_n 0, 1)] (pc' := 18) (L' := [.ref 31, .int r2, .int r4]) (st' := [.ref 31]) ⟨dX8_redoPost_17, trivial⟩ rfl ?_
    refine ms_callvI mB_87 mO_87 (by omega) dX8_redoPost_18 mQ_8_82 mC_8_82 mL_92 mO_92 rfl (Nat.le_of_ble_eq_true rfl) (Nat.le_of_ble_eq_true rfl) (gk_31 N) rfl F (fun r8 δ7 F => ?_)
    refine ms_if_eq mB_87 dX8_redoPost_21 (t := 39) rfl (fun c => ?_) (fun c => ?_)
    · have F := F.1 c
      refine ms_seq mB_87 mO_87 [(.iconst 0, 1)] (pc' := 40) (L' := [.ref 31, .int r2, .int r4]) (st' := [.int 0]) ⟨dX8_redoPost_39, trivial⟩ rfl ?_
      exact ms_zret mB_87 dX8_redoPost_40 mR_87 (by decide) ⟨_, rfl, rfl, F⟩
    · have F := F.2 c
      refine ms_seq mB_87 mO_87 [(.aload_n 0, 1)] (pc' := 25) (L' := [.ref 31, .int r2, .int r4]) (st' := [.ref 31]) ⟨dX8_redoPost_24, trivial⟩ rfl ?_
      refine ms_getR mB_87 mO_87 dX8_redoPost_25 mF_8_24 (gk_31 N) rfl (b := 3) (gr_31_1 N) ?_
      refine ms_seq mB_87 mO_87 [(.aload_n 0, 1)] (pc' := 29) (L' := [.ref 31, .int r2, .int r4]) (st' := [.ref 31, .ref 3]) ⟨dX8_redoPost_28, trivial⟩ rfl ?_
      refine ms_getR mB_87 mO_87 dX8_redoPost_29 mF_8_14 (gk_31 N) rfl (b := 32) (gr_31_2 N) ?_
      refine ms_seq mB_87 mO_87 [(.iload_n 1, 1)] (pc' := 33) (L' := [.ref 31, .int r2, .int r4]) (st' := [.int r2, .ref 32, .ref 3]) ⟨dX8_redoPost_32, trivial⟩ rfl ?_
      refine ms_callvI mB_87 mO_87 (by omega) dX8_redoPost_33 mQ_8_129 mC_8_129 mL_23 mO_23 rfl (Nat.le_of_ble_eq_true rfl) (Nat.le_of_ble_eq_true rfl) (gk_3 N) rfl F (fun r10 δ9 F => ?_)
      refine ms_if_eq mB_87 dX8_redoPost_36 (t := 41) rfl (fun c => ?_) (fun c => ?_)
      · have F := F.1 c
        refine ms_seq mB_87 mO_87 [(.aload_n 0, 1)] (pc' := 42) (L' := [.ref 31, .int r2, .int r4]) (st' := [.ref 31]) ⟨dX8_redoPost_41, trivial⟩ rfl ?_
        refine ms_getR mB_87 mO_87 dX8_redoPost_42 mF_8_24 (gk_31 N) rfl (b := 3) (gr_31_1 N) ?_
        refine ms_seq mB_87 mO_87 [(.aload_n 0, 1)] (pc' := 46) (L' := [.ref 31, .int r2, .int r4]) (st' := [.ref 31, .ref 3]) ⟨dX8_redoPost_45, trivial⟩ rfl ?_
        refine ms_getR mB_87 mO_87 dX8_redoPost_46 mF_8_14 (gk_31 N) rfl (b := 32) (gr_31_2 N) ?_
        refine ms_seq mB_87 mO_87 [(.iload_n 1, 1), (.iload_n 2, 1), (.iconst 0, 1), (.iconst (-1), 1)] (pc' := 53) (L' := [.ref 31, .int r2, .int r4]) (st' := [.int (-1), .int 0, .int r4, .int r2, .ref 32, .ref 3]) ⟨dX8_redoPost_49, dX8_redoPost_50, dX8_redoPost_51, dX8_redoPost_52, trivial⟩ rfl ?_
        refine ms_callvI mB_87 mO_87 (by omega) dX8_redoPost_53 mQ_8_133 mC_8_133 mL_27 mO_27 rfl (Nat.le_of_ble_eq_true rfl) (Nat.le_of_ble_eq_true rfl) (gk_3 N) rfl F (fun r12 δ11 F => ?_)
        refine ms_seq mB_87 mO_87 [(.pop, 1), (.iconst 1, 1)] (pc' := 58) (L' := [.ref 31, .int r2, .int r4]) (st' := [.int 1]) ⟨dX8_redoPost_56, dX8_redoPost_57, trivial⟩ rfl ?_
        exact ms_zret mB_87 dX8_redoPost_58 mR_87 (by decide) ⟨_, rfl, rfl, F⟩
      · have F := F.2 c
        refine ms_seq mB_87 mO_87 [(.iconst 0, 1)] (pc' := 40) (L' := [.ref 31, .int r2, .int r4]) (st' := [.int 0]) ⟨dX8_redoPost_39, trivial⟩ rfl ?_
        exact ms_zret mB_87 dX8_redoPost_40 mR_87 (by decide) ⟨_, rfl, rfl, F⟩
set_option maxRecDepth 100000 in
theorem q8_readLines_0 {N d : Nat} (hd : 5 ≤ d) {δ : mi_D} {Q : Int32 → mi_D → Prop} (F : (mi_wI N (d - 1) 94 0 [.ref 31, .null, .null] [] δ (fun r2 δ1 => (mi_wV N (d - 1) 62 0 [.ref 32] [] δ1 (fun δ3 => ((r2 < 0 → Q 0 δ3) ∧ (¬ r2 < 0 → ((8 < r2 → Q 0 δ3) ∧ (¬ 8 < r2 → mi_wI N d 88 26 [.ref 31, .int r2, .int 0, .null, .null, .null] [] δ3 Q))))))))) : mi_wI N d 88 0 [.ref 31, .null, .null, .null, .null, .null] [] δ Q := by
  unfold mi_wI
  refine ms_seq mB_88 mO_88 [(.aload_n 0, 1)] (pc' := 1) (L' := [.ref 31, .null, .null, .null, .null, .null]) (st' := [.ref 31]) ⟨dX8_readLines_0, trivial⟩ rfl ?_
  refine ms_callvI mB_88 mO_88 (by omega) dX8_readLines_1 mQ_8_75 mC_8_75 mL_94 mO_94 rfl (Nat.le_of_ble_eq_true rfl) (Nat.le_of_ble_eq_true rfl) (gk_31 N) rfl F (fun r2 δ1 F => ?_)
  refine ms_seq mB_88 mO_88 [(.istore_n 1, 1), (.aload_n 0, 1)] (pc' := 6) (L' := [.ref 31, .int r2, .null, .null, .null, .null]) (st' := [.ref 31]) ⟨dX8_readLines_4, dX8_readLines_5, trivial⟩ rfl ?_
  refine ms_getR mB_88 mO_88 dX8_readLines_6 mF_8_14 (gk_31 N) rfl (b := 32) (gr_31_2 N) ?_
  refine ms_callvV mB_88 mO_88 (by omega) dX8_readLines_9 mQ_8_137 mC_8_137 mL_62 mO_62 rfl (Nat.le_of_ble_eq_true rfl) (Nat.le_of_ble_eq_true rfl) (gk_32 N) rfl F (fun δ3 F => ?_)
  refine ms_seq mB_88 mO_88 [(.iload_n 1, 1)] (pc' := 13) (L' := [.ref 31, .int r2, .null, .null, .null, .null]) (st' := [.int r2]) ⟨dX8_readLines_12, trivial⟩ rfl ?_
  refine ms_if_lt mB_88 dX8_readLines_13 (t := 22) rfl (fun c => ?_) (fun c => ?_)
  · have F := F.1 c
    refine ms_seq mB_88 mO_88 [(.iconst 0, 1)] (pc' := 23) (L' := [.ref 31, .int r2, .null, .null, .null, .null]) (st' := [.int 0]) ⟨dX8_readLines_22, trivial⟩ rfl ?_
    exact ms_zret mB_88 dX8_readLines_23 mR_88 (by decide) ⟨_, rfl, rfl, F⟩
  · have F := F.2 c
    refine ms_seq mB_88 mO_88 [(.iload_n 1, 1), (.bipush 8, 2)] (pc' := 19) (L' := [.ref 31, .int r2, .null, .null, .null, .null]) (st' := [.int 8, .int r2]) ⟨dX8_readLines_16, dX8_readLines_17, trivial⟩ rfl ?_
    refine ms_icmp_le mB_88 dX8_readLines_19 (t := 24) rfl (fun c => ?_) (fun c => ?_)
    · have F := F.2 c
      refine ms_seq mB_88 mO_88 [(.iconst 0, 1), (.istore_n 2, 1)] (pc' := 26) (L' := [.ref 31, .int r2, .int 0, .null, .null, .null]) (st' := []) ⟨dX8_readLines_24, dX8_readLines_25, trivial⟩ rfl ?_
      exact F
    · have F := F.1 c
      refine ms_seq mB_88 mO_88 [(.iconst 0, 1)] (pc' := 23) (L' := [.ref 31, .int r2, .null, .null, .null, .null]) (st' := [.int 0]) ⟨dX8_readLines_22, trivial⟩ rfl ?_
      exact ms_zret mB_88 dX8_readLines_23 mR_88 (by decide) ⟨_, rfl, rfl, F⟩
set_option maxRecDepth 100000 in
theorem q8_readLines_26 {N d : Nat} (hd : 5 ≤ d) {l1 l2 : Int32} {δ : mi_D} {Q : Int32 → mi_D → Prop} (F : ((l2 < l1 → (mi_wI N (d - 1) 94 0 [.ref 31, .null, .null] [] δ (fun r2 δ1 => (mi_wL N (d - 1) 95 0 [.ref 31, .null, .null, .null, .null] [] δ1 (fun r4 δ3 => (((δ3.1 31 5) = 0 → (mi_wI N (d - 1) 22 0 [.ref 3, .int r2, .long r4, .null] [] δ3 (fun r6 δ5 => ((r6 = 0 → (mi_wV N (d - 1) 63 0 [.ref 32, .int r2, .long r4, .null] [] δ5 (fun δ7 => mi_wI N d 88 26 [.ref 31, .int l1, .int (l2 + 1), .int r2, .long r4, .null] [] δ7 Q))) ∧ (¬ r6 = 0 → Q 0 δ5))))) ∧ (¬ (δ3.1 31 5) = 0 → Q 0 δ3))))))) ∧ (¬ l2 < l1 → Q 1 δ))) : mi_wI N d 88 26 [.ref 31, .int l1, .int l2, .null, .null, .null] [] δ Q := by
  unfold mi_wI
  refine ms_seq mB_88 mO_88 [(.iload_n 2, 1), (.iload_n 1, 1)] (pc' := 28) (L' := [.ref 31, .int l1, .int l2, .null, .null, .null]) (st' := [.int l1, .int l2]) ⟨dX8_readLines_26, dX8_readLines_27, trivial⟩ rfl ?_
  refine ms_icmp_ge mB_88 dX8_readLines_28 (t := 80) rfl (fun c => ?_) (fun c => ?_)
  · have F := F.2 c
    refine ms_seq mB_88 mO_88 [(.iconst 1, 1)] (pc' := 81) (L' := [.ref 31, .int l1, .int l2, .null, .null, .null]) (st' := [.int 1]) ⟨dX8_readLines_80, trivial⟩ rfl ?_
    exact ms_zret mB_88 dX8_readLines_81 mR_88 (by decide) ⟨_, rfl, rfl, F⟩
  · have F := F.1 c
    refine ms_seq mB_88 mO_88 [(.aload_n 0, 1)] (pc' := 32) (L' := [.ref 31, .int l1, .int l2, .null, .null, .null]) (st' := [.ref 31]) ⟨dX8_readLines_31, trivial⟩ rfl ?_
    refine ms_callvI mB_88 mO_88 (by omega) dX8_readLines_32 mQ_8_75 mC_8_75 mL_94 mO_94 rfl (Nat.le_of_ble_eq_true rfl) (Nat.le_of_ble_eq_true rfl) (gk_31 N) rfl F (fun r2 δ1 F => ?_)
    refine ms_seq mB_88 mO_88 [(.istore_n 3, 1), (.aload_n 0, 1)] (pc' := 37) (L' := [.ref 31, .int l1, .int l2, .int r2, .null, .null]) (st' := [.ref 31]) ⟨dX8_readLines_35, dX8_readLines_36, trivial⟩ rfl ?_
    refine ms_callvL mB_88 mO_88 (by omega) dX8_readLines_37 mQ_8_140 mC_8_140 mL_95 mO_95 rfl (Nat.le_of_ble_eq_true rfl) (Nat.le_of_ble_eq_true rfl) (gk_31 N) rfl F (fun r4 δ3 F => ?_)
    refine ms_seq mB_88 mO_88 [(.lstore 4, 2), (.aload_n 0, 1)] (pc' := 43) (L' := [.ref 31, .int l1, .int l2, .int r2, .long r4, .null]) (st' := [.ref 31]) ⟨dX8_readLines_40, dX8_readLines_42, trivial⟩ rfl ?_
    refine ms_getI mB_88 mO_88 dX8_readLines_43 mF_8_35 (gk_31 N) (Or.inr rfl) ?_
    refine ms_if_ne mB_88 dX8_readLines_46 (t := 62) rfl (fun c => ?_) (fun c => ?_)
    · have F := F.2 c
      refine ms_seq mB_88 mO_88 [(.iconst 0, 1)] (pc' := 63) (L' := [.ref 31, .int l1, .int l2, .int r2, .long r4, .null]) (st' := [.int 0]) ⟨dX8_readLines_62, trivial⟩ rfl ?_
      exact ms_zret mB_88 dX8_readLines_63 mR_88 (by decide) ⟨_, rfl, rfl, F⟩
    · have F := F.1 c
      refine ms_seq mB_88 mO_88 [(.aload_n 0, 1)] (pc' := 50) (L' := [.ref 31, .int l1, .int l2, .int r2, .long r4, .null]) (st' := [.ref 31]) ⟨dX8_readLines_49, trivial⟩ rfl ?_
      refine ms_getR mB_88 mO_88 dX8_readLines_50 mF_8_24 (gk_31 N) rfl (b := 3) (gr_31_1 N) ?_
      refine ms_seq mB_88 mO_88 [(.iload_n 3, 1), (.lload 4, 2)] (pc' := 56) (L' := [.ref 31, .int l1, .int l2, .int r2, .long r4, .null]) (st' := [.long r4, .int r2, .ref 3]) ⟨dX8_readLines_53, dX8_readLines_54, trivial⟩ rfl ?_
      refine ms_callvI mB_88 mO_88 (by omega) dX8_readLines_56 mQ_8_144 mC_8_144 mL_22 mO_22 rfl (Nat.le_of_ble_eq_true rfl) (Nat.le_of_ble_eq_true rfl) (gk_3 N) rfl F (fun r6 δ5 F => ?_)
      refine ms_if_eq mB_88 dX8_readLines_59 (t := 64) rfl (fun c => ?_) (fun c => ?_)
      · have F := F.1 c
        refine ms_seq mB_88 mO_88 [(.aload_n 0, 1)] (pc' := 65) (L' := [.ref 31, .int l1, .int l2, .int r2, .long r4, .null]) (st' := [.ref 31]) ⟨dX8_readLines_64, trivial⟩ rfl ?_
        refine ms_getR mB_88 mO_88 dX8_readLines_65 mF_8_14 (gk_31 N) rfl (b := 32) (gr_31_2 N) ?_
        refine ms_seq mB_88 mO_88 [(.iload_n 3, 1), (.lload 4, 2)] (pc' := 71) (L' := [.ref 31, .int l1, .int l2, .int r2, .long r4, .null]) (st' := [.long r4, .int r2, .ref 32]) ⟨dX8_readLines_68, dX8_readLines_69, trivial⟩ rfl ?_
        refine ms_callvV mB_88 mO_88 (by omega) dX8_readLines_71 mQ_8_148 mC_8_148 mL_63 mO_63 rfl (Nat.le_of_ble_eq_true rfl) (Nat.le_of_ble_eq_true rfl) (gk_32 N) rfl F (fun δ7 F => ?_)
        refine ms_seq mB_88 mO_88 [(.iinc 2 1, 3)] (pc' := 77) (L' := [.ref 31, .int l1, .int (l2 + 1), .int r2, .long r4, .null]) (st' := []) ⟨dX8_readLines_74, trivial⟩ rfl ?_
        refine ms_goto mB_88 dX8_readLines_77 (t := 26) rfl ?_
        exact F
      · have F := F.2 c
        refine ms_seq mB_88 mO_88 [(.iconst 0, 1)] (pc' := 63) (L' := [.ref 31, .int l1, .int l2, .int r2, .long r4, .null]) (st' := [.int 0]) ⟨dX8_readLines_62, trivial⟩ rfl ?_
        exact ms_zret mB_88 dX8_readLines_63 mR_88 (by decide) ⟨_, rfl, rfl, F⟩
set_option maxRecDepth 100000 in
theorem q8_readLines_26a {N d : Nat} (hd : 5 ≤ d) {l1 l2 l3 : Int32} {l4 : Int64} {δ : mi_D} {Q : Int32 → mi_D → Prop} (F : ((l2 < l1 → (mi_wI N (d - 1) 94 0 [.ref 31, .null, .null] [] δ (fun r2 δ1 => (mi_wL N (d - 1) 95 0 [.ref 31, .null, .null, .null, .null] [] δ1 (fun r4 δ3 => (((δ3.1 31 5) = 0 → (mi_wI N (d - 1) 22 0 [.ref 3, .int r2, .long r4, .null] [] δ3 (fun r6 δ5 => ((r6 = 0 → (mi_wV N (d - 1) 63 0 [.ref 32, .int r2, .long r4, .null] [] δ5 (fun δ7 => mi_wI N d 88 26 [.ref 31, .int l1, .int (l2 + 1), .int r2, .long r4, .null] [] δ7 Q))) ∧ (¬ r6 = 0 → Q 0 δ5))))) ∧ (¬ (δ3.1 31 5) = 0 → Q 0 δ3))))))) ∧ (¬ l2 < l1 → Q 1 δ))) : mi_wI N d 88 26 [.ref 31, .int l1, .int l2, .int l3, .long l4, .null] [] δ Q := by
  unfold mi_wI
  refine ms_seq mB_88 mO_88 [(.iload_n 2, 1), (.iload_n 1, 1)] (pc' := 28) (L' := [.ref 31, .int l1, .int l2, .int l3, .long l4, .null]) (st' := [.int l1, .int l2]) ⟨dX8_readLines_26, dX8_readLines_27, trivial⟩ rfl ?_
  refine ms_icmp_ge mB_88 dX8_readLines_28 (t := 80) rfl (fun c => ?_) (fun c => ?_)
  · have F := F.2 c
    refine ms_seq mB_88 mO_88 [(.iconst 1, 1)] (pc' := 81) (L' := [.ref 31, .int l1, .int l2, .int l3, .long l4, .null]) (st' := [.int 1]) ⟨dX8_readLines_80, trivial⟩ rfl ?_
    exact ms_zret mB_88 dX8_readLines_81 mR_88 (by decide) ⟨_, rfl, rfl, F⟩
  · have F := F.1 c
    refine ms_seq mB_88 mO_88 [(.aload_n 0, 1)] (pc' := 32) (L' := [.ref 31, .int l1, .int l2, .int l3, .long l4, .null]) (st' := [.ref 31]) ⟨dX8_readLines_31, trivial⟩ rfl ?_
    refine ms_callvI mB_88 mO_88 (by omega) dX8_readLines_32 mQ_8_75 mC_8_75 mL_94 mO_94 rfl (Nat.le_of_ble_eq_true rfl) (Nat.le_of_ble_eq_true rfl) (gk_31 N) rfl F (fun r2 δ1 F => ?_)
    refine ms_seq mB_88 mO_88 [(.istore_n 3, 1), (.aload_n 0, 1)] (pc' := 37) (L' := [.ref 31, .int l1, .int l2, .int r2, .long l4, .null]) (st' := [.ref 31]) ⟨dX8_readLines_35, dX8_readLines_36, trivial⟩ rfl ?_
    refine ms_callvL mB_88 mO_88 (by omega) dX8_readLines_37 mQ_8_140 mC_8_140 mL_95 mO_95 rfl (Nat.le_of_ble_eq_true rfl) (Nat.le_of_ble_eq_true rfl) (gk_31 N) rfl F (fun r4 δ3 F => ?_)
    refine ms_seq mB_88 mO_88 [(.lstore 4, 2), (.aload_n 0, 1)] (pc' := 43) (L' := [.ref 31, .int l1, .int l2, .int r2, .long r4, .null]) (st' := [.ref 31]) ⟨dX8_readLines_40, dX8_readLines_42, trivial⟩ rfl ?_
    refine ms_getI mB_88 mO_88 dX8_readLines_43 mF_8_35 (gk_31 N) (Or.inr rfl) ?_
    refine ms_if_ne mB_88 dX8_readLines_46 (t := 62) rfl (fun c => ?_) (fun c => ?_)
    · have F := F.2 c
      refine ms_seq mB_88 mO_88 [(.iconst 0, 1)] (pc' := 63) (L' := [.ref 31, .int l1, .int l2, .int r2, .long r4, .null]) (st' := [.int 0]) ⟨dX8_readLines_62, trivial⟩ rfl ?_
      exact ms_zret mB_88 dX8_readLines_63 mR_88 (by decide) ⟨_, rfl, rfl, F⟩
    · have F := F.1 c
      refine ms_seq mB_88 mO_88 [(.aload_n 0, 1)] (pc' := 50) (L' := [.ref 31, .int l1, .int l2, .int r2, .long r4, .null]) (st' := [.ref 31]) ⟨dX8_readLines_49, trivial⟩ rfl ?_
      refine ms_getR mB_88 mO_88 dX8_readLines_50 mF_8_24 (gk_31 N) rfl (b := 3) (gr_31_1 N) ?_
      refine ms_seq mB_88 mO_88 [(.iload_n 3, 1), (.lload 4, 2)] (pc' := 56) (L' := [.ref 31, .int l1, .int l2, .int r2, .long r4, .null]) (st' := [.long r4, .int r2, .ref 3]) ⟨dX8_readLines_53, dX8_readLines_54, trivial⟩ rfl ?_
      refine ms_callvI mB_88 mO_88 (by omega) dX8_readLines_56 mQ_8_144 mC_8_144 mL_22 mO_22 rfl (Nat.le_of_ble_eq_true rfl) (Nat.le_of_ble_eq_true rfl) (gk_3 N) rfl F (fun r6 δ5 F => ?_)
      refine ms_if_eq mB_88 dX8_readLines_59 (t := 64) rfl (fun c => ?_) (fun c => ?_)
      · have F := F.1 c
        refine ms_seq mB_88 mO_88 [(.aload_n 0, 1)] (pc' := 65) (L' := [.ref 31, .int l1, .int l2, .int r2, .long r4, .null]) (st' := [.ref 31]) ⟨dX8_readLines_64, trivial⟩ rfl ?_
        refine ms_getR mB_88 mO_88 dX8_readLines_65 mF_8_14 (gk_31 N) rfl (b := 32) (gr_31_2 N) ?_
        refine ms_seq mB_88 mO_88 [(.iload_n 3, 1), (.lload 4, 2)] (pc' := 71) (L' := [.ref 31, .int l1, .int l2, .int r2, .long r4, .null]) (st' := [.long r4, .int r2, .ref 32]) ⟨dX8_readLines_68, dX8_readLines_69, trivial⟩ rfl ?_
        refine ms_callvV mB_88 mO_88 (by omega) dX8_readLines_71 mQ_8_148 mC_8_148 mL_63 mO_63 rfl (Nat.le_of_ble_eq_true rfl) (Nat.le_of_ble_eq_true rfl) (gk_32 N) rfl F (fun δ7 F => ?_)
        refine ms_seq mB_88 mO_88 [(.iinc 2 1, 3)] (pc' := 77) (L' := [.ref 31, .int l1, .int (l2 + 1), .int r2, .long r4, .null]) (st' := []) ⟨dX8_readLines_74, trivial⟩ rfl ?_
        refine ms_goto mB_88 dX8_readLines_77 (t := 26) rfl ?_
        exact F
      · have F := F.2 c
        refine ms_seq mB_88 mO_88 [(.iconst 0, 1)] (pc' := 63) (L' := [.ref 31, .int l1, .int l2, .int r2, .long r4, .null]) (st' := [.int 0]) ⟨dX8_readLines_62, trivial⟩ rfl ?_
        exact ms_zret mB_88 dX8_readLines_63 mR_88 (by decide) ⟨_, rfl, rfl, F⟩
set_option maxRecDepth 100000 in
theorem q8_redoBack_0 {N d : Nat} (hd : 5 ≤ d) {δ : mi_D} {Q : Int32 → mi_D → Prop} (F : (mi_wI N (d - 1) 94 0 [.ref 31, .null, .null] [] δ (fun r2 δ1 => (mi_wI N (d - 1) 94 0 [.ref 31, .null, .null] [] δ1 (fun r4 δ3 => (mi_wI N (d - 1) 92 0 [.ref 31] [] δ3 (fun r6 δ5 => ((r6 = 0 → Q 0 δ5) ∧ (¬ r6 = 0 → (mi_wI N (d - 1) 28 0 [.ref 3, .int r2, .int r4, .ref 32] [] δ5 (fun r8 δ7 => ((r8 = 0 → (mi_wI N (d - 1) 29 0 [.ref 3, .int r2, .int r4, .ref 32, .null] [] δ7 (fun r10 δ9 => Q 1 δ9))) ∧ (¬ r8 = 0 → Q 0 δ7))))))))))))) : mi_wI N d 89 0 [.ref 31, .null, .null] [] δ Q := by
  unfold mi_wI
  refine ms_seq mB_89 mO_89 [(.aload_n 0, 1)] (pc' := 1) (L' := [.ref 31, .null, .null]) (st' := [.ref 31]) ⟨dX8_redoBack_0, trivial⟩ rfl ?_
  refine ms_callvI mB_89 mO_89 (by omega) dX8_redoBack_1 mQ_8_75 mC_8_75 mL_94 mO_94 rfl (Nat.le_of_ble_eq_true rfl) (Nat.le_of_ble_eq_true rfl) (gk_31 N) rfl F (fun r2 δ1 F => ?_)
  refine ms_seq mB_89 mO_89 [(.istore_n 1, 1), (.aload_n 0, 1)] (pc' := 6) (L' := [.ref 31, .int r2, .null]) (st' := [.ref 31]) ⟨dX8_redoBack_4, dX8_redoBack_5, trivial⟩ rfl ?_
  refine ms_callvI mB_89 mO_89 (by omega) dX8_redoBack_6 mQ_8_75 mC_8_75 mL_94 mO_94 rfl (Nat.le_of_ble_eq_true rfl) (Nat.le_of_ble_eq_true rfl) (gk_31 N) rfl F (fun r4 δ3 F => ?_)
  refine ms_seq mB_89 mO_89 [(.istore_n 2, 1), (.aload_n 0, 1)] (pc' := 11) (L' := [.ref 31, .int r2, .int r4]) (st' := [.ref 31]) ⟨dX8_redoBack_9, dX8_redoBack_10, trivial⟩ rfl ?_
  refine ms_callvI mB_89 mO_89 (by omega) dX8_redoBack_11 mQ_8_82 mC_8_82 mL_92 mO_92 rfl (Nat.le_of_ble_eq_true rfl) (Nat.le_of_ble_eq_true rfl) (gk_31 N) rfl F (fun r6 δ5 F => ?_)
  refine ms_if_eq mB_89 dX8_redoBack_14 (t := 33) rfl (fun c => ?_) (fun c => ?_)
  · have F := F.1 c
    refine ms_seq mB_89 mO_89 [(.iconst 0, 1)] (pc' := 34) (L' := [.ref 31, .int r2, .int r4]) (st' := [.int 0]) ⟨dX8_redoBack_33, trivial⟩ rfl ?_
    exact ms_zret mB_89 dX8_redoBack_34 mR_89 (by decide) ⟨_, rfl, rfl, F⟩
  · have F := F.2 c
    refine ms_seq mB_89 mO_89 [(.aload_n 0, 1)] (pc' := 18) (L' := [.ref 31, .int r2, .int r4]) (st' := [.ref 31]) ⟨dX8_redoBack_17, trivial⟩ rfl ?_
    refine ms_getR mB_89 mO_89 dX8_redoBack_18 mF_8_24 (gk_31 N) rfl (b := 3) (gr_31_1 N) ?_
    refine ms_seq mB_89 mO_89 [(.iload_n 1, 1), (.iload_n 2, 1), (.aload_n 0, 1)] (pc' := 24) (L' := [.ref 31, .int r2, .int r4]) (st' := [.ref 31, .int r4, .int r2, .ref 3]) ⟨dX8_redoBack_21, dX8_redoBack_22, dX8_redoBack_23, trivial⟩ rfl ?_
    refine ms_getR mB_89 mO_89 dX8_redoBack_24 mF_8_14 (gk_31 N) rfl (b := 32) (gr_31_2 N) ?_
    refine ms_callvI mB_89 mO_89 (by omega) dX8_redoBack_27 mQ_8_151 mC_8_151 mL_28 mO_28 rfl (Nat.le_of_ble_eq_true rfl) (Nat.le_of_ble_eq_true rfl) (gk_3 N) rfl F (fun r8 δ7 F => ?_)
    refine ms_if_eq mB_89 dX8_redoBack_30 (t := 35) rfl (fun c => ?_) (fun c => ?_)
    · have F := F.1 c
      refine ms_seq mB_89 mO_89 [(.aload_n 0, 1)] (pc' := 36) (L' := [.ref 31, .int r2, .int r4]) (st' := [.ref 31]) ⟨dX8_redoBack_35, trivial⟩ rfl ?_
      refine ms_getR mB_89 mO_89 dX8_redoBack_36 mF_8_24 (gk_31 N) rfl (b := 3) (gr_31_1 N) ?_
      refine ms_seq mB_89 mO_89 [(.iload_n 1, 1), (.iload_n 2, 1), (.aload_n 0, 1)] (pc' := 42) (L' := [.ref 31, .int r2, .int r4]) (st' := [.ref 31, .int r4, .int r2, .ref 3]) ⟨dX8_redoBack_39, dX8_redoBack_40, dX8_redoBack_41, trivial⟩ rfl ?_
      refine ms_getR mB_89 mO_89 dX8_redoBack_42 mF_8_14 (gk_31 N) rfl (b := 32) (gr_31_2 N) ?_
      refine ms_callvI mB_89 mO_89 (by omega) dX8_redoBack_45 mQ_8_155 mC_8_155 mL_29 mO_29 rfl (Nat.le_of_ble_eq_true rfl) (Nat.le_of_ble_eq_true rfl) (gk_3 N) rfl F (fun r10 δ9 F => ?_)
      refine ms_seq mB_89 mO_89 [(.pop, 1), (.iconst 1, 1)] (pc' := 50) (L' := [.ref 31, .int r2, .int r4]) (st' := [.int 1]) ⟨dX8_redoBack_48, dX8_redoBack_49, trivial⟩ rfl ?_
      exact ms_zret mB_89 dX8_redoBack_50 mR_89 (by decide) ⟨_, rfl, rfl, F⟩
    · have F := F.2 c
      refine ms_seq mB_89 mO_89 [(.iconst 0, 1)] (pc' := 34) (L' := [.ref 31, .int r2, .int r4]) (st' := [.int 0]) ⟨dX8_redoBack_33, trivial⟩ rfl ?_
      exact ms_zret mB_89 dX8_redoBack_34 mR_89 (by decide) ⟨_, rfl, rfl, F⟩
set_option maxRecDepth 100000 in
theorem q8_redoClose_0 {N d : Nat} (hd : 5 ≤ d) {δ : mi_D} {Q : Int32 → mi_D → Prop} (F : (mi_wI N (d - 1) 92 0 [.ref 31] [] δ (fun r2 δ1 => ((r2 = 0 → Q 0 δ1) ∧ (¬ r2 = 0 → (mi_wI N (d - 1) 30 0 [.ref 3, .ref 32] [] δ1 (fun r4 δ3 => ((r4 = 0 → (mi_wI N (d - 1) 33 0 [.ref 3, .ref 32, .null, .null] [] δ3 (fun r6 δ5 => Q 1 δ5))) ∧ (¬ r4 = 0 → Q 0 δ3))))))))) : mi_wI N d 90 0 [.ref 31] [] δ Q := by
  unfold mi_wI
  refine ms_seq mB_90 mO_90 [(.aload_n 0, 1)] (pc' := 1) (L' := [.ref 31]) (st' := [.ref 31]) ⟨dX8_redoClose_0, trivial⟩ rfl ?_
  refine ms_callvI mB_90 mO_90 (by omega) dX8_redoClose_1 mQ_8_82 mC_8_82 mL_92 mO_92 rfl (Nat.le_of_ble_eq_true rfl) (Nat.le_of_ble_eq_true rfl) (gk_31 N) rfl F (fun r2 δ1 F => ?_)
  refine ms_if_eq mB_90 dX8_redoClose_4 (t := 21) rfl (fun c => ?_) (fun c => ?_)
  · have F := F.1 c
    refine ms_seq mB_90 mO_90 [(.iconst 0, 1)] (pc' := 22) (L' := [.ref 31]) (st' := [.int 0]) ⟨dX8_redoClose_21, trivial⟩ rfl ?_
    exact ms_zret mB_90 dX8_redoClose_22 mR_90 (by decide) ⟨_, rfl, rfl, F⟩
  · have F := F.2 c
    refine ms_seq mB_90 mO_90 [(.aload_n 0, 1)] (pc' := 8) (L' := [.ref 31]) (st' := [.ref 31]) ⟨dX8_redoClose_7, trivial⟩ rfl ?_
    refine ms_getR mB_90 mO_90 dX8_redoClose_8 mF_8_24 (gk_31 N) rfl (b := 3) (gr_31_1 N) ?_
    refine ms_seq mB_90 mO_90 [(.aload_n 0, 1)] (pc' := 12) (L' := [.ref 31]) (st' := [.ref 31, .ref 3]) ⟨dX8_redoClose_11, trivial⟩ rfl ?_
    refine ms_getR mB_90 mO_90 dX8_redoClose_12 mF_8_14 (gk_31 N) rfl (b := 32) (gr_31_2 N) ?_
    refine ms_callvI mB_90 mO_90 (by omega) dX8_redoClose_15 mQ_8_158 mC_8_158 mL_30 mO_30 rfl (Nat.le_of_ble_eq_true rfl) (Nat.le_of_ble_eq_true rfl) (gk_3 N) rfl F (fun r4 δ3 F => ?_)
    refine ms_if_eq mB_90 dX8_redoClose_18 (t := 23) rfl (fun c => ?_) (fun c => ?_)
    · have F := F.1 c
      refine ms_seq mB_90 mO_90 [(.aload_n 0, 1)] (pc' := 24) (L' := [.ref 31]) (st' := [.ref 31]) ⟨dX8_redoClose_23, trivial⟩ rfl ?_
      refine ms_getR mB_90 mO_90 dX8_redoClose_24 mF_8_24 (gk_31 N) rfl (b := 3) (gr_31_1 N) ?_
      refine ms_seq mB_90 mO_90 [(.aload_n 0, 1)] (pc' := 28) (L' := [.ref 31]) (st' := [.ref 31, .ref 3]) ⟨dX8_redoClose_27, trivial⟩ rfl ?_
      refine ms_getR mB_90 mO_90 dX8_redoClose_28 mF_8_14 (gk_31 N) rfl (b := 32) (gr_31_2 N) ?_
      refine ms_callvI mB_90 mO_90 (by omega) dX8_redoClose_31 mQ_8_162 mC_8_162 mL_33 mO_33 rfl (Nat.le_of_ble_eq_true rfl) (Nat.le_of_ble_eq_true rfl) (gk_3 N) rfl F (fun r6 δ5 F => ?_)
      refine ms_seq mB_90 mO_90 [(.pop, 1), (.iconst 1, 1)] (pc' := 36) (L' := [.ref 31]) (st' := [.int 1]) ⟨dX8_redoClose_34, dX8_redoClose_35, trivial⟩ rfl ?_
      exact ms_zret mB_90 dX8_redoClose_36 mR_90 (by decide) ⟨_, rfl, rfl, F⟩
    · have F := F.2 c
      refine ms_seq mB_90 mO_90 [(.iconst 0, 1)] (pc' := 22) (L' := [.ref 31]) (st' := [.int 0]) ⟨dX8_redoClose_21, trivial⟩ rfl ?_
      exact ms_zret mB_90 dX8_redoClose_22 mR_90 (by decide) ⟨_, rfl, rfl, F⟩
set_option maxRecDepth 100000 in
theorem q8_redoReopen_0 {N d : Nat} (hd : 5 ≤ d) {δ : mi_D} {Q : Int32 → mi_D → Prop} (F : (mi_wI N (d - 1) 92 0 [.ref 31] [] δ (fun r2 δ1 => ((r2 = 0 → Q 0 δ1) ∧ (¬ r2 = 0 → (mi_wI N (d - 1) 34 0 [.ref 3, .ref 32, .null] [] δ1 (fun r4 δ3 => ((r4 = 0 → (mi_wI N (d - 1) 35 0 [.ref 3, .ref 32, .null] [] δ3 (fun r6 δ5 => Q 1 δ5))) ∧ (¬ r4 = 0 → Q 0 δ3))))))))) : mi_wI N d 91 0 [.ref 31] [] δ Q := by
  unfold mi_wI
  refine ms_seq mB_91 mO_91 [(.aload_n 0, 1)] (pc' := 1) (L' := [.ref 31]) (st' := [.ref 31]) ⟨dX8_redoReopen_0, trivial⟩ rfl ?_
  refine ms_callvI mB_91 mO_91 (by omega) dX8_redoReopen_1 mQ_8_82 mC_8_82 mL_92 mO_92 rfl (Nat.le_of_ble_eq_true rfl) (Nat.le_of_ble_eq_true rfl) (gk_31 N) rfl F (fun r2 δ1 F => ?_)
  refine ms_if_eq mB_91 dX8_redoReopen_4 (t := 21) rfl (fun c => ?_) (fun c => ?_)
  · have F := F.1 c
    refine ms_seq mB_91 mO_91 [(.iconst 0, 1)] (pc' := 22) (L' := [.ref 31]) (st' := [.int 0]) ⟨dX8_redoReopen_21, trivial⟩ rfl ?_
    exact ms_zret mB_91 dX8_redoReopen_22 mR_91 (by decide) ⟨_, rfl, rfl, F⟩
  · have F := F.2 c
    refine ms_seq mB_91 mO_91 [(.aload_n 0, 1)] (pc' := 8) (L' := [.ref 31]) (st' := [.ref 31]) ⟨dX8_redoReopen_7, trivial⟩ rfl ?_
    refine ms_getR mB_91 mO_91 dX8_redoReopen_8 mF_8_24 (gk_31 N) rfl (b := 3) (gr_31_1 N) ?_
    refine ms_seq mB_91 mO_91 [(.aload_n 0, 1)] (pc' := 12) (L' := [.ref 31]) (st' := [.ref 31, .ref 3]) ⟨dX8_redoReopen_11, trivial⟩ rfl ?_
    refine ms_getR mB_91 mO_91 dX8_redoReopen_12 mF_8_14 (gk_31 N) rfl (b := 32) (gr_31_2 N) ?_
    refine ms_callvI mB_91 mO_91 (by omega) dX8_redoReopen_15 mQ_8_165 mC_8_165 mL_34 mO_34 rfl (Nat.le_of_ble_eq_true rfl) (Nat.le_of_ble_eq_true rfl) (gk_3 N) rfl F (fun r4 δ3 F => ?_)
    refine ms_if_eq mB_91 dX8_redoReopen_18 (t := 23) rfl (fun c => ?_) (fun c => ?_)
    · have F := F.1 c
      refine ms_seq mB_91 mO_91 [(.aload_n 0, 1)] (pc' := 24) (L' := [.ref 31]) (st' := [.ref 31]) ⟨dX8_redoReopen_23, trivial⟩ rfl ?_
      refine ms_getR mB_91 mO_91 dX8_redoReopen_24 mF_8_24 (gk_31 N) rfl (b := 3) (gr_31_1 N) ?_
      refine ms_seq mB_91 mO_91 [(.aload_n 0, 1)] (pc' := 28) (L' := [.ref 31]) (st' := [.ref 31, .ref 3]) ⟨dX8_redoReopen_27, trivial⟩ rfl ?_
      refine ms_getR mB_91 mO_91 dX8_redoReopen_28 mF_8_14 (gk_31 N) rfl (b := 32) (gr_31_2 N) ?_
      refine ms_callvI mB_91 mO_91 (by omega) dX8_redoReopen_31 mQ_8_168 mC_8_168 mL_35 mO_35 rfl (Nat.le_of_ble_eq_true rfl) (Nat.le_of_ble_eq_true rfl) (gk_3 N) rfl F (fun r6 δ5 F => ?_)
      refine ms_seq mB_91 mO_91 [(.pop, 1), (.iconst 1, 1)] (pc' := 36) (L' := [.ref 31]) (st' := [.int 1]) ⟨dX8_redoReopen_34, dX8_redoReopen_35, trivial⟩ rfl ?_
      exact ms_zret mB_91 dX8_redoReopen_36 mR_91 (by decide) ⟨_, rfl, rfl, F⟩
    · have F := F.2 c
      refine ms_seq mB_91 mO_91 [(.iconst 0, 1)] (pc' := 22) (L' := [.ref 31]) (st' := [.int 0]) ⟨dX8_redoReopen_21, trivial⟩ rfl ?_
      exact ms_zret mB_91 dX8_redoReopen_22 mR_91 (by decide) ⟨_, rfl, rfl, F⟩
set_option maxRecDepth 100000 in
theorem q8_isReadWhole_0 {N d : Nat} (hd : 5 ≤ d) {δ : mi_D} {Q : Int32 → mi_D → Prop} (F : (((δ.1 31 5) = 0 → (((δ.1 31 3) = (δ.1 31 4) → Q 1 δ) ∧ (¬ (δ.1 31 3) = (δ.1 31 4) → Q 0 δ))) ∧ (¬ (δ.1 31 5) = 0 → Q 0 δ))) : mi_wI N d 92 0 [.ref 31] [] δ Q := by
  unfold mi_wI
  refine ms_seq mB_92 mO_92 [(.aload_n 0, 1)] (pc' := 1) (L' := [.ref 31]) (st' := [.ref 31]) ⟨dX8_isReadWhole_0, trivial⟩ rfl ?_
  refine ms_getI mB_92 mO_92 dX8_isReadWhole_1 mF_8_35 (gk_31 N) (Or.inr rfl) ?_
  refine ms_if_ne mB_92 dX8_isReadWhole_4 (t := 22) rfl (fun c => ?_) (fun c => ?_)
  · have F := F.2 c
    refine ms_seq mB_92 mO_92 [(.iconst 0, 1)] (pc' := 23) (L' := [.ref 31]) (st' := [.int 0]) ⟨dX8_isReadWhole_22, trivial⟩ rfl ?_
    exact ms_zret mB_92 dX8_isReadWhole_23 mR_92 (by decide) ⟨_, rfl, rfl, F⟩
  · have F := F.1 c
    refine ms_seq mB_92 mO_92 [(.aload_n 0, 1)] (pc' := 8) (L' := [.ref 31]) (st' := [.ref 31]) ⟨dX8_isReadWhole_7, trivial⟩ rfl ?_
    refine ms_getI mB_92 mO_92 dX8_isReadWhole_8 mF_8_28 (gk_31 N) (Or.inl rfl) ?_
    refine ms_seq mB_92 mO_92 [(.aload_n 0, 1)] (pc' := 12) (L' := [.ref 31]) (st' := [.ref 31, .int (δ.1 31 3)]) ⟨dX8_isReadWhole_11, trivial⟩ rfl ?_
    refine ms_getI mB_92 mO_92 dX8_isReadWhole_12 mF_8_32 (gk_31 N) (Or.inl rfl) ?_
    refine ms_icmp_ne mB_92 dX8_isReadWhole_15 (t := 22) rfl (fun c => ?_) (fun c => ?_)
    · have F := F.2 c
      refine ms_seq mB_92 mO_92 [(.iconst 0, 1)] (pc' := 23) (L' := [.ref 31]) (st' := [.int 0]) ⟨dX8_isReadWhole_22, trivial⟩ rfl ?_
      exact ms_zret mB_92 dX8_isReadWhole_23 mR_92 (by decide) ⟨_, rfl, rfl, F⟩
    · have F := F.1 c
      refine ms_seq mB_92 mO_92 [(.iconst 1, 1)] (pc' := 19) (L' := [.ref 31]) (st' := [.int 1]) ⟨dX8_isReadWhole_18, trivial⟩ rfl ?_
      refine ms_goto mB_92 dX8_isReadWhole_19 (t := 23) rfl ?_
      exact ms_zret mB_92 dX8_isReadWhole_23 mR_92 (by decide) ⟨_, rfl, rfl, F⟩
set_option maxRecDepth 100000 in
theorem q8_nextFlag_0 {N d : Nat} (hd : 5 ≤ d) {δ : mi_D} {Q : Int32 → mi_D → Prop} (F : (mi_wL N (d - 1) 95 0 [.ref 31, .null, .null, .null, .null] [] δ (fun r2 δ1 => (((lg_cmp r2 0) = 0 → mi_wI N d 93 22 [.ref 31, .long r2, .null] [] δ1 Q) ∧ (¬ (lg_cmp r2 0) = 0 → (((lg_cmp r2 1) = 0 → mi_wI N d 93 22 [.ref 31, .long r2, .null] [] δ1 Q) ∧ (¬ (lg_cmp r2 1) = 0 → (∀ δ3 : mi_D, δ3 = mi_setI δ1 31 5 1 → mi_wI N d 93 22 [.ref 31, .long r2, .null] [] δ3 Q)))))))) : mi_wI N d 93 0 [.ref 31, .null, .null] [] δ Q := by
  unfold mi_wI
  refine ms_seq mB_93 mO_93 [(.aload_n 0, 1)] (pc' := 1) (L' := [.ref 31, .null, .null]) (st' := [.ref 31]) ⟨dX8_nextFlag_0, trivial⟩ rfl ?_
  refine ms_callvL mB_93 mO_93 (by omega) dX8_nextFlag_1 mQ_8_140 mC_8_140 mL_95 mO_95 rfl (Nat.le_of_ble_eq_true rfl) (Nat.le_of_ble_eq_true rfl) (gk_31 N) rfl F (fun r2 δ1 F => ?_)
  refine ms_seq mB_93 mO_93 [(.lstore_n 1, 1), (.lload_n 1, 1), (.lconst 0, 1), (.lcmp, 1)] (pc' := 8) (L' := [.ref 31, .long r2, .null]) (st' := [.int (lg_cmp r2 0)]) ⟨dX8_nextFlag_4, dX8_nextFlag_5, dX8_nextFlag_6, dX8_nextFlag_7, trivial⟩ rfl ?_
  refine ms_if_eq mB_93 dX8_nextFlag_8 (t := 22) rfl (fun c => ?_) (fun c => ?_)
  · have F := F.1 c
    exact F
  · have F := F.2 c
    refine ms_seq mB_93 mO_93 [(.lload_n 1, 1), (.lconst 1, 1), (.lcmp, 1)] (pc' := 14) (L' := [.ref 31, .long r2, .null]) (st' := [.int (lg_cmp r2 1)]) ⟨dX8_nextFlag_11, dX8_nextFlag_12, dX8_nextFlag_13, trivial⟩ rfl ?_
    refine ms_if_eq mB_93 dX8_nextFlag_14 (t := 22) rfl (fun c => ?_) (fun c => ?_)
    · have F := F.1 c
      exact F
    · have F := F.2 c
      refine ms_seq mB_93 mO_93 [(.aload_n 0, 1), (.iconst 1, 1)] (pc' := 19) (L' := [.ref 31, .long r2, .null]) (st' := [.int 1, .ref 31]) ⟨dX8_nextFlag_17, dX8_nextFlag_18, trivial⟩ rfl ?_
      refine ms_putZ mB_93 mO_93 dX8_nextFlag_19 mF_8_35 (gk_31 N) rfl rfl (by decide) ?_
      refine mr_st (fun δ3 e_δ3 => ?_)
      have F := F δ3 e_δ3
      exact F
set_option maxRecDepth 100000 in
theorem q8_nextFlag_22 {N d : Nat} (hd : 5 ≤ d) {l1 : Int64} {δ : mi_D} {Q : Int32 → mi_D → Prop} (F : (((lg_cmp l1 1) = 0 → Q 1 δ) ∧ (¬ (lg_cmp l1 1) = 0 → Q 0 δ))) : mi_wI N d 93 22 [.ref 31, .long l1, .null] [] δ Q := by
  unfold mi_wI
  refine ms_seq mB_93 mO_93 [(.lload_n 1, 1), (.lconst 1, 1), (.lcmp, 1)] (pc' := 25) (L' := [.ref 31, .long l1, .null]) (st' := [.int (lg_cmp l1 1)]) ⟨dX8_nextFlag_22, dX8_nextFlag_23, dX8_nextFlag_24, trivial⟩ rfl ?_
  refine ms_if_ne mB_93 dX8_nextFlag_25 (t := 32) rfl (fun c => ?_) (fun c => ?_)
  · have F := F.2 c
    refine ms_seq mB_93 mO_93 [(.iconst 0, 1)] (pc' := 33) (L' := [.ref 31, .long l1, .null]) (st' := [.int 0]) ⟨dX8_nextFlag_32, trivial⟩ rfl ?_
    exact ms_zret mB_93 dX8_nextFlag_33 mR_93 (by decide) ⟨_, rfl, rfl, F⟩
  · have F := F.1 c
    refine ms_seq mB_93 mO_93 [(.iconst 1, 1)] (pc' := 29) (L' := [.ref 31, .long l1, .null]) (st' := [.int 1]) ⟨dX8_nextFlag_28, trivial⟩ rfl ?_
    refine ms_goto mB_93 dX8_nextFlag_29 (t := 33) rfl ?_
    exact ms_zret mB_93 dX8_nextFlag_33 mR_93 (by decide) ⟨_, rfl, rfl, F⟩
set_option maxRecDepth 100000 in
theorem q8_nextInt_0 {N d : Nat} (hd : 5 ≤ d) {δ : mi_D} {Q : Int32 → mi_D → Prop} (F : (mi_wL N (d - 1) 95 0 [.ref 31, .null, .null, .null, .null] [] δ (fun r2 δ1 => (((lg_cmp r2 (Int32.toInt64 (Int64.toInt32 r2))) = 0 → Q (Int64.toInt32 r2) δ1) ∧ (¬ (lg_cmp r2 (Int32.toInt64 (Int64.toInt32 r2))) = 0 → (∀ δ3 : mi_D, δ3 = mi_setI δ1 31 5 1 → Q (Int64.toInt32 r2) δ3)))))) : mi_wI N d 94 0 [.ref 31, .null, .null] [] δ Q := by
  unfold mi_wI
  refine ms_seq mB_94 mO_94 [(.aload_n 0, 1)] (pc' := 1) (L' := [.ref 31, .null, .null]) (st' := [.ref 31]) ⟨dX8_nextInt_0, trivial⟩ rfl ?_
  refine ms_callvL mB_94 mO_94 (by omega) dX8_nextInt_1 mQ_8_140 mC_8_140 mL_95 mO_95 rfl (Nat.le_of_ble_eq_true rfl) (Nat.le_of_ble_eq_true rfl) (gk_31 N) rfl F (fun r2 δ1 F => ?_)
  refine ms_seq mB_94 mO_94 [(.lstore_n 1, 1), (.lload_n 1, 1), (.lload_n 1, 1), (.l2i, 1), (.i2l, 1), (.lcmp, 1)] (pc' := 10) (L' := [.ref 31, .long r2, .null]) (st' := [.int (lg_cmp r2 (Int32.toInt64 (Int64.toInt32 r2)))]) ⟨dX8_nextInt_4, dX8_nextInt_5, dX8_nextInt_6, dX8_nextInt_7, dX8_nextInt_8, dX8_nextInt_9, trivial⟩ rfl ?_
  refine ms_if_eq mB_94 dX8_nextInt_10 (t := 18) rfl (fun c => ?_) (fun c => ?_)
  · have F := F.1 c
    refine ms_seq mB_94 mO_94 [(.lload_n 1, 1), (.l2i, 1)] (pc' := 20) (L' := [.ref 31, .long r2, .null]) (st' := [.int (Int64.toInt32 r2)]) ⟨dX8_nextInt_18, dX8_nextInt_19, trivial⟩ rfl ?_
    exact ms_iret mB_94 dX8_nextInt_20 mR_94 ⟨_, rfl, rfl, F⟩
  · have F := F.2 c
    refine ms_seq mB_94 mO_94 [(.aload_n 0, 1), (.iconst 1, 1)] (pc' := 15) (L' := [.ref 31, .long r2, .null]) (st' := [.int 1, .ref 31]) ⟨dX8_nextInt_13, dX8_nextInt_14, trivial⟩ rfl ?_
    refine ms_putZ mB_94 mO_94 dX8_nextInt_15 mF_8_35 (gk_31 N) rfl rfl (by decide) ?_
    refine mr_st (fun δ3 e_δ3 => ?_)
    have F := F δ3 e_δ3
    refine ms_seq mB_94 mO_94 [(.lload_n 1, 1), (.l2i, 1)] (pc' := 20) (L' := [.ref 31, .long r2, .null]) (st' := [.int (Int64.toInt32 r2)]) ⟨dX8_nextInt_18, dX8_nextInt_19, trivial⟩ rfl ?_
    exact ms_iret mB_94 dX8_nextInt_20 mR_94 ⟨_, rfl, rfl, F⟩
set_option maxRecDepth 100000 in
theorem q8_nextNumber_0 {N d : Nat} (hd : 5 ≤ d) {δ : mi_D} {Q : Int64 → mi_D → Prop} (F : mi_wL N d 95 4 [.ref 31, .long 0, .null, .int 0, .null] [] δ Q) : mi_wL N d 95 0 [.ref 31, .null, .null, .null, .null] [] δ Q := by
  unfold mi_wL
  refine ms_seq mB_95 mO_95 [(.lconst 0, 1), (.lstore_n 1, 1), (.iconst 0, 1), (.istore_n 3, 1)] (pc' := 4) (L' := [.ref 31, .long 0, .null, .int 0, .null]) (st' := []) ⟨dX8_nextNumber_0, dX8_nextNumber_1, dX8_nextNumber_2, dX8_nextNumber_3, trivial⟩ rfl ?_
  exact F
set_option maxRecDepth 100000 in
theorem q8_nextNumber_4 {N d : Nat} (hd : 5 ≤ d) {l3 : Int32} {l1 : Int64} {δ : mi_D} {Q : Int64 → mi_D → Prop} (F : ((l3 < 10 → (((δ.1 31 3) < (δ.1 31 4) → (∀ x1 : Int32, x1 = (mi_at δ 29 (δ.1 31 3)) → (∀ δ2 : mi_D, δ2 = mi_setI δ 31 3 ((δ.1 31 3) + 1) → ((l3 = 9 → ((1 < x1 → mi_wL N d 95 99 [.ref 31, .long l1, .null, .int l3, .int x1] [] δ2 Q) ∧ (¬ 1 < x1 → mi_wL N d 95 62 [.ref 31, .long l1, .null, .int l3, .int x1] [] δ2 Q))) ∧ (¬ l3 = 9 → mi_wL N d 95 62 [.ref 31, .long l1, .null, .int l3, .int x1] [] δ2 Q))))) ∧ (¬ (δ.1 31 3) < (δ.1 31 4) → mi_wL N d 95 99 [.ref 31, .long l1, .null, .int l3, .null] [] δ Q))) ∧ (¬ l3 < 10 → mi_wL N d 95 99 [.ref 31, .long l1, .null, .int l3, .null] [] δ Q))) : mi_wL N d 95 4 [.ref 31, .long l1, .null, .int l3, .null] [] δ Q := by
  unfold mi_wL
  refine ms_seq mB_95 mO_95 [(.iload_n 3, 1), (.bipush 10, 2)] (pc' := 7) (L' := [.ref 31, .long l1, .null, .int l3, .null]) (st' := [.int 10, .int l3]) ⟨dX8_nextNumber_4, dX8_nextNumber_5, trivial⟩ rfl ?_
  refine ms_icmp_ge mB_95 dX8_nextNumber_7 (t := 99) rfl (fun c => ?_) (fun c => ?_)
  · have F := F.2 c
    exact F
  · have F := F.1 c
    refine ms_seq mB_95 mO_95 [(.aload_n 0, 1)] (pc' := 11) (L' := [.ref 31, .long l1, .null, .int l3, .null]) (st' := [.ref 31]) ⟨dX8_nextNumber_10, trivial⟩ rfl ?_
    refine ms_getI mB_95 mO_95 dX8_nextNumber_11 mF_8_28 (gk_31 N) (Or.inl rfl) ?_
    refine ms_seq mB_95 mO_95 [(.aload_n 0, 1)] (pc' := 15) (L' := [.ref 31, .long l1, .null, .int l3, .null]) (st' := [.ref 31, .int (δ.1 31 3)]) ⟨dX8_nextNumber_14, trivial⟩ rfl ?_
    refine ms_getI mB_95 mO_95 dX8_nextNumber_15 mF_8_32 (gk_31 N) (Or.inl rfl) ?_
    refine ms_icmp_ge mB_95 dX8_nextNumber_18 (t := 99) rfl (fun c => ?_) (fun c => ?_)
    · have F := F.2 c
      exact F
    · have F := F.1 c
      refine ms_seq mB_95 mO_95 [(.aload_n 0, 1)] (pc' := 22) (L' := [.ref 31, .long l1, .null, .int l3, .null]) (st' := [.ref 31]) ⟨dX8_nextNumber_21, trivial⟩ rfl ?_
      refine ms_getR mB_95 mO_95 dX8_nextNumber_22 mF_8_20 (gk_31 N) rfl (b := 28) (gr_31_0 N) ?_
      refine ms_getR mB_95 mO_95 dX8_nextNumber_25 mF_8_39 (gk_28 N) rfl (b := 29) (gr_28_0 N) ?_
      refine ms_seq mB_95 mO_95 [(.aload_n 0, 1)] (pc' := 29) (L' := [.ref 31, .long l1, .null, .int l3, .null]) (st' := [.ref 31, .ref 29]) ⟨dX8_nextNumber_28, trivial⟩ rfl ?_
      refine ms_getI mB_95 mO_95 dX8_nextNumber_29 mF_8_28 (gk_31 N) (Or.inl rfl) ?_
      refine ms_at mB_95 mO_95 hd dX8_nextNumber_32 mQ_8_45 (Nat.le_of_ble_eq_true rfl) (gk_29 N) (mi_ne (gl_29 N)) ?_
      refine mr_topi (fun x1 e_x1 => ?_)
      have F := F x1 e_x1
      refine ms_seq mB_95 mO_95 [(.istore 4, 2), (.aload_n 0, 1), (.dup, 1)] (pc' := 39) (L' := [.ref 31, .long l1, .null, .int l3, .int x1]) (st' := [.ref 31, .ref 31]) ⟨dX8_nextNumber_35, dX8_nextNumber_37, dX8_nextNumber_38, trivial⟩ rfl ?_
      refine ms_getI mB_95 mO_95 dX8_nextNumber_39 mF_8_28 (gk_31 N) (Or.inl rfl) ?_
      refine ms_seq mB_95 mO_95 [(.iconst 1, 1), (.iadd, 1)] (pc' := 44) (L' := [.ref 31, .long l1, .null, .int l3, .int x1]) (st' := [.int ((δ.1 31 3) + 1), .ref 31]) ⟨dX8_nextNumber_42, dX8_nextNumber_43, trivial⟩ rfl ?_
      refine ms_putI mB_95 mO_95 dX8_nextNumber_44 mF_8_28 (gk_31 N) rfl rfl ?_
      refine mr_st (fun δ2 e_δ2 => ?_)
      have F := F δ2 e_δ2
      refine ms_seq mB_95 mO_95 [(.iload_n 3, 1), (.bipush 9, 2)] (pc' := 50) (L' := [.ref 31, .long l1, .null, .int l3, .int x1]) (st' := [.int 9, .int l3]) ⟨dX8_nextNumber_47, dX8_nextNumber_48, trivial⟩ rfl ?_
      refine ms_icmp_ne mB_95 dX8_nextNumber_50 (t := 62) rfl (fun c => ?_) (fun c => ?_)
      · have F := F.2 c
        exact F
      · have F := F.1 c
        refine ms_seq mB_95 mO_95 [(.iload 4, 2), (.iconst 1, 1)] (pc' := 56) (L' := [.ref 31, .long l1, .null, .int l3, .int x1]) (st' := [.int 1, .int x1]) ⟨dX8_nextNumber_53, dX8_nextNumber_55, trivial⟩ rfl ?_
        refine ms_icmp_le mB_95 dX8_nextNumber_56 (t := 62) rfl (fun c => ?_) (fun c => ?_)
        · have F := F.2 c
          exact F
        · have F := F.1 c
          refine ms_goto mB_95 dX8_nextNumber_59 (t := 99) rfl ?_
          exact F
set_option maxRecDepth 100000 in
theorem q8_nextNumber_99 {N d : Nat} (hd : 5 ≤ d) {l3 : Int32} {l1 : Int64} {δ : mi_D} {Q : Int64 → mi_D → Prop} (F : (∀ δ1 : mi_D, δ1 = mi_setI δ 31 5 1 → Q 0 δ1)) : mi_wL N d 95 99 [.ref 31, .long l1, .null, .int l3, .null] [] δ Q := by
  unfold mi_wL
  refine ms_seq mB_95 mO_95 [(.aload_n 0, 1), (.iconst 1, 1)] (pc' := 101) (L' := [.ref 31, .long l1, .null, .int l3, .null]) (st' := [.int 1, .ref 31]) ⟨dX8_nextNumber_99, dX8_nextNumber_100, trivial⟩ rfl ?_
  refine ms_putZ mB_95 mO_95 dX8_nextNumber_101 mF_8_35 (gk_31 N) rfl rfl (by decide) ?_
  refine mr_st (fun δ1 e_δ1 => ?_)
  have F := F δ1 e_δ1
  refine ms_seq mB_95 mO_95 [(.lconst 0, 1)] (pc' := 105) (L' := [.ref 31, .long l1, .null, .int l3, .null]) (st' := [.long 0]) ⟨dX8_nextNumber_104, trivial⟩ rfl ?_
  exact ms_lret mB_95 dX8_nextNumber_105 mR_95 ⟨_, rfl, rfl, F⟩
set_option maxRecDepth 100000 in
theorem q8_nextNumber_62 {N d : Nat} (hd : 5 ≤ d) {l3 l4 : Int32} {l1 : Int64} {δ : mi_D} {Q : Int64 → mi_D → Prop} (F : (∀ x1 : Int64, x1 = (l1 ||| ((Int32.toInt64 (l4 &&& 127)) <<< (Int32.toInt64 (7 * l3) &&& 63))) → ((l4 < 128 → Q (((Int64.toUInt64 x1 >>> (Int64.toUInt64 (Int32.toInt64 1) &&& Int64.toUInt64 63)).toInt64) ^^^ (-(x1 &&& 1))) δ) ∧ (¬ l4 < 128 → mi_wL N d 95 4 [.ref 31, .long x1, .null, .int (l3 + 1), .int l4] [] δ Q)))) : mi_wL N d 95 62 [.ref 31, .long l1, .null, .int l3, .int l4] [] δ Q := by
  unfold mi_wL
  refine ms_seq mB_95 mO_95 [(.lload_n 1, 1), (.iload 4, 2), (.bipush 127, 2), (.iand, 1), (.i2l, 1), (.bipush 7, 2), (.iload_n 3, 1), (.imul, 1), (.lshl, 1), (.lor, 1)] (pc' := 75) (L' := [.ref 31, .long l1, .null, .int l3, .int l4]) (st' := [.long (l1 ||| ((Int32.toInt64 (l4 &&& 127)) <<< (Int32.toInt64 (7 * l3) &&& 63)))]) ⟨dX8_nextNumber_62, dX8_nextNumber_63, dX8_nextNumber_65, dX8_nextNumber_67, dX8_nextNumber_68, dX8_nextNumber_69, dX8_nextNumber_71, dX8_nextNumber_72, dX8_nextNumber_73, dX8_nextNumber_74, trivial⟩ rfl ?_
  refine mr_topl (fun x1 e_x1 => ?_)
  have F := F x1 e_x1
  refine ms_seq mB_95 mO_95 [(.lstore_n 1, 1), (.iload 4, 2), (.sipush 128, 3)] (pc' := 81) (L' := [.ref 31, .long x1, .null, .int l3, .int l4]) (st' := [.int 128, .int l4]) ⟨dX8_nextNumber_75, dX8_nextNumber_76, dX8_nextNumber_78, trivial⟩ rfl ?_
  refine ms_icmp_ge mB_95 dX8_nextNumber_81 (t := 93) rfl (fun c => ?_) (fun c => ?_)
  · have F := F.2 c
    refine ms_seq mB_95 mO_95 [(.iinc 3 1, 3)] (pc' := 96) (L' := [.ref 31, .long x1, .null, .int (l3 + 1), .int l4]) (st' := []) ⟨dX8_nextNumber_93, trivial⟩ rfl ?_
    refine ms_goto mB_95 dX8_nextNumber_96 (t := 4) rfl ?_
    exact F
  · have F := F.1 c
    refine ms_seq mB_95 mO_95 [(.lload_n 1, 1), (.iconst 1, 1), (.lushr, 1), (.lload_n 1, 1), (.lconst 1, 1), (.land, 1), (.lneg, 1), (.lxor, 1)] (pc' := 92) (L' := [.ref 31, .long x1, .null, .int l3, .int l4]) (st' := [.long (((Int64.toUInt64 x1 >>> (Int64.toUInt64 (Int32.toInt64 1) &&& Int64.toUInt64 63)).toInt64) ^^^ (-(x1 &&& 1)))]) ⟨dX8_nextNumber_84, dX8_nextNumber_85, dX8_nextNumber_86, dX8_nextNumber_87, dX8_nextNumber_88, dX8_nextNumber_89, dX8_nextNumber_90, dX8_nextNumber_91, trivial⟩ rfl ?_
    exact ms_lret mB_95 dX8_nextNumber_92 mR_95 ⟨_, rfl, rfl, F⟩
set_option maxRecDepth 100000 in
theorem q8_nextNumber_99a {N d : Nat} (hd : 5 ≤ d) {l3 l4 : Int32} {l1 : Int64} {δ : mi_D} {Q : Int64 → mi_D → Prop} (F : (∀ δ1 : mi_D, δ1 = mi_setI δ 31 5 1 → Q 0 δ1)) : mi_wL N d 95 99 [.ref 31, .long l1, .null, .int l3, .int l4] [] δ Q := by
  unfold mi_wL
  refine ms_seq mB_95 mO_95 [(.aload_n 0, 1), (.iconst 1, 1)] (pc' := 101) (L' := [.ref 31, .long l1, .null, .int l3, .int l4]) (st' := [.int 1, .ref 31]) ⟨dX8_nextNumber_99, dX8_nextNumber_100, trivial⟩ rfl ?_
  refine ms_putZ mB_95 mO_95 dX8_nextNumber_101 mF_8_35 (gk_31 N) rfl rfl (by decide) ?_
  refine mr_st (fun δ1 e_δ1 => ?_)
  have F := F δ1 e_δ1
  refine ms_seq mB_95 mO_95 [(.lconst 0, 1)] (pc' := 105) (L' := [.ref 31, .long l1, .null, .int l3, .int l4]) (st' := [.long 0]) ⟨dX8_nextNumber_104, trivial⟩ rfl ?_
  exact ms_lret mB_95 dX8_nextNumber_105 mR_95 ⟨_, rfl, rfl, F⟩
set_option maxRecDepth 100000 in
theorem q8_nextNumber_4a {N d : Nat} (hd : 5 ≤ d) {l3 l4 : Int32} {l1 : Int64} {δ : mi_D} {Q : Int64 → mi_D → Prop} (F : ((l3 < 10 → (((δ.1 31 3) < (δ.1 31 4) → (∀ x1 : Int32, x1 = (mi_at δ 29 (δ.1 31 3)) → (∀ δ2 : mi_D, δ2 = mi_setI δ 31 3 ((δ.1 31 3) + 1) → ((l3 = 9 → ((1 < x1 → mi_wL N d 95 99 [.ref 31, .long l1, .null, .int l3, .int x1] [] δ2 Q) ∧ (¬ 1 < x1 → mi_wL N d 95 62 [.ref 31, .long l1, .null, .int l3, .int x1] [] δ2 Q))) ∧ (¬ l3 = 9 → mi_wL N d 95 62 [.ref 31, .long l1, .null, .int l3, .int x1] [] δ2 Q))))) ∧ (¬ (δ.1 31 3) < (δ.1 31 4) → mi_wL N d 95 99 [.ref 31, .long l1, .null, .int l3, .int l4] [] δ Q))) ∧ (¬ l3 < 10 → mi_wL N d 95 99 [.ref 31, .long l1, .null, .int l3, .int l4] [] δ Q))) : mi_wL N d 95 4 [.ref 31, .long l1, .null, .int l3, .int l4] [] δ Q := by
  unfold mi_wL
  refine ms_seq mB_95 mO_95 [(.iload_n 3, 1), (.bipush 10, 2)] (pc' := 7) (L' := [.ref 31, .long l1, .null, .int l3, .int l4]) (st' := [.int 10, .int l3]) ⟨dX8_nextNumber_4, dX8_nextNumber_5, trivial⟩ rfl ?_
  refine ms_icmp_ge mB_95 dX8_nextNumber_7 (t := 99) rfl (fun c => ?_) (fun c => ?_)
  · have F := F.2 c
    exact F
  · have F := F.1 c
    refine ms_seq mB_95 mO_95 [(.aload_n 0, 1)] (pc' := 11) (L' := [.ref 31, .long l1, .null, .int l3, .int l4]) (st' := [.ref 31]) ⟨dX8_nextNumber_10, trivial⟩ rfl ?_
    refine ms_getI mB_95 mO_95 dX8_nextNumber_11 mF_8_28 (gk_31 N) (Or.inl rfl) ?_
    refine ms_seq mB_95 mO_95 [(.aload_n 0, 1)] (pc' := 15) (L' := [.ref 31, .long l1, .null, .int l3, .int l4]) (st' := [.ref 31, .int (δ.1 31 3)]) ⟨dX8_nextNumber_14, trivial⟩ rfl ?_
    refine ms_getI mB_95 mO_95 dX8_nextNumber_15 mF_8_32 (gk_31 N) (Or.inl rfl) ?_
    refine ms_icmp_ge mB_95 dX8_nextNumber_18 (t := 99) rfl (fun c => ?_) (fun c => ?_)
    · have F := F.2 c
      exact F
    · have F := F.1 c
      refine ms_seq mB_95 mO_95 [(.aload_n 0, 1)] (pc' := 22) (L' := [.ref 31, .long l1, .null, .int l3, .int l4]) (st' := [.ref 31]) ⟨dX8_nextNumber_21, trivial⟩ rfl ?_
      refine ms_getR mB_95 mO_95 dX8_nextNumber_22 mF_8_20 (gk_31 N) rfl (b := 28) (gr_31_0 N) ?_
      refine ms_getR mB_95 mO_95 dX8_nextNumber_25 mF_8_39 (gk_28 N) rfl (b := 29) (gr_28_0 N) ?_
      refine ms_seq mB_95 mO_95 [(.aload_n 0, 1)] (pc' := 29) (L' := [.ref 31, .long l1, .null, .int l3, .int l4]) (st' := [.ref 31, .ref 29]) ⟨dX8_nextNumber_28, trivial⟩ rfl ?_
      refine ms_getI mB_95 mO_95 dX8_nextNumber_29 mF_8_28 (gk_31 N) (Or.inl rfl) ?_
      refine ms_at mB_95 mO_95 hd dX8_nextNumber_32 mQ_8_45 (Nat.le_of_ble_eq_true rfl) (gk_29 N) (mi_ne (gl_29 N)) ?_
      refine mr_topi (fun x1 e_x1 => ?_)
      have F := F x1 e_x1
      refine ms_seq mB_95 mO_95 [(.istore 4, 2), (.aload_n 0, 1), (.dup, 1)] (pc' := 39) (L' := [.ref 31, .long l1, .null, .int l3, .int x1]) (st' := [.ref 31, .ref 31]) ⟨dX8_nextNumber_35, dX8_nextNumber_37, dX8_nextNumber_38, trivial⟩ rfl ?_
      refine ms_getI mB_95 mO_95 dX8_nextNumber_39 mF_8_28 (gk_31 N) (Or.inl rfl) ?_
      refine ms_seq mB_95 mO_95 [(.iconst 1, 1), (.iadd, 1)] (pc' := 44) (L' := [.ref 31, .long l1, .null, .int l3, .int x1]) (st' := [.int ((δ.1 31 3) + 1), .ref 31]) ⟨dX8_nextNumber_42, dX8_nextNumber_43, trivial⟩ rfl ?_
      refine ms_putI mB_95 mO_95 dX8_nextNumber_44 mF_8_28 (gk_31 N) rfl rfl ?_
      refine mr_st (fun δ2 e_δ2 => ?_)
      have F := F δ2 e_δ2
      refine ms_seq mB_95 mO_95 [(.iload_n 3, 1), (.bipush 9, 2)] (pc' := 50) (L' := [.ref 31, .long l1, .null, .int l3, .int x1]) (st' := [.int 9, .int l3]) ⟨dX8_nextNumber_47, dX8_nextNumber_48, trivial⟩ rfl ?_
      refine ms_icmp_ne mB_95 dX8_nextNumber_50 (t := 62) rfl (fun c => ?_) (fun c => ?_)
      · have F := F.2 c
        exact F
      · have F := F.1 c
        refine ms_seq mB_95 mO_95 [(.iload 4, 2), (.iconst 1, 1)] (pc' := 56) (L' := [.ref 31, .long l1, .null, .int l3, .int x1]) (st' := [.int 1, .int x1]) ⟨dX8_nextNumber_53, dX8_nextNumber_55, trivial⟩ rfl ?_
        refine ms_icmp_le mB_95 dX8_nextNumber_56 (t := 62) rfl (fun c => ?_) (fun c => ?_)
        · have F := F.2 c
          exact F
        · have F := F.1 c
          refine ms_goto mB_95 dX8_nextNumber_59 (t := 99) rfl ?_
          exact F
