set_option maxRecDepth 100000 in
theorem q11_account_0 {N d : Nat} (hd : 5 ≤ d) {p0 p1 p2 p3 : Int32} {δ : mi_D} {Q : Int32 → mi_D → Prop} (F : (((δ.1 2 7) = 0 → Q (-6) δ) ∧ (¬ (δ.1 2 7) = 0 → (mi_wI N (d - 1) 17 0 [.ref 3, .int p0, .int p1, .int p2] [] δ (fun r2 δ1 => ((r2 = 0 → (mi_wV N (d - 1) 52 0 [.ref 28, .int 1] [] δ1 (fun δ3 => (mi_wV N (d - 1) 53 0 [.ref 28, .long (Int32.toInt64 p0), .null, .null, .null, .null, .null] [] δ3 (fun δ4 => (mi_wV N (d - 1) 53 0 [.ref 28, .long (Int32.toInt64 p1), .null, .null, .null, .null, .null] [] δ4 (fun δ5 => (mi_wV N (d - 1) 53 0 [.ref 28, .long (Int32.toInt64 p2), .null, .null, .null, .null, .null] [] δ5 (fun δ6 => ((p3 = 0 → mi_wI N d 113 79 [.ref 2, .int p0, .int p1, .int p2, .int p3, .int r2] [.long 0, .ref 28] δ6 Q) ∧ (¬ p3 = 0 → mi_wI N d 113 79 [.ref 2, .int p0, .int p1, .int p2, .int p3, .int r2] [.long 1, .ref 28] δ6 Q))))))))))) ∧ (¬ r2 = 0 → Q r2 δ1))))))) : mi_wI N d 113 0 [.ref 2, .int p0, .int p1, .int p2, .int p3, .null] [] δ Q := by
  unfold mi_wI
  refine ms_seq mB_113 mO_113 [(.aload_n 0, 1)] (pc' := 1) (L' := [.ref 2, .int p0, .int p1, .int p2, .int p3, .null]) (st' := [.ref 2]) ⟨dX11_account_0, trivial⟩ rfl ?_
  refine ms_getI mB_113 mO_113 dX11_account_1 mF_11_64 (gk_2 N) (Or.inr rfl) ?_
  refine ms_if_ne mB_113 dX11_account_4 (t := 10) rfl (fun c => ?_) (fun c => ?_)
  · have F := F.2 c
    refine ms_seq mB_113 mO_113 [(.aload_n 0, 1)] (pc' := 11) (L' := [.ref 2, .int p0, .int p1, .int p2, .int p3, .null]) (st' := [.ref 2]) ⟨dX11_account_10, trivial⟩ rfl ?_
    refine ms_getR mB_113 mO_113 dX11_account_11 mF_11_10 (gk_2 N) rfl (b := 3) (gr_2_0 N) ?_
    refine ms_seq mB_113 mO_113 [(.iload_n 1, 1), (.iload_n 2, 1), (.iload_n 3, 1)] (pc' := 17) (L' := [.ref 2, .int p0, .int p1, .int p2, .int p3, .null]) (st' := [.int p2, .int p1, .int p0, .ref 3]) ⟨dX11_account_14, dX11_account_15, dX11_account_16, trivial⟩ rfl ?_
    refine ms_callvI mB_113 mO_113 (by omega) dX11_account_17 mQ_11_68 mC_11_68 mL_17 mO_17 rfl (Nat.le_of_ble_eq_true rfl) (Nat.le_of_ble_eq_true rfl) (gk_3 N) rfl F (fun r2 δ1 F => ?_)
    refine ms_seq mB_113 mO_113 [(.istore 5, 2), (.iload 5, 2)] (pc' := 24) (L' := [.ref 2, .int p0, .int p1, .int p2, .int p3, .int r2]) (st' := [.int r2]) ⟨dX11_account_20, dX11_account_22, trivial⟩ rfl ?_
    refine ms_if_eq mB_113 dX11_account_24 (t := 30) rfl (fun c => ?_) (fun c => ?_)
    · have F := F.1 c
      refine ms_seq mB_113 mO_113 [(.aload_n 0, 1)] (pc' := 31) (L' := [.ref 2, .int p0, .int p1, .int p2, .int p3, .int r2]) (st' := [.ref 2]) ⟨dX11_account_30, trivial⟩ rfl ?_
      refine ms_getR mB_113 mO_113 dX11_account_31 mF_11_19 (gk_2 N) rfl (b := 28) (gr_2_1 N) ?_
      refine ms_seq mB_113 mO_113 [(.iconst 1, 1)] (pc' := 35) (L' := [.ref 2, .int p0, .int p1, .int p2, .int p3, .int r2]) (st' := [.int 1, .ref 28]) ⟨dX11_account_34, trivial⟩ rfl ?_
      refine ms_callvV mB_113 mO_113 (by omega) dX11_account_35 mQ_11_72 mC_11_72 mL_52 mO_52 rfl (Nat.le_of_ble_eq_true rfl) (Nat.le_of_ble_eq_true rfl) (gk_28 N) rfl F (fun δ3 F => ?_)
      refine ms_seq mB_113 mO_113 [(.aload_n 0, 1)] (pc' := 39) (L' := [.ref 2, .int p0, .int p1, .int p2, .int p3, .int r2]) (st' := [.ref 2]) ⟨dX11_account_38, trivial⟩ rfl ?_
      refine ms_getR mB_113 mO_113 dX11_account_39 mF_11_19 (gk_2 N) rfl (b := 28) (gr_2_1 N) ?_
      refine ms_seq mB_113 mO_113 [(.iload_n 1, 1), (.i2l, 1)] (pc' := 44) (L' := [.ref 2, .int p0, .int p1, .int p2, .int p3, .int r2]) (st' := [.long (Int32.toInt64 p0), .ref 28]) ⟨dX11_account_42, dX11_account_43, trivial⟩ rfl ?_
      refine ms_callvV mB_113 mO_113 (by omega) dX11_account_44 mQ_11_75 mC_11_75 mL_53 mO_53 rfl (Nat.le_of_ble_eq_true rfl) (Nat.le_of_ble_eq_true rfl) (gk_28 N) rfl F (fun δ4 F => ?_)
      refine ms_seq mB_113 mO_113 [(.aload_n 0, 1)] (pc' := 48) (L' := [.ref 2, .int p0, .int p1, .int p2, .int p3, .int r2]) (st' := [.ref 2]) ⟨dX11_account_47, trivial⟩ rfl ?_
      refine ms_getR mB_113 mO_113 dX11_account_48 mF_11_19 (gk_2 N) rfl (b := 28) (gr_2_1 N) ?_
      refine ms_seq mB_113 mO_113 [(.iload_n 2, 1), (.i2l, 1)] (pc' := 53) (L' := [.ref 2, .int p0, .int p1, .int p2, .int p3, .int r2]) (st' := [.long (Int32.toInt64 p1), .ref 28]) ⟨dX11_account_51, dX11_account_52, trivial⟩ rfl ?_
      refine ms_callvV mB_113 mO_113 (by omega) dX11_account_53 mQ_11_75 mC_11_75 mL_53 mO_53 rfl (Nat.le_of_ble_eq_true rfl) (Nat.le_of_ble_eq_true rfl) (gk_28 N) rfl F (fun δ5 F => ?_)
      refine ms_seq mB_113 mO_113 [(.aload_n 0, 1)] (pc' := 57) (L' := [.ref 2, .int p0, .int p1, .int p2, .int p3, .int r2]) (st' := [.ref 2]) ⟨dX11_account_56, trivial⟩ rfl ?_
      refine ms_getR mB_113 mO_113 dX11_account_57 mF_11_19 (gk_2 N) rfl (b := 28) (gr_2_1 N) ?_
      refine ms_seq mB_113 mO_113 [(.iload_n 3, 1), (.i2l, 1)] (pc' := 62) (L' := [.ref 2, .int p0, .int p1, .int p2, .int p3, .int r2]) (st' := [.long (Int32.toInt64 p2), .ref 28]) ⟨dX11_account_60, dX11_account_61, trivial⟩ rfl ?_
      refine ms_callvV mB_113 mO_113 (by omega) dX11_account_62 mQ_11_75 mC_11_75 mL_53 mO_53 rfl (Nat.le_of_ble_eq_true rfl) (Nat.le_of_ble_eq_true rfl) (gk_28 N) rfl F (fun δ6 F => ?_)
      refine ms_seq mB_113 mO_113 [(.aload_n 0, 1)] (pc' := 66) (L' := [.ref 2, .int p0, .int p1, .int p2, .int p3, .int r2]) (st' := [.ref 2]) ⟨dX11_account_65, trivial⟩ rfl ?_
      refine ms_getR mB_113 mO_113 dX11_account_66 mF_11_19 (gk_2 N) rfl (b := 28) (gr_2_1 N) ?_
      refine ms_seq mB_113 mO_113 [(.iload 4, 2)] (pc' := 71) (L' := [.ref 2, .int p0, .int p1, .int p2, .int p3, .int r2]) (st' := [.int p3, .ref 28]) ⟨dX11_account_69, trivial⟩ rfl ?_
      refine ms_if_eq mB_113 dX11_account_71 (t := 78) rfl (fun c => ?_) (fun c => ?_)
      · have F := F.1 c
        refine ms_seq mB_113 mO_113 [(.lconst 0, 1)] (pc' := 79) (L' := [.ref 2, .int p0, .int p1, .int p2, .int p3, .int r2]) (st' := [.long 0, .ref 28]) ⟨dX11_account_78, trivial⟩ rfl ?_
        exact F
      · have F := F.2 c
        refine ms_seq mB_113 mO_113 [(.lconst 1, 1)] (pc' := 75) (L' := [.ref 2, .int p0, .int p1, .int p2, .int p3, .int r2]) (st' := [.long 1, .ref 28]) ⟨dX11_account_74, trivial⟩ rfl ?_
        refine ms_goto mB_113 dX11_account_75 (t := 79) rfl ?_
        exact F
    · have F := F.2 c
      refine ms_seq mB_113 mO_113 [(.iload 5, 2)] (pc' := 29) (L' := [.ref 2, .int p0, .int p1, .int p2, .int p3, .int r2]) (st' := [.int r2]) ⟨dX11_account_27, trivial⟩ rfl ?_
      exact ms_iret mB_113 dX11_account_29 mR_113 ⟨_, rfl, rfl, F⟩
  · have F := F.1 c
    refine ms_seq mB_113 mO_113 [(.bipush (-6), 2)] (pc' := 9) (L' := [.ref 2, .int p0, .int p1, .int p2, .int p3, .null]) (st' := [.int (-6)]) ⟨dX11_account_7, trivial⟩ rfl ?_
    exact ms_iret mB_113 dX11_account_9 mR_113 ⟨_, rfl, rfl, F⟩
set_option maxRecDepth 100000 in
theorem q11_account_79 {N d : Nat} (hd : 5 ≤ d) {l1 l2 l3 l4 l5 : Int32} {s1 : Int64} {δ : mi_D} {Q : Int32 → mi_D → Prop} (F : (mi_wV N (d - 1) 53 0 [.ref 28, .long s1, .null, .null, .null, .null, .null] [] δ (fun δ1 => (mi_wI N (d - 1) 54 0 [.ref 28, .null, .null] [] δ1 (fun r3 δ2 => ((r3 = 0 → Q (-13) δ2) ∧ (¬ r3 = 0 → (mi_wI N (d - 1) 8 0 [.ref 4, .int l1, .int l2, .int l3, .int l4, .null] [] δ2 (fun r5 δ4 => Q r5 δ4))))))))) : mi_wI N d 113 79 [.ref 2, .int l1, .int l2, .int l3, .int l4, .int l5] [.long s1, .ref 28] δ Q := by
  unfold mi_wI
  refine ms_callvV mB_113 mO_113 (by omega) dX11_account_79 mQ_11_75 mC_11_75 mL_53 mO_53 rfl (Nat.le_of_ble_eq_true rfl) (Nat.le_of_ble_eq_true rfl) (gk_28 N) rfl F (fun δ1 F => ?_)
  refine ms_seq mB_113 mO_113 [(.aload_n 0, 1)] (pc' := 83) (L' := [.ref 2, .int l1, .int l2, .int l3, .int l4, .int l5]) (st' := [.ref 2]) ⟨dX11_account_82, trivial⟩ rfl ?_
  refine ms_getR mB_113 mO_113 dX11_account_83 mF_11_19 (gk_2 N) rfl (b := 28) (gr_2_1 N) ?_
  refine ms_callvI mB_113 mO_113 (by omega) dX11_account_86 mQ_11_79 mC_11_79 mL_54 mO_54 rfl (Nat.le_of_ble_eq_true rfl) (Nat.le_of_ble_eq_true rfl) (gk_28 N) rfl F (fun r3 δ2 F => ?_)
  refine ms_if_eq mB_113 dX11_account_89 (t := 110) rfl (fun c => ?_) (fun c => ?_)
  · have F := F.1 c
    refine ms_seq mB_113 mO_113 [(.bipush (-13), 2)] (pc' := 112) (L' := [.ref 2, .int l1, .int l2, .int l3, .int l4, .int l5]) (st' := [.int (-13)]) ⟨dX11_account_110, trivial⟩ rfl ?_
    exact ms_iret mB_113 dX11_account_112 mR_113 ⟨_, rfl, rfl, F⟩
  · have F := F.2 c
    refine ms_seq mB_113 mO_113 [(.aload_n 0, 1)] (pc' := 93) (L' := [.ref 2, .int l1, .int l2, .int l3, .int l4, .int l5]) (st' := [.ref 2]) ⟨dX11_account_92, trivial⟩ rfl ?_
    refine ms_getR mB_113 mO_113 dX11_account_93 mF_11_10 (gk_2 N) rfl (b := 3) (gr_2_0 N) ?_
    refine ms_getR mB_113 mO_113 dX11_account_96 mF_11_53 (gk_3 N) rfl (b := 4) (gr_3_0 N) ?_
    refine ms_seq mB_113 mO_113 [(.iload_n 1, 1), (.iload_n 2, 1), (.iload_n 3, 1), (.iload 4, 2)] (pc' := 104) (L' := [.ref 2, .int l1, .int l2, .int l3, .int l4, .int l5]) (st' := [.int l4, .int l3, .int l2, .int l1, .ref 4]) ⟨dX11_account_99, dX11_account_100, dX11_account_101, dX11_account_102, trivial⟩ rfl ?_
    refine ms_callvI mB_113 mO_113 (by omega) dX11_account_104 mQ_11_83 mC_11_83 mL_8 mO_8 rfl (Nat.le_of_ble_eq_true rfl) (Nat.le_of_ble_eq_true rfl) (gk_4 N) rfl F (fun r5 δ4 F => ?_)
    refine ms_goto mB_113 dX11_account_107 (t := 112) rfl ?_
    exact ms_iret mB_113 dX11_account_112 mR_113 ⟨_, rfl, rfl, F⟩
set_option maxRecDepth 100000 in
theorem q11_shut_0 {N d : Nat} (hd : 5 ≤ d) {p0 p1 : Int32} {δ : mi_D} {Q : Int32 → mi_D → Prop} (F : (((δ.1 2 7) = 0 → Q (-6) δ) ∧ (¬ (δ.1 2 7) = 0 → (mi_wI N (d - 1) 18 0 [.ref 3, .int p0, .int p1] [] δ (fun r2 δ1 => ((r2 = 0 → (mi_wV N (d - 1) 52 0 [.ref 28, .int 2] [] δ1 (fun δ3 => (mi_wV N (d - 1) 53 0 [.ref 28, .long (Int32.toInt64 p0), .null, .null, .null, .null, .null] [] δ3 (fun δ4 => ((p1 = 0 → mi_wI N d 114 56 [.ref 2, .int p0, .int p1, .int r2] [.long 0, .ref 28] δ4 Q) ∧ (¬ p1 = 0 → mi_wI N d 114 56 [.ref 2, .int p0, .int p1, .int r2] [.long 1, .ref 28] δ4 Q))))))) ∧ (¬ r2 = 0 → Q r2 δ1))))))) : mi_wI N d 114 0 [.ref 2, .int p0, .int p1, .null] [] δ Q := by
  unfold mi_wI
  refine ms_seq mB_114 mO_114 [(.aload_n 0, 1)] (pc' := 1) (L' := [.ref 2, .int p0, .int p1, .null]) (st' := [.ref 2]) ⟨dX11_shut_0, trivial⟩ rfl ?_
  refine ms_getI mB_114 mO_114 dX11_shut_1 mF_11_64 (gk_2 N) (Or.inr rfl) ?_
  refine ms_if_ne mB_114 dX11_shut_4 (t := 10) rfl (fun c => ?_) (fun c => ?_)
  · have F := F.2 c
    refine ms_seq mB_114 mO_114 [(.aload_n 0, 1)] (pc' := 11) (L' := [.ref 2, .int p0, .int p1, .null]) (st' := [.ref 2]) ⟨dX11_shut_10, trivial⟩ rfl ?_
    refine ms_getR mB_114 mO_114 dX11_shut_11 mF_11_10 (gk_2 N) rfl (b := 3) (gr_2_0 N) ?_
    refine ms_seq mB_114 mO_114 [(.iload_n 1, 1), (.iload_n 2, 1)] (pc' := 16) (L' := [.ref 2, .int p0, .int p1, .null]) (st' := [.int p1, .int p0, .ref 3]) ⟨dX11_shut_14, dX11_shut_15, trivial⟩ rfl ?_
    refine ms_callvI mB_114 mO_114 (by omega) dX11_shut_16 mQ_11_89 mC_11_89 mL_18 mO_18 rfl (Nat.le_of_ble_eq_true rfl) (Nat.le_of_ble_eq_true rfl) (gk_3 N) rfl F (fun r2 δ1 F => ?_)
    refine ms_seq mB_114 mO_114 [(.istore_n 3, 1), (.iload_n 3, 1)] (pc' := 21) (L' := [.ref 2, .int p0, .int p1, .int r2]) (st' := [.int r2]) ⟨dX11_shut_19, dX11_shut_20, trivial⟩ rfl ?_
    refine ms_if_eq mB_114 dX11_shut_21 (t := 26) rfl (fun c => ?_) (fun c => ?_)
    · have F := F.1 c
      refine ms_seq mB_114 mO_114 [(.aload_n 0, 1)] (pc' := 27) (L' := [.ref 2, .int p0, .int p1, .int r2]) (st' := [.ref 2]) ⟨dX11_shut_26, trivial⟩ rfl ?_
      refine ms_getR mB_114 mO_114 dX11_shut_27 mF_11_19 (gk_2 N) rfl (b := 28) (gr_2_1 N) ?_
      refine ms_seq mB_114 mO_114 [(.iconst 2, 1)] (pc' := 31) (L' := [.ref 2, .int p0, .int p1, .int r2]) (st' := [.int 2, .ref 28]) ⟨dX11_shut_30, trivial⟩ rfl ?_
      refine ms_callvV mB_114 mO_114 (by omega) dX11_shut_31 mQ_11_72 mC_11_72 mL_52 mO_52 rfl (Nat.le_of_ble_eq_true rfl) (Nat.le_of_ble_eq_true rfl) (gk_28 N) rfl F (fun δ3 F => ?_)
      refine ms_seq mB_114 mO_114 [(.aload_n 0, 1)] (pc' := 35) (L' := [.ref 2, .int p0, .int p1, .int r2]) (st' := [.ref 2]) ⟨dX11_shut_34, trivial⟩ rfl ?_
      refine ms_getR mB_114 mO_114 dX11_shut_35 mF_11_19 (gk_2 N) rfl (b := 28) (gr_2_1 N) ?_
      refine ms_seq mB_114 mO_114 [(.iload_n 1, 1), (.i2l, 1)] (pc' := 40) (L' := [.ref 2, .int p0, .int p1, .int r2]) (st' := [.long (Int32.toInt64 p0), .ref 28]) ⟨dX11_shut_38, dX11_shut_39, trivial⟩ rfl ?_
      refine ms_callvV mB_114 mO_114 (by omega) dX11_shut_40 mQ_11_75 mC_11_75 mL_53 mO_53 rfl (Nat.le_of_ble_eq_true rfl) (Nat.le_of_ble_eq_true rfl) (gk_28 N) rfl F (fun δ4 F => ?_)
      refine ms_seq mB_114 mO_114 [(.aload_n 0, 1)] (pc' := 44) (L' := [.ref 2, .int p0, .int p1, .int r2]) (st' := [.ref 2]) ⟨dX11_shut_43, trivial⟩ rfl ?_
      refine ms_getR mB_114 mO_114 dX11_shut_44 mF_11_19 (gk_2 N) rfl (b := 28) (gr_2_1 N) ?_
      refine ms_seq mB_114 mO_114 [(.iload_n 2, 1)] (pc' := 48) (L' := [.ref 2, .int p0, .int p1, .int r2]) (st' := [.int p1, .ref 28]) ⟨dX11_shut_47, trivial⟩ rfl ?_
      refine ms_if_eq mB_114 dX11_shut_48 (t := 55) rfl (fun c => ?_) (fun c => ?_)
      · have F := F.1 c
        refine ms_seq mB_114 mO_114 [(.lconst 0, 1)] (pc' := 56) (L' := [.ref 2, .int p0, .int p1, .int r2]) (st' := [.long 0, .ref 28]) ⟨dX11_shut_55, trivial⟩ rfl ?_
        exact F
      · have F := F.2 c
        refine ms_seq mB_114 mO_114 [(.lconst 1, 1)] (pc' := 52) (L' := [.ref 2, .int p0, .int p1, .int r2]) (st' := [.long 1, .ref 28]) ⟨dX11_shut_51, trivial⟩ rfl ?_
        refine ms_goto mB_114 dX11_shut_52 (t := 56) rfl ?_
        exact F
    · have F := F.2 c
      refine ms_seq mB_114 mO_114 [(.iload_n 3, 1)] (pc' := 25) (L' := [.ref 2, .int p0, .int p1, .int r2]) (st' := [.int r2]) ⟨dX11_shut_24, trivial⟩ rfl ?_
      exact ms_iret mB_114 dX11_shut_25 mR_114 ⟨_, rfl, rfl, F⟩
  · have F := F.1 c
    refine ms_seq mB_114 mO_114 [(.bipush (-6), 2)] (pc' := 9) (L' := [.ref 2, .int p0, .int p1, .null]) (st' := [.int (-6)]) ⟨dX11_shut_7, trivial⟩ rfl ?_
    exact ms_iret mB_114 dX11_shut_9 mR_114 ⟨_, rfl, rfl, F⟩
set_option maxRecDepth 100000 in
theorem q11_shut_56 {N d : Nat} (hd : 5 ≤ d) {l1 l2 l3 : Int32} {s1 : Int64} {δ : mi_D} {Q : Int32 → mi_D → Prop} (F : (mi_wV N (d - 1) 53 0 [.ref 28, .long s1, .null, .null, .null, .null, .null] [] δ (fun δ1 => (mi_wI N (d - 1) 54 0 [.ref 28, .null, .null] [] δ1 (fun r3 δ2 => ((r3 = 0 → Q (-13) δ2) ∧ (¬ r3 = 0 → (mi_wV N (d - 1) 5 0 [.ref 4, .int l1, .int l2] [] δ2 (fun δ4 => ((l2 = 0 → Q 1 δ4) ∧ (¬ l2 = 0 → Q 0 δ4))))))))))) : mi_wI N d 114 56 [.ref 2, .int l1, .int l2, .int l3] [.long s1, .ref 28] δ Q := by
  unfold mi_wI
  refine ms_callvV mB_114 mO_114 (by omega) dX11_shut_56 mQ_11_75 mC_11_75 mL_53 mO_53 rfl (Nat.le_of_ble_eq_true rfl) (Nat.le_of_ble_eq_true rfl) (gk_28 N) rfl F (fun δ1 F => ?_)
  refine ms_seq mB_114 mO_114 [(.aload_n 0, 1)] (pc' := 60) (L' := [.ref 2, .int l1, .int l2, .int l3]) (st' := [.ref 2]) ⟨dX11_shut_59, trivial⟩ rfl ?_
  refine ms_getR mB_114 mO_114 dX11_shut_60 mF_11_19 (gk_2 N) rfl (b := 28) (gr_2_1 N) ?_
  refine ms_callvI mB_114 mO_114 (by omega) dX11_shut_63 mQ_11_79 mC_11_79 mL_54 mO_54 rfl (Nat.le_of_ble_eq_true rfl) (Nat.le_of_ble_eq_true rfl) (gk_28 N) rfl F (fun r3 δ2 F => ?_)
  refine ms_if_ne mB_114 dX11_shut_66 (t := 72) rfl (fun c => ?_) (fun c => ?_)
  · have F := F.2 c
    refine ms_seq mB_114 mO_114 [(.aload_n 0, 1)] (pc' := 73) (L' := [.ref 2, .int l1, .int l2, .int l3]) (st' := [.ref 2]) ⟨dX11_shut_72, trivial⟩ rfl ?_
    refine ms_getR mB_114 mO_114 dX11_shut_73 mF_11_10 (gk_2 N) rfl (b := 3) (gr_2_0 N) ?_
    refine ms_getR mB_114 mO_114 dX11_shut_76 mF_11_53 (gk_3 N) rfl (b := 4) (gr_3_0 N) ?_
    refine ms_seq mB_114 mO_114 [(.iload_n 1, 1), (.iload_n 2, 1)] (pc' := 81) (L' := [.ref 2, .int l1, .int l2, .int l3]) (st' := [.int l2, .int l1, .ref 4]) ⟨dX11_shut_79, dX11_shut_80, trivial⟩ rfl ?_
    refine ms_callvV mB_114 mO_114 (by omega) dX11_shut_81 mQ_11_93 mC_11_93 mL_5 mO_5 rfl (Nat.le_of_ble_eq_true rfl) (Nat.le_of_ble_eq_true rfl) (gk_4 N) rfl F (fun δ4 F => ?_)
    refine ms_seq mB_114 mO_114 [(.iload_n 2, 1)] (pc' := 85) (L' := [.ref 2, .int l1, .int l2, .int l3]) (st' := [.int l2]) ⟨dX11_shut_84, trivial⟩ rfl ?_
    refine ms_if_eq mB_114 dX11_shut_85 (t := 92) rfl (fun c => ?_) (fun c => ?_)
    · have F := F.1 c
      refine ms_seq mB_114 mO_114 [(.iconst 1, 1)] (pc' := 93) (L' := [.ref 2, .int l1, .int l2, .int l3]) (st' := [.int 1]) ⟨dX11_shut_92, trivial⟩ rfl ?_
      exact ms_iret mB_114 dX11_shut_93 mR_114 ⟨_, rfl, rfl, F⟩
    · have F := F.2 c
      refine ms_seq mB_114 mO_114 [(.iconst 0, 1)] (pc' := 89) (L' := [.ref 2, .int l1, .int l2, .int l3]) (st' := [.int 0]) ⟨dX11_shut_88, trivial⟩ rfl ?_
      refine ms_goto mB_114 dX11_shut_89 (t := 93) rfl ?_
      exact ms_iret mB_114 dX11_shut_93 mR_114 ⟨_, rfl, rfl, F⟩
  · have F := F.1 c
    refine ms_seq mB_114 mO_114 [(.bipush (-13), 2)] (pc' := 71) (L' := [.ref 2, .int l1, .int l2, .int l3]) (st' := [.int (-13)]) ⟨dX11_shut_69, trivial⟩ rfl ?_
    exact ms_iret mB_114 dX11_shut_71 mR_114 ⟨_, rfl, rfl, F⟩
set_option maxRecDepth 100000 in
theorem q11_period_0 {N d : Nat} (hd : 5 ≤ d) {p0 : Int32} {δ : mi_D} {Q : Int32 → mi_D → Prop} (F : (((δ.1 2 7) = 0 → Q (-6) δ) ∧ (¬ (δ.1 2 7) = 0 → (mi_wI N (d - 1) 19 0 [.ref 3, .int p0] [] δ (fun r2 δ1 => ((r2 = 0 → (mi_wV N (d - 1) 52 0 [.ref 28, .int 3] [] δ1 (fun δ3 => (mi_wV N (d - 1) 53 0 [.ref 28, .long (Int32.toInt64 p0), .null, .null, .null, .null, .null] [] δ3 (fun δ4 => (mi_wI N (d - 1) 54 0 [.ref 28, .null, .null] [] δ4 (fun r6 δ5 => ((r6 = 0 → Q (-13) δ5) ∧ (¬ r6 = 0 → (mi_wI N (d - 1) 72 0 [.ref 14, .int p0, .null] [] δ5 (fun r8 δ7 => Q r8 δ7))))))))))) ∧ (¬ r2 = 0 → Q r2 δ1))))))) : mi_wI N d 115 0 [.ref 2, .int p0, .null] [] δ Q := by
  unfold mi_wI
  refine ms_seq mB_115 mO_115 [(.aload_n 0, 1)] (pc' := 1) (L' := [.ref 2, .int p0, .null]) (st' := [.ref 2]) ⟨dX11_period_0, trivial⟩ rfl ?_
  refine ms_getI mB_115 mO_115 dX11_period_1 mF_11_64 (gk_2 N) (Or.inr rfl) ?_
  refine ms_if_ne mB_115 dX11_period_4 (t := 10) rfl (fun c => ?_) (fun c => ?_)
  · have F := F.2 c
    refine ms_seq mB_115 mO_115 [(.aload_n 0, 1)] (pc' := 11) (L' := [.ref 2, .int p0, .null]) (st' := [.ref 2]) ⟨dX11_period_10, trivial⟩ rfl ?_
    refine ms_getR mB_115 mO_115 dX11_period_11 mF_11_10 (gk_2 N) rfl (b := 3) (gr_2_0 N) ?_
    refine ms_seq mB_115 mO_115 [(.iload_n 1, 1)] (pc' := 15) (L' := [.ref 2, .int p0, .null]) (st' := [.int p0, .ref 3]) ⟨dX11_period_14, trivial⟩ rfl ?_
    refine ms_callvI mB_115 mO_115 (by omega) dX11_period_15 mQ_11_97 mC_11_97 mL_19 mO_19 rfl (Nat.le_of_ble_eq_true rfl) (Nat.le_of_ble_eq_true rfl) (gk_3 N) rfl F (fun r2 δ1 F => ?_)
    refine ms_seq mB_115 mO_115 [(.istore_n 2, 1), (.iload_n 2, 1)] (pc' := 20) (L' := [.ref 2, .int p0, .int r2]) (st' := [.int r2]) ⟨dX11_period_18, dX11_period_19, trivial⟩ rfl ?_
    refine ms_if_eq mB_115 dX11_period_20 (t := 25) rfl (fun c => ?_) (fun c => ?_)
    · have F := F.1 c
      refine ms_seq mB_115 mO_115 [(.aload_n 0, 1)] (pc' := 26) (L' := [.ref 2, .int p0, .int r2]) (st' := [.ref 2]) ⟨dX11_period_25, trivial⟩ rfl ?_
      refine ms_getR mB_115 mO_115 dX11_period_26 mF_11_19 (gk_2 N) rfl (b := 28) (gr_2_1 N) ?_
      refine ms_seq mB_115 mO_115 [(.iconst 3, 1)] (pc' := 30) (L' := [.ref 2, .int p0, .int r2]) (st' := [.int 3, .ref 28]) ⟨dX11_period_29, trivial⟩ rfl ?_
      refine ms_callvV mB_115 mO_115 (by omega) dX11_period_30 mQ_11_72 mC_11_72 mL_52 mO_52 rfl (Nat.le_of_ble_eq_true rfl) (Nat.le_of_ble_eq_true rfl) (gk_28 N) rfl F (fun δ3 F => ?_)
      refine ms_seq mB_115 mO_115 [(.aload_n 0, 1)] (pc' := 34) (L' := [.ref 2, .int p0, .int r2]) (st' := [.ref 2]) ⟨dX11_period_33, trivial⟩ rfl ?_
      refine ms_getR mB_115 mO_115 dX11_period_34 mF_11_19 (gk_2 N) rfl (b := 28) (gr_2_1 N) ?_
      refine ms_seq mB_115 mO_115 [(.iload_n 1, 1), (.i2l, 1)] (pc' := 39) (L' := [.ref 2, .int p0, .int r2]) (st' := [.long (Int32.toInt64 p0), .ref 28]) ⟨dX11_period_37, dX11_period_38, trivial⟩ rfl ?_
      refine ms_callvV mB_115 mO_115 (by omega) dX11_period_39 mQ_11_75 mC_11_75 mL_53 mO_53 rfl (Nat.le_of_ble_eq_true rfl) (Nat.le_of_ble_eq_true rfl) (gk_28 N) rfl F (fun δ4 F => ?_)
      refine ms_seq mB_115 mO_115 [(.aload_n 0, 1)] (pc' := 43) (L' := [.ref 2, .int p0, .int r2]) (st' := [.ref 2]) ⟨dX11_period_42, trivial⟩ rfl ?_
      refine ms_getR mB_115 mO_115 dX11_period_43 mF_11_19 (gk_2 N) rfl (b := 28) (gr_2_1 N) ?_
      refine ms_callvI mB_115 mO_115 (by omega) dX11_period_46 mQ_11_79 mC_11_79 mL_54 mO_54 rfl (Nat.le_of_ble_eq_true rfl) (Nat.le_of_ble_eq_true rfl) (gk_28 N) rfl F (fun r6 δ5 F => ?_)
      refine ms_if_eq mB_115 dX11_period_49 (t := 66) rfl (fun c => ?_) (fun c => ?_)
      · have F := F.1 c
        refine ms_seq mB_115 mO_115 [(.bipush (-13), 2)] (pc' := 68) (L' := [.ref 2, .int p0, .int r2]) (st' := [.int (-13)]) ⟨dX11_period_66, trivial⟩ rfl ?_
        exact ms_iret mB_115 dX11_period_68 mR_115 ⟨_, rfl, rfl, F⟩
      · have F := F.2 c
        refine ms_seq mB_115 mO_115 [(.aload_n 0, 1)] (pc' := 53) (L' := [.ref 2, .int p0, .int r2]) (st' := [.ref 2]) ⟨dX11_period_52, trivial⟩ rfl ?_
        refine ms_getR mB_115 mO_115 dX11_period_53 mF_11_10 (gk_2 N) rfl (b := 3) (gr_2_0 N) ?_
        refine ms_getR mB_115 mO_115 dX11_period_56 mF_11_101 (gk_3 N) rfl (b := 14) (gr_3_1 N) ?_
        refine ms_seq mB_115 mO_115 [(.iload_n 1, 1)] (pc' := 60) (L' := [.ref 2, .int p0, .int r2]) (st' := [.int p0, .ref 14]) ⟨dX11_period_59, trivial⟩ rfl ?_
        refine ms_callvI mB_115 mO_115 (by omega) dX11_period_60 mQ_11_105 mC_11_105 mL_72 mO_72 rfl (Nat.le_of_ble_eq_true rfl) (Nat.le_of_ble_eq_true rfl) (gk_14 N) rfl F (fun r8 δ7 F => ?_)
        refine ms_goto mB_115 dX11_period_63 (t := 68) rfl ?_
        exact ms_iret mB_115 dX11_period_68 mR_115 ⟨_, rfl, rfl, F⟩
    · have F := F.2 c
      refine ms_seq mB_115 mO_115 [(.iload_n 2, 1)] (pc' := 24) (L' := [.ref 2, .int p0, .int r2]) (st' := [.int r2]) ⟨dX11_period_23, trivial⟩ rfl ?_
      exact ms_iret mB_115 dX11_period_24 mR_115 ⟨_, rfl, rfl, F⟩
  · have F := F.1 c
    refine ms_seq mB_115 mO_115 [(.bipush (-6), 2)] (pc' := 9) (L' := [.ref 2, .int p0, .null]) (st' := [.int (-6)]) ⟨dX11_period_7, trivial⟩ rfl ?_
    exact ms_iret mB_115 dX11_period_9 mR_115 ⟨_, rfl, rfl, F⟩
set_option maxRecDepth 100000 in
theorem q11_owner_0 {N d : Nat} (hd : 5 ≤ d) {p0 : Int32} {δ : mi_D} {Q : Int32 → mi_D → Prop} (F : (((δ.1 2 7) = 0 → Q (-6) δ) ∧ (¬ (δ.1 2 7) = 0 → (mi_wI N (d - 1) 20 0 [.ref 3, .int p0] [] δ (fun r2 δ1 => ((r2 = 0 → (mi_wV N (d - 1) 52 0 [.ref 28, .int 4] [] δ1 (fun δ3 => (mi_wV N (d - 1) 53 0 [.ref 28, .long (Int32.toInt64 p0), .null, .null, .null, .null, .null] [] δ3 (fun δ4 => (mi_wI N (d - 1) 54 0 [.ref 28, .null, .null] [] δ4 (fun r6 δ5 => ((r6 = 0 → Q (-13) δ5) ∧ (¬ r6 = 0 → (mi_wI N (d - 1) 21 0 [.ref 3, .int p0, .null] [] δ5 (fun r8 δ7 => Q r8 δ7))))))))))) ∧ (¬ r2 = 0 → Q r2 δ1))))))) : mi_wI N d 116 0 [.ref 2, .int p0, .null] [] δ Q := by
  unfold mi_wI
  refine ms_seq mB_116 mO_116 [(.aload_n 0, 1)] (pc' := 1) (L' := [.ref 2, .int p0, .null]) (st' := [.ref 2]) ⟨dX11_owner_0, trivial⟩ rfl ?_
  refine ms_getI mB_116 mO_116 dX11_owner_1 mF_11_64 (gk_2 N) (Or.inr rfl) ?_
  refine ms_if_ne mB_116 dX11_owner_4 (t := 10) rfl (fun c => ?_) (fun c => ?_)
  · have F := F.2 c
    refine ms_seq mB_116 mO_116 [(.aload_n 0, 1)] (pc' := 11) (L' := [.ref 2, .int p0, .null]) (st' := [.ref 2]) ⟨dX11_owner_10, trivial⟩ rfl ?_
    refine ms_getR mB_116 mO_116 dX11_owner_11 mF_11_10 (gk_2 N) rfl (b := 3) (gr_2_0 N) ?_
    refine ms_seq mB_116 mO_116 [(.iload_n 1, 1)] (pc' := 15) (L' := [.ref 2, .int p0, .null]) (st' := [.int p0, .ref 3]) ⟨dX11_owner_14, trivial⟩ rfl ?_
    refine ms_callvI mB_116 mO_116 (by omega) dX11_owner_15 mQ_11_109 mC_11_109 mL_20 mO_20 rfl (Nat.le_of_ble_eq_true rfl) (Nat.le_of_ble_eq_true rfl) (gk_3 N) rfl F (fun r2 δ1 F => ?_)
    refine ms_seq mB_116 mO_116 [(.istore_n 2, 1), (.iload_n 2, 1)] (pc' := 20) (L' := [.ref 2, .int p0, .int r2]) (st' := [.int r2]) ⟨dX11_owner_18, dX11_owner_19, trivial⟩ rfl ?_
    refine ms_if_eq mB_116 dX11_owner_20 (t := 25) rfl (fun c => ?_) (fun c => ?_)
    · have F := F.1 c
      refine ms_seq mB_116 mO_116 [(.aload_n 0, 1)] (pc' := 26) (L' := [.ref 2, .int p0, .int r2]) (st' := [.ref 2]) ⟨dX11_owner_25, trivial⟩ rfl ?_
      refine ms_getR mB_116 mO_116 dX11_owner_26 mF_11_19 (gk_2 N) rfl (b := 28) (gr_2_1 N) ?_
      refine ms_seq mB_116 mO_116 [(.iconst 4, 1)] (pc' := 30) (L' := [.ref 2, .int p0, .int r2]) (st' := [.int 4, .ref 28]) ⟨dX11_owner_29, trivial⟩ rfl ?_
      refine ms_callvV mB_116 mO_116 (by omega) dX11_owner_30 mQ_11_72 mC_11_72 mL_52 mO_52 rfl (Nat.le_of_ble_eq_true rfl) (Nat.le_of_ble_eq_true rfl) (gk_28 N) rfl F (fun δ3 F => ?_)
      refine ms_seq mB_116 mO_116 [(.aload_n 0, 1)] (pc' := 34) (L' := [.ref 2, .int p0, .int r2]) (st' := [.ref 2]) ⟨dX11_owner_33, trivial⟩ rfl ?_
      refine ms_getR mB_116 mO_116 dX11_owner_34 mF_11_19 (gk_2 N) rfl (b := 28) (gr_2_1 N) ?_
      refine ms_seq mB_116 mO_116 [(.iload_n 1, 1), (.i2l, 1)] (pc' := 39) (L' := [.ref 2, .int p0, .int r2]) (st' := [.long (Int32.toInt64 p0), .ref 28]) ⟨dX11_owner_37, dX11_owner_38, trivial⟩ rfl ?_
      refine ms_callvV mB_116 mO_116 (by omega) dX11_owner_39 mQ_11_75 mC_11_75 mL_53 mO_53 rfl (Nat.le_of_ble_eq_true rfl) (Nat.le_of_ble_eq_true rfl) (gk_28 N) rfl F (fun δ4 F => ?_)
      refine ms_seq mB_116 mO_116 [(.aload_n 0, 1)] (pc' := 43) (L' := [.ref 2, .int p0, .int r2]) (st' := [.ref 2]) ⟨dX11_owner_42, trivial⟩ rfl ?_
      refine ms_getR mB_116 mO_116 dX11_owner_43 mF_11_19 (gk_2 N) rfl (b := 28) (gr_2_1 N) ?_
      refine ms_callvI mB_116 mO_116 (by omega) dX11_owner_46 mQ_11_79 mC_11_79 mL_54 mO_54 rfl (Nat.le_of_ble_eq_true rfl) (Nat.le_of_ble_eq_true rfl) (gk_28 N) rfl F (fun r6 δ5 F => ?_)
      refine ms_if_eq mB_116 dX11_owner_49 (t := 63) rfl (fun c => ?_) (fun c => ?_)
      · have F := F.1 c
        refine ms_seq mB_116 mO_116 [(.bipush (-13), 2)] (pc' := 65) (L' := [.ref 2, .int p0, .int r2]) (st' := [.int (-13)]) ⟨dX11_owner_63, trivial⟩ rfl ?_
        exact ms_iret mB_116 dX11_owner_65 mR_116 ⟨_, rfl, rfl, F⟩
      · have F := F.2 c
        refine ms_seq mB_116 mO_116 [(.aload_n 0, 1)] (pc' := 53) (L' := [.ref 2, .int p0, .int r2]) (st' := [.ref 2]) ⟨dX11_owner_52, trivial⟩ rfl ?_
        refine ms_getR mB_116 mO_116 dX11_owner_53 mF_11_10 (gk_2 N) rfl (b := 3) (gr_2_0 N) ?_
        refine ms_seq mB_116 mO_116 [(.iload_n 1, 1)] (pc' := 57) (L' := [.ref 2, .int p0, .int r2]) (st' := [.int p0, .ref 3]) ⟨dX11_owner_56, trivial⟩ rfl ?_
        refine ms_callvI mB_116 mO_116 (by omega) dX11_owner_57 mQ_11_112 mC_11_112 mL_21 mO_21 rfl (Nat.le_of_ble_eq_true rfl) (Nat.le_of_ble_eq_true rfl) (gk_3 N) rfl F (fun r8 δ7 F => ?_)
        refine ms_goto mB_116 dX11_owner_60 (t := 65) rfl ?_
        exact ms_iret mB_116 dX11_owner_65 mR_116 ⟨_, rfl, rfl, F⟩
    · have F := F.2 c
      refine ms_seq mB_116 mO_116 [(.iload_n 2, 1)] (pc' := 24) (L' := [.ref 2, .int p0, .int r2]) (st' := [.int r2]) ⟨dX11_owner_23, trivial⟩ rfl ?_
      exact ms_iret mB_116 dX11_owner_24 mR_116 ⟨_, rfl, rfl, F⟩
  · have F := F.1 c
    refine ms_seq mB_116 mO_116 [(.bipush (-6), 2)] (pc' := 9) (L' := [.ref 2, .int p0, .null]) (st' := [.int (-6)]) ⟨dX11_owner_7, trivial⟩ rfl ?_
    exact ms_iret mB_116 dX11_owner_9 mR_116 ⟨_, rfl, rfl, F⟩
set_option maxRecDepth 100000 in
theorem q11_line_0 {N d : Nat} (hd : 5 ≤ d) {p0 : Int32} {p1 : Int64} {δ : mi_D} {Q : Int32 → mi_D → Prop} (F : (((δ.1 2 7) = 0 → Q (-6) δ) ∧ (¬ (δ.1 2 7) = 0 → (mi_wI N (d - 1) 22 0 [.ref 3, .int p0, .long p1, .null] [] δ (fun r2 δ1 => ((r2 = 0 → (((δ1.1 35 2) < 8 → (mi_wV N (d - 1) 63 0 [.ref 35, .int p0, .long p1, .null] [] δ1 (fun δ3 => Q (δ3.1 35 2) δ3))) ∧ (¬ (δ1.1 35 2) < 8 → Q (-13) δ1))) ∧ (¬ r2 = 0 → Q r2 δ1))))))) : mi_wI N d 117 0 [.ref 2, .int p0, .long p1, .null, .null] [] δ Q := by
  unfold mi_wI
  refine ms_seq mB_117 mO_117 [(.aload_n 0, 1)] (pc' := 1) (L' := [.ref 2, .int p0, .long p1, .null, .null]) (st' := [.ref 2]) ⟨dX11_line_0, trivial⟩ rfl ?_
  refine ms_getI mB_117 mO_117 dX11_line_1 mF_11_64 (gk_2 N) (Or.inr rfl) ?_
  refine ms_if_ne mB_117 dX11_line_4 (t := 10) rfl (fun c => ?_) (fun c => ?_)
  · have F := F.2 c
    refine ms_seq mB_117 mO_117 [(.aload_n 0, 1)] (pc' := 11) (L' := [.ref 2, .int p0, .long p1, .null, .null]) (st' := [.ref 2]) ⟨dX11_line_10, trivial⟩ rfl ?_
    refine ms_getR mB_117 mO_117 dX11_line_11 mF_11_10 (gk_2 N) rfl (b := 3) (gr_2_0 N) ?_
    refine ms_seq mB_117 mO_117 [(.iload_n 1, 1), (.lload_n 2, 1)] (pc' := 16) (L' := [.ref 2, .int p0, .long p1, .null, .null]) (st' := [.long p1, .int p0, .ref 3]) ⟨dX11_line_14, dX11_line_15, trivial⟩ rfl ?_
    refine ms_callvI mB_117 mO_117 (by omega) dX11_line_16 mQ_11_115 mC_11_115 mL_22 mO_22 rfl (Nat.le_of_ble_eq_true rfl) (Nat.le_of_ble_eq_true rfl) (gk_3 N) rfl F (fun r2 δ1 F => ?_)
    refine ms_seq mB_117 mO_117 [(.istore 4, 2), (.iload 4, 2)] (pc' := 23) (L' := [.ref 2, .int p0, .long p1, .null, .int r2]) (st' := [.int r2]) ⟨dX11_line_19, dX11_line_21, trivial⟩ rfl ?_
    refine ms_if_eq mB_117 dX11_line_23 (t := 29) rfl (fun c => ?_) (fun c => ?_)
    · have F := F.1 c
      refine ms_seq mB_117 mO_117 [(.aload_n 0, 1)] (pc' := 30) (L' := [.ref 2, .int p0, .long p1, .null, .int r2]) (st' := [.ref 2]) ⟨dX11_line_29, trivial⟩ rfl ?_
      refine ms_getR mB_117 mO_117 dX11_line_30 mF_11_37 (gk_2 N) rfl (b := 35) (gr_2_3 N) ?_
      refine ms_getI mB_117 mO_117 dX11_line_33 mF_11_119 (gk_35 N) (Or.inl rfl) ?_
      refine ms_seq mB_117 mO_117 [(.bipush 8, 2)] (pc' := 38) (L' := [.ref 2, .int p0, .long p1, .null, .int r2]) (st' := [.int 8, .int (δ1.1 35 2)]) ⟨dX11_line_36, trivial⟩ rfl ?_
      refine ms_icmp_lt mB_117 dX11_line_38 (t := 44) rfl (fun c => ?_) (fun c => ?_)
      · have F := F.1 c
        refine ms_seq mB_117 mO_117 [(.aload_n 0, 1)] (pc' := 45) (L' := [.ref 2, .int p0, .long p1, .null, .int r2]) (st' := [.ref 2]) ⟨dX11_line_44, trivial⟩ rfl ?_
        refine ms_getR mB_117 mO_117 dX11_line_45 mF_11_37 (gk_2 N) rfl (b := 35) (gr_2_3 N) ?_
        refine ms_seq mB_117 mO_117 [(.iload_n 1, 1), (.lload_n 2, 1)] (pc' := 50) (L' := [.ref 2, .int p0, .long p1, .null, .int r2]) (st' := [.long p1, .int p0, .ref 35]) ⟨dX11_line_48, dX11_line_49, trivial⟩ rfl ?_
        refine ms_callvV mB_117 mO_117 (by omega) dX11_line_50 mQ_11_123 mC_11_123 mL_63 mO_63 rfl (Nat.le_of_ble_eq_true rfl) (Nat.le_of_ble_eq_true rfl) (gk_35 N) rfl F (fun δ3 F => ?_)
        refine ms_seq mB_117 mO_117 [(.aload_n 0, 1)] (pc' := 54) (L' := [.ref 2, .int p0, .long p1, .null, .int r2]) (st' := [.ref 2]) ⟨dX11_line_53, trivial⟩ rfl ?_
        refine ms_getR mB_117 mO_117 dX11_line_54 mF_11_37 (gk_2 N) rfl (b := 35) (gr_2_3 N) ?_
        refine ms_getI mB_117 mO_117 dX11_line_57 mF_11_119 (gk_35 N) (Or.inl rfl) ?_
        exact ms_iret mB_117 dX11_line_60 mR_117 ⟨_, rfl, rfl, F⟩
      · have F := F.2 c
        refine ms_seq mB_117 mO_117 [(.bipush (-13), 2)] (pc' := 43) (L' := [.ref 2, .int p0, .long p1, .null, .int r2]) (st' := [.int (-13)]) ⟨dX11_line_41, trivial⟩ rfl ?_
        exact ms_iret mB_117 dX11_line_43 mR_117 ⟨_, rfl, rfl, F⟩
    · have F := F.2 c
      refine ms_seq mB_117 mO_117 [(.iload 4, 2)] (pc' := 28) (L' := [.ref 2, .int p0, .long p1, .null, .int r2]) (st' := [.int r2]) ⟨dX11_line_26, trivial⟩ rfl ?_
      exact ms_iret mB_117 dX11_line_28 mR_117 ⟨_, rfl, rfl, F⟩
  · have F := F.1 c
    refine ms_seq mB_117 mO_117 [(.bipush (-6), 2)] (pc' := 9) (L' := [.ref 2, .int p0, .long p1, .null, .null]) (st' := [.int (-6)]) ⟨dX11_line_7, trivial⟩ rfl ?_
    exact ms_iret mB_117 dX11_line_9 mR_117 ⟨_, rfl, rfl, F⟩
set_option maxRecDepth 100000 in
theorem q11_drop_0 {N d : Nat} (hd : 5 ≤ d) {δ : mi_D} {Q : Int32 → mi_D → Prop} (F : (((δ.1 2 7) = 0 → Q (-6) δ) ∧ (¬ (δ.1 2 7) = 0 → (∀ x1 : Int32, x1 = (δ.1 35 2) → (mi_wV N (d - 1) 62 0 [.ref 35] [] δ (fun δ2 => Q x1 δ2)))))) : mi_wI N d 118 0 [.ref 2, .null] [] δ Q := by
  unfold mi_wI
  refine ms_seq mB_118 mO_118 [(.aload_n 0, 1)] (pc' := 1) (L' := [.ref 2, .null]) (st' := [.ref 2]) ⟨dX11_drop_0, trivial⟩ rfl ?_
  refine ms_getI mB_118 mO_118 dX11_drop_1 mF_11_64 (gk_2 N) (Or.inr rfl) ?_
  refine ms_if_ne mB_118 dX11_drop_4 (t := 10) rfl (fun c => ?_) (fun c => ?_)
  · have F := F.2 c
    refine ms_seq mB_118 mO_118 [(.aload_n 0, 1)] (pc' := 11) (L' := [.ref 2, .null]) (st' := [.ref 2]) ⟨dX11_drop_10, trivial⟩ rfl ?_
    refine ms_getR mB_118 mO_118 dX11_drop_11 mF_11_37 (gk_2 N) rfl (b := 35) (gr_2_3 N) ?_
    refine ms_getI mB_118 mO_118 dX11_drop_14 mF_11_119 (gk_35 N) (Or.inl rfl) ?_
    refine mr_topi (fun x1 e_x1 => ?_)
    have F := F x1 e_x1
    refine ms_seq mB_118 mO_118 [(.istore_n 1, 1), (.aload_n 0, 1)] (pc' := 19) (L' := [.ref 2, .int x1]) (st' := [.ref 2]) ⟨dX11_drop_17, dX11_drop_18, trivial⟩ rfl ?_
    refine ms_getR mB_118 mO_118 dX11_drop_19 mF_11_37 (gk_2 N) rfl (b := 35) (gr_2_3 N) ?_
    refine ms_callvV mB_118 mO_118 (by omega) dX11_drop_22 mQ_11_126 mC_11_126 mL_62 mO_62 rfl (Nat.le_of_ble_eq_true rfl) (Nat.le_of_ble_eq_true rfl) (gk_35 N) rfl F (fun δ2 F => ?_)
    refine ms_seq mB_118 mO_118 [(.iload_n 1, 1)] (pc' := 26) (L' := [.ref 2, .int x1]) (st' := [.int x1]) ⟨dX11_drop_25, trivial⟩ rfl ?_
    exact ms_iret mB_118 dX11_drop_26 mR_118 ⟨_, rfl, rfl, F⟩
  · have F := F.1 c
    refine ms_seq mB_118 mO_118 [(.bipush (-6), 2)] (pc' := 9) (L' := [.ref 2, .null]) (st' := [.int (-6)]) ⟨dX11_drop_7, trivial⟩ rfl ?_
    exact ms_iret mB_118 dX11_drop_9 mR_118 ⟨_, rfl, rfl, F⟩
set_option maxRecDepth 100000 in
theorem q11_post_0 {N d : Nat} (hd : 5 ≤ d) {p0 p1 : Int32} {δ : mi_D} {Q : Int32 → mi_D → Prop} (F : (((δ.1 2 7) = 0 → Q (-6) δ) ∧ (¬ (δ.1 2 7) = 0 → (mi_wI N (d - 1) 140 0 [.ref 2, .ref 35, .int p0, .int p1, .null, .null] [] δ (fun r2 δ1 => Q r2 δ1))))) : mi_wI N d 119 0 [.ref 2, .int p0, .int p1] [] δ Q := by
  unfold mi_wI
  refine ms_seq mB_119 mO_119 [(.aload_n 0, 1)] (pc' := 1) (L' := [.ref 2, .int p0, .int p1]) (st' := [.ref 2]) ⟨dX11_post_0, trivial⟩ rfl ?_
  refine ms_getI mB_119 mO_119 dX11_post_1 mF_11_64 (gk_2 N) (Or.inr rfl) ?_
  refine ms_if_eq mB_119 dX11_post_4 (t := 20) rfl (fun c => ?_) (fun c => ?_)
  · have F := F.1 c
    refine ms_seq mB_119 mO_119 [(.bipush (-6), 2)] (pc' := 22) (L' := [.ref 2, .int p0, .int p1]) (st' := [.int (-6)]) ⟨dX11_post_20, trivial⟩ rfl ?_
    exact ms_iret mB_119 dX11_post_22 mR_119 ⟨_, rfl, rfl, F⟩
  · have F := F.2 c
    refine ms_seq mB_119 mO_119 [(.aload_n 0, 1), (.aload_n 0, 1)] (pc' := 9) (L' := [.ref 2, .int p0, .int p1]) (st' := [.ref 2, .ref 2]) ⟨dX11_post_7, dX11_post_8, trivial⟩ rfl ?_
    refine ms_getR mB_119 mO_119 dX11_post_9 mF_11_37 (gk_2 N) rfl (b := 35) (gr_2_3 N) ?_
    refine ms_seq mB_119 mO_119 [(.iload_n 1, 1), (.iload_n 2, 1)] (pc' := 14) (L' := [.ref 2, .int p0, .int p1]) (st' := [.int p1, .int p0, .ref 35, .ref 2]) ⟨dX11_post_12, dX11_post_13, trivial⟩ rfl ?_
    refine ms_callvI mB_119 mO_119 (by omega) dX11_post_14 mQ_11_129 mC_11_129 mL_140 mO_140 rfl (Nat.le_of_ble_eq_true rfl) (Nat.le_of_ble_eq_true rfl) (gk_2 N) rfl F (fun r2 δ1 F => ?_)
    refine ms_goto mB_119 dX11_post_17 (t := 22) rfl ?_
    exact ms_iret mB_119 dX11_post_22 mR_119 ⟨_, rfl, rfl, F⟩
set_option maxRecDepth 100000 in
theorem q11_back_0 {N d : Nat} (hd : 5 ≤ d) {p0 p1 : Int32} {δ : mi_D} {Q : Int32 → mi_D → Prop} (F : (((δ.1 2 7) = 0 → Q (-6) δ) ∧ (¬ (δ.1 2 7) = 0 → (mi_wI N (d - 1) 28 0 [.ref 3, .int p0, .int p1, .ref 38] [] δ (fun r2 δ1 => ((r2 = 0 → (mi_wV N (d - 1) 52 0 [.ref 28, .int 6] [] δ1 (fun δ3 => (mi_wV N (d - 1) 53 0 [.ref 28, .long (Int32.toInt64 p0), .null, .null, .null, .null, .null] [] δ3 (fun δ4 => (mi_wV N (d - 1) 53 0 [.ref 28, .long (Int32.toInt64 p1), .null, .null, .null, .null, .null] [] δ4 (fun δ5 => (mi_wI N (d - 1) 54 0 [.ref 28, .null, .null] [] δ5 (fun r7 δ6 => ((r7 = 0 → Q (-13) δ6) ∧ (¬ r7 = 0 → (mi_wI N (d - 1) 29 0 [.ref 3, .int p0, .int p1, .ref 38, .null] [] δ6 (fun r9 δ8 => Q r9 δ8))))))))))))) ∧ (¬ r2 = 0 → Q r2 δ1))))))) : mi_wI N d 120 0 [.ref 2, .int p0, .int p1, .null] [] δ Q := by
  unfold mi_wI
  refine ms_seq mB_120 mO_120 [(.aload_n 0, 1)] (pc' := 1) (L' := [.ref 2, .int p0, .int p1, .null]) (st' := [.ref 2]) ⟨dX11_back_0, trivial⟩ rfl ?_
  refine ms_getI mB_120 mO_120 dX11_back_1 mF_11_64 (gk_2 N) (Or.inr rfl) ?_
  refine ms_if_ne mB_120 dX11_back_4 (t := 10) rfl (fun c => ?_) (fun c => ?_)
  · have F := F.2 c
    refine ms_seq mB_120 mO_120 [(.aload_n 0, 1)] (pc' := 11) (L' := [.ref 2, .int p0, .int p1, .null]) (st' := [.ref 2]) ⟨dX11_back_10, trivial⟩ rfl ?_
    refine ms_getR mB_120 mO_120 dX11_back_11 mF_11_10 (gk_2 N) rfl (b := 3) (gr_2_0 N) ?_
    refine ms_seq mB_120 mO_120 [(.iload_n 1, 1), (.iload_n 2, 1), (.aload_n 0, 1)] (pc' := 17) (L' := [.ref 2, .int p0, .int p1, .null]) (st' := [.ref 2, .int p1, .int p0, .ref 3]) ⟨dX11_back_14, dX11_back_15, dX11_back_16, trivial⟩ rfl ?_
    refine ms_getR mB_120 mO_120 dX11_back_17 mF_11_41 (gk_2 N) rfl (b := 38) (gr_2_4 N) ?_
    refine ms_callvI mB_120 mO_120 (by omega) dX11_back_20 mQ_11_133 mC_11_133 mL_28 mO_28 rfl (Nat.le_of_ble_eq_true rfl) (Nat.le_of_ble_eq_true rfl) (gk_3 N) rfl F (fun r2 δ1 F => ?_)
    refine ms_seq mB_120 mO_120 [(.istore_n 3, 1), (.iload_n 3, 1)] (pc' := 25) (L' := [.ref 2, .int p0, .int p1, .int r2]) (st' := [.int r2]) ⟨dX11_back_23, dX11_back_24, trivial⟩ rfl ?_
    refine ms_if_eq mB_120 dX11_back_25 (t := 30) rfl (fun c => ?_) (fun c => ?_)
    · have F := F.1 c
      refine ms_seq mB_120 mO_120 [(.aload_n 0, 1)] (pc' := 31) (L' := [.ref 2, .int p0, .int p1, .int r2]) (st' := [.ref 2]) ⟨dX11_back_30, trivial⟩ rfl ?_
      refine ms_getR mB_120 mO_120 dX11_back_31 mF_11_19 (gk_2 N) rfl (b := 28) (gr_2_1 N) ?_
      refine ms_seq mB_120 mO_120 [(.bipush 6, 2)] (pc' := 36) (L' := [.ref 2, .int p0, .int p1, .int r2]) (st' := [.int 6, .ref 28]) ⟨dX11_back_34, trivial⟩ rfl ?_
      refine ms_callvV mB_120 mO_120 (by omega) dX11_back_36 mQ_11_72 mC_11_72 mL_52 mO_52 rfl (Nat.le_of_ble_eq_true rfl) (Nat.le_of_ble_eq_true rfl) (gk_28 N) rfl F (fun δ3 F => ?_)
      refine ms_seq mB_120 mO_120 [(.aload_n 0, 1)] (pc' := 40) (L' := [.ref 2, .int p0, .int p1, .int r2]) (st' := [.ref 2]) ⟨dX11_back_39, trivial⟩ rfl ?_
      refine ms_getR mB_120 mO_120 dX11_back_40 mF_11_19 (gk_2 N) rfl (b := 28) (gr_2_1 N) ?_
      refine ms_seq mB_120 mO_120 [(.iload_n 1, 1), (.i2l, 1)] (pc' := 45) (L' := [.ref 2, .int p0, .int p1, .int r2]) (st' := [.long (Int32.toInt64 p0), .ref 28]) ⟨dX11_back_43, dX11_back_44, trivial⟩ rfl ?_
      refine ms_callvV mB_120 mO_120 (by omega) dX11_back_45 mQ_11_75 mC_11_75 mL_53 mO_53 rfl (Nat.le_of_ble_eq_true rfl) (Nat.le_of_ble_eq_true rfl) (gk_28 N) rfl F (fun δ4 F => ?_)
      refine ms_seq mB_120 mO_120 [(.aload_n 0, 1)] (pc' := 49) (L' := [.ref 2, .int p0, .int p1, .int r2]) (st' := [.ref 2]) ⟨dX11_back_48, trivial⟩ rfl ?_
      refine ms_getR mB_120 mO_120 dX11_back_49 mF_11_19 (gk_2 N) rfl (b := 28) (gr_2_1 N) ?_
      refine ms_seq mB_120 mO_120 [(.iload_n 2, 1), (.i2l, 1)] (pc' := 54) (L' := [.ref 2, .int p0, .int p1, .int r2]) (st' := [.long (Int32.toInt64 p1), .ref 28]) ⟨dX11_back_52, dX11_back_53, trivial⟩ rfl ?_
      refine ms_callvV mB_120 mO_120 (by omega) dX11_back_54 mQ_11_75 mC_11_75 mL_53 mO_53 rfl (Nat.le_of_ble_eq_true rfl) (Nat.le_of_ble_eq_true rfl) (gk_28 N) rfl F (fun δ5 F => ?_)
      refine ms_seq mB_120 mO_120 [(.aload_n 0, 1)] (pc' := 58) (L' := [.ref 2, .int p0, .int p1, .int r2]) (st' := [.ref 2]) ⟨dX11_back_57, trivial⟩ rfl ?_
      refine ms_getR mB_120 mO_120 dX11_back_58 mF_11_19 (gk_2 N) rfl (b := 28) (gr_2_1 N) ?_
      refine ms_callvI mB_120 mO_120 (by omega) dX11_back_61 mQ_11_79 mC_11_79 mL_54 mO_54 rfl (Nat.le_of_ble_eq_true rfl) (Nat.le_of_ble_eq_true rfl) (gk_28 N) rfl F (fun r7 δ6 F => ?_)
      refine ms_if_eq mB_120 dX11_back_64 (t := 83) rfl (fun c => ?_) (fun c => ?_)
      · have F := F.1 c
        refine ms_seq mB_120 mO_120 [(.bipush (-13), 2)] (pc' := 85) (L' := [.ref 2, .int p0, .int p1, .int r2]) (st' := [.int (-13)]) ⟨dX11_back_83, trivial⟩ rfl ?_
        exact ms_iret mB_120 dX11_back_85 mR_120 ⟨_, rfl, rfl, F⟩
      · have F := F.2 c
        refine ms_seq mB_120 mO_120 [(.aload_n 0, 1)] (pc' := 68) (L' := [.ref 2, .int p0, .int p1, .int r2]) (st' := [.ref 2]) ⟨dX11_back_67, trivial⟩ rfl ?_
        refine ms_getR mB_120 mO_120 dX11_back_68 mF_11_10 (gk_2 N) rfl (b := 3) (gr_2_0 N) ?_
        refine ms_seq mB_120 mO_120 [(.iload_n 1, 1), (.iload_n 2, 1), (.aload_n 0, 1)] (pc' := 74) (L' := [.ref 2, .int p0, .int p1, .int r2]) (st' := [.ref 2, .int p1, .int p0, .ref 3]) ⟨dX11_back_71, dX11_back_72, dX11_back_73, trivial⟩ rfl ?_
        refine ms_getR mB_120 mO_120 dX11_back_74 mF_11_41 (gk_2 N) rfl (b := 38) (gr_2_4 N) ?_
        refine ms_callvI mB_120 mO_120 (by omega) dX11_back_77 mQ_11_137 mC_11_137 mL_29 mO_29 rfl (Nat.le_of_ble_eq_true rfl) (Nat.le_of_ble_eq_true rfl) (gk_3 N) rfl F (fun r9 δ8 F => ?_)
        refine ms_goto mB_120 dX11_back_80 (t := 85) rfl ?_
        exact ms_iret mB_120 dX11_back_85 mR_120 ⟨_, rfl, rfl, F⟩
    · have F := F.2 c
      refine ms_seq mB_120 mO_120 [(.iload_n 3, 1)] (pc' := 29) (L' := [.ref 2, .int p0, .int p1, .int r2]) (st' := [.int r2]) ⟨dX11_back_28, trivial⟩ rfl ?_
      exact ms_iret mB_120 dX11_back_29 mR_120 ⟨_, rfl, rfl, F⟩
  · have F := F.1 c
    refine ms_seq mB_120 mO_120 [(.bipush (-6), 2)] (pc' := 9) (L' := [.ref 2, .int p0, .int p1, .null]) (st' := [.int (-6)]) ⟨dX11_back_7, trivial⟩ rfl ?_
    exact ms_iret mB_120 dX11_back_9 mR_120 ⟨_, rfl, rfl, F⟩
set_option maxRecDepth 100000 in
theorem q11_close_0 {N d : Nat} (hd : 5 ≤ d) {δ : mi_D} {Q : Int32 → mi_D → Prop} (F : (((δ.1 2 7) = 0 → Q (-6) δ) ∧ (¬ (δ.1 2 7) = 0 → (mi_wI N (d - 1) 30 0 [.ref 3, .ref 38] [] δ (fun r2 δ1 => ((r2 = 0 → (mi_wV N (d - 1) 52 0 [.ref 28, .int 7] [] δ1 (fun δ3 => (mi_wI N (d - 1) 54 0 [.ref 28, .null, .null] [] δ3 (fun r5 δ4 => ((r5 = 0 → Q (-13) δ4) ∧ (¬ r5 = 0 → (mi_wI N (d - 1) 33 0 [.ref 3, .ref 38, .null, .null] [] δ4 (fun r7 δ6 => Q r7 δ6))))))))) ∧ (¬ r2 = 0 → Q r2 δ1))))))) : mi_wI N d 121 0 [.ref 2, .null] [] δ Q := by
  unfold mi_wI
  refine ms_seq mB_121 mO_121 [(.aload_n 0, 1)] (pc' := 1) (L' := [.ref 2, .null]) (st' := [.ref 2]) ⟨dX11_close_0, trivial⟩ rfl ?_
  refine ms_getI mB_121 mO_121 dX11_close_1 mF_11_64 (gk_2 N) (Or.inr rfl) ?_
  refine ms_if_ne mB_121 dX11_close_4 (t := 10) rfl (fun c => ?_) (fun c => ?_)
  · have F := F.2 c
    refine ms_seq mB_121 mO_121 [(.aload_n 0, 1)] (pc' := 11) (L' := [.ref 2, .null]) (st' := [.ref 2]) ⟨dX11_close_10, trivial⟩ rfl ?_
    refine ms_getR mB_121 mO_121 dX11_close_11 mF_11_10 (gk_2 N) rfl (b := 3) (gr_2_0 N) ?_
    refine ms_seq mB_121 mO_121 [(.aload_n 0, 1)] (pc' := 15) (L' := [.ref 2, .null]) (st' := [.ref 2, .ref 3]) ⟨dX11_close_14, trivial⟩ rfl ?_
    refine ms_getR mB_121 mO_121 dX11_close_15 mF_11_41 (gk_2 N) rfl (b := 38) (gr_2_4 N) ?_
    refine ms_callvI mB_121 mO_121 (by omega) dX11_close_18 mQ_11_140 mC_11_140 mL_30 mO_30 rfl (Nat.le_of_ble_eq_true rfl) (Nat.le_of_ble_eq_true rfl) (gk_3 N) rfl F (fun r2 δ1 F => ?_)
    refine ms_seq mB_121 mO_121 [(.istore_n 1, 1), (.iload_n 1, 1)] (pc' := 23) (L' := [.ref 2, .int r2]) (st' := [.int r2]) ⟨dX11_close_21, dX11_close_22, trivial⟩ rfl ?_
    refine ms_if_eq mB_121 dX11_close_23 (t := 28) rfl (fun c => ?_) (fun c => ?_)
    · have F := F.1 c
      refine ms_seq mB_121 mO_121 [(.aload_n 0, 1)] (pc' := 29) (L' := [.ref 2, .int r2]) (st' := [.ref 2]) ⟨dX11_close_28, trivial⟩ rfl ?_
      refine ms_getR mB_121 mO_121 dX11_close_29 mF_11_19 (gk_2 N) rfl (b := 28) (gr_2_1 N) ?_
      refine ms_seq mB_121 mO_121 [(.bipush 7, 2)] (pc' := 34) (L' := [.ref 2, .int r2]) (st' := [.int 7, .ref 28]) ⟨dX11_close_32, trivial⟩ rfl ?_
      refine ms_callvV mB_121 mO_121 (by omega) dX11_close_34 mQ_11_72 mC_11_72 mL_52 mO_52 rfl (Nat.le_of_ble_eq_true rfl) (Nat.le_of_ble_eq_true rfl) (gk_28 N) rfl F (fun δ3 F => ?_)
      refine ms_seq mB_121 mO_121 [(.aload_n 0, 1)] (pc' := 38) (L' := [.ref 2, .int r2]) (st' := [.ref 2]) ⟨dX11_close_37, trivial⟩ rfl ?_
      refine ms_getR mB_121 mO_121 dX11_close_38 mF_11_19 (gk_2 N) rfl (b := 28) (gr_2_1 N) ?_
      refine ms_callvI mB_121 mO_121 (by omega) dX11_close_41 mQ_11_79 mC_11_79 mL_54 mO_54 rfl (Nat.le_of_ble_eq_true rfl) (Nat.le_of_ble_eq_true rfl) (gk_28 N) rfl F (fun r5 δ4 F => ?_)
      refine ms_if_eq mB_121 dX11_close_44 (t := 61) rfl (fun c => ?_) (fun c => ?_)
      · have F := F.1 c
        refine ms_seq mB_121 mO_121 [(.bipush (-13), 2)] (pc' := 63) (L' := [.ref 2, .int r2]) (st' := [.int (-13)]) ⟨dX11_close_61, trivial⟩ rfl ?_
        exact ms_iret mB_121 dX11_close_63 mR_121 ⟨_, rfl, rfl, F⟩
      · have F := F.2 c
        refine ms_seq mB_121 mO_121 [(.aload_n 0, 1)] (pc' := 48) (L' := [.ref 2, .int r2]) (st' := [.ref 2]) ⟨dX11_close_47, trivial⟩ rfl ?_
        refine ms_getR mB_121 mO_121 dX11_close_48 mF_11_10 (gk_2 N) rfl (b := 3) (gr_2_0 N) ?_
        refine ms_seq mB_121 mO_121 [(.aload_n 0, 1)] (pc' := 52) (L' := [.ref 2, .int r2]) (st' := [.ref 2, .ref 3]) ⟨dX11_close_51, trivial⟩ rfl ?_
        refine ms_getR mB_121 mO_121 dX11_close_52 mF_11_41 (gk_2 N) rfl (b := 38) (gr_2_4 N) ?_
        refine ms_callvI mB_121 mO_121 (by omega) dX11_close_55 mQ_11_144 mC_11_144 mL_33 mO_33 rfl (Nat.le_of_ble_eq_true rfl) (Nat.le_of_ble_eq_true rfl) (gk_3 N) rfl F (fun r7 δ6 F => ?_)
        refine ms_goto mB_121 dX11_close_58 (t := 63) rfl ?_
        exact ms_iret mB_121 dX11_close_63 mR_121 ⟨_, rfl, rfl, F⟩
    · have F := F.2 c
      refine ms_seq mB_121 mO_121 [(.iload_n 1, 1)] (pc' := 27) (L' := [.ref 2, .int r2]) (st' := [.int r2]) ⟨dX11_close_26, trivial⟩ rfl ?_
      exact ms_iret mB_121 dX11_close_27 mR_121 ⟨_, rfl, rfl, F⟩
  · have F := F.1 c
    refine ms_seq mB_121 mO_121 [(.bipush (-6), 2)] (pc' := 9) (L' := [.ref 2, .null]) (st' := [.int (-6)]) ⟨dX11_close_7, trivial⟩ rfl ?_
    exact ms_iret mB_121 dX11_close_9 mR_121 ⟨_, rfl, rfl, F⟩
set_option maxRecDepth 100000 in
theorem q11_reopen_0 {N d : Nat} (hd : 5 ≤ d) {δ : mi_D} {Q : Int32 → mi_D → Prop} (F : (((δ.1 2 7) = 0 → Q (-6) δ) ∧ (¬ (δ.1 2 7) = 0 → (mi_wI N (d - 1) 34 0 [.ref 3, .ref 38, .null] [] δ (fun r2 δ1 => ((r2 = 0 → (mi_wV N (d - 1) 52 0 [.ref 28, .int 8] [] δ1 (fun δ3 => (mi_wI N (d - 1) 54 0 [.ref 28, .null, .null] [] δ3 (fun r5 δ4 => ((r5 = 0 → Q (-13) δ4) ∧ (¬ r5 = 0 → (mi_wI N (d - 1) 35 0 [.ref 3, .ref 38, .null] [] δ4 (fun r7 δ6 => Q r7 δ6))))))))) ∧ (¬ r2 = 0 → Q r2 δ1))))))) : mi_wI N d 122 0 [.ref 2, .null] [] δ Q := by
  unfold mi_wI
  refine ms_seq mB_122 mO_122 [(.aload_n 0, 1)] (pc' := 1) (L' := [.ref 2, .null]) (st' := [.ref 2]) ⟨dX11_reopen_0, trivial⟩ rfl ?_
  refine ms_getI mB_122 mO_122 dX11_reopen_1 mF_11_64 (gk_2 N) (Or.inr rfl) ?_
  refine ms_if_ne mB_122 dX11_reopen_4 (t := 10) rfl (fun c => ?_) (fun c => ?_)
  · have F := F.2 c
    refine ms_seq mB_122 mO_122 [(.aload_n 0, 1)] (pc' := 11) (L' := [.ref 2, .null]) (st' := [.ref 2]) ⟨dX11_reopen_10, trivial⟩ rfl ?_
    refine ms_getR mB_122 mO_122 dX11_reopen_11 mF_11_10 (gk_2 N) rfl (b := 3) (gr_2_0 N) ?_
    refine ms_seq mB_122 mO_122 [(.aload_n 0, 1)] (pc' := 15) (L' := [.ref 2, .null]) (st' := [.ref 2, .ref 3]) ⟨dX11_reopen_14, trivial⟩ rfl ?_
    refine ms_getR mB_122 mO_122 dX11_reopen_15 mF_11_41 (gk_2 N) rfl (b := 38) (gr_2_4 N) ?_
    refine ms_callvI mB_122 mO_122 (by omega) dX11_reopen_18 mQ_11_147 mC_11_147 mL_34 mO_34 rfl (Nat.le_of_ble_eq_true rfl) (Nat.le_of_ble_eq_true rfl) (gk_3 N) rfl F (fun r2 δ1 F => ?_)
    refine ms_seq mB_122 mO_122 [(.istore_n 1, 1), (.iload_n 1, 1)] (pc' := 23) (L' := [.ref 2, .int r2]) (st' := [.int r2]) ⟨dX11_reopen_21, dX11_reopen_22, trivial⟩ rfl ?_
    refine ms_if_eq mB_122 dX11_reopen_23 (t := 28) rfl (fun c => ?_) (fun c => ?_)
    · have F := F.1 c
      refine ms_seq mB_122 mO_122 [(.aload_n 0, 1)] (pc' := 29) (L' := [.ref 2, .int r2]) (st' := [.ref 2]) ⟨dX11_reopen_28, trivial⟩ rfl ?_
      refine ms_getR mB_122 mO_122 dX11_reopen_29 mF_11_19 (gk_2 N) rfl (b := 28) (gr_2_1 N) ?_
      refine ms_seq mB_122 mO_122 [(.bipush 8, 2)] (pc' := 34) (L' := [.ref 2, .int r2]) (st' := [.int 8, .ref 28]) ⟨dX11_reopen_32, trivial⟩ rfl ?_
      refine ms_callvV mB_122 mO_122 (by omega) dX11_reopen_34 mQ_11_72 mC_11_72 mL_52 mO_52 rfl (Nat.le_of_ble_eq_true rfl) (Nat.le_of_ble_eq_true rfl) (gk_28 N) rfl F (fun δ3 F => ?_)
      refine ms_seq mB_122 mO_122 [(.aload_n 0, 1)] (pc' := 38) (L' := [.ref 2, .int r2]) (st' := [.ref 2]) ⟨dX11_reopen_37, trivial⟩ rfl ?_
      refine ms_getR mB_122 mO_122 dX11_reopen_38 mF_11_19 (gk_2 N) rfl (b := 28) (gr_2_1 N) ?_
      refine ms_callvI mB_122 mO_122 (by omega) dX11_reopen_41 mQ_11_79 mC_11_79 mL_54 mO_54 rfl (Nat.le_of_ble_eq_true rfl) (Nat.le_of_ble_eq_true rfl) (gk_28 N) rfl F (fun r5 δ4 F => ?_)
      refine ms_if_eq mB_122 dX11_reopen_44 (t := 61) rfl (fun c => ?_) (fun c => ?_)
      · have F := F.1 c
        refine ms_seq mB_122 mO_122 [(.bipush (-13), 2)] (pc' := 63) (L' := [.ref 2, .int r2]) (st' := [.int (-13)]) ⟨dX11_reopen_61, trivial⟩ rfl ?_
        exact ms_iret mB_122 dX11_reopen_63 mR_122 ⟨_, rfl, rfl, F⟩
      · have F := F.2 c
        refine ms_seq mB_122 mO_122 [(.aload_n 0, 1)] (pc' := 48) (L' := [.ref 2, .int r2]) (st' := [.ref 2]) ⟨dX11_reopen_47, trivial⟩ rfl ?_
        refine ms_getR mB_122 mO_122 dX11_reopen_48 mF_11_10 (gk_2 N) rfl (b := 3) (gr_2_0 N) ?_
        refine ms_seq mB_122 mO_122 [(.aload_n 0, 1)] (pc' := 52) (L' := [.ref 2, .int r2]) (st' := [.ref 2, .ref 3]) ⟨dX11_reopen_51, trivial⟩ rfl ?_
        refine ms_getR mB_122 mO_122 dX11_reopen_52 mF_11_41 (gk_2 N) rfl (b := 38) (gr_2_4 N) ?_
        refine ms_callvI mB_122 mO_122 (by omega) dX11_reopen_55 mQ_11_150 mC_11_150 mL_35 mO_35 rfl (Nat.le_of_ble_eq_true rfl) (Nat.le_of_ble_eq_true rfl) (gk_3 N) rfl F (fun r7 δ6 F => ?_)
        refine ms_goto mB_122 dX11_reopen_58 (t := 63) rfl ?_
        exact ms_iret mB_122 dX11_reopen_63 mR_122 ⟨_, rfl, rfl, F⟩
    · have F := F.2 c
      refine ms_seq mB_122 mO_122 [(.iload_n 1, 1)] (pc' := 27) (L' := [.ref 2, .int r2]) (st' := [.int r2]) ⟨dX11_reopen_26, trivial⟩ rfl ?_
      exact ms_iret mB_122 dX11_reopen_27 mR_122 ⟨_, rfl, rfl, F⟩
  · have F := F.1 c
    refine ms_seq mB_122 mO_122 [(.bipush (-6), 2)] (pc' := 9) (L' := [.ref 2, .null]) (st' := [.int (-6)]) ⟨dX11_reopen_7, trivial⟩ rfl ?_
    exact ms_iret mB_122 dX11_reopen_9 mR_122 ⟨_, rfl, rfl, F⟩
set_option maxRecDepth 100000 in
theorem q11_share_0 {N d : Nat} (hd : 5 ≤ d) {p0 p2 p3 : Int32} {p1 : Int64} {δ : mi_D} {Q : Int32 → mi_D → Prop} (F : (((δ.1 2 7) = 0 → Q (-6) δ) ∧ (¬ (δ.1 2 7) = 0 → (mi_wI N (d - 1) 141 0 [.ref 2, .int p0, .long p1, .null] [] δ (fun r2 δ1 => ((r2 = 0 → (mi_wV N (d - 1) 142 0 [.ref 2, .int p0, .long p1, .null, .null] [] δ1 (fun δ3 => (mi_wI N (d - 1) 140 0 [.ref 2, .ref 38, .int p2, .int p3, .null, .null] [] δ3 (fun r5 δ4 => Q r5 δ4))))) ∧ (¬ r2 = 0 → Q r2 δ1))))))) : mi_wI N d 123 0 [.ref 2, .int p0, .long p1, .null, .int p2, .int p3, .null] [] δ Q := by
  unfold mi_wI
  refine ms_seq mB_123 mO_123 [(.aload_n 0, 1)] (pc' := 1) (L' := [.ref 2, .int p0, .long p1, .null, .int p2, .int p3, .null]) (st' := [.ref 2]) ⟨dX11_share_0, trivial⟩ rfl ?_
  refine ms_getI mB_123 mO_123 dX11_share_1 mF_11_64 (gk_2 N) (Or.inr rfl) ?_
  refine ms_if_ne mB_123 dX11_share_4 (t := 10) rfl (fun c => ?_) (fun c => ?_)
  · have F := F.2 c
    refine ms_seq mB_123 mO_123 [(.aload_n 0, 1), (.iload_n 1, 1), (.lload_n 2, 1)] (pc' := 13) (L' := [.ref 2, .int p0, .long p1, .null, .int p2, .int p3, .null]) (st' := [.long p1, .int p0, .ref 2]) ⟨dX11_share_10, dX11_share_11, dX11_share_12, trivial⟩ rfl ?_
    refine ms_callvI mB_123 mO_123 (by omega) dX11_share_13 mQ_11_153 mC_11_153 mL_141 mO_141 rfl (Nat.le_of_ble_eq_true rfl) (Nat.le_of_ble_eq_true rfl) (gk_2 N) rfl F (fun r2 δ1 F => ?_)
    refine ms_seq mB_123 mO_123 [(.istore 6, 2), (.iload 6, 2)] (pc' := 20) (L' := [.ref 2, .int p0, .long p1, .null, .int p2, .int p3, .int r2]) (st' := [.int r2]) ⟨dX11_share_16, dX11_share_18, trivial⟩ rfl ?_
    refine ms_if_eq mB_123 dX11_share_20 (t := 26) rfl (fun c => ?_) (fun c => ?_)
    · have F := F.1 c
      refine ms_seq mB_123 mO_123 [(.aload_n 0, 1), (.iload_n 1, 1), (.lload_n 2, 1)] (pc' := 29) (L' := [.ref 2, .int p0, .long p1, .null, .int p2, .int p3, .int r2]) (st' := [.long p1, .int p0, .ref 2]) ⟨dX11_share_26, dX11_share_27, dX11_share_28, trivial⟩ rfl ?_
      refine ms_callvV mB_123 mO_123 (by omega) dX11_share_29 mQ_11_156 mC_11_156 mL_142 mO_142 rfl (Nat.le_of_ble_eq_true rfl) (Nat.le_of_ble_eq_true rfl) (gk_2 N) rfl F (fun δ3 F => ?_)
      refine ms_seq mB_123 mO_123 [(.aload_n 0, 1), (.aload_n 0, 1)] (pc' := 34) (L' := [.ref 2, .int p0, .long p1, .null, .int p2, .int p3, .int r2]) (st' := [.ref 2, .ref 2]) ⟨dX11_share_32, dX11_share_33, trivial⟩ rfl ?_
      refine ms_getR mB_123 mO_123 dX11_share_34 mF_11_41 (gk_2 N) rfl (b := 38) (gr_2_4 N) ?_
      refine ms_seq mB_123 mO_123 [(.iload 4, 2), (.iload 5, 2)] (pc' := 41) (L' := [.ref 2, .int p0, .long p1, .null, .int p2, .int p3, .int r2]) (st' := [.int p3, .int p2, .ref 38, .ref 2]) ⟨dX11_share_37, dX11_share_39, trivial⟩ rfl ?_
      refine ms_callvI mB_123 mO_123 (by omega) dX11_share_41 mQ_11_129 mC_11_129 mL_140 mO_140 rfl (Nat.le_of_ble_eq_true rfl) (Nat.le_of_ble_eq_true rfl) (gk_2 N) rfl F (fun r5 δ4 F => ?_)
      exact ms_iret mB_123 dX11_share_44 mR_123 ⟨_, rfl, rfl, F⟩
    · have F := F.2 c
      refine ms_seq mB_123 mO_123 [(.iload 6, 2)] (pc' := 25) (L' := [.ref 2, .int p0, .long p1, .null, .int p2, .int p3, .int r2]) (st' := [.int r2]) ⟨dX11_share_23, trivial⟩ rfl ?_
      exact ms_iret mB_123 dX11_share_25 mR_123 ⟨_, rfl, rfl, F⟩
  · have F := F.1 c
    refine ms_seq mB_123 mO_123 [(.bipush (-6), 2)] (pc' := 9) (L' := [.ref 2, .int p0, .long p1, .null, .int p2, .int p3, .null]) (st' := [.int (-6)]) ⟨dX11_share_7, trivial⟩ rfl ?_
    exact ms_iret mB_123 dX11_share_9 mR_123 ⟨_, rfl, rfl, F⟩
set_option maxRecDepth 100000 in
theorem q11_sync_0 {N d : Nat} (hd : 5 ≤ d) {δ : mi_D} {Q : Int32 → mi_D → Prop} (F : (((δ.1 2 7) = 0 → Q (-6) δ) ∧ (¬ (δ.1 2 7) = 0 → (mi_wI N (d - 1) 58 0 [.ref 28, .null] [] δ (fun r2 δ1 => Q r2 δ1))))) : mi_wI N d 124 0 [.ref 2] [] δ Q := by
  unfold mi_wI
  refine ms_seq mB_124 mO_124 [(.aload_n 0, 1)] (pc' := 1) (L' := [.ref 2]) (st' := [.ref 2]) ⟨dX11_sync_0, trivial⟩ rfl ?_
  refine ms_getI mB_124 mO_124 dX11_sync_1 mF_11_64 (gk_2 N) (Or.inr rfl) ?_
  refine ms_if_eq mB_124 dX11_sync_4 (t := 17) rfl (fun c => ?_) (fun c => ?_)
  · have F := F.1 c
    refine ms_seq mB_124 mO_124 [(.bipush (-6), 2)] (pc' := 19) (L' := [.ref 2]) (st' := [.int (-6)]) ⟨dX11_sync_17, trivial⟩ rfl ?_
    exact ms_iret mB_124 dX11_sync_19 mR_124 ⟨_, rfl, rfl, F⟩
  · have F := F.2 c
    refine ms_seq mB_124 mO_124 [(.aload_n 0, 1)] (pc' := 8) (L' := [.ref 2]) (st' := [.ref 2]) ⟨dX11_sync_7, trivial⟩ rfl ?_
    refine ms_getR mB_124 mO_124 dX11_sync_8 mF_11_19 (gk_2 N) rfl (b := 28) (gr_2_1 N) ?_
    refine ms_callvI mB_124 mO_124 (by omega) dX11_sync_11 mQ_11_159 mC_11_159 mL_58 mO_58 rfl (Nat.le_of_ble_eq_true rfl) (Nat.le_of_ble_eq_true rfl) (gk_28 N) rfl F (fun r2 δ1 F => ?_)
    refine ms_goto mB_124 dX11_sync_14 (t := 19) rfl ?_
    exact ms_iret mB_124 dX11_sync_19 mR_124 ⟨_, rfl, rfl, F⟩
set_option maxRecDepth 100000 in
theorem q11_crash_0 {N d : Nat} (hd : 5 ≤ d) {p0 p1 : Int32} {δ : mi_D} {Q : Int32 → mi_D → Prop} (F : ((p0 < 0 → Q (-3) δ) ∧ (¬ p0 < 0 → ((p1 < 0 → Q (-3) δ) ∧ (¬ p1 < 0 → ((255 < p1 → Q (-3) δ) ∧ (¬ 255 < p1 → (mi_wV N (d - 1) 59 0 [.ref 28, .int p0, .int p1, .null] [] δ (fun δ1 => (mi_wV N (d - 1) 62 0 [.ref 35] [] δ1 (fun δ2 => (mi_wV N (d - 1) 103 0 [.ref 45] [] δ2 (fun δ3 => (∀ δ4 : mi_D, δ4 = mi_setI δ3 2 7 0 → Q (δ4.1 28 4) δ4)))))))))))))) : mi_wI N d 125 0 [.ref 2, .int p0, .int p1] [] δ Q := by
  unfold mi_wI
  refine ms_seq mB_125 mO_125 [(.iload_n 1, 1)] (pc' := 1) (L' := [.ref 2, .int p0, .int p1]) (st' := [.int p0]) ⟨dX11_crash_0, trivial⟩ rfl ?_
  refine ms_if_lt mB_125 dX11_crash_1 (t := 15) rfl (fun c => ?_) (fun c => ?_)
  · have F := F.1 c
    refine ms_seq mB_125 mO_125 [(.bipush (-3), 2)] (pc' := 17) (L' := [.ref 2, .int p0, .int p1]) (st' := [.int (-3)]) ⟨dX11_crash_15, trivial⟩ rfl ?_
    exact ms_iret mB_125 dX11_crash_17 mR_125 ⟨_, rfl, rfl, F⟩
  · have F := F.2 c
    refine ms_seq mB_125 mO_125 [(.iload_n 2, 1)] (pc' := 5) (L' := [.ref 2, .int p0, .int p1]) (st' := [.int p1]) ⟨dX11_crash_4, trivial⟩ rfl ?_
    refine ms_if_lt mB_125 dX11_crash_5 (t := 15) rfl (fun c => ?_) (fun c => ?_)
    · have F := F.1 c
      refine ms_seq mB_125 mO_125 [(.bipush (-3), 2)] (pc' := 17) (L' := [.ref 2, .int p0, .int p1]) (st' := [.int (-3)]) ⟨dX11_crash_15, trivial⟩ rfl ?_
      exact ms_iret mB_125 dX11_crash_17 mR_125 ⟨_, rfl, rfl, F⟩
    · have F := F.2 c
      refine ms_seq mB_125 mO_125 [(.iload_n 2, 1), (.sipush 255, 3)] (pc' := 12) (L' := [.ref 2, .int p0, .int p1]) (st' := [.int 255, .int p1]) ⟨dX11_crash_8, dX11_crash_9, trivial⟩ rfl ?_
      refine ms_icmp_le mB_125 dX11_crash_12 (t := 18) rfl (fun c => ?_) (fun c => ?_)
      · have F := F.2 c
        refine ms_seq mB_125 mO_125 [(.aload_n 0, 1)] (pc' := 19) (L' := [.ref 2, .int p0, .int p1]) (st' := [.ref 2]) ⟨dX11_crash_18, trivial⟩ rfl ?_
        refine ms_getR mB_125 mO_125 dX11_crash_19 mF_11_19 (gk_2 N) rfl (b := 28) (gr_2_1 N) ?_
        refine ms_seq mB_125 mO_125 [(.iload_n 1, 1), (.iload_n 2, 1)] (pc' := 24) (L' := [.ref 2, .int p0, .int p1]) (st' := [.int p1, .int p0, .ref 28]) ⟨dX11_crash_22, dX11_crash_23, trivial⟩ rfl ?_
        refine ms_callvV mB_125 mO_125 (by omega) dX11_crash_24 mQ_11_163 mC_11_163 mL_59 mO_59 rfl (Nat.le_of_ble_eq_true rfl) (Nat.le_of_ble_eq_true rfl) (gk_28 N) rfl F (fun δ1 F => ?_)
        refine ms_seq mB_125 mO_125 [(.aload_n 0, 1)] (pc' := 28) (L' := [.ref 2, .int p0, .int p1]) (st' := [.ref 2]) ⟨dX11_crash_27, trivial⟩ rfl ?_
        refine ms_getR mB_125 mO_125 dX11_crash_28 mF_11_37 (gk_2 N) rfl (b := 35) (gr_2_3 N) ?_
        refine ms_callvV mB_125 mO_125 (by omega) dX11_crash_31 mQ_11_126 mC_11_126 mL_62 mO_62 rfl (Nat.le_of_ble_eq_true rfl) (Nat.le_of_ble_eq_true rfl) (gk_35 N) rfl F (fun δ2 F => ?_)
        refine ms_seq mB_125 mO_125 [(.aload_n 0, 1)] (pc' := 35) (L' := [.ref 2, .int p0, .int p1]) (st' := [.ref 2]) ⟨dX11_crash_34, trivial⟩ rfl ?_
        refine ms_getR mB_125 mO_125 dX11_crash_35 mF_11_60 (gk_2 N) rfl (b := 45) (gr_2_6 N) ?_
        refine ms_callvV mB_125 mO_125 (by omega) dX11_crash_38 mQ_11_167 mC_11_167 mL_103 mO_103 rfl (Nat.le_of_ble_eq_true rfl) (Nat.le_of_ble_eq_true rfl) (gk_45 N) rfl F (fun δ3 F => ?_)
        refine ms_seq mB_125 mO_125 [(.aload_n 0, 1), (.iconst 0, 1)] (pc' := 43) (L' := [.ref 2, .int p0, .int p1]) (st' := [.int 0, .ref 2]) ⟨dX11_crash_41, dX11_crash_42, trivial⟩ rfl ?_
        refine ms_putZ mB_125 mO_125 dX11_crash_43 mF_11_64 (gk_2 N) rfl rfl (by decide) ?_
        refine mr_st (fun δ4 e_δ4 => ?_)
        have F := F δ4 e_δ4
        refine ms_seq mB_125 mO_125 [(.aload_n 0, 1)] (pc' := 47) (L' := [.ref 2, .int p0, .int p1]) (st' := [.ref 2]) ⟨dX11_crash_46, trivial⟩ rfl ?_
        refine ms_getR mB_125 mO_125 dX11_crash_47 mF_11_19 (gk_2 N) rfl (b := 28) (gr_2_1 N) ?_
        refine ms_getI mB_125 mO_125 dX11_crash_50 mF_11_168 (gk_28 N) (Or.inl rfl) ?_
        exact ms_iret mB_125 dX11_crash_53 mR_125 ⟨_, rfl, rfl, F⟩
      · have F := F.1 c
        refine ms_seq mB_125 mO_125 [(.bipush (-3), 2)] (pc' := 17) (L' := [.ref 2, .int p0, .int p1]) (st' := [.int (-3)]) ⟨dX11_crash_15, trivial⟩ rfl ?_
        exact ms_iret mB_125 dX11_crash_17 mR_125 ⟨_, rfl, rfl, F⟩
set_option maxRecDepth 100000 in
theorem q11_recover_0 {N d : Nat} (hd : 5 ≤ d) {δ : mi_D} {Q : Int32 → mi_D → Prop} (F : (((δ.1 2 7) = 0 → (mi_wV N (d - 1) 16 0 [.ref 3] [] δ (fun δ1 => (mi_wI N (d - 1) 57 0 [.ref 28, .int 0, .null, .null, .null] [] δ1 (fun r3 δ2 => mi_wI N d 126 30 [.ref 2, .int 0, .int 0, .int r3] [] δ2 Q))))) ∧ (¬ (δ.1 2 7) = 0 → Q (-6) δ))) : mi_wI N d 126 0 [.ref 2, .null, .null, .null] [] δ Q := by
  unfold mi_wI
  refine ms_seq mB_126 mO_126 [(.aload_n 0, 1)] (pc' := 1) (L' := [.ref 2, .null, .null, .null]) (st' := [.ref 2]) ⟨dX11_recover_0, trivial⟩ rfl ?_
  refine ms_getI mB_126 mO_126 dX11_recover_1 mF_11_64 (gk_2 N) (Or.inr rfl) ?_
  refine ms_if_eq mB_126 dX11_recover_4 (t := 10) rfl (fun c => ?_) (fun c => ?_)
  · have F := F.1 c
    refine ms_seq mB_126 mO_126 [(.aload_n 0, 1)] (pc' := 11) (L' := [.ref 2, .null, .null, .null]) (st' := [.ref 2]) ⟨dX11_recover_10, trivial⟩ rfl ?_
    refine ms_getR mB_126 mO_126 dX11_recover_11 mF_11_10 (gk_2 N) rfl (b := 3) (gr_2_0 N) ?_
    refine ms_callvV mB_126 mO_126 (by omega) dX11_recover_14 mQ_11_169 mC_11_169 mL_16 mO_16 rfl (Nat.le_of_ble_eq_true rfl) (Nat.le_of_ble_eq_true rfl) (gk_3 N) rfl F (fun δ1 F => ?_)
    refine ms_seq mB_126 mO_126 [(.iconst 0, 1), (.istore_n 1, 1), (.iconst 0, 1), (.istore_n 2, 1), (.aload_n 0, 1)] (pc' := 22) (L' := [.ref 2, .int 0, .int 0, .null]) (st' := [.ref 2]) ⟨dX11_recover_17, dX11_recover_18, dX11_recover_19, dX11_recover_20, dX11_recover_21, trivial⟩ rfl ?_
    refine ms_getR mB_126 mO_126 dX11_recover_22 mF_11_19 (gk_2 N) rfl (b := 28) (gr_2_1 N) ?_
    refine ms_seq mB_126 mO_126 [(.iload_n 1, 1)] (pc' := 26) (L' := [.ref 2, .int 0, .int 0, .null]) (st' := [.int 0, .ref 28]) ⟨dX11_recover_25, trivial⟩ rfl ?_
    refine ms_callvI mB_126 mO_126 (by omega) dX11_recover_26 mQ_11_170 mC_11_170 mL_57 mO_57 rfl (Nat.le_of_ble_eq_true rfl) (Nat.le_of_ble_eq_true rfl) (gk_28 N) rfl F (fun r3 δ2 F => ?_)
    refine ms_seq mB_126 mO_126 [(.istore_n 3, 1)] (pc' := 30) (L' := [.ref 2, .int 0, .int 0, .int r3]) (st' := []) ⟨dX11_recover_29, trivial⟩ rfl ?_
    exact F
  · have F := F.2 c
    refine ms_seq mB_126 mO_126 [(.bipush (-6), 2)] (pc' := 9) (L' := [.ref 2, .null, .null, .null]) (st' := [.int (-6)]) ⟨dX11_recover_7, trivial⟩ rfl ?_
    exact ms_iret mB_126 dX11_recover_9 mR_126 ⟨_, rfl, rfl, F⟩
set_option maxRecDepth 100000 in
theorem q11_recover_30 {N d : Nat} (hd : 5 ≤ d) {l1 l2 l3 : Int32} {δ : mi_D} {Q : Int32 → mi_D → Prop} (F : ((0 < l3 → ((l1 < 6000 → (mi_wI N (d - 1) 82 0 [.ref 31, .int l1, .int l3] [] δ (fun r2 δ1 => ((r2 = 0 → mi_wI N d 126 72 [.ref 2, .int l1, .int l2, .int l3] [] δ1 Q) ∧ (¬ r2 = 0 → (∀ x3 : Int32, x3 = (l1 + l3) → (mi_wI N (d - 1) 57 0 [.ref 28, .int x3, .null, .null, .null] [] δ1 (fun r5 δ4 => mi_wI N d 126 30 [.ref 2, .int x3, .int (l2 + 1), .int r5] [] δ4 Q)))))))) ∧ (¬ l1 < 6000 → mi_wI N d 126 72 [.ref 2, .int l1, .int l2, .int l3] [] δ Q))) ∧ (¬ 0 < l3 → mi_wI N d 126 72 [.ref 2, .int l1, .int l2, .int l3] [] δ Q))) : mi_wI N d 126 30 [.ref 2, .int l1, .int l2, .int l3] [] δ Q := by
  unfold mi_wI
  refine ms_seq mB_126 mO_126 [(.iload_n 3, 1)] (pc' := 31) (L' := [.ref 2, .int l1, .int l2, .int l3]) (st' := [.int l3]) ⟨dX11_recover_30, trivial⟩ rfl ?_
  refine ms_if_le mB_126 dX11_recover_31 (t := 72) rfl (fun c => ?_) (fun c => ?_)
  · have F := F.2 c
    exact F
  · have F := F.1 c
    refine ms_seq mB_126 mO_126 [(.iload_n 1, 1), (.sipush 6000, 3)] (pc' := 38) (L' := [.ref 2, .int l1, .int l2, .int l3]) (st' := [.int 6000, .int l1]) ⟨dX11_recover_34, dX11_recover_35, trivial⟩ rfl ?_
    refine ms_icmp_ge mB_126 dX11_recover_38 (t := 72) rfl (fun c => ?_) (fun c => ?_)
    · have F := F.2 c
      exact F
    · have F := F.1 c
      refine ms_seq mB_126 mO_126 [(.aload_n 0, 1)] (pc' := 42) (L' := [.ref 2, .int l1, .int l2, .int l3]) (st' := [.ref 2]) ⟨dX11_recover_41, trivial⟩ rfl ?_
      refine ms_getR mB_126 mO_126 dX11_recover_42 mF_11_28 (gk_2 N) rfl (b := 31) (gr_2_2 N) ?_
      refine ms_seq mB_126 mO_126 [(.iload_n 1, 1), (.iload_n 3, 1)] (pc' := 47) (L' := [.ref 2, .int l1, .int l2, .int l3]) (st' := [.int l3, .int l1, .ref 31]) ⟨dX11_recover_45, dX11_recover_46, trivial⟩ rfl ?_
      refine ms_callvI mB_126 mO_126 (by omega) dX11_recover_47 mQ_11_173 mC_11_173 mL_82 mO_82 rfl (Nat.le_of_ble_eq_true rfl) (Nat.le_of_ble_eq_true rfl) (gk_31 N) rfl F (fun r2 δ1 F => ?_)
      refine ms_if_eq mB_126 dX11_recover_50 (t := 72) rfl (fun c => ?_) (fun c => ?_)
      · have F := F.1 c
        exact F
      · have F := F.2 c
        refine ms_seq mB_126 mO_126 [(.iload_n 1, 1), (.iload_n 3, 1), (.iadd, 1)] (pc' := 56) (L' := [.ref 2, .int l1, .int l2, .int l3]) (st' := [.int (l1 + l3)]) ⟨dX11_recover_53, dX11_recover_54, dX11_recover_55, trivial⟩ rfl ?_
        refine mr_topi (fun x3 e_x3 => ?_)
        have F := F x3 e_x3
        refine ms_seq mB_126 mO_126 [(.istore_n 1, 1), (.iinc 2 1, 3), (.aload_n 0, 1)] (pc' := 61) (L' := [.ref 2, .int x3, .int (l2 + 1), .int l3]) (st' := [.ref 2]) ⟨dX11_recover_56, dX11_recover_57, dX11_recover_60, trivial⟩ rfl ?_
        refine ms_getR mB_126 mO_126 dX11_recover_61 mF_11_19 (gk_2 N) rfl (b := 28) (gr_2_1 N) ?_
        refine ms_seq mB_126 mO_126 [(.iload_n 1, 1)] (pc' := 65) (L' := [.ref 2, .int x3, .int (l2 + 1), .int l3]) (st' := [.int x3, .ref 28]) ⟨dX11_recover_64, trivial⟩ rfl ?_
        refine ms_callvI mB_126 mO_126 (by omega) dX11_recover_65 mQ_11_170 mC_11_170 mL_57 mO_57 rfl (Nat.le_of_ble_eq_true rfl) (Nat.le_of_ble_eq_true rfl) (gk_28 N) rfl F (fun r5 δ4 F => ?_)
        refine ms_seq mB_126 mO_126 [(.istore_n 3, 1)] (pc' := 69) (L' := [.ref 2, .int x3, .int (l2 + 1), .int r5]) (st' := []) ⟨dX11_recover_68, trivial⟩ rfl ?_
        refine ms_goto mB_126 dX11_recover_69 (t := 30) rfl ?_
        exact F
set_option maxRecDepth 100000 in
theorem q11_recover_72 {N d : Nat} (hd : 5 ≤ d) {l1 l2 l3 : Int32} {δ : mi_D} {Q : Int32 → mi_D → Prop} (F : (mi_wV N (d - 1) 60 0 [.ref 28, .int l1, .int l2] [] δ (fun δ1 => (∀ δ2 : mi_D, δ2 = mi_setI δ1 2 7 1 → Q l2 δ2)))) : mi_wI N d 126 72 [.ref 2, .int l1, .int l2, .int l3] [] δ Q := by
  unfold mi_wI
  refine ms_seq mB_126 mO_126 [(.aload_n 0, 1)] (pc' := 73) (L' := [.ref 2, .int l1, .int l2, .int l3]) (st' := [.ref 2]) ⟨dX11_recover_72, trivial⟩ rfl ?_
  refine ms_getR mB_126 mO_126 dX11_recover_73 mF_11_19 (gk_2 N) rfl (b := 28) (gr_2_1 N) ?_
  refine ms_seq mB_126 mO_126 [(.iload_n 1, 1), (.iload_n 2, 1)] (pc' := 78) (L' := [.ref 2, .int l1, .int l2, .int l3]) (st' := [.int l2, .int l1, .ref 28]) ⟨dX11_recover_76, dX11_recover_77, trivial⟩ rfl ?_
  refine ms_callvV mB_126 mO_126 (by omega) dX11_recover_78 mQ_11_177 mC_11_177 mL_60 mO_60 rfl (Nat.le_of_ble_eq_true rfl) (Nat.le_of_ble_eq_true rfl) (gk_28 N) rfl F (fun δ1 F => ?_)
  refine ms_seq mB_126 mO_126 [(.aload_n 0, 1), (.iconst 1, 1)] (pc' := 83) (L' := [.ref 2, .int l1, .int l2, .int l3]) (st' := [.int 1, .ref 2]) ⟨dX11_recover_81, dX11_recover_82, trivial⟩ rfl ?_
  refine ms_putZ mB_126 mO_126 dX11_recover_83 mF_11_64 (gk_2 N) rfl rfl (by decide) ?_
  refine mr_st (fun δ2 e_δ2 => ?_)
  have F := F δ2 e_δ2
  refine ms_seq mB_126 mO_126 [(.iload_n 2, 1)] (pc' := 87) (L' := [.ref 2, .int l1, .int l2, .int l3]) (st' := [.int l2]) ⟨dX11_recover_86, trivial⟩ rfl ?_
  exact ms_iret mB_126 dX11_recover_87 mR_126 ⟨_, rfl, rfl, F⟩
set_option maxRecDepth 100000 in
theorem q11_byteAt_0 {N d : Nat} (hd : 5 ≤ d) {p0 : Int32} {δ : mi_D} {Q : Int32 → mi_D → Prop} (F : ((p0 < 0 → Q (-2) δ) ∧ (¬ p0 < 0 → ((p0 < (δ.1 28 4) → Q (mi_at δ 29 p0) δ) ∧ (¬ p0 < (δ.1 28 4) → Q (-2) δ))))) : mi_wI N d 127 0 [.ref 2, .int p0] [] δ Q := by
  unfold mi_wI
  refine ms_seq mB_127 mO_127 [(.iload_n 1, 1)] (pc' := 1) (L' := [.ref 2, .int p0]) (st' := [.int p0]) ⟨dX11_byteAt_0, trivial⟩ rfl ?_
  refine ms_if_lt mB_127 dX11_byteAt_1 (t := 29) rfl (fun c => ?_) (fun c => ?_)
  · have F := F.1 c
    refine ms_seq mB_127 mO_127 [(.bipush (-2), 2)] (pc' := 31) (L' := [.ref 2, .int p0]) (st' := [.int (-2)]) ⟨dX11_byteAt_29, trivial⟩ rfl ?_
    exact ms_iret mB_127 dX11_byteAt_31 mR_127 ⟨_, rfl, rfl, F⟩
  · have F := F.2 c
    refine ms_seq mB_127 mO_127 [(.iload_n 1, 1), (.aload_n 0, 1)] (pc' := 6) (L' := [.ref 2, .int p0]) (st' := [.ref 2, .int p0]) ⟨dX11_byteAt_4, dX11_byteAt_5, trivial⟩ rfl ?_
    refine ms_getR mB_127 mO_127 dX11_byteAt_6 mF_11_19 (gk_2 N) rfl (b := 28) (gr_2_1 N) ?_
    refine ms_getI mB_127 mO_127 dX11_byteAt_9 mF_11_168 (gk_28 N) (Or.inl rfl) ?_
    refine ms_icmp_ge mB_127 dX11_byteAt_12 (t := 29) rfl (fun c => ?_) (fun c => ?_)
    · have F := F.2 c
      refine ms_seq mB_127 mO_127 [(.bipush (-2), 2)] (pc' := 31) (L' := [.ref 2, .int p0]) (st' := [.int (-2)]) ⟨dX11_byteAt_29, trivial⟩ rfl ?_
      exact ms_iret mB_127 dX11_byteAt_31 mR_127 ⟨_, rfl, rfl, F⟩
    · have F := F.1 c
      refine ms_seq mB_127 mO_127 [(.aload_n 0, 1)] (pc' := 16) (L' := [.ref 2, .int p0]) (st' := [.ref 2]) ⟨dX11_byteAt_15, trivial⟩ rfl ?_
      refine ms_getR mB_127 mO_127 dX11_byteAt_16 mF_11_19 (gk_2 N) rfl (b := 28) (gr_2_1 N) ?_
      refine ms_getR mB_127 mO_127 dX11_byteAt_19 mF_11_180 (gk_28 N) rfl (b := 29) (gr_28_0 N) ?_
      refine ms_seq mB_127 mO_127 [(.iload_n 1, 1)] (pc' := 23) (L' := [.ref 2, .int p0]) (st' := [.int p0, .ref 29]) ⟨dX11_byteAt_22, trivial⟩ rfl ?_
      refine ms_at mB_127 mO_127 hd dX11_byteAt_23 mQ_11_184 (Nat.le_of_ble_eq_true rfl) (gk_29 N) (mi_ne (gl_29 N)) ?_
      refine ms_goto mB_127 dX11_byteAt_26 (t := 31) rfl ?_
      exact ms_iret mB_127 dX11_byteAt_31 mR_127 ⟨_, rfl, rfl, F⟩
set_option maxRecDepth 100000 in
theorem q11_of_0 {N d : Nat} (hd : 5 ≤ d) {p0 p1 : Int32} {δ : mi_D} {Q : Int32 → mi_D → Prop} (F : (((δ.1 2 7) = 0 → Q (-6) δ) ∧ (¬ (δ.1 2 7) = 0 → (mi_wI N (d - 1) 2 0 [.ref 4, .int p0] [] δ (fun r2 δ1 => ((r2 = 0 → Q (-2) δ1) ∧ (¬ r2 = 0 → (mi_wI N (d - 1) 14 0 [.ref 4, .int p0, .int p1] [] δ1 (fun r4 δ3 => Q r4 δ3))))))))) : mi_wI N d 128 0 [.ref 2, .int p0, .int p1] [] δ Q := by
  unfold mi_wI
  refine ms_seq mB_128 mO_128 [(.aload_n 0, 1)] (pc' := 1) (L' := [.ref 2, .int p0, .int p1]) (st' := [.ref 2]) ⟨dX11_of_0, trivial⟩ rfl ?_
  refine ms_getI mB_128 mO_128 dX11_of_1 mF_11_64 (gk_2 N) (Or.inr rfl) ?_
  refine ms_if_ne mB_128 dX11_of_4 (t := 10) rfl (fun c => ?_) (fun c => ?_)
  · have F := F.2 c
    refine ms_seq mB_128 mO_128 [(.aload_n 0, 1)] (pc' := 11) (L' := [.ref 2, .int p0, .int p1]) (st' := [.ref 2]) ⟨dX11_of_10, trivial⟩ rfl ?_
    refine ms_getR mB_128 mO_128 dX11_of_11 mF_11_10 (gk_2 N) rfl (b := 3) (gr_2_0 N) ?_
    refine ms_getR mB_128 mO_128 dX11_of_14 mF_11_53 (gk_3 N) rfl (b := 4) (gr_3_0 N) ?_
    refine ms_seq mB_128 mO_128 [(.iload_n 1, 1)] (pc' := 18) (L' := [.ref 2, .int p0, .int p1]) (st' := [.int p0, .ref 4]) ⟨dX11_of_17, trivial⟩ rfl ?_
    refine ms_callvI mB_128 mO_128 (by omega) dX11_of_18 mQ_11_189 mC_11_189 mL_2 mO_2 rfl (Nat.le_of_ble_eq_true rfl) (Nat.le_of_ble_eq_true rfl) (gk_4 N) rfl F (fun r2 δ1 F => ?_)
    refine ms_if_eq mB_128 dX11_of_21 (t := 39) rfl (fun c => ?_) (fun c => ?_)
    · have F := F.1 c
      refine ms_seq mB_128 mO_128 [(.bipush (-2), 2)] (pc' := 41) (L' := [.ref 2, .int p0, .int p1]) (st' := [.int (-2)]) ⟨dX11_of_39, trivial⟩ rfl ?_
      exact ms_iret mB_128 dX11_of_41 mR_128 ⟨_, rfl, rfl, F⟩
    · have F := F.2 c
      refine ms_seq mB_128 mO_128 [(.aload_n 0, 1)] (pc' := 25) (L' := [.ref 2, .int p0, .int p1]) (st' := [.ref 2]) ⟨dX11_of_24, trivial⟩ rfl ?_
      refine ms_getR mB_128 mO_128 dX11_of_25 mF_11_10 (gk_2 N) rfl (b := 3) (gr_2_0 N) ?_
      refine ms_getR mB_128 mO_128 dX11_of_28 mF_11_53 (gk_3 N) rfl (b := 4) (gr_3_0 N) ?_
      refine ms_seq mB_128 mO_128 [(.iload_n 1, 1), (.iload_n 2, 1)] (pc' := 33) (L' := [.ref 2, .int p0, .int p1]) (st' := [.int p1, .int p0, .ref 4]) ⟨dX11_of_31, dX11_of_32, trivial⟩ rfl ?_
      refine ms_callvI mB_128 mO_128 (by omega) dX11_of_33 mQ_11_193 mC_11_193 mL_14 mO_14 rfl (Nat.le_of_ble_eq_true rfl) (Nat.le_of_ble_eq_true rfl) (gk_4 N) rfl F (fun r4 δ3 F => ?_)
      refine ms_goto mB_128 dX11_of_36 (t := 41) rfl ?_
      exact ms_iret mB_128 dX11_of_41 mR_128 ⟨_, rfl, rfl, F⟩
  · have F := F.1 c
    refine ms_seq mB_128 mO_128 [(.bipush (-6), 2)] (pc' := 9) (L' := [.ref 2, .int p0, .int p1]) (st' := [.int (-6)]) ⟨dX11_of_7, trivial⟩ rfl ?_
    exact ms_iret mB_128 dX11_of_9 mR_128 ⟨_, rfl, rfl, F⟩
set_option maxRecDepth 100000 in
theorem q11_balance_0 {N d : Nat} (hd : 5 ≤ d) {p0 : Int32} {δ : mi_D} {Q : Int64 → mi_D → Prop} (F : (((δ.1 2 7) = 0 → Q (-9223372036854775808) δ) ∧ (¬ (δ.1 2 7) = 0 → (mi_wI N (d - 1) 2 0 [.ref 4, .int p0] [] δ (fun r2 δ1 => ((r2 = 0 → Q (-9223372036854775808) δ1) ∧ (¬ r2 = 0 → (mi_wL N (d - 1) 11 0 [.ref 4, .int p0, .ref 11, .null, .null, .null] [] δ1 (fun r4 δ3 => Q r4 δ3))))))))) : mi_wL N d 129 0 [.ref 2, .int p0] [] δ Q := by
  unfold mi_wL
  refine ms_seq mB_129 mO_129 [(.aload_n 0, 1)] (pc' := 1) (L' := [.ref 2, .int p0]) (st' := [.ref 2]) ⟨dX11_balance_0, trivial⟩ rfl ?_
  refine ms_getI mB_129 mO_129 dX11_balance_1 mF_11_64 (gk_2 N) (Or.inr rfl) ?_
  refine ms_if_eq mB_129 dX11_balance_4 (t := 21) rfl (fun c => ?_) (fun c => ?_)
  · have F := F.1 c
    refine ms_seq mB_129 mO_129 [(.ldc2_w 197, 3)] (pc' := 24) (L' := [.ref 2, .int p0]) (st' := [.long (-9223372036854775808)]) ⟨dX11_balance_21, trivial⟩ rfl ?_
    exact ms_lret mB_129 dX11_balance_24 mR_129 ⟨_, rfl, rfl, F⟩
  · have F := F.2 c
    refine ms_seq mB_129 mO_129 [(.aload_n 0, 1)] (pc' := 8) (L' := [.ref 2, .int p0]) (st' := [.ref 2]) ⟨dX11_balance_7, trivial⟩ rfl ?_
    refine ms_getR mB_129 mO_129 dX11_balance_8 mF_11_10 (gk_2 N) rfl (b := 3) (gr_2_0 N) ?_
    refine ms_getR mB_129 mO_129 dX11_balance_11 mF_11_53 (gk_3 N) rfl (b := 4) (gr_3_0 N) ?_
    refine ms_seq mB_129 mO_129 [(.iload_n 1, 1)] (pc' := 15) (L' := [.ref 2, .int p0]) (st' := [.int p0, .ref 4]) ⟨dX11_balance_14, trivial⟩ rfl ?_
    refine ms_callvI mB_129 mO_129 (by omega) dX11_balance_15 mQ_11_189 mC_11_189 mL_2 mO_2 rfl (Nat.le_of_ble_eq_true rfl) (Nat.le_of_ble_eq_true rfl) (gk_4 N) rfl F (fun r2 δ1 F => ?_)
    refine ms_if_ne mB_129 dX11_balance_18 (t := 25) rfl (fun c => ?_) (fun c => ?_)
    · have F := F.2 c
      refine ms_seq mB_129 mO_129 [(.aload_n 0, 1)] (pc' := 26) (L' := [.ref 2, .int p0]) (st' := [.ref 2]) ⟨dX11_balance_25, trivial⟩ rfl ?_
      refine ms_getR mB_129 mO_129 dX11_balance_26 mF_11_10 (gk_2 N) rfl (b := 3) (gr_2_0 N) ?_
      refine ms_getR mB_129 mO_129 dX11_balance_29 mF_11_53 (gk_3 N) rfl (b := 4) (gr_3_0 N) ?_
      refine ms_seq mB_129 mO_129 [(.iload_n 1, 1), (.aload_n 0, 1)] (pc' := 34) (L' := [.ref 2, .int p0]) (st' := [.ref 2, .int p0, .ref 4]) ⟨dX11_balance_32, dX11_balance_33, trivial⟩ rfl ?_
      refine ms_getR mB_129 mO_129 dX11_balance_34 mF_11_10 (gk_2 N) rfl (b := 3) (gr_2_0 N) ?_
      refine ms_getR mB_129 mO_129 dX11_balance_37 mF_11_53 (gk_3 N) rfl (b := 4) (gr_3_0 N) ?_
      refine ms_getR mB_129 mO_129 dX11_balance_40 mF_11_199 (gk_4 N) rfl (b := 11) (gr_4_6 N) ?_
      refine ms_callvL mB_129 mO_129 (by omega) dX11_balance_43 mQ_11_203 mC_11_203 mL_11 mO_11 rfl (Nat.le_of_ble_eq_true rfl) (Nat.le_of_ble_eq_true rfl) (gk_4 N) rfl F (fun r4 δ3 F => ?_)
      exact ms_lret mB_129 dX11_balance_46 mR_129 ⟨_, rfl, rfl, F⟩
    · have F := F.1 c
      refine ms_seq mB_129 mO_129 [(.ldc2_w 197, 3)] (pc' := 24) (L' := [.ref 2, .int p0]) (st' := [.long (-9223372036854775808)]) ⟨dX11_balance_21, trivial⟩ rfl ?_
      exact ms_lret mB_129 dX11_balance_24 mR_129 ⟨_, rfl, rfl, F⟩
set_option maxRecDepth 100000 in
theorem q11_sum_0 {N d : Nat} (hd : 5 ≤ d) {p0 p1 p2 : Int32} {δ : mi_D} {Q : Int64 → mi_D → Prop} (F : (((δ.1 2 7) = 0 → Q (-9223372036854775808) δ) ∧ (¬ (δ.1 2 7) = 0 → (mi_wI N (d - 1) 2 0 [.ref 4, .int p0] [] δ (fun r2 δ1 => ((r2 = 0 → Q (-9223372036854775808) δ1) ∧ (¬ r2 = 0 → (mi_wL N (d - 1) 36 0 [.ref 3, .int p0, .int p1, .int p2] [] δ1 (fun r4 δ3 => Q r4 δ3))))))))) : mi_wL N d 130 0 [.ref 2, .int p0, .int p1, .int p2] [] δ Q := by
  unfold mi_wL
  refine ms_seq mB_130 mO_130 [(.aload_n 0, 1)] (pc' := 1) (L' := [.ref 2, .int p0, .int p1, .int p2]) (st' := [.ref 2]) ⟨dX11_sum_0, trivial⟩ rfl ?_
  refine ms_getI mB_130 mO_130 dX11_sum_1 mF_11_64 (gk_2 N) (Or.inr rfl) ?_
  refine ms_if_eq mB_130 dX11_sum_4 (t := 21) rfl (fun c => ?_) (fun c => ?_)
  · have F := F.1 c
    refine ms_seq mB_130 mO_130 [(.ldc2_w 197, 3)] (pc' := 24) (L' := [.ref 2, .int p0, .int p1, .int p2]) (st' := [.long (-9223372036854775808)]) ⟨dX11_sum_21, trivial⟩ rfl ?_
    exact ms_lret mB_130 dX11_sum_24 mR_130 ⟨_, rfl, rfl, F⟩
  · have F := F.2 c
    refine ms_seq mB_130 mO_130 [(.aload_n 0, 1)] (pc' := 8) (L' := [.ref 2, .int p0, .int p1, .int p2]) (st' := [.ref 2]) ⟨dX11_sum_7, trivial⟩ rfl ?_
    refine ms_getR mB_130 mO_130 dX11_sum_8 mF_11_10 (gk_2 N) rfl (b := 3) (gr_2_0 N) ?_
    refine ms_getR mB_130 mO_130 dX11_sum_11 mF_11_53 (gk_3 N) rfl (b := 4) (gr_3_0 N) ?_
    refine ms_seq mB_130 mO_130 [(.iload_n 1, 1)] (pc' := 15) (L' := [.ref 2, .int p0, .int p1, .int p2]) (st' := [.int p0, .ref 4]) ⟨dX11_sum_14, trivial⟩ rfl ?_
    refine ms_callvI mB_130 mO_130 (by omega) dX11_sum_15 mQ_11_189 mC_11_189 mL_2 mO_2 rfl (Nat.le_of_ble_eq_true rfl) (Nat.le_of_ble_eq_true rfl) (gk_4 N) rfl F (fun r2 δ1 F => ?_)
    refine ms_if_ne mB_130 dX11_sum_18 (t := 25) rfl (fun c => ?_) (fun c => ?_)
    · have F := F.2 c
      refine ms_seq mB_130 mO_130 [(.aload_n 0, 1)] (pc' := 26) (L' := [.ref 2, .int p0, .int p1, .int p2]) (st' := [.ref 2]) ⟨dX11_sum_25, trivial⟩ rfl ?_
      refine ms_getR mB_130 mO_130 dX11_sum_26 mF_11_10 (gk_2 N) rfl (b := 3) (gr_2_0 N) ?_
      refine ms_seq mB_130 mO_130 [(.iload_n 1, 1), (.iload_n 2, 1), (.iload_n 3, 1)] (pc' := 32) (L' := [.ref 2, .int p0, .int p1, .int p2]) (st' := [.int p2, .int p1, .int p0, .ref 3]) ⟨dX11_sum_29, dX11_sum_30, dX11_sum_31, trivial⟩ rfl ?_
      refine ms_callvL mB_130 mO_130 (by omega) dX11_sum_32 mQ_11_207 mC_11_207 mL_36 mO_36 rfl (Nat.le_of_ble_eq_true rfl) (Nat.le_of_ble_eq_true rfl) (gk_3 N) rfl F (fun r4 δ3 F => ?_)
      exact ms_lret mB_130 dX11_sum_35 mR_130 ⟨_, rfl, rfl, F⟩
    · have F := F.1 c
      refine ms_seq mB_130 mO_130 [(.ldc2_w 197, 3)] (pc' := 24) (L' := [.ref 2, .int p0, .int p1, .int p2]) (st' := [.long (-9223372036854775808)]) ⟨dX11_sum_21, trivial⟩ rfl ?_
      exact ms_lret mB_130 dX11_sum_24 mR_130 ⟨_, rfl, rfl, F⟩
set_option maxRecDepth 100000 in
theorem q11_entry_0 {N d : Nat} (hd : 5 ≤ d) {p0 p1 : Int32} {δ : mi_D} {Q : Int32 → mi_D → Prop} (F : (((δ.1 2 7) = 0 → Q (-6) δ) ∧ (¬ (δ.1 2 7) = 0 → (mi_wI N (d - 1) 39 0 [.ref 17, .int p0] [] δ (fun r2 δ1 => ((r2 = 0 → Q (-2) δ1) ∧ (¬ r2 = 0 → (mi_wI N (d - 1) 47 0 [.ref 17, .int p0, .int p1] [] δ1 (fun r4 δ3 => Q r4 δ3))))))))) : mi_wI N d 131 0 [.ref 2, .int p0, .int p1] [] δ Q := by
  unfold mi_wI
  refine ms_seq mB_131 mO_131 [(.aload_n 0, 1)] (pc' := 1) (L' := [.ref 2, .int p0, .int p1]) (st' := [.ref 2]) ⟨dX11_entry_0, trivial⟩ rfl ?_
  refine ms_getI mB_131 mO_131 dX11_entry_1 mF_11_64 (gk_2 N) (Or.inr rfl) ?_
  refine ms_if_ne mB_131 dX11_entry_4 (t := 10) rfl (fun c => ?_) (fun c => ?_)
  · have F := F.2 c
    refine ms_seq mB_131 mO_131 [(.aload_n 0, 1)] (pc' := 11) (L' := [.ref 2, .int p0, .int p1]) (st' := [.ref 2]) ⟨dX11_entry_10, trivial⟩ rfl ?_
    refine ms_getR mB_131 mO_131 dX11_entry_11 mF_11_10 (gk_2 N) rfl (b := 3) (gr_2_0 N) ?_
    refine ms_getR mB_131 mO_131 dX11_entry_14 mF_11_211 (gk_3 N) rfl (b := 17) (gr_3_2 N) ?_
    refine ms_seq mB_131 mO_131 [(.iload_n 1, 1)] (pc' := 18) (L' := [.ref 2, .int p0, .int p1]) (st' := [.int p0, .ref 17]) ⟨dX11_entry_17, trivial⟩ rfl ?_
    refine ms_callvI mB_131 mO_131 (by omega) dX11_entry_18 mQ_11_215 mC_11_215 mL_39 mO_39 rfl (Nat.le_of_ble_eq_true rfl) (Nat.le_of_ble_eq_true rfl) (gk_17 N) rfl F (fun r2 δ1 F => ?_)
    refine ms_if_eq mB_131 dX11_entry_21 (t := 39) rfl (fun c => ?_) (fun c => ?_)
    · have F := F.1 c
      refine ms_seq mB_131 mO_131 [(.bipush (-2), 2)] (pc' := 41) (L' := [.ref 2, .int p0, .int p1]) (st' := [.int (-2)]) ⟨dX11_entry_39, trivial⟩ rfl ?_
      exact ms_iret mB_131 dX11_entry_41 mR_131 ⟨_, rfl, rfl, F⟩
    · have F := F.2 c
      refine ms_seq mB_131 mO_131 [(.aload_n 0, 1)] (pc' := 25) (L' := [.ref 2, .int p0, .int p1]) (st' := [.ref 2]) ⟨dX11_entry_24, trivial⟩ rfl ?_
      refine ms_getR mB_131 mO_131 dX11_entry_25 mF_11_10 (gk_2 N) rfl (b := 3) (gr_2_0 N) ?_
      refine ms_getR mB_131 mO_131 dX11_entry_28 mF_11_211 (gk_3 N) rfl (b := 17) (gr_3_2 N) ?_
      refine ms_seq mB_131 mO_131 [(.iload_n 1, 1), (.iload_n 2, 1)] (pc' := 33) (L' := [.ref 2, .int p0, .int p1]) (st' := [.int p1, .int p0, .ref 17]) ⟨dX11_entry_31, dX11_entry_32, trivial⟩ rfl ?_
      refine ms_callvI mB_131 mO_131 (by omega) dX11_entry_33 mQ_11_218 mC_11_218 mL_47 mO_47 rfl (Nat.le_of_ble_eq_true rfl) (Nat.le_of_ble_eq_true rfl) (gk_17 N) rfl F (fun r4 δ3 F => ?_)
      refine ms_goto mB_131 dX11_entry_36 (t := 41) rfl ?_
      exact ms_iret mB_131 dX11_entry_41 mR_131 ⟨_, rfl, rfl, F⟩
  · have F := F.1 c
    refine ms_seq mB_131 mO_131 [(.bipush (-6), 2)] (pc' := 9) (L' := [.ref 2, .int p0, .int p1]) (st' := [.int (-6)]) ⟨dX11_entry_7, trivial⟩ rfl ?_
    exact ms_iret mB_131 dX11_entry_9 mR_131 ⟨_, rfl, rfl, F⟩
set_option maxRecDepth 100000 in
theorem q11_lineOf_0 {N d : Nat} (hd : 5 ≤ d) {p0 p1 p2 : Int32} {δ : mi_D} {Q : Int64 → mi_D → Prop} (F : (((δ.1 2 7) = 0 → Q (-9223372036854775808) δ) ∧ (¬ (δ.1 2 7) = 0 → (mi_wI N (d - 1) 39 0 [.ref 17, .int p0] [] δ (fun r2 δ1 => ((r2 = 0 → Q (-9223372036854775808) δ1) ∧ (¬ r2 = 0 → ((p1 < 0 → Q (-9223372036854775808) δ1) ∧ (¬ p1 < 0 → ((p1 < (mi_at δ1 21 p0) → ((p2 = 0 → (mi_wI N (d - 1) 41 0 [.ref 17, .int p0, .int p1] [] δ1 (fun r4 δ3 => Q (Int32.toInt64 r4) δ3))) ∧ (p2 = 1 → (mi_wL N (d - 1) 42 0 [.ref 17, .int p0, .int p1] [] δ1 (fun r6 δ5 => Q r6 δ5))) ∧ (¬ p2 = 0 → ¬ p2 = 1 → Q (-9223372036854775808) δ1))) ∧ (¬ p1 < (mi_at δ1 21 p0) → Q (-9223372036854775808) δ1))))))))))) : mi_wL N d 132 0 [.ref 2, .int p0, .int p1, .int p2] [] δ Q := by
  unfold mi_wL
  refine ms_seq mB_132 mO_132 [(.aload_n 0, 1)] (pc' := 1) (L' := [.ref 2, .int p0, .int p1, .int p2]) (st' := [.ref 2]) ⟨dX11_lineOf_0, trivial⟩ rfl ?_
  refine ms_getI mB_132 mO_132 dX11_lineOf_1 mF_11_64 (gk_2 N) (Or.inr rfl) ?_
  refine ms_if_eq mB_132 dX11_lineOf_4 (t := 43) rfl (fun c => ?_) (fun c => ?_)
  · have F := F.1 c
    refine ms_seq mB_132 mO_132 [(.ldc2_w 197, 3)] (pc' := 46) (L' := [.ref 2, .int p0, .int p1, .int p2]) (st' := [.long (-9223372036854775808)]) ⟨dX11_lineOf_43, trivial⟩ rfl ?_
    exact ms_lret mB_132 dX11_lineOf_46 mR_132 ⟨_, rfl, rfl, F⟩
  · have F := F.2 c
    refine ms_seq mB_132 mO_132 [(.aload_n 0, 1)] (pc' := 8) (L' := [.ref 2, .int p0, .int p1, .int p2]) (st' := [.ref 2]) ⟨dX11_lineOf_7, trivial⟩ rfl ?_
    refine ms_getR mB_132 mO_132 dX11_lineOf_8 mF_11_10 (gk_2 N) rfl (b := 3) (gr_2_0 N) ?_
    refine ms_getR mB_132 mO_132 dX11_lineOf_11 mF_11_211 (gk_3 N) rfl (b := 17) (gr_3_2 N) ?_
    refine ms_seq mB_132 mO_132 [(.iload_n 1, 1)] (pc' := 15) (L' := [.ref 2, .int p0, .int p1, .int p2]) (st' := [.int p0, .ref 17]) ⟨dX11_lineOf_14, trivial⟩ rfl ?_
    refine ms_callvI mB_132 mO_132 (by omega) dX11_lineOf_15 mQ_11_215 mC_11_215 mL_39 mO_39 rfl (Nat.le_of_ble_eq_true rfl) (Nat.le_of_ble_eq_true rfl) (gk_17 N) rfl F (fun r2 δ1 F => ?_)
    refine ms_if_eq mB_132 dX11_lineOf_18 (t := 43) rfl (fun c => ?_) (fun c => ?_)
    · have F := F.1 c
      refine ms_seq mB_132 mO_132 [(.ldc2_w 197, 3)] (pc' := 46) (L' := [.ref 2, .int p0, .int p1, .int p2]) (st' := [.long (-9223372036854775808)]) ⟨dX11_lineOf_43, trivial⟩ rfl ?_
      exact ms_lret mB_132 dX11_lineOf_46 mR_132 ⟨_, rfl, rfl, F⟩
    · have F := F.2 c
      refine ms_seq mB_132 mO_132 [(.iload_n 2, 1)] (pc' := 22) (L' := [.ref 2, .int p0, .int p1, .int p2]) (st' := [.int p1]) ⟨dX11_lineOf_21, trivial⟩ rfl ?_
      refine ms_if_lt mB_132 dX11_lineOf_22 (t := 43) rfl (fun c => ?_) (fun c => ?_)
      · have F := F.1 c
        refine ms_seq mB_132 mO_132 [(.ldc2_w 197, 3)] (pc' := 46) (L' := [.ref 2, .int p0, .int p1, .int p2]) (st' := [.long (-9223372036854775808)]) ⟨dX11_lineOf_43, trivial⟩ rfl ?_
        exact ms_lret mB_132 dX11_lineOf_46 mR_132 ⟨_, rfl, rfl, F⟩
      · have F := F.2 c
        refine ms_seq mB_132 mO_132 [(.iload_n 2, 1), (.aload_n 0, 1)] (pc' := 27) (L' := [.ref 2, .int p0, .int p1, .int p2]) (st' := [.ref 2, .int p1]) ⟨dX11_lineOf_25, dX11_lineOf_26, trivial⟩ rfl ?_
        refine ms_getR mB_132 mO_132 dX11_lineOf_27 mF_11_10 (gk_2 N) rfl (b := 3) (gr_2_0 N) ?_
        refine ms_getR mB_132 mO_132 dX11_lineOf_30 mF_11_211 (gk_3 N) rfl (b := 17) (gr_3_2 N) ?_
        refine ms_getR mB_132 mO_132 dX11_lineOf_33 mF_11_219 (gk_17 N) rfl (b := 21) (gr_17_3 N) ?_
        refine ms_seq mB_132 mO_132 [(.iload_n 1, 1)] (pc' := 37) (L' := [.ref 2, .int p0, .int p1, .int p2]) (st' := [.int p0, .ref 21, .int p1]) ⟨dX11_lineOf_36, trivial⟩ rfl ?_
        refine ms_at mB_132 mO_132 hd dX11_lineOf_37 mQ_11_184 (Nat.le_of_ble_eq_true rfl) (gk_21 N) (mi_ne (gl_21 N)) ?_
        refine ms_icmp_lt mB_132 dX11_lineOf_40 (t := 47) rfl (fun c => ?_) (fun c => ?_)
        · have F := F.1 c
          refine ms_seq mB_132 mO_132 [(.iload_n 3, 1)] (pc' := 48) (L' := [.ref 2, .int p0, .int p1, .int p2]) (st' := [.int p2]) ⟨dX11_lineOf_47, trivial⟩ rfl ?_
          by_cases n0 : p2 = 0
          · refine ms_pure mB_132 mO_132 (pc' := 76) (L' := [.ref 2, .int p0, .int p1, .int p2]) (st' := []) dX11_lineOf_48 (by rw [n0]; rfl) ?_
            have F := F.1 n0
            refine ms_seq mB_132 mO_132 [(.aload_n 0, 1)] (pc' := 77) (L' := [.ref 2, .int p0, .int p1, .int p2]) (st' := [.ref 2]) ⟨dX11_lineOf_76, trivial⟩ rfl ?_
            refine ms_getR mB_132 mO_132 dX11_lineOf_77 mF_11_10 (gk_2 N) rfl (b := 3) (gr_2_0 N) ?_
            refine ms_getR mB_132 mO_132 dX11_lineOf_80 mF_11_211 (gk_3 N) rfl (b := 17) (gr_3_2 N) ?_
            refine ms_seq mB_132 mO_132 [(.iload_n 1, 1), (.iload_n 2, 1)] (pc' := 85) (L' := [.ref 2, .int p0, .int p1, .int p2]) (st' := [.int p1, .int p0, .ref 17]) ⟨dX11_lineOf_83, dX11_lineOf_84, trivial⟩ rfl ?_
            refine ms_callvI mB_132 mO_132 (by omega) dX11_lineOf_85 mQ_11_222 mC_11_222 mL_41 mO_41 rfl (Nat.le_of_ble_eq_true rfl) (Nat.le_of_ble_eq_true rfl) (gk_17 N) rfl F (fun r4 δ3 F => ?_)
            refine ms_seq mB_132 mO_132 [(.i2l, 1)] (pc' := 89) (L' := [.ref 2, .int p0, .int p1, .int p2]) (st' := [.long (Int32.toInt64 r4)]) ⟨dX11_lineOf_88, trivial⟩ rfl ?_
            exact ms_lret mB_132 dX11_lineOf_89 mR_132 ⟨_, rfl, rfl, F⟩
          have F := F.2
          by_cases n1 : p2 = 1
          · refine ms_pure mB_132 mO_132 (pc' := 90) (L' := [.ref 2, .int p0, .int p1, .int p2]) (st' := []) dX11_lineOf_48 (by rw [n1]; rfl) ?_
            have F := F.1 n1
            refine ms_seq mB_132 mO_132 [(.aload_n 0, 1)] (pc' := 91) (L' := [.ref 2, .int p0, .int p1, .int p2]) (st' := [.ref 2]) ⟨dX11_lineOf_90, trivial⟩ rfl ?_
            refine ms_getR mB_132 mO_132 dX11_lineOf_91 mF_11_10 (gk_2 N) rfl (b := 3) (gr_2_0 N) ?_
            refine ms_getR mB_132 mO_132 dX11_lineOf_94 mF_11_211 (gk_3 N) rfl (b := 17) (gr_3_2 N) ?_
            refine ms_seq mB_132 mO_132 [(.iload_n 1, 1), (.iload_n 2, 1)] (pc' := 99) (L' := [.ref 2, .int p0, .int p1, .int p2]) (st' := [.int p1, .int p0, .ref 17]) ⟨dX11_lineOf_97, dX11_lineOf_98, trivial⟩ rfl ?_
            refine ms_callvL mB_132 mO_132 (by omega) dX11_lineOf_99 mQ_11_225 mC_11_225 mL_42 mO_42 rfl (Nat.le_of_ble_eq_true rfl) (Nat.le_of_ble_eq_true rfl) (gk_17 N) rfl F (fun r6 δ5 F => ?_)
            exact ms_lret mB_132 dX11_lineOf_102 mR_132 ⟨_, rfl, rfl, F⟩
          have F := F.2
          refine ms_look mB_132 dX11_lineOf_48 (t := 103) rfl (by show mi_tgt _ (Op.lookupswitch.offset [(0, 28), (1, 42)] _ _) = _; rw [lv_osw n0 (a := 0) rfl, lv_osw n1 (a := 1) rfl]; rfl) ?_
          have F := F n0
          have F := F n1
          refine ms_seq mB_132 mO_132 [(.ldc2_w 197, 3)] (pc' := 106) (L' := [.ref 2, .int p0, .int p1, .int p2]) (st' := [.long (-9223372036854775808)]) ⟨dX11_lineOf_103, trivial⟩ rfl ?_
          exact ms_lret mB_132 dX11_lineOf_106 mR_132 ⟨_, rfl, rfl, F⟩
        · have F := F.2 c
          refine ms_seq mB_132 mO_132 [(.ldc2_w 197, 3)] (pc' := 46) (L' := [.ref 2, .int p0, .int p1, .int p2]) (st' := [.long (-9223372036854775808)]) ⟨dX11_lineOf_43, trivial⟩ rfl ?_
          exact ms_lret mB_132 dX11_lineOf_46 mR_132 ⟨_, rfl, rfl, F⟩
set_option maxRecDepth 100000 in
theorem q11_ledger_0 {N d : Nat} (hd : 5 ≤ d) {p0 p1 p2 : Int32} {δ : mi_D} {Q : Int64 → mi_D → Prop} (F : (((δ.1 2 7) = 0 → Q (-9223372036854775808) δ) ∧ (¬ (δ.1 2 7) = 0 → (mi_wI N (d - 1) 3 0 [.ref 4, .int p0] [] δ (fun r2 δ1 => ((r2 = 0 → Q (-9223372036854775808) δ1) ∧ (¬ r2 = 0 → ((p1 < 0 → Q (-9223372036854775808) δ1) ∧ (¬ p1 < 0 → ((p1 < (mi_at δ1 9 p0) → (mi_wL N (d - 1) 45 0 [.ref 17, .int p0, .int p1, .int p2, .null, .null, .null, .null, .null] [] δ1 (fun r4 δ3 => Q r4 δ3))) ∧ (¬ p1 < (mi_at δ1 9 p0) → Q (-9223372036854775808) δ1))))))))))) : mi_wL N d 133 0 [.ref 2, .int p0, .int p1, .int p2] [] δ Q := by
  unfold mi_wL
  refine ms_seq mB_133 mO_133 [(.aload_n 0, 1)] (pc' := 1) (L' := [.ref 2, .int p0, .int p1, .int p2]) (st' := [.ref 2]) ⟨dX11_ledger_0, trivial⟩ rfl ?_
  refine ms_getI mB_133 mO_133 dX11_ledger_1 mF_11_64 (gk_2 N) (Or.inr rfl) ?_
  refine ms_if_eq mB_133 dX11_ledger_4 (t := 43) rfl (fun c => ?_) (fun c => ?_)
  · have F := F.1 c
    refine ms_seq mB_133 mO_133 [(.ldc2_w 197, 3)] (pc' := 46) (L' := [.ref 2, .int p0, .int p1, .int p2]) (st' := [.long (-9223372036854775808)]) ⟨dX11_ledger_43, trivial⟩ rfl ?_
    exact ms_lret mB_133 dX11_ledger_46 mR_133 ⟨_, rfl, rfl, F⟩
  · have F := F.2 c
    refine ms_seq mB_133 mO_133 [(.aload_n 0, 1)] (pc' := 8) (L' := [.ref 2, .int p0, .int p1, .int p2]) (st' := [.ref 2]) ⟨dX11_ledger_7, trivial⟩ rfl ?_
    refine ms_getR mB_133 mO_133 dX11_ledger_8 mF_11_10 (gk_2 N) rfl (b := 3) (gr_2_0 N) ?_
    refine ms_getR mB_133 mO_133 dX11_ledger_11 mF_11_53 (gk_3 N) rfl (b := 4) (gr_3_0 N) ?_
    refine ms_seq mB_133 mO_133 [(.iload_n 1, 1)] (pc' := 15) (L' := [.ref 2, .int p0, .int p1, .int p2]) (st' := [.int p0, .ref 4]) ⟨dX11_ledger_14, trivial⟩ rfl ?_
    refine ms_callvI mB_133 mO_133 (by omega) dX11_ledger_15 mQ_11_229 mC_11_229 mL_3 mO_3 rfl (Nat.le_of_ble_eq_true rfl) (Nat.le_of_ble_eq_true rfl) (gk_4 N) rfl F (fun r2 δ1 F => ?_)
    refine ms_if_eq mB_133 dX11_ledger_18 (t := 43) rfl (fun c => ?_) (fun c => ?_)
    · have F := F.1 c
      refine ms_seq mB_133 mO_133 [(.ldc2_w 197, 3)] (pc' := 46) (L' := [.ref 2, .int p0, .int p1, .int p2]) (st' := [.long (-9223372036854775808)]) ⟨dX11_ledger_43, trivial⟩ rfl ?_
      exact ms_lret mB_133 dX11_ledger_46 mR_133 ⟨_, rfl, rfl, F⟩
    · have F := F.2 c
      refine ms_seq mB_133 mO_133 [(.iload_n 2, 1)] (pc' := 22) (L' := [.ref 2, .int p0, .int p1, .int p2]) (st' := [.int p1]) ⟨dX11_ledger_21, trivial⟩ rfl ?_
      refine ms_if_lt mB_133 dX11_ledger_22 (t := 43) rfl (fun c => ?_) (fun c => ?_)
      · have F := F.1 c
        refine ms_seq mB_133 mO_133 [(.ldc2_w 197, 3)] (pc' := 46) (L' := [.ref 2, .int p0, .int p1, .int p2]) (st' := [.long (-9223372036854775808)]) ⟨dX11_ledger_43, trivial⟩ rfl ?_
        exact ms_lret mB_133 dX11_ledger_46 mR_133 ⟨_, rfl, rfl, F⟩
      · have F := F.2 c
        refine ms_seq mB_133 mO_133 [(.iload_n 2, 1), (.aload_n 0, 1)] (pc' := 27) (L' := [.ref 2, .int p0, .int p1, .int p2]) (st' := [.ref 2, .int p1]) ⟨dX11_ledger_25, dX11_ledger_26, trivial⟩ rfl ?_
        refine ms_getR mB_133 mO_133 dX11_ledger_27 mF_11_10 (gk_2 N) rfl (b := 3) (gr_2_0 N) ?_
        refine ms_getR mB_133 mO_133 dX11_ledger_30 mF_11_53 (gk_3 N) rfl (b := 4) (gr_3_0 N) ?_
        refine ms_getR mB_133 mO_133 dX11_ledger_33 mF_11_232 (gk_4 N) rfl (b := 9) (gr_4_4 N) ?_
        refine ms_seq mB_133 mO_133 [(.iload_n 1, 1)] (pc' := 37) (L' := [.ref 2, .int p0, .int p1, .int p2]) (st' := [.int p0, .ref 9, .int p1]) ⟨dX11_ledger_36, trivial⟩ rfl ?_
        refine ms_at mB_133 mO_133 hd dX11_ledger_37 mQ_11_184 (Nat.le_of_ble_eq_true rfl) (gk_9 N) (mi_ne (gl_9 N)) ?_
        refine ms_icmp_lt mB_133 dX11_ledger_40 (t := 47) rfl (fun c => ?_) (fun c => ?_)
        · have F := F.1 c
          refine ms_seq mB_133 mO_133 [(.aload_n 0, 1)] (pc' := 48) (L' := [.ref 2, .int p0, .int p1, .int p2]) (st' := [.ref 2]) ⟨dX11_ledger_47, trivial⟩ rfl ?_
          refine ms_getR mB_133 mO_133 dX11_ledger_48 mF_11_10 (gk_2 N) rfl (b := 3) (gr_2_0 N) ?_
          refine ms_getR mB_133 mO_133 dX11_ledger_51 mF_11_211 (gk_3 N) rfl (b := 17) (gr_3_2 N) ?_
          refine ms_seq mB_133 mO_133 [(.iload_n 1, 1), (.iload_n 2, 1), (.iload_n 3, 1)] (pc' := 57) (L' := [.ref 2, .int p0, .int p1, .int p2]) (st' := [.int p2, .int p1, .int p0, .ref 17]) ⟨dX11_ledger_54, dX11_ledger_55, dX11_ledger_56, trivial⟩ rfl ?_
          refine ms_callvL mB_133 mO_133 (by omega) dX11_ledger_57 mQ_11_233 mC_11_233 mL_45 mO_45 rfl (Nat.le_of_ble_eq_true rfl) (Nat.le_of_ble_eq_true rfl) (gk_17 N) rfl F (fun r4 δ3 F => ?_)
          exact ms_lret mB_133 dX11_ledger_60 mR_133 ⟨_, rfl, rfl, F⟩
        · have F := F.2 c
          refine ms_seq mB_133 mO_133 [(.ldc2_w 197, 3)] (pc' := 46) (L' := [.ref 2, .int p0, .int p1, .int p2]) (st' := [.long (-9223372036854775808)]) ⟨dX11_ledger_43, trivial⟩ rfl ?_
          exact ms_lret mB_133 dX11_ledger_46 mR_133 ⟨_, rfl, rfl, F⟩
set_option maxRecDepth 100000 in
theorem q11_periodOf_0 {N d : Nat} (hd : 5 ≤ d) {p0 p1 : Int32} {δ : mi_D} {Q : Int32 → mi_D → Prop} (F : (((δ.1 2 7) = 0 → Q (-6) δ) ∧ (¬ (δ.1 2 7) = 0 → (mi_wI N (d - 1) 71 0 [.ref 14, .int p0] [] δ (fun r2 δ1 => ((r2 = 0 → Q (-2) δ1) ∧ (¬ r2 = 0 → (mi_wI N (d - 1) 80 0 [.ref 14, .int p0, .int p1] [] δ1 (fun r4 δ3 => Q r4 δ3))))))))) : mi_wI N d 134 0 [.ref 2, .int p0, .int p1] [] δ Q := by
  unfold mi_wI
  refine ms_seq mB_134 mO_134 [(.aload_n 0, 1)] (pc' := 1) (L' := [.ref 2, .int p0, .int p1]) (st' := [.ref 2]) ⟨dX11_periodOf_0, trivial⟩ rfl ?_
  refine ms_getI mB_134 mO_134 dX11_periodOf_1 mF_11_64 (gk_2 N) (Or.inr rfl) ?_
  refine ms_if_ne mB_134 dX11_periodOf_4 (t := 10) rfl (fun c => ?_) (fun c => ?_)
  · have F := F.2 c
    refine ms_seq mB_134 mO_134 [(.aload_n 0, 1)] (pc' := 11) (L' := [.ref 2, .int p0, .int p1]) (st' := [.ref 2]) ⟨dX11_periodOf_10, trivial⟩ rfl ?_
    refine ms_getR mB_134 mO_134 dX11_periodOf_11 mF_11_10 (gk_2 N) rfl (b := 3) (gr_2_0 N) ?_
    refine ms_getR mB_134 mO_134 dX11_periodOf_14 mF_11_101 (gk_3 N) rfl (b := 14) (gr_3_1 N) ?_
    refine ms_seq mB_134 mO_134 [(.iload_n 1, 1)] (pc' := 18) (L' := [.ref 2, .int p0, .int p1]) (st' := [.int p0, .ref 14]) ⟨dX11_periodOf_17, trivial⟩ rfl ?_
    refine ms_callvI mB_134 mO_134 (by omega) dX11_periodOf_18 mQ_11_236 mC_11_236 mL_71 mO_71 rfl (Nat.le_of_ble_eq_true rfl) (Nat.le_of_ble_eq_true rfl) (gk_14 N) rfl F (fun r2 δ1 F => ?_)
    refine ms_if_eq mB_134 dX11_periodOf_21 (t := 39) rfl (fun c => ?_) (fun c => ?_)
    · have F := F.1 c
      refine ms_seq mB_134 mO_134 [(.bipush (-2), 2)] (pc' := 41) (L' := [.ref 2, .int p0, .int p1]) (st' := [.int (-2)]) ⟨dX11_periodOf_39, trivial⟩ rfl ?_
      exact ms_iret mB_134 dX11_periodOf_41 mR_134 ⟨_, rfl, rfl, F⟩
    · have F := F.2 c
      refine ms_seq mB_134 mO_134 [(.aload_n 0, 1)] (pc' := 25) (L' := [.ref 2, .int p0, .int p1]) (st' := [.ref 2]) ⟨dX11_periodOf_24, trivial⟩ rfl ?_
      refine ms_getR mB_134 mO_134 dX11_periodOf_25 mF_11_10 (gk_2 N) rfl (b := 3) (gr_2_0 N) ?_
      refine ms_getR mB_134 mO_134 dX11_periodOf_28 mF_11_101 (gk_3 N) rfl (b := 14) (gr_3_1 N) ?_
      refine ms_seq mB_134 mO_134 [(.iload_n 1, 1), (.iload_n 2, 1)] (pc' := 33) (L' := [.ref 2, .int p0, .int p1]) (st' := [.int p1, .int p0, .ref 14]) ⟨dX11_periodOf_31, dX11_periodOf_32, trivial⟩ rfl ?_
      refine ms_callvI mB_134 mO_134 (by omega) dX11_periodOf_33 mQ_11_237 mC_11_237 mL_80 mO_80 rfl (Nat.le_of_ble_eq_true rfl) (Nat.le_of_ble_eq_true rfl) (gk_14 N) rfl F (fun r4 δ3 F => ?_)
      refine ms_goto mB_134 dX11_periodOf_36 (t := 41) rfl ?_
      exact ms_iret mB_134 dX11_periodOf_41 mR_134 ⟨_, rfl, rfl, F⟩
  · have F := F.1 c
    refine ms_seq mB_134 mO_134 [(.bipush (-6), 2)] (pc' := 9) (L' := [.ref 2, .int p0, .int p1]) (st' := [.int (-6)]) ⟨dX11_periodOf_7, trivial⟩ rfl ?_
    exact ms_iret mB_134 dX11_periodOf_9 mR_134 ⟨_, rfl, rfl, F⟩
set_option maxRecDepth 100000 in
theorem q11_sheet_0 {N d : Nat} (hd : 5 ≤ d) {p0 : Int32} {δ : mi_D} {Q : Int32 → mi_D → Prop} (F : (((δ.1 2 7) = 0 → Q (-6) δ) ∧ (¬ (δ.1 2 7) = 0 → ((p0 < 0 → Q (-3) δ) ∧ (¬ p0 < 0 → ((p0 < 3 → (mi_wI N (d - 1) 104 0 [.ref 45, .int p0, .null] [] δ (fun r2 δ1 => ((r2 = 0 → Q (-13) δ1) ∧ (¬ r2 = 0 → Q (δ1.1 45 3) δ1))))) ∧ (¬ p0 < 3 → Q (-3) δ))))))) : mi_wI N d 135 0 [.ref 2, .int p0] [] δ Q := by
  unfold mi_wI
  refine ms_seq mB_135 mO_135 [(.aload_n 0, 1)] (pc' := 1) (L' := [.ref 2, .int p0]) (st' := [.ref 2]) ⟨dX11_sheet_0, trivial⟩ rfl ?_
  refine ms_getI mB_135 mO_135 dX11_sheet_1 mF_11_64 (gk_2 N) (Or.inr rfl) ?_
  refine ms_if_ne mB_135 dX11_sheet_4 (t := 10) rfl (fun c => ?_) (fun c => ?_)
  · have F := F.2 c
    refine ms_seq mB_135 mO_135 [(.iload_n 1, 1)] (pc' := 11) (L' := [.ref 2, .int p0]) (st' := [.int p0]) ⟨dX11_sheet_10, trivial⟩ rfl ?_
    refine ms_if_lt mB_135 dX11_sheet_11 (t := 19) rfl (fun c => ?_) (fun c => ?_)
    · have F := F.1 c
      refine ms_seq mB_135 mO_135 [(.bipush (-3), 2)] (pc' := 21) (L' := [.ref 2, .int p0]) (st' := [.int (-3)]) ⟨dX11_sheet_19, trivial⟩ rfl ?_
      exact ms_iret mB_135 dX11_sheet_21 mR_135 ⟨_, rfl, rfl, F⟩
    · have F := F.2 c
      refine ms_seq mB_135 mO_135 [(.iload_n 1, 1), (.iconst 3, 1)] (pc' := 16) (L' := [.ref 2, .int p0]) (st' := [.int 3, .int p0]) ⟨dX11_sheet_14, dX11_sheet_15, trivial⟩ rfl ?_
      refine ms_icmp_lt mB_135 dX11_sheet_16 (t := 22) rfl (fun c => ?_) (fun c => ?_)
      · have F := F.1 c
        refine ms_seq mB_135 mO_135 [(.aload_n 0, 1)] (pc' := 23) (L' := [.ref 2, .int p0]) (st' := [.ref 2]) ⟨dX11_sheet_22, trivial⟩ rfl ?_
        refine ms_getR mB_135 mO_135 dX11_sheet_23 mF_11_60 (gk_2 N) rfl (b := 45) (gr_2_6 N) ?_
        refine ms_seq mB_135 mO_135 [(.iload_n 1, 1)] (pc' := 27) (L' := [.ref 2, .int p0]) (st' := [.int p0, .ref 45]) ⟨dX11_sheet_26, trivial⟩ rfl ?_
        refine ms_callvI mB_135 mO_135 (by omega) dX11_sheet_27 mQ_11_238 mC_11_238 mL_104 mO_104 rfl (Nat.le_of_ble_eq_true rfl) (Nat.le_of_ble_eq_true rfl) (gk_45 N) rfl F (fun r2 δ1 F => ?_)
        refine ms_if_eq mB_135 dX11_sheet_30 (t := 43) rfl (fun c => ?_) (fun c => ?_)
        · have F := F.1 c
          refine ms_seq mB_135 mO_135 [(.bipush (-13), 2)] (pc' := 45) (L' := [.ref 2, .int p0]) (st' := [.int (-13)]) ⟨dX11_sheet_43, trivial⟩ rfl ?_
          exact ms_iret mB_135 dX11_sheet_45 mR_135 ⟨_, rfl, rfl, F⟩
        · have F := F.2 c
          refine ms_seq mB_135 mO_135 [(.aload_n 0, 1)] (pc' := 34) (L' := [.ref 2, .int p0]) (st' := [.ref 2]) ⟨dX11_sheet_33, trivial⟩ rfl ?_
          refine ms_getR mB_135 mO_135 dX11_sheet_34 mF_11_60 (gk_2 N) rfl (b := 45) (gr_2_6 N) ?_
          refine ms_getI mB_135 mO_135 dX11_sheet_37 mF_11_240 (gk_45 N) (Or.inl rfl) ?_
          refine ms_goto mB_135 dX11_sheet_40 (t := 45) rfl ?_
          exact ms_iret mB_135 dX11_sheet_45 mR_135 ⟨_, rfl, rfl, F⟩
      · have F := F.2 c
        refine ms_seq mB_135 mO_135 [(.bipush (-3), 2)] (pc' := 21) (L' := [.ref 2, .int p0]) (st' := [.int (-3)]) ⟨dX11_sheet_19, trivial⟩ rfl ?_
        exact ms_iret mB_135 dX11_sheet_21 mR_135 ⟨_, rfl, rfl, F⟩
  · have F := F.1 c
    refine ms_seq mB_135 mO_135 [(.bipush (-6), 2)] (pc' := 9) (L' := [.ref 2, .int p0]) (st' := [.int (-6)]) ⟨dX11_sheet_7, trivial⟩ rfl ?_
    exact ms_iret mB_135 dX11_sheet_9 mR_135 ⟨_, rfl, rfl, F⟩
set_option maxRecDepth 100000 in
theorem q11_shown_0 {N d : Nat} (hd : 5 ≤ d) {p0 : Int32} {δ : mi_D} {Q : Int32 → mi_D → Prop} (F : (((δ.1 2 7) = 0 → Q (-6) δ) ∧ (¬ (δ.1 2 7) = 0 → ((p0 < 0 → Q (-2) δ) ∧ (¬ p0 < 0 → ((p0 < (δ.1 45 3) → Q (mi_at δ 46 p0) δ) ∧ (¬ p0 < (δ.1 45 3) → Q (-2) δ))))))) : mi_wI N d 136 0 [.ref 2, .int p0] [] δ Q := by
  unfold mi_wI
  refine ms_seq mB_136 mO_136 [(.aload_n 0, 1)] (pc' := 1) (L' := [.ref 2, .int p0]) (st' := [.ref 2]) ⟨dX11_shown_0, trivial⟩ rfl ?_
  refine ms_getI mB_136 mO_136 dX11_shown_1 mF_11_64 (gk_2 N) (Or.inr rfl) ?_
  refine ms_if_ne mB_136 dX11_shown_4 (t := 10) rfl (fun c => ?_) (fun c => ?_)
  · have F := F.2 c
    refine ms_seq mB_136 mO_136 [(.iload_n 1, 1)] (pc' := 11) (L' := [.ref 2, .int p0]) (st' := [.int p0]) ⟨dX11_shown_10, trivial⟩ rfl ?_
    refine ms_if_lt mB_136 dX11_shown_11 (t := 39) rfl (fun c => ?_) (fun c => ?_)
    · have F := F.1 c
      refine ms_seq mB_136 mO_136 [(.bipush (-2), 2)] (pc' := 41) (L' := [.ref 2, .int p0]) (st' := [.int (-2)]) ⟨dX11_shown_39, trivial⟩ rfl ?_
      exact ms_iret mB_136 dX11_shown_41 mR_136 ⟨_, rfl, rfl, F⟩
    · have F := F.2 c
      refine ms_seq mB_136 mO_136 [(.iload_n 1, 1), (.aload_n 0, 1)] (pc' := 16) (L' := [.ref 2, .int p0]) (st' := [.ref 2, .int p0]) ⟨dX11_shown_14, dX11_shown_15, trivial⟩ rfl ?_
      refine ms_getR mB_136 mO_136 dX11_shown_16 mF_11_60 (gk_2 N) rfl (b := 45) (gr_2_6 N) ?_
      refine ms_getI mB_136 mO_136 dX11_shown_19 mF_11_240 (gk_45 N) (Or.inl rfl) ?_
      refine ms_icmp_ge mB_136 dX11_shown_22 (t := 39) rfl (fun c => ?_) (fun c => ?_)
      · have F := F.2 c
        refine ms_seq mB_136 mO_136 [(.bipush (-2), 2)] (pc' := 41) (L' := [.ref 2, .int p0]) (st' := [.int (-2)]) ⟨dX11_shown_39, trivial⟩ rfl ?_
        exact ms_iret mB_136 dX11_shown_41 mR_136 ⟨_, rfl, rfl, F⟩
      · have F := F.1 c
        refine ms_seq mB_136 mO_136 [(.aload_n 0, 1)] (pc' := 26) (L' := [.ref 2, .int p0]) (st' := [.ref 2]) ⟨dX11_shown_25, trivial⟩ rfl ?_
        refine ms_getR mB_136 mO_136 dX11_shown_26 mF_11_60 (gk_2 N) rfl (b := 45) (gr_2_6 N) ?_
        refine ms_getR mB_136 mO_136 dX11_shown_29 mF_11_241 (gk_45 N) rfl (b := 46) (gr_45_0 N) ?_
        refine ms_seq mB_136 mO_136 [(.iload_n 1, 1)] (pc' := 33) (L' := [.ref 2, .int p0]) (st' := [.int p0, .ref 46]) ⟨dX11_shown_32, trivial⟩ rfl ?_
        refine ms_at mB_136 mO_136 hd dX11_shown_33 mQ_11_184 (Nat.le_of_ble_eq_true rfl) (gk_46 N) (mi_ne (gl_46 N)) ?_
        refine ms_goto mB_136 dX11_shown_36 (t := 41) rfl ?_
        exact ms_iret mB_136 dX11_shown_41 mR_136 ⟨_, rfl, rfl, F⟩
  · have F := F.1 c
    refine ms_seq mB_136 mO_136 [(.bipush (-6), 2)] (pc' := 9) (L' := [.ref 2, .int p0]) (st' := [.int (-6)]) ⟨dX11_shown_7, trivial⟩ rfl ?_
    exact ms_iret mB_136 dX11_shown_9 mR_136 ⟨_, rfl, rfl, F⟩
set_option maxRecDepth 100000 in
theorem q11_part_0 {N d : Nat} (hd : 5 ≤ d) {p1 p2 p3 p4 p5 : Int32} {p0 : Int64} {δ : mi_D} {Q : Int64 → mi_D → Prop} (F : ((p5 < 0 → Q (-9223372036854775808) δ) ∧ (¬ p5 < 0 → ((p5 < 4 → (mi_wI N (d - 1) 146 0 [.long p0, .null, .long 1000000000000000, .null] [] δ (fun r2 δ1 => ((r2 = 0 → Q (-9223372036854775808) δ1) ∧ (¬ r2 = 0 → (mi_wI N (d - 1) 144 0 [.int p1] [] δ1 (fun r4 δ3 => ((r4 = 0 → Q (-9223372036854775808) δ3) ∧ (¬ r4 = 0 → (mi_wI N (d - 1) 144 0 [.int p2] [] δ3 (fun r6 δ5 => ((r6 = 0 → Q (-9223372036854775808) δ5) ∧ (¬ r6 = 0 → (mi_wI N (d - 1) 144 0 [.int p3] [] δ5 (fun r8 δ7 => ((r8 = 0 → Q (-9223372036854775808) δ7) ∧ (¬ r8 = 0 → (mi_wI N (d - 1) 144 0 [.int p4] [] δ7 (fun r10 δ9 => ((r10 = 0 → Q (-9223372036854775808) δ9) ∧ (¬ r10 = 0 → (mi_wV N (d - 1) 97 0 [.ref 41] [] δ9 (fun δ11 => (mi_wV N (d - 1) 98 0 [.ref 41, .int p1] [] δ11 (fun δ12 => (mi_wV N (d - 1) 98 0 [.ref 41, .int p2] [] δ12 (fun δ13 => (mi_wV N (d - 1) 98 0 [.ref 41, .int p3] [] δ13 (fun δ14 => (mi_wV N (d - 1) 98 0 [.ref 41, .int p4] [] δ14 (fun δ15 => (mi_wI N (d - 1) 99 0 [.ref 41, .long p0, .null, .null, .null, .null, .null, .null, .null, .null] [] δ15 (fun r17 δ16 => ((r17 = 0 → Q (-9223372036854775808) δ16) ∧ (¬ r17 = 0 → Q (mi_al δ16 42 p5) δ16))))))))))))))))))))))))))))))))))) ∧ (¬ p5 < 4 → Q (-9223372036854775808) δ))))) : mi_wL N d 137 0 [.ref 2, .long p0, .null, .int p1, .int p2, .int p3, .int p4, .int p5] [] δ Q := by
  unfold mi_wL
  refine ms_seq mB_137 mO_137 [(.iload 7, 2)] (pc' := 2) (L' := [.ref 2, .long p0, .null, .int p1, .int p2, .int p3, .int p4, .int p5]) (st' := [.int p5]) ⟨dX11_part_0, trivial⟩ rfl ?_
  refine ms_if_lt mB_137 dX11_part_2 (t := 21) rfl (fun c => ?_) (fun c => ?_)
  · have F := F.1 c
    refine ms_seq mB_137 mO_137 [(.ldc2_w 197, 3)] (pc' := 24) (L' := [.ref 2, .long p0, .null, .int p1, .int p2, .int p3, .int p4, .int p5]) (st' := [.long (-9223372036854775808)]) ⟨dX11_part_21, trivial⟩ rfl ?_
    exact ms_lret mB_137 dX11_part_24 mR_137 ⟨_, rfl, rfl, F⟩
  · have F := F.2 c
    refine ms_seq mB_137 mO_137 [(.iload 7, 2), (.iconst 4, 1)] (pc' := 8) (L' := [.ref 2, .long p0, .null, .int p1, .int p2, .int p3, .int p4, .int p5]) (st' := [.int 4, .int p5]) ⟨dX11_part_5, dX11_part_7, trivial⟩ rfl ?_
    refine ms_icmp_ge mB_137 dX11_part_8 (t := 21) rfl (fun c => ?_) (fun c => ?_)
    · have F := F.2 c
      refine ms_seq mB_137 mO_137 [(.ldc2_w 197, 3)] (pc' := 24) (L' := [.ref 2, .long p0, .null, .int p1, .int p2, .int p3, .int p4, .int p5]) (st' := [.long (-9223372036854775808)]) ⟨dX11_part_21, trivial⟩ rfl ?_
      exact ms_lret mB_137 dX11_part_24 mR_137 ⟨_, rfl, rfl, F⟩
    · have F := F.1 c
      refine ms_seq mB_137 mO_137 [(.lload_n 1, 1), (.ldc2_w 242, 3)] (pc' := 15) (L' := [.ref 2, .long p0, .null, .int p1, .int p2, .int p3, .int p4, .int p5]) (st' := [.long 1000000000000000, .long p0]) ⟨dX11_part_11, dX11_part_12, trivial⟩ rfl ?_
      refine ms_callsI mB_137 mO_137 (by omega) dX11_part_15 mQ_11_244 mC_11_244 mL_146 (by decide) rfl (Nat.le_of_ble_eq_true rfl) (Nat.le_of_ble_eq_true rfl) rfl F (fun r2 δ1 F => ?_)
      refine ms_if_ne mB_137 dX11_part_18 (t := 25) rfl (fun c => ?_) (fun c => ?_)
      · have F := F.2 c
        refine ms_seq mB_137 mO_137 [(.iload_n 3, 1)] (pc' := 26) (L' := [.ref 2, .long p0, .null, .int p1, .int p2, .int p3, .int p4, .int p5]) (st' := [.int p1]) ⟨dX11_part_25, trivial⟩ rfl ?_
        refine ms_callsI mB_137 mO_137 (by omega) dX11_part_26 mQ_11_248 mC_11_248 mL_144 (by decide) rfl (Nat.le_of_ble_eq_true rfl) (Nat.le_of_ble_eq_true rfl) rfl F (fun r4 δ3 F => ?_)
        refine ms_if_eq mB_137 dX11_part_29 (t := 56) rfl (fun c => ?_) (fun c => ?_)
        · have F := F.1 c
          refine ms_seq mB_137 mO_137 [(.ldc2_w 197, 3)] (pc' := 59) (L' := [.ref 2, .long p0, .null, .int p1, .int p2, .int p3, .int p4, .int p5]) (st' := [.long (-9223372036854775808)]) ⟨dX11_part_56, trivial⟩ rfl ?_
          exact ms_lret mB_137 dX11_part_59 mR_137 ⟨_, rfl, rfl, F⟩
        · have F := F.2 c
          refine ms_seq mB_137 mO_137 [(.iload 4, 2)] (pc' := 34) (L' := [.ref 2, .long p0, .null, .int p1, .int p2, .int p3, .int p4, .int p5]) (st' := [.int p2]) ⟨dX11_part_32, trivial⟩ rfl ?_
          refine ms_callsI mB_137 mO_137 (by omega) dX11_part_34 mQ_11_248 mC_11_248 mL_144 (by decide) rfl (Nat.le_of_ble_eq_true rfl) (Nat.le_of_ble_eq_true rfl) rfl F (fun r6 δ5 F => ?_)
          refine ms_if_eq mB_137 dX11_part_37 (t := 56) rfl (fun c => ?_) (fun c => ?_)
          · have F := F.1 c
            refine ms_seq mB_137 mO_137 [(.ldc2_w 197, 3)] (pc' := 59) (L' := [.ref 2, .long p0, .null, .int p1, .int p2, .int p3, .int p4, .int p5]) (st' := [.long (-9223372036854775808)]) ⟨dX11_part_56, trivial⟩ rfl ?_
            exact ms_lret mB_137 dX11_part_59 mR_137 ⟨_, rfl, rfl, F⟩
          · have F := F.2 c
            refine ms_seq mB_137 mO_137 [(.iload 5, 2)] (pc' := 42) (L' := [.ref 2, .long p0, .null, .int p1, .int p2, .int p3, .int p4, .int p5]) (st' := [.int p3]) ⟨dX11_part_40, trivial⟩ rfl ?_
            refine ms_callsI mB_137 mO_137 (by omega) dX11_part_42 mQ_11_248 mC_11_248 mL_144 (by decide) rfl (Nat.le_of_ble_eq_true rfl) (Nat.le_of_ble_eq_true rfl) rfl F (fun r8 δ7 F => ?_)
            refine ms_if_eq mB_137 dX11_part_45 (t := 56) rfl (fun c => ?_) (fun c => ?_)
            · have F := F.1 c
              refine ms_seq mB_137 mO_137 [(.ldc2_w 197, 3)] (pc' := 59) (L' := [.ref 2, .long p0, .null, .int p1, .int p2, .int p3, .int p4, .int p5]) (st' := [.long (-9223372036854775808)]) ⟨dX11_part_56, trivial⟩ rfl ?_
              exact ms_lret mB_137 dX11_part_59 mR_137 ⟨_, rfl, rfl, F⟩
            · have F := F.2 c
              refine ms_seq mB_137 mO_137 [(.iload 6, 2)] (pc' := 50) (L' := [.ref 2, .long p0, .null, .int p1, .int p2, .int p3, .int p4, .int p5]) (st' := [.int p4]) ⟨dX11_part_48, trivial⟩ rfl ?_
              refine ms_callsI mB_137 mO_137 (by omega) dX11_part_50 mQ_11_248 mC_11_248 mL_144 (by decide) rfl (Nat.le_of_ble_eq_true rfl) (Nat.le_of_ble_eq_true rfl) rfl F (fun r10 δ9 F => ?_)
              refine ms_if_ne mB_137 dX11_part_53 (t := 60) rfl (fun c => ?_) (fun c => ?_)
              · have F := F.2 c
                refine ms_seq mB_137 mO_137 [(.aload_n 0, 1)] (pc' := 61) (L' := [.ref 2, .long p0, .null, .int p1, .int p2, .int p3, .int p4, .int p5]) (st' := [.ref 2]) ⟨dX11_part_60, trivial⟩ rfl ?_
                refine ms_getR mB_137 mO_137 dX11_part_61 mF_11_47 (gk_2 N) rfl (b := 41) (gr_2_5 N) ?_
                refine ms_callvV mB_137 mO_137 (by omega) dX11_part_64 mQ_11_251 mC_11_251 mL_97 mO_97 rfl (Nat.le_of_ble_eq_true rfl) (Nat.le_of_ble_eq_true rfl) (gk_41 N) rfl F (fun δ11 F => ?_)
                refine ms_seq mB_137 mO_137 [(.aload_n 0, 1)] (pc' := 68) (L' := [.ref 2, .long p0, .null, .int p1, .int p2, .int p3, .int p4, .int p5]) (st' := [.ref 2]) ⟨dX11_part_67, trivial⟩ rfl ?_
                refine ms_getR mB_137 mO_137 dX11_part_68 mF_11_47 (gk_2 N) rfl (b := 41) (gr_2_5 N) ?_
                refine ms_seq mB_137 mO_137 [(.iload_n 3, 1)] (pc' := 72) (L' := [.ref 2, .long p0, .null, .int p1, .int p2, .int p3, .int p4, .int p5]) (st' := [.int p1, .ref 41]) ⟨dX11_part_71, trivial⟩ rfl ?_
                refine ms_callvV mB_137 mO_137 (by omega) dX11_part_72 mQ_11_252 mC_11_252 mL_98 mO_98 rfl (Nat.le_of_ble_eq_true rfl) (Nat.le_of_ble_eq_true rfl) (gk_41 N) rfl F (fun δ12 F => ?_)
                refine ms_seq mB_137 mO_137 [(.aload_n 0, 1)] (pc' := 76) (L' := [.ref 2, .long p0, .null, .int p1, .int p2, .int p3, .int p4, .int p5]) (st' := [.ref 2]) ⟨dX11_part_75, trivial⟩ rfl ?_
                refine ms_getR mB_137 mO_137 dX11_part_76 mF_11_47 (gk_2 N) rfl (b := 41) (gr_2_5 N) ?_
                refine ms_seq mB_137 mO_137 [(.iload 4, 2)] (pc' := 81) (L' := [.ref 2, .long p0, .null, .int p1, .int p2, .int p3, .int p4, .int p5]) (st' := [.int p2, .ref 41]) ⟨dX11_part_79, trivial⟩ rfl ?_
                refine ms_callvV mB_137 mO_137 (by omega) dX11_part_81 mQ_11_252 mC_11_252 mL_98 mO_98 rfl (Nat.le_of_ble_eq_true rfl) (Nat.le_of_ble_eq_true rfl) (gk_41 N) rfl F (fun δ13 F => ?_)
                refine ms_seq mB_137 mO_137 [(.aload_n 0, 1)] (pc' := 85) (L' := [.ref 2, .long p0, .null, .int p1, .int p2, .int p3, .int p4, .int p5]) (st' := [.ref 2]) ⟨dX11_part_84, trivial⟩ rfl ?_
                refine ms_getR mB_137 mO_137 dX11_part_85 mF_11_47 (gk_2 N) rfl (b := 41) (gr_2_5 N) ?_
                refine ms_seq mB_137 mO_137 [(.iload 5, 2)] (pc' := 90) (L' := [.ref 2, .long p0, .null, .int p1, .int p2, .int p3, .int p4, .int p5]) (st' := [.int p3, .ref 41]) ⟨dX11_part_88, trivial⟩ rfl ?_
                refine ms_callvV mB_137 mO_137 (by omega) dX11_part_90 mQ_11_252 mC_11_252 mL_98 mO_98 rfl (Nat.le_of_ble_eq_true rfl) (Nat.le_of_ble_eq_true rfl) (gk_41 N) rfl F (fun δ14 F => ?_)
                refine ms_seq mB_137 mO_137 [(.aload_n 0, 1)] (pc' := 94) (L' := [.ref 2, .long p0, .null, .int p1, .int p2, .int p3, .int p4, .int p5]) (st' := [.ref 2]) ⟨dX11_part_93, trivial⟩ rfl ?_
                refine ms_getR mB_137 mO_137 dX11_part_94 mF_11_47 (gk_2 N) rfl (b := 41) (gr_2_5 N) ?_
                refine ms_seq mB_137 mO_137 [(.iload 6, 2)] (pc' := 99) (L' := [.ref 2, .long p0, .null, .int p1, .int p2, .int p3, .int p4, .int p5]) (st' := [.int p4, .ref 41]) ⟨dX11_part_97, trivial⟩ rfl ?_
                refine ms_callvV mB_137 mO_137 (by omega) dX11_part_99 mQ_11_252 mC_11_252 mL_98 mO_98 rfl (Nat.le_of_ble_eq_true rfl) (Nat.le_of_ble_eq_true rfl) (gk_41 N) rfl F (fun δ15 F => ?_)
                refine ms_seq mB_137 mO_137 [(.aload_n 0, 1)] (pc' := 103) (L' := [.ref 2, .long p0, .null, .int p1, .int p2, .int p3, .int p4, .int p5]) (st' := [.ref 2]) ⟨dX11_part_102, trivial⟩ rfl ?_
                refine ms_getR mB_137 mO_137 dX11_part_103 mF_11_47 (gk_2 N) rfl (b := 41) (gr_2_5 N) ?_
                refine ms_seq mB_137 mO_137 [(.lload_n 1, 1)] (pc' := 107) (L' := [.ref 2, .long p0, .null, .int p1, .int p2, .int p3, .int p4, .int p5]) (st' := [.long p0, .ref 41]) ⟨dX11_part_106, trivial⟩ rfl ?_
                refine ms_callvI mB_137 mO_137 (by omega) dX11_part_107 mQ_11_254 mC_11_254 mL_99 mO_99 rfl (Nat.le_of_ble_eq_true rfl) (Nat.le_of_ble_eq_true rfl) (gk_41 N) rfl F (fun r17 δ16 F => ?_)
                refine ms_if_eq mB_137 dX11_part_110 (t := 128) rfl (fun c => ?_) (fun c => ?_)
                · have F := F.1 c
                  refine ms_seq mB_137 mO_137 [(.ldc2_w 197, 3)] (pc' := 131) (L' := [.ref 2, .long p0, .null, .int p1, .int p2, .int p3, .int p4, .int p5]) (st' := [.long (-9223372036854775808)]) ⟨dX11_part_128, trivial⟩ rfl ?_
                  exact ms_lret mB_137 dX11_part_131 mR_137 ⟨_, rfl, rfl, F⟩
                · have F := F.2 c
                  refine ms_seq mB_137 mO_137 [(.aload_n 0, 1)] (pc' := 114) (L' := [.ref 2, .long p0, .null, .int p1, .int p2, .int p3, .int p4, .int p5]) (st' := [.ref 2]) ⟨dX11_part_113, trivial⟩ rfl ?_
                  refine ms_getR mB_137 mO_137 dX11_part_114 mF_11_47 (gk_2 N) rfl (b := 41) (gr_2_5 N) ?_
                  refine ms_getR mB_137 mO_137 dX11_part_117 mF_11_258 (gk_41 N) rfl (b := 42) (gr_41_0 N) ?_
                  refine ms_seq mB_137 mO_137 [(.iload 7, 2)] (pc' := 122) (L' := [.ref 2, .long p0, .null, .int p1, .int p2, .int p3, .int p4, .int p5]) (st' := [.int p5, .ref 42]) ⟨dX11_part_120, trivial⟩ rfl ?_
                  refine ms_al mB_137 mO_137 hd dX11_part_122 mQ_11_261 (Nat.le_of_ble_eq_true rfl) (gk_42 N) (mi_ne (gl_42 N)) ?_
                  refine ms_goto mB_137 dX11_part_125 (t := 131) rfl ?_
                  exact ms_lret mB_137 dX11_part_131 mR_137 ⟨_, rfl, rfl, F⟩
              · have F := F.1 c
                refine ms_seq mB_137 mO_137 [(.ldc2_w 197, 3)] (pc' := 59) (L' := [.ref 2, .long p0, .null, .int p1, .int p2, .int p3, .int p4, .int p5]) (st' := [.long (-9223372036854775808)]) ⟨dX11_part_56, trivial⟩ rfl ?_
                exact ms_lret mB_137 dX11_part_59 mR_137 ⟨_, rfl, rfl, F⟩
      · have F := F.1 c
        refine ms_seq mB_137 mO_137 [(.ldc2_w 197, 3)] (pc' := 24) (L' := [.ref 2, .long p0, .null, .int p1, .int p2, .int p3, .int p4, .int p5]) (st' := [.long (-9223372036854775808)]) ⟨dX11_part_21, trivial⟩ rfl ?_
        exact ms_lret mB_137 dX11_part_24 mR_137 ⟨_, rfl, rfl, F⟩
set_option maxRecDepth 100000 in
theorem q11_count_0 {N d : Nat} (hd : 5 ≤ d) {p0 : Int32} {δ : mi_D} {Q : Int32 → mi_D → Prop} (F : ((p0 = 5 → Q (δ.1 28 4) δ) ∧ (p0 = 6 → Q (δ.1 28 5) δ) ∧ (p0 = 7 → Q (δ.1 28 6) δ) ∧ (p0 = 8 → (mi_wI N (d - 1) 139 0 [.ref 2, .int p0] [] δ (fun r2 δ1 => Q r2 δ1))) ∧ (p0 = 9 → Q (δ.1 45 3) δ) ∧ (p0 = 10 → (((δ.1 2 7) = 0 → Q 0 δ) ∧ (¬ (δ.1 2 7) = 0 → Q 1 δ))) ∧ (¬ p0 = 5 → ¬ p0 = 6 → ¬ p0 = 7 → ¬ p0 = 8 → ¬ p0 = 9 → ¬ p0 = 10 → (mi_wI N (d - 1) 139 0 [.ref 2, .int p0] [] δ (fun r4 δ3 => Q r4 δ3))))) : mi_wI N d 138 0 [.ref 2, .int p0] [] δ Q := by
  unfold mi_wI
  refine ms_seq mB_138 mO_138 [(.iload_n 1, 1)] (pc' := 1) (L' := [.ref 2, .int p0]) (st' := [.int p0]) ⟨dX11_count_0, trivial⟩ rfl ?_
  by_cases n5 : p0 = 5
  · refine ms_pure mB_138 mO_138 (pc' := 40) (L' := [.ref 2, .int p0]) (st' := []) dX11_count_1 (by rw [n5]; rfl) ?_
    have F := F.1 n5
    refine ms_seq mB_138 mO_138 [(.aload_n 0, 1)] (pc' := 41) (L' := [.ref 2, .int p0]) (st' := [.ref 2]) ⟨dX11_count_40, trivial⟩ rfl ?_
    refine ms_getR mB_138 mO_138 dX11_count_41 mF_11_19 (gk_2 N) rfl (b := 28) (gr_2_1 N) ?_
    refine ms_getI mB_138 mO_138 dX11_count_44 mF_11_168 (gk_28 N) (Or.inl rfl) ?_
    exact ms_iret mB_138 dX11_count_47 mR_138 ⟨_, rfl, rfl, F⟩
  have F := F.2
  by_cases n6 : p0 = 6
  · refine ms_pure mB_138 mO_138 (pc' := 48) (L' := [.ref 2, .int p0]) (st' := []) dX11_count_1 (by rw [n6]; rfl) ?_
    have F := F.1 n6
    refine ms_seq mB_138 mO_138 [(.aload_n 0, 1)] (pc' := 49) (L' := [.ref 2, .int p0]) (st' := [.ref 2]) ⟨dX11_count_48, trivial⟩ rfl ?_
    refine ms_getR mB_138 mO_138 dX11_count_49 mF_11_19 (gk_2 N) rfl (b := 28) (gr_2_1 N) ?_
    refine ms_getI mB_138 mO_138 dX11_count_52 mF_11_266 (gk_28 N) (Or.inl rfl) ?_
    exact ms_iret mB_138 dX11_count_55 mR_138 ⟨_, rfl, rfl, F⟩
  have F := F.2
  by_cases n7 : p0 = 7
  · refine ms_pure mB_138 mO_138 (pc' := 56) (L' := [.ref 2, .int p0]) (st' := []) dX11_count_1 (by rw [n7]; rfl) ?_
    have F := F.1 n7
    refine ms_seq mB_138 mO_138 [(.aload_n 0, 1)] (pc' := 57) (L' := [.ref 2, .int p0]) (st' := [.ref 2]) ⟨dX11_count_56, trivial⟩ rfl ?_
    refine ms_getR mB_138 mO_138 dX11_count_57 mF_11_19 (gk_2 N) rfl (b := 28) (gr_2_1 N) ?_
    refine ms_getI mB_138 mO_138 dX11_count_60 mF_11_269 (gk_28 N) (Or.inl rfl) ?_
    exact ms_iret mB_138 dX11_count_63 mR_138 ⟨_, rfl, rfl, F⟩
  have F := F.2
  by_cases n8 : p0 = 8
  · refine ms_pure mB_138 mO_138 (pc' := 85) (L' := [.ref 2, .int p0]) (st' := []) dX11_count_1 (by rw [n8]; rfl) ?_
    have F := F.1 n8
    refine ms_seq mB_138 mO_138 [(.aload_n 0, 1), (.iload_n 1, 1)] (pc' := 87) (L' := [.ref 2, .int p0]) (st' := [.int p0, .ref 2]) ⟨dX11_count_85, dX11_count_86, trivial⟩ rfl ?_
    refine ms_callvI mB_138 mO_138 (by omega) dX11_count_87 mQ_11_272 mC_11_272 mL_139 mO_139 rfl (Nat.le_of_ble_eq_true rfl) (Nat.le_of_ble_eq_true rfl) (gk_2 N) rfl F (fun r2 δ1 F => ?_)
    exact ms_iret mB_138 dX11_count_90 mR_138 ⟨_, rfl, rfl, F⟩
  have F := F.2
  by_cases n9 : p0 = 9
  · refine ms_pure mB_138 mO_138 (pc' := 64) (L' := [.ref 2, .int p0]) (st' := []) dX11_count_1 (by rw [n9]; rfl) ?_
    have F := F.1 n9
    refine ms_seq mB_138 mO_138 [(.aload_n 0, 1)] (pc' := 65) (L' := [.ref 2, .int p0]) (st' := [.ref 2]) ⟨dX11_count_64, trivial⟩ rfl ?_
    refine ms_getR mB_138 mO_138 dX11_count_65 mF_11_60 (gk_2 N) rfl (b := 45) (gr_2_6 N) ?_
    refine ms_getI mB_138 mO_138 dX11_count_68 mF_11_240 (gk_45 N) (Or.inl rfl) ?_
    exact ms_iret mB_138 dX11_count_71 mR_138 ⟨_, rfl, rfl, F⟩
  have F := F.2
  by_cases n10 : p0 = 10
  · refine ms_pure mB_138 mO_138 (pc' := 72) (L' := [.ref 2, .int p0]) (st' := []) dX11_count_1 (by rw [n10]; rfl) ?_
    have F := F.1 n10
    refine ms_seq mB_138 mO_138 [(.aload_n 0, 1)] (pc' := 73) (L' := [.ref 2, .int p0]) (st' := [.ref 2]) ⟨dX11_count_72, trivial⟩ rfl ?_
    refine ms_getI mB_138 mO_138 dX11_count_73 mF_11_64 (gk_2 N) (Or.inr rfl) ?_
    refine ms_if_eq mB_138 dX11_count_76 (t := 83) rfl (fun c => ?_) (fun c => ?_)
    · have F := F.1 c
      refine ms_seq mB_138 mO_138 [(.iconst 0, 1)] (pc' := 84) (L' := [.ref 2, .int p0]) (st' := [.int 0]) ⟨dX11_count_83, trivial⟩ rfl ?_
      exact ms_iret mB_138 dX11_count_84 mR_138 ⟨_, rfl, rfl, F⟩
    · have F := F.2 c
      refine ms_seq mB_138 mO_138 [(.iconst 1, 1)] (pc' := 80) (L' := [.ref 2, .int p0]) (st' := [.int 1]) ⟨dX11_count_79, trivial⟩ rfl ?_
      refine ms_goto mB_138 dX11_count_80 (t := 84) rfl ?_
      exact ms_iret mB_138 dX11_count_84 mR_138 ⟨_, rfl, rfl, F⟩
  have F := F.2
  refine ms_swd mB_138 dX11_count_1 (t := 85) (by have a5 := lv_neT n5 (a := 5) rfl; have a6 := lv_neT n6 (a := 6) rfl; have a7 := lv_neT n7 (a := 7) rfl; have a8 := lv_neT n8 (a := 8) rfl; have a9 := lv_neT n9 (a := 9) rfl; have a10 := lv_neT n10 (a := 10) rfl; omega) rfl ?_
  have F := F n5
  have F := F n6
  have F := F n7
  have F := F n8
  have F := F n9
  have F := F n10
  refine ms_seq mB_138 mO_138 [(.aload_n 0, 1), (.iload_n 1, 1)] (pc' := 87) (L' := [.ref 2, .int p0]) (st' := [.int p0, .ref 2]) ⟨dX11_count_85, dX11_count_86, trivial⟩ rfl ?_
  refine ms_callvI mB_138 mO_138 (by omega) dX11_count_87 mQ_11_272 mC_11_272 mL_139 mO_139 rfl (Nat.le_of_ble_eq_true rfl) (Nat.le_of_ble_eq_true rfl) (gk_2 N) rfl F (fun r4 δ3 F => ?_)
  exact ms_iret mB_138 dX11_count_90 mR_138 ⟨_, rfl, rfl, F⟩
set_option maxRecDepth 100000 in
theorem q11_countOfBooks_0 {N d : Nat} (hd : 5 ≤ d) {p0 : Int32} {δ : mi_D} {Q : Int32 → mi_D → Prop} (F : ((p0 = 0 → (((δ.1 2 7) = 0 → Q (-6) δ) ∧ (¬ (δ.1 2 7) = 0 → Q (δ.1 4 9) δ))) ∧ (p0 = 1 → (((δ.1 2 7) = 0 → Q (-6) δ) ∧ (¬ (δ.1 2 7) = 0 → Q (δ.1 14 2) δ))) ∧ (p0 = 2 → (((δ.1 2 7) = 0 → Q (-6) δ) ∧ (¬ (δ.1 2 7) = 0 → Q (δ.1 14 3) δ))) ∧ (p0 = 3 → (((δ.1 2 7) = 0 → Q (-6) δ) ∧ (¬ (δ.1 2 7) = 0 → Q (δ.1 17 9) δ))) ∧ (p0 = 4 → (((δ.1 2 7) = 0 → Q (-6) δ) ∧ (¬ (δ.1 2 7) = 0 → Q (δ.1 35 2) δ))) ∧ (p0 = 5 → Q (-3) δ) ∧ (p0 = 6 → Q (-3) δ) ∧ (p0 = 7 → Q (-3) δ) ∧ (p0 = 8 → (((δ.1 2 7) = 0 → Q (-6) δ) ∧ (¬ (δ.1 2 7) = 0 → Q (δ.1 3 3) δ))) ∧ (¬ p0 = 0 → ¬ p0 = 1 → ¬ p0 = 2 → ¬ p0 = 3 → ¬ p0 = 4 → ¬ p0 = 5 → ¬ p0 = 6 → ¬ p0 = 7 → ¬ p0 = 8 → Q (-3) δ))) : mi_wI N d 139 0 [.ref 2, .int p0] [] δ Q := by
  unfold mi_wI
  refine ms_seq mB_139 mO_139 [(.iload_n 1, 1)] (pc' := 1) (L' := [.ref 2, .int p0]) (st' := [.int p0]) ⟨dX11_countOfBooks_0, trivial⟩ rfl ?_
  by_cases n0 : p0 = 0
  · refine ms_pure mB_139 mO_139 (pc' := 52) (L' := [.ref 2, .int p0]) (st' := []) dX11_countOfBooks_1 (by rw [n0]; rfl) ?_
    have F := F.1 n0
    refine ms_seq mB_139 mO_139 [(.aload_n 0, 1)] (pc' := 53) (L' := [.ref 2, .int p0]) (st' := [.ref 2]) ⟨dX11_countOfBooks_52, trivial⟩ rfl ?_
    refine ms_getI mB_139 mO_139 dX11_countOfBooks_53 mF_11_64 (gk_2 N) (Or.inr rfl) ?_
    refine ms_if_eq mB_139 dX11_countOfBooks_56 (t := 72) rfl (fun c => ?_) (fun c => ?_)
    · have F := F.1 c
      refine ms_seq mB_139 mO_139 [(.bipush (-6), 2)] (pc' := 74) (L' := [.ref 2, .int p0]) (st' := [.int (-6)]) ⟨dX11_countOfBooks_72, trivial⟩ rfl ?_
      exact ms_iret mB_139 dX11_countOfBooks_74 mR_139 ⟨_, rfl, rfl, F⟩
    · have F := F.2 c
      refine ms_seq mB_139 mO_139 [(.aload_n 0, 1)] (pc' := 60) (L' := [.ref 2, .int p0]) (st' := [.ref 2]) ⟨dX11_countOfBooks_59, trivial⟩ rfl ?_
      refine ms_getR mB_139 mO_139 dX11_countOfBooks_60 mF_11_10 (gk_2 N) rfl (b := 3) (gr_2_0 N) ?_
      refine ms_getR mB_139 mO_139 dX11_countOfBooks_63 mF_11_53 (gk_3 N) rfl (b := 4) (gr_3_0 N) ?_
      refine ms_getI mB_139 mO_139 dX11_countOfBooks_66 mF_11_275 (gk_4 N) (Or.inl rfl) ?_
      refine ms_goto mB_139 dX11_countOfBooks_69 (t := 74) rfl ?_
      exact ms_iret mB_139 dX11_countOfBooks_74 mR_139 ⟨_, rfl, rfl, F⟩
  have F := F.2
  by_cases n1 : p0 = 1
  · refine ms_pure mB_139 mO_139 (pc' := 75) (L' := [.ref 2, .int p0]) (st' := []) dX11_countOfBooks_1 (by rw [n1]; rfl) ?_
    have F := F.1 n1
    refine ms_seq mB_139 mO_139 [(.aload_n 0, 1)] (pc' := 76) (L' := [.ref 2, .int p0]) (st' := [.ref 2]) ⟨dX11_countOfBooks_75, trivial⟩ rfl ?_
    refine ms_getI mB_139 mO_139 dX11_countOfBooks_76 mF_11_64 (gk_2 N) (Or.inr rfl) ?_
    refine ms_if_eq mB_139 dX11_countOfBooks_79 (t := 95) rfl (fun c => ?_) (fun c => ?_)
    · have F := F.1 c
      refine ms_seq mB_139 mO_139 [(.bipush (-6), 2)] (pc' := 97) (L' := [.ref 2, .int p0]) (st' := [.int (-6)]) ⟨dX11_countOfBooks_95, trivial⟩ rfl ?_
      exact ms_iret mB_139 dX11_countOfBooks_97 mR_139 ⟨_, rfl, rfl, F⟩
    · have F := F.2 c
      refine ms_seq mB_139 mO_139 [(.aload_n 0, 1)] (pc' := 83) (L' := [.ref 2, .int p0]) (st' := [.ref 2]) ⟨dX11_countOfBooks_82, trivial⟩ rfl ?_
      refine ms_getR mB_139 mO_139 dX11_countOfBooks_83 mF_11_10 (gk_2 N) rfl (b := 3) (gr_2_0 N) ?_
      refine ms_getR mB_139 mO_139 dX11_countOfBooks_86 mF_11_101 (gk_3 N) rfl (b := 14) (gr_3_1 N) ?_
      refine ms_getI mB_139 mO_139 dX11_countOfBooks_89 mF_11_276 (gk_14 N) (Or.inl rfl) ?_
      refine ms_goto mB_139 dX11_countOfBooks_92 (t := 97) rfl ?_
      exact ms_iret mB_139 dX11_countOfBooks_97 mR_139 ⟨_, rfl, rfl, F⟩
  have F := F.2
  by_cases n2 : p0 = 2
  · refine ms_pure mB_139 mO_139 (pc' := 98) (L' := [.ref 2, .int p0]) (st' := []) dX11_countOfBooks_1 (by rw [n2]; rfl) ?_
    have F := F.1 n2
    refine ms_seq mB_139 mO_139 [(.aload_n 0, 1)] (pc' := 99) (L' := [.ref 2, .int p0]) (st' := [.ref 2]) ⟨dX11_countOfBooks_98, trivial⟩ rfl ?_
    refine ms_getI mB_139 mO_139 dX11_countOfBooks_99 mF_11_64 (gk_2 N) (Or.inr rfl) ?_
    refine ms_if_eq mB_139 dX11_countOfBooks_102 (t := 118) rfl (fun c => ?_) (fun c => ?_)
    · have F := F.1 c
      refine ms_seq mB_139 mO_139 [(.bipush (-6), 2)] (pc' := 120) (L' := [.ref 2, .int p0]) (st' := [.int (-6)]) ⟨dX11_countOfBooks_118, trivial⟩ rfl ?_
      exact ms_iret mB_139 dX11_countOfBooks_120 mR_139 ⟨_, rfl, rfl, F⟩
    · have F := F.2 c
      refine ms_seq mB_139 mO_139 [(.aload_n 0, 1)] (pc' := 106) (L' := [.ref 2, .int p0]) (st' := [.ref 2]) ⟨dX11_countOfBooks_105, trivial⟩ rfl ?_
      refine ms_getR mB_139 mO_139 dX11_countOfBooks_106 mF_11_10 (gk_2 N) rfl (b := 3) (gr_2_0 N) ?_
      refine ms_getR mB_139 mO_139 dX11_countOfBooks_109 mF_11_101 (gk_3 N) rfl (b := 14) (gr_3_1 N) ?_
      refine ms_getI mB_139 mO_139 dX11_countOfBooks_112 mF_11_277 (gk_14 N) (Or.inl rfl) ?_
      refine ms_goto mB_139 dX11_countOfBooks_115 (t := 120) rfl ?_
      exact ms_iret mB_139 dX11_countOfBooks_120 mR_139 ⟨_, rfl, rfl, F⟩
  have F := F.2
  by_cases n3 : p0 = 3
  · refine ms_pure mB_139 mO_139 (pc' := 121) (L' := [.ref 2, .int p0]) (st' := []) dX11_countOfBooks_1 (by rw [n3]; rfl) ?_
    have F := F.1 n3
    refine ms_seq mB_139 mO_139 [(.aload_n 0, 1)] (pc' := 122) (L' := [.ref 2, .int p0]) (st' := [.ref 2]) ⟨dX11_countOfBooks_121, trivial⟩ rfl ?_
    refine ms_getI mB_139 mO_139 dX11_countOfBooks_122 mF_11_64 (gk_2 N) (Or.inr rfl) ?_
    refine ms_if_eq mB_139 dX11_countOfBooks_125 (t := 141) rfl (fun c => ?_) (fun c => ?_)
    · have F := F.1 c
      refine ms_seq mB_139 mO_139 [(.bipush (-6), 2)] (pc' := 143) (L' := [.ref 2, .int p0]) (st' := [.int (-6)]) ⟨dX11_countOfBooks_141, trivial⟩ rfl ?_
      exact ms_iret mB_139 dX11_countOfBooks_143 mR_139 ⟨_, rfl, rfl, F⟩
    · have F := F.2 c
      refine ms_seq mB_139 mO_139 [(.aload_n 0, 1)] (pc' := 129) (L' := [.ref 2, .int p0]) (st' := [.ref 2]) ⟨dX11_countOfBooks_128, trivial⟩ rfl ?_
      refine ms_getR mB_139 mO_139 dX11_countOfBooks_129 mF_11_10 (gk_2 N) rfl (b := 3) (gr_2_0 N) ?_
      refine ms_getR mB_139 mO_139 dX11_countOfBooks_132 mF_11_211 (gk_3 N) rfl (b := 17) (gr_3_2 N) ?_
      refine ms_getI mB_139 mO_139 dX11_countOfBooks_135 mF_11_280 (gk_17 N) (Or.inl rfl) ?_
      refine ms_goto mB_139 dX11_countOfBooks_138 (t := 143) rfl ?_
      exact ms_iret mB_139 dX11_countOfBooks_143 mR_139 ⟨_, rfl, rfl, F⟩
  have F := F.2
  by_cases n4 : p0 = 4
  · refine ms_pure mB_139 mO_139 (pc' := 144) (L' := [.ref 2, .int p0]) (st' := []) dX11_countOfBooks_1 (by rw [n4]; rfl) ?_
    have F := F.1 n4
    refine ms_seq mB_139 mO_139 [(.aload_n 0, 1)] (pc' := 145) (L' := [.ref 2, .int p0]) (st' := [.ref 2]) ⟨dX11_countOfBooks_144, trivial⟩ rfl ?_
    refine ms_getI mB_139 mO_139 dX11_countOfBooks_145 mF_11_64 (gk_2 N) (Or.inr rfl) ?_
    refine ms_if_eq mB_139 dX11_countOfBooks_148 (t := 161) rfl (fun c => ?_) (fun c => ?_)
    · have F := F.1 c
      refine ms_seq mB_139 mO_139 [(.bipush (-6), 2)] (pc' := 163) (L' := [.ref 2, .int p0]) (st' := [.int (-6)]) ⟨dX11_countOfBooks_161, trivial⟩ rfl ?_
      exact ms_iret mB_139 dX11_countOfBooks_163 mR_139 ⟨_, rfl, rfl, F⟩
    · have F := F.2 c
      refine ms_seq mB_139 mO_139 [(.aload_n 0, 1)] (pc' := 152) (L' := [.ref 2, .int p0]) (st' := [.ref 2]) ⟨dX11_countOfBooks_151, trivial⟩ rfl ?_
      refine ms_getR mB_139 mO_139 dX11_countOfBooks_152 mF_11_37 (gk_2 N) rfl (b := 35) (gr_2_3 N) ?_
      refine ms_getI mB_139 mO_139 dX11_countOfBooks_155 mF_11_119 (gk_35 N) (Or.inl rfl) ?_
      refine ms_goto mB_139 dX11_countOfBooks_158 (t := 163) rfl ?_
      exact ms_iret mB_139 dX11_countOfBooks_163 mR_139 ⟨_, rfl, rfl, F⟩
  have F := F.2
  by_cases n5 : p0 = 5
  · refine ms_pure mB_139 mO_139 (pc' := 184) (L' := [.ref 2, .int p0]) (st' := []) dX11_countOfBooks_1 (by rw [n5]; rfl) ?_
    have F := F.1 n5
    refine ms_seq mB_139 mO_139 [(.bipush (-3), 2)] (pc' := 186) (L' := [.ref 2, .int p0]) (st' := [.int (-3)]) ⟨dX11_countOfBooks_184, trivial⟩ rfl ?_
    exact ms_iret mB_139 dX11_countOfBooks_186 mR_139 ⟨_, rfl, rfl, F⟩
  have F := F.2
  by_cases n6 : p0 = 6
  · refine ms_pure mB_139 mO_139 (pc' := 184) (L' := [.ref 2, .int p0]) (st' := []) dX11_countOfBooks_1 (by rw [n6]; rfl) ?_
    have F := F.1 n6
    refine ms_seq mB_139 mO_139 [(.bipush (-3), 2)] (pc' := 186) (L' := [.ref 2, .int p0]) (st' := [.int (-3)]) ⟨dX11_countOfBooks_184, trivial⟩ rfl ?_
    exact ms_iret mB_139 dX11_countOfBooks_186 mR_139 ⟨_, rfl, rfl, F⟩
  have F := F.2
  by_cases n7 : p0 = 7
  · refine ms_pure mB_139 mO_139 (pc' := 184) (L' := [.ref 2, .int p0]) (st' := []) dX11_countOfBooks_1 (by rw [n7]; rfl) ?_
    have F := F.1 n7
    refine ms_seq mB_139 mO_139 [(.bipush (-3), 2)] (pc' := 186) (L' := [.ref 2, .int p0]) (st' := [.int (-3)]) ⟨dX11_countOfBooks_184, trivial⟩ rfl ?_
    exact ms_iret mB_139 dX11_countOfBooks_186 mR_139 ⟨_, rfl, rfl, F⟩
  have F := F.2
  by_cases n8 : p0 = 8
  · refine ms_pure mB_139 mO_139 (pc' := 164) (L' := [.ref 2, .int p0]) (st' := []) dX11_countOfBooks_1 (by rw [n8]; rfl) ?_
    have F := F.1 n8
    refine ms_seq mB_139 mO_139 [(.aload_n 0, 1)] (pc' := 165) (L' := [.ref 2, .int p0]) (st' := [.ref 2]) ⟨dX11_countOfBooks_164, trivial⟩ rfl ?_
    refine ms_getI mB_139 mO_139 dX11_countOfBooks_165 mF_11_64 (gk_2 N) (Or.inr rfl) ?_
    refine ms_if_eq mB_139 dX11_countOfBooks_168 (t := 181) rfl (fun c => ?_) (fun c => ?_)
    · have F := F.1 c
      refine ms_seq mB_139 mO_139 [(.bipush (-6), 2)] (pc' := 183) (L' := [.ref 2, .int p0]) (st' := [.int (-6)]) ⟨dX11_countOfBooks_181, trivial⟩ rfl ?_
      exact ms_iret mB_139 dX11_countOfBooks_183 mR_139 ⟨_, rfl, rfl, F⟩
    · have F := F.2 c
      refine ms_seq mB_139 mO_139 [(.aload_n 0, 1)] (pc' := 172) (L' := [.ref 2, .int p0]) (st' := [.ref 2]) ⟨dX11_countOfBooks_171, trivial⟩ rfl ?_
      refine ms_getR mB_139 mO_139 dX11_countOfBooks_172 mF_11_10 (gk_2 N) rfl (b := 3) (gr_2_0 N) ?_
      refine ms_getI mB_139 mO_139 dX11_countOfBooks_175 mF_11_281 (gk_3 N) (Or.inl rfl) ?_
      refine ms_goto mB_139 dX11_countOfBooks_178 (t := 183) rfl ?_
      exact ms_iret mB_139 dX11_countOfBooks_183 mR_139 ⟨_, rfl, rfl, F⟩
  have F := F.2
  refine ms_swd mB_139 dX11_countOfBooks_1 (t := 184) (by have a0 := lv_neT n0 (a := 0) rfl; have a1 := lv_neT n1 (a := 1) rfl; have a2 := lv_neT n2 (a := 2) rfl; have a3 := lv_neT n3 (a := 3) rfl; have a4 := lv_neT n4 (a := 4) rfl; have a5 := lv_neT n5 (a := 5) rfl; have a6 := lv_neT n6 (a := 6) rfl; have a7 := lv_neT n7 (a := 7) rfl; have a8 := lv_neT n8 (a := 8) rfl; omega) rfl ?_
  have F := F n0
  have F := F n1
  have F := F n2
  have F := F n3
  have F := F n4
  have F := F n5
  have F := F n6
  have F := F n7
  have F := F n8
  refine ms_seq mB_139 mO_139 [(.bipush (-3), 2)] (pc' := 186) (L' := [.ref 2, .int p0]) (st' := [.int (-3)]) ⟨dX11_countOfBooks_184, trivial⟩ rfl ?_
  exact ms_iret mB_139 dX11_countOfBooks_186 mR_139 ⟨_, rfl, rfl, F⟩
set_option maxRecDepth 100000 in
theorem q11_writePlain_0 {N d : Nat} (hd : 5 ≤ d) {ln la lb lim : Nat} (hl : mi_Ls ln la lb lim) {p1 p2 : Int32} {δ : mi_D} {Q : Int32 → mi_D → Prop} (F : (mi_wI N (d - 1) 23 0 [.ref 3, .ref ln, .int p1, .null] [] δ (fun r2 δ1 => ((r2 = 0 → (mi_wV N (d - 1) 52 0 [.ref 28, .int 5] [] δ1 (fun δ3 => (mi_wV N (d - 1) 53 0 [.ref 28, .long (Int32.toInt64 p1), .null, .null, .null, .null, .null] [] δ3 (fun δ4 => (mi_wV N (d - 1) 53 0 [.ref 28, .long (Int32.toInt64 p2), .null, .null, .null, .null, .null] [] δ4 (fun δ5 => (mi_wV N (d - 1) 53 0 [.ref 28, .long (Int32.toInt64 (δ5.1 ln 2)), .null, .null, .null, .null, .null] [] δ5 (fun δ6 => mi_wI N d 140 60 [.ref 2, .ref ln, .int p1, .int p2, .int r2, .int 0] [] δ6 Q))))))))) ∧ (¬ r2 = 0 → Q r2 δ1))))) : mi_wI N d 140 0 [.ref 2, .ref ln, .int p1, .int p2, .null, .null] [] δ Q := by
  unfold mi_wI
  obtain ⟨hk_ln, hr_ln_0, hr_ln_1, hk_la, hk_lb, hl_la, hl_lb⟩ := hl.all N
  refine ms_seq mB_140 mO_140 [(.aload_n 0, 1)] (pc' := 1) (L' := [.ref 2, .ref ln, .int p1, .int p2, .null, .null]) (st' := [.ref 2]) ⟨dX11_writePlain_0, trivial⟩ rfl ?_
  refine ms_getR mB_140 mO_140 dX11_writePlain_1 mF_11_10 (gk_2 N) rfl (b := 3) (gr_2_0 N) ?_
  refine ms_seq mB_140 mO_140 [(.aload_n 1, 1), (.iload_n 2, 1)] (pc' := 6) (L' := [.ref 2, .ref ln, .int p1, .int p2, .null, .null]) (st' := [.int p1, .ref ln, .ref 3]) ⟨dX11_writePlain_4, dX11_writePlain_5, trivial⟩ rfl ?_
  refine ms_callvI mB_140 mO_140 (by omega) dX11_writePlain_6 mQ_11_284 mC_11_284 mL_23 mO_23 rfl (Nat.le_of_ble_eq_true rfl) (Nat.le_of_ble_eq_true rfl) (gk_3 N) rfl F (fun r2 δ1 F => ?_)
  refine ms_seq mB_140 mO_140 [(.istore 4, 2), (.iload 4, 2)] (pc' := 13) (L' := [.ref 2, .ref ln, .int p1, .int p2, .int r2, .null]) (st' := [.int r2]) ⟨dX11_writePlain_9, dX11_writePlain_11, trivial⟩ rfl ?_
  refine ms_if_eq mB_140 dX11_writePlain_13 (t := 19) rfl (fun c => ?_) (fun c => ?_)
  · have F := F.1 c
    refine ms_seq mB_140 mO_140 [(.aload_n 0, 1)] (pc' := 20) (L' := [.ref 2, .ref ln, .int p1, .int p2, .int r2, .null]) (st' := [.ref 2]) ⟨dX11_writePlain_19, trivial⟩ rfl ?_
    refine ms_getR mB_140 mO_140 dX11_writePlain_20 mF_11_19 (gk_2 N) rfl (b := 28) (gr_2_1 N) ?_
    refine ms_seq mB_140 mO_140 [(.iconst 5, 1)] (pc' := 24) (L' := [.ref 2, .ref ln, .int p1, .int p2, .int r2, .null]) (st' := [.int 5, .ref 28]) ⟨dX11_writePlain_23, trivial⟩ rfl ?_
    refine ms_callvV mB_140 mO_140 (by omega) dX11_writePlain_24 mQ_11_72 mC_11_72 mL_52 mO_52 rfl (Nat.le_of_ble_eq_true rfl) (Nat.le_of_ble_eq_true rfl) (gk_28 N) rfl F (fun δ3 F => ?_)
    refine ms_seq mB_140 mO_140 [(.aload_n 0, 1)] (pc' := 28) (L' := [.ref 2, .ref ln, .int p1, .int p2, .int r2, .null]) (st' := [.ref 2]) ⟨dX11_writePlain_27, trivial⟩ rfl ?_
    refine ms_getR mB_140 mO_140 dX11_writePlain_28 mF_11_19 (gk_2 N) rfl (b := 28) (gr_2_1 N) ?_
    refine ms_seq mB_140 mO_140 [(.iload_n 2, 1), (.i2l, 1)] (pc' := 33) (L' := [.ref 2, .ref ln, .int p1, .int p2, .int r2, .null]) (st' := [.long (Int32.toInt64 p1), .ref 28]) ⟨dX11_writePlain_31, dX11_writePlain_32, trivial⟩ rfl ?_
    refine ms_callvV mB_140 mO_140 (by omega) dX11_writePlain_33 mQ_11_75 mC_11_75 mL_53 mO_53 rfl (Nat.le_of_ble_eq_true rfl) (Nat.le_of_ble_eq_true rfl) (gk_28 N) rfl F (fun δ4 F => ?_)
    refine ms_seq mB_140 mO_140 [(.aload_n 0, 1)] (pc' := 37) (L' := [.ref 2, .ref ln, .int p1, .int p2, .int r2, .null]) (st' := [.ref 2]) ⟨dX11_writePlain_36, trivial⟩ rfl ?_
    refine ms_getR mB_140 mO_140 dX11_writePlain_37 mF_11_19 (gk_2 N) rfl (b := 28) (gr_2_1 N) ?_
    refine ms_seq mB_140 mO_140 [(.iload_n 3, 1), (.i2l, 1)] (pc' := 42) (L' := [.ref 2, .ref ln, .int p1, .int p2, .int r2, .null]) (st' := [.long (Int32.toInt64 p2), .ref 28]) ⟨dX11_writePlain_40, dX11_writePlain_41, trivial⟩ rfl ?_
    refine ms_callvV mB_140 mO_140 (by omega) dX11_writePlain_42 mQ_11_75 mC_11_75 mL_53 mO_53 rfl (Nat.le_of_ble_eq_true rfl) (Nat.le_of_ble_eq_true rfl) (gk_28 N) rfl F (fun δ5 F => ?_)
    refine ms_seq mB_140 mO_140 [(.aload_n 0, 1)] (pc' := 46) (L' := [.ref 2, .ref ln, .int p1, .int p2, .int r2, .null]) (st' := [.ref 2]) ⟨dX11_writePlain_45, trivial⟩ rfl ?_
    refine ms_getR mB_140 mO_140 dX11_writePlain_46 mF_11_19 (gk_2 N) rfl (b := 28) (gr_2_1 N) ?_
    refine ms_seq mB_140 mO_140 [(.aload_n 1, 1)] (pc' := 50) (L' := [.ref 2, .ref ln, .int p1, .int p2, .int r2, .null]) (st' := [.ref ln, .ref 28]) ⟨dX11_writePlain_49, trivial⟩ rfl ?_
    refine ms_getI mB_140 mO_140 dX11_writePlain_50 mF_11_119 (hk_ln) (Or.inl rfl) ?_
    refine ms_seq mB_140 mO_140 [(.i2l, 1)] (pc' := 54) (L' := [.ref 2, .ref ln, .int p1, .int p2, .int r2, .null]) (st' := [.long (Int32.toInt64 (δ5.1 ln 2)), .ref 28]) ⟨dX11_writePlain_53, trivial⟩ rfl ?_
    refine ms_callvV mB_140 mO_140 (by omega) dX11_writePlain_54 mQ_11_75 mC_11_75 mL_53 mO_53 rfl (Nat.le_of_ble_eq_true rfl) (Nat.le_of_ble_eq_true rfl) (gk_28 N) rfl F (fun δ6 F => ?_)
    refine ms_seq mB_140 mO_140 [(.iconst 0, 1), (.istore 5, 2)] (pc' := 60) (L' := [.ref 2, .ref ln, .int p1, .int p2, .int r2, .int 0]) (st' := []) ⟨dX11_writePlain_57, dX11_writePlain_58, trivial⟩ rfl ?_
    exact F
  · have F := F.2 c
    refine ms_seq mB_140 mO_140 [(.iload 4, 2)] (pc' := 18) (L' := [.ref 2, .ref ln, .int p1, .int p2, .int r2, .null]) (st' := [.int r2]) ⟨dX11_writePlain_16, trivial⟩ rfl ?_
    exact ms_iret mB_140 dX11_writePlain_18 mR_140 ⟨_, rfl, rfl, F⟩
set_option maxRecDepth 100000 in
theorem q11_writePlain_60 {N d : Nat} (hd : 5 ≤ d) {ln la lb lim : Nat} (hl : mi_Ls ln la lb lim) {l2 l3 l4 l5 : Int32} {δ : mi_D} {Q : Int32 → mi_D → Prop} (F : ((l5 < (δ.1 ln 2) → (mi_wV N (d - 1) 53 0 [.ref 28, .long (Int32.toInt64 (mi_at δ la l5)), .null, .null, .null, .null, .null] [] δ (fun δ6 => (mi_wV N (d - 1) 53 0 [.ref 28, .long (mi_al δ6 lb l5), .null, .null, .null, .null, .null] [] δ6 (fun δ7 => mi_wI N d 140 60 [.ref 2, .ref ln, .int l2, .int l3, .int l4, .int (l5 + 1)] [] δ7 Q))))) ∧ (¬ l5 < (δ.1 ln 2) → (mi_wI N (d - 1) 54 0 [.ref 28, .null, .null] [] δ (fun r2 δ1 => ((r2 = 0 → Q (-13) δ1) ∧ (¬ r2 = 0 → (mi_wI N (d - 1) 27 0 [.ref 3, .ref ln, .int l2, .int l3, .int 0, .int (-1), .null] [] δ1 (fun r4 δ3 => (mi_wV N (d - 1) 62 0 [.ref 35] [] δ3 (fun δ5 => Q r4 δ5))))))))))) : mi_wI N d 140 60 [.ref 2, .ref ln, .int l2, .int l3, .int l4, .int l5] [] δ Q := by
  unfold mi_wI
  obtain ⟨hk_ln, hr_ln_0, hr_ln_1, hk_la, hk_lb, hl_la, hl_lb⟩ := hl.all N
  refine ms_seq mB_140 mO_140 [(.iload 5, 2), (.aload_n 1, 1)] (pc' := 63) (L' := [.ref 2, .ref ln, .int l2, .int l3, .int l4, .int l5]) (st' := [.ref ln, .int l5]) ⟨dX11_writePlain_60, dX11_writePlain_62, trivial⟩ rfl ?_
  refine ms_getI mB_140 mO_140 dX11_writePlain_63 mF_11_119 (hk_ln) (Or.inl rfl) ?_
  refine ms_icmp_ge mB_140 dX11_writePlain_66 (t := 108) rfl (fun c => ?_) (fun c => ?_)
  · have F := F.2 c
    refine ms_seq mB_140 mO_140 [(.aload_n 0, 1)] (pc' := 109) (L' := [.ref 2, .ref ln, .int l2, .int l3, .int l4, .int l5]) (st' := [.ref 2]) ⟨dX11_writePlain_108, trivial⟩ rfl ?_
    refine ms_getR mB_140 mO_140 dX11_writePlain_109 mF_11_19 (gk_2 N) rfl (b := 28) (gr_2_1 N) ?_
    refine ms_callvI mB_140 mO_140 (by omega) dX11_writePlain_112 mQ_11_79 mC_11_79 mL_54 mO_54 rfl (Nat.le_of_ble_eq_true rfl) (Nat.le_of_ble_eq_true rfl) (gk_28 N) rfl F (fun r2 δ1 F => ?_)
    refine ms_if_ne mB_140 dX11_writePlain_115 (t := 121) rfl (fun c => ?_) (fun c => ?_)
    · have F := F.2 c
      refine ms_seq mB_140 mO_140 [(.aload_n 0, 1)] (pc' := 122) (L' := [.ref 2, .ref ln, .int l2, .int l3, .int l4, .int l5]) (st' := [.ref 2]) ⟨dX11_writePlain_121, trivial⟩ rfl ?_
      refine ms_getR mB_140 mO_140 dX11_writePlain_122 mF_11_10 (gk_2 N) rfl (b := 3) (gr_2_0 N) ?_
      refine ms_seq mB_140 mO_140 [(.aload_n 1, 1), (.iload_n 2, 1), (.iload_n 3, 1), (.iconst 0, 1), (.iconst (-1), 1)] (pc' := 130) (L' := [.ref 2, .ref ln, .int l2, .int l3, .int l4, .int l5]) (st' := [.int (-1), .int 0, .int l3, .int l2, .ref ln, .ref 3]) ⟨dX11_writePlain_125, dX11_writePlain_126, dX11_writePlain_127, dX11_writePlain_128, dX11_writePlain_129, trivial⟩ rfl ?_
      refine ms_callvI mB_140 mO_140 (by omega) dX11_writePlain_130 mQ_11_293 mC_11_293 mL_27 mO_27 rfl (Nat.le_of_ble_eq_true rfl) (Nat.le_of_ble_eq_true rfl) (gk_3 N) rfl F (fun r4 δ3 F => ?_)
      refine ms_seq mB_140 mO_140 [(.istore 5, 2), (.aload_n 0, 1)] (pc' := 136) (L' := [.ref 2, .ref ln, .int l2, .int l3, .int l4, .int r4]) (st' := [.ref 2]) ⟨dX11_writePlain_133, dX11_writePlain_135, trivial⟩ rfl ?_
      refine ms_getR mB_140 mO_140 dX11_writePlain_136 mF_11_37 (gk_2 N) rfl (b := 35) (gr_2_3 N) ?_
      refine ms_callvV mB_140 mO_140 (by omega) dX11_writePlain_139 mQ_11_126 mC_11_126 mL_62 mO_62 rfl (Nat.le_of_ble_eq_true rfl) (Nat.le_of_ble_eq_true rfl) (gk_35 N) rfl F (fun δ5 F => ?_)
      refine ms_seq mB_140 mO_140 [(.iload 5, 2)] (pc' := 144) (L' := [.ref 2, .ref ln, .int l2, .int l3, .int l4, .int r4]) (st' := [.int r4]) ⟨dX11_writePlain_142, trivial⟩ rfl ?_
      exact ms_iret mB_140 dX11_writePlain_144 mR_140 ⟨_, rfl, rfl, F⟩
    · have F := F.1 c
      refine ms_seq mB_140 mO_140 [(.bipush (-13), 2)] (pc' := 120) (L' := [.ref 2, .ref ln, .int l2, .int l3, .int l4, .int l5]) (st' := [.int (-13)]) ⟨dX11_writePlain_118, trivial⟩ rfl ?_
      exact ms_iret mB_140 dX11_writePlain_120 mR_140 ⟨_, rfl, rfl, F⟩
  · have F := F.1 c
    refine ms_seq mB_140 mO_140 [(.aload_n 0, 1)] (pc' := 70) (L' := [.ref 2, .ref ln, .int l2, .int l3, .int l4, .int l5]) (st' := [.ref 2]) ⟨dX11_writePlain_69, trivial⟩ rfl ?_
    refine ms_getR mB_140 mO_140 dX11_writePlain_70 mF_11_19 (gk_2 N) rfl (b := 28) (gr_2_1 N) ?_
    refine ms_seq mB_140 mO_140 [(.aload_n 1, 1)] (pc' := 74) (L' := [.ref 2, .ref ln, .int l2, .int l3, .int l4, .int l5]) (st' := [.ref ln, .ref 28]) ⟨dX11_writePlain_73, trivial⟩ rfl ?_
    refine ms_getR mB_140 mO_140 dX11_writePlain_74 mF_11_288 (hk_ln) rfl (b := la) (hr_ln_0) ?_
    refine ms_seq mB_140 mO_140 [(.iload 5, 2)] (pc' := 79) (L' := [.ref 2, .ref ln, .int l2, .int l3, .int l4, .int l5]) (st' := [.int l5, .ref la, .ref 28]) ⟨dX11_writePlain_77, trivial⟩ rfl ?_
    refine ms_at mB_140 mO_140 hd dX11_writePlain_79 mQ_11_184 (Nat.le_of_ble_eq_true rfl) (hk_la) (mi_ne (hl_la)) ?_
    refine ms_seq mB_140 mO_140 [(.i2l, 1)] (pc' := 83) (L' := [.ref 2, .ref ln, .int l2, .int l3, .int l4, .int l5]) (st' := [.long (Int32.toInt64 (mi_at δ la l5)), .ref 28]) ⟨dX11_writePlain_82, trivial⟩ rfl ?_
    refine ms_callvV mB_140 mO_140 (by omega) dX11_writePlain_83 mQ_11_75 mC_11_75 mL_53 mO_53 rfl (Nat.le_of_ble_eq_true rfl) (Nat.le_of_ble_eq_true rfl) (gk_28 N) rfl F (fun δ6 F => ?_)
    refine ms_seq mB_140 mO_140 [(.aload_n 0, 1)] (pc' := 87) (L' := [.ref 2, .ref ln, .int l2, .int l3, .int l4, .int l5]) (st' := [.ref 2]) ⟨dX11_writePlain_86, trivial⟩ rfl ?_
    refine ms_getR mB_140 mO_140 dX11_writePlain_87 mF_11_19 (gk_2 N) rfl (b := 28) (gr_2_1 N) ?_
    refine ms_seq mB_140 mO_140 [(.aload_n 1, 1)] (pc' := 91) (L' := [.ref 2, .ref ln, .int l2, .int l3, .int l4, .int l5]) (st' := [.ref ln, .ref 28]) ⟨dX11_writePlain_90, trivial⟩ rfl ?_
    refine ms_getR mB_140 mO_140 dX11_writePlain_91 mF_11_290 (hk_ln) rfl (b := lb) (hr_ln_1) ?_
    refine ms_seq mB_140 mO_140 [(.iload 5, 2)] (pc' := 96) (L' := [.ref 2, .ref ln, .int l2, .int l3, .int l4, .int l5]) (st' := [.int l5, .ref lb, .ref 28]) ⟨dX11_writePlain_94, trivial⟩ rfl ?_
    refine ms_al mB_140 mO_140 hd dX11_writePlain_96 mQ_11_261 (Nat.le_of_ble_eq_true rfl) (hk_lb) (mi_ne (hl_lb)) ?_
    refine ms_callvV mB_140 mO_140 (by omega) dX11_writePlain_99 mQ_11_75 mC_11_75 mL_53 mO_53 rfl (Nat.le_of_ble_eq_true rfl) (Nat.le_of_ble_eq_true rfl) (gk_28 N) rfl F (fun δ7 F => ?_)
    refine ms_seq mB_140 mO_140 [(.iinc 5 1, 3)] (pc' := 105) (L' := [.ref 2, .ref ln, .int l2, .int l3, .int l4, .int (l5 + 1)]) (st' := []) ⟨dX11_writePlain_102, trivial⟩ rfl ?_
    refine ms_goto mB_140 dX11_writePlain_105 (t := 60) rfl ?_
    exact F
set_option maxRecDepth 100000 in
theorem q11_refusesShare_0 {N d : Nat} (hd : 5 ≤ d) {p0 : Int32} {p1 : Int64} {δ : mi_D} {Q : Int32 → mi_D → Prop} (F : (mi_wI N (d - 1) 2 0 [.ref 4, .int p0] [] δ (fun r2 δ1 => ((r2 = 0 → Q (-2) δ1) ∧ (¬ r2 = 0 → (mi_wI N (d - 1) 145 0 [.long p1, .null] [] δ1 (fun r4 δ3 => ((r4 = 0 → Q (-3) δ3) ∧ (¬ r4 = 0 → (mi_wI N (d - 1) 143 0 [.ref 35, .null, .null, .null] [] δ3 (fun r6 δ5 => ((r6 = 0 → Q (-3) δ5) ∧ (¬ r6 = 0 → (mi_wI N (d - 1) 3 0 [.ref 4, .int p0] [] δ5 (fun r8 δ7 => ((r8 = 0 → Q (-4) δ7) ∧ (¬ r8 = 0 → (((δ7.1 35 2) = 0 → Q (-6) δ7) ∧ (¬ (δ7.1 35 2) = 0 → Q 0 δ7))))))))))))))))))) : mi_wI N d 141 0 [.ref 2, .int p0, .long p1, .null] [] δ Q := by
  unfold mi_wI
  refine ms_seq mB_141 mO_141 [(.aload_n 0, 1)] (pc' := 1) (L' := [.ref 2, .int p0, .long p1, .null]) (st' := [.ref 2]) ⟨dX11_refusesShare_0, trivial⟩ rfl ?_
  refine ms_getR mB_141 mO_141 dX11_refusesShare_1 mF_11_10 (gk_2 N) rfl (b := 3) (gr_2_0 N) ?_
  refine ms_getR mB_141 mO_141 dX11_refusesShare_4 mF_11_53 (gk_3 N) rfl (b := 4) (gr_3_0 N) ?_
  refine ms_seq mB_141 mO_141 [(.iload_n 1, 1)] (pc' := 8) (L' := [.ref 2, .int p0, .long p1, .null]) (st' := [.int p0, .ref 4]) ⟨dX11_refusesShare_7, trivial⟩ rfl ?_
  refine ms_callvI mB_141 mO_141 (by omega) dX11_refusesShare_8 mQ_11_189 mC_11_189 mL_2 mO_2 rfl (Nat.le_of_ble_eq_true rfl) (Nat.le_of_ble_eq_true rfl) (gk_4 N) rfl F (fun r2 δ1 F => ?_)
  refine ms_if_ne mB_141 dX11_refusesShare_11 (t := 17) rfl (fun c => ?_) (fun c => ?_)
  · have F := F.2 c
    refine ms_seq mB_141 mO_141 [(.lload_n 2, 1)] (pc' := 18) (L' := [.ref 2, .int p0, .long p1, .null]) (st' := [.long p1]) ⟨dX11_refusesShare_17, trivial⟩ rfl ?_
    refine ms_callsI mB_141 mO_141 (by omega) dX11_refusesShare_18 mQ_11_297 mC_11_297 mL_145 (by decide) rfl (Nat.le_of_ble_eq_true rfl) (Nat.le_of_ble_eq_true rfl) rfl F (fun r4 δ3 F => ?_)
    refine ms_if_eq mB_141 dX11_refusesShare_21 (t := 34) rfl (fun c => ?_) (fun c => ?_)
    · have F := F.1 c
      refine ms_seq mB_141 mO_141 [(.bipush (-3), 2)] (pc' := 36) (L' := [.ref 2, .int p0, .long p1, .null]) (st' := [.int (-3)]) ⟨dX11_refusesShare_34, trivial⟩ rfl ?_
      exact ms_iret mB_141 dX11_refusesShare_36 mR_141 ⟨_, rfl, rfl, F⟩
    · have F := F.2 c
      refine ms_seq mB_141 mO_141 [(.aload_n 0, 1)] (pc' := 25) (L' := [.ref 2, .int p0, .long p1, .null]) (st' := [.ref 2]) ⟨dX11_refusesShare_24, trivial⟩ rfl ?_
      refine ms_getR mB_141 mO_141 dX11_refusesShare_25 mF_11_37 (gk_2 N) rfl (b := 35) (gr_2_3 N) ?_
      refine ms_callsI mB_141 mO_141 (by omega) dX11_refusesShare_28 mQ_11_300 mC_11_300 mL_143 (by decide) rfl (Nat.le_of_ble_eq_true rfl) (Nat.le_of_ble_eq_true rfl) rfl F (fun r6 δ5 F => ?_)
      refine ms_if_ne mB_141 dX11_refusesShare_31 (t := 37) rfl (fun c => ?_) (fun c => ?_)
      · have F := F.2 c
        refine ms_seq mB_141 mO_141 [(.aload_n 0, 1)] (pc' := 38) (L' := [.ref 2, .int p0, .long p1, .null]) (st' := [.ref 2]) ⟨dX11_refusesShare_37, trivial⟩ rfl ?_
        refine ms_getR mB_141 mO_141 dX11_refusesShare_38 mF_11_10 (gk_2 N) rfl (b := 3) (gr_2_0 N) ?_
        refine ms_getR mB_141 mO_141 dX11_refusesShare_41 mF_11_53 (gk_3 N) rfl (b := 4) (gr_3_0 N) ?_
        refine ms_seq mB_141 mO_141 [(.iload_n 1, 1)] (pc' := 45) (L' := [.ref 2, .int p0, .long p1, .null]) (st' := [.int p0, .ref 4]) ⟨dX11_refusesShare_44, trivial⟩ rfl ?_
        refine ms_callvI mB_141 mO_141 (by omega) dX11_refusesShare_45 mQ_11_229 mC_11_229 mL_3 mO_3 rfl (Nat.le_of_ble_eq_true rfl) (Nat.le_of_ble_eq_true rfl) (gk_4 N) rfl F (fun r8 δ7 F => ?_)
        refine ms_if_ne mB_141 dX11_refusesShare_48 (t := 54) rfl (fun c => ?_) (fun c => ?_)
        · have F := F.2 c
          refine ms_seq mB_141 mO_141 [(.aload_n 0, 1)] (pc' := 55) (L' := [.ref 2, .int p0, .long p1, .null]) (st' := [.ref 2]) ⟨dX11_refusesShare_54, trivial⟩ rfl ?_
          refine ms_getR mB_141 mO_141 dX11_refusesShare_55 mF_11_37 (gk_2 N) rfl (b := 35) (gr_2_3 N) ?_
          refine ms_getI mB_141 mO_141 dX11_refusesShare_58 mF_11_119 (gk_35 N) (Or.inl rfl) ?_
          refine ms_if_ne mB_141 dX11_refusesShare_61 (t := 69) rfl (fun c => ?_) (fun c => ?_)
          · have F := F.2 c
            refine ms_seq mB_141 mO_141 [(.iconst 0, 1)] (pc' := 70) (L' := [.ref 2, .int p0, .long p1, .null]) (st' := [.int 0]) ⟨dX11_refusesShare_69, trivial⟩ rfl ?_
            exact ms_iret mB_141 dX11_refusesShare_70 mR_141 ⟨_, rfl, rfl, F⟩
          · have F := F.1 c
            refine ms_seq mB_141 mO_141 [(.bipush (-6), 2)] (pc' := 66) (L' := [.ref 2, .int p0, .long p1, .null]) (st' := [.int (-6)]) ⟨dX11_refusesShare_64, trivial⟩ rfl ?_
            refine ms_goto mB_141 dX11_refusesShare_66 (t := 70) rfl ?_
            exact ms_iret mB_141 dX11_refusesShare_70 mR_141 ⟨_, rfl, rfl, F⟩
        · have F := F.1 c
          refine ms_seq mB_141 mO_141 [(.bipush (-4), 2)] (pc' := 53) (L' := [.ref 2, .int p0, .long p1, .null]) (st' := [.int (-4)]) ⟨dX11_refusesShare_51, trivial⟩ rfl ?_
          exact ms_iret mB_141 dX11_refusesShare_53 mR_141 ⟨_, rfl, rfl, F⟩
      · have F := F.1 c
        refine ms_seq mB_141 mO_141 [(.bipush (-3), 2)] (pc' := 36) (L' := [.ref 2, .int p0, .long p1, .null]) (st' := [.int (-3)]) ⟨dX11_refusesShare_34, trivial⟩ rfl ?_
        exact ms_iret mB_141 dX11_refusesShare_36 mR_141 ⟨_, rfl, rfl, F⟩
  · have F := F.1 c
    refine ms_seq mB_141 mO_141 [(.bipush (-2), 2)] (pc' := 16) (L' := [.ref 2, .int p0, .long p1, .null]) (st' := [.int (-2)]) ⟨dX11_refusesShare_14, trivial⟩ rfl ?_
    exact ms_iret mB_141 dX11_refusesShare_16 mR_141 ⟨_, rfl, rfl, F⟩
set_option maxRecDepth 100000 in
theorem q11_shareOut_0 {N d : Nat} (hd : 5 ≤ d) {p0 : Int32} {p1 : Int64} {δ : mi_D} {Q : mi_D → Prop} (F : (mi_wV N (d - 1) 97 0 [.ref 41] [] δ (fun δ1 => mi_wV N d 142 10 [.ref 2, .int p0, .long p1, .null, .int 0] [] δ1 Q))) : mi_wV N d 142 0 [.ref 2, .int p0, .long p1, .null, .null] [] δ Q := by
  unfold mi_wV
  refine ms_seq mB_142 mO_142 [(.aload_n 0, 1)] (pc' := 1) (L' := [.ref 2, .int p0, .long p1, .null, .null]) (st' := [.ref 2]) ⟨dX11_shareOut_0, trivial⟩ rfl ?_
  refine ms_getR mB_142 mO_142 dX11_shareOut_1 mF_11_47 (gk_2 N) rfl (b := 41) (gr_2_5 N) ?_
  refine ms_callvV mB_142 mO_142 (by omega) dX11_shareOut_4 mQ_11_251 mC_11_251 mL_97 mO_97 rfl (Nat.le_of_ble_eq_true rfl) (Nat.le_of_ble_eq_true rfl) (gk_41 N) rfl F (fun δ1 F => ?_)
  refine ms_seq mB_142 mO_142 [(.iconst 0, 1), (.istore 4, 2)] (pc' := 10) (L' := [.ref 2, .int p0, .long p1, .null, .int 0]) (st' := []) ⟨dX11_shareOut_7, dX11_shareOut_8, trivial⟩ rfl ?_
  exact F
set_option maxRecDepth 100000 in
theorem q11_shareOut_10 {N d : Nat} (hd : 5 ≤ d) {l1 l4 : Int32} {l2 : Int64} {δ : mi_D} {Q : mi_D → Prop} (F : ((l4 < (δ.1 35 2) → (mi_wV N (d - 1) 98 0 [.ref 41, .int (Int64.toInt32 (mi_al δ 37 l4))] [] δ (fun δ5 => mi_wV N d 142 10 [.ref 2, .int l1, .long l2, .null, .int (l4 + 1)] [] δ5 Q))) ∧ (¬ l4 < (δ.1 35 2) → (mi_wI N (d - 1) 99 0 [.ref 41, .long l2, .null, .null, .null, .null, .null, .null, .null, .null] [] δ (fun r2 δ1 => (mi_wV N (d - 1) 62 0 [.ref 38] [] δ1 (fun δ3 => (mi_wV N (d - 1) 63 0 [.ref 38, .int l1, .long (-l2), .null] [] δ3 (fun δ4 => mi_wV N d 142 77 [.ref 2, .int l1, .long l2, .null, .int 0] [] δ4 Q))))))))) : mi_wV N d 142 10 [.ref 2, .int l1, .long l2, .null, .int l4] [] δ Q := by
  unfold mi_wV
  refine ms_seq mB_142 mO_142 [(.iload 4, 2), (.aload_n 0, 1)] (pc' := 13) (L' := [.ref 2, .int l1, .long l2, .null, .int l4]) (st' := [.ref 2, .int l4]) ⟨dX11_shareOut_10, dX11_shareOut_12, trivial⟩ rfl ?_
  refine ms_getR mB_142 mO_142 dX11_shareOut_13 mF_11_37 (gk_2 N) rfl (b := 35) (gr_2_3 N) ?_
  refine ms_getI mB_142 mO_142 dX11_shareOut_16 mF_11_119 (gk_35 N) (Or.inl rfl) ?_
  refine ms_icmp_ge mB_142 dX11_shareOut_19 (t := 48) rfl (fun c => ?_) (fun c => ?_)
  · have F := F.2 c
    refine ms_seq mB_142 mO_142 [(.aload_n 0, 1)] (pc' := 49) (L' := [.ref 2, .int l1, .long l2, .null, .int l4]) (st' := [.ref 2]) ⟨dX11_shareOut_48, trivial⟩ rfl ?_
    refine ms_getR mB_142 mO_142 dX11_shareOut_49 mF_11_47 (gk_2 N) rfl (b := 41) (gr_2_5 N) ?_
    refine ms_seq mB_142 mO_142 [(.lload_n 2, 1)] (pc' := 53) (L' := [.ref 2, .int l1, .long l2, .null, .int l4]) (st' := [.long l2, .ref 41]) ⟨dX11_shareOut_52, trivial⟩ rfl ?_
    refine ms_callvI mB_142 mO_142 (by omega) dX11_shareOut_53 mQ_11_254 mC_11_254 mL_99 mO_99 rfl (Nat.le_of_ble_eq_true rfl) (Nat.le_of_ble_eq_true rfl) (gk_41 N) rfl F (fun r2 δ1 F => ?_)
    refine ms_seq mB_142 mO_142 [(.pop, 1), (.aload_n 0, 1)] (pc' := 58) (L' := [.ref 2, .int l1, .long l2, .null, .int l4]) (st' := [.ref 2]) ⟨dX11_shareOut_56, dX11_shareOut_57, trivial⟩ rfl ?_
    refine ms_getR mB_142 mO_142 dX11_shareOut_58 mF_11_41 (gk_2 N) rfl (b := 38) (gr_2_4 N) ?_
    refine ms_callvV mB_142 mO_142 (by omega) dX11_shareOut_61 mQ_11_126 mC_11_126 mL_62 mO_62 rfl (Nat.le_of_ble_eq_true rfl) (Nat.le_of_ble_eq_true rfl) (gk_38 N) rfl F (fun δ3 F => ?_)
    refine ms_seq mB_142 mO_142 [(.aload_n 0, 1)] (pc' := 65) (L' := [.ref 2, .int l1, .long l2, .null, .int l4]) (st' := [.ref 2]) ⟨dX11_shareOut_64, trivial⟩ rfl ?_
    refine ms_getR mB_142 mO_142 dX11_shareOut_65 mF_11_41 (gk_2 N) rfl (b := 38) (gr_2_4 N) ?_
    refine ms_seq mB_142 mO_142 [(.iload_n 1, 1), (.lload_n 2, 1), (.lneg, 1)] (pc' := 71) (L' := [.ref 2, .int l1, .long l2, .null, .int l4]) (st' := [.long (-l2), .int l1, .ref 38]) ⟨dX11_shareOut_68, dX11_shareOut_69, dX11_shareOut_70, trivial⟩ rfl ?_
    refine ms_callvV mB_142 mO_142 (by omega) dX11_shareOut_71 mQ_11_123 mC_11_123 mL_63 mO_63 rfl (Nat.le_of_ble_eq_true rfl) (Nat.le_of_ble_eq_true rfl) (gk_38 N) rfl F (fun δ4 F => ?_)
    refine ms_seq mB_142 mO_142 [(.iconst 0, 1), (.istore 4, 2)] (pc' := 77) (L' := [.ref 2, .int l1, .long l2, .null, .int 0]) (st' := []) ⟨dX11_shareOut_74, dX11_shareOut_75, trivial⟩ rfl ?_
    exact F
  · have F := F.1 c
    refine ms_seq mB_142 mO_142 [(.aload_n 0, 1)] (pc' := 23) (L' := [.ref 2, .int l1, .long l2, .null, .int l4]) (st' := [.ref 2]) ⟨dX11_shareOut_22, trivial⟩ rfl ?_
    refine ms_getR mB_142 mO_142 dX11_shareOut_23 mF_11_47 (gk_2 N) rfl (b := 41) (gr_2_5 N) ?_
    refine ms_seq mB_142 mO_142 [(.aload_n 0, 1)] (pc' := 27) (L' := [.ref 2, .int l1, .long l2, .null, .int l4]) (st' := [.ref 2, .ref 41]) ⟨dX11_shareOut_26, trivial⟩ rfl ?_
    refine ms_getR mB_142 mO_142 dX11_shareOut_27 mF_11_37 (gk_2 N) rfl (b := 35) (gr_2_3 N) ?_
    refine ms_getR mB_142 mO_142 dX11_shareOut_30 mF_11_290 (gk_35 N) rfl (b := 37) (gr_35_1 N) ?_
    refine ms_seq mB_142 mO_142 [(.iload 4, 2)] (pc' := 35) (L' := [.ref 2, .int l1, .long l2, .null, .int l4]) (st' := [.int l4, .ref 37, .ref 41]) ⟨dX11_shareOut_33, trivial⟩ rfl ?_
    refine ms_al mB_142 mO_142 hd dX11_shareOut_35 mQ_11_261 (Nat.le_of_ble_eq_true rfl) (gk_37 N) (mi_ne (gl_37 N)) ?_
    refine ms_seq mB_142 mO_142 [(.l2i, 1)] (pc' := 39) (L' := [.ref 2, .int l1, .long l2, .null, .int l4]) (st' := [.int (Int64.toInt32 (mi_al δ 37 l4)), .ref 41]) ⟨dX11_shareOut_38, trivial⟩ rfl ?_
    refine ms_callvV mB_142 mO_142 (by omega) dX11_shareOut_39 mQ_11_252 mC_11_252 mL_98 mO_98 rfl (Nat.le_of_ble_eq_true rfl) (Nat.le_of_ble_eq_true rfl) (gk_41 N) rfl F (fun δ5 F => ?_)
    refine ms_seq mB_142 mO_142 [(.iinc 4 1, 3)] (pc' := 45) (L' := [.ref 2, .int l1, .long l2, .null, .int (l4 + 1)]) (st' := []) ⟨dX11_shareOut_42, trivial⟩ rfl ?_
    refine ms_goto mB_142 dX11_shareOut_45 (t := 10) rfl ?_
    exact F
set_option maxRecDepth 100000 in
theorem q11_shareOut_77 {N d : Nat} (hd : 5 ≤ d) {l1 l4 : Int32} {l2 : Int64} {δ : mi_D} {Q : mi_D → Prop} (F : ((l4 < (δ.1 35 2) → (((lg_cmp (mi_al δ 42 l4) 0) = 0 → mi_wV N d 142 77 [.ref 2, .int l1, .long l2, .null, .int (l4 + 1)] [] δ Q) ∧ (¬ (lg_cmp (mi_al δ 42 l4) 0) = 0 → (mi_wV N (d - 1) 63 0 [.ref 38, .int (mi_at δ 36 l4), .long (mi_al δ 42 l4), .null] [] δ (fun δ1 => mi_wV N d 142 77 [.ref 2, .int l1, .long l2, .null, .int (l4 + 1)] [] δ1 Q))))) ∧ (¬ l4 < (δ.1 35 2) → Q δ))) : mi_wV N d 142 77 [.ref 2, .int l1, .long l2, .null, .int l4] [] δ Q := by
  unfold mi_wV
  refine ms_seq mB_142 mO_142 [(.iload 4, 2), (.aload_n 0, 1)] (pc' := 80) (L' := [.ref 2, .int l1, .long l2, .null, .int l4]) (st' := [.ref 2, .int l4]) ⟨dX11_shareOut_77, dX11_shareOut_79, trivial⟩ rfl ?_
  refine ms_getR mB_142 mO_142 dX11_shareOut_80 mF_11_37 (gk_2 N) rfl (b := 35) (gr_2_3 N) ?_
  refine ms_getI mB_142 mO_142 dX11_shareOut_83 mF_11_119 (gk_35 N) (Or.inl rfl) ?_
  refine ms_icmp_ge mB_142 dX11_shareOut_86 (t := 143) rfl (fun c => ?_) (fun c => ?_)
  · have F := F.2 c
    exact ms_vret mB_142 dX11_shareOut_143 mR_142 ⟨rfl, rfl, F⟩
  · have F := F.1 c
    refine ms_seq mB_142 mO_142 [(.aload_n 0, 1)] (pc' := 90) (L' := [.ref 2, .int l1, .long l2, .null, .int l4]) (st' := [.ref 2]) ⟨dX11_shareOut_89, trivial⟩ rfl ?_
    refine ms_getR mB_142 mO_142 dX11_shareOut_90 mF_11_47 (gk_2 N) rfl (b := 41) (gr_2_5 N) ?_
    refine ms_getR mB_142 mO_142 dX11_shareOut_93 mF_11_258 (gk_41 N) rfl (b := 42) (gr_41_0 N) ?_
    refine ms_seq mB_142 mO_142 [(.iload 4, 2)] (pc' := 98) (L' := [.ref 2, .int l1, .long l2, .null, .int l4]) (st' := [.int l4, .ref 42]) ⟨dX11_shareOut_96, trivial⟩ rfl ?_
    refine ms_al mB_142 mO_142 hd dX11_shareOut_98 mQ_11_261 (Nat.le_of_ble_eq_true rfl) (gk_42 N) (mi_ne (gl_42 N)) ?_
    refine ms_seq mB_142 mO_142 [(.lconst 0, 1), (.lcmp, 1)] (pc' := 103) (L' := [.ref 2, .int l1, .long l2, .null, .int l4]) (st' := [.int (lg_cmp (mi_al δ 42 l4) 0)]) ⟨dX11_shareOut_101, dX11_shareOut_102, trivial⟩ rfl ?_
    refine ms_if_eq mB_142 dX11_shareOut_103 (t := 137) rfl (fun c => ?_) (fun c => ?_)
    · have F := F.1 c
      refine ms_seq mB_142 mO_142 [(.iinc 4 1, 3)] (pc' := 140) (L' := [.ref 2, .int l1, .long l2, .null, .int (l4 + 1)]) (st' := []) ⟨dX11_shareOut_137, trivial⟩ rfl ?_
      refine ms_goto mB_142 dX11_shareOut_140 (t := 77) rfl ?_
      exact F
    · have F := F.2 c
      refine ms_seq mB_142 mO_142 [(.aload_n 0, 1)] (pc' := 107) (L' := [.ref 2, .int l1, .long l2, .null, .int l4]) (st' := [.ref 2]) ⟨dX11_shareOut_106, trivial⟩ rfl ?_
      refine ms_getR mB_142 mO_142 dX11_shareOut_107 mF_11_41 (gk_2 N) rfl (b := 38) (gr_2_4 N) ?_
      refine ms_seq mB_142 mO_142 [(.aload_n 0, 1)] (pc' := 111) (L' := [.ref 2, .int l1, .long l2, .null, .int l4]) (st' := [.ref 2, .ref 38]) ⟨dX11_shareOut_110, trivial⟩ rfl ?_
      refine ms_getR mB_142 mO_142 dX11_shareOut_111 mF_11_37 (gk_2 N) rfl (b := 35) (gr_2_3 N) ?_
      refine ms_getR mB_142 mO_142 dX11_shareOut_114 mF_11_288 (gk_35 N) rfl (b := 36) (gr_35_0 N) ?_
      refine ms_seq mB_142 mO_142 [(.iload 4, 2)] (pc' := 119) (L' := [.ref 2, .int l1, .long l2, .null, .int l4]) (st' := [.int l4, .ref 36, .ref 38]) ⟨dX11_shareOut_117, trivial⟩ rfl ?_
      refine ms_at mB_142 mO_142 hd dX11_shareOut_119 mQ_11_184 (Nat.le_of_ble_eq_true rfl) (gk_36 N) (mi_ne (gl_36 N)) ?_
      refine ms_seq mB_142 mO_142 [(.aload_n 0, 1)] (pc' := 123) (L' := [.ref 2, .int l1, .long l2, .null, .int l4]) (st' := [.ref 2, .int (mi_at δ 36 l4), .ref 38]) ⟨dX11_shareOut_122, trivial⟩ rfl ?_
      refine ms_getR mB_142 mO_142 dX11_shareOut_123 mF_11_47 (gk_2 N) rfl (b := 41) (gr_2_5 N) ?_
      refine ms_getR mB_142 mO_142 dX11_shareOut_126 mF_11_258 (gk_41 N) rfl (b := 42) (gr_41_0 N) ?_
      refine ms_seq mB_142 mO_142 [(.iload 4, 2)] (pc' := 131) (L' := [.ref 2, .int l1, .long l2, .null, .int l4]) (st' := [.int l4, .ref 42, .int (mi_at δ 36 l4), .ref 38]) ⟨dX11_shareOut_129, trivial⟩ rfl ?_
      refine ms_al mB_142 mO_142 hd dX11_shareOut_131 mQ_11_261 (Nat.le_of_ble_eq_true rfl) (gk_42 N) (mi_ne (gl_42 N)) ?_
      refine ms_callvV mB_142 mO_142 (by omega) dX11_shareOut_134 mQ_11_123 mC_11_123 mL_63 mO_63 rfl (Nat.le_of_ble_eq_true rfl) (Nat.le_of_ble_eq_true rfl) (gk_38 N) rfl F (fun δ1 F => ?_)
      refine ms_seq mB_142 mO_142 [(.iinc 4 1, 3)] (pc' := 140) (L' := [.ref 2, .int l1, .long l2, .null, .int (l4 + 1)]) (st' := []) ⟨dX11_shareOut_137, trivial⟩ rfl ?_
      refine ms_goto mB_142 dX11_shareOut_140 (t := 77) rfl ?_
      exact F
set_option maxRecDepth 100000 in
theorem q11_areWeights_0 {N d : Nat} (hd : 5 ≤ d) {ln la lb lim : Nat} (hl : mi_Ls ln la lb lim) {δ : mi_D} {Q : Int32 → mi_D → Prop} (F : mi_wI N d 143 2 [.ref ln, .int 0, .null, .null] [] δ Q) : mi_wI N d 143 0 [.ref ln, .null, .null, .null] [] δ Q := by
  unfold mi_wI
  obtain ⟨hk_ln, hr_ln_0, hr_ln_1, hk_la, hk_lb, hl_la, hl_lb⟩ := hl.all N
  refine ms_seq mB_143 mO_143 [(.iconst 0, 1), (.istore_n 1, 1)] (pc' := 2) (L' := [.ref ln, .int 0, .null, .null]) (st' := []) ⟨dX11_areWeights_0, dX11_areWeights_1, trivial⟩ rfl ?_
  exact F
set_option maxRecDepth 100000 in
theorem q11_areWeights_2 {N d : Nat} (hd : 5 ≤ d) {ln la lb lim : Nat} (hl : mi_Ls ln la lb lim) {l1 : Int32} {δ : mi_D} {Q : Int32 → mi_D → Prop} (F : ((l1 < (δ.1 ln 2) → (∀ x1 : Int64, x1 = (mi_al δ lb l1) → (((lg_cmp x1 1) < 0 → Q 0 δ) ∧ (¬ (lg_cmp x1 1) < 0 → ((0 < (lg_cmp x1 1000) → Q 0 δ) ∧ (¬ 0 < (lg_cmp x1 1000) → mi_wI N d 143 2 [.ref ln, .int (l1 + 1), .long x1, .null] [] δ Q)))))) ∧ (¬ l1 < (δ.1 ln 2) → ((7 < (δ.1 ln 2) → Q 0 δ) ∧ (¬ 7 < (δ.1 ln 2) → Q 1 δ))))) : mi_wI N d 143 2 [.ref ln, .int l1, .null, .null] [] δ Q := by
  unfold mi_wI
  obtain ⟨hk_ln, hr_ln_0, hr_ln_1, hk_la, hk_lb, hl_la, hl_lb⟩ := hl.all N
  refine ms_seq mB_143 mO_143 [(.iload_n 1, 1), (.aload_n 0, 1)] (pc' := 4) (L' := [.ref ln, .int l1, .null, .null]) (st' := [.ref ln, .int l1]) ⟨dX11_areWeights_2, dX11_areWeights_3, trivial⟩ rfl ?_
  refine ms_getI mB_143 mO_143 dX11_areWeights_4 mF_11_119 (hk_ln) (Or.inl rfl) ?_
  refine ms_icmp_ge mB_143 dX11_areWeights_7 (t := 41) rfl (fun c => ?_) (fun c => ?_)
  · have F := F.2 c
    refine ms_seq mB_143 mO_143 [(.aload_n 0, 1)] (pc' := 42) (L' := [.ref ln, .int l1, .null, .null]) (st' := [.ref ln]) ⟨dX11_areWeights_41, trivial⟩ rfl ?_
    refine ms_getI mB_143 mO_143 dX11_areWeights_42 mF_11_119 (hk_ln) (Or.inl rfl) ?_
    refine ms_seq mB_143 mO_143 [(.bipush 7, 2)] (pc' := 47) (L' := [.ref ln, .int l1, .null, .null]) (st' := [.int 7, .int (δ.1 ln 2)]) ⟨dX11_areWeights_45, trivial⟩ rfl ?_
    refine ms_icmp_gt mB_143 dX11_areWeights_47 (t := 54) rfl (fun c => ?_) (fun c => ?_)
    · have F := F.1 c
      refine ms_seq mB_143 mO_143 [(.iconst 0, 1)] (pc' := 55) (L' := [.ref ln, .int l1, .null, .null]) (st' := [.int 0]) ⟨dX11_areWeights_54, trivial⟩ rfl ?_
      exact ms_zret mB_143 dX11_areWeights_55 mR_143 (by decide) ⟨_, rfl, rfl, F⟩
    · have F := F.2 c
      refine ms_seq mB_143 mO_143 [(.iconst 1, 1)] (pc' := 51) (L' := [.ref ln, .int l1, .null, .null]) (st' := [.int 1]) ⟨dX11_areWeights_50, trivial⟩ rfl ?_
      refine ms_goto mB_143 dX11_areWeights_51 (t := 55) rfl ?_
      exact ms_zret mB_143 dX11_areWeights_55 mR_143 (by decide) ⟨_, rfl, rfl, F⟩
  · have F := F.1 c
    refine ms_seq mB_143 mO_143 [(.aload_n 0, 1)] (pc' := 11) (L' := [.ref ln, .int l1, .null, .null]) (st' := [.ref ln]) ⟨dX11_areWeights_10, trivial⟩ rfl ?_
    refine ms_getR mB_143 mO_143 dX11_areWeights_11 mF_11_290 (hk_ln) rfl (b := lb) (hr_ln_1) ?_
    refine ms_seq mB_143 mO_143 [(.iload_n 1, 1)] (pc' := 15) (L' := [.ref ln, .int l1, .null, .null]) (st' := [.int l1, .ref lb]) ⟨dX11_areWeights_14, trivial⟩ rfl ?_
    refine ms_al mB_143 mO_143 hd dX11_areWeights_15 mQ_11_261 (Nat.le_of_ble_eq_true rfl) (hk_lb) (mi_ne (hl_lb)) ?_
    refine mr_topl (fun x1 e_x1 => ?_)
    have F := F x1 e_x1
    refine ms_seq mB_143 mO_143 [(.lstore_n 2, 1), (.lload_n 2, 1), (.lconst 1, 1), (.lcmp, 1)] (pc' := 22) (L' := [.ref ln, .int l1, .long x1, .null]) (st' := [.int (lg_cmp x1 1)]) ⟨dX11_areWeights_18, dX11_areWeights_19, dX11_areWeights_20, dX11_areWeights_21, trivial⟩ rfl ?_
    refine ms_if_lt mB_143 dX11_areWeights_22 (t := 33) rfl (fun c => ?_) (fun c => ?_)
    · have F := F.1 c
      refine ms_seq mB_143 mO_143 [(.iconst 0, 1)] (pc' := 34) (L' := [.ref ln, .int l1, .long x1, .null]) (st' := [.int 0]) ⟨dX11_areWeights_33, trivial⟩ rfl ?_
      exact ms_zret mB_143 dX11_areWeights_34 mR_143 (by decide) ⟨_, rfl, rfl, F⟩
    · have F := F.2 c
      refine ms_seq mB_143 mO_143 [(.lload_n 2, 1), (.ldc2_w 304, 3), (.lcmp, 1)] (pc' := 30) (L' := [.ref ln, .int l1, .long x1, .null]) (st' := [.int (lg_cmp x1 1000)]) ⟨dX11_areWeights_25, dX11_areWeights_26, dX11_areWeights_29, trivial⟩ rfl ?_
      refine ms_if_le mB_143 dX11_areWeights_30 (t := 35) rfl (fun c => ?_) (fun c => ?_)
      · have F := F.2 c
        refine ms_seq mB_143 mO_143 [(.iinc 1 1, 3)] (pc' := 38) (L' := [.ref ln, .int (l1 + 1), .long x1, .null]) (st' := []) ⟨dX11_areWeights_35, trivial⟩ rfl ?_
        refine ms_goto mB_143 dX11_areWeights_38 (t := 2) rfl ?_
        exact F
      · have F := F.1 c
        refine ms_seq mB_143 mO_143 [(.iconst 0, 1)] (pc' := 34) (L' := [.ref ln, .int l1, .long x1, .null]) (st' := [.int 0]) ⟨dX11_areWeights_33, trivial⟩ rfl ?_
        exact ms_zret mB_143 dX11_areWeights_34 mR_143 (by decide) ⟨_, rfl, rfl, F⟩
set_option maxRecDepth 100000 in
theorem q11_areWeights_2a {N d : Nat} (hd : 5 ≤ d) {ln la lb lim : Nat} (hl : mi_Ls ln la lb lim) {l1 : Int32} {l2 : Int64} {δ : mi_D} {Q : Int32 → mi_D → Prop} (F : ((l1 < (δ.1 ln 2) → (∀ x1 : Int64, x1 = (mi_al δ lb l1) → (((lg_cmp x1 1) < 0 → Q 0 δ) ∧ (¬ (lg_cmp x1 1) < 0 → ((0 < (lg_cmp x1 1000) → Q 0 δ) ∧ (¬ 0 < (lg_cmp x1 1000) → mi_wI N d 143 2 [.ref ln, .int (l1 + 1), .long x1, .null] [] δ Q)))))) ∧ (¬ l1 < (δ.1 ln 2) → ((7 < (δ.1 ln 2) → Q 0 δ) ∧ (¬ 7 < (δ.1 ln 2) → Q 1 δ))))) : mi_wI N d 143 2 [.ref ln, .int l1, .long l2, .null] [] δ Q := by
  unfold mi_wI
  obtain ⟨hk_ln, hr_ln_0, hr_ln_1, hk_la, hk_lb, hl_la, hl_lb⟩ := hl.all N
  refine ms_seq mB_143 mO_143 [(.iload_n 1, 1), (.aload_n 0, 1)] (pc' := 4) (L' := [.ref ln, .int l1, .long l2, .null]) (st' := [.ref ln, .int l1]) ⟨dX11_areWeights_2, dX11_areWeights_3, trivial⟩ rfl ?_
  refine ms_getI mB_143 mO_143 dX11_areWeights_4 mF_11_119 (hk_ln) (Or.inl rfl) ?_
  refine ms_icmp_ge mB_143 dX11_areWeights_7 (t := 41) rfl (fun c => ?_) (fun c => ?_)
  · have F := F.2 c
    refine ms_seq mB_143 mO_143 [(.aload_n 0, 1)] (pc' := 42) (L' := [.ref ln, .int l1, .long l2, .null]) (st' := [.ref ln]) ⟨dX11_areWeights_41, trivial⟩ rfl ?_
    refine ms_getI mB_143 mO_143 dX11_areWeights_42 mF_11_119 (hk_ln) (Or.inl rfl) ?_
    refine ms_seq mB_143 mO_143 [(.bipush 7, 2)] (pc' := 47) (L' := [.ref ln, .int l1, .long l2, .null]) (st' := [.int 7, .int (δ.1 ln 2)]) ⟨dX11_areWeights_45, trivial⟩ rfl ?_
    refine ms_icmp_gt mB_143 dX11_areWeights_47 (t := 54) rfl (fun c => ?_) (fun c => ?_)
    · have F := F.1 c
      refine ms_seq mB_143 mO_143 [(.iconst 0, 1)] (pc' := 55) (L' := [.ref ln, .int l1, .long l2, .null]) (st' := [.int 0]) ⟨dX11_areWeights_54, trivial⟩ rfl ?_
      exact ms_zret mB_143 dX11_areWeights_55 mR_143 (by decide) ⟨_, rfl, rfl, F⟩
    · have F := F.2 c
      refine ms_seq mB_143 mO_143 [(.iconst 1, 1)] (pc' := 51) (L' := [.ref ln, .int l1, .long l2, .null]) (st' := [.int 1]) ⟨dX11_areWeights_50, trivial⟩ rfl ?_
      refine ms_goto mB_143 dX11_areWeights_51 (t := 55) rfl ?_
      exact ms_zret mB_143 dX11_areWeights_55 mR_143 (by decide) ⟨_, rfl, rfl, F⟩
  · have F := F.1 c
    refine ms_seq mB_143 mO_143 [(.aload_n 0, 1)] (pc' := 11) (L' := [.ref ln, .int l1, .long l2, .null]) (st' := [.ref ln]) ⟨dX11_areWeights_10, trivial⟩ rfl ?_
    refine ms_getR mB_143 mO_143 dX11_areWeights_11 mF_11_290 (hk_ln) rfl (b := lb) (hr_ln_1) ?_
    refine ms_seq mB_143 mO_143 [(.iload_n 1, 1)] (pc' := 15) (L' := [.ref ln, .int l1, .long l2, .null]) (st' := [.int l1, .ref lb]) ⟨dX11_areWeights_14, trivial⟩ rfl ?_
    refine ms_al mB_143 mO_143 hd dX11_areWeights_15 mQ_11_261 (Nat.le_of_ble_eq_true rfl) (hk_lb) (mi_ne (hl_lb)) ?_
    refine mr_topl (fun x1 e_x1 => ?_)
    have F := F x1 e_x1
    refine ms_seq mB_143 mO_143 [(.lstore_n 2, 1), (.lload_n 2, 1), (.lconst 1, 1), (.lcmp, 1)] (pc' := 22) (L' := [.ref ln, .int l1, .long x1, .null]) (st' := [.int (lg_cmp x1 1)]) ⟨dX11_areWeights_18, dX11_areWeights_19, dX11_areWeights_20, dX11_areWeights_21, trivial⟩ rfl ?_
    refine ms_if_lt mB_143 dX11_areWeights_22 (t := 33) rfl (fun c => ?_) (fun c => ?_)
    · have F := F.1 c
      refine ms_seq mB_143 mO_143 [(.iconst 0, 1)] (pc' := 34) (L' := [.ref ln, .int l1, .long x1, .null]) (st' := [.int 0]) ⟨dX11_areWeights_33, trivial⟩ rfl ?_
      exact ms_zret mB_143 dX11_areWeights_34 mR_143 (by decide) ⟨_, rfl, rfl, F⟩
    · have F := F.2 c
      refine ms_seq mB_143 mO_143 [(.lload_n 2, 1), (.ldc2_w 304, 3), (.lcmp, 1)] (pc' := 30) (L' := [.ref ln, .int l1, .long x1, .null]) (st' := [.int (lg_cmp x1 1000)]) ⟨dX11_areWeights_25, dX11_areWeights_26, dX11_areWeights_29, trivial⟩ rfl ?_
      refine ms_if_le mB_143 dX11_areWeights_30 (t := 35) rfl (fun c => ?_) (fun c => ?_)
      · have F := F.2 c
        refine ms_seq mB_143 mO_143 [(.iinc 1 1, 3)] (pc' := 38) (L' := [.ref ln, .int (l1 + 1), .long x1, .null]) (st' := []) ⟨dX11_areWeights_35, trivial⟩ rfl ?_
        refine ms_goto mB_143 dX11_areWeights_38 (t := 2) rfl ?_
        exact F
      · have F := F.1 c
        refine ms_seq mB_143 mO_143 [(.iconst 0, 1)] (pc' := 34) (L' := [.ref ln, .int l1, .long x1, .null]) (st' := [.int 0]) ⟨dX11_areWeights_33, trivial⟩ rfl ?_
        exact ms_zret mB_143 dX11_areWeights_34 mR_143 (by decide) ⟨_, rfl, rfl, F⟩
set_option maxRecDepth 100000 in
theorem q11_isPartWeight_0 {N d : Nat} (hd : 5 ≤ d) {p0 : Int32} {δ : mi_D} {Q : Int32 → mi_D → Prop} (F : ((p0 < 0 → Q 0 δ) ∧ (¬ p0 < 0 → ((1000 < p0 → Q 0 δ) ∧ (¬ 1000 < p0 → Q 1 δ))))) : mi_wI N d 144 0 [.int p0] [] δ Q := by
  unfold mi_wI
  refine ms_seq mB_144 mO_144 [(.iload_n 0, 1)] (pc' := 1) (L' := [.int p0]) (st' := [.int p0]) ⟨dX11_isPartWeight_0, trivial⟩ rfl ?_
  refine ms_if_lt mB_144 dX11_isPartWeight_1 (t := 15) rfl (fun c => ?_) (fun c => ?_)
  · have F := F.1 c
    refine ms_seq mB_144 mO_144 [(.iconst 0, 1)] (pc' := 16) (L' := [.int p0]) (st' := [.int 0]) ⟨dX11_isPartWeight_15, trivial⟩ rfl ?_
    exact ms_zret mB_144 dX11_isPartWeight_16 mR_144 (by decide) ⟨_, rfl, rfl, F⟩
  · have F := F.2 c
    refine ms_seq mB_144 mO_144 [(.iload_n 0, 1), (.sipush 1000, 3)] (pc' := 8) (L' := [.int p0]) (st' := [.int 1000, .int p0]) ⟨dX11_isPartWeight_4, dX11_isPartWeight_5, trivial⟩ rfl ?_
    refine ms_icmp_gt mB_144 dX11_isPartWeight_8 (t := 15) rfl (fun c => ?_) (fun c => ?_)
    · have F := F.1 c
      refine ms_seq mB_144 mO_144 [(.iconst 0, 1)] (pc' := 16) (L' := [.int p0]) (st' := [.int 0]) ⟨dX11_isPartWeight_15, trivial⟩ rfl ?_
      exact ms_zret mB_144 dX11_isPartWeight_16 mR_144 (by decide) ⟨_, rfl, rfl, F⟩
    · have F := F.2 c
      refine ms_seq mB_144 mO_144 [(.iconst 1, 1)] (pc' := 12) (L' := [.int p0]) (st' := [.int 1]) ⟨dX11_isPartWeight_11, trivial⟩ rfl ?_
      refine ms_goto mB_144 dX11_isPartWeight_12 (t := 16) rfl ?_
      exact ms_zret mB_144 dX11_isPartWeight_16 mR_144 (by decide) ⟨_, rfl, rfl, F⟩
set_option maxRecDepth 100000 in
theorem q11_isAmount_0 {N d : Nat} (hd : 5 ≤ d) {p0 : Int64} {δ : mi_D} {Q : Int32 → mi_D → Prop} (F : (((lg_cmp p0 0) = 0 → Q 0 δ) ∧ (¬ (lg_cmp p0 0) = 0 → (mi_wI N (d - 1) 146 0 [.long p0, .null, .long 1000000000000000, .null] [] δ (fun r2 δ1 => ((r2 = 0 → Q 0 δ1) ∧ (¬ r2 = 0 → Q 1 δ1))))))) : mi_wI N d 145 0 [.long p0, .null] [] δ Q := by
  unfold mi_wI
  refine ms_seq mB_145 mO_145 [(.lload_n 0, 1), (.lconst 0, 1), (.lcmp, 1)] (pc' := 3) (L' := [.long p0, .null]) (st' := [.int (lg_cmp p0 0)]) ⟨dX11_isAmount_0, dX11_isAmount_1, dX11_isAmount_2, trivial⟩ rfl ?_
  refine ms_if_eq mB_145 dX11_isAmount_3 (t := 20) rfl (fun c => ?_) (fun c => ?_)
  · have F := F.1 c
    refine ms_seq mB_145 mO_145 [(.iconst 0, 1)] (pc' := 21) (L' := [.long p0, .null]) (st' := [.int 0]) ⟨dX11_isAmount_20, trivial⟩ rfl ?_
    exact ms_zret mB_145 dX11_isAmount_21 mR_145 (by decide) ⟨_, rfl, rfl, F⟩
  · have F := F.2 c
    refine ms_seq mB_145 mO_145 [(.lload_n 0, 1), (.ldc2_w 242, 3)] (pc' := 10) (L' := [.long p0, .null]) (st' := [.long 1000000000000000, .long p0]) ⟨dX11_isAmount_6, dX11_isAmount_7, trivial⟩ rfl ?_
    refine ms_callsI mB_145 mO_145 (by omega) dX11_isAmount_10 mQ_11_244 mC_11_244 mL_146 (by decide) rfl (Nat.le_of_ble_eq_true rfl) (Nat.le_of_ble_eq_true rfl) rfl F (fun r2 δ1 F => ?_)
    refine ms_if_eq mB_145 dX11_isAmount_13 (t := 20) rfl (fun c => ?_) (fun c => ?_)
    · have F := F.1 c
      refine ms_seq mB_145 mO_145 [(.iconst 0, 1)] (pc' := 21) (L' := [.long p0, .null]) (st' := [.int 0]) ⟨dX11_isAmount_20, trivial⟩ rfl ?_
      exact ms_zret mB_145 dX11_isAmount_21 mR_145 (by decide) ⟨_, rfl, rfl, F⟩
    · have F := F.2 c
      refine ms_seq mB_145 mO_145 [(.iconst 1, 1)] (pc' := 17) (L' := [.long p0, .null]) (st' := [.int 1]) ⟨dX11_isAmount_16, trivial⟩ rfl ?_
      refine ms_goto mB_145 dX11_isAmount_17 (t := 21) rfl ?_
      exact ms_zret mB_145 dX11_isAmount_21 mR_145 (by decide) ⟨_, rfl, rfl, F⟩
set_option maxRecDepth 100000 in
theorem q11_isWithin_0 {N d : Nat} (hd : 5 ≤ d) {p0 p1 : Int64} {δ : mi_D} {Q : Int32 → mi_D → Prop} (F : (((lg_cmp p0 (-p1)) < 0 → Q 0 δ) ∧ (¬ (lg_cmp p0 (-p1)) < 0 → ((0 < (lg_cmp p0 p1) → Q 0 δ) ∧ (¬ 0 < (lg_cmp p0 p1) → Q 1 δ))))) : mi_wI N d 146 0 [.long p0, .null, .long p1, .null] [] δ Q := by
  unfold mi_wI
  refine ms_seq mB_146 mO_146 [(.lload_n 0, 1), (.lload_n 2, 1), (.lneg, 1), (.lcmp, 1)] (pc' := 4) (L' := [.long p0, .null, .long p1, .null]) (st' := [.int (lg_cmp p0 (-p1))]) ⟨dX11_isWithin_0, dX11_isWithin_1, dX11_isWithin_2, dX11_isWithin_3, trivial⟩ rfl ?_
  refine ms_if_lt mB_146 dX11_isWithin_4 (t := 17) rfl (fun c => ?_) (fun c => ?_)
  · have F := F.1 c
    refine ms_seq mB_146 mO_146 [(.iconst 0, 1)] (pc' := 18) (L' := [.long p0, .null, .long p1, .null]) (st' := [.int 0]) ⟨dX11_isWithin_17, trivial⟩ rfl ?_
    exact ms_zret mB_146 dX11_isWithin_18 mR_146 (by decide) ⟨_, rfl, rfl, F⟩
  · have F := F.2 c
    refine ms_seq mB_146 mO_146 [(.lload_n 0, 1), (.lload_n 2, 1), (.lcmp, 1)] (pc' := 10) (L' := [.long p0, .null, .long p1, .null]) (st' := [.int (lg_cmp p0 p1)]) ⟨dX11_isWithin_7, dX11_isWithin_8, dX11_isWithin_9, trivial⟩ rfl ?_
    refine ms_if_gt mB_146 dX11_isWithin_10 (t := 17) rfl (fun c => ?_) (fun c => ?_)
    · have F := F.1 c
      refine ms_seq mB_146 mO_146 [(.iconst 0, 1)] (pc' := 18) (L' := [.long p0, .null, .long p1, .null]) (st' := [.int 0]) ⟨dX11_isWithin_17, trivial⟩ rfl ?_
      exact ms_zret mB_146 dX11_isWithin_18 mR_146 (by decide) ⟨_, rfl, rfl, F⟩
    · have F := F.2 c
      refine ms_seq mB_146 mO_146 [(.iconst 1, 1)] (pc' := 14) (L' := [.long p0, .null, .long p1, .null]) (st' := [.int 1]) ⟨dX11_isWithin_13, trivial⟩ rfl ?_
      refine ms_goto mB_146 dX11_isWithin_14 (t := 18) rfl ?_
      exact ms_zret mB_146 dX11_isWithin_18 mR_146 (by decide) ⟨_, rfl, rfl, F⟩
