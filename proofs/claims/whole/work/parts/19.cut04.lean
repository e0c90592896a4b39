set_option maxRecDepth 100000 in
theorem q4_begin_0 {N d : Nat} (hd : 5 ≤ d) {p0 : Int32} {δ : mi_D} {Q : mi_D → Prop} (F : (∀ δ1 : mi_D, δ1 = mi_setI δ 28 3 p0 → (∀ δ2 : mi_D, δ2 = mi_setI δ1 28 2 0 → Q δ2))) : mi_wV N d 52 0 [.ref 28, .int p0] [] δ Q := by
  unfold mi_wV
  refine ms_seq mB_52 mO_52 [(.aload_n 0, 1), (.iload_n 1, 1)] (pc' := 2) (L' := [.ref 28, .int p0]) (st' := [.int p0, .ref 28]) ⟨dX4_begin_0, dX4_begin_1, trivial⟩ rfl ?_
  refine ms_putI mB_52 mO_52 dX4_begin_2 mF_4_23 (gk_28 N) rfl rfl ?_
  refine mr_st (fun δ1 e_δ1 => ?_)
  have F := F δ1 e_δ1
  refine ms_seq mB_52 mO_52 [(.aload_n 0, 1), (.iconst 0, 1)] (pc' := 7) (L' := [.ref 28, .int p0]) (st' := [.int 0, .ref 28]) ⟨dX4_begin_5, dX4_begin_6, trivial⟩ rfl ?_
  refine ms_putI mB_52 mO_52 dX4_begin_7 mF_4_27 (gk_28 N) rfl rfl ?_
  refine mr_st (fun δ2 e_δ2 => ?_)
  have F := F δ2 e_δ2
  exact ms_vret mB_52 dX4_begin_10 mR_52 ⟨rfl, rfl, F⟩
set_option maxRecDepth 100000 in
theorem q4_number_0 {N d : Nat} (hd : 5 ≤ d) {p0 : Int64} {δ : mi_D} {Q : mi_D → Prop} (F : (∀ x1 : Int64, x1 = ((p0 <<< (Int32.toInt64 1 &&& 63)) ^^^ (p0 >>> (Int32.toInt64 63 &&& 63))) → mi_wV N d 53 12 [.ref 28, .long p0, .null, .long x1, .null, .int 0, .null] [] δ Q)) : mi_wV N d 53 0 [.ref 28, .long p0, .null, .null, .null, .null, .null] [] δ Q := by
  unfold mi_wV
  refine ms_seq mB_53 mO_53 [(.lload_n 1, 1), (.iconst 1, 1), (.lshl, 1), (.lload_n 1, 1), (.bipush 63, 2), (.lshr, 1), (.lxor, 1)] (pc' := 8) (L' := [.ref 28, .long p0, .null, .null, .null, .null, .null]) (st' := [.long ((p0 <<< (Int32.toInt64 1 &&& 63)) ^^^ (p0 >>> (Int32.toInt64 63 &&& 63)))]) ⟨dX4_number_0, dX4_number_1, dX4_number_2, dX4_number_3, dX4_number_4, dX4_number_6, dX4_number_7, trivial⟩ rfl ?_
  refine mr_topl (fun x1 e_x1 => ?_)
  have F := F x1 e_x1
  refine ms_seq mB_53 mO_53 [(.lstore_n 3, 1), (.iconst 0, 1), (.istore 5, 2)] (pc' := 12) (L' := [.ref 28, .long p0, .null, .long x1, .null, .int 0, .null]) (st' := []) ⟨dX4_number_8, dX4_number_9, dX4_number_10, trivial⟩ rfl ?_
  exact F
set_option maxRecDepth 100000 in
theorem q4_number_12 {N d : Nat} (hd : 5 ≤ d) {l5 : Int32} {l1 l3 : Int64} {δ : mi_D} {Q : mi_D → Prop} (F : ((l5 < 10 → (∀ x1 : Int32, x1 = (Int64.toInt32 (l3 &&& 127)) → (∀ x2 : Int64, x2 = ((Int64.toUInt64 l3 >>> (Int64.toUInt64 (Int32.toInt64 7) &&& Int64.toUInt64 63)).toInt64) → (((lg_cmp x2 0) = 0 → mi_wV N d 53 57 [.ref 28, .long l1, .null, .long x2, .null, .int l5, .int x1] [.int x1, .int (δ.1 28 2), .ref 30] δ Q) ∧ (¬ (lg_cmp x2 0) = 0 → mi_wV N d 53 57 [.ref 28, .long l1, .null, .long x2, .null, .int l5, .int x1] [.int (x1 + 128), .int (δ.1 28 2), .ref 30] δ Q))))) ∧ (¬ l5 < 10 → Q δ))) : mi_wV N d 53 12 [.ref 28, .long l1, .null, .long l3, .null, .int l5, .null] [] δ Q := by
  unfold mi_wV
  refine ms_seq mB_53 mO_53 [(.iload 5, 2), (.bipush 10, 2)] (pc' := 16) (L' := [.ref 28, .long l1, .null, .long l3, .null, .int l5, .null]) (st' := [.int 10, .int l5]) ⟨dX4_number_12, dX4_number_14, trivial⟩ rfl ?_
  refine ms_icmp_ge mB_53 dX4_number_16 (t := 83) rfl (fun c => ?_) (fun c => ?_)
  · have F := F.2 c
    exact ms_vret mB_53 dX4_number_83 mR_53 ⟨rfl, rfl, F⟩
  · have F := F.1 c
    refine ms_seq mB_53 mO_53 [(.lload_n 3, 1), (.ldc2_w 30, 3), (.land, 1), (.l2i, 1)] (pc' := 25) (L' := [.ref 28, .long l1, .null, .long l3, .null, .int l5, .null]) (st' := [.int (Int64.toInt32 (l3 &&& 127))]) ⟨dX4_number_19, dX4_number_20, dX4_number_23, dX4_number_24, trivial⟩ rfl ?_
    refine mr_topi (fun x1 e_x1 => ?_)
    have F := F x1 e_x1
    refine ms_seq mB_53 mO_53 [(.istore 6, 2), (.lload_n 3, 1), (.bipush 7, 2), (.lushr, 1)] (pc' := 31) (L' := [.ref 28, .long l1, .null, .long l3, .null, .int l5, .int x1]) (st' := [.long ((Int64.toUInt64 l3 >>> (Int64.toUInt64 (Int32.toInt64 7) &&& Int64.toUInt64 63)).toInt64)]) ⟨dX4_number_25, dX4_number_27, dX4_number_28, dX4_number_30, trivial⟩ rfl ?_
    refine mr_topl (fun x2 e_x2 => ?_)
    have F := F x2 e_x2
    refine ms_seq mB_53 mO_53 [(.lstore_n 3, 1), (.aload_n 0, 1)] (pc' := 33) (L' := [.ref 28, .long l1, .null, .long x2, .null, .int l5, .int x1]) (st' := [.ref 28]) ⟨dX4_number_31, dX4_number_32, trivial⟩ rfl ?_
    refine ms_getR mB_53 mO_53 dX4_number_33 mF_4_20 (gk_28 N) rfl (b := 30) (gr_28_1 N) ?_
    refine ms_seq mB_53 mO_53 [(.aload_n 0, 1)] (pc' := 37) (L' := [.ref 28, .long l1, .null, .long x2, .null, .int l5, .int x1]) (st' := [.ref 28, .ref 30]) ⟨dX4_number_36, trivial⟩ rfl ?_
    refine ms_getI mB_53 mO_53 dX4_number_37 mF_4_27 (gk_28 N) (Or.inl rfl) ?_
    refine ms_seq mB_53 mO_53 [(.lload_n 3, 1), (.lconst 0, 1), (.lcmp, 1)] (pc' := 43) (L' := [.ref 28, .long l1, .null, .long x2, .null, .int l5, .int x1]) (st' := [.int (lg_cmp x2 0), .int (δ.1 28 2), .ref 30]) ⟨dX4_number_40, dX4_number_41, dX4_number_42, trivial⟩ rfl ?_
    refine ms_if_ne mB_53 dX4_number_43 (t := 51) rfl (fun c => ?_) (fun c => ?_)
    · have F := F.2 c
      refine ms_seq mB_53 mO_53 [(.iload 6, 2), (.sipush 128, 3), (.iadd, 1)] (pc' := 57) (L' := [.ref 28, .long l1, .null, .long x2, .null, .int l5, .int x1]) (st' := [.int (x1 + 128), .int (δ.1 28 2), .ref 30]) ⟨dX4_number_51, dX4_number_53, dX4_number_56, trivial⟩ rfl ?_
      exact F
    · have F := F.1 c
      refine ms_seq mB_53 mO_53 [(.iload 6, 2)] (pc' := 48) (L' := [.ref 28, .long l1, .null, .long x2, .null, .int l5, .int x1]) (st' := [.int x1, .int (δ.1 28 2), .ref 30]) ⟨dX4_number_46, trivial⟩ rfl ?_
      refine ms_goto mB_53 dX4_number_48 (t := 57) rfl ?_
      exact F
set_option maxRecDepth 100000 in
theorem q4_number_57 {N d : Nat} (hd : 5 ≤ d) {l5 l6 s1 s2 : Int32} {l1 l3 : Int64} {δ : mi_D} {Q : mi_D → Prop} (F : (∀ δ1 : mi_D, δ1 = mi_pt δ 30 255 s1 s2 → (∀ δ2 : mi_D, δ2 = mi_setI δ1 28 2 ((δ1.1 28 2) + 1) → (((lg_cmp l3 0) = 0 → Q δ2) ∧ (¬ (lg_cmp l3 0) = 0 → mi_wV N d 53 12 [.ref 28, .long l1, .null, .long l3, .null, .int (l5 + 1), .int l6] [] δ2 Q))))) : mi_wV N d 53 57 [.ref 28, .long l1, .null, .long l3, .null, .int l5, .int l6] [.int s2, .int s1, .ref 30] δ Q := by
  unfold mi_wV
  refine ms_put mB_53 mO_53 (lim := 255) hd dX4_number_57 mQ_4_32 (Nat.le_of_ble_eq_true rfl) (gk_30 N) (gl_30 N) ?_
  refine mr_st (fun δ1 e_δ1 => ?_)
  have F := F δ1 e_δ1
  refine ms_seq mB_53 mO_53 [(.aload_n 0, 1), (.dup, 1)] (pc' := 62) (L' := [.ref 28, .long l1, .null, .long l3, .null, .int l5, .int l6]) (st' := [.ref 28, .ref 28]) ⟨dX4_number_60, dX4_number_61, trivial⟩ rfl ?_
  refine ms_getI mB_53 mO_53 dX4_number_62 mF_4_27 (gk_28 N) (Or.inl rfl) ?_
  refine ms_seq mB_53 mO_53 [(.iconst 1, 1), (.iadd, 1)] (pc' := 67) (L' := [.ref 28, .long l1, .null, .long l3, .null, .int l5, .int l6]) (st' := [.int ((δ1.1 28 2) + 1), .ref 28]) ⟨dX4_number_65, dX4_number_66, trivial⟩ rfl ?_
  refine ms_putI mB_53 mO_53 dX4_number_67 mF_4_27 (gk_28 N) rfl rfl ?_
  refine mr_st (fun δ2 e_δ2 => ?_)
  have F := F δ2 e_δ2
  refine ms_seq mB_53 mO_53 [(.lload_n 3, 1), (.lconst 0, 1), (.lcmp, 1)] (pc' := 73) (L' := [.ref 28, .long l1, .null, .long l3, .null, .int l5, .int l6]) (st' := [.int (lg_cmp l3 0)]) ⟨dX4_number_70, dX4_number_71, dX4_number_72, trivial⟩ rfl ?_
  refine ms_if_ne mB_53 dX4_number_73 (t := 77) rfl (fun c => ?_) (fun c => ?_)
  · have F := F.2 c
    refine ms_seq mB_53 mO_53 [(.iinc 5 1, 3)] (pc' := 80) (L' := [.ref 28, .long l1, .null, .long l3, .null, .int (l5 + 1), .int l6]) (st' := []) ⟨dX4_number_77, trivial⟩ rfl ?_
    refine ms_goto mB_53 dX4_number_80 (t := 12) rfl ?_
    exact F
  · have F := F.1 c
    exact ms_vret mB_53 dX4_number_76 mR_53 ⟨rfl, rfl, F⟩
set_option maxRecDepth 100000 in
theorem q4_number_12a {N d : Nat} (hd : 5 ≤ d) {l5 l6 : Int32} {l1 l3 : Int64} {δ : mi_D} {Q : mi_D → Prop} (F : ((l5 < 10 → (∀ x1 : Int32, x1 = (Int64.toInt32 (l3 &&& 127)) → (∀ x2 : Int64, x2 = ((Int64.toUInt64 l3 >>> (Int64.toUInt64 (Int32.toInt64 7) &&& Int64.toUInt64 63)).toInt64) → (((lg_cmp x2 0) = 0 → mi_wV N d 53 57 [.ref 28, .long l1, .null, .long x2, .null, .int l5, .int x1] [.int x1, .int (δ.1 28 2), .ref 30] δ Q) ∧ (¬ (lg_cmp x2 0) = 0 → mi_wV N d 53 57 [.ref 28, .long l1, .null, .long x2, .null, .int l5, .int x1] [.int (x1 + 128), .int (δ.1 28 2), .ref 30] δ Q))))) ∧ (¬ l5 < 10 → Q δ))) : mi_wV N d 53 12 [.ref 28, .long l1, .null, .long l3, .null, .int l5, .int l6] [] δ Q := by
  unfold mi_wV
  refine ms_seq mB_53 mO_53 [(.iload 5, 2), (.bipush 10, 2)] (pc' := 16) (L' := [.ref 28, .long l1, .null, .long l3, .null, .int l5, .int l6]) (st' := [.int 10, .int l5]) ⟨dX4_number_12, dX4_number_14, trivial⟩ rfl ?_
  refine ms_icmp_ge mB_53 dX4_number_16 (t := 83) rfl (fun c => ?_) (fun c => ?_)
  · have F := F.2 c
    exact ms_vret mB_53 dX4_number_83 mR_53 ⟨rfl, rfl, F⟩
  · have F := F.1 c
    refine ms_seq mB_53 mO_53 [(.lload_n 3, 1), (.ldc2_w 30, 3), (.land, 1), (.l2i, 1)] (pc' := 25) (L' := [.ref 28, .long l1, .null, .long l3, .null, .int l5, .int l6]) (st' := [.int (Int64.toInt32 (l3 &&& 127))]) ⟨dX4_number_19, dX4_number_20, dX4_number_23, dX4_number_24, trivial⟩ rfl ?_
    refine mr_topi (fun x1 e_x1 => ?_)
    have F := F x1 e_x1
    refine ms_seq mB_53 mO_53 [(.istore 6, 2), (.lload_n 3, 1), (.bipush 7, 2), (.lushr, 1)] (pc' := 31) (L' := [.ref 28, .long l1, .null, .long l3, .null, .int l5, .int x1]) (st' := [.long ((Int64.toUInt64 l3 >>> (Int64.toUInt64 (Int32.toInt64 7) &&& Int64.toUInt64 63)).toInt64)]) ⟨dX4_number_25, dX4_number_27, dX4_number_28, dX4_number_30, trivial⟩ rfl ?_
    refine mr_topl (fun x2 e_x2 => ?_)
    have F := F x2 e_x2
    refine ms_seq mB_53 mO_53 [(.lstore_n 3, 1), (.aload_n 0, 1)] (pc' := 33) (L' := [.ref 28, .long l1, .null, .long x2, .null, .int l5, .int x1]) (st' := [.ref 28]) ⟨dX4_number_31, dX4_number_32, trivial⟩ rfl ?_
    refine ms_getR mB_53 mO_53 dX4_number_33 mF_4_20 (gk_28 N) rfl (b := 30) (gr_28_1 N) ?_
    refine ms_seq mB_53 mO_53 [(.aload_n 0, 1)] (pc' := 37) (L' := [.ref 28, .long l1, .null, .long x2, .null, .int l5, .int x1]) (st' := [.ref 28, .ref 30]) ⟨dX4_number_36, trivial⟩ rfl ?_
    refine ms_getI mB_53 mO_53 dX4_number_37 mF_4_27 (gk_28 N) (Or.inl rfl) ?_
    refine ms_seq mB_53 mO_53 [(.lload_n 3, 1), (.lconst 0, 1), (.lcmp, 1)] (pc' := 43) (L' := [.ref 28, .long l1, .null, .long x2, .null, .int l5, .int x1]) (st' := [.int (lg_cmp x2 0), .int (δ.1 28 2), .ref 30]) ⟨dX4_number_40, dX4_number_41, dX4_number_42, trivial⟩ rfl ?_
    refine ms_if_ne mB_53 dX4_number_43 (t := 51) rfl (fun c => ?_) (fun c => ?_)
    · have F := F.2 c
      refine ms_seq mB_53 mO_53 [(.iload 6, 2), (.sipush 128, 3), (.iadd, 1)] (pc' := 57) (L' := [.ref 28, .long l1, .null, .long x2, .null, .int l5, .int x1]) (st' := [.int (x1 + 128), .int (δ.1 28 2), .ref 30]) ⟨dX4_number_51, dX4_number_53, dX4_number_56, trivial⟩ rfl ?_
      exact F
    · have F := F.1 c
      refine ms_seq mB_53 mO_53 [(.iload 6, 2)] (pc' := 48) (L' := [.ref 28, .long l1, .null, .long x2, .null, .int l5, .int x1]) (st' := [.int x1, .int (δ.1 28 2), .ref 30]) ⟨dX4_number_46, trivial⟩ rfl ?_
      refine ms_goto mB_53 dX4_number_48 (t := 57) rfl ?_
      exact F
set_option maxRecDepth 100000 in
theorem q4_write_0 {N d : Nat} (hd : 5 ≤ d) {δ : mi_D} {Q : Int32 → mi_D → Prop} (F : ((6000 < (((δ.1 28 4) + 4) + (δ.1 28 2)) → Q 0 δ) ∧ (¬ 6000 < (((δ.1 28 4) + 4) + (δ.1 28 2)) → (∀ x1 : Int32, x1 = (δ.1 28 4) → (mi_wV N (d - 1) 55 0 [.ref 28, .int (δ.1 28 2)] [] δ (fun δ2 => (mi_wV N (d - 1) 55 0 [.ref 28, .int (δ2.1 28 3)] [] δ2 (fun δ3 => mi_wI N d 54 42 [.ref 28, .int x1, .int 0] [] δ3 Q)))))))) : mi_wI N d 54 0 [.ref 28, .null, .null] [] δ Q := by
  unfold mi_wI
  refine ms_seq mB_54 mO_54 [(.aload_n 0, 1)] (pc' := 1) (L' := [.ref 28, .null, .null]) (st' := [.ref 28]) ⟨dX4_write_0, trivial⟩ rfl ?_
  refine ms_getI mB_54 mO_54 dX4_write_1 mF_4_36 (gk_28 N) (Or.inl rfl) ?_
  refine ms_seq mB_54 mO_54 [(.iconst 4, 1), (.iadd, 1), (.aload_n 0, 1)] (pc' := 7) (L' := [.ref 28, .null, .null]) (st' := [.ref 28, .int ((δ.1 28 4) + 4)]) ⟨dX4_write_4, dX4_write_5, dX4_write_6, trivial⟩ rfl ?_
  refine ms_getI mB_54 mO_54 dX4_write_7 mF_4_27 (gk_28 N) (Or.inl rfl) ?_
  refine ms_seq mB_54 mO_54 [(.iadd, 1), (.sipush 6000, 3)] (pc' := 14) (L' := [.ref 28, .null, .null]) (st' := [.int 6000, .int (((δ.1 28 4) + 4) + (δ.1 28 2))]) ⟨dX4_write_10, dX4_write_11, trivial⟩ rfl ?_
  refine ms_icmp_le mB_54 dX4_write_14 (t := 19) rfl (fun c => ?_) (fun c => ?_)
  · have F := F.2 c
    refine ms_seq mB_54 mO_54 [(.aload_n 0, 1)] (pc' := 20) (L' := [.ref 28, .null, .null]) (st' := [.ref 28]) ⟨dX4_write_19, trivial⟩ rfl ?_
    refine ms_getI mB_54 mO_54 dX4_write_20 mF_4_36 (gk_28 N) (Or.inl rfl) ?_
    refine mr_topi (fun x1 e_x1 => ?_)
    have F := F x1 e_x1
    refine ms_seq mB_54 mO_54 [(.istore_n 1, 1), (.aload_n 0, 1), (.aload_n 0, 1)] (pc' := 26) (L' := [.ref 28, .int x1, .null]) (st' := [.ref 28, .ref 28]) ⟨dX4_write_23, dX4_write_24, dX4_write_25, trivial⟩ rfl ?_
    refine ms_getI mB_54 mO_54 dX4_write_26 mF_4_27 (gk_28 N) (Or.inl rfl) ?_
    refine ms_callvV mB_54 mO_54 (by omega) dX4_write_29 mQ_4_39 mC_4_39 mL_55 mO_55 rfl (Nat.le_of_ble_eq_true rfl) (Nat.le_of_ble_eq_true rfl) (gk_28 N) rfl F (fun δ2 F => ?_)
    refine ms_seq mB_54 mO_54 [(.aload_n 0, 1), (.aload_n 0, 1)] (pc' := 34) (L' := [.ref 28, .int x1, .null]) (st' := [.ref 28, .ref 28]) ⟨dX4_write_32, dX4_write_33, trivial⟩ rfl ?_
    refine ms_getI mB_54 mO_54 dX4_write_34 mF_4_23 (gk_28 N) (Or.inl rfl) ?_
    refine ms_callvV mB_54 mO_54 (by omega) dX4_write_37 mQ_4_39 mC_4_39 mL_55 mO_55 rfl (Nat.le_of_ble_eq_true rfl) (Nat.le_of_ble_eq_true rfl) (gk_28 N) rfl F (fun δ3 F => ?_)
    refine ms_seq mB_54 mO_54 [(.iconst 0, 1), (.istore_n 2, 1)] (pc' := 42) (L' := [.ref 28, .int x1, .int 0]) (st' := []) ⟨dX4_write_40, dX4_write_41, trivial⟩ rfl ?_
    exact F
  · have F := F.1 c
    refine ms_seq mB_54 mO_54 [(.iconst 0, 1)] (pc' := 18) (L' := [.ref 28, .null, .null]) (st' := [.int 0]) ⟨dX4_write_17, trivial⟩ rfl ?_
    exact ms_zret mB_54 dX4_write_18 mR_54 (by decide) ⟨_, rfl, rfl, F⟩
set_option maxRecDepth 100000 in
theorem q4_write_42 {N d : Nat} (hd : 5 ≤ d) {l1 l2 : Int32} {δ : mi_D} {Q : Int32 → mi_D → Prop} (F : ((l2 < (δ.1 28 2) → (mi_wV N (d - 1) 55 0 [.ref 28, .int (mi_at δ 30 l2)] [] δ (fun δ6 => mi_wI N d 54 42 [.ref 28, .int l1, .int (l2 + 1)] [] δ6 Q))) ∧ (¬ l2 < (δ.1 28 2) → (mi_wI N (d - 1) 56 0 [.ref 28, .int l1, .int (δ.1 28 4), .null, .null, .null] [] δ (fun r2 δ1 => (mi_wV N (d - 1) 55 0 [.ref 28, .int (r2 >>> (8 &&& 31))] [] δ1 (fun δ3 => (mi_wV N (d - 1) 55 0 [.ref 28, .int (r2 &&& 255)] [] δ3 (fun δ4 => (∀ δ5 : mi_D, δ5 = mi_setI δ4 28 6 ((δ4.1 28 6) + 1) → Q 1 δ5)))))))))) : mi_wI N d 54 42 [.ref 28, .int l1, .int l2] [] δ Q := by
  unfold mi_wI
  refine ms_seq mB_54 mO_54 [(.iload_n 2, 1), (.aload_n 0, 1)] (pc' := 44) (L' := [.ref 28, .int l1, .int l2]) (st' := [.ref 28, .int l2]) ⟨dX4_write_42, dX4_write_43, trivial⟩ rfl ?_
  refine ms_getI mB_54 mO_54 dX4_write_44 mF_4_27 (gk_28 N) (Or.inl rfl) ?_
  refine ms_icmp_ge mB_54 dX4_write_47 (t := 68) rfl (fun c => ?_) (fun c => ?_)
  · have F := F.2 c
    refine ms_seq mB_54 mO_54 [(.aload_n 0, 1), (.iload_n 1, 1), (.aload_n 0, 1)] (pc' := 71) (L' := [.ref 28, .int l1, .int l2]) (st' := [.ref 28, .int l1, .ref 28]) ⟨dX4_write_68, dX4_write_69, dX4_write_70, trivial⟩ rfl ?_
    refine ms_getI mB_54 mO_54 dX4_write_71 mF_4_36 (gk_28 N) (Or.inl rfl) ?_
    refine ms_callvI mB_54 mO_54 (by omega) dX4_write_74 mQ_4_45 mC_4_45 mL_56 mO_56 rfl (Nat.le_of_ble_eq_true rfl) (Nat.le_of_ble_eq_true rfl) (gk_28 N) rfl F (fun r2 δ1 F => ?_)
    refine ms_seq mB_54 mO_54 [(.istore_n 2, 1), (.aload_n 0, 1), (.iload_n 2, 1), (.bipush 8, 2), (.ishr, 1)] (pc' := 83) (L' := [.ref 28, .int l1, .int r2]) (st' := [.int (r2 >>> (8 &&& 31)), .ref 28]) ⟨dX4_write_77, dX4_write_78, dX4_write_79, dX4_write_80, dX4_write_82, trivial⟩ rfl ?_
    refine ms_callvV mB_54 mO_54 (by omega) dX4_write_83 mQ_4_39 mC_4_39 mL_55 mO_55 rfl (Nat.le_of_ble_eq_true rfl) (Nat.le_of_ble_eq_true rfl) (gk_28 N) rfl F (fun δ3 F => ?_)
    refine ms_seq mB_54 mO_54 [(.aload_n 0, 1), (.iload_n 2, 1), (.sipush 255, 3), (.iand, 1)] (pc' := 92) (L' := [.ref 28, .int l1, .int r2]) (st' := [.int (r2 &&& 255), .ref 28]) ⟨dX4_write_86, dX4_write_87, dX4_write_88, dX4_write_91, trivial⟩ rfl ?_
    refine ms_callvV mB_54 mO_54 (by omega) dX4_write_92 mQ_4_39 mC_4_39 mL_55 mO_55 rfl (Nat.le_of_ble_eq_true rfl) (Nat.le_of_ble_eq_true rfl) (gk_28 N) rfl F (fun δ4 F => ?_)
    refine ms_seq mB_54 mO_54 [(.aload_n 0, 1), (.dup, 1)] (pc' := 97) (L' := [.ref 28, .int l1, .int r2]) (st' := [.ref 28, .ref 28]) ⟨dX4_write_95, dX4_write_96, trivial⟩ rfl ?_
    refine ms_getI mB_54 mO_54 dX4_write_97 mF_4_49 (gk_28 N) (Or.inl rfl) ?_
    refine ms_seq mB_54 mO_54 [(.iconst 1, 1), (.iadd, 1)] (pc' := 102) (L' := [.ref 28, .int l1, .int r2]) (st' := [.int ((δ4.1 28 6) + 1), .ref 28]) ⟨dX4_write_100, dX4_write_101, trivial⟩ rfl ?_
    refine ms_putI mB_54 mO_54 dX4_write_102 mF_4_49 (gk_28 N) rfl rfl ?_
    refine mr_st (fun δ5 e_δ5 => ?_)
    have F := F δ5 e_δ5
    refine ms_seq mB_54 mO_54 [(.iconst 1, 1)] (pc' := 106) (L' := [.ref 28, .int l1, .int r2]) (st' := [.int 1]) ⟨dX4_write_105, trivial⟩ rfl ?_
    exact ms_zret mB_54 dX4_write_106 mR_54 (by decide) ⟨_, rfl, rfl, F⟩
  · have F := F.1 c
    refine ms_seq mB_54 mO_54 [(.aload_n 0, 1), (.aload_n 0, 1)] (pc' := 52) (L' := [.ref 28, .int l1, .int l2]) (st' := [.ref 28, .ref 28]) ⟨dX4_write_50, dX4_write_51, trivial⟩ rfl ?_
    refine ms_getR mB_54 mO_54 dX4_write_52 mF_4_20 (gk_28 N) rfl (b := 30) (gr_28_1 N) ?_
    refine ms_seq mB_54 mO_54 [(.iload_n 2, 1)] (pc' := 56) (L' := [.ref 28, .int l1, .int l2]) (st' := [.int l2, .ref 30, .ref 28]) ⟨dX4_write_55, trivial⟩ rfl ?_
    refine ms_at mB_54 mO_54 hd dX4_write_56 mQ_4_41 (Nat.le_of_ble_eq_true rfl) (gk_30 N) (mi_ne (gl_30 N)) ?_
    refine ms_callvV mB_54 mO_54 (by omega) dX4_write_59 mQ_4_39 mC_4_39 mL_55 mO_55 rfl (Nat.le_of_ble_eq_true rfl) (Nat.le_of_ble_eq_true rfl) (gk_28 N) rfl F (fun δ6 F => ?_)
    refine ms_seq mB_54 mO_54 [(.iinc 2 1, 3)] (pc' := 65) (L' := [.ref 28, .int l1, .int (l2 + 1)]) (st' := []) ⟨dX4_write_62, trivial⟩ rfl ?_
    refine ms_goto mB_54 dX4_write_65 (t := 42) rfl ?_
    exact F
set_option maxRecDepth 100000 in
theorem q4_put_0 {N d : Nat} (hd : 5 ≤ d) {p0 : Int32} {δ : mi_D} {Q : mi_D → Prop} (F : (∀ δ1 : mi_D, δ1 = mi_pt δ 29 6000 (δ.1 28 4) p0 → (∀ δ2 : mi_D, δ2 = mi_setI δ1 28 4 ((δ1.1 28 4) + 1) → Q δ2))) : mi_wV N d 55 0 [.ref 28, .int p0] [] δ Q := by
  unfold mi_wV
  refine ms_seq mB_55 mO_55 [(.aload_n 0, 1)] (pc' := 1) (L' := [.ref 28, .int p0]) (st' := [.ref 28]) ⟨dX4_put_0, trivial⟩ rfl ?_
  refine ms_getR mB_55 mO_55 dX4_put_1 mF_4_14 (gk_28 N) rfl (b := 29) (gr_28_0 N) ?_
  refine ms_seq mB_55 mO_55 [(.aload_n 0, 1)] (pc' := 5) (L' := [.ref 28, .int p0]) (st' := [.ref 28, .ref 29]) ⟨dX4_put_4, trivial⟩ rfl ?_
  refine ms_getI mB_55 mO_55 dX4_put_5 mF_4_36 (gk_28 N) (Or.inl rfl) ?_
  refine ms_seq mB_55 mO_55 [(.iload_n 1, 1)] (pc' := 9) (L' := [.ref 28, .int p0]) (st' := [.int p0, .int (δ.1 28 4), .ref 29]) ⟨dX4_put_8, trivial⟩ rfl ?_
  refine ms_put mB_55 mO_55 (lim := 6000) hd dX4_put_9 mQ_4_32 (Nat.le_of_ble_eq_true rfl) (gk_29 N) (gl_29 N) ?_
  refine mr_st (fun δ1 e_δ1 => ?_)
  have F := F δ1 e_δ1
  refine ms_seq mB_55 mO_55 [(.aload_n 0, 1), (.dup, 1)] (pc' := 14) (L' := [.ref 28, .int p0]) (st' := [.ref 28, .ref 28]) ⟨dX4_put_12, dX4_put_13, trivial⟩ rfl ?_
  refine ms_getI mB_55 mO_55 dX4_put_14 mF_4_36 (gk_28 N) (Or.inl rfl) ?_
  refine ms_seq mB_55 mO_55 [(.iconst 1, 1), (.iadd, 1)] (pc' := 19) (L' := [.ref 28, .int p0]) (st' := [.int ((δ1.1 28 4) + 1), .ref 28]) ⟨dX4_put_17, dX4_put_18, trivial⟩ rfl ?_
  refine ms_putI mB_55 mO_55 dX4_put_19 mF_4_36 (gk_28 N) rfl rfl ?_
  refine mr_st (fun δ2 e_δ2 => ?_)
  have F := F δ2 e_δ2
  exact ms_vret mB_55 dX4_put_22 mR_55 ⟨rfl, rfl, F⟩
set_option maxRecDepth 100000 in
theorem q4_checkOf_0 {N d : Nat} (hd : 5 ≤ d) {p0 p1 : Int32} {δ : mi_D} {Q : Int32 → mi_D → Prop} (F : mi_wI N d 56 6 [.ref 28, .int p0, .int p1, .int 65535, .int p0, .null] [] δ Q) : mi_wI N d 56 0 [.ref 28, .int p0, .int p1, .null, .null, .null] [] δ Q := by
  unfold mi_wI
  refine ms_seq mB_56 mO_56 [(.ldc 52, 2), (.istore_n 3, 1), (.iload_n 1, 1), (.istore 4, 2)] (pc' := 6) (L' := [.ref 28, .int p0, .int p1, .int 65535, .int p0, .null]) (st' := []) ⟨dX4_checkOf_0, dX4_checkOf_2, dX4_checkOf_3, dX4_checkOf_4, trivial⟩ rfl ?_
  exact F
set_option maxRecDepth 100000 in
theorem q4_checkOf_6 {N d : Nat} (hd : 5 ≤ d) {l1 l2 l3 l4 : Int32} {δ : mi_D} {Q : Int32 → mi_D → Prop} (F : ((l4 < l2 → (∀ x1 : Int32, x1 = (l3 ^^^ ((mi_at δ 29 l4) <<< (8 &&& 31))) → mi_wI N d 56 30 [.ref 28, .int l1, .int l2, .int x1, .int l4, .int 0] [] δ Q)) ∧ (¬ l4 < l2 → Q l3 δ))) : mi_wI N d 56 6 [.ref 28, .int l1, .int l2, .int l3, .int l4, .null] [] δ Q := by
  unfold mi_wI
  refine ms_seq mB_56 mO_56 [(.iload 4, 2), (.iload_n 2, 1)] (pc' := 9) (L' := [.ref 28, .int l1, .int l2, .int l3, .int l4, .null]) (st' := [.int l2, .int l4]) ⟨dX4_checkOf_6, dX4_checkOf_8, trivial⟩ rfl ?_
  refine ms_icmp_ge mB_56 dX4_checkOf_9 (t := 75) rfl (fun c => ?_) (fun c => ?_)
  · have F := F.2 c
    refine ms_seq mB_56 mO_56 [(.iload_n 3, 1)] (pc' := 76) (L' := [.ref 28, .int l1, .int l2, .int l3, .int l4, .null]) (st' := [.int l3]) ⟨dX4_checkOf_75, trivial⟩ rfl ?_
    exact ms_iret mB_56 dX4_checkOf_76 mR_56 ⟨_, rfl, rfl, F⟩
  · have F := F.1 c
    refine ms_seq mB_56 mO_56 [(.iload_n 3, 1), (.aload_n 0, 1)] (pc' := 14) (L' := [.ref 28, .int l1, .int l2, .int l3, .int l4, .null]) (st' := [.ref 28, .int l3]) ⟨dX4_checkOf_12, dX4_checkOf_13, trivial⟩ rfl ?_
    refine ms_getR mB_56 mO_56 dX4_checkOf_14 mF_4_14 (gk_28 N) rfl (b := 29) (gr_28_0 N) ?_
    refine ms_seq mB_56 mO_56 [(.iload 4, 2)] (pc' := 19) (L' := [.ref 28, .int l1, .int l2, .int l3, .int l4, .null]) (st' := [.int l4, .ref 29, .int l3]) ⟨dX4_checkOf_17, trivial⟩ rfl ?_
    refine ms_at mB_56 mO_56 hd dX4_checkOf_19 mQ_4_41 (Nat.le_of_ble_eq_true rfl) (gk_29 N) (mi_ne (gl_29 N)) ?_
    refine ms_seq mB_56 mO_56 [(.bipush 8, 2), (.ishl, 1), (.ixor, 1)] (pc' := 26) (L' := [.ref 28, .int l1, .int l2, .int l3, .int l4, .null]) (st' := [.int (l3 ^^^ ((mi_at δ 29 l4) <<< (8 &&& 31)))]) ⟨dX4_checkOf_22, dX4_checkOf_24, dX4_checkOf_25, trivial⟩ rfl ?_
    refine mr_topi (fun x1 e_x1 => ?_)
    have F := F x1 e_x1
    refine ms_seq mB_56 mO_56 [(.istore_n 3, 1), (.iconst 0, 1), (.istore 5, 2)] (pc' := 30) (L' := [.ref 28, .int l1, .int l2, .int x1, .int l4, .int 0]) (st' := []) ⟨dX4_checkOf_26, dX4_checkOf_27, dX4_checkOf_28, trivial⟩ rfl ?_
    exact F
set_option maxRecDepth 100000 in
theorem q4_checkOf_30 {N d : Nat} (hd : 5 ≤ d) {l1 l2 l3 l4 l5 : Int32} {δ : mi_D} {Q : Int32 → mi_D → Prop} (F : ((l5 < 8 → (((l3 &&& 32768) = 0 → (∀ x3 : Int32, x3 = (l3 <<< (1 &&& 31)) → mi_wI N d 56 30 [.ref 28, .int l1, .int l2, .int x3, .int l4, .int (l5 + 1)] [] δ Q)) ∧ (¬ (l3 &&& 32768) = 0 → (∀ x2 : Int32, x2 = ((l3 <<< (1 &&& 31)) ^^^ 4129) → mi_wI N d 56 30 [.ref 28, .int l1, .int l2, .int x2, .int l4, .int (l5 + 1)] [] δ Q)))) ∧ (¬ l5 < 8 → (∀ x1 : Int32, x1 = (l3 &&& 65535) → mi_wI N d 56 6 [.ref 28, .int l1, .int l2, .int x1, .int (l4 + 1), .int l5] [] δ Q)))) : mi_wI N d 56 30 [.ref 28, .int l1, .int l2, .int l3, .int l4, .int l5] [] δ Q := by
  unfold mi_wI
  refine ms_seq mB_56 mO_56 [(.iload 5, 2), (.bipush 8, 2)] (pc' := 34) (L' := [.ref 28, .int l1, .int l2, .int l3, .int l4, .int l5]) (st' := [.int 8, .int l5]) ⟨dX4_checkOf_30, dX4_checkOf_32, trivial⟩ rfl ?_
  refine ms_icmp_ge mB_56 dX4_checkOf_34 (t := 64) rfl (fun c => ?_) (fun c => ?_)
  · have F := F.2 c
    refine ms_seq mB_56 mO_56 [(.iload_n 3, 1), (.ldc 52, 2), (.iand, 1)] (pc' := 68) (L' := [.ref 28, .int l1, .int l2, .int l3, .int l4, .int l5]) (st' := [.int (l3 &&& 65535)]) ⟨dX4_checkOf_64, dX4_checkOf_65, dX4_checkOf_67, trivial⟩ rfl ?_
    refine mr_topi (fun x1 e_x1 => ?_)
    have F := F x1 e_x1
    refine ms_seq mB_56 mO_56 [(.istore_n 3, 1), (.iinc 4 1, 3)] (pc' := 72) (L' := [.ref 28, .int l1, .int l2, .int x1, .int (l4 + 1), .int l5]) (st' := []) ⟨dX4_checkOf_68, dX4_checkOf_69, trivial⟩ rfl ?_
    refine ms_goto mB_56 dX4_checkOf_72 (t := 6) rfl ?_
    exact F
  · have F := F.1 c
    refine ms_seq mB_56 mO_56 [(.iload_n 3, 1), (.ldc 53, 2), (.iand, 1)] (pc' := 41) (L' := [.ref 28, .int l1, .int l2, .int l3, .int l4, .int l5]) (st' := [.int (l3 &&& 32768)]) ⟨dX4_checkOf_37, dX4_checkOf_38, dX4_checkOf_40, trivial⟩ rfl ?_
    refine ms_if_ne mB_56 dX4_checkOf_41 (t := 50) rfl (fun c => ?_) (fun c => ?_)
    · have F := F.2 c
      refine ms_seq mB_56 mO_56 [(.iload_n 3, 1), (.iconst 1, 1), (.ishl, 1), (.sipush 4129, 3), (.ixor, 1)] (pc' := 57) (L' := [.ref 28, .int l1, .int l2, .int l3, .int l4, .int l5]) (st' := [.int ((l3 <<< (1 &&& 31)) ^^^ 4129)]) ⟨dX4_checkOf_50, dX4_checkOf_51, dX4_checkOf_52, dX4_checkOf_53, dX4_checkOf_56, trivial⟩ rfl ?_
      refine mr_topi (fun x2 e_x2 => ?_)
      have F := F x2 e_x2
      refine ms_seq mB_56 mO_56 [(.istore_n 3, 1), (.iinc 5 1, 3)] (pc' := 61) (L' := [.ref 28, .int l1, .int l2, .int x2, .int l4, .int (l5 + 1)]) (st' := []) ⟨dX4_checkOf_57, dX4_checkOf_58, trivial⟩ rfl ?_
      refine ms_goto mB_56 dX4_checkOf_61 (t := 30) rfl ?_
      exact F
    · have F := F.1 c
      refine ms_seq mB_56 mO_56 [(.iload_n 3, 1), (.iconst 1, 1), (.ishl, 1)] (pc' := 47) (L' := [.ref 28, .int l1, .int l2, .int l3, .int l4, .int l5]) (st' := [.int (l3 <<< (1 &&& 31))]) ⟨dX4_checkOf_44, dX4_checkOf_45, dX4_checkOf_46, trivial⟩ rfl ?_
      refine ms_goto mB_56 dX4_checkOf_47 (t := 57) rfl ?_
      refine mr_topi (fun x3 e_x3 => ?_)
      have F := F x3 e_x3
      refine ms_seq mB_56 mO_56 [(.istore_n 3, 1), (.iinc 5 1, 3)] (pc' := 61) (L' := [.ref 28, .int l1, .int l2, .int x3, .int l4, .int (l5 + 1)]) (st' := []) ⟨dX4_checkOf_57, dX4_checkOf_58, trivial⟩ rfl ?_
      refine ms_goto mB_56 dX4_checkOf_61 (t := 30) rfl ?_
      exact F
set_option maxRecDepth 100000 in
theorem q4_checkOf_6a {N d : Nat} (hd : 5 ≤ d) {l1 l2 l3 l4 l5 : Int32} {δ : mi_D} {Q : Int32 → mi_D → Prop} (F : ((l4 < l2 → (∀ x1 : Int32, x1 = (l3 ^^^ ((mi_at δ 29 l4) <<< (8 &&& 31))) → mi_wI N d 56 30 [.ref 28, .int l1, .int l2, .int x1, .int l4, .int 0] [] δ Q)) ∧ (¬ l4 < l2 → Q l3 δ))) : mi_wI N d 56 6 [.ref 28, .int l1, .int l2, .int l3, .int l4, .int l5] [] δ Q := by
  unfold mi_wI
  refine ms_seq mB_56 mO_56 [(.iload 4, 2), (.iload_n 2, 1)] (pc' := 9) (L' := [.ref 28, .int l1, .int l2, .int l3, .int l4, .int l5]) (st' := [.int l2, .int l4]) ⟨dX4_checkOf_6, dX4_checkOf_8, trivial⟩ rfl ?_
  refine ms_icmp_ge mB_56 dX4_checkOf_9 (t := 75) rfl (fun c => ?_) (fun c => ?_)
  · have F := F.2 c
    refine ms_seq mB_56 mO_56 [(.iload_n 3, 1)] (pc' := 76) (L' := [.ref 28, .int l1, .int l2, .int l3, .int l4, .int l5]) (st' := [.int l3]) ⟨dX4_checkOf_75, trivial⟩ rfl ?_
    exact ms_iret mB_56 dX4_checkOf_76 mR_56 ⟨_, rfl, rfl, F⟩
  · have F := F.1 c
    refine ms_seq mB_56 mO_56 [(.iload_n 3, 1), (.aload_n 0, 1)] (pc' := 14) (L' := [.ref 28, .int l1, .int l2, .int l3, .int l4, .int l5]) (st' := [.ref 28, .int l3]) ⟨dX4_checkOf_12, dX4_checkOf_13, trivial⟩ rfl ?_
    refine ms_getR mB_56 mO_56 dX4_checkOf_14 mF_4_14 (gk_28 N) rfl (b := 29) (gr_28_0 N) ?_
    refine ms_seq mB_56 mO_56 [(.iload 4, 2)] (pc' := 19) (L' := [.ref 28, .int l1, .int l2, .int l3, .int l4, .int l5]) (st' := [.int l4, .ref 29, .int l3]) ⟨dX4_checkOf_17, trivial⟩ rfl ?_
    refine ms_at mB_56 mO_56 hd dX4_checkOf_19 mQ_4_41 (Nat.le_of_ble_eq_true rfl) (gk_29 N) (mi_ne (gl_29 N)) ?_
    refine ms_seq mB_56 mO_56 [(.bipush 8, 2), (.ishl, 1), (.ixor, 1)] (pc' := 26) (L' := [.ref 28, .int l1, .int l2, .int l3, .int l4, .int l5]) (st' := [.int (l3 ^^^ ((mi_at δ 29 l4) <<< (8 &&& 31)))]) ⟨dX4_checkOf_22, dX4_checkOf_24, dX4_checkOf_25, trivial⟩ rfl ?_
    refine mr_topi (fun x1 e_x1 => ?_)
    have F := F x1 e_x1
    refine ms_seq mB_56 mO_56 [(.istore_n 3, 1), (.iconst 0, 1), (.istore 5, 2)] (pc' := 30) (L' := [.ref 28, .int l1, .int l2, .int x1, .int l4, .int 0]) (st' := []) ⟨dX4_checkOf_26, dX4_checkOf_27, dX4_checkOf_28, trivial⟩ rfl ?_
    exact F
set_option maxRecDepth 100000 in
theorem q4_recordAt_0 {N d : Nat} (hd : 5 ≤ d) {p0 : Int32} {δ : mi_D} {Q : Int32 → mi_D → Prop} (F : (((δ.1 28 4) < (p0 + 4) → Q 0 δ) ∧ (¬ (δ.1 28 4) < (p0 + 4) → (∀ x1 : Int32, x1 = ((mi_at δ 29 p0) + 4) → (((δ.1 28 4) < (p0 + x1) → Q 0 δ) ∧ (¬ (δ.1 28 4) < (p0 + x1) → (∀ x2 : Int32, x2 = ((p0 + x1) - 2) → (∀ x3 : Int32, x3 = (((mi_at δ 29 x2) <<< (8 &&& 31)) + (mi_at δ 29 (x2 + 1))) → (mi_wI N (d - 1) 56 0 [.ref 28, .int p0, .int x2, .null, .null, .null] [] δ (fun r5 δ4 => ((x3 = r5 → Q x1 δ4) ∧ (¬ x3 = r5 → Q 0 δ4)))))))))))) : mi_wI N d 57 0 [.ref 28, .int p0, .null, .null, .null] [] δ Q := by
  unfold mi_wI
  refine ms_seq mB_57 mO_57 [(.iload_n 1, 1), (.iconst 4, 1), (.iadd, 1), (.aload_n 0, 1)] (pc' := 4) (L' := [.ref 28, .int p0, .null, .null, .null]) (st' := [.ref 28, .int (p0 + 4)]) ⟨dX4_recordAt_0, dX4_recordAt_1, dX4_recordAt_2, dX4_recordAt_3, trivial⟩ rfl ?_
  refine ms_getI mB_57 mO_57 dX4_recordAt_4 mF_4_36 (gk_28 N) (Or.inl rfl) ?_
  refine ms_icmp_le mB_57 dX4_recordAt_7 (t := 12) rfl (fun c => ?_) (fun c => ?_)
  · have F := F.2 c
    refine ms_seq mB_57 mO_57 [(.aload_n 0, 1)] (pc' := 13) (L' := [.ref 28, .int p0, .null, .null, .null]) (st' := [.ref 28]) ⟨dX4_recordAt_12, trivial⟩ rfl ?_
    refine ms_getR mB_57 mO_57 dX4_recordAt_13 mF_4_14 (gk_28 N) rfl (b := 29) (gr_28_0 N) ?_
    refine ms_seq mB_57 mO_57 [(.iload_n 1, 1)] (pc' := 17) (L' := [.ref 28, .int p0, .null, .null, .null]) (st' := [.int p0, .ref 29]) ⟨dX4_recordAt_16, trivial⟩ rfl ?_
    refine ms_at mB_57 mO_57 hd dX4_recordAt_17 mQ_4_41 (Nat.le_of_ble_eq_true rfl) (gk_29 N) (mi_ne (gl_29 N)) ?_
    refine ms_seq mB_57 mO_57 [(.iconst 4, 1), (.iadd, 1)] (pc' := 22) (L' := [.ref 28, .int p0, .null, .null, .null]) (st' := [.int ((mi_at δ 29 p0) + 4)]) ⟨dX4_recordAt_20, dX4_recordAt_21, trivial⟩ rfl ?_
    refine mr_topi (fun x1 e_x1 => ?_)
    have F := F x1 e_x1
    refine ms_seq mB_57 mO_57 [(.istore_n 2, 1), (.iload_n 1, 1), (.iload_n 2, 1), (.iadd, 1), (.aload_n 0, 1)] (pc' := 27) (L' := [.ref 28, .int p0, .int x1, .null, .null]) (st' := [.ref 28, .int (p0 + x1)]) ⟨dX4_recordAt_22, dX4_recordAt_23, dX4_recordAt_24, dX4_recordAt_25, dX4_recordAt_26, trivial⟩ rfl ?_
    refine ms_getI mB_57 mO_57 dX4_recordAt_27 mF_4_36 (gk_28 N) (Or.inl rfl) ?_
    refine ms_icmp_le mB_57 dX4_recordAt_30 (t := 35) rfl (fun c => ?_) (fun c => ?_)
    · have F := F.2 c
      refine ms_seq mB_57 mO_57 [(.iload_n 1, 1), (.iload_n 2, 1), (.iadd, 1), (.iconst 2, 1), (.isub, 1)] (pc' := 40) (L' := [.ref 28, .int p0, .int x1, .null, .null]) (st' := [.int ((p0 + x1) - 2)]) ⟨dX4_recordAt_35, dX4_recordAt_36, dX4_recordAt_37, dX4_recordAt_38, dX4_recordAt_39, trivial⟩ rfl ?_
      refine mr_topi (fun x2 e_x2 => ?_)
      have F := F x2 e_x2
      refine ms_seq mB_57 mO_57 [(.istore_n 3, 1), (.aload_n 0, 1)] (pc' := 42) (L' := [.ref 28, .int p0, .int x1, .int x2, .null]) (st' := [.ref 28]) ⟨dX4_recordAt_40, dX4_recordAt_41, trivial⟩ rfl ?_
      refine ms_getR mB_57 mO_57 dX4_recordAt_42 mF_4_14 (gk_28 N) rfl (b := 29) (gr_28_0 N) ?_
      refine ms_seq mB_57 mO_57 [(.iload_n 3, 1)] (pc' := 46) (L' := [.ref 28, .int p0, .int x1, .int x2, .null]) (st' := [.int x2, .ref 29]) ⟨dX4_recordAt_45, trivial⟩ rfl ?_
      refine ms_at mB_57 mO_57 hd dX4_recordAt_46 mQ_4_41 (Nat.le_of_ble_eq_true rfl) (gk_29 N) (mi_ne (gl_29 N)) ?_
      refine ms_seq mB_57 mO_57 [(.bipush 8, 2), (.ishl, 1), (.aload_n 0, 1)] (pc' := 53) (L' := [.ref 28, .int p0, .int x1, .int x2, .null]) (st' := [.ref 28, .int ((mi_at δ 29 x2) <<< (8 &&& 31))]) ⟨dX4_recordAt_49, dX4_recordAt_51, dX4_recordAt_52, trivial⟩ rfl ?_
      refine ms_getR mB_57 mO_57 dX4_recordAt_53 mF_4_14 (gk_28 N) rfl (b := 29) (gr_28_0 N) ?_
      refine ms_seq mB_57 mO_57 [(.iload_n 3, 1), (.iconst 1, 1), (.iadd, 1)] (pc' := 59) (L' := [.ref 28, .int p0, .int x1, .int x2, .null]) (st' := [.int (x2 + 1), .ref 29, .int ((mi_at δ 29 x2) <<< (8 &&& 31))]) ⟨dX4_recordAt_56, dX4_recordAt_57, dX4_recordAt_58, trivial⟩ rfl ?_
      refine ms_at mB_57 mO_57 hd dX4_recordAt_59 mQ_4_41 (Nat.le_of_ble_eq_true rfl) (gk_29 N) (mi_ne (gl_29 N)) ?_
      refine ms_seq mB_57 mO_57 [(.iadd, 1)] (pc' := 63) (L' := [.ref 28, .int p0, .int x1, .int x2, .null]) (st' := [.int (((mi_at δ 29 x2) <<< (8 &&& 31)) + (mi_at δ 29 (x2 + 1)))]) ⟨dX4_recordAt_62, trivial⟩ rfl ?_
      refine mr_topi (fun x3 e_x3 => ?_)
      have F := F x3 e_x3
      refine ms_seq mB_57 mO_57 [(.istore 4, 2), (.iload 4, 2), (.aload_n 0, 1), (.iload_n 1, 1), (.iload_n 3, 1)] (pc' := 70) (L' := [.ref 28, .int p0, .int x1, .int x2, .int x3]) (st' := [.int x2, .int p0, .ref 28, .int x3]) ⟨dX4_recordAt_63, dX4_recordAt_65, dX4_recordAt_67, dX4_recordAt_68, dX4_recordAt_69, trivial⟩ rfl ?_
      refine ms_callvI mB_57 mO_57 (by omega) dX4_recordAt_70 mQ_4_45 mC_4_45 mL_56 mO_56 rfl (Nat.le_of_ble_eq_true rfl) (Nat.le_of_ble_eq_true rfl) (gk_28 N) rfl F (fun r5 δ4 F => ?_)
      refine ms_icmp_ne mB_57 dX4_recordAt_73 (t := 80) rfl (fun c => ?_) (fun c => ?_)
      · have F := F.2 c
        refine ms_seq mB_57 mO_57 [(.iconst 0, 1)] (pc' := 81) (L' := [.ref 28, .int p0, .int x1, .int x2, .int x3]) (st' := [.int 0]) ⟨dX4_recordAt_80, trivial⟩ rfl ?_
        exact ms_iret mB_57 dX4_recordAt_81 mR_57 ⟨_, rfl, rfl, F⟩
      · have F := F.1 c
        refine ms_seq mB_57 mO_57 [(.iload_n 2, 1)] (pc' := 77) (L' := [.ref 28, .int p0, .int x1, .int x2, .int x3]) (st' := [.int x1]) ⟨dX4_recordAt_76, trivial⟩ rfl ?_
        refine ms_goto mB_57 dX4_recordAt_77 (t := 81) rfl ?_
        exact ms_iret mB_57 dX4_recordAt_81 mR_57 ⟨_, rfl, rfl, F⟩
    · have F := F.1 c
      refine ms_seq mB_57 mO_57 [(.iconst 0, 1)] (pc' := 34) (L' := [.ref 28, .int p0, .int x1, .null, .null]) (st' := [.int 0]) ⟨dX4_recordAt_33, trivial⟩ rfl ?_
      exact ms_iret mB_57 dX4_recordAt_34 mR_57 ⟨_, rfl, rfl, F⟩
  · have F := F.1 c
    refine ms_seq mB_57 mO_57 [(.iconst 0, 1)] (pc' := 11) (L' := [.ref 28, .int p0, .null, .null, .null]) (st' := [.int 0]) ⟨dX4_recordAt_10, trivial⟩ rfl ?_
    exact ms_iret mB_57 dX4_recordAt_11 mR_57 ⟨_, rfl, rfl, F⟩
set_option maxRecDepth 100000 in
theorem q4_makeDurable_0 {N d : Nat} (hd : 5 ≤ d) {δ : mi_D} {Q : Int32 → mi_D → Prop} (F : (∀ x1 : Int32, x1 = ((δ.1 28 4) - (δ.1 28 5)) → (∀ δ2 : mi_D, δ2 = mi_setI δ 28 5 (δ.1 28 4) → Q x1 δ2))) : mi_wI N d 58 0 [.ref 28, .null] [] δ Q := by
  unfold mi_wI
  refine ms_seq mB_58 mO_58 [(.aload_n 0, 1)] (pc' := 1) (L' := [.ref 28, .null]) (st' := [.ref 28]) ⟨dX4_makeDurable_0, trivial⟩ rfl ?_
  refine ms_getI mB_58 mO_58 dX4_makeDurable_1 mF_4_36 (gk_28 N) (Or.inl rfl) ?_
  refine ms_seq mB_58 mO_58 [(.aload_n 0, 1)] (pc' := 5) (L' := [.ref 28, .null]) (st' := [.ref 28, .int (δ.1 28 4)]) ⟨dX4_makeDurable_4, trivial⟩ rfl ?_
  refine ms_getI mB_58 mO_58 dX4_makeDurable_5 mF_4_54 (gk_28 N) (Or.inl rfl) ?_
  refine ms_seq mB_58 mO_58 [(.isub, 1)] (pc' := 9) (L' := [.ref 28, .null]) (st' := [.int ((δ.1 28 4) - (δ.1 28 5))]) ⟨dX4_makeDurable_8, trivial⟩ rfl ?_
  refine mr_topi (fun x1 e_x1 => ?_)
  have F := F x1 e_x1
  refine ms_seq mB_58 mO_58 [(.istore_n 1, 1), (.aload_n 0, 1), (.aload_n 0, 1)] (pc' := 12) (L' := [.ref 28, .int x1]) (st' := [.ref 28, .ref 28]) ⟨dX4_makeDurable_9, dX4_makeDurable_10, dX4_makeDurable_11, trivial⟩ rfl ?_
  refine ms_getI mB_58 mO_58 dX4_makeDurable_12 mF_4_36 (gk_28 N) (Or.inl rfl) ?_
  refine ms_putI mB_58 mO_58 dX4_makeDurable_15 mF_4_54 (gk_28 N) rfl rfl ?_
  refine mr_st (fun δ2 e_δ2 => ?_)
  have F := F δ2 e_δ2
  refine ms_seq mB_58 mO_58 [(.iload_n 1, 1)] (pc' := 19) (L' := [.ref 28, .int x1]) (st' := [.int x1]) ⟨dX4_makeDurable_18, trivial⟩ rfl ?_
  exact ms_iret mB_58 dX4_makeDurable_19 mR_58 ⟨_, rfl, rfl, F⟩
set_option maxRecDepth 100000 in
theorem q4_tear_0 {N d : Nat} (hd : 5 ≤ d) {p0 p1 : Int32} {δ : mi_D} {Q : mi_D → Prop} (F : (∀ x1 : Int32, x1 = (if ((δ.1 28 4) - (δ.1 28 5)) < p0 then ((δ.1 28 4) - (δ.1 28 5)) else p0) → (∀ δ2 : mi_D, δ2 = mi_setI δ 28 4 ((δ.1 28 5) + x1) → ((0 < x1 → (∀ δ3 : mi_D, δ3 = mi_pt δ2 29 6000 ((δ2.1 28 4) - 1) ((mi_at δ2 29 ((δ2.1 28 4) - 1)) ^^^ p1) → Q δ3)) ∧ (¬ 0 < x1 → Q δ2))))) : mi_wV N d 59 0 [.ref 28, .int p0, .int p1, .null] [] δ Q := by
  unfold mi_wV
  refine ms_seq mB_59 mO_59 [(.iload_n 1, 1), (.aload_n 0, 1)] (pc' := 2) (L' := [.ref 28, .int p0, .int p1, .null]) (st' := [.ref 28, .int p0]) ⟨dX4_tear_0, dX4_tear_1, trivial⟩ rfl ?_
  refine ms_getI mB_59 mO_59 dX4_tear_2 mF_4_36 (gk_28 N) (Or.inl rfl) ?_
  refine ms_seq mB_59 mO_59 [(.aload_n 0, 1)] (pc' := 6) (L' := [.ref 28, .int p0, .int p1, .null]) (st' := [.ref 28, .int (δ.1 28 4), .int p0]) ⟨dX4_tear_5, trivial⟩ rfl ?_
  refine ms_getI mB_59 mO_59 dX4_tear_6 mF_4_54 (gk_28 N) (Or.inl rfl) ?_
  refine ms_seq mB_59 mO_59 [(.isub, 1)] (pc' := 10) (L' := [.ref 28, .int p0, .int p1, .null]) (st' := [.int ((δ.1 28 4) - (δ.1 28 5)), .int p0]) ⟨dX4_tear_9, trivial⟩ rfl ?_
  refine ms_min mB_59 mO_59 hd dX4_tear_10 mQ_4_57 (Nat.le_of_ble_eq_true rfl) ?_
  refine mr_topi (fun x1 e_x1 => ?_)
  have F := F x1 e_x1
  refine ms_seq mB_59 mO_59 [(.istore_n 3, 1), (.aload_n 0, 1), (.aload_n 0, 1)] (pc' := 16) (L' := [.ref 28, .int p0, .int p1, .int x1]) (st' := [.ref 28, .ref 28]) ⟨dX4_tear_13, dX4_tear_14, dX4_tear_15, trivial⟩ rfl ?_
  refine ms_getI mB_59 mO_59 dX4_tear_16 mF_4_54 (gk_28 N) (Or.inl rfl) ?_
  refine ms_seq mB_59 mO_59 [(.iload_n 3, 1), (.iadd, 1)] (pc' := 21) (L' := [.ref 28, .int p0, .int p1, .int x1]) (st' := [.int ((δ.1 28 5) + x1), .ref 28]) ⟨dX4_tear_19, dX4_tear_20, trivial⟩ rfl ?_
  refine ms_putI mB_59 mO_59 dX4_tear_21 mF_4_36 (gk_28 N) rfl rfl ?_
  refine mr_st (fun δ2 e_δ2 => ?_)
  have F := F δ2 e_δ2
  refine ms_seq mB_59 mO_59 [(.iload_n 3, 1)] (pc' := 25) (L' := [.ref 28, .int p0, .int p1, .int x1]) (st' := [.int x1]) ⟨dX4_tear_24, trivial⟩ rfl ?_
  refine ms_if_le mB_59 dX4_tear_25 (t := 56) rfl (fun c => ?_) (fun c => ?_)
  · have F := F.2 c
    exact ms_vret mB_59 dX4_tear_56 mR_59 ⟨rfl, rfl, F⟩
  · have F := F.1 c
    refine ms_seq mB_59 mO_59 [(.aload_n 0, 1)] (pc' := 29) (L' := [.ref 28, .int p0, .int p1, .int x1]) (st' := [.ref 28]) ⟨dX4_tear_28, trivial⟩ rfl ?_
    refine ms_getR mB_59 mO_59 dX4_tear_29 mF_4_14 (gk_28 N) rfl (b := 29) (gr_28_0 N) ?_
    refine ms_seq mB_59 mO_59 [(.aload_n 0, 1)] (pc' := 33) (L' := [.ref 28, .int p0, .int p1, .int x1]) (st' := [.ref 28, .ref 29]) ⟨dX4_tear_32, trivial⟩ rfl ?_
    refine ms_getI mB_59 mO_59 dX4_tear_33 mF_4_36 (gk_28 N) (Or.inl rfl) ?_
    refine ms_seq mB_59 mO_59 [(.iconst 1, 1), (.isub, 1), (.aload_n 0, 1)] (pc' := 39) (L' := [.ref 28, .int p0, .int p1, .int x1]) (st' := [.ref 28, .int ((δ2.1 28 4) - 1), .ref 29]) ⟨dX4_tear_36, dX4_tear_37, dX4_tear_38, trivial⟩ rfl ?_
    refine ms_getR mB_59 mO_59 dX4_tear_39 mF_4_14 (gk_28 N) rfl (b := 29) (gr_28_0 N) ?_
    refine ms_seq mB_59 mO_59 [(.aload_n 0, 1)] (pc' := 43) (L' := [.ref 28, .int p0, .int p1, .int x1]) (st' := [.ref 28, .ref 29, .int ((δ2.1 28 4) - 1), .ref 29]) ⟨dX4_tear_42, trivial⟩ rfl ?_
    refine ms_getI mB_59 mO_59 dX4_tear_43 mF_4_36 (gk_28 N) (Or.inl rfl) ?_
    refine ms_seq mB_59 mO_59 [(.iconst 1, 1), (.isub, 1)] (pc' := 48) (L' := [.ref 28, .int p0, .int p1, .int x1]) (st' := [.int ((δ2.1 28 4) - 1), .ref 29, .int ((δ2.1 28 4) - 1), .ref 29]) ⟨dX4_tear_46, dX4_tear_47, trivial⟩ rfl ?_
    refine ms_at mB_59 mO_59 hd dX4_tear_48 mQ_4_41 (Nat.le_of_ble_eq_true rfl) (gk_29 N) (mi_ne (gl_29 N)) ?_
    refine ms_seq mB_59 mO_59 [(.iload_n 2, 1), (.ixor, 1)] (pc' := 53) (L' := [.ref 28, .int p0, .int p1, .int x1]) (st' := [.int ((mi_at δ2 29 ((δ2.1 28 4) - 1)) ^^^ p1), .int ((δ2.1 28 4) - 1), .ref 29]) ⟨dX4_tear_51, dX4_tear_52, trivial⟩ rfl ?_
    refine ms_put mB_59 mO_59 (lim := 6000) hd dX4_tear_53 mQ_4_32 (Nat.le_of_ble_eq_true rfl) (gk_29 N) (gl_29 N) ?_
    refine mr_st (fun δ3 e_δ3 => ?_)
    have F := F δ3 e_δ3
    exact ms_vret mB_59 dX4_tear_56 mR_59 ⟨rfl, rfl, F⟩
set_option maxRecDepth 100000 in
theorem q4_cut_0 {N d : Nat} (hd : 5 ≤ d) {p0 p1 : Int32} {δ : mi_D} {Q : mi_D → Prop} (F : (∀ δ1 : mi_D, δ1 = mi_setI δ 28 4 p0 → (∀ δ2 : mi_D, δ2 = mi_setI δ1 28 5 p0 → (∀ δ3 : mi_D, δ3 = mi_setI δ2 28 6 p1 → Q δ3)))) : mi_wV N d 60 0 [.ref 28, .int p0, .int p1] [] δ Q := by
  unfold mi_wV
  refine ms_seq mB_60 mO_60 [(.aload_n 0, 1), (.iload_n 1, 1)] (pc' := 2) (L' := [.ref 28, .int p0, .int p1]) (st' := [.int p0, .ref 28]) ⟨dX4_cut_0, dX4_cut_1, trivial⟩ rfl ?_
  refine ms_putI mB_60 mO_60 dX4_cut_2 mF_4_36 (gk_28 N) rfl rfl ?_
  refine mr_st (fun δ1 e_δ1 => ?_)
  have F := F δ1 e_δ1
  refine ms_seq mB_60 mO_60 [(.aload_n 0, 1), (.iload_n 1, 1)] (pc' := 7) (L' := [.ref 28, .int p0, .int p1]) (st' := [.int p0, .ref 28]) ⟨dX4_cut_5, dX4_cut_6, trivial⟩ rfl ?_
  refine ms_putI mB_60 mO_60 dX4_cut_7 mF_4_54 (gk_28 N) rfl rfl ?_
  refine mr_st (fun δ2 e_δ2 => ?_)
  have F := F δ2 e_δ2
  refine ms_seq mB_60 mO_60 [(.aload_n 0, 1), (.iload_n 2, 1)] (pc' := 12) (L' := [.ref 28, .int p0, .int p1]) (st' := [.int p1, .ref 28]) ⟨dX4_cut_10, dX4_cut_11, trivial⟩ rfl ?_
  refine ms_putI mB_60 mO_60 dX4_cut_12 mF_4_49 (gk_28 N) rfl rfl ?_
  refine mr_st (fun δ3 e_δ3 => ?_)
  have F := F δ3 e_δ3
  exact ms_vret mB_60 dX4_cut_15 mR_60 ⟨rfl, rfl, F⟩
