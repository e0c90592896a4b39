set_option maxRecDepth 100000 in
theorem q12_in_0 {N d : Nat} (hd : 5 ≤ d) {p0 p1 p2 : Int64} {δ : mi_D} {Q : Int32 → mi_D → Prop} (F : (((lg_cmp p0 p1) < 0 → Q 0 δ) ∧ (¬ (lg_cmp p0 p1) < 0 → ((0 < (lg_cmp p0 p2) → Q 0 δ) ∧ (¬ 0 < (lg_cmp p0 p2) → Q 1 δ))))) : mi_wI N d 148 0 [.long p0, .null, .long p1, .null, .long p2, .null] [] δ Q := by
  unfold mi_wI
  refine ms_seq mB_148 mO_148 [(.lload_n 0, 1), (.lload_n 2, 1), (.lcmp, 1)] (pc' := 3) (L' := [.long p0, .null, .long p1, .null, .long p2, .null]) (st' := [.int (lg_cmp p0 p1)]) ⟨dX12_in_0, dX12_in_1, dX12_in_2, trivial⟩ rfl ?_
  refine ms_if_lt mB_148 dX12_in_3 (t := 17) rfl (fun c => ?_) (fun c => ?_)
  · have F := F.1 c
    refine ms_seq mB_148 mO_148 [(.iconst 0, 1)] (pc' := 18) (L' := [.long p0, .null, .long p1, .null, .long p2, .null]) (st' := [.int 0]) ⟨dX12_in_17, trivial⟩ rfl ?_
    exact ms_zret mB_148 dX12_in_18 mR_148 (by decide) ⟨_, rfl, rfl, F⟩
  · have F := F.2 c
    refine ms_seq mB_148 mO_148 [(.lload_n 0, 1), (.lload 4, 2), (.lcmp, 1)] (pc' := 10) (L' := [.long p0, .null, .long p1, .null, .long p2, .null]) (st' := [.int (lg_cmp p0 p2)]) ⟨dX12_in_6, dX12_in_7, dX12_in_9, trivial⟩ rfl ?_
    refine ms_if_gt mB_148 dX12_in_10 (t := 17) rfl (fun c => ?_) (fun c => ?_)
    · have F := F.1 c
      refine ms_seq mB_148 mO_148 [(.iconst 0, 1)] (pc' := 18) (L' := [.long p0, .null, .long p1, .null, .long p2, .null]) (st' := [.int 0]) ⟨dX12_in_17, trivial⟩ rfl ?_
      exact ms_zret mB_148 dX12_in_18 mR_148 (by decide) ⟨_, rfl, rfl, F⟩
    · have F := F.2 c
      refine ms_seq mB_148 mO_148 [(.iconst 1, 1)] (pc' := 14) (L' := [.long p0, .null, .long p1, .null, .long p2, .null]) (st' := [.int 1]) ⟨dX12_in_13, trivial⟩ rfl ?_
      refine ms_goto mB_148 dX12_in_14 (t := 18) rfl ?_
      exact ms_zret mB_148 dX12_in_18 mR_148 (by decide) ⟨_, rfl, rfl, F⟩
set_option maxRecDepth 100000 in
theorem q12_isAccount_0 {N d : Nat} (hd : 5 ≤ d) {p0 : Int32} {δ : mi_D} {Q : Int32 → mi_D → Prop} (F : (mi_wI N (d - 1) 148 0 [.long (Int32.toInt64 p0), .null, .long 0, .null, .long (Int32.toInt64 ((δ.1 48 2) - 1)), .null] [] δ (fun r2 δ1 => ((r2 = 0 ∨ r2 = 1) ∧ Q r2 δ1)))) : mi_wI N d 149 0 [.ref 48, .int p0] [] δ Q := by
  unfold mi_wI
  refine ms_seq mB_149 mO_149 [(.iload_n 1, 1), (.i2l, 1), (.lconst 0, 1), (.aload_n 0, 1)] (pc' := 4) (L' := [.ref 48, .int p0]) (st' := [.ref 48, .long 0, .long (Int32.toInt64 p0)]) ⟨dX12_isAccount_0, dX12_isAccount_1, dX12_isAccount_2, dX12_isAccount_3, trivial⟩ rfl ?_
  refine ms_getI mB_149 mO_149 dX12_isAccount_4 mF_12_113 (gk_48 N) (Or.inl rfl) ?_
  refine ms_seq mB_149 mO_149 [(.iconst 1, 1), (.isub, 1), (.i2l, 1)] (pc' := 10) (L' := [.ref 48, .int p0]) (st' := [.long (Int32.toInt64 ((δ.1 48 2) - 1)), .long 0, .long (Int32.toInt64 p0)]) ⟨dX12_isAccount_7, dX12_isAccount_8, dX12_isAccount_9, trivial⟩ rfl ?_
  refine ms_callsI mB_149 mO_149 (by omega) dX12_isAccount_10 mQ_12_116 mC_12_116 mL_148 (by decide) rfl (Nat.le_of_ble_eq_true rfl) (Nat.le_of_ble_eq_true rfl) rfl F (fun r2 δ1 F => ?_)
  exact ms_zret mB_149 dX12_isAccount_13 mR_149 F.1 ⟨_, rfl, rfl, F.2⟩
set_option maxRecDepth 100000 in
theorem q12_begin_0 {N d : Nat} (hd : 5 ≤ d) {δ : mi_D} {Q : mi_D → Prop} (F : (∀ δ1 : mi_D, δ1 = mi_setI δ 48 34 0 → Q δ1)) : mi_wV N d 150 0 [.ref 48] [] δ Q := by
  unfold mi_wV
  refine ms_seq mB_150 mO_150 [(.aload_n 0, 1), (.iconst 0, 1)] (pc' := 2) (L' := [.ref 48]) (st' := [.int 0, .ref 48]) ⟨dX12_begin_0, dX12_begin_1, trivial⟩ rfl ?_
  refine ms_putI mB_150 mO_150 dX12_begin_2 mF_12_120 (gk_48 N) rfl rfl ?_
  refine mr_st (fun δ1 e_δ1 => ?_)
  have F := F δ1 e_δ1
  exact ms_vret mB_150 dX12_begin_5 mR_150 ⟨rfl, rfl, F⟩
set_option maxRecDepth 100000 in
theorem q12_say_0 {N d : Nat} (hd : 5 ≤ d) {p0 : Int64} {δ : mi_D} {Q : mi_D → Prop} (F : (((lg_cmp p0 0) < 0 → (∀ x2 : Int64, x2 = (((-2) * p0) - 1) → mi_wV N d 151 22 [.ref 48, .long p0, .null, .long x2, .null] [] δ Q)) ∧ (¬ (lg_cmp p0 0) < 0 → (∀ x1 : Int64, x1 = (2 * p0) → mi_wV N d 151 22 [.ref 48, .long p0, .null, .long x1, .null] [] δ Q)))) : mi_wV N d 151 0 [.ref 48, .long p0, .null, .null, .null] [] δ Q := by
  unfold mi_wV
  refine ms_seq mB_151 mO_151 [(.lload_n 1, 1), (.lconst 0, 1), (.lcmp, 1)] (pc' := 3) (L' := [.ref 48, .long p0, .null, .null, .null]) (st' := [.int (lg_cmp p0 0)]) ⟨dX12_say_0, dX12_say_1, dX12_say_2, trivial⟩ rfl ?_
  refine ms_if_ge mB_151 dX12_say_3 (t := 16) rfl (fun c => ?_) (fun c => ?_)
  · have F := F.2 c
    refine ms_seq mB_151 mO_151 [(.ldc2_w 125, 3), (.lload_n 1, 1), (.lmul, 1)] (pc' := 21) (L' := [.ref 48, .long p0, .null, .null, .null]) (st' := [.long (2 * p0)]) ⟨dX12_say_16, dX12_say_19, dX12_say_20, trivial⟩ rfl ?_
    refine mr_topl (fun x1 e_x1 => ?_)
    have F := F x1 e_x1
    refine ms_seq mB_151 mO_151 [(.lstore_n 3, 1)] (pc' := 22) (L' := [.ref 48, .long p0, .null, .long x1, .null]) (st' := []) ⟨dX12_say_21, trivial⟩ rfl ?_
    exact F
  · have F := F.1 c
    refine ms_seq mB_151 mO_151 [(.ldc2_w 123, 3), (.lload_n 1, 1), (.lmul, 1), (.lconst 1, 1), (.lsub, 1)] (pc' := 13) (L' := [.ref 48, .long p0, .null, .null, .null]) (st' := [.long (((-2) * p0) - 1)]) ⟨dX12_say_6, dX12_say_9, dX12_say_10, dX12_say_11, dX12_say_12, trivial⟩ rfl ?_
    refine ms_goto mB_151 dX12_say_13 (t := 21) rfl ?_
    refine mr_topl (fun x2 e_x2 => ?_)
    have F := F x2 e_x2
    refine ms_seq mB_151 mO_151 [(.lstore_n 3, 1)] (pc' := 22) (L' := [.ref 48, .long p0, .null, .long x2, .null]) (st' := []) ⟨dX12_say_21, trivial⟩ rfl ?_
    exact F
set_option maxRecDepth 100000 in
theorem q12_say_22 {N d : Nat} (hd : 5 ≤ d) {l1 l3 : Int64} {δ : mi_D} {Q : mi_D → Prop} (F : (((lg_cmp ((Int64.toUInt64 l3 >>> (Int64.toUInt64 (Int32.toInt64 7) &&& Int64.toUInt64 63)).toInt64) 0) = 0 → (mi_ix (δ.1 48 34) 300 = true ∧ (∀ δ1 : mi_D, δ1 = mi_setA δ 71 (Int32.toNatClampNeg (δ.1 48 34)) (Int64.toInt32 l3) → (∀ δ2 : mi_D, δ2 = mi_setI δ1 48 34 ((δ1.1 48 34) + 1) → Q δ2)))) ∧ (¬ (lg_cmp ((Int64.toUInt64 l3 >>> (Int64.toUInt64 (Int32.toInt64 7) &&& Int64.toUInt64 63)).toInt64) 0) = 0 → (mi_ix (δ.1 48 34) 300 = true ∧ (∀ δ3 : mi_D, δ3 = mi_setA δ 71 (Int32.toNatClampNeg (δ.1 48 34)) ((Int64.toInt32 (l3 &&& 127)) ||| 128) → (∀ δ4 : mi_D, δ4 = mi_setI δ3 48 34 ((δ3.1 48 34) + 1) → (∀ x5 : Int64, x5 = ((Int64.toUInt64 l3 >>> (Int64.toUInt64 (Int32.toInt64 7) &&& Int64.toUInt64 63)).toInt64) → mi_wV N d 151 22 [.ref 48, .long l1, .null, .long x5, .null] [] δ4 Q))))))) : mi_wV N d 151 22 [.ref 48, .long l1, .null, .long l3, .null] [] δ Q := by
  unfold mi_wV
  refine ms_seq mB_151 mO_151 [(.lload_n 3, 1), (.bipush 7, 2), (.lushr, 1), (.lconst 0, 1), (.lcmp, 1)] (pc' := 28) (L' := [.ref 48, .long l1, .null, .long l3, .null]) (st' := [.int (lg_cmp ((Int64.toUInt64 l3 >>> (Int64.toUInt64 (Int32.toInt64 7) &&& Int64.toUInt64 63)).toInt64) 0)]) ⟨dX12_say_22, dX12_say_23, dX12_say_25, dX12_say_26, dX12_say_27, trivial⟩ rfl ?_
  refine ms_if_eq mB_151 dX12_say_28 (t := 68) rfl (fun c => ?_) (fun c => ?_)
  · have F := F.1 c
    refine ms_seq mB_151 mO_151 [(.aload_n 0, 1)] (pc' := 69) (L' := [.ref 48, .long l1, .null, .long l3, .null]) (st' := [.ref 48]) ⟨dX12_say_68, trivial⟩ rfl ?_
    refine ms_getA mB_151 mO_151 dX12_say_69 mF_12_86 (gk_48 N) rfl (b := 71) (gr_48_35 N) ?_
    refine ms_seq mB_151 mO_151 [(.aload_n 0, 1)] (pc' := 73) (L' := [.ref 48, .long l1, .null, .long l3, .null]) (st' := [.ref 48, .ref 71]) ⟨dX12_say_72, trivial⟩ rfl ?_
    refine ms_getI mB_151 mO_151 dX12_say_73 mF_12_120 (gk_48 N) (Or.inl rfl) ?_
    refine ms_seq mB_151 mO_151 [(.lload_n 3, 1), (.l2i, 1)] (pc' := 78) (L' := [.ref 48, .long l1, .null, .long l3, .null]) (st' := [.int (Int64.toInt32 l3), .int (δ.1 48 34), .ref 71]) ⟨dX12_say_76, dX12_say_77, trivial⟩ rfl ?_
    have G := F.1
    have F := F.2
    refine ms_iast mB_151 dX12_say_78 (gk_71 N) (by rw [gl_71 N]; exact G) ?_
    refine mr_st (fun δ1 e_δ1 => ?_)
    have F := F δ1 e_δ1
    refine ms_seq mB_151 mO_151 [(.aload_n 0, 1), (.dup, 1)] (pc' := 81) (L' := [.ref 48, .long l1, .null, .long l3, .null]) (st' := [.ref 48, .ref 48]) ⟨dX12_say_79, dX12_say_80, trivial⟩ rfl ?_
    refine ms_getI mB_151 mO_151 dX12_say_81 mF_12_120 (gk_48 N) (Or.inl rfl) ?_
    refine ms_seq mB_151 mO_151 [(.iconst 1, 1), (.iadd, 1)] (pc' := 86) (L' := [.ref 48, .long l1, .null, .long l3, .null]) (st' := [.int ((δ1.1 48 34) + 1), .ref 48]) ⟨dX12_say_84, dX12_say_85, trivial⟩ rfl ?_
    refine ms_putI mB_151 mO_151 dX12_say_86 mF_12_120 (gk_48 N) rfl rfl ?_
    refine mr_st (fun δ2 e_δ2 => ?_)
    have F := F δ2 e_δ2
    exact ms_vret mB_151 dX12_say_89 mR_151 ⟨rfl, rfl, F⟩
  · have F := F.2 c
    refine ms_seq mB_151 mO_151 [(.aload_n 0, 1)] (pc' := 32) (L' := [.ref 48, .long l1, .null, .long l3, .null]) (st' := [.ref 48]) ⟨dX12_say_31, trivial⟩ rfl ?_
    refine ms_getA mB_151 mO_151 dX12_say_32 mF_12_86 (gk_48 N) rfl (b := 71) (gr_48_35 N) ?_
    refine ms_seq mB_151 mO_151 [(.aload_n 0, 1)] (pc' := 36) (L' := [.ref 48, .long l1, .null, .long l3, .null]) (st' := [.ref 48, .ref 71]) ⟨dX12_say_35, trivial⟩ rfl ?_
    refine ms_getI mB_151 mO_151 dX12_say_36 mF_12_120 (gk_48 N) (Or.inl rfl) ?_
    refine ms_seq mB_151 mO_151 [(.lload_n 3, 1), (.ldc2_w 127, 3), (.land, 1), (.l2i, 1), (.sipush 128, 3), (.ior, 1)] (pc' := 49) (L' := [.ref 48, .long l1, .null, .long l3, .null]) (st' := [.int ((Int64.toInt32 (l3 &&& 127)) ||| 128), .int (δ.1 48 34), .ref 71]) ⟨dX12_say_39, dX12_say_40, dX12_say_43, dX12_say_44, dX12_say_45, dX12_say_48, trivial⟩ rfl ?_
    have G := F.1
    have F := F.2
    refine ms_iast mB_151 dX12_say_49 (gk_71 N) (by rw [gl_71 N]; exact G) ?_
    refine mr_st (fun δ3 e_δ3 => ?_)
    have F := F δ3 e_δ3
    refine ms_seq mB_151 mO_151 [(.aload_n 0, 1), (.dup, 1)] (pc' := 52) (L' := [.ref 48, .long l1, .null, .long l3, .null]) (st' := [.ref 48, .ref 48]) ⟨dX12_say_50, dX12_say_51, trivial⟩ rfl ?_
    refine ms_getI mB_151 mO_151 dX12_say_52 mF_12_120 (gk_48 N) (Or.inl rfl) ?_
    refine ms_seq mB_151 mO_151 [(.iconst 1, 1), (.iadd, 1)] (pc' := 57) (L' := [.ref 48, .long l1, .null, .long l3, .null]) (st' := [.int ((δ3.1 48 34) + 1), .ref 48]) ⟨dX12_say_55, dX12_say_56, trivial⟩ rfl ?_
    refine ms_putI mB_151 mO_151 dX12_say_57 mF_12_120 (gk_48 N) rfl rfl ?_
    refine mr_st (fun δ4 e_δ4 => ?_)
    have F := F δ4 e_δ4
    refine ms_seq mB_151 mO_151 [(.lload_n 3, 1), (.bipush 7, 2), (.lushr, 1)] (pc' := 64) (L' := [.ref 48, .long l1, .null, .long l3, .null]) (st' := [.long ((Int64.toUInt64 l3 >>> (Int64.toUInt64 (Int32.toInt64 7) &&& Int64.toUInt64 63)).toInt64)]) ⟨dX12_say_60, dX12_say_61, dX12_say_63, trivial⟩ rfl ?_
    refine mr_topl (fun x5 e_x5 => ?_)
    have F := F x5 e_x5
    refine ms_seq mB_151 mO_151 [(.lstore_n 3, 1)] (pc' := 65) (L' := [.ref 48, .long l1, .null, .long x5, .null]) (st' := []) ⟨dX12_say_64, trivial⟩ rfl ?_
    refine ms_goto mB_151 dX12_say_65 (t := 22) rfl ?_
    exact F
set_option maxRecDepth 100000 in
theorem q12_hasRoom_0 {N d : Nat} (hd : 5 ≤ d) {δ : mi_D} {Q : Int32 → mi_D → Prop} (F : (((δ.1 48 1) = 0 → ((6000 < (((δ.1 48 30) + (δ.1 48 34)) + 4) → Q 0 δ) ∧ (¬ 6000 < (((δ.1 48 30) + (δ.1 48 34)) + 4) → Q 1 δ))) ∧ (¬ (δ.1 48 1) = 0 → Q 1 δ))) : mi_wI N d 152 0 [.ref 48] [] δ Q := by
  unfold mi_wI
  refine ms_seq mB_152 mO_152 [(.aload_n 0, 1)] (pc' := 1) (L' := [.ref 48]) (st' := [.ref 48]) ⟨dX12_hasRoom_0, trivial⟩ rfl ?_
  refine ms_getI mB_152 mO_152 dX12_hasRoom_1 mF_12_129 (gk_48 N) (Or.inr rfl) ?_
  refine ms_if_ne mB_152 dX12_hasRoom_4 (t := 24) rfl (fun c => ?_) (fun c => ?_)
  · have F := F.2 c
    refine ms_seq mB_152 mO_152 [(.iconst 1, 1)] (pc' := 25) (L' := [.ref 48]) (st' := [.int 1]) ⟨dX12_hasRoom_24, trivial⟩ rfl ?_
    refine ms_goto mB_152 dX12_hasRoom_25 (t := 29) rfl ?_
    exact ms_zret mB_152 dX12_hasRoom_29 mR_152 (by decide) ⟨_, rfl, rfl, F⟩
  · have F := F.1 c
    refine ms_seq mB_152 mO_152 [(.aload_n 0, 1)] (pc' := 8) (L' := [.ref 48]) (st' := [.ref 48]) ⟨dX12_hasRoom_7, trivial⟩ rfl ?_
    refine ms_getI mB_152 mO_152 dX12_hasRoom_8 mF_12_132 (gk_48 N) (Or.inl rfl) ?_
    refine ms_seq mB_152 mO_152 [(.aload_n 0, 1)] (pc' := 12) (L' := [.ref 48]) (st' := [.ref 48, .int (δ.1 48 30)]) ⟨dX12_hasRoom_11, trivial⟩ rfl ?_
    refine ms_getI mB_152 mO_152 dX12_hasRoom_12 mF_12_120 (gk_48 N) (Or.inl rfl) ?_
    refine ms_seq mB_152 mO_152 [(.iadd, 1), (.iconst 4, 1), (.iadd, 1), (.sipush 6000, 3)] (pc' := 21) (L' := [.ref 48]) (st' := [.int 6000, .int (((δ.1 48 30) + (δ.1 48 34)) + 4)]) ⟨dX12_hasRoom_15, dX12_hasRoom_16, dX12_hasRoom_17, dX12_hasRoom_18, trivial⟩ rfl ?_
    refine ms_icmp_gt mB_152 dX12_hasRoom_21 (t := 28) rfl (fun c => ?_) (fun c => ?_)
    · have F := F.1 c
      refine ms_seq mB_152 mO_152 [(.iconst 0, 1)] (pc' := 29) (L' := [.ref 48]) (st' := [.int 0]) ⟨dX12_hasRoom_28, trivial⟩ rfl ?_
      exact ms_zret mB_152 dX12_hasRoom_29 mR_152 (by decide) ⟨_, rfl, rfl, F⟩
    · have F := F.2 c
      refine ms_seq mB_152 mO_152 [(.iconst 1, 1)] (pc' := 25) (L' := [.ref 48]) (st' := [.int 1]) ⟨dX12_hasRoom_24, trivial⟩ rfl ?_
      refine ms_goto mB_152 dX12_hasRoom_25 (t := 29) rfl ?_
      exact ms_zret mB_152 dX12_hasRoom_29 mR_152 (by decide) ⟨_, rfl, rfl, F⟩
set_option maxRecDepth 100000 in
theorem q12_checked_0 {N d : Nat} (hd : 5 ≤ d) {p0 p1 : Int32} {δ : mi_D} {Q : Int32 → mi_D → Prop} (F : (∀ x1 : Int32, x1 = (p0 ^^^ (p1 <<< (8 &&& 31))) → mi_wI N d 153 9 [.int p0, .int p1, .int x1, .int 0] [] δ Q)) : mi_wI N d 153 0 [.int p0, .int p1, .null, .null] [] δ Q := by
  unfold mi_wI
  refine ms_seq mB_153 mO_153 [(.iload_n 0, 1), (.iload_n 1, 1), (.bipush 8, 2), (.ishl, 1), (.ixor, 1)] (pc' := 6) (L' := [.int p0, .int p1, .null, .null]) (st' := [.int (p0 ^^^ (p1 <<< (8 &&& 31)))]) ⟨dX12_checked_0, dX12_checked_1, dX12_checked_2, dX12_checked_4, dX12_checked_5, trivial⟩ rfl ?_
  refine mr_topi (fun x1 e_x1 => ?_)
  have F := F x1 e_x1
  refine ms_seq mB_153 mO_153 [(.istore_n 2, 1), (.iconst 0, 1), (.istore_n 3, 1)] (pc' := 9) (L' := [.int p0, .int p1, .int x1, .int 0]) (st' := []) ⟨dX12_checked_6, dX12_checked_7, dX12_checked_8, trivial⟩ rfl ?_
  exact F
set_option maxRecDepth 100000 in
theorem q12_checked_9 {N d : Nat} (hd : 5 ≤ d) {l0 l1 l2 l3 : Int32} {δ : mi_D} {Q : Int32 → mi_D → Prop} (F : ((l3 < 8 → (((l2 &&& 32768) = 0 → (∀ x1 : Int32, x1 = (l2 <<< (1 &&& 31)) → mi_wI N d 153 9 [.int l0, .int l1, .int x1, .int (l3 + 1)] [] δ Q)) ∧ (¬ (l2 &&& 32768) = 0 → (∀ x2 : Int32, x2 = ((l2 <<< (1 &&& 31)) ^^^ 4129) → mi_wI N d 153 9 [.int l0, .int l1, .int x2, .int (l3 + 1)] [] δ Q)))) ∧ (¬ l3 < 8 → Q (l2 &&& 65535) δ))) : mi_wI N d 153 9 [.int l0, .int l1, .int l2, .int l3] [] δ Q := by
  unfold mi_wI
  refine ms_seq mB_153 mO_153 [(.iload_n 3, 1), (.bipush 8, 2)] (pc' := 12) (L' := [.int l0, .int l1, .int l2, .int l3]) (st' := [.int 8, .int l3]) ⟨dX12_checked_9, dX12_checked_10, trivial⟩ rfl ?_
  refine ms_icmp_ge mB_153 dX12_checked_12 (t := 42) rfl (fun c => ?_) (fun c => ?_)
  · have F := F.2 c
    refine ms_seq mB_153 mO_153 [(.iload_n 2, 1), (.ldc 136, 2), (.iand, 1)] (pc' := 46) (L' := [.int l0, .int l1, .int l2, .int l3]) (st' := [.int (l2 &&& 65535)]) ⟨dX12_checked_42, dX12_checked_43, dX12_checked_45, trivial⟩ rfl ?_
    exact ms_iret mB_153 dX12_checked_46 mR_153 ⟨_, rfl, rfl, F⟩
  · have F := F.1 c
    refine ms_seq mB_153 mO_153 [(.iload_n 2, 1), (.ldc 135, 2), (.iand, 1)] (pc' := 19) (L' := [.int l0, .int l1, .int l2, .int l3]) (st' := [.int (l2 &&& 32768)]) ⟨dX12_checked_15, dX12_checked_16, dX12_checked_18, trivial⟩ rfl ?_
    refine ms_if_eq mB_153 dX12_checked_19 (t := 32) rfl (fun c => ?_) (fun c => ?_)
    · have F := F.1 c
      refine ms_seq mB_153 mO_153 [(.iload_n 2, 1), (.iconst 1, 1), (.ishl, 1)] (pc' := 35) (L' := [.int l0, .int l1, .int l2, .int l3]) (st' := [.int (l2 <<< (1 &&& 31))]) ⟨dX12_checked_32, dX12_checked_33, dX12_checked_34, trivial⟩ rfl ?_
      refine mr_topi (fun x1 e_x1 => ?_)
      have F := F x1 e_x1
      refine ms_seq mB_153 mO_153 [(.istore_n 2, 1), (.iinc 3 1, 3)] (pc' := 39) (L' := [.int l0, .int l1, .int x1, .int (l3 + 1)]) (st' := []) ⟨dX12_checked_35, dX12_checked_36, trivial⟩ rfl ?_
      refine ms_goto mB_153 dX12_checked_39 (t := 9) rfl ?_
      exact F
    · have F := F.2 c
      refine ms_seq mB_153 mO_153 [(.iload_n 2, 1), (.iconst 1, 1), (.ishl, 1), (.sipush 4129, 3), (.ixor, 1)] (pc' := 29) (L' := [.int l0, .int l1, .int l2, .int l3]) (st' := [.int ((l2 <<< (1 &&& 31)) ^^^ 4129)]) ⟨dX12_checked_22, dX12_checked_23, dX12_checked_24, dX12_checked_25, dX12_checked_28, trivial⟩ rfl ?_
      refine ms_goto mB_153 dX12_checked_29 (t := 35) rfl ?_
      refine mr_topi (fun x2 e_x2 => ?_)
      have F := F x2 e_x2
      refine ms_seq mB_153 mO_153 [(.istore_n 2, 1), (.iinc 3 1, 3)] (pc' := 39) (L' := [.int l0, .int l1, .int x2, .int (l3 + 1)]) (st' := []) ⟨dX12_checked_35, dX12_checked_36, trivial⟩ rfl ?_
      refine ms_goto mB_153 dX12_checked_39 (t := 9) rfl ?_
      exact F
set_option maxRecDepth 100000 in
theorem q12_append_0 {N d : Nat} (hd : 5 ≤ d) {p0 : Int32} {δ : mi_D} {Q : mi_D → Prop} (F : (mi_ix (δ.1 48 30) 6000 = true ∧ (∀ δ1 : mi_D, δ1 = mi_setA δ 70 (Int32.toNatClampNeg (δ.1 48 30)) p0 → (∀ δ2 : mi_D, δ2 = mi_setI δ1 48 30 ((δ1.1 48 30) + 1) → Q δ2)))) : mi_wV N d 154 0 [.ref 48, .int p0] [] δ Q := by
  unfold mi_wV
  refine ms_seq mB_154 mO_154 [(.aload_n 0, 1)] (pc' := 1) (L' := [.ref 48, .int p0]) (st' := [.ref 48]) ⟨dX12_append_0, trivial⟩ rfl ?_
  refine ms_getA mB_154 mO_154 dX12_append_1 mF_12_83 (gk_48 N) rfl (b := 70) (gr_48_33 N) ?_
  refine ms_seq mB_154 mO_154 [(.aload_n 0, 1)] (pc' := 5) (L' := [.ref 48, .int p0]) (st' := [.ref 48, .ref 70]) ⟨dX12_append_4, trivial⟩ rfl ?_
  refine ms_getI mB_154 mO_154 dX12_append_5 mF_12_132 (gk_48 N) (Or.inl rfl) ?_
  refine ms_seq mB_154 mO_154 [(.iload_n 1, 1)] (pc' := 9) (L' := [.ref 48, .int p0]) (st' := [.int p0, .int (δ.1 48 30), .ref 70]) ⟨dX12_append_8, trivial⟩ rfl ?_
  have G := F.1
  have F := F.2
  refine ms_iast mB_154 dX12_append_9 (gk_70 N) (by rw [gl_70 N]; exact G) ?_
  refine mr_st (fun δ1 e_δ1 => ?_)
  have F := F δ1 e_δ1
  refine ms_seq mB_154 mO_154 [(.aload_n 0, 1), (.dup, 1)] (pc' := 12) (L' := [.ref 48, .int p0]) (st' := [.ref 48, .ref 48]) ⟨dX12_append_10, dX12_append_11, trivial⟩ rfl ?_
  refine ms_getI mB_154 mO_154 dX12_append_12 mF_12_132 (gk_48 N) (Or.inl rfl) ?_
  refine ms_seq mB_154 mO_154 [(.iconst 1, 1), (.iadd, 1)] (pc' := 17) (L' := [.ref 48, .int p0]) (st' := [.int ((δ1.1 48 30) + 1), .ref 48]) ⟨dX12_append_15, dX12_append_16, trivial⟩ rfl ?_
  refine ms_putI mB_154 mO_154 dX12_append_17 mF_12_132 (gk_48 N) rfl rfl ?_
  refine mr_st (fun δ2 e_δ2 => ?_)
  have F := F δ2 e_δ2
  exact ms_vret mB_154 dX12_append_20 mR_154 ⟨rfl, rfl, F⟩
set_option maxRecDepth 100000 in
theorem q12_write_0 {N d : Nat} (hd : 5 ≤ d) {p0 : Int32} {δ : mi_D} {Q : mi_D → Prop} (F : (∀ δ1 : mi_D, δ1 = mi_setI δ 48 32 ((δ.1 48 32) + 1) → (((δ1.1 48 1) = 0 → (mi_wI N (d - 1) 153 0 [.int 65535, .int (δ1.1 48 34), .null, .null] [] δ1 (fun r3 δ2 => (mi_wI N (d - 1) 153 0 [.int r3, .int p0, .null, .null] [] δ2 (fun r5 δ4 => (mi_wV N (d - 1) 154 0 [.ref 48, .int (δ4.1 48 34)] [] δ4 (fun δ6 => (mi_wV N (d - 1) 154 0 [.ref 48, .int p0] [] δ6 (fun δ7 => mi_wV N d 155 47 [.ref 48, .int p0, .int r5, .int 0] [] δ7 Q))))))))) ∧ (¬ (δ1.1 48 1) = 0 → Q δ1)))) : mi_wV N d 155 0 [.ref 48, .int p0, .null, .null] [] δ Q := by
  unfold mi_wV
  refine ms_seq mB_155 mO_155 [(.aload_n 0, 1), (.dup, 1)] (pc' := 2) (L' := [.ref 48, .int p0, .null, .null]) (st' := [.ref 48, .ref 48]) ⟨dX12_write_0, dX12_write_1, trivial⟩ rfl ?_
  refine ms_getI mB_155 mO_155 dX12_write_2 mF_12_137 (gk_48 N) (Or.inl rfl) ?_
  refine ms_seq mB_155 mO_155 [(.iconst 1, 1), (.iadd, 1)] (pc' := 7) (L' := [.ref 48, .int p0, .null, .null]) (st' := [.int ((δ.1 48 32) + 1), .ref 48]) ⟨dX12_write_5, dX12_write_6, trivial⟩ rfl ?_
  refine ms_putI mB_155 mO_155 dX12_write_7 mF_12_137 (gk_48 N) rfl rfl ?_
  refine mr_st (fun δ1 e_δ1 => ?_)
  have F := F δ1 e_δ1
  refine ms_seq mB_155 mO_155 [(.aload_n 0, 1)] (pc' := 11) (L' := [.ref 48, .int p0, .null, .null]) (st' := [.ref 48]) ⟨dX12_write_10, trivial⟩ rfl ?_
  refine ms_getI mB_155 mO_155 dX12_write_11 mF_12_129 (gk_48 N) (Or.inr rfl) ?_
  refine ms_if_eq mB_155 dX12_write_14 (t := 18) rfl (fun c => ?_) (fun c => ?_)
  · have F := F.1 c
    refine ms_seq mB_155 mO_155 [(.ldc 136, 2), (.aload_n 0, 1)] (pc' := 21) (L' := [.ref 48, .int p0, .null, .null]) (st' := [.ref 48, .int 65535]) ⟨dX12_write_18, dX12_write_20, trivial⟩ rfl ?_
    refine ms_getI mB_155 mO_155 dX12_write_21 mF_12_120 (gk_48 N) (Or.inl rfl) ?_
    refine ms_callsI mB_155 mO_155 (by omega) dX12_write_24 mQ_12_140 mC_12_140 mL_153 (by decide) rfl (Nat.le_of_ble_eq_true rfl) (Nat.le_of_ble_eq_true rfl) rfl F (fun r3 δ2 F => ?_)
    refine ms_seq mB_155 mO_155 [(.iload_n 1, 1)] (pc' := 28) (L' := [.ref 48, .int p0, .null, .null]) (st' := [.int p0, .int r3]) ⟨dX12_write_27, trivial⟩ rfl ?_
    refine ms_callsI mB_155 mO_155 (by omega) dX12_write_28 mQ_12_140 mC_12_140 mL_153 (by decide) rfl (Nat.le_of_ble_eq_true rfl) (Nat.le_of_ble_eq_true rfl) rfl F (fun r5 δ4 F => ?_)
    refine ms_seq mB_155 mO_155 [(.istore_n 2, 1), (.aload_n 0, 1), (.aload_n 0, 1)] (pc' := 34) (L' := [.ref 48, .int p0, .int r5, .null]) (st' := [.ref 48, .ref 48]) ⟨dX12_write_31, dX12_write_32, dX12_write_33, trivial⟩ rfl ?_
    refine ms_getI mB_155 mO_155 dX12_write_34 mF_12_120 (gk_48 N) (Or.inl rfl) ?_
    refine ms_callvV mB_155 mO_155 (by omega) dX12_write_37 mQ_12_144 mC_12_144 mL_154 mO_154 rfl (Nat.le_of_ble_eq_true rfl) (Nat.le_of_ble_eq_true rfl) (gk_48 N) rfl F (fun δ6 F => ?_)
    refine ms_seq mB_155 mO_155 [(.aload_n 0, 1), (.iload_n 1, 1)] (pc' := 42) (L' := [.ref 48, .int p0, .int r5, .null]) (st' := [.int p0, .ref 48]) ⟨dX12_write_40, dX12_write_41, trivial⟩ rfl ?_
    refine ms_callvV mB_155 mO_155 (by omega) dX12_write_42 mQ_12_144 mC_12_144 mL_154 mO_154 rfl (Nat.le_of_ble_eq_true rfl) (Nat.le_of_ble_eq_true rfl) (gk_48 N) rfl F (fun δ7 F => ?_)
    refine ms_seq mB_155 mO_155 [(.iconst 0, 1), (.istore_n 3, 1)] (pc' := 47) (L' := [.ref 48, .int p0, .int r5, .int 0]) (st' := []) ⟨dX12_write_45, dX12_write_46, trivial⟩ rfl ?_
    exact F
  · have F := F.2 c
    exact ms_vret mB_155 dX12_write_17 mR_155 ⟨rfl, rfl, F⟩
set_option maxRecDepth 100000 in
theorem q12_write_47 {N d : Nat} (hd : 5 ≤ d) {l1 l2 l3 : Int32} {δ : mi_D} {Q : mi_D → Prop} (F : ((l3 < (δ.1 48 34) → (mi_ix l3 300 = true ∧ (mi_wV N (d - 1) 154 0 [.ref 48, .int (δ.2.1 71 (Int32.toNatClampNeg l3))] [] δ (fun δ3 => (mi_ix l3 300 = true ∧ (mi_wI N (d - 1) 153 0 [.int l2, .int (δ3.2.1 71 (Int32.toNatClampNeg l3)), .null, .null] [] δ3 (fun r5 δ4 => mi_wV N d 155 47 [.ref 48, .int l1, .int r5, .int (l3 + 1)] [] δ4 Q))))))) ∧ (¬ l3 < (δ.1 48 34) → (mi_wV N (d - 1) 154 0 [.ref 48, .int (l2 >>> (8 &&& 31))] [] δ (fun δ1 => (mi_wV N (d - 1) 154 0 [.ref 48, .int (l2 &&& 255)] [] δ1 (fun δ2 => Q δ2))))))) : mi_wV N d 155 47 [.ref 48, .int l1, .int l2, .int l3] [] δ Q := by
  unfold mi_wV
  refine ms_seq mB_155 mO_155 [(.iload_n 3, 1), (.aload_n 0, 1)] (pc' := 49) (L' := [.ref 48, .int l1, .int l2, .int l3]) (st' := [.ref 48, .int l3]) ⟨dX12_write_47, dX12_write_48, trivial⟩ rfl ?_
  refine ms_getI mB_155 mO_155 dX12_write_49 mF_12_120 (gk_48 N) (Or.inl rfl) ?_
  refine ms_icmp_ge mB_155 dX12_write_52 (t := 82) rfl (fun c => ?_) (fun c => ?_)
  · have F := F.2 c
    refine ms_seq mB_155 mO_155 [(.aload_n 0, 1), (.iload_n 2, 1), (.bipush 8, 2), (.ishr, 1)] (pc' := 87) (L' := [.ref 48, .int l1, .int l2, .int l3]) (st' := [.int (l2 >>> (8 &&& 31)), .ref 48]) ⟨dX12_write_82, dX12_write_83, dX12_write_84, dX12_write_86, trivial⟩ rfl ?_
    refine ms_callvV mB_155 mO_155 (by omega) dX12_write_87 mQ_12_144 mC_12_144 mL_154 mO_154 rfl (Nat.le_of_ble_eq_true rfl) (Nat.le_of_ble_eq_true rfl) (gk_48 N) rfl F (fun δ1 F => ?_)
    refine ms_seq mB_155 mO_155 [(.aload_n 0, 1), (.iload_n 2, 1), (.sipush 255, 3), (.iand, 1)] (pc' := 96) (L' := [.ref 48, .int l1, .int l2, .int l3]) (st' := [.int (l2 &&& 255), .ref 48]) ⟨dX12_write_90, dX12_write_91, dX12_write_92, dX12_write_95, trivial⟩ rfl ?_
    refine ms_callvV mB_155 mO_155 (by omega) dX12_write_96 mQ_12_144 mC_12_144 mL_154 mO_154 rfl (Nat.le_of_ble_eq_true rfl) (Nat.le_of_ble_eq_true rfl) (gk_48 N) rfl F (fun δ2 F => ?_)
    exact ms_vret mB_155 dX12_write_99 mR_155 ⟨rfl, rfl, F⟩
  · have F := F.1 c
    refine ms_seq mB_155 mO_155 [(.aload_n 0, 1), (.aload_n 0, 1)] (pc' := 57) (L' := [.ref 48, .int l1, .int l2, .int l3]) (st' := [.ref 48, .ref 48]) ⟨dX12_write_55, dX12_write_56, trivial⟩ rfl ?_
    refine ms_getA mB_155 mO_155 dX12_write_57 mF_12_86 (gk_48 N) rfl (b := 71) (gr_48_35 N) ?_
    refine ms_seq mB_155 mO_155 [(.iload_n 3, 1)] (pc' := 61) (L' := [.ref 48, .int l1, .int l2, .int l3]) (st' := [.int l3, .ref 71, .ref 48]) ⟨dX12_write_60, trivial⟩ rfl ?_
    have G := F.1
    have F := F.2
    refine ms_iald mB_155 dX12_write_61 (Or.inl (gk_71 N)) (by rw [gl_71 N]; exact G) ?_
    refine ms_callvV mB_155 mO_155 (by omega) dX12_write_62 mQ_12_144 mC_12_144 mL_154 mO_154 rfl (Nat.le_of_ble_eq_true rfl) (Nat.le_of_ble_eq_true rfl) (gk_48 N) rfl F (fun δ3 F => ?_)
    refine ms_seq mB_155 mO_155 [(.iload_n 2, 1), (.aload_n 0, 1)] (pc' := 67) (L' := [.ref 48, .int l1, .int l2, .int l3]) (st' := [.ref 48, .int l2]) ⟨dX12_write_65, dX12_write_66, trivial⟩ rfl ?_
    refine ms_getA mB_155 mO_155 dX12_write_67 mF_12_86 (gk_48 N) rfl (b := 71) (gr_48_35 N) ?_
    refine ms_seq mB_155 mO_155 [(.iload_n 3, 1)] (pc' := 71) (L' := [.ref 48, .int l1, .int l2, .int l3]) (st' := [.int l3, .ref 71, .int l2]) ⟨dX12_write_70, trivial⟩ rfl ?_
    have G := F.1
    have F := F.2
    refine ms_iald mB_155 dX12_write_71 (Or.inl (gk_71 N)) (by rw [gl_71 N]; exact G) ?_
    refine ms_callsI mB_155 mO_155 (by omega) dX12_write_72 mQ_12_140 mC_12_140 mL_153 (by decide) rfl (Nat.le_of_ble_eq_true rfl) (Nat.le_of_ble_eq_true rfl) rfl F (fun r5 δ4 F => ?_)
    refine ms_seq mB_155 mO_155 [(.istore_n 2, 1), (.iinc 3 1, 3)] (pc' := 79) (L' := [.ref 48, .int l1, .int r5, .int (l3 + 1)]) (st' := []) ⟨dX12_write_75, dX12_write_76, trivial⟩ rfl ?_
    refine ms_goto mB_155 dX12_write_79 (t := 47) rfl ?_
    exact F
set_option maxRecDepth 100000 in
theorem q12_isTold_0 {N d : Nat} (hd : 5 ≤ d) {p0 : Int32} {δ : mi_D} {Q : Int32 → mi_D → Prop} (F : mi_wI N d 156 4 [.ref 48, .int p0, .int 0, .int 0] [] δ Q) : mi_wI N d 156 0 [.ref 48, .int p0, .null, .null] [] δ Q := by
  unfold mi_wI
  refine ms_seq mB_156 mO_156 [(.iconst 0, 1), (.istore_n 2, 1), (.iconst 0, 1), (.istore_n 3, 1)] (pc' := 4) (L' := [.ref 48, .int p0, .int 0, .int 0]) (st' := []) ⟨dX12_isTold_0, dX12_isTold_1, dX12_isTold_2, dX12_isTold_3, trivial⟩ rfl ?_
  exact F
set_option maxRecDepth 100000 in
theorem q12_isTold_4 {N d : Nat} (hd : 5 ≤ d) {l1 l2 l3 : Int32} {δ : mi_D} {Q : Int32 → mi_D → Prop} (F : ((l3 < (δ.1 48 2) → ((l2 = 0 → (mi_ix l3 60 = true ∧ (((δ.2.1 49 (Int32.toNatClampNeg l3)) = l1 → mi_wI N d 156 4 [.ref 48, .int l1, .int 1, .int (l3 + 1)] [] δ Q) ∧ (¬ (δ.2.1 49 (Int32.toNatClampNeg l3)) = l1 → mi_wI N d 156 4 [.ref 48, .int l1, .int 0, .int (l3 + 1)] [] δ Q)))) ∧ (¬ l2 = 0 → mi_wI N d 156 4 [.ref 48, .int l1, .int 1, .int (l3 + 1)] [] δ Q))) ∧ (¬ l3 < (δ.1 48 2) → ((l2 = 0 ∨ l2 = 1) ∧ Q l2 δ)))) : mi_wI N d 156 4 [.ref 48, .int l1, .int l2, .int l3] [] δ Q := by
  unfold mi_wI
  refine ms_seq mB_156 mO_156 [(.iload_n 3, 1), (.aload_n 0, 1)] (pc' := 6) (L' := [.ref 48, .int l1, .int l2, .int l3]) (st' := [.ref 48, .int l3]) ⟨dX12_isTold_4, dX12_isTold_5, trivial⟩ rfl ?_
  refine ms_getI mB_156 mO_156 dX12_isTold_6 mF_12_113 (gk_48 N) (Or.inl rfl) ?_
  refine ms_icmp_ge mB_156 dX12_isTold_9 (t := 38) rfl (fun c => ?_) (fun c => ?_)
  · have F := F.2 c
    refine ms_seq mB_156 mO_156 [(.iload_n 2, 1)] (pc' := 39) (L' := [.ref 48, .int l1, .int l2, .int l3]) (st' := [.int l2]) ⟨dX12_isTold_38, trivial⟩ rfl ?_
    exact ms_zret mB_156 dX12_isTold_39 mR_156 F.1 ⟨_, rfl, rfl, F.2⟩
  · have F := F.1 c
    refine ms_seq mB_156 mO_156 [(.iload_n 2, 1)] (pc' := 13) (L' := [.ref 48, .int l1, .int l2, .int l3]) (st' := [.int l2]) ⟨dX12_isTold_12, trivial⟩ rfl ?_
    refine ms_if_ne mB_156 dX12_isTold_13 (t := 26) rfl (fun c => ?_) (fun c => ?_)
    · have F := F.2 c
      refine ms_seq mB_156 mO_156 [(.iconst 1, 1)] (pc' := 27) (L' := [.ref 48, .int l1, .int l2, .int l3]) (st' := [.int 1]) ⟨dX12_isTold_26, trivial⟩ rfl ?_
      refine ms_goto mB_156 dX12_isTold_27 (t := 31) rfl ?_
      refine ms_seq mB_156 mO_156 [(.istore_n 2, 1), (.iinc 3 1, 3)] (pc' := 35) (L' := [.ref 48, .int l1, .int 1, .int (l3 + 1)]) (st' := []) ⟨dX12_isTold_31, dX12_isTold_32, trivial⟩ rfl ?_
      refine ms_goto mB_156 dX12_isTold_35 (t := 4) rfl ?_
      exact F
    · have F := F.1 c
      refine ms_seq mB_156 mO_156 [(.aload_n 0, 1)] (pc' := 17) (L' := [.ref 48, .int l1, .int l2, .int l3]) (st' := [.ref 48]) ⟨dX12_isTold_16, trivial⟩ rfl ?_
      refine ms_getA mB_156 mO_156 dX12_isTold_17 mF_12_13 (gk_48 N) rfl (b := 49) (gr_48_3 N) ?_
      refine ms_seq mB_156 mO_156 [(.iload_n 3, 1)] (pc' := 21) (L' := [.ref 48, .int l1, .int l2, .int l3]) (st' := [.int l3, .ref 49]) ⟨dX12_isTold_20, trivial⟩ rfl ?_
      have G := F.1
      have F := F.2
      refine ms_iald mB_156 dX12_isTold_21 (Or.inl (gk_49 N)) (by rw [gl_49 N]; exact G) ?_
      refine ms_seq mB_156 mO_156 [(.iload_n 1, 1)] (pc' := 23) (L' := [.ref 48, .int l1, .int l2, .int l3]) (st' := [.int l1, .int (δ.2.1 49 (Int32.toNatClampNeg l3))]) ⟨dX12_isTold_22, trivial⟩ rfl ?_
      refine ms_icmp_ne mB_156 dX12_isTold_23 (t := 30) rfl (fun c => ?_) (fun c => ?_)
      · have F := F.2 c
        refine ms_seq mB_156 mO_156 [(.iconst 0, 1), (.istore_n 2, 1), (.iinc 3 1, 3)] (pc' := 35) (L' := [.ref 48, .int l1, .int 0, .int (l3 + 1)]) (st' := []) ⟨dX12_isTold_30, dX12_isTold_31, dX12_isTold_32, trivial⟩ rfl ?_
        refine ms_goto mB_156 dX12_isTold_35 (t := 4) rfl ?_
        exact F
      · have F := F.1 c
        refine ms_seq mB_156 mO_156 [(.iconst 1, 1)] (pc' := 27) (L' := [.ref 48, .int l1, .int l2, .int l3]) (st' := [.int 1]) ⟨dX12_isTold_26, trivial⟩ rfl ?_
        refine ms_goto mB_156 dX12_isTold_27 (t := 31) rfl ?_
        refine ms_seq mB_156 mO_156 [(.istore_n 2, 1), (.iinc 3 1, 3)] (pc' := 35) (L' := [.ref 48, .int l1, .int 1, .int (l3 + 1)]) (st' := []) ⟨dX12_isTold_31, dX12_isTold_32, trivial⟩ rfl ?_
        refine ms_goto mB_156 dX12_isTold_35 (t := 4) rfl ?_
        exact F
set_option maxRecDepth 100000 in
theorem q12_account_0 {N d : Nat} (hd : 5 ≤ d) {p0 p1 p2 p3 : Int32} {δ : mi_D} {Q : Int32 → mi_D → Prop} (F : (((δ.1 48 0) = 0 → Q (-6) δ) ∧ (¬ (δ.1 48 0) = 0 → ((p2 = (-1) → mi_wI N d 157 26 [.ref 48, .int p0, .int p1, .int p2, .int p3, .null] [] δ Q) ∧ (¬ p2 = (-1) → (mi_wI N (d - 1) 149 0 [.ref 48, .int p2] [] δ (fun r2 δ1 => ((r2 = 0 → Q (-2) δ1) ∧ (¬ r2 = 0 → mi_wI N d 157 26 [.ref 48, .int p0, .int p1, .int p2, .int p3, .null] [] δ1 Q))))))))) : mi_wI N d 157 0 [.ref 48, .int p0, .int p1, .int p2, .int p3, .null] [] δ Q := by
  unfold mi_wI
  refine ms_seq mB_157 mO_157 [(.aload_n 0, 1)] (pc' := 1) (L' := [.ref 48, .int p0, .int p1, .int p2, .int p3, .null]) (st' := [.ref 48]) ⟨dX12_account_0, trivial⟩ rfl ?_
  refine ms_getI mB_157 mO_157 dX12_account_1 mF_12_7 (gk_48 N) (Or.inr rfl) ?_
  refine ms_if_ne mB_157 dX12_account_4 (t := 10) rfl (fun c => ?_) (fun c => ?_)
  · have F := F.2 c
    refine ms_seq mB_157 mO_157 [(.iload_n 3, 1), (.iconst (-1), 1)] (pc' := 12) (L' := [.ref 48, .int p0, .int p1, .int p2, .int p3, .null]) (st' := [.int (-1), .int p2]) ⟨dX12_account_10, dX12_account_11, trivial⟩ rfl ?_
    refine ms_icmp_eq mB_157 dX12_account_12 (t := 26) rfl (fun c => ?_) (fun c => ?_)
    · have F := F.1 c
      exact F
    · have F := F.2 c
      refine ms_seq mB_157 mO_157 [(.aload_n 0, 1), (.iload_n 3, 1)] (pc' := 17) (L' := [.ref 48, .int p0, .int p1, .int p2, .int p3, .null]) (st' := [.int p2, .ref 48]) ⟨dX12_account_15, dX12_account_16, trivial⟩ rfl ?_
      refine ms_callvI mB_157 mO_157 (by omega) dX12_account_17 mQ_12_148 mC_12_148 mL_149 mO_149 rfl (Nat.le_of_ble_eq_true rfl) (Nat.le_of_ble_eq_true rfl) (gk_48 N) rfl F (fun r2 δ1 F => ?_)
      refine ms_if_ne mB_157 dX12_account_20 (t := 26) rfl (fun c => ?_) (fun c => ?_)
      · have F := F.2 c
        exact F
      · have F := F.1 c
        refine ms_seq mB_157 mO_157 [(.bipush (-2), 2)] (pc' := 25) (L' := [.ref 48, .int p0, .int p1, .int p2, .int p3, .null]) (st' := [.int (-2)]) ⟨dX12_account_23, trivial⟩ rfl ?_
        exact ms_iret mB_157 dX12_account_25 mR_157 ⟨_, rfl, rfl, F⟩
  · have F := F.1 c
    refine ms_seq mB_157 mO_157 [(.bipush (-6), 2)] (pc' := 9) (L' := [.ref 48, .int p0, .int p1, .int p2, .int p3, .null]) (st' := [.int (-6)]) ⟨dX12_account_7, trivial⟩ rfl ?_
    exact ms_iret mB_157 dX12_account_9 mR_157 ⟨_, rfl, rfl, F⟩
set_option maxRecDepth 100000 in
theorem q12_account_26 {N d : Nat} (hd : 5 ≤ d) {l1 l2 l3 l4 : Int32} {δ : mi_D} {Q : Int32 → mi_D → Prop} (F : (mi_wI N (d - 1) 148 0 [.long (Int32.toInt64 l1), .null, .long 1, .null, .long 9999, .null] [] δ (fun r2 δ1 => ((r2 = 0 → Q (-3) δ1) ∧ (¬ r2 = 0 → (mi_wI N (d - 1) 148 0 [.long (Int32.toInt64 l2), .null, .long 0, .null, .long 4, .null] [] δ1 (fun r4 δ3 => ((r4 = 0 → Q (-3) δ3) ∧ (¬ r4 = 0 → ((l3 = (-1) → mi_wI N d 157 90 [.ref 48, .int l1, .int l2, .int l3, .int l4, .null] [] δ3 Q) ∧ (¬ l3 = (-1) → (mi_ix l3 60 = true ∧ (((δ3.2.1 52 (Int32.toNatClampNeg l3)) = 0 → Q (-4) δ3) ∧ (¬ (δ3.2.1 52 (Int32.toNatClampNeg l3)) = 0 → (mi_ix l3 60 = true ∧ (((δ3.2.1 50 (Int32.toNatClampNeg l3)) = l2 → (mi_ix l3 60 = true ∧ (((δ3.2.1 53 (Int32.toNatClampNeg l3)) = 5 → Q (-4) δ3) ∧ (¬ (δ3.2.1 53 (Int32.toNatClampNeg l3)) = 5 → mi_wI N d 157 90 [.ref 48, .int l1, .int l2, .int l3, .int l4, .null] [] δ3 Q)))) ∧ (¬ (δ3.2.1 50 (Int32.toNatClampNeg l3)) = l2 → Q (-4) δ3))))))))))))))))) : mi_wI N d 157 26 [.ref 48, .int l1, .int l2, .int l3, .int l4, .null] [] δ Q := by
  unfold mi_wI
  refine ms_seq mB_157 mO_157 [(.iload_n 1, 1), (.i2l, 1), (.lconst 1, 1), (.ldc2_w 152, 3)] (pc' := 32) (L' := [.ref 48, .int l1, .int l2, .int l3, .int l4, .null]) (st' := [.long 9999, .long 1, .long (Int32.toInt64 l1)]) ⟨dX12_account_26, dX12_account_27, dX12_account_28, dX12_account_29, trivial⟩ rfl ?_
  refine ms_callsI mB_157 mO_157 (by omega) dX12_account_32 mQ_12_116 mC_12_116 mL_148 (by decide) rfl (Nat.le_of_ble_eq_true rfl) (Nat.le_of_ble_eq_true rfl) rfl F (fun r2 δ1 F => ?_)
  refine ms_if_eq mB_157 dX12_account_35 (t := 50) rfl (fun c => ?_) (fun c => ?_)
  · have F := F.1 c
    refine ms_seq mB_157 mO_157 [(.bipush (-3), 2)] (pc' := 52) (L' := [.ref 48, .int l1, .int l2, .int l3, .int l4, .null]) (st' := [.int (-3)]) ⟨dX12_account_50, trivial⟩ rfl ?_
    exact ms_iret mB_157 dX12_account_52 mR_157 ⟨_, rfl, rfl, F⟩
  · have F := F.2 c
    refine ms_seq mB_157 mO_157 [(.iload_n 2, 1), (.i2l, 1), (.lconst 0, 1), (.ldc2_w 154, 3)] (pc' := 44) (L' := [.ref 48, .int l1, .int l2, .int l3, .int l4, .null]) (st' := [.long 4, .long 0, .long (Int32.toInt64 l2)]) ⟨dX12_account_38, dX12_account_39, dX12_account_40, dX12_account_41, trivial⟩ rfl ?_
    refine ms_callsI mB_157 mO_157 (by omega) dX12_account_44 mQ_12_116 mC_12_116 mL_148 (by decide) rfl (Nat.le_of_ble_eq_true rfl) (Nat.le_of_ble_eq_true rfl) rfl F (fun r4 δ3 F => ?_)
    refine ms_if_ne mB_157 dX12_account_47 (t := 53) rfl (fun c => ?_) (fun c => ?_)
    · have F := F.2 c
      refine ms_seq mB_157 mO_157 [(.iload_n 3, 1), (.iconst (-1), 1)] (pc' := 55) (L' := [.ref 48, .int l1, .int l2, .int l3, .int l4, .null]) (st' := [.int (-1), .int l3]) ⟨dX12_account_53, dX12_account_54, trivial⟩ rfl ?_
      refine ms_icmp_eq mB_157 dX12_account_55 (t := 90) rfl (fun c => ?_) (fun c => ?_)
      · have F := F.1 c
        exact F
      · have F := F.2 c
        refine ms_seq mB_157 mO_157 [(.aload_n 0, 1)] (pc' := 59) (L' := [.ref 48, .int l1, .int l2, .int l3, .int l4, .null]) (st' := [.ref 48]) ⟨dX12_account_58, trivial⟩ rfl ?_
        refine ms_getA mB_157 mO_157 dX12_account_59 mF_12_23 (gk_48 N) rfl (b := 52) (gr_48_6 N) ?_
        refine ms_seq mB_157 mO_157 [(.iload_n 3, 1)] (pc' := 63) (L' := [.ref 48, .int l1, .int l2, .int l3, .int l4, .null]) (st' := [.int l3, .ref 52]) ⟨dX12_account_62, trivial⟩ rfl ?_
        have G := F.1
        have F := F.2
        refine ms_bald mB_157 dX12_account_63 (gk_52 N) (by rw [gl_52 N]; exact G) ?_
        refine ms_if_eq mB_157 dX12_account_64 (t := 87) rfl (fun c => ?_) (fun c => ?_)
        · have F := F.1 c
          refine ms_seq mB_157 mO_157 [(.bipush (-4), 2)] (pc' := 89) (L' := [.ref 48, .int l1, .int l2, .int l3, .int l4, .null]) (st' := [.int (-4)]) ⟨dX12_account_87, trivial⟩ rfl ?_
          exact ms_iret mB_157 dX12_account_89 mR_157 ⟨_, rfl, rfl, F⟩
        · have F := F.2 c
          refine ms_seq mB_157 mO_157 [(.aload_n 0, 1)] (pc' := 68) (L' := [.ref 48, .int l1, .int l2, .int l3, .int l4, .null]) (st' := [.ref 48]) ⟨dX12_account_67, trivial⟩ rfl ?_
          refine ms_getA mB_157 mO_157 dX12_account_68 mF_12_17 (gk_48 N) rfl (b := 50) (gr_48_4 N) ?_
          refine ms_seq mB_157 mO_157 [(.iload_n 3, 1)] (pc' := 72) (L' := [.ref 48, .int l1, .int l2, .int l3, .int l4, .null]) (st' := [.int l3, .ref 50]) ⟨dX12_account_71, trivial⟩ rfl ?_
          have G := F.1
          have F := F.2
          refine ms_iald mB_157 dX12_account_72 (Or.inl (gk_50 N)) (by rw [gl_50 N]; exact G) ?_
          refine ms_seq mB_157 mO_157 [(.iload_n 2, 1)] (pc' := 74) (L' := [.ref 48, .int l1, .int l2, .int l3, .int l4, .null]) (st' := [.int l2, .int (δ3.2.1 50 (Int32.toNatClampNeg l3))]) ⟨dX12_account_73, trivial⟩ rfl ?_
          refine ms_icmp_ne mB_157 dX12_account_74 (t := 87) rfl (fun c => ?_) (fun c => ?_)
          · have F := F.2 c
            refine ms_seq mB_157 mO_157 [(.bipush (-4), 2)] (pc' := 89) (L' := [.ref 48, .int l1, .int l2, .int l3, .int l4, .null]) (st' := [.int (-4)]) ⟨dX12_account_87, trivial⟩ rfl ?_
            exact ms_iret mB_157 dX12_account_89 mR_157 ⟨_, rfl, rfl, F⟩
          · have F := F.1 c
            refine ms_seq mB_157 mO_157 [(.aload_n 0, 1)] (pc' := 78) (L' := [.ref 48, .int l1, .int l2, .int l3, .int l4, .null]) (st' := [.ref 48]) ⟨dX12_account_77, trivial⟩ rfl ?_
            refine ms_getA mB_157 mO_157 dX12_account_78 mF_12_27 (gk_48 N) rfl (b := 53) (gr_48_7 N) ?_
            refine ms_seq mB_157 mO_157 [(.iload_n 3, 1)] (pc' := 82) (L' := [.ref 48, .int l1, .int l2, .int l3, .int l4, .null]) (st' := [.int l3, .ref 53]) ⟨dX12_account_81, trivial⟩ rfl ?_
            have G := F.1
            have F := F.2
            refine ms_iald mB_157 dX12_account_82 (Or.inl (gk_53 N)) (by rw [gl_53 N]; exact G) ?_
            refine ms_seq mB_157 mO_157 [(.iconst 5, 1)] (pc' := 84) (L' := [.ref 48, .int l1, .int l2, .int l3, .int l4, .null]) (st' := [.int 5, .int (δ3.2.1 53 (Int32.toNatClampNeg l3))]) ⟨dX12_account_83, trivial⟩ rfl ?_
            refine ms_icmp_ne mB_157 dX12_account_84 (t := 90) rfl (fun c => ?_) (fun c => ?_)
            · have F := F.2 c
              exact F
            · have F := F.1 c
              refine ms_seq mB_157 mO_157 [(.bipush (-4), 2)] (pc' := 89) (L' := [.ref 48, .int l1, .int l2, .int l3, .int l4, .null]) (st' := [.int (-4)]) ⟨dX12_account_87, trivial⟩ rfl ?_
              exact ms_iret mB_157 dX12_account_89 mR_157 ⟨_, rfl, rfl, F⟩
    · have F := F.1 c
      refine ms_seq mB_157 mO_157 [(.bipush (-3), 2)] (pc' := 52) (L' := [.ref 48, .int l1, .int l2, .int l3, .int l4, .null]) (st' := [.int (-3)]) ⟨dX12_account_50, trivial⟩ rfl ?_
      exact ms_iret mB_157 dX12_account_52 mR_157 ⟨_, rfl, rfl, F⟩
set_option maxRecDepth 100000 in
theorem q12_account_90 {N d : Nat} (hd : 5 ≤ d) {l1 l2 l3 l4 : Int32} {δ : mi_D} {Q : Int32 → mi_D → Prop} (F : (mi_wI N (d - 1) 156 0 [.ref 48, .int l1, .null, .null] [] δ (fun r2 δ1 => ((r2 = 0 → (mi_wV N (d - 1) 150 0 [.ref 48] [] δ1 (fun δ3 => (mi_wV N (d - 1) 151 0 [.ref 48, .long (Int32.toInt64 l1), .null, .null, .null] [] δ3 (fun δ4 => (mi_wV N (d - 1) 151 0 [.ref 48, .long (Int32.toInt64 l2), .null, .null, .null] [] δ4 (fun δ5 => (mi_wV N (d - 1) 151 0 [.ref 48, .long (Int32.toInt64 l3), .null, .null, .null] [] δ5 (fun δ6 => ((l4 = 0 → mi_wI N d 157 134 [.ref 48, .int l1, .int l2, .int l3, .int l4, .null] [.long 0, .ref 48] δ6 Q) ∧ (¬ l4 = 0 → mi_wI N d 157 134 [.ref 48, .int l1, .int l2, .int l3, .int l4, .null] [.long 1, .ref 48] δ6 Q))))))))))) ∧ (¬ r2 = 0 → Q (-5) δ1))))) : mi_wI N d 157 90 [.ref 48, .int l1, .int l2, .int l3, .int l4, .null] [] δ Q := by
  unfold mi_wI
  refine ms_seq mB_157 mO_157 [(.aload_n 0, 1), (.iload_n 1, 1)] (pc' := 92) (L' := [.ref 48, .int l1, .int l2, .int l3, .int l4, .null]) (st' := [.int l1, .ref 48]) ⟨dX12_account_90, dX12_account_91, trivial⟩ rfl ?_
  refine ms_callvI mB_157 mO_157 (by omega) dX12_account_92 mQ_12_156 mC_12_156 mL_156 mO_156 rfl (Nat.le_of_ble_eq_true rfl) (Nat.le_of_ble_eq_true rfl) (gk_48 N) rfl F (fun r2 δ1 F => ?_)
  refine ms_if_eq mB_157 dX12_account_95 (t := 101) rfl (fun c => ?_) (fun c => ?_)
  · have F := F.1 c
    refine ms_seq mB_157 mO_157 [(.aload_n 0, 1)] (pc' := 102) (L' := [.ref 48, .int l1, .int l2, .int l3, .int l4, .null]) (st' := [.ref 48]) ⟨dX12_account_101, trivial⟩ rfl ?_
    refine ms_callvV mB_157 mO_157 (by omega) dX12_account_102 mQ_12_159 mC_12_159 mL_150 mO_150 rfl (Nat.le_of_ble_eq_true rfl) (Nat.le_of_ble_eq_true rfl) (gk_48 N) rfl F (fun δ3 F => ?_)
    refine ms_seq mB_157 mO_157 [(.aload_n 0, 1), (.iload_n 1, 1), (.i2l, 1)] (pc' := 108) (L' := [.ref 48, .int l1, .int l2, .int l3, .int l4, .null]) (st' := [.long (Int32.toInt64 l1), .ref 48]) ⟨dX12_account_105, dX12_account_106, dX12_account_107, trivial⟩ rfl ?_
    refine ms_callvV mB_157 mO_157 (by omega) dX12_account_108 mQ_12_162 mC_12_162 mL_151 mO_151 rfl (Nat.le_of_ble_eq_true rfl) (Nat.le_of_ble_eq_true rfl) (gk_48 N) rfl F (fun δ4 F => ?_)
    refine ms_seq mB_157 mO_157 [(.aload_n 0, 1), (.iload_n 2, 1), (.i2l, 1)] (pc' := 114) (L' := [.ref 48, .int l1, .int l2, .int l3, .int l4, .null]) (st' := [.long (Int32.toInt64 l2), .ref 48]) ⟨dX12_account_111, dX12_account_112, dX12_account_113, trivial⟩ rfl ?_
    refine ms_callvV mB_157 mO_157 (by omega) dX12_account_114 mQ_12_162 mC_12_162 mL_151 mO_151 rfl (Nat.le_of_ble_eq_true rfl) (Nat.le_of_ble_eq_true rfl) (gk_48 N) rfl F (fun δ5 F => ?_)
    refine ms_seq mB_157 mO_157 [(.aload_n 0, 1), (.iload_n 3, 1), (.i2l, 1)] (pc' := 120) (L' := [.ref 48, .int l1, .int l2, .int l3, .int l4, .null]) (st' := [.long (Int32.toInt64 l3), .ref 48]) ⟨dX12_account_117, dX12_account_118, dX12_account_119, trivial⟩ rfl ?_
    refine ms_callvV mB_157 mO_157 (by omega) dX12_account_120 mQ_12_162 mC_12_162 mL_151 mO_151 rfl (Nat.le_of_ble_eq_true rfl) (Nat.le_of_ble_eq_true rfl) (gk_48 N) rfl F (fun δ6 F => ?_)
    refine ms_seq mB_157 mO_157 [(.aload_n 0, 1), (.iload 4, 2)] (pc' := 126) (L' := [.ref 48, .int l1, .int l2, .int l3, .int l4, .null]) (st' := [.int l4, .ref 48]) ⟨dX12_account_123, dX12_account_124, trivial⟩ rfl ?_
    refine ms_if_eq mB_157 dX12_account_126 (t := 133) rfl (fun c => ?_) (fun c => ?_)
    · have F := F.1 c
      refine ms_seq mB_157 mO_157 [(.lconst 0, 1)] (pc' := 134) (L' := [.ref 48, .int l1, .int l2, .int l3, .int l4, .null]) (st' := [.long 0, .ref 48]) ⟨dX12_account_133, trivial⟩ rfl ?_
      exact F
    · have F := F.2 c
      refine ms_seq mB_157 mO_157 [(.lconst 1, 1)] (pc' := 130) (L' := [.ref 48, .int l1, .int l2, .int l3, .int l4, .null]) (st' := [.long 1, .ref 48]) ⟨dX12_account_129, trivial⟩ rfl ?_
      refine ms_goto mB_157 dX12_account_130 (t := 134) rfl ?_
      exact F
  · have F := F.2 c
    refine ms_seq mB_157 mO_157 [(.bipush (-5), 2)] (pc' := 100) (L' := [.ref 48, .int l1, .int l2, .int l3, .int l4, .null]) (st' := [.int (-5)]) ⟨dX12_account_98, trivial⟩ rfl ?_
    exact ms_iret mB_157 dX12_account_100 mR_157 ⟨_, rfl, rfl, F⟩
set_option maxRecDepth 100000 in
theorem q12_account_134 {N d : Nat} (hd : 5 ≤ d) {l1 l2 l3 l4 : Int32} {s1 : Int64} {δ : mi_D} {Q : Int32 → mi_D → Prop} (F : (mi_wV N (d - 1) 151 0 [.ref 48, .long s1, .null, .null, .null] [] δ (fun δ1 => (((δ1.1 48 2) = 60 → Q (-13) δ1) ∧ (¬ (δ1.1 48 2) = 60 → (mi_wI N (d - 1) 152 0 [.ref 48] [] δ1 (fun r3 δ2 => ((r3 = 0 → Q (-13) δ2) ∧ (¬ r3 = 0 → (∀ x4 : Int32, x4 = (δ2.1 48 2) → (mi_ix x4 60 = true ∧ (∀ δ5 : mi_D, δ5 = mi_setA δ2 49 (Int32.toNatClampNeg x4) l1 → (mi_ix x4 60 = true ∧ (∀ δ6 : mi_D, δ6 = mi_setA δ5 50 (Int32.toNatClampNeg x4) l2 → (mi_ix x4 60 = true ∧ (∀ δ7 : mi_D, δ7 = mi_setA δ6 51 (Int32.toNatClampNeg x4) l3 → (mi_ix x4 60 = true ∧ ((l4 = 0 ∨ l4 = 1) ∧ (∀ δ8 : mi_D, δ8 = mi_setA δ7 52 (Int32.toNatClampNeg x4) l4 → ((l3 = (-1) → mi_wI N d 157 218 [.ref 48, .int l1, .int l2, .int l3, .int l4, .int x4] [.int 0, .int x4, .ref 53] δ8 Q) ∧ (¬ l3 = (-1) → (mi_ix l3 60 = true ∧ mi_wI N d 157 218 [.ref 48, .int l1, .int l2, .int l3, .int l4, .int x4] [.int ((δ8.2.1 53 (Int32.toNatClampNeg l3)) + 1), .int x4, .ref 53] δ8 Q)))))))))))))))))))))) : mi_wI N d 157 134 [.ref 48, .int l1, .int l2, .int l3, .int l4, .null] [.long s1, .ref 48] δ Q := by
  unfold mi_wI
  refine ms_callvV mB_157 mO_157 (by omega) dX12_account_134 mQ_12_162 mC_12_162 mL_151 mO_151 rfl (Nat.le_of_ble_eq_true rfl) (Nat.le_of_ble_eq_true rfl) (gk_48 N) rfl F (fun δ1 F => ?_)
  refine ms_seq mB_157 mO_157 [(.aload_n 0, 1)] (pc' := 138) (L' := [.ref 48, .int l1, .int l2, .int l3, .int l4, .null]) (st' := [.ref 48]) ⟨dX12_account_137, trivial⟩ rfl ?_
  refine ms_getI mB_157 mO_157 dX12_account_138 mF_12_113 (gk_48 N) (Or.inl rfl) ?_
  refine ms_seq mB_157 mO_157 [(.bipush 60, 2)] (pc' := 143) (L' := [.ref 48, .int l1, .int l2, .int l3, .int l4, .null]) (st' := [.int 60, .int (δ1.1 48 2)]) ⟨dX12_account_141, trivial⟩ rfl ?_
  refine ms_icmp_eq mB_157 dX12_account_143 (t := 153) rfl (fun c => ?_) (fun c => ?_)
  · have F := F.1 c
    refine ms_seq mB_157 mO_157 [(.bipush (-13), 2)] (pc' := 155) (L' := [.ref 48, .int l1, .int l2, .int l3, .int l4, .null]) (st' := [.int (-13)]) ⟨dX12_account_153, trivial⟩ rfl ?_
    exact ms_iret mB_157 dX12_account_155 mR_157 ⟨_, rfl, rfl, F⟩
  · have F := F.2 c
    refine ms_seq mB_157 mO_157 [(.aload_n 0, 1)] (pc' := 147) (L' := [.ref 48, .int l1, .int l2, .int l3, .int l4, .null]) (st' := [.ref 48]) ⟨dX12_account_146, trivial⟩ rfl ?_
    refine ms_callvI mB_157 mO_157 (by omega) dX12_account_147 mQ_12_166 mC_12_166 mL_152 mO_152 rfl (Nat.le_of_ble_eq_true rfl) (Nat.le_of_ble_eq_true rfl) (gk_48 N) rfl F (fun r3 δ2 F => ?_)
    refine ms_if_ne mB_157 dX12_account_150 (t := 156) rfl (fun c => ?_) (fun c => ?_)
    · have F := F.2 c
      refine ms_seq mB_157 mO_157 [(.aload_n 0, 1)] (pc' := 157) (L' := [.ref 48, .int l1, .int l2, .int l3, .int l4, .null]) (st' := [.ref 48]) ⟨dX12_account_156, trivial⟩ rfl ?_
      refine ms_getI mB_157 mO_157 dX12_account_157 mF_12_113 (gk_48 N) (Or.inl rfl) ?_
      refine mr_topi (fun x4 e_x4 => ?_)
      have F := F x4 e_x4
      refine ms_seq mB_157 mO_157 [(.istore 5, 2), (.aload_n 0, 1)] (pc' := 163) (L' := [.ref 48, .int l1, .int l2, .int l3, .int l4, .int x4]) (st' := [.ref 48]) ⟨dX12_account_160, dX12_account_162, trivial⟩ rfl ?_
      refine ms_getA mB_157 mO_157 dX12_account_163 mF_12_13 (gk_48 N) rfl (b := 49) (gr_48_3 N) ?_
      refine ms_seq mB_157 mO_157 [(.iload 5, 2), (.iload_n 1, 1)] (pc' := 169) (L' := [.ref 48, .int l1, .int l2, .int l3, .int l4, .int x4]) (st' := [.int l1, .int x4, .ref 49]) ⟨dX12_account_166, dX12_account_168, trivial⟩ rfl ?_
      have G := F.1
      have F := F.2
      refine ms_iast mB_157 dX12_account_169 (gk_49 N) (by rw [gl_49 N]; exact G) ?_
      refine mr_st (fun δ5 e_δ5 => ?_)
      have F := F δ5 e_δ5
      refine ms_seq mB_157 mO_157 [(.aload_n 0, 1)] (pc' := 171) (L' := [.ref 48, .int l1, .int l2, .int l3, .int l4, .int x4]) (st' := [.ref 48]) ⟨dX12_account_170, trivial⟩ rfl ?_
      refine ms_getA mB_157 mO_157 dX12_account_171 mF_12_17 (gk_48 N) rfl (b := 50) (gr_48_4 N) ?_
      refine ms_seq mB_157 mO_157 [(.iload 5, 2), (.iload_n 2, 1)] (pc' := 177) (L' := [.ref 48, .int l1, .int l2, .int l3, .int l4, .int x4]) (st' := [.int l2, .int x4, .ref 50]) ⟨dX12_account_174, dX12_account_176, trivial⟩ rfl ?_
      have G := F.1
      have F := F.2
      refine ms_iast mB_157 dX12_account_177 (gk_50 N) (by rw [gl_50 N]; exact G) ?_
      refine mr_st (fun δ6 e_δ6 => ?_)
      have F := F δ6 e_δ6
      refine ms_seq mB_157 mO_157 [(.aload_n 0, 1)] (pc' := 179) (L' := [.ref 48, .int l1, .int l2, .int l3, .int l4, .int x4]) (st' := [.ref 48]) ⟨dX12_account_178, trivial⟩ rfl ?_
      refine ms_getA mB_157 mO_157 dX12_account_179 mF_12_20 (gk_48 N) rfl (b := 51) (gr_48_5 N) ?_
      refine ms_seq mB_157 mO_157 [(.iload 5, 2), (.iload_n 3, 1)] (pc' := 185) (L' := [.ref 48, .int l1, .int l2, .int l3, .int l4, .int x4]) (st' := [.int l3, .int x4, .ref 51]) ⟨dX12_account_182, dX12_account_184, trivial⟩ rfl ?_
      have G := F.1
      have F := F.2
      refine ms_iast mB_157 dX12_account_185 (gk_51 N) (by rw [gl_51 N]; exact G) ?_
      refine mr_st (fun δ7 e_δ7 => ?_)
      have F := F δ7 e_δ7
      refine ms_seq mB_157 mO_157 [(.aload_n 0, 1)] (pc' := 187) (L' := [.ref 48, .int l1, .int l2, .int l3, .int l4, .int x4]) (st' := [.ref 48]) ⟨dX12_account_186, trivial⟩ rfl ?_
      refine ms_getA mB_157 mO_157 dX12_account_187 mF_12_23 (gk_48 N) rfl (b := 52) (gr_48_6 N) ?_
      refine ms_seq mB_157 mO_157 [(.iload 5, 2), (.iload 4, 2)] (pc' := 194) (L' := [.ref 48, .int l1, .int l2, .int l3, .int l4, .int x4]) (st' := [.int l4, .int x4, .ref 52]) ⟨dX12_account_190, dX12_account_192, trivial⟩ rfl ?_
      have G := F.1
      have F := F.2
      have G2 := F.1
      have F := F.2
      refine ms_bast mB_157 dX12_account_194 (gk_52 N) (by rw [gl_52 N]; exact G) G2 ?_
      refine mr_st (fun δ8 e_δ8 => ?_)
      have F := F δ8 e_δ8
      refine ms_seq mB_157 mO_157 [(.aload_n 0, 1)] (pc' := 196) (L' := [.ref 48, .int l1, .int l2, .int l3, .int l4, .int x4]) (st' := [.ref 48]) ⟨dX12_account_195, trivial⟩ rfl ?_
      refine ms_getA mB_157 mO_157 dX12_account_196 mF_12_27 (gk_48 N) rfl (b := 53) (gr_48_7 N) ?_
      refine ms_seq mB_157 mO_157 [(.iload 5, 2), (.iload_n 3, 1), (.iconst (-1), 1)] (pc' := 203) (L' := [.ref 48, .int l1, .int l2, .int l3, .int l4, .int x4]) (st' := [.int (-1), .int l3, .int x4, .ref 53]) ⟨dX12_account_199, dX12_account_201, dX12_account_202, trivial⟩ rfl ?_
      refine ms_icmp_ne mB_157 dX12_account_203 (t := 210) rfl (fun c => ?_) (fun c => ?_)
      · have F := F.2 c
        refine ms_seq mB_157 mO_157 [(.aload_n 0, 1)] (pc' := 211) (L' := [.ref 48, .int l1, .int l2, .int l3, .int l4, .int x4]) (st' := [.ref 48, .int x4, .ref 53]) ⟨dX12_account_210, trivial⟩ rfl ?_
        refine ms_getA mB_157 mO_157 dX12_account_211 mF_12_27 (gk_48 N) rfl (b := 53) (gr_48_7 N) ?_
        refine ms_seq mB_157 mO_157 [(.iload_n 3, 1)] (pc' := 215) (L' := [.ref 48, .int l1, .int l2, .int l3, .int l4, .int x4]) (st' := [.int l3, .ref 53, .int x4, .ref 53]) ⟨dX12_account_214, trivial⟩ rfl ?_
        have G := F.1
        have F := F.2
        refine ms_iald mB_157 dX12_account_215 (Or.inl (gk_53 N)) (by rw [gl_53 N]; exact G) ?_
        refine ms_seq mB_157 mO_157 [(.iconst 1, 1), (.iadd, 1)] (pc' := 218) (L' := [.ref 48, .int l1, .int l2, .int l3, .int l4, .int x4]) (st' := [.int ((δ8.2.1 53 (Int32.toNatClampNeg l3)) + 1), .int x4, .ref 53]) ⟨dX12_account_216, dX12_account_217, trivial⟩ rfl ?_
        exact F
      · have F := F.1 c
        refine ms_seq mB_157 mO_157 [(.iconst 0, 1)] (pc' := 207) (L' := [.ref 48, .int l1, .int l2, .int l3, .int l4, .int x4]) (st' := [.int 0, .int x4, .ref 53]) ⟨dX12_account_206, trivial⟩ rfl ?_
        refine ms_goto mB_157 dX12_account_207 (t := 218) rfl ?_
        exact F
    · have F := F.1 c
      refine ms_seq mB_157 mO_157 [(.bipush (-13), 2)] (pc' := 155) (L' := [.ref 48, .int l1, .int l2, .int l3, .int l4, .null]) (st' := [.int (-13)]) ⟨dX12_account_153, trivial⟩ rfl ?_
      exact ms_iret mB_157 dX12_account_155 mR_157 ⟨_, rfl, rfl, F⟩
set_option maxRecDepth 100000 in
theorem q12_account_218 {N d : Nat} (hd : 5 ≤ d) {l1 l2 l3 l4 l5 s1 s2 : Int32} {δ : mi_D} {Q : Int32 → mi_D → Prop} (F : (mi_ix s1 60 = true ∧ (∀ δ1 : mi_D, δ1 = mi_setA δ 53 (Int32.toNatClampNeg s1) s2 → (mi_ix l5 60 = true ∧ (∀ δ2 : mi_D, δ2 = mi_setA δ1 54 (Int32.toNatClampNeg l5) 0 → (mi_ix l5 60 = true ∧ (∀ δ3 : mi_D, δ3 = mi_setL δ2 55 (Int32.toNatClampNeg l5) 0 → (∀ δ4 : mi_D, δ4 = mi_setI δ3 48 2 ((δ3.1 48 2) + 1) → (mi_wV N (d - 1) 155 0 [.ref 48, .int 1, .null, .null] [] δ4 (fun δ5 => Q l5 δ5)))))))))) : mi_wI N d 157 218 [.ref 48, .int l1, .int l2, .int l3, .int l4, .int l5] [.int s2, .int s1, .ref 53] δ Q := by
  unfold mi_wI
  have G := F.1
  have F := F.2
  refine ms_iast mB_157 dX12_account_218 (gk_53 N) (by rw [gl_53 N]; exact G) ?_
  refine mr_st (fun δ1 e_δ1 => ?_)
  have F := F δ1 e_δ1
  refine ms_seq mB_157 mO_157 [(.aload_n 0, 1)] (pc' := 220) (L' := [.ref 48, .int l1, .int l2, .int l3, .int l4, .int l5]) (st' := [.ref 48]) ⟨dX12_account_219, trivial⟩ rfl ?_
  refine ms_getA mB_157 mO_157 dX12_account_220 mF_12_30 (gk_48 N) rfl (b := 54) (gr_48_8 N) ?_
  refine ms_seq mB_157 mO_157 [(.iload 5, 2), (.iconst 0, 1)] (pc' := 226) (L' := [.ref 48, .int l1, .int l2, .int l3, .int l4, .int l5]) (st' := [.int 0, .int l5, .ref 54]) ⟨dX12_account_223, dX12_account_225, trivial⟩ rfl ?_
  have G := F.1
  have F := F.2
  refine ms_bast mB_157 dX12_account_226 (gk_54 N) (by rw [gl_54 N]; exact G) (by decide) ?_
  refine mr_st (fun δ2 e_δ2 => ?_)
  have F := F δ2 e_δ2
  refine ms_seq mB_157 mO_157 [(.aload_n 0, 1)] (pc' := 228) (L' := [.ref 48, .int l1, .int l2, .int l3, .int l4, .int l5]) (st' := [.ref 48]) ⟨dX12_account_227, trivial⟩ rfl ?_
  refine ms_getA mB_157 mO_157 dX12_account_228 mF_12_33 (gk_48 N) rfl (b := 55) (gr_48_9 N) ?_
  refine ms_seq mB_157 mO_157 [(.iload 5, 2), (.lconst 0, 1)] (pc' := 234) (L' := [.ref 48, .int l1, .int l2, .int l3, .int l4, .int l5]) (st' := [.long 0, .int l5, .ref 55]) ⟨dX12_account_231, dX12_account_233, trivial⟩ rfl ?_
  have G := F.1
  have F := F.2
  refine ms_last mB_157 dX12_account_234 (gk_55 N) (by rw [gl_55 N]; exact G) ?_
  refine mr_st (fun δ3 e_δ3 => ?_)
  have F := F δ3 e_δ3
  refine ms_seq mB_157 mO_157 [(.aload_n 0, 1), (.dup, 1)] (pc' := 237) (L' := [.ref 48, .int l1, .int l2, .int l3, .int l4, .int l5]) (st' := [.ref 48, .ref 48]) ⟨dX12_account_235, dX12_account_236, trivial⟩ rfl ?_
  refine ms_getI mB_157 mO_157 dX12_account_237 mF_12_113 (gk_48 N) (Or.inl rfl) ?_
  refine ms_seq mB_157 mO_157 [(.iconst 1, 1), (.iadd, 1)] (pc' := 242) (L' := [.ref 48, .int l1, .int l2, .int l3, .int l4, .int l5]) (st' := [.int ((δ3.1 48 2) + 1), .ref 48]) ⟨dX12_account_240, dX12_account_241, trivial⟩ rfl ?_
  refine ms_putI mB_157 mO_157 dX12_account_242 mF_12_113 (gk_48 N) rfl rfl ?_
  refine mr_st (fun δ4 e_δ4 => ?_)
  have F := F δ4 e_δ4
  refine ms_seq mB_157 mO_157 [(.aload_n 0, 1), (.iconst 1, 1)] (pc' := 247) (L' := [.ref 48, .int l1, .int l2, .int l3, .int l4, .int l5]) (st' := [.int 1, .ref 48]) ⟨dX12_account_245, dX12_account_246, trivial⟩ rfl ?_
  refine ms_callvV mB_157 mO_157 (by omega) dX12_account_247 mQ_12_170 mC_12_170 mL_155 mO_155 rfl (Nat.le_of_ble_eq_true rfl) (Nat.le_of_ble_eq_true rfl) (gk_48 N) rfl F (fun δ5 F => ?_)
  refine ms_seq mB_157 mO_157 [(.iload 5, 2)] (pc' := 252) (L' := [.ref 48, .int l1, .int l2, .int l3, .int l4, .int l5]) (st' := [.int l5]) ⟨dX12_account_250, trivial⟩ rfl ?_
  exact ms_iret mB_157 dX12_account_252 mR_157 ⟨_, rfl, rfl, F⟩
set_option maxRecDepth 100000 in
theorem q12_shut_0 {N d : Nat} (hd : 5 ≤ d) {p0 p1 : Int32} {δ : mi_D} {Q : Int32 → mi_D → Prop} (F : (((δ.1 48 0) = 0 → Q (-6) δ) ∧ (¬ (δ.1 48 0) = 0 → (mi_wI N (d - 1) 149 0 [.ref 48, .int p0] [] δ (fun r2 δ1 => ((r2 = 0 → Q (-2) δ1) ∧ (¬ r2 = 0 → (mi_ix p0 60 = true ∧ (((δ1.2.1 52 (Int32.toNatClampNeg p0)) = 0 → (mi_ix p0 60 = true ∧ (((δ1.2.1 54 (Int32.toNatClampNeg p0)) = p1 → Q (-6) δ1) ∧ (¬ (δ1.2.1 54 (Int32.toNatClampNeg p0)) = p1 → (mi_wV N (d - 1) 150 0 [.ref 48] [] δ1 (fun δ3 => (mi_wV N (d - 1) 151 0 [.ref 48, .long (Int32.toInt64 p0), .null, .null, .null] [] δ3 (fun δ4 => ((p1 = 0 → mi_wI N d 158 66 [.ref 48, .int p0, .int p1] [.long 0, .ref 48] δ4 Q) ∧ (¬ p1 = 0 → mi_wI N d 158 66 [.ref 48, .int p0, .int p1] [.long 1, .ref 48] δ4 Q)))))))))) ∧ (¬ (δ1.2.1 52 (Int32.toNatClampNeg p0)) = 0 → Q (-4) δ1)))))))))) : mi_wI N d 158 0 [.ref 48, .int p0, .int p1] [] δ Q := by
  unfold mi_wI
  refine ms_seq mB_158 mO_158 [(.aload_n 0, 1)] (pc' := 1) (L' := [.ref 48, .int p0, .int p1]) (st' := [.ref 48]) ⟨dX12_shut_0, trivial⟩ rfl ?_
  refine ms_getI mB_158 mO_158 dX12_shut_1 mF_12_7 (gk_48 N) (Or.inr rfl) ?_
  refine ms_if_ne mB_158 dX12_shut_4 (t := 10) rfl (fun c => ?_) (fun c => ?_)
  · have F := F.2 c
    refine ms_seq mB_158 mO_158 [(.aload_n 0, 1), (.iload_n 1, 1)] (pc' := 12) (L' := [.ref 48, .int p0, .int p1]) (st' := [.int p0, .ref 48]) ⟨dX12_shut_10, dX12_shut_11, trivial⟩ rfl ?_
    refine ms_callvI mB_158 mO_158 (by omega) dX12_shut_12 mQ_12_148 mC_12_148 mL_149 mO_149 rfl (Nat.le_of_ble_eq_true rfl) (Nat.le_of_ble_eq_true rfl) (gk_48 N) rfl F (fun r2 δ1 F => ?_)
    refine ms_if_ne mB_158 dX12_shut_15 (t := 21) rfl (fun c => ?_) (fun c => ?_)
    · have F := F.2 c
      refine ms_seq mB_158 mO_158 [(.aload_n 0, 1)] (pc' := 22) (L' := [.ref 48, .int p0, .int p1]) (st' := [.ref 48]) ⟨dX12_shut_21, trivial⟩ rfl ?_
      refine ms_getA mB_158 mO_158 dX12_shut_22 mF_12_23 (gk_48 N) rfl (b := 52) (gr_48_6 N) ?_
      refine ms_seq mB_158 mO_158 [(.iload_n 1, 1)] (pc' := 26) (L' := [.ref 48, .int p0, .int p1]) (st' := [.int p0, .ref 52]) ⟨dX12_shut_25, trivial⟩ rfl ?_
      have G := F.1
      have F := F.2
      refine ms_bald mB_158 dX12_shut_26 (gk_52 N) (by rw [gl_52 N]; exact G) ?_
      refine ms_if_eq mB_158 dX12_shut_27 (t := 33) rfl (fun c => ?_) (fun c => ?_)
      · have F := F.1 c
        refine ms_seq mB_158 mO_158 [(.aload_n 0, 1)] (pc' := 34) (L' := [.ref 48, .int p0, .int p1]) (st' := [.ref 48]) ⟨dX12_shut_33, trivial⟩ rfl ?_
        refine ms_getA mB_158 mO_158 dX12_shut_34 mF_12_30 (gk_48 N) rfl (b := 54) (gr_48_8 N) ?_
        refine ms_seq mB_158 mO_158 [(.iload_n 1, 1)] (pc' := 38) (L' := [.ref 48, .int p0, .int p1]) (st' := [.int p0, .ref 54]) ⟨dX12_shut_37, trivial⟩ rfl ?_
        have G := F.1
        have F := F.2
        refine ms_bald mB_158 dX12_shut_38 (gk_54 N) (by rw [gl_54 N]; exact G) ?_
        refine ms_seq mB_158 mO_158 [(.iload_n 2, 1)] (pc' := 40) (L' := [.ref 48, .int p0, .int p1]) (st' := [.int p1, .int (δ1.2.1 54 (Int32.toNatClampNeg p0))]) ⟨dX12_shut_39, trivial⟩ rfl ?_
        refine ms_icmp_ne mB_158 dX12_shut_40 (t := 46) rfl (fun c => ?_) (fun c => ?_)
        · have F := F.2 c
          refine ms_seq mB_158 mO_158 [(.aload_n 0, 1)] (pc' := 47) (L' := [.ref 48, .int p0, .int p1]) (st' := [.ref 48]) ⟨dX12_shut_46, trivial⟩ rfl ?_
          refine ms_callvV mB_158 mO_158 (by omega) dX12_shut_47 mQ_12_159 mC_12_159 mL_150 mO_150 rfl (Nat.le_of_ble_eq_true rfl) (Nat.le_of_ble_eq_true rfl) (gk_48 N) rfl F (fun δ3 F => ?_)
          refine ms_seq mB_158 mO_158 [(.aload_n 0, 1), (.iload_n 1, 1), (.i2l, 1)] (pc' := 53) (L' := [.ref 48, .int p0, .int p1]) (st' := [.long (Int32.toInt64 p0), .ref 48]) ⟨dX12_shut_50, dX12_shut_51, dX12_shut_52, trivial⟩ rfl ?_
          refine ms_callvV mB_158 mO_158 (by omega) dX12_shut_53 mQ_12_162 mC_12_162 mL_151 mO_151 rfl (Nat.le_of_ble_eq_true rfl) (Nat.le_of_ble_eq_true rfl) (gk_48 N) rfl F (fun δ4 F => ?_)
          refine ms_seq mB_158 mO_158 [(.aload_n 0, 1), (.iload_n 2, 1)] (pc' := 58) (L' := [.ref 48, .int p0, .int p1]) (st' := [.int p1, .ref 48]) ⟨dX12_shut_56, dX12_shut_57, trivial⟩ rfl ?_
          refine ms_if_eq mB_158 dX12_shut_58 (t := 65) rfl (fun c => ?_) (fun c => ?_)
          · have F := F.1 c
            refine ms_seq mB_158 mO_158 [(.lconst 0, 1)] (pc' := 66) (L' := [.ref 48, .int p0, .int p1]) (st' := [.long 0, .ref 48]) ⟨dX12_shut_65, trivial⟩ rfl ?_
            exact F
          · have F := F.2 c
            refine ms_seq mB_158 mO_158 [(.lconst 1, 1)] (pc' := 62) (L' := [.ref 48, .int p0, .int p1]) (st' := [.long 1, .ref 48]) ⟨dX12_shut_61, trivial⟩ rfl ?_
            refine ms_goto mB_158 dX12_shut_62 (t := 66) rfl ?_
            exact F
        · have F := F.1 c
          refine ms_seq mB_158 mO_158 [(.bipush (-6), 2)] (pc' := 45) (L' := [.ref 48, .int p0, .int p1]) (st' := [.int (-6)]) ⟨dX12_shut_43, trivial⟩ rfl ?_
          exact ms_iret mB_158 dX12_shut_45 mR_158 ⟨_, rfl, rfl, F⟩
      · have F := F.2 c
        refine ms_seq mB_158 mO_158 [(.bipush (-4), 2)] (pc' := 32) (L' := [.ref 48, .int p0, .int p1]) (st' := [.int (-4)]) ⟨dX12_shut_30, trivial⟩ rfl ?_
        exact ms_iret mB_158 dX12_shut_32 mR_158 ⟨_, rfl, rfl, F⟩
    · have F := F.1 c
      refine ms_seq mB_158 mO_158 [(.bipush (-2), 2)] (pc' := 20) (L' := [.ref 48, .int p0, .int p1]) (st' := [.int (-2)]) ⟨dX12_shut_18, trivial⟩ rfl ?_
      exact ms_iret mB_158 dX12_shut_20 mR_158 ⟨_, rfl, rfl, F⟩
  · have F := F.1 c
    refine ms_seq mB_158 mO_158 [(.bipush (-6), 2)] (pc' := 9) (L' := [.ref 48, .int p0, .int p1]) (st' := [.int (-6)]) ⟨dX12_shut_7, trivial⟩ rfl ?_
    exact ms_iret mB_158 dX12_shut_9 mR_158 ⟨_, rfl, rfl, F⟩
set_option maxRecDepth 100000 in
theorem q12_shut_66 {N d : Nat} (hd : 5 ≤ d) {l1 l2 : Int32} {s1 : Int64} {δ : mi_D} {Q : Int32 → mi_D → Prop} (F : (mi_wV N (d - 1) 151 0 [.ref 48, .long s1, .null, .null, .null] [] δ (fun δ1 => (mi_wI N (d - 1) 152 0 [.ref 48] [] δ1 (fun r3 δ2 => ((r3 = 0 → Q (-13) δ2) ∧ (¬ r3 = 0 → (mi_ix l1 60 = true ∧ ((l2 = 0 ∨ l2 = 1) ∧ (∀ δ4 : mi_D, δ4 = mi_setA δ2 54 (Int32.toNatClampNeg l1) l2 → (mi_wV N (d - 1) 155 0 [.ref 48, .int 2, .null, .null] [] δ4 (fun δ5 => ((l2 = 0 → Q 1 δ5) ∧ (¬ l2 = 0 → Q 0 δ5)))))))))))))) : mi_wI N d 158 66 [.ref 48, .int l1, .int l2] [.long s1, .ref 48] δ Q := by
  unfold mi_wI
  refine ms_callvV mB_158 mO_158 (by omega) dX12_shut_66 mQ_12_162 mC_12_162 mL_151 mO_151 rfl (Nat.le_of_ble_eq_true rfl) (Nat.le_of_ble_eq_true rfl) (gk_48 N) rfl F (fun δ1 F => ?_)
  refine ms_seq mB_158 mO_158 [(.aload_n 0, 1)] (pc' := 70) (L' := [.ref 48, .int l1, .int l2]) (st' := [.ref 48]) ⟨dX12_shut_69, trivial⟩ rfl ?_
  refine ms_callvI mB_158 mO_158 (by omega) dX12_shut_70 mQ_12_166 mC_12_166 mL_152 mO_152 rfl (Nat.le_of_ble_eq_true rfl) (Nat.le_of_ble_eq_true rfl) (gk_48 N) rfl F (fun r3 δ2 F => ?_)
  refine ms_if_ne mB_158 dX12_shut_73 (t := 79) rfl (fun c => ?_) (fun c => ?_)
  · have F := F.2 c
    refine ms_seq mB_158 mO_158 [(.aload_n 0, 1)] (pc' := 80) (L' := [.ref 48, .int l1, .int l2]) (st' := [.ref 48]) ⟨dX12_shut_79, trivial⟩ rfl ?_
    refine ms_getA mB_158 mO_158 dX12_shut_80 mF_12_30 (gk_48 N) rfl (b := 54) (gr_48_8 N) ?_
    refine ms_seq mB_158 mO_158 [(.iload_n 1, 1), (.iload_n 2, 1)] (pc' := 85) (L' := [.ref 48, .int l1, .int l2]) (st' := [.int l2, .int l1, .ref 54]) ⟨dX12_shut_83, dX12_shut_84, trivial⟩ rfl ?_
    have G := F.1
    have F := F.2
    have G2 := F.1
    have F := F.2
    refine ms_bast mB_158 dX12_shut_85 (gk_54 N) (by rw [gl_54 N]; exact G) G2 ?_
    refine mr_st (fun δ4 e_δ4 => ?_)
    have F := F δ4 e_δ4
    refine ms_seq mB_158 mO_158 [(.aload_n 0, 1), (.iconst 2, 1)] (pc' := 88) (L' := [.ref 48, .int l1, .int l2]) (st' := [.int 2, .ref 48]) ⟨dX12_shut_86, dX12_shut_87, trivial⟩ rfl ?_
    refine ms_callvV mB_158 mO_158 (by omega) dX12_shut_88 mQ_12_170 mC_12_170 mL_155 mO_155 rfl (Nat.le_of_ble_eq_true rfl) (Nat.le_of_ble_eq_true rfl) (gk_48 N) rfl F (fun δ5 F => ?_)
    refine ms_seq mB_158 mO_158 [(.iload_n 2, 1)] (pc' := 92) (L' := [.ref 48, .int l1, .int l2]) (st' := [.int l2]) ⟨dX12_shut_91, trivial⟩ rfl ?_
    refine ms_if_eq mB_158 dX12_shut_92 (t := 99) rfl (fun c => ?_) (fun c => ?_)
    · have F := F.1 c
      refine ms_seq mB_158 mO_158 [(.iconst 1, 1)] (pc' := 100) (L' := [.ref 48, .int l1, .int l2]) (st' := [.int 1]) ⟨dX12_shut_99, trivial⟩ rfl ?_
      exact ms_iret mB_158 dX12_shut_100 mR_158 ⟨_, rfl, rfl, F⟩
    · have F := F.2 c
      refine ms_seq mB_158 mO_158 [(.iconst 0, 1)] (pc' := 96) (L' := [.ref 48, .int l1, .int l2]) (st' := [.int 0]) ⟨dX12_shut_95, trivial⟩ rfl ?_
      refine ms_goto mB_158 dX12_shut_96 (t := 100) rfl ?_
      exact ms_iret mB_158 dX12_shut_100 mR_158 ⟨_, rfl, rfl, F⟩
  · have F := F.1 c
    refine ms_seq mB_158 mO_158 [(.bipush (-13), 2)] (pc' := 78) (L' := [.ref 48, .int l1, .int l2]) (st' := [.int (-13)]) ⟨dX12_shut_76, trivial⟩ rfl ?_
    exact ms_iret mB_158 dX12_shut_78 mR_158 ⟨_, rfl, rfl, F⟩
set_option maxRecDepth 100000 in
theorem q12_firstDay_0 {N d : Nat} (hd : 5 ≤ d) {p0 : Int32} {δ : mi_D} {Q : Int32 → mi_D → Prop} (F : ((p0 = 0 → Q 0 δ) ∧ (¬ p0 = 0 → (mi_ix (p0 - 1) 24 = true ∧ Q ((δ.2.1 56 (Int32.toNatClampNeg (p0 - 1))) + 1) δ)))) : mi_wI N d 159 0 [.ref 48, .int p0] [] δ Q := by
  unfold mi_wI
  refine ms_seq mB_159 mO_159 [(.iload_n 1, 1)] (pc' := 1) (L' := [.ref 48, .int p0]) (st' := [.int p0]) ⟨dX12_firstDay_0, trivial⟩ rfl ?_
  refine ms_if_ne mB_159 dX12_firstDay_1 (t := 8) rfl (fun c => ?_) (fun c => ?_)
  · have F := F.2 c
    refine ms_seq mB_159 mO_159 [(.aload_n 0, 1)] (pc' := 9) (L' := [.ref 48, .int p0]) (st' := [.ref 48]) ⟨dX12_firstDay_8, trivial⟩ rfl ?_
    refine ms_getA mB_159 mO_159 dX12_firstDay_9 mF_12_41 (gk_48 N) rfl (b := 56) (gr_48_13 N) ?_
    refine ms_seq mB_159 mO_159 [(.iload_n 1, 1), (.iconst 1, 1), (.isub, 1)] (pc' := 15) (L' := [.ref 48, .int p0]) (st' := [.int (p0 - 1), .ref 56]) ⟨dX12_firstDay_12, dX12_firstDay_13, dX12_firstDay_14, trivial⟩ rfl ?_
    have G := F.1
    have F := F.2
    refine ms_iald mB_159 dX12_firstDay_15 (Or.inl (gk_56 N)) (by rw [gl_56 N]; exact G) ?_
    refine ms_seq mB_159 mO_159 [(.iconst 1, 1), (.iadd, 1)] (pc' := 18) (L' := [.ref 48, .int p0]) (st' := [.int ((δ.2.1 56 (Int32.toNatClampNeg (p0 - 1))) + 1)]) ⟨dX12_firstDay_16, dX12_firstDay_17, trivial⟩ rfl ?_
    exact ms_iret mB_159 dX12_firstDay_18 mR_159 ⟨_, rfl, rfl, F⟩
  · have F := F.1 c
    refine ms_seq mB_159 mO_159 [(.iconst 0, 1)] (pc' := 5) (L' := [.ref 48, .int p0]) (st' := [.int 0]) ⟨dX12_firstDay_4, trivial⟩ rfl ?_
    refine ms_goto mB_159 dX12_firstDay_5 (t := 18) rfl ?_
    exact ms_iret mB_159 dX12_firstDay_18 mR_159 ⟨_, rfl, rfl, F⟩
set_option maxRecDepth 100000 in
theorem q12_period_0 {N d : Nat} (hd : 5 ≤ d) {p0 : Int32} {δ : mi_D} {Q : Int32 → mi_D → Prop} (F : (((δ.1 48 0) = 0 → Q (-6) δ) ∧ (¬ (δ.1 48 0) = 0 → (mi_wI N (d - 1) 159 0 [.ref 48, .int (δ.1 48 11)] [] δ (fun r2 δ1 => (mi_wI N (d - 1) 148 0 [.long (Int32.toInt64 p0), .null, .long (Int32.toInt64 r2), .null, .long 9999, .null] [] δ1 (fun r4 δ3 => ((r4 = 0 → Q (-3) δ3) ∧ (¬ r4 = 0 → (mi_wV N (d - 1) 150 0 [.ref 48] [] δ3 (fun δ5 => (mi_wV N (d - 1) 151 0 [.ref 48, .long (Int32.toInt64 p0), .null, .null, .null] [] δ5 (fun δ6 => (((δ6.1 48 11) = 24 → Q (-13) δ6) ∧ (¬ (δ6.1 48 11) = 24 → (mi_wI N (d - 1) 152 0 [.ref 48] [] δ6 (fun r8 δ7 => ((r8 = 0 → Q (-13) δ7) ∧ (¬ r8 = 0 → (mi_ix (δ7.1 48 11) 24 = true ∧ (∀ δ9 : mi_D, δ9 = mi_setA δ7 56 (Int32.toNatClampNeg (δ7.1 48 11)) p0 → (mi_ix (δ9.1 48 11) 24 = true ∧ (∀ δ10 : mi_D, δ10 = mi_setA δ9 57 (Int32.toNatClampNeg (δ9.1 48 11)) (-1) → (∀ δ11 : mi_D, δ11 = mi_setI δ10 48 11 ((δ10.1 48 11) + 1) → (mi_wV N (d - 1) 155 0 [.ref 48, .int 3, .null, .null] [] δ11 (fun δ12 => Q ((δ12.1 48 11) - 1) δ12)))))))))))))))))))))))))) : mi_wI N d 160 0 [.ref 48, .int p0] [] δ Q := by
  unfold mi_wI
  refine ms_seq mB_160 mO_160 [(.aload_n 0, 1)] (pc' := 1) (L' := [.ref 48, .int p0]) (st' := [.ref 48]) ⟨dX12_period_0, trivial⟩ rfl ?_
  refine ms_getI mB_160 mO_160 dX12_period_1 mF_12_7 (gk_48 N) (Or.inr rfl) ?_
  refine ms_if_ne mB_160 dX12_period_4 (t := 10) rfl (fun c => ?_) (fun c => ?_)
  · have F := F.2 c
    refine ms_seq mB_160 mO_160 [(.iload_n 1, 1), (.i2l, 1), (.aload_n 0, 1), (.aload_n 0, 1)] (pc' := 14) (L' := [.ref 48, .int p0]) (st' := [.ref 48, .ref 48, .long (Int32.toInt64 p0)]) ⟨dX12_period_10, dX12_period_11, dX12_period_12, dX12_period_13, trivial⟩ rfl ?_
    refine ms_getI mB_160 mO_160 dX12_period_14 mF_12_173 (gk_48 N) (Or.inl rfl) ?_
    refine ms_callvI mB_160 mO_160 (by omega) dX12_period_17 mQ_12_176 mC_12_176 mL_159 mO_159 rfl (Nat.le_of_ble_eq_true rfl) (Nat.le_of_ble_eq_true rfl) (gk_48 N) rfl F (fun r2 δ1 F => ?_)
    refine ms_seq mB_160 mO_160 [(.i2l, 1), (.ldc2_w 152, 3)] (pc' := 24) (L' := [.ref 48, .int p0]) (st' := [.long 9999, .long (Int32.toInt64 r2), .long (Int32.toInt64 p0)]) ⟨dX12_period_20, dX12_period_21, trivial⟩ rfl ?_
    refine ms_callsI mB_160 mO_160 (by omega) dX12_period_24 mQ_12_116 mC_12_116 mL_148 (by decide) rfl (Nat.le_of_ble_eq_true rfl) (Nat.le_of_ble_eq_true rfl) rfl F (fun r4 δ3 F => ?_)
    refine ms_if_ne mB_160 dX12_period_27 (t := 33) rfl (fun c => ?_) (fun c => ?_)
    · have F := F.2 c
      refine ms_seq mB_160 mO_160 [(.aload_n 0, 1)] (pc' := 34) (L' := [.ref 48, .int p0]) (st' := [.ref 48]) ⟨dX12_period_33, trivial⟩ rfl ?_
      refine ms_callvV mB_160 mO_160 (by omega) dX12_period_34 mQ_12_159 mC_12_159 mL_150 mO_150 rfl (Nat.le_of_ble_eq_true rfl) (Nat.le_of_ble_eq_true rfl) (gk_48 N) rfl F (fun δ5 F => ?_)
      refine ms_seq mB_160 mO_160 [(.aload_n 0, 1), (.iload_n 1, 1), (.i2l, 1)] (pc' := 40) (L' := [.ref 48, .int p0]) (st' := [.long (Int32.toInt64 p0), .ref 48]) ⟨dX12_period_37, dX12_period_38, dX12_period_39, trivial⟩ rfl ?_
      refine ms_callvV mB_160 mO_160 (by omega) dX12_period_40 mQ_12_162 mC_12_162 mL_151 mO_151 rfl (Nat.le_of_ble_eq_true rfl) (Nat.le_of_ble_eq_true rfl) (gk_48 N) rfl F (fun δ6 F => ?_)
      refine ms_seq mB_160 mO_160 [(.aload_n 0, 1)] (pc' := 44) (L' := [.ref 48, .int p0]) (st' := [.ref 48]) ⟨dX12_period_43, trivial⟩ rfl ?_
      refine ms_getI mB_160 mO_160 dX12_period_44 mF_12_173 (gk_48 N) (Or.inl rfl) ?_
      refine ms_seq mB_160 mO_160 [(.bipush 24, 2)] (pc' := 49) (L' := [.ref 48, .int p0]) (st' := [.int 24, .int (δ6.1 48 11)]) ⟨dX12_period_47, trivial⟩ rfl ?_
      refine ms_icmp_eq mB_160 dX12_period_49 (t := 59) rfl (fun c => ?_) (fun c => ?_)
      · have F := F.1 c
        refine ms_seq mB_160 mO_160 [(.bipush (-13), 2)] (pc' := 61) (L' := [.ref 48, .int p0]) (st' := [.int (-13)]) ⟨dX12_period_59, trivial⟩ rfl ?_
        exact ms_iret mB_160 dX12_period_61 mR_160 ⟨_, rfl, rfl, F⟩
      · have F := F.2 c
        refine ms_seq mB_160 mO_160 [(.aload_n 0, 1)] (pc' := 53) (L' := [.ref 48, .int p0]) (st' := [.ref 48]) ⟨dX12_period_52, trivial⟩ rfl ?_
        refine ms_callvI mB_160 mO_160 (by omega) dX12_period_53 mQ_12_166 mC_12_166 mL_152 mO_152 rfl (Nat.le_of_ble_eq_true rfl) (Nat.le_of_ble_eq_true rfl) (gk_48 N) rfl F (fun r8 δ7 F => ?_)
        refine ms_if_ne mB_160 dX12_period_56 (t := 62) rfl (fun c => ?_) (fun c => ?_)
        · have F := F.2 c
          refine ms_seq mB_160 mO_160 [(.aload_n 0, 1)] (pc' := 63) (L' := [.ref 48, .int p0]) (st' := [.ref 48]) ⟨dX12_period_62, trivial⟩ rfl ?_
          refine ms_getA mB_160 mO_160 dX12_period_63 mF_12_41 (gk_48 N) rfl (b := 56) (gr_48_13 N) ?_
          refine ms_seq mB_160 mO_160 [(.aload_n 0, 1)] (pc' := 67) (L' := [.ref 48, .int p0]) (st' := [.ref 48, .ref 56]) ⟨dX12_period_66, trivial⟩ rfl ?_
          refine ms_getI mB_160 mO_160 dX12_period_67 mF_12_173 (gk_48 N) (Or.inl rfl) ?_
          refine ms_seq mB_160 mO_160 [(.iload_n 1, 1)] (pc' := 71) (L' := [.ref 48, .int p0]) (st' := [.int p0, .int (δ7.1 48 11), .ref 56]) ⟨dX12_period_70, trivial⟩ rfl ?_
          have G := F.1
          have F := F.2
          refine ms_iast mB_160 dX12_period_71 (gk_56 N) (by rw [gl_56 N]; exact G) ?_
          refine mr_st (fun δ9 e_δ9 => ?_)
          have F := F δ9 e_δ9
          refine ms_seq mB_160 mO_160 [(.aload_n 0, 1)] (pc' := 73) (L' := [.ref 48, .int p0]) (st' := [.ref 48]) ⟨dX12_period_72, trivial⟩ rfl ?_
          refine ms_getA mB_160 mO_160 dX12_period_73 mF_12_44 (gk_48 N) rfl (b := 57) (gr_48_14 N) ?_
          refine ms_seq mB_160 mO_160 [(.aload_n 0, 1)] (pc' := 77) (L' := [.ref 48, .int p0]) (st' := [.ref 48, .ref 57]) ⟨dX12_period_76, trivial⟩ rfl ?_
          refine ms_getI mB_160 mO_160 dX12_period_77 mF_12_173 (gk_48 N) (Or.inl rfl) ?_
          refine ms_seq mB_160 mO_160 [(.iconst (-1), 1)] (pc' := 81) (L' := [.ref 48, .int p0]) (st' := [.int (-1), .int (δ9.1 48 11), .ref 57]) ⟨dX12_period_80, trivial⟩ rfl ?_
          have G := F.1
          have F := F.2
          refine ms_iast mB_160 dX12_period_81 (gk_57 N) (by rw [gl_57 N]; exact G) ?_
          refine mr_st (fun δ10 e_δ10 => ?_)
          have F := F δ10 e_δ10
          refine ms_seq mB_160 mO_160 [(.aload_n 0, 1), (.dup, 1)] (pc' := 84) (L' := [.ref 48, .int p0]) (st' := [.ref 48, .ref 48]) ⟨dX12_period_82, dX12_period_83, trivial⟩ rfl ?_
          refine ms_getI mB_160 mO_160 dX12_period_84 mF_12_173 (gk_48 N) (Or.inl rfl) ?_
          refine ms_seq mB_160 mO_160 [(.iconst 1, 1), (.iadd, 1)] (pc' := 89) (L' := [.ref 48, .int p0]) (st' := [.int ((δ10.1 48 11) + 1), .ref 48]) ⟨dX12_period_87, dX12_period_88, trivial⟩ rfl ?_
          refine ms_putI mB_160 mO_160 dX12_period_89 mF_12_173 (gk_48 N) rfl rfl ?_
          refine mr_st (fun δ11 e_δ11 => ?_)
          have F := F δ11 e_δ11
          refine ms_seq mB_160 mO_160 [(.aload_n 0, 1), (.iconst 3, 1)] (pc' := 94) (L' := [.ref 48, .int p0]) (st' := [.int 3, .ref 48]) ⟨dX12_period_92, dX12_period_93, trivial⟩ rfl ?_
          refine ms_callvV mB_160 mO_160 (by omega) dX12_period_94 mQ_12_170 mC_12_170 mL_155 mO_155 rfl (Nat.le_of_ble_eq_true rfl) (Nat.le_of_ble_eq_true rfl) (gk_48 N) rfl F (fun δ12 F => ?_)
          refine ms_seq mB_160 mO_160 [(.aload_n 0, 1)] (pc' := 98) (L' := [.ref 48, .int p0]) (st' := [.ref 48]) ⟨dX12_period_97, trivial⟩ rfl ?_
          refine ms_getI mB_160 mO_160 dX12_period_98 mF_12_173 (gk_48 N) (Or.inl rfl) ?_
          refine ms_seq mB_160 mO_160 [(.iconst 1, 1), (.isub, 1)] (pc' := 103) (L' := [.ref 48, .int p0]) (st' := [.int ((δ12.1 48 11) - 1)]) ⟨dX12_period_101, dX12_period_102, trivial⟩ rfl ?_
          exact ms_iret mB_160 dX12_period_103 mR_160 ⟨_, rfl, rfl, F⟩
        · have F := F.1 c
          refine ms_seq mB_160 mO_160 [(.bipush (-13), 2)] (pc' := 61) (L' := [.ref 48, .int p0]) (st' := [.int (-13)]) ⟨dX12_period_59, trivial⟩ rfl ?_
          exact ms_iret mB_160 dX12_period_61 mR_160 ⟨_, rfl, rfl, F⟩
    · have F := F.1 c
      refine ms_seq mB_160 mO_160 [(.bipush (-3), 2)] (pc' := 32) (L' := [.ref 48, .int p0]) (st' := [.int (-3)]) ⟨dX12_period_30, trivial⟩ rfl ?_
      exact ms_iret mB_160 dX12_period_32 mR_160 ⟨_, rfl, rfl, F⟩
  · have F := F.1 c
    refine ms_seq mB_160 mO_160 [(.bipush (-6), 2)] (pc' := 9) (L' := [.ref 48, .int p0]) (st' := [.int (-6)]) ⟨dX12_period_7, trivial⟩ rfl ?_
    exact ms_iret mB_160 dX12_period_9 mR_160 ⟨_, rfl, rfl, F⟩
set_option maxRecDepth 100000 in
theorem q12_owner_0 {N d : Nat} (hd : 5 ≤ d) {p0 : Int32} {δ : mi_D} {Q : Int32 → mi_D → Prop} (F : (((δ.1 48 0) = 0 → Q (-6) δ) ∧ (¬ (δ.1 48 0) = 0 → (mi_wI N (d - 1) 149 0 [.ref 48, .int p0] [] δ (fun r2 δ1 => ((r2 = 0 → Q (-2) δ1) ∧ (¬ r2 = 0 → (mi_ix p0 60 = true ∧ (((δ1.2.1 52 (Int32.toNatClampNeg p0)) = 0 → (mi_ix p0 60 = true ∧ (((δ1.2.1 50 (Int32.toNatClampNeg p0)) = 2 → (mi_wV N (d - 1) 150 0 [.ref 48] [] δ1 (fun δ3 => (mi_wV N (d - 1) 151 0 [.ref 48, .long (Int32.toInt64 p0), .null, .null, .null] [] δ3 (fun δ4 => (mi_wI N (d - 1) 152 0 [.ref 48] [] δ4 (fun r6 δ5 => ((r6 = 0 → Q (-13) δ5) ∧ (¬ r6 = 0 → (∀ x7 : Int32, x7 = (δ5.1 48 10) → (∀ δ8 : mi_D, δ8 = mi_setI δ5 48 10 p0 → (mi_wV N (d - 1) 155 0 [.ref 48, .int 4, .null, .null] [] δ8 (fun δ9 => Q x7 δ9))))))))))))) ∧ (¬ (δ1.2.1 50 (Int32.toNatClampNeg p0)) = 2 → Q (-4) δ1)))) ∧ (¬ (δ1.2.1 52 (Int32.toNatClampNeg p0)) = 0 → Q (-4) δ1)))))))))) : mi_wI N d 161 0 [.ref 48, .int p0, .null] [] δ Q := by
  unfold mi_wI
  refine ms_seq mB_161 mO_161 [(.aload_n 0, 1)] (pc' := 1) (L' := [.ref 48, .int p0, .null]) (st' := [.ref 48]) ⟨dX12_owner_0, trivial⟩ rfl ?_
  refine ms_getI mB_161 mO_161 dX12_owner_1 mF_12_7 (gk_48 N) (Or.inr rfl) ?_
  refine ms_if_ne mB_161 dX12_owner_4 (t := 10) rfl (fun c => ?_) (fun c => ?_)
  · have F := F.2 c
    refine ms_seq mB_161 mO_161 [(.aload_n 0, 1), (.iload_n 1, 1)] (pc' := 12) (L' := [.ref 48, .int p0, .null]) (st' := [.int p0, .ref 48]) ⟨dX12_owner_10, dX12_owner_11, trivial⟩ rfl ?_
    refine ms_callvI mB_161 mO_161 (by omega) dX12_owner_12 mQ_12_148 mC_12_148 mL_149 mO_149 rfl (Nat.le_of_ble_eq_true rfl) (Nat.le_of_ble_eq_true rfl) (gk_48 N) rfl F (fun r2 δ1 F => ?_)
    refine ms_if_ne mB_161 dX12_owner_15 (t := 21) rfl (fun c => ?_) (fun c => ?_)
    · have F := F.2 c
      refine ms_seq mB_161 mO_161 [(.aload_n 0, 1)] (pc' := 22) (L' := [.ref 48, .int p0, .null]) (st' := [.ref 48]) ⟨dX12_owner_21, trivial⟩ rfl ?_
      refine ms_getA mB_161 mO_161 dX12_owner_22 mF_12_23 (gk_48 N) rfl (b := 52) (gr_48_6 N) ?_
      refine ms_seq mB_161 mO_161 [(.iload_n 1, 1)] (pc' := 26) (L' := [.ref 48, .int p0, .null]) (st' := [.int p0, .ref 52]) ⟨dX12_owner_25, trivial⟩ rfl ?_
      have G := F.1
      have F := F.2
      refine ms_bald mB_161 dX12_owner_26 (gk_52 N) (by rw [gl_52 N]; exact G) ?_
      refine ms_if_ne mB_161 dX12_owner_27 (t := 40) rfl (fun c => ?_) (fun c => ?_)
      · have F := F.2 c
        refine ms_seq mB_161 mO_161 [(.bipush (-4), 2)] (pc' := 42) (L' := [.ref 48, .int p0, .null]) (st' := [.int (-4)]) ⟨dX12_owner_40, trivial⟩ rfl ?_
        exact ms_iret mB_161 dX12_owner_42 mR_161 ⟨_, rfl, rfl, F⟩
      · have F := F.1 c
        refine ms_seq mB_161 mO_161 [(.aload_n 0, 1)] (pc' := 31) (L' := [.ref 48, .int p0, .null]) (st' := [.ref 48]) ⟨dX12_owner_30, trivial⟩ rfl ?_
        refine ms_getA mB_161 mO_161 dX12_owner_31 mF_12_17 (gk_48 N) rfl (b := 50) (gr_48_4 N) ?_
        refine ms_seq mB_161 mO_161 [(.iload_n 1, 1)] (pc' := 35) (L' := [.ref 48, .int p0, .null]) (st' := [.int p0, .ref 50]) ⟨dX12_owner_34, trivial⟩ rfl ?_
        have G := F.1
        have F := F.2
        refine ms_iald mB_161 dX12_owner_35 (Or.inl (gk_50 N)) (by rw [gl_50 N]; exact G) ?_
        refine ms_seq mB_161 mO_161 [(.iconst 2, 1)] (pc' := 37) (L' := [.ref 48, .int p0, .null]) (st' := [.int 2, .int (δ1.2.1 50 (Int32.toNatClampNeg p0))]) ⟨dX12_owner_36, trivial⟩ rfl ?_
        refine ms_icmp_eq mB_161 dX12_owner_37 (t := 43) rfl (fun c => ?_) (fun c => ?_)
        · have F := F.1 c
          refine ms_seq mB_161 mO_161 [(.aload_n 0, 1)] (pc' := 44) (L' := [.ref 48, .int p0, .null]) (st' := [.ref 48]) ⟨dX12_owner_43, trivial⟩ rfl ?_
          refine ms_callvV mB_161 mO_161 (by omega) dX12_owner_44 mQ_12_159 mC_12_159 mL_150 mO_150 rfl (Nat.le_of_ble_eq_true rfl) (Nat.le_of_ble_eq_true rfl) (gk_48 N) rfl F (fun δ3 F => ?_)
          refine ms_seq mB_161 mO_161 [(.aload_n 0, 1), (.iload_n 1, 1), (.i2l, 1)] (pc' := 50) (L' := [.ref 48, .int p0, .null]) (st' := [.long (Int32.toInt64 p0), .ref 48]) ⟨dX12_owner_47, dX12_owner_48, dX12_owner_49, trivial⟩ rfl ?_
          refine ms_callvV mB_161 mO_161 (by omega) dX12_owner_50 mQ_12_162 mC_12_162 mL_151 mO_151 rfl (Nat.le_of_ble_eq_true rfl) (Nat.le_of_ble_eq_true rfl) (gk_48 N) rfl F (fun δ4 F => ?_)
          refine ms_seq mB_161 mO_161 [(.aload_n 0, 1)] (pc' := 54) (L' := [.ref 48, .int p0, .null]) (st' := [.ref 48]) ⟨dX12_owner_53, trivial⟩ rfl ?_
          refine ms_callvI mB_161 mO_161 (by omega) dX12_owner_54 mQ_12_166 mC_12_166 mL_152 mO_152 rfl (Nat.le_of_ble_eq_true rfl) (Nat.le_of_ble_eq_true rfl) (gk_48 N) rfl F (fun r6 δ5 F => ?_)
          refine ms_if_ne mB_161 dX12_owner_57 (t := 63) rfl (fun c => ?_) (fun c => ?_)
          · have F := F.2 c
            refine ms_seq mB_161 mO_161 [(.aload_n 0, 1)] (pc' := 64) (L' := [.ref 48, .int p0, .null]) (st' := [.ref 48]) ⟨dX12_owner_63, trivial⟩ rfl ?_
            refine ms_getI mB_161 mO_161 dX12_owner_64 mF_12_37 (gk_48 N) (Or.inl rfl) ?_
            refine mr_topi (fun x7 e_x7 => ?_)
            have F := F x7 e_x7
            refine ms_seq mB_161 mO_161 [(.istore_n 2, 1), (.aload_n 0, 1), (.iload_n 1, 1)] (pc' := 70) (L' := [.ref 48, .int p0, .int x7]) (st' := [.int p0, .ref 48]) ⟨dX12_owner_67, dX12_owner_68, dX12_owner_69, trivial⟩ rfl ?_
            refine ms_putI mB_161 mO_161 dX12_owner_70 mF_12_37 (gk_48 N) rfl rfl ?_
            refine mr_st (fun δ8 e_δ8 => ?_)
            have F := F δ8 e_δ8
            refine ms_seq mB_161 mO_161 [(.aload_n 0, 1), (.iconst 4, 1)] (pc' := 75) (L' := [.ref 48, .int p0, .int x7]) (st' := [.int 4, .ref 48]) ⟨dX12_owner_73, dX12_owner_74, trivial⟩ rfl ?_
            refine ms_callvV mB_161 mO_161 (by omega) dX12_owner_75 mQ_12_170 mC_12_170 mL_155 mO_155 rfl (Nat.le_of_ble_eq_true rfl) (Nat.le_of_ble_eq_true rfl) (gk_48 N) rfl F (fun δ9 F => ?_)
            refine ms_seq mB_161 mO_161 [(.iload_n 2, 1)] (pc' := 79) (L' := [.ref 48, .int p0, .int x7]) (st' := [.int x7]) ⟨dX12_owner_78, trivial⟩ rfl ?_
            exact ms_iret mB_161 dX12_owner_79 mR_161 ⟨_, rfl, rfl, F⟩
          · have F := F.1 c
            refine ms_seq mB_161 mO_161 [(.bipush (-13), 2)] (pc' := 62) (L' := [.ref 48, .int p0, .null]) (st' := [.int (-13)]) ⟨dX12_owner_60, trivial⟩ rfl ?_
            exact ms_iret mB_161 dX12_owner_62 mR_161 ⟨_, rfl, rfl, F⟩
        · have F := F.2 c
          refine ms_seq mB_161 mO_161 [(.bipush (-4), 2)] (pc' := 42) (L' := [.ref 48, .int p0, .null]) (st' := [.int (-4)]) ⟨dX12_owner_40, trivial⟩ rfl ?_
          exact ms_iret mB_161 dX12_owner_42 mR_161 ⟨_, rfl, rfl, F⟩
    · have F := F.1 c
      refine ms_seq mB_161 mO_161 [(.bipush (-2), 2)] (pc' := 20) (L' := [.ref 48, .int p0, .null]) (st' := [.int (-2)]) ⟨dX12_owner_18, trivial⟩ rfl ?_
      exact ms_iret mB_161 dX12_owner_20 mR_161 ⟨_, rfl, rfl, F⟩
  · have F := F.1 c
    refine ms_seq mB_161 mO_161 [(.bipush (-6), 2)] (pc' := 9) (L' := [.ref 48, .int p0, .null]) (st' := [.int (-6)]) ⟨dX12_owner_7, trivial⟩ rfl ?_
    exact ms_iret mB_161 dX12_owner_9 mR_161 ⟨_, rfl, rfl, F⟩
set_option maxRecDepth 100000 in
theorem q12_line_0 {N d : Nat} (hd : 5 ≤ d) {p0 : Int32} {p1 : Int64} {δ : mi_D} {Q : Int32 → mi_D → Prop} (F : (((δ.1 48 0) = 0 → Q (-6) δ) ∧ (¬ (δ.1 48 0) = 0 → (mi_wI N (d - 1) 149 0 [.ref 48, .int p0] [] δ (fun r2 δ1 => ((r2 = 0 → Q (-2) δ1) ∧ (¬ r2 = 0 → (((lg_cmp p1 0) = 0 → Q (-3) δ1) ∧ (¬ (lg_cmp p1 0) = 0 → (mi_wI N (d - 1) 148 0 [.long p1, .null, .long (-1000000000000000), .null, .long 1000000000000000, .null] [] δ1 (fun r4 δ3 => ((r4 = 0 → Q (-3) δ3) ∧ (¬ r4 = 0 → (mi_ix p0 60 = true ∧ (((δ3.2.1 52 (Int32.toNatClampNeg p0)) = 0 → (((δ3.1 48 24) = 8 → Q (-13) δ3) ∧ (¬ (δ3.1 48 24) = 8 → (mi_ix (δ3.1 48 24) 8 = true ∧ (∀ δ5 : mi_D, δ5 = mi_setA δ3 66 (Int32.toNatClampNeg (δ3.1 48 24)) p0 → (mi_ix (δ5.1 48 24) 8 = true ∧ (∀ δ6 : mi_D, δ6 = mi_setL δ5 67 (Int32.toNatClampNeg (δ5.1 48 24)) p1 → (∀ δ7 : mi_D, δ7 = mi_setI δ6 48 24 ((δ6.1 48 24) + 1) → Q (δ7.1 48 24) δ7)))))))) ∧ (¬ (δ3.2.1 52 (Int32.toNatClampNeg p0)) = 0 → Q (-4) δ3)))))))))))))))) : mi_wI N d 162 0 [.ref 48, .int p0, .long p1, .null] [] δ Q := by
  unfold mi_wI
  refine ms_seq mB_162 mO_162 [(.aload_n 0, 1)] (pc' := 1) (L' := [.ref 48, .int p0, .long p1, .null]) (st' := [.ref 48]) ⟨dX12_line_0, trivial⟩ rfl ?_
  refine ms_getI mB_162 mO_162 dX12_line_1 mF_12_7 (gk_48 N) (Or.inr rfl) ?_
  refine ms_if_ne mB_162 dX12_line_4 (t := 10) rfl (fun c => ?_) (fun c => ?_)
  · have F := F.2 c
    refine ms_seq mB_162 mO_162 [(.aload_n 0, 1), (.iload_n 1, 1)] (pc' := 12) (L' := [.ref 48, .int p0, .long p1, .null]) (st' := [.int p0, .ref 48]) ⟨dX12_line_10, dX12_line_11, trivial⟩ rfl ?_
    refine ms_callvI mB_162 mO_162 (by omega) dX12_line_12 mQ_12_148 mC_12_148 mL_149 mO_149 rfl (Nat.le_of_ble_eq_true rfl) (Nat.le_of_ble_eq_true rfl) (gk_48 N) rfl F (fun r2 δ1 F => ?_)
    refine ms_if_ne mB_162 dX12_line_15 (t := 21) rfl (fun c => ?_) (fun c => ?_)
    · have F := F.2 c
      refine ms_seq mB_162 mO_162 [(.lload_n 2, 1), (.lconst 0, 1), (.lcmp, 1)] (pc' := 24) (L' := [.ref 48, .int p0, .long p1, .null]) (st' := [.int (lg_cmp p1 0)]) ⟨dX12_line_21, dX12_line_22, dX12_line_23, trivial⟩ rfl ?_
      refine ms_if_eq mB_162 dX12_line_24 (t := 40) rfl (fun c => ?_) (fun c => ?_)
      · have F := F.1 c
        refine ms_seq mB_162 mO_162 [(.bipush (-3), 2)] (pc' := 42) (L' := [.ref 48, .int p0, .long p1, .null]) (st' := [.int (-3)]) ⟨dX12_line_40, trivial⟩ rfl ?_
        exact ms_iret mB_162 dX12_line_42 mR_162 ⟨_, rfl, rfl, F⟩
      · have F := F.2 c
        refine ms_seq mB_162 mO_162 [(.lload_n 2, 1), (.ldc2_w 180, 3), (.ldc2_w 182, 3)] (pc' := 34) (L' := [.ref 48, .int p0, .long p1, .null]) (st' := [.long 1000000000000000, .long (-1000000000000000), .long p1]) ⟨dX12_line_27, dX12_line_28, dX12_line_31, trivial⟩ rfl ?_
        refine ms_callsI mB_162 mO_162 (by omega) dX12_line_34 mQ_12_116 mC_12_116 mL_148 (by decide) rfl (Nat.le_of_ble_eq_true rfl) (Nat.le_of_ble_eq_true rfl) rfl F (fun r4 δ3 F => ?_)
        refine ms_if_ne mB_162 dX12_line_37 (t := 43) rfl (fun c => ?_) (fun c => ?_)
        · have F := F.2 c
          refine ms_seq mB_162 mO_162 [(.aload_n 0, 1)] (pc' := 44) (L' := [.ref 48, .int p0, .long p1, .null]) (st' := [.ref 48]) ⟨dX12_line_43, trivial⟩ rfl ?_
          refine ms_getA mB_162 mO_162 dX12_line_44 mF_12_23 (gk_48 N) rfl (b := 52) (gr_48_6 N) ?_
          refine ms_seq mB_162 mO_162 [(.iload_n 1, 1)] (pc' := 48) (L' := [.ref 48, .int p0, .long p1, .null]) (st' := [.int p0, .ref 52]) ⟨dX12_line_47, trivial⟩ rfl ?_
          have G := F.1
          have F := F.2
          refine ms_bald mB_162 dX12_line_48 (gk_52 N) (by rw [gl_52 N]; exact G) ?_
          refine ms_if_eq mB_162 dX12_line_49 (t := 55) rfl (fun c => ?_) (fun c => ?_)
          · have F := F.1 c
            refine ms_seq mB_162 mO_162 [(.aload_n 0, 1)] (pc' := 56) (L' := [.ref 48, .int p0, .long p1, .null]) (st' := [.ref 48]) ⟨dX12_line_55, trivial⟩ rfl ?_
            refine ms_getI mB_162 mO_162 dX12_line_56 mF_12_184 (gk_48 N) (Or.inl rfl) ?_
            refine ms_seq mB_162 mO_162 [(.bipush 8, 2)] (pc' := 61) (L' := [.ref 48, .int p0, .long p1, .null]) (st' := [.int 8, .int (δ3.1 48 24)]) ⟨dX12_line_59, trivial⟩ rfl ?_
            refine ms_icmp_ne mB_162 dX12_line_61 (t := 67) rfl (fun c => ?_) (fun c => ?_)
            · have F := F.2 c
              refine ms_seq mB_162 mO_162 [(.aload_n 0, 1)] (pc' := 68) (L' := [.ref 48, .int p0, .long p1, .null]) (st' := [.ref 48]) ⟨dX12_line_67, trivial⟩ rfl ?_
              refine ms_getA mB_162 mO_162 dX12_line_68 mF_12_71 (gk_48 N) rfl (b := 66) (gr_48_25 N) ?_
              refine ms_seq mB_162 mO_162 [(.aload_n 0, 1)] (pc' := 72) (L' := [.ref 48, .int p0, .long p1, .null]) (st' := [.ref 48, .ref 66]) ⟨dX12_line_71, trivial⟩ rfl ?_
              refine ms_getI mB_162 mO_162 dX12_line_72 mF_12_184 (gk_48 N) (Or.inl rfl) ?_
              refine ms_seq mB_162 mO_162 [(.iload_n 1, 1)] (pc' := 76) (L' := [.ref 48, .int p0, .long p1, .null]) (st' := [.int p0, .int (δ3.1 48 24), .ref 66]) ⟨dX12_line_75, trivial⟩ rfl ?_
              have G := F.1
              have F := F.2
              refine ms_iast mB_162 dX12_line_76 (gk_66 N) (by rw [gl_66 N]; exact G) ?_
              refine mr_st (fun δ5 e_δ5 => ?_)
              have F := F δ5 e_δ5
              refine ms_seq mB_162 mO_162 [(.aload_n 0, 1)] (pc' := 78) (L' := [.ref 48, .int p0, .long p1, .null]) (st' := [.ref 48]) ⟨dX12_line_77, trivial⟩ rfl ?_
              refine ms_getA mB_162 mO_162 dX12_line_78 mF_12_74 (gk_48 N) rfl (b := 67) (gr_48_26 N) ?_
              refine ms_seq mB_162 mO_162 [(.aload_n 0, 1)] (pc' := 82) (L' := [.ref 48, .int p0, .long p1, .null]) (st' := [.ref 48, .ref 67]) ⟨dX12_line_81, trivial⟩ rfl ?_
              refine ms_getI mB_162 mO_162 dX12_line_82 mF_12_184 (gk_48 N) (Or.inl rfl) ?_
              refine ms_seq mB_162 mO_162 [(.lload_n 2, 1)] (pc' := 86) (L' := [.ref 48, .int p0, .long p1, .null]) (st' := [.long p1, .int (δ5.1 48 24), .ref 67]) ⟨dX12_line_85, trivial⟩ rfl ?_
              have G := F.1
              have F := F.2
              refine ms_last mB_162 dX12_line_86 (gk_67 N) (by rw [gl_67 N]; exact G) ?_
              refine mr_st (fun δ6 e_δ6 => ?_)
              have F := F δ6 e_δ6
              refine ms_seq mB_162 mO_162 [(.aload_n 0, 1), (.dup, 1)] (pc' := 89) (L' := [.ref 48, .int p0, .long p1, .null]) (st' := [.ref 48, .ref 48]) ⟨dX12_line_87, dX12_line_88, trivial⟩ rfl ?_
              refine ms_getI mB_162 mO_162 dX12_line_89 mF_12_184 (gk_48 N) (Or.inl rfl) ?_
              refine ms_seq mB_162 mO_162 [(.iconst 1, 1), (.iadd, 1)] (pc' := 94) (L' := [.ref 48, .int p0, .long p1, .null]) (st' := [.int ((δ6.1 48 24) + 1), .ref 48]) ⟨dX12_line_92, dX12_line_93, trivial⟩ rfl ?_
              refine ms_putI mB_162 mO_162 dX12_line_94 mF_12_184 (gk_48 N) rfl rfl ?_
              refine mr_st (fun δ7 e_δ7 => ?_)
              have F := F δ7 e_δ7
              refine ms_seq mB_162 mO_162 [(.aload_n 0, 1)] (pc' := 98) (L' := [.ref 48, .int p0, .long p1, .null]) (st' := [.ref 48]) ⟨dX12_line_97, trivial⟩ rfl ?_
              refine ms_getI mB_162 mO_162 dX12_line_98 mF_12_184 (gk_48 N) (Or.inl rfl) ?_
              exact ms_iret mB_162 dX12_line_101 mR_162 ⟨_, rfl, rfl, F⟩
            · have F := F.1 c
              refine ms_seq mB_162 mO_162 [(.bipush (-13), 2)] (pc' := 66) (L' := [.ref 48, .int p0, .long p1, .null]) (st' := [.int (-13)]) ⟨dX12_line_64, trivial⟩ rfl ?_
              exact ms_iret mB_162 dX12_line_66 mR_162 ⟨_, rfl, rfl, F⟩
          · have F := F.2 c
            refine ms_seq mB_162 mO_162 [(.bipush (-4), 2)] (pc' := 54) (L' := [.ref 48, .int p0, .long p1, .null]) (st' := [.int (-4)]) ⟨dX12_line_52, trivial⟩ rfl ?_
            exact ms_iret mB_162 dX12_line_54 mR_162 ⟨_, rfl, rfl, F⟩
        · have F := F.1 c
          refine ms_seq mB_162 mO_162 [(.bipush (-3), 2)] (pc' := 42) (L' := [.ref 48, .int p0, .long p1, .null]) (st' := [.int (-3)]) ⟨dX12_line_40, trivial⟩ rfl ?_
          exact ms_iret mB_162 dX12_line_42 mR_162 ⟨_, rfl, rfl, F⟩
    · have F := F.1 c
      refine ms_seq mB_162 mO_162 [(.bipush (-2), 2)] (pc' := 20) (L' := [.ref 48, .int p0, .long p1, .null]) (st' := [.int (-2)]) ⟨dX12_line_18, trivial⟩ rfl ?_
      exact ms_iret mB_162 dX12_line_20 mR_162 ⟨_, rfl, rfl, F⟩
  · have F := F.1 c
    refine ms_seq mB_162 mO_162 [(.bipush (-6), 2)] (pc' := 9) (L' := [.ref 48, .int p0, .long p1, .null]) (st' := [.int (-6)]) ⟨dX12_line_7, trivial⟩ rfl ?_
    exact ms_iret mB_162 dX12_line_9 mR_162 ⟨_, rfl, rfl, F⟩
set_option maxRecDepth 100000 in
theorem q12_drop_0 {N d : Nat} (hd : 5 ≤ d) {δ : mi_D} {Q : Int32 → mi_D → Prop} (F : (((δ.1 48 0) = 0 → Q (-6) δ) ∧ (¬ (δ.1 48 0) = 0 → (∀ x1 : Int32, x1 = (δ.1 48 24) → (∀ δ2 : mi_D, δ2 = mi_setI δ 48 24 0 → Q x1 δ2))))) : mi_wI N d 163 0 [.ref 48, .null] [] δ Q := by
  unfold mi_wI
  refine ms_seq mB_163 mO_163 [(.aload_n 0, 1)] (pc' := 1) (L' := [.ref 48, .null]) (st' := [.ref 48]) ⟨dX12_drop_0, trivial⟩ rfl ?_
  refine ms_getI mB_163 mO_163 dX12_drop_1 mF_12_7 (gk_48 N) (Or.inr rfl) ?_
  refine ms_if_ne mB_163 dX12_drop_4 (t := 10) rfl (fun c => ?_) (fun c => ?_)
  · have F := F.2 c
    refine ms_seq mB_163 mO_163 [(.aload_n 0, 1)] (pc' := 11) (L' := [.ref 48, .null]) (st' := [.ref 48]) ⟨dX12_drop_10, trivial⟩ rfl ?_
    refine ms_getI mB_163 mO_163 dX12_drop_11 mF_12_184 (gk_48 N) (Or.inl rfl) ?_
    refine mr_topi (fun x1 e_x1 => ?_)
    have F := F x1 e_x1
    refine ms_seq mB_163 mO_163 [(.istore_n 1, 1), (.aload_n 0, 1), (.iconst 0, 1)] (pc' := 17) (L' := [.ref 48, .int x1]) (st' := [.int 0, .ref 48]) ⟨dX12_drop_14, dX12_drop_15, dX12_drop_16, trivial⟩ rfl ?_
    refine ms_putI mB_163 mO_163 dX12_drop_17 mF_12_184 (gk_48 N) rfl rfl ?_
    refine mr_st (fun δ2 e_δ2 => ?_)
    have F := F δ2 e_δ2
    refine ms_seq mB_163 mO_163 [(.iload_n 1, 1)] (pc' := 21) (L' := [.ref 48, .int x1]) (st' := [.int x1]) ⟨dX12_drop_20, trivial⟩ rfl ?_
    exact ms_iret mB_163 dX12_drop_21 mR_163 ⟨_, rfl, rfl, F⟩
  · have F := F.1 c
    refine ms_seq mB_163 mO_163 [(.bipush (-6), 2)] (pc' := 9) (L' := [.ref 48, .null]) (st' := [.int (-6)]) ⟨dX12_drop_7, trivial⟩ rfl ?_
    exact ms_iret mB_163 dX12_drop_9 mR_163 ⟨_, rfl, rfl, F⟩
set_option maxRecDepth 100000 in
theorem q12_hand_0 {N d : Nat} (hd : 5 ≤ d) {p0 : Int32} {p1 : Int64} {δ : mi_D} {Q : mi_D → Prop} (F : (mi_ix (δ.1 48 27) 64 = true ∧ (∀ δ1 : mi_D, δ1 = mi_setA δ 68 (Int32.toNatClampNeg (δ.1 48 27)) p0 → (mi_ix (δ1.1 48 27) 64 = true ∧ (∀ δ2 : mi_D, δ2 = mi_setL δ1 69 (Int32.toNatClampNeg (δ1.1 48 27)) p1 → (∀ δ3 : mi_D, δ3 = mi_setI δ2 48 27 ((δ2.1 48 27) + 1) → Q δ3)))))) : mi_wV N d 164 0 [.ref 48, .int p0, .long p1, .null] [] δ Q := by
  unfold mi_wV
  refine ms_seq mB_164 mO_164 [(.aload_n 0, 1)] (pc' := 1) (L' := [.ref 48, .int p0, .long p1, .null]) (st' := [.ref 48]) ⟨dX12_hand_0, trivial⟩ rfl ?_
  refine ms_getA mB_164 mO_164 dX12_hand_1 mF_12_77 (gk_48 N) rfl (b := 68) (gr_48_28 N) ?_
  refine ms_seq mB_164 mO_164 [(.aload_n 0, 1)] (pc' := 5) (L' := [.ref 48, .int p0, .long p1, .null]) (st' := [.ref 48, .ref 68]) ⟨dX12_hand_4, trivial⟩ rfl ?_
  refine ms_getI mB_164 mO_164 dX12_hand_5 mF_12_187 (gk_48 N) (Or.inl rfl) ?_
  refine ms_seq mB_164 mO_164 [(.iload_n 1, 1)] (pc' := 9) (L' := [.ref 48, .int p0, .long p1, .null]) (st' := [.int p0, .int (δ.1 48 27), .ref 68]) ⟨dX12_hand_8, trivial⟩ rfl ?_
  have G := F.1
  have F := F.2
  refine ms_iast mB_164 dX12_hand_9 (gk_68 N) (by rw [gl_68 N]; exact G) ?_
  refine mr_st (fun δ1 e_δ1 => ?_)
  have F := F δ1 e_δ1
  refine ms_seq mB_164 mO_164 [(.aload_n 0, 1)] (pc' := 11) (L' := [.ref 48, .int p0, .long p1, .null]) (st' := [.ref 48]) ⟨dX12_hand_10, trivial⟩ rfl ?_
  refine ms_getA mB_164 mO_164 dX12_hand_11 mF_12_80 (gk_48 N) rfl (b := 69) (gr_48_29 N) ?_
  refine ms_seq mB_164 mO_164 [(.aload_n 0, 1)] (pc' := 15) (L' := [.ref 48, .int p0, .long p1, .null]) (st' := [.ref 48, .ref 69]) ⟨dX12_hand_14, trivial⟩ rfl ?_
  refine ms_getI mB_164 mO_164 dX12_hand_15 mF_12_187 (gk_48 N) (Or.inl rfl) ?_
  refine ms_seq mB_164 mO_164 [(.lload_n 2, 1)] (pc' := 19) (L' := [.ref 48, .int p0, .long p1, .null]) (st' := [.long p1, .int (δ1.1 48 27), .ref 69]) ⟨dX12_hand_18, trivial⟩ rfl ?_
  have G := F.1
  have F := F.2
  refine ms_last mB_164 dX12_hand_19 (gk_69 N) (by rw [gl_69 N]; exact G) ?_
  refine mr_st (fun δ2 e_δ2 => ?_)
  have F := F δ2 e_δ2
  refine ms_seq mB_164 mO_164 [(.aload_n 0, 1), (.dup, 1)] (pc' := 22) (L' := [.ref 48, .int p0, .long p1, .null]) (st' := [.ref 48, .ref 48]) ⟨dX12_hand_20, dX12_hand_21, trivial⟩ rfl ?_
  refine ms_getI mB_164 mO_164 dX12_hand_22 mF_12_187 (gk_48 N) (Or.inl rfl) ?_
  refine ms_seq mB_164 mO_164 [(.iconst 1, 1), (.iadd, 1)] (pc' := 27) (L' := [.ref 48, .int p0, .long p1, .null]) (st' := [.int ((δ2.1 48 27) + 1), .ref 48]) ⟨dX12_hand_25, dX12_hand_26, trivial⟩ rfl ?_
  refine ms_putI mB_164 mO_164 dX12_hand_27 mF_12_187 (gk_48 N) rfl rfl ?_
  refine mr_st (fun δ3 e_δ3 => ?_)
  have F := F δ3 e_δ3
  exact ms_vret mB_164 dX12_hand_30 mR_164 ⟨rfl, rfl, F⟩
set_option maxRecDepth 100000 in
theorem q12_periodAt_0 {N d : Nat} (hd : 5 ≤ d) {p0 : Int32} {δ : mi_D} {Q : Int32 → mi_D → Prop} (F : (∀ x1 : Int32, x1 = ((δ.1 48 11) - 1) → mi_wI N d 165 9 [.ref 48, .int p0, .int (-1), .int x1] [] δ Q)) : mi_wI N d 165 0 [.ref 48, .int p0, .null, .null] [] δ Q := by
  unfold mi_wI
  refine ms_seq mB_165 mO_165 [(.iconst (-1), 1), (.istore_n 2, 1), (.aload_n 0, 1)] (pc' := 3) (L' := [.ref 48, .int p0, .int (-1), .null]) (st' := [.ref 48]) ⟨dX12_periodAt_0, dX12_periodAt_1, dX12_periodAt_2, trivial⟩ rfl ?_
  refine ms_getI mB_165 mO_165 dX12_periodAt_3 mF_12_173 (gk_48 N) (Or.inl rfl) ?_
  refine ms_seq mB_165 mO_165 [(.iconst 1, 1), (.isub, 1)] (pc' := 8) (L' := [.ref 48, .int p0, .int (-1), .null]) (st' := [.int ((δ.1 48 11) - 1)]) ⟨dX12_periodAt_6, dX12_periodAt_7, trivial⟩ rfl ?_
  refine mr_topi (fun x1 e_x1 => ?_)
  have F := F x1 e_x1
  refine ms_seq mB_165 mO_165 [(.istore_n 3, 1)] (pc' := 9) (L' := [.ref 48, .int p0, .int (-1), .int x1]) (st' := []) ⟨dX12_periodAt_8, trivial⟩ rfl ?_
  exact F
set_option maxRecDepth 100000 in
theorem q12_periodAt_9 {N d : Nat} (hd : 5 ≤ d) {l1 l2 l3 : Int32} {δ : mi_D} {Q : Int32 → mi_D → Prop} (F : ((l3 < 0 → Q l2 δ) ∧ (¬ l3 < 0 → (mi_wI N (d - 1) 159 0 [.ref 48, .int l3] [] δ (fun r2 δ1 => (mi_ix l3 24 = true ∧ (mi_wI N (d - 1) 148 0 [.long (Int32.toInt64 l1), .null, .long (Int32.toInt64 r2), .null, .long (Int32.toInt64 (δ1.2.1 56 (Int32.toNatClampNeg l3))), .null] [] δ1 (fun r4 δ3 => ((r4 = 0 → mi_wI N d 165 9 [.ref 48, .int l1, .int l2, .int (l3 + (-1))] [] δ3 Q) ∧ (¬ r4 = 0 → mi_wI N d 165 9 [.ref 48, .int l1, .int l3, .int (l3 + (-1))] [] δ3 Q)))))))))) : mi_wI N d 165 9 [.ref 48, .int l1, .int l2, .int l3] [] δ Q := by
  unfold mi_wI
  refine ms_seq mB_165 mO_165 [(.iload_n 3, 1)] (pc' := 10) (L' := [.ref 48, .int l1, .int l2, .int l3]) (st' := [.int l3]) ⟨dX12_periodAt_9, trivial⟩ rfl ?_
  refine ms_if_lt mB_165 dX12_periodAt_10 (t := 46) rfl (fun c => ?_) (fun c => ?_)
  · have F := F.1 c
    refine ms_seq mB_165 mO_165 [(.iload_n 2, 1)] (pc' := 47) (L' := [.ref 48, .int l1, .int l2, .int l3]) (st' := [.int l2]) ⟨dX12_periodAt_46, trivial⟩ rfl ?_
    exact ms_iret mB_165 dX12_periodAt_47 mR_165 ⟨_, rfl, rfl, F⟩
  · have F := F.2 c
    refine ms_seq mB_165 mO_165 [(.iload_n 1, 1), (.i2l, 1), (.aload_n 0, 1), (.iload_n 3, 1)] (pc' := 17) (L' := [.ref 48, .int l1, .int l2, .int l3]) (st' := [.int l3, .ref 48, .long (Int32.toInt64 l1)]) ⟨dX12_periodAt_13, dX12_periodAt_14, dX12_periodAt_15, dX12_periodAt_16, trivial⟩ rfl ?_
    refine ms_callvI mB_165 mO_165 (by omega) dX12_periodAt_17 mQ_12_176 mC_12_176 mL_159 mO_159 rfl (Nat.le_of_ble_eq_true rfl) (Nat.le_of_ble_eq_true rfl) (gk_48 N) rfl F (fun r2 δ1 F => ?_)
    refine ms_seq mB_165 mO_165 [(.i2l, 1), (.aload_n 0, 1)] (pc' := 22) (L' := [.ref 48, .int l1, .int l2, .int l3]) (st' := [.ref 48, .long (Int32.toInt64 r2), .long (Int32.toInt64 l1)]) ⟨dX12_periodAt_20, dX12_periodAt_21, trivial⟩ rfl ?_
    refine ms_getA mB_165 mO_165 dX12_periodAt_22 mF_12_41 (gk_48 N) rfl (b := 56) (gr_48_13 N) ?_
    refine ms_seq mB_165 mO_165 [(.iload_n 3, 1)] (pc' := 26) (L' := [.ref 48, .int l1, .int l2, .int l3]) (st' := [.int l3, .ref 56, .long (Int32.toInt64 r2), .long (Int32.toInt64 l1)]) ⟨dX12_periodAt_25, trivial⟩ rfl ?_
    have G := F.1
    have F := F.2
    refine ms_iald mB_165 dX12_periodAt_26 (Or.inl (gk_56 N)) (by rw [gl_56 N]; exact G) ?_
    refine ms_seq mB_165 mO_165 [(.i2l, 1)] (pc' := 28) (L' := [.ref 48, .int l1, .int l2, .int l3]) (st' := [.long (Int32.toInt64 (δ1.2.1 56 (Int32.toNatClampNeg l3))), .long (Int32.toInt64 r2), .long (Int32.toInt64 l1)]) ⟨dX12_periodAt_27, trivial⟩ rfl ?_
    refine ms_callsI mB_165 mO_165 (by omega) dX12_periodAt_28 mQ_12_116 mC_12_116 mL_148 (by decide) rfl (Nat.le_of_ble_eq_true rfl) (Nat.le_of_ble_eq_true rfl) rfl F (fun r4 δ3 F => ?_)
    refine ms_if_eq mB_165 dX12_periodAt_31 (t := 38) rfl (fun c => ?_) (fun c => ?_)
    · have F := F.1 c
      refine ms_seq mB_165 mO_165 [(.iload_n 2, 1), (.istore_n 2, 1), (.iinc 3 (-1), 3)] (pc' := 43) (L' := [.ref 48, .int l1, .int l2, .int (l3 + (-1))]) (st' := []) ⟨dX12_periodAt_38, dX12_periodAt_39, dX12_periodAt_40, trivial⟩ rfl ?_
      refine ms_goto mB_165 dX12_periodAt_43 (t := 9) rfl ?_
      exact F
    · have F := F.2 c
      refine ms_seq mB_165 mO_165 [(.iload_n 3, 1)] (pc' := 35) (L' := [.ref 48, .int l1, .int l2, .int l3]) (st' := [.int l3]) ⟨dX12_periodAt_34, trivial⟩ rfl ?_
      refine ms_goto mB_165 dX12_periodAt_35 (t := 39) rfl ?_
      refine ms_seq mB_165 mO_165 [(.istore_n 2, 1), (.iinc 3 (-1), 3)] (pc' := 43) (L' := [.ref 48, .int l1, .int l3, .int (l3 + (-1))]) (st' := []) ⟨dX12_periodAt_39, dX12_periodAt_40, trivial⟩ rfl ?_
      refine ms_goto mB_165 dX12_periodAt_43 (t := 9) rfl ?_
      exact F
set_option maxRecDepth 100000 in
theorem q12_isOver_0 {N d : Nat} (hd : 5 ≤ d) {δ : mi_D} {Q : Int32 → mi_D → Prop} (F : mi_wI N d 166 2 [.ref 48, .int 0, .null, .null, .null] [] δ Q) : mi_wI N d 166 0 [.ref 48, .null, .null, .null, .null] [] δ Q := by
  unfold mi_wI
  refine ms_seq mB_166 mO_166 [(.iconst 0, 1), (.istore_n 1, 1)] (pc' := 2) (L' := [.ref 48, .int 0, .null, .null, .null]) (st' := []) ⟨dX12_isOver_0, dX12_isOver_1, trivial⟩ rfl ?_
  exact F
set_option maxRecDepth 100000 in
theorem q12_isOver_2 {N d : Nat} (hd : 5 ≤ d) {l1 : Int32} {δ : mi_D} {Q : Int32 → mi_D → Prop} (F : ((l1 < (δ.1 48 27) → (mi_ix l1 64 = true ∧ (mi_ix (δ.2.1 68 (Int32.toNatClampNeg l1)) 60 = true ∧ (∀ x1 : Int64, x1 = (δ.2.2 55 (Int32.toNatClampNeg (δ.2.1 68 (Int32.toNatClampNeg l1)))) → mi_wI N d 166 25 [.ref 48, .int l1, .long x1, .null, .int 0] [] δ Q)))) ∧ (¬ l1 < (δ.1 48 27) → Q 0 δ))) : mi_wI N d 166 2 [.ref 48, .int l1, .null, .null, .null] [] δ Q := by
  unfold mi_wI
  refine ms_seq mB_166 mO_166 [(.iload_n 1, 1), (.aload_n 0, 1)] (pc' := 4) (L' := [.ref 48, .int l1, .null, .null, .null]) (st' := [.ref 48, .int l1]) ⟨dX12_isOver_2, dX12_isOver_3, trivial⟩ rfl ?_
  refine ms_getI mB_166 mO_166 dX12_isOver_4 mF_12_187 (gk_48 N) (Or.inl rfl) ?_
  refine ms_icmp_ge mB_166 dX12_isOver_7 (t := 91) rfl (fun c => ?_) (fun c => ?_)
  · have F := F.2 c
    refine ms_seq mB_166 mO_166 [(.iconst 0, 1)] (pc' := 92) (L' := [.ref 48, .int l1, .null, .null, .null]) (st' := [.int 0]) ⟨dX12_isOver_91, trivial⟩ rfl ?_
    exact ms_zret mB_166 dX12_isOver_92 mR_166 (by decide) ⟨_, rfl, rfl, F⟩
  · have F := F.1 c
    refine ms_seq mB_166 mO_166 [(.aload_n 0, 1)] (pc' := 11) (L' := [.ref 48, .int l1, .null, .null, .null]) (st' := [.ref 48]) ⟨dX12_isOver_10, trivial⟩ rfl ?_
    refine ms_getA mB_166 mO_166 dX12_isOver_11 mF_12_33 (gk_48 N) rfl (b := 55) (gr_48_9 N) ?_
    refine ms_seq mB_166 mO_166 [(.aload_n 0, 1)] (pc' := 15) (L' := [.ref 48, .int l1, .null, .null, .null]) (st' := [.ref 48, .ref 55]) ⟨dX12_isOver_14, trivial⟩ rfl ?_
    refine ms_getA mB_166 mO_166 dX12_isOver_15 mF_12_77 (gk_48 N) rfl (b := 68) (gr_48_28 N) ?_
    refine ms_seq mB_166 mO_166 [(.iload_n 1, 1)] (pc' := 19) (L' := [.ref 48, .int l1, .null, .null, .null]) (st' := [.int l1, .ref 68, .ref 55]) ⟨dX12_isOver_18, trivial⟩ rfl ?_
    have G := F.1
    have F := F.2
    refine ms_iald mB_166 dX12_isOver_19 (Or.inl (gk_68 N)) (by rw [gl_68 N]; exact G) ?_
    have G := F.1
    have F := F.2
    refine ms_lald mB_166 dX12_isOver_20 (gk_55 N) (by rw [gl_55 N]; exact G) ?_
    refine mr_topl (fun x1 e_x1 => ?_)
    have F := F x1 e_x1
    refine ms_seq mB_166 mO_166 [(.lstore_n 2, 1), (.iconst 0, 1), (.istore 4, 2)] (pc' := 25) (L' := [.ref 48, .int l1, .long x1, .null, .int 0]) (st' := []) ⟨dX12_isOver_21, dX12_isOver_22, dX12_isOver_23, trivial⟩ rfl ?_
    exact F
set_option maxRecDepth 100000 in
theorem q12_isOver_25 {N d : Nat} (hd : 5 ≤ d) {l1 l4 : Int32} {l2 : Int64} {δ : mi_D} {Q : Int32 → mi_D → Prop} (F : ((l4 < (δ.1 48 27) → (mi_ix l4 64 = true ∧ (mi_ix l1 64 = true ∧ (((δ.2.1 68 (Int32.toNatClampNeg l4)) = (δ.2.1 68 (Int32.toNatClampNeg l1)) → (mi_ix l4 64 = true ∧ (∀ x4 : Int64, x4 = (l2 + (δ.2.2 69 (Int32.toNatClampNeg l4))) → mi_wI N d 166 25 [.ref 48, .int l1, .long x4, .null, .int (l4 + 1)] [] δ Q))) ∧ (¬ (δ.2.1 68 (Int32.toNatClampNeg l4)) = (δ.2.1 68 (Int32.toNatClampNeg l1)) → (∀ x3 : Int64, x3 = (l2 + 0) → mi_wI N d 166 25 [.ref 48, .int l1, .long x3, .null, .int (l4 + 1)] [] δ Q)))))) ∧ (¬ l4 < (δ.1 48 27) → (mi_wI N (d - 1) 148 0 [.long l2, .null, .long (-10000000000000000), .null, .long 10000000000000000, .null] [] δ (fun r2 δ1 => ((r2 = 0 → Q 1 δ1) ∧ (¬ r2 = 0 → mi_wI N d 166 2 [.ref 48, .int (l1 + 1), .long l2, .null, .int l4] [] δ1 Q))))))) : mi_wI N d 166 25 [.ref 48, .int l1, .long l2, .null, .int l4] [] δ Q := by
  unfold mi_wI
  refine ms_seq mB_166 mO_166 [(.iload 4, 2), (.aload_n 0, 1)] (pc' := 28) (L' := [.ref 48, .int l1, .long l2, .null, .int l4]) (st' := [.ref 48, .int l4]) ⟨dX12_isOver_25, dX12_isOver_27, trivial⟩ rfl ?_
  refine ms_getI mB_166 mO_166 dX12_isOver_28 mF_12_187 (gk_48 N) (Or.inl rfl) ?_
  refine ms_icmp_ge mB_166 dX12_isOver_31 (t := 70) rfl (fun c => ?_) (fun c => ?_)
  · have F := F.2 c
    refine ms_seq mB_166 mO_166 [(.lload_n 2, 1), (.ldc2_w 190, 3), (.ldc2_w 192, 3)] (pc' := 77) (L' := [.ref 48, .int l1, .long l2, .null, .int l4]) (st' := [.long 10000000000000000, .long (-10000000000000000), .long l2]) ⟨dX12_isOver_70, dX12_isOver_71, dX12_isOver_74, trivial⟩ rfl ?_
    refine ms_callsI mB_166 mO_166 (by omega) dX12_isOver_77 mQ_12_116 mC_12_116 mL_148 (by decide) rfl (Nat.le_of_ble_eq_true rfl) (Nat.le_of_ble_eq_true rfl) rfl F (fun r2 δ1 F => ?_)
    refine ms_if_ne mB_166 dX12_isOver_80 (t := 85) rfl (fun c => ?_) (fun c => ?_)
    · have F := F.2 c
      refine ms_seq mB_166 mO_166 [(.iinc 1 1, 3)] (pc' := 88) (L' := [.ref 48, .int (l1 + 1), .long l2, .null, .int l4]) (st' := []) ⟨dX12_isOver_85, trivial⟩ rfl ?_
      refine ms_goto mB_166 dX12_isOver_88 (t := 2) rfl ?_
      exact F
    · have F := F.1 c
      refine ms_seq mB_166 mO_166 [(.iconst 1, 1)] (pc' := 84) (L' := [.ref 48, .int l1, .long l2, .null, .int l4]) (st' := [.int 1]) ⟨dX12_isOver_83, trivial⟩ rfl ?_
      exact ms_zret mB_166 dX12_isOver_84 mR_166 (by decide) ⟨_, rfl, rfl, F⟩
  · have F := F.1 c
    refine ms_seq mB_166 mO_166 [(.lload_n 2, 1), (.aload_n 0, 1)] (pc' := 36) (L' := [.ref 48, .int l1, .long l2, .null, .int l4]) (st' := [.ref 48, .long l2]) ⟨dX12_isOver_34, dX12_isOver_35, trivial⟩ rfl ?_
    refine ms_getA mB_166 mO_166 dX12_isOver_36 mF_12_77 (gk_48 N) rfl (b := 68) (gr_48_28 N) ?_
    refine ms_seq mB_166 mO_166 [(.iload 4, 2)] (pc' := 41) (L' := [.ref 48, .int l1, .long l2, .null, .int l4]) (st' := [.int l4, .ref 68, .long l2]) ⟨dX12_isOver_39, trivial⟩ rfl ?_
    have G := F.1
    have F := F.2
    refine ms_iald mB_166 dX12_isOver_41 (Or.inl (gk_68 N)) (by rw [gl_68 N]; exact G) ?_
    refine ms_seq mB_166 mO_166 [(.aload_n 0, 1)] (pc' := 43) (L' := [.ref 48, .int l1, .long l2, .null, .int l4]) (st' := [.ref 48, .int (δ.2.1 68 (Int32.toNatClampNeg l4)), .long l2]) ⟨dX12_isOver_42, trivial⟩ rfl ?_
    refine ms_getA mB_166 mO_166 dX12_isOver_43 mF_12_77 (gk_48 N) rfl (b := 68) (gr_48_28 N) ?_
    refine ms_seq mB_166 mO_166 [(.iload_n 1, 1)] (pc' := 47) (L' := [.ref 48, .int l1, .long l2, .null, .int l4]) (st' := [.int l1, .ref 68, .int (δ.2.1 68 (Int32.toNatClampNeg l4)), .long l2]) ⟨dX12_isOver_46, trivial⟩ rfl ?_
    have G := F.1
    have F := F.2
    refine ms_iald mB_166 dX12_isOver_47 (Or.inl (gk_68 N)) (by rw [gl_68 N]; exact G) ?_
    refine ms_icmp_ne mB_166 dX12_isOver_48 (t := 61) rfl (fun c => ?_) (fun c => ?_)
    · have F := F.2 c
      refine ms_seq mB_166 mO_166 [(.lconst 0, 1), (.ladd, 1)] (pc' := 63) (L' := [.ref 48, .int l1, .long l2, .null, .int l4]) (st' := [.long (l2 + 0)]) ⟨dX12_isOver_61, dX12_isOver_62, trivial⟩ rfl ?_
      refine mr_topl (fun x3 e_x3 => ?_)
      have F := F x3 e_x3
      refine ms_seq mB_166 mO_166 [(.lstore_n 2, 1), (.iinc 4 1, 3)] (pc' := 67) (L' := [.ref 48, .int l1, .long x3, .null, .int (l4 + 1)]) (st' := []) ⟨dX12_isOver_63, dX12_isOver_64, trivial⟩ rfl ?_
      refine ms_goto mB_166 dX12_isOver_67 (t := 25) rfl ?_
      exact F
    · have F := F.1 c
      refine ms_seq mB_166 mO_166 [(.aload_n 0, 1)] (pc' := 52) (L' := [.ref 48, .int l1, .long l2, .null, .int l4]) (st' := [.ref 48, .long l2]) ⟨dX12_isOver_51, trivial⟩ rfl ?_
      refine ms_getA mB_166 mO_166 dX12_isOver_52 mF_12_80 (gk_48 N) rfl (b := 69) (gr_48_29 N) ?_
      refine ms_seq mB_166 mO_166 [(.iload 4, 2)] (pc' := 57) (L' := [.ref 48, .int l1, .long l2, .null, .int l4]) (st' := [.int l4, .ref 69, .long l2]) ⟨dX12_isOver_55, trivial⟩ rfl ?_
      have G := F.1
      have F := F.2
      refine ms_lald mB_166 dX12_isOver_57 (gk_69 N) (by rw [gl_69 N]; exact G) ?_
      refine ms_goto mB_166 dX12_isOver_58 (t := 62) rfl ?_
      refine ms_seq mB_166 mO_166 [(.ladd, 1)] (pc' := 63) (L' := [.ref 48, .int l1, .long l2, .null, .int l4]) (st' := [.long (l2 + (δ.2.2 69 (Int32.toNatClampNeg l4)))]) ⟨dX12_isOver_62, trivial⟩ rfl ?_
      refine mr_topl (fun x4 e_x4 => ?_)
      have F := F x4 e_x4
      refine ms_seq mB_166 mO_166 [(.lstore_n 2, 1), (.iinc 4 1, 3)] (pc' := 67) (L' := [.ref 48, .int l1, .long x4, .null, .int (l4 + 1)]) (st' := []) ⟨dX12_isOver_63, dX12_isOver_64, trivial⟩ rfl ?_
      refine ms_goto mB_166 dX12_isOver_67 (t := 25) rfl ?_
      exact F
set_option maxRecDepth 100000 in
theorem q12_isOver_2a {N d : Nat} (hd : 5 ≤ d) {l1 l4 : Int32} {l2 : Int64} {δ : mi_D} {Q : Int32 → mi_D → Prop} (F : ((l1 < (δ.1 48 27) → (mi_ix l1 64 = true ∧ (mi_ix (δ.2.1 68 (Int32.toNatClampNeg l1)) 60 = true ∧ (∀ x1 : Int64, x1 = (δ.2.2 55 (Int32.toNatClampNeg (δ.2.1 68 (Int32.toNatClampNeg l1)))) → mi_wI N d 166 25 [.ref 48, .int l1, .long x1, .null, .int 0] [] δ Q)))) ∧ (¬ l1 < (δ.1 48 27) → Q 0 δ))) : mi_wI N d 166 2 [.ref 48, .int l1, .long l2, .null, .int l4] [] δ Q := by
  unfold mi_wI
  refine ms_seq mB_166 mO_166 [(.iload_n 1, 1), (.aload_n 0, 1)] (pc' := 4) (L' := [.ref 48, .int l1, .long l2, .null, .int l4]) (st' := [.ref 48, .int l1]) ⟨dX12_isOver_2, dX12_isOver_3, trivial⟩ rfl ?_
  refine ms_getI mB_166 mO_166 dX12_isOver_4 mF_12_187 (gk_48 N) (Or.inl rfl) ?_
  refine ms_icmp_ge mB_166 dX12_isOver_7 (t := 91) rfl (fun c => ?_) (fun c => ?_)
  · have F := F.2 c
    refine ms_seq mB_166 mO_166 [(.iconst 0, 1)] (pc' := 92) (L' := [.ref 48, .int l1, .long l2, .null, .int l4]) (st' := [.int 0]) ⟨dX12_isOver_91, trivial⟩ rfl ?_
    exact ms_zret mB_166 dX12_isOver_92 mR_166 (by decide) ⟨_, rfl, rfl, F⟩
  · have F := F.1 c
    refine ms_seq mB_166 mO_166 [(.aload_n 0, 1)] (pc' := 11) (L' := [.ref 48, .int l1, .long l2, .null, .int l4]) (st' := [.ref 48]) ⟨dX12_isOver_10, trivial⟩ rfl ?_
    refine ms_getA mB_166 mO_166 dX12_isOver_11 mF_12_33 (gk_48 N) rfl (b := 55) (gr_48_9 N) ?_
    refine ms_seq mB_166 mO_166 [(.aload_n 0, 1)] (pc' := 15) (L' := [.ref 48, .int l1, .long l2, .null, .int l4]) (st' := [.ref 48, .ref 55]) ⟨dX12_isOver_14, trivial⟩ rfl ?_
    refine ms_getA mB_166 mO_166 dX12_isOver_15 mF_12_77 (gk_48 N) rfl (b := 68) (gr_48_28 N) ?_
    refine ms_seq mB_166 mO_166 [(.iload_n 1, 1)] (pc' := 19) (L' := [.ref 48, .int l1, .long l2, .null, .int l4]) (st' := [.int l1, .ref 68, .ref 55]) ⟨dX12_isOver_18, trivial⟩ rfl ?_
    have G := F.1
    have F := F.2
    refine ms_iald mB_166 dX12_isOver_19 (Or.inl (gk_68 N)) (by rw [gl_68 N]; exact G) ?_
    have G := F.1
    have F := F.2
    refine ms_lald mB_166 dX12_isOver_20 (gk_55 N) (by rw [gl_55 N]; exact G) ?_
    refine mr_topl (fun x1 e_x1 => ?_)
    have F := F x1 e_x1
    refine ms_seq mB_166 mO_166 [(.lstore_n 2, 1), (.iconst 0, 1), (.istore 4, 2)] (pc' := 25) (L' := [.ref 48, .int l1, .long x1, .null, .int 0]) (st' := []) ⟨dX12_isOver_21, dX12_isOver_22, dX12_isOver_23, trivial⟩ rfl ?_
    exact F
set_option maxRecDepth 100000 in
theorem q12_judged_0 {N d : Nat} (hd : 5 ≤ d) {p0 : Int32} {δ : mi_D} {Q : Int32 → mi_D → Prop} (F : (((δ.1 48 27) < 2 → Q (-7) δ) ∧ (¬ (δ.1 48 27) < 2 → mi_wI N d 167 19 [.ref 48, .int p0, .long 0, .null, .int 0, .int 0] [] δ Q))) : mi_wI N d 167 0 [.ref 48, .int p0, .null, .null, .null, .null] [] δ Q := by
  unfold mi_wI
  refine ms_seq mB_167 mO_167 [(.aload_n 0, 1)] (pc' := 1) (L' := [.ref 48, .int p0, .null, .null, .null, .null]) (st' := [.ref 48]) ⟨dX12_judged_0, trivial⟩ rfl ?_
  refine ms_getI mB_167 mO_167 dX12_judged_1 mF_12_187 (gk_48 N) (Or.inl rfl) ?_
  refine ms_seq mB_167 mO_167 [(.iconst 2, 1)] (pc' := 5) (L' := [.ref 48, .int p0, .null, .null, .null, .null]) (st' := [.int 2, .int (δ.1 48 27)]) ⟨dX12_judged_4, trivial⟩ rfl ?_
  refine ms_icmp_ge mB_167 dX12_judged_5 (t := 11) rfl (fun c => ?_) (fun c => ?_)
  · have F := F.2 c
    refine ms_seq mB_167 mO_167 [(.lconst 0, 1), (.lstore_n 2, 1), (.iconst 0, 1), (.istore 4, 2), (.iconst 0, 1), (.istore 5, 2)] (pc' := 19) (L' := [.ref 48, .int p0, .long 0, .null, .int 0, .int 0]) (st' := []) ⟨dX12_judged_11, dX12_judged_12, dX12_judged_13, dX12_judged_14, dX12_judged_16, dX12_judged_17, trivial⟩ rfl ?_
    exact F
  · have F := F.1 c
    refine ms_seq mB_167 mO_167 [(.bipush (-7), 2)] (pc' := 10) (L' := [.ref 48, .int p0, .null, .null, .null, .null]) (st' := [.int (-7)]) ⟨dX12_judged_8, trivial⟩ rfl ?_
    exact ms_iret mB_167 dX12_judged_10 mR_167 ⟨_, rfl, rfl, F⟩
set_option maxRecDepth 100000 in
theorem q12_judged_19 {N d : Nat} (hd : 5 ≤ d) {l1 l4 l5 : Int32} {l2 : Int64} {δ : mi_D} {Q : Int32 → mi_D → Prop} (F : ((l5 < (δ.1 48 27) → (mi_ix l5 64 = true ∧ (∀ x7 : Int64, x7 = (l2 + (δ.2.2 69 (Int32.toNatClampNeg l5))) → ((l4 = 0 → (mi_ix l5 64 = true ∧ (mi_ix (δ.2.1 68 (Int32.toNatClampNeg l5)) 60 = true ∧ (((δ.2.1 54 (Int32.toNatClampNeg (δ.2.1 68 (Int32.toNatClampNeg l5)))) = 0 → mi_wI N d 167 19 [.ref 48, .int l1, .long x7, .null, .int 0, .int (l5 + 1)] [] δ Q) ∧ (¬ (δ.2.1 54 (Int32.toNatClampNeg (δ.2.1 68 (Int32.toNatClampNeg l5)))) = 0 → mi_wI N d 167 19 [.ref 48, .int l1, .long x7, .null, .int 1, .int (l5 + 1)] [] δ Q))))) ∧ (¬ l4 = 0 → mi_wI N d 167 19 [.ref 48, .int l1, .long x7, .null, .int 1, .int (l5 + 1)] [] δ Q))))) ∧ (¬ l5 < (δ.1 48 27) → (((lg_cmp l2 0) = 0 → (mi_wI N (d - 1) 165 0 [.ref 48, .int l1, .null, .null] [] δ (fun r2 δ1 => ((r2 = (-1) → Q (-9) δ1) ∧ (¬ r2 = (-1) → ((r2 < (δ1.1 48 12) → Q (-10) δ1) ∧ (¬ r2 < (δ1.1 48 12) → ((l4 = 0 → (mi_wI N (d - 1) 166 0 [.ref 48, .null, .null, .null, .null] [] δ1 (fun r4 δ3 => ((r4 = 0 → (((δ3.1 48 15) = 400 → Q (-13) δ3) ∧ (¬ (δ3.1 48 15) = 400 → (mi_wI N (d - 1) 152 0 [.ref 48] [] δ3 (fun r6 δ5 => ((r6 = 0 → Q (-13) δ5) ∧ (¬ r6 = 0 → Q 0 δ5))))))) ∧ (¬ r4 = 0 → Q (-12) δ3))))) ∧ (¬ l4 = 0 → Q (-11) δ1))))))))) ∧ (¬ (lg_cmp l2 0) = 0 → Q (-8) δ))))) : mi_wI N d 167 19 [.ref 48, .int l1, .long l2, .null, .int l4, .int l5] [] δ Q := by
  unfold mi_wI
  refine ms_seq mB_167 mO_167 [(.iload 5, 2), (.aload_n 0, 1)] (pc' := 22) (L' := [.ref 48, .int l1, .long l2, .null, .int l4, .int l5]) (st' := [.ref 48, .int l5]) ⟨dX12_judged_19, dX12_judged_21, trivial⟩ rfl ?_
  refine ms_getI mB_167 mO_167 dX12_judged_22 mF_12_187 (gk_48 N) (Or.inl rfl) ?_
  refine ms_icmp_ge mB_167 dX12_judged_25 (t := 71) rfl (fun c => ?_) (fun c => ?_)
  · have F := F.2 c
    refine ms_seq mB_167 mO_167 [(.lload_n 2, 1), (.lconst 0, 1), (.lcmp, 1)] (pc' := 74) (L' := [.ref 48, .int l1, .long l2, .null, .int l4, .int l5]) (st' := [.int (lg_cmp l2 0)]) ⟨dX12_judged_71, dX12_judged_72, dX12_judged_73, trivial⟩ rfl ?_
    refine ms_if_eq mB_167 dX12_judged_74 (t := 80) rfl (fun c => ?_) (fun c => ?_)
    · have F := F.1 c
      refine ms_seq mB_167 mO_167 [(.aload_n 0, 1), (.iload_n 1, 1)] (pc' := 82) (L' := [.ref 48, .int l1, .long l2, .null, .int l4, .int l5]) (st' := [.int l1, .ref 48]) ⟨dX12_judged_80, dX12_judged_81, trivial⟩ rfl ?_
      refine ms_callvI mB_167 mO_167 (by omega) dX12_judged_82 mQ_12_194 mC_12_194 mL_165 mO_165 rfl (Nat.le_of_ble_eq_true rfl) (Nat.le_of_ble_eq_true rfl) (gk_48 N) rfl F (fun r2 δ1 F => ?_)
      refine ms_seq mB_167 mO_167 [(.istore 5, 2), (.iload 5, 2), (.iconst (-1), 1)] (pc' := 90) (L' := [.ref 48, .int l1, .long l2, .null, .int l4, .int r2]) (st' := [.int (-1), .int r2]) ⟨dX12_judged_85, dX12_judged_87, dX12_judged_89, trivial⟩ rfl ?_
      refine ms_icmp_ne mB_167 dX12_judged_90 (t := 96) rfl (fun c => ?_) (fun c => ?_)
      · have F := F.2 c
        refine ms_seq mB_167 mO_167 [(.iload 5, 2), (.aload_n 0, 1)] (pc' := 99) (L' := [.ref 48, .int l1, .long l2, .null, .int l4, .int r2]) (st' := [.ref 48, .int r2]) ⟨dX12_judged_96, dX12_judged_98, trivial⟩ rfl ?_
        refine ms_getI mB_167 mO_167 dX12_judged_99 mF_12_197 (gk_48 N) (Or.inl rfl) ?_
        refine ms_icmp_ge mB_167 dX12_judged_102 (t := 108) rfl (fun c => ?_) (fun c => ?_)
        · have F := F.2 c
          refine ms_seq mB_167 mO_167 [(.iload 4, 2)] (pc' := 110) (L' := [.ref 48, .int l1, .long l2, .null, .int l4, .int r2]) (st' := [.int l4]) ⟨dX12_judged_108, trivial⟩ rfl ?_
          refine ms_if_eq mB_167 dX12_judged_110 (t := 116) rfl (fun c => ?_) (fun c => ?_)
          · have F := F.1 c
            refine ms_seq mB_167 mO_167 [(.aload_n 0, 1)] (pc' := 117) (L' := [.ref 48, .int l1, .long l2, .null, .int l4, .int r2]) (st' := [.ref 48]) ⟨dX12_judged_116, trivial⟩ rfl ?_
            refine ms_callvI mB_167 mO_167 (by omega) dX12_judged_117 mQ_12_200 mC_12_200 mL_166 mO_166 rfl (Nat.le_of_ble_eq_true rfl) (Nat.le_of_ble_eq_true rfl) (gk_48 N) rfl F (fun r4 δ3 F => ?_)
            refine ms_if_eq mB_167 dX12_judged_120 (t := 126) rfl (fun c => ?_) (fun c => ?_)
            · have F := F.1 c
              refine ms_seq mB_167 mO_167 [(.aload_n 0, 1)] (pc' := 127) (L' := [.ref 48, .int l1, .long l2, .null, .int l4, .int r2]) (st' := [.ref 48]) ⟨dX12_judged_126, trivial⟩ rfl ?_
              refine ms_getI mB_167 mO_167 dX12_judged_127 mF_12_203 (gk_48 N) (Or.inl rfl) ?_
              refine ms_seq mB_167 mO_167 [(.sipush 400, 3)] (pc' := 133) (L' := [.ref 48, .int l1, .long l2, .null, .int l4, .int r2]) (st' := [.int 400, .int (δ3.1 48 15)]) ⟨dX12_judged_130, trivial⟩ rfl ?_
              refine ms_icmp_eq mB_167 dX12_judged_133 (t := 143) rfl (fun c => ?_) (fun c => ?_)
              · have F := F.1 c
                refine ms_seq mB_167 mO_167 [(.bipush (-13), 2)] (pc' := 145) (L' := [.ref 48, .int l1, .long l2, .null, .int l4, .int r2]) (st' := [.int (-13)]) ⟨dX12_judged_143, trivial⟩ rfl ?_
                refine ms_goto mB_167 dX12_judged_145 (t := 149) rfl ?_
                exact ms_iret mB_167 dX12_judged_149 mR_167 ⟨_, rfl, rfl, F⟩
              · have F := F.2 c
                refine ms_seq mB_167 mO_167 [(.aload_n 0, 1)] (pc' := 137) (L' := [.ref 48, .int l1, .long l2, .null, .int l4, .int r2]) (st' := [.ref 48]) ⟨dX12_judged_136, trivial⟩ rfl ?_
                refine ms_callvI mB_167 mO_167 (by omega) dX12_judged_137 mQ_12_166 mC_12_166 mL_152 mO_152 rfl (Nat.le_of_ble_eq_true rfl) (Nat.le_of_ble_eq_true rfl) (gk_48 N) rfl F (fun r6 δ5 F => ?_)
                refine ms_if_ne mB_167 dX12_judged_140 (t := 148) rfl (fun c => ?_) (fun c => ?_)
                · have F := F.2 c
                  refine ms_seq mB_167 mO_167 [(.iconst 0, 1)] (pc' := 149) (L' := [.ref 48, .int l1, .long l2, .null, .int l4, .int r2]) (st' := [.int 0]) ⟨dX12_judged_148, trivial⟩ rfl ?_
                  exact ms_iret mB_167 dX12_judged_149 mR_167 ⟨_, rfl, rfl, F⟩
                · have F := F.1 c
                  refine ms_seq mB_167 mO_167 [(.bipush (-13), 2)] (pc' := 145) (L' := [.ref 48, .int l1, .long l2, .null, .int l4, .int r2]) (st' := [.int (-13)]) ⟨dX12_judged_143, trivial⟩ rfl ?_
                  refine ms_goto mB_167 dX12_judged_145 (t := 149) rfl ?_
                  exact ms_iret mB_167 dX12_judged_149 mR_167 ⟨_, rfl, rfl, F⟩
            · have F := F.2 c
              refine ms_seq mB_167 mO_167 [(.bipush (-12), 2)] (pc' := 125) (L' := [.ref 48, .int l1, .long l2, .null, .int l4, .int r2]) (st' := [.int (-12)]) ⟨dX12_judged_123, trivial⟩ rfl ?_
              exact ms_iret mB_167 dX12_judged_125 mR_167 ⟨_, rfl, rfl, F⟩
          · have F := F.2 c
            refine ms_seq mB_167 mO_167 [(.bipush (-11), 2)] (pc' := 115) (L' := [.ref 48, .int l1, .long l2, .null, .int l4, .int r2]) (st' := [.int (-11)]) ⟨dX12_judged_113, trivial⟩ rfl ?_
            exact ms_iret mB_167 dX12_judged_115 mR_167 ⟨_, rfl, rfl, F⟩
        · have F := F.1 c
          refine ms_seq mB_167 mO_167 [(.bipush (-10), 2)] (pc' := 107) (L' := [.ref 48, .int l1, .long l2, .null, .int l4, .int r2]) (st' := [.int (-10)]) ⟨dX12_judged_105, trivial⟩ rfl ?_
          exact ms_iret mB_167 dX12_judged_107 mR_167 ⟨_, rfl, rfl, F⟩
      · have F := F.1 c
        refine ms_seq mB_167 mO_167 [(.bipush (-9), 2)] (pc' := 95) (L' := [.ref 48, .int l1, .long l2, .null, .int l4, .int r2]) (st' := [.int (-9)]) ⟨dX12_judged_93, trivial⟩ rfl ?_
        exact ms_iret mB_167 dX12_judged_95 mR_167 ⟨_, rfl, rfl, F⟩
    · have F := F.2 c
      refine ms_seq mB_167 mO_167 [(.bipush (-8), 2)] (pc' := 79) (L' := [.ref 48, .int l1, .long l2, .null, .int l4, .int l5]) (st' := [.int (-8)]) ⟨dX12_judged_77, trivial⟩ rfl ?_
      exact ms_iret mB_167 dX12_judged_79 mR_167 ⟨_, rfl, rfl, F⟩
  · have F := F.1 c
    refine ms_seq mB_167 mO_167 [(.lload_n 2, 1), (.aload_n 0, 1)] (pc' := 30) (L' := [.ref 48, .int l1, .long l2, .null, .int l4, .int l5]) (st' := [.ref 48, .long l2]) ⟨dX12_judged_28, dX12_judged_29, trivial⟩ rfl ?_
    refine ms_getA mB_167 mO_167 dX12_judged_30 mF_12_80 (gk_48 N) rfl (b := 69) (gr_48_29 N) ?_
    refine ms_seq mB_167 mO_167 [(.iload 5, 2)] (pc' := 35) (L' := [.ref 48, .int l1, .long l2, .null, .int l4, .int l5]) (st' := [.int l5, .ref 69, .long l2]) ⟨dX12_judged_33, trivial⟩ rfl ?_
    have G := F.1
    have F := F.2
    refine ms_lald mB_167 dX12_judged_35 (gk_69 N) (by rw [gl_69 N]; exact G) ?_
    refine ms_seq mB_167 mO_167 [(.ladd, 1)] (pc' := 37) (L' := [.ref 48, .int l1, .long l2, .null, .int l4, .int l5]) (st' := [.long (l2 + (δ.2.2 69 (Int32.toNatClampNeg l5)))]) ⟨dX12_judged_36, trivial⟩ rfl ?_
    refine mr_topl (fun x7 e_x7 => ?_)
    have F := F x7 e_x7
    refine ms_seq mB_167 mO_167 [(.lstore_n 2, 1), (.iload 4, 2)] (pc' := 40) (L' := [.ref 48, .int l1, .long x7, .null, .int l4, .int l5]) (st' := [.int l4]) ⟨dX12_judged_37, dX12_judged_38, trivial⟩ rfl ?_
    refine ms_if_ne mB_167 dX12_judged_40 (t := 58) rfl (fun c => ?_) (fun c => ?_)
    · have F := F.2 c
      refine ms_seq mB_167 mO_167 [(.iconst 1, 1)] (pc' := 59) (L' := [.ref 48, .int l1, .long x7, .null, .int l4, .int l5]) (st' := [.int 1]) ⟨dX12_judged_58, trivial⟩ rfl ?_
      refine ms_goto mB_167 dX12_judged_59 (t := 63) rfl ?_
      refine ms_seq mB_167 mO_167 [(.istore 4, 2), (.iinc 5 1, 3)] (pc' := 68) (L' := [.ref 48, .int l1, .long x7, .null, .int 1, .int (l5 + 1)]) (st' := []) ⟨dX12_judged_63, dX12_judged_65, trivial⟩ rfl ?_
      refine ms_goto mB_167 dX12_judged_68 (t := 19) rfl ?_
      exact F
    · have F := F.1 c
      refine ms_seq mB_167 mO_167 [(.aload_n 0, 1)] (pc' := 44) (L' := [.ref 48, .int l1, .long x7, .null, .int l4, .int l5]) (st' := [.ref 48]) ⟨dX12_judged_43, trivial⟩ rfl ?_
      refine ms_getA mB_167 mO_167 dX12_judged_44 mF_12_30 (gk_48 N) rfl (b := 54) (gr_48_8 N) ?_
      refine ms_seq mB_167 mO_167 [(.aload_n 0, 1)] (pc' := 48) (L' := [.ref 48, .int l1, .long x7, .null, .int l4, .int l5]) (st' := [.ref 48, .ref 54]) ⟨dX12_judged_47, trivial⟩ rfl ?_
      refine ms_getA mB_167 mO_167 dX12_judged_48 mF_12_77 (gk_48 N) rfl (b := 68) (gr_48_28 N) ?_
      refine ms_seq mB_167 mO_167 [(.iload 5, 2)] (pc' := 53) (L' := [.ref 48, .int l1, .long x7, .null, .int l4, .int l5]) (st' := [.int l5, .ref 68, .ref 54]) ⟨dX12_judged_51, trivial⟩ rfl ?_
      have G := F.1
      have F := F.2
      refine ms_iald mB_167 dX12_judged_53 (Or.inl (gk_68 N)) (by rw [gl_68 N]; exact G) ?_
      have G := F.1
      have F := F.2
      refine ms_bald mB_167 dX12_judged_54 (gk_54 N) (by rw [gl_54 N]; exact G) ?_
      refine ms_if_eq mB_167 dX12_judged_55 (t := 62) rfl (fun c => ?_) (fun c => ?_)
      · have F := F.1 c
        refine ms_seq mB_167 mO_167 [(.iconst 0, 1), (.istore 4, 2), (.iinc 5 1, 3)] (pc' := 68) (L' := [.ref 48, .int l1, .long x7, .null, .int 0, .int (l5 + 1)]) (st' := []) ⟨dX12_judged_62, dX12_judged_63, dX12_judged_65, trivial⟩ rfl ?_
        refine ms_goto mB_167 dX12_judged_68 (t := 19) rfl ?_
        exact F
      · have F := F.2 c
        refine ms_seq mB_167 mO_167 [(.iconst 1, 1)] (pc' := 59) (L' := [.ref 48, .int l1, .long x7, .null, .int l4, .int l5]) (st' := [.int 1]) ⟨dX12_judged_58, trivial⟩ rfl ?_
        refine ms_goto mB_167 dX12_judged_59 (t := 63) rfl ?_
        refine ms_seq mB_167 mO_167 [(.istore 4, 2), (.iinc 5 1, 3)] (pc' := 68) (L' := [.ref 48, .int l1, .long x7, .null, .int 1, .int (l5 + 1)]) (st' := []) ⟨dX12_judged_63, dX12_judged_65, trivial⟩ rfl ?_
        refine ms_goto mB_167 dX12_judged_68 (t := 19) rfl ?_
        exact F
set_option maxRecDepth 100000 in
theorem q12_enter_0 {N d : Nat} (hd : 5 ≤ d) {p0 p1 p2 p3 : Int32} {δ : mi_D} {Q : Int32 → mi_D → Prop} (F : (∀ x1 : Int32, x1 = (δ.1 48 15) → (mi_ix x1 400 = true ∧ (∀ δ2 : mi_D, δ2 = mi_setA δ 58 (Int32.toNatClampNeg x1) p0 → (mi_ix x1 400 = true ∧ (∀ δ3 : mi_D, δ3 = mi_setA δ2 59 (Int32.toNatClampNeg x1) p1 → (mi_ix x1 400 = true ∧ (∀ δ4 : mi_D, δ4 = mi_setA δ3 60 (Int32.toNatClampNeg x1) p2 → (mi_ix x1 400 = true ∧ (∀ δ5 : mi_D, δ5 = mi_setA δ4 62 (Int32.toNatClampNeg x1) (-1) → (mi_ix x1 400 = true ∧ (∀ δ6 : mi_D, δ6 = mi_setA δ5 63 (Int32.toNatClampNeg x1) p3 → mi_wI N d 168 50 [.ref 48, .int p0, .int p1, .int p2, .int p3, .int x1, .int 0] [] δ6 Q)))))))))))) : mi_wI N d 168 0 [.ref 48, .int p0, .int p1, .int p2, .int p3, .null, .null] [] δ Q := by
  unfold mi_wI
  refine ms_seq mB_168 mO_168 [(.aload_n 0, 1)] (pc' := 1) (L' := [.ref 48, .int p0, .int p1, .int p2, .int p3, .null, .null]) (st' := [.ref 48]) ⟨dX12_enter_0, trivial⟩ rfl ?_
  refine ms_getI mB_168 mO_168 dX12_enter_1 mF_12_203 (gk_48 N) (Or.inl rfl) ?_
  refine mr_topi (fun x1 e_x1 => ?_)
  have F := F x1 e_x1
  refine ms_seq mB_168 mO_168 [(.istore 5, 2), (.aload_n 0, 1)] (pc' := 7) (L' := [.ref 48, .int p0, .int p1, .int p2, .int p3, .int x1, .null]) (st' := [.ref 48]) ⟨dX12_enter_4, dX12_enter_6, trivial⟩ rfl ?_
  refine ms_getA mB_168 mO_168 dX12_enter_7 mF_12_47 (gk_48 N) rfl (b := 58) (gr_48_16 N) ?_
  refine ms_seq mB_168 mO_168 [(.iload 5, 2), (.iload_n 1, 1)] (pc' := 13) (L' := [.ref 48, .int p0, .int p1, .int p2, .int p3, .int x1, .null]) (st' := [.int p0, .int x1, .ref 58]) ⟨dX12_enter_10, dX12_enter_12, trivial⟩ rfl ?_
  have G := F.1
  have F := F.2
  refine ms_iast mB_168 dX12_enter_13 (gk_58 N) (by rw [gl_58 N]; exact G) ?_
  refine mr_st (fun δ2 e_δ2 => ?_)
  have F := F δ2 e_δ2
  refine ms_seq mB_168 mO_168 [(.aload_n 0, 1)] (pc' := 15) (L' := [.ref 48, .int p0, .int p1, .int p2, .int p3, .int x1, .null]) (st' := [.ref 48]) ⟨dX12_enter_14, trivial⟩ rfl ?_
  refine ms_getA mB_168 mO_168 dX12_enter_15 mF_12_50 (gk_48 N) rfl (b := 59) (gr_48_17 N) ?_
  refine ms_seq mB_168 mO_168 [(.iload 5, 2), (.iload_n 2, 1)] (pc' := 21) (L' := [.ref 48, .int p0, .int p1, .int p2, .int p3, .int x1, .null]) (st' := [.int p1, .int x1, .ref 59]) ⟨dX12_enter_18, dX12_enter_20, trivial⟩ rfl ?_
  have G := F.1
  have F := F.2
  refine ms_iast mB_168 dX12_enter_21 (gk_59 N) (by rw [gl_59 N]; exact G) ?_
  refine mr_st (fun δ3 e_δ3 => ?_)
  have F := F δ3 e_δ3
  refine ms_seq mB_168 mO_168 [(.aload_n 0, 1)] (pc' := 23) (L' := [.ref 48, .int p0, .int p1, .int p2, .int p3, .int x1, .null]) (st' := [.ref 48]) ⟨dX12_enter_22, trivial⟩ rfl ?_
  refine ms_getA mB_168 mO_168 dX12_enter_23 mF_12_53 (gk_48 N) rfl (b := 60) (gr_48_18 N) ?_
  refine ms_seq mB_168 mO_168 [(.iload 5, 2), (.iload_n 3, 1)] (pc' := 29) (L' := [.ref 48, .int p0, .int p1, .int p2, .int p3, .int x1, .null]) (st' := [.int p2, .int x1, .ref 60]) ⟨dX12_enter_26, dX12_enter_28, trivial⟩ rfl ?_
  have G := F.1
  have F := F.2
  refine ms_iast mB_168 dX12_enter_29 (gk_60 N) (by rw [gl_60 N]; exact G) ?_
  refine mr_st (fun δ4 e_δ4 => ?_)
  have F := F δ4 e_δ4
  refine ms_seq mB_168 mO_168 [(.aload_n 0, 1)] (pc' := 31) (L' := [.ref 48, .int p0, .int p1, .int p2, .int p3, .int x1, .null]) (st' := [.ref 48]) ⟨dX12_enter_30, trivial⟩ rfl ?_
  refine ms_getA mB_168 mO_168 dX12_enter_31 mF_12_59 (gk_48 N) rfl (b := 62) (gr_48_20 N) ?_
  refine ms_seq mB_168 mO_168 [(.iload 5, 2), (.iconst (-1), 1)] (pc' := 37) (L' := [.ref 48, .int p0, .int p1, .int p2, .int p3, .int x1, .null]) (st' := [.int (-1), .int x1, .ref 62]) ⟨dX12_enter_34, dX12_enter_36, trivial⟩ rfl ?_
  have G := F.1
  have F := F.2
  refine ms_iast mB_168 dX12_enter_37 (gk_62 N) (by rw [gl_62 N]; exact G) ?_
  refine mr_st (fun δ5 e_δ5 => ?_)
  have F := F δ5 e_δ5
  refine ms_seq mB_168 mO_168 [(.aload_n 0, 1)] (pc' := 39) (L' := [.ref 48, .int p0, .int p1, .int p2, .int p3, .int x1, .null]) (st' := [.ref 48]) ⟨dX12_enter_38, trivial⟩ rfl ?_
  refine ms_getA mB_168 mO_168 dX12_enter_39 mF_12_62 (gk_48 N) rfl (b := 63) (gr_48_21 N) ?_
  refine ms_seq mB_168 mO_168 [(.iload 5, 2), (.iload 4, 2)] (pc' := 46) (L' := [.ref 48, .int p0, .int p1, .int p2, .int p3, .int x1, .null]) (st' := [.int p3, .int x1, .ref 63]) ⟨dX12_enter_42, dX12_enter_44, trivial⟩ rfl ?_
  have G := F.1
  have F := F.2
  refine ms_iast mB_168 dX12_enter_46 (gk_63 N) (by rw [gl_63 N]; exact G) ?_
  refine mr_st (fun δ6 e_δ6 => ?_)
  have F := F δ6 e_δ6
  refine ms_seq mB_168 mO_168 [(.iconst 0, 1), (.istore 6, 2)] (pc' := 50) (L' := [.ref 48, .int p0, .int p1, .int p2, .int p3, .int x1, .int 0]) (st' := []) ⟨dX12_enter_47, dX12_enter_48, trivial⟩ rfl ?_
  exact F
set_option maxRecDepth 100000 in
theorem q12_enter_50 {N d : Nat} (hd : 5 ≤ d) {l1 l2 l3 l4 l5 l6 : Int32} {δ : mi_D} {Q : Int32 → mi_D → Prop} (F : ((l6 < (δ.1 48 27) → (mi_ix l5 401 = true ∧ (mi_ix l6 64 = true ∧ (mi_ix ((δ.2.1 61 (Int32.toNatClampNeg l5)) + l6) 24800 = true ∧ (∀ δ3 : mi_D, δ3 = mi_setA δ 64 (Int32.toNatClampNeg ((δ.2.1 61 (Int32.toNatClampNeg l5)) + l6)) (δ.2.1 68 (Int32.toNatClampNeg l6)) → (mi_ix l5 401 = true ∧ (mi_ix l6 64 = true ∧ (mi_ix ((δ3.2.1 61 (Int32.toNatClampNeg l5)) + l6) 24800 = true ∧ (∀ δ4 : mi_D, δ4 = mi_setL δ3 65 (Int32.toNatClampNeg ((δ3.2.1 61 (Int32.toNatClampNeg l5)) + l6)) (δ3.2.2 69 (Int32.toNatClampNeg l6)) → (mi_ix l6 64 = true ∧ (mi_ix (δ4.2.1 68 (Int32.toNatClampNeg l6)) 60 = true ∧ (mi_ix l6 64 = true ∧ (mi_ix (δ4.2.1 68 (Int32.toNatClampNeg l6)) 60 = true ∧ (∀ δ5 : mi_D, δ5 = mi_setL δ4 55 (Int32.toNatClampNeg (δ4.2.1 68 (Int32.toNatClampNeg l6))) ((δ4.2.2 55 (Int32.toNatClampNeg (δ4.2.1 68 (Int32.toNatClampNeg l6)))) + (δ4.2.2 69 (Int32.toNatClampNeg l6))) → mi_wI N d 168 50 [.ref 48, .int l1, .int l2, .int l3, .int l4, .int l5, .int (l6 + 1)] [] δ5 Q)))))))))))))) ∧ (¬ l6 < (δ.1 48 27) → (mi_ix l5 401 = true ∧ (mi_ix (l5 + 1) 401 = true ∧ (∀ δ1 : mi_D, δ1 = mi_setA δ 61 (Int32.toNatClampNeg (l5 + 1)) ((δ.2.1 61 (Int32.toNatClampNeg l5)) + (δ.1 48 27)) → (∀ δ2 : mi_D, δ2 = mi_setI δ1 48 15 ((δ1.1 48 15) + 1) → Q l5 δ2))))))) : mi_wI N d 168 50 [.ref 48, .int l1, .int l2, .int l3, .int l4, .int l5, .int l6] [] δ Q := by
  unfold mi_wI
  refine ms_seq mB_168 mO_168 [(.iload 6, 2), (.aload_n 0, 1)] (pc' := 53) (L' := [.ref 48, .int l1, .int l2, .int l3, .int l4, .int l5, .int l6]) (st' := [.ref 48, .int l6]) ⟨dX12_enter_50, dX12_enter_52, trivial⟩ rfl ?_
  refine ms_getI mB_168 mO_168 dX12_enter_53 mF_12_187 (gk_48 N) (Or.inl rfl) ?_
  refine ms_icmp_ge mB_168 dX12_enter_56 (t := 131) rfl (fun c => ?_) (fun c => ?_)
  · have F := F.2 c
    refine ms_seq mB_168 mO_168 [(.aload_n 0, 1)] (pc' := 132) (L' := [.ref 48, .int l1, .int l2, .int l3, .int l4, .int l5, .int l6]) (st' := [.ref 48]) ⟨dX12_enter_131, trivial⟩ rfl ?_
    refine ms_getA mB_168 mO_168 dX12_enter_132 mF_12_56 (gk_48 N) rfl (b := 61) (gr_48_19 N) ?_
    refine ms_seq mB_168 mO_168 [(.iload 5, 2), (.iconst 1, 1), (.iadd, 1), (.aload_n 0, 1)] (pc' := 140) (L' := [.ref 48, .int l1, .int l2, .int l3, .int l4, .int l5, .int l6]) (st' := [.ref 48, .int (l5 + 1), .ref 61]) ⟨dX12_enter_135, dX12_enter_137, dX12_enter_138, dX12_enter_139, trivial⟩ rfl ?_
    refine ms_getA mB_168 mO_168 dX12_enter_140 mF_12_56 (gk_48 N) rfl (b := 61) (gr_48_19 N) ?_
    refine ms_seq mB_168 mO_168 [(.iload 5, 2)] (pc' := 145) (L' := [.ref 48, .int l1, .int l2, .int l3, .int l4, .int l5, .int l6]) (st' := [.int l5, .ref 61, .int (l5 + 1), .ref 61]) ⟨dX12_enter_143, trivial⟩ rfl ?_
    have G := F.1
    have F := F.2
    refine ms_iald mB_168 dX12_enter_145 (Or.inl (gk_61 N)) (by rw [gl_61 N]; exact G) ?_
    refine ms_seq mB_168 mO_168 [(.aload_n 0, 1)] (pc' := 147) (L' := [.ref 48, .int l1, .int l2, .int l3, .int l4, .int l5, .int l6]) (st' := [.ref 48, .int (δ.2.1 61 (Int32.toNatClampNeg l5)), .int (l5 + 1), .ref 61]) ⟨dX12_enter_146, trivial⟩ rfl ?_
    refine ms_getI mB_168 mO_168 dX12_enter_147 mF_12_187 (gk_48 N) (Or.inl rfl) ?_
    refine ms_seq mB_168 mO_168 [(.iadd, 1)] (pc' := 151) (L' := [.ref 48, .int l1, .int l2, .int l3, .int l4, .int l5, .int l6]) (st' := [.int ((δ.2.1 61 (Int32.toNatClampNeg l5)) + (δ.1 48 27)), .int (l5 + 1), .ref 61]) ⟨dX12_enter_150, trivial⟩ rfl ?_
    have G := F.1
    have F := F.2
    refine ms_iast mB_168 dX12_enter_151 (gk_61 N) (by rw [gl_61 N]; exact G) ?_
    refine mr_st (fun δ1 e_δ1 => ?_)
    have F := F δ1 e_δ1
    refine ms_seq mB_168 mO_168 [(.aload_n 0, 1), (.dup, 1)] (pc' := 154) (L' := [.ref 48, .int l1, .int l2, .int l3, .int l4, .int l5, .int l6]) (st' := [.ref 48, .ref 48]) ⟨dX12_enter_152, dX12_enter_153, trivial⟩ rfl ?_
    refine ms_getI mB_168 mO_168 dX12_enter_154 mF_12_203 (gk_48 N) (Or.inl rfl) ?_
    refine ms_seq mB_168 mO_168 [(.iconst 1, 1), (.iadd, 1)] (pc' := 159) (L' := [.ref 48, .int l1, .int l2, .int l3, .int l4, .int l5, .int l6]) (st' := [.int ((δ1.1 48 15) + 1), .ref 48]) ⟨dX12_enter_157, dX12_enter_158, trivial⟩ rfl ?_
    refine ms_putI mB_168 mO_168 dX12_enter_159 mF_12_203 (gk_48 N) rfl rfl ?_
    refine mr_st (fun δ2 e_δ2 => ?_)
    have F := F δ2 e_δ2
    refine ms_seq mB_168 mO_168 [(.iload 5, 2)] (pc' := 164) (L' := [.ref 48, .int l1, .int l2, .int l3, .int l4, .int l5, .int l6]) (st' := [.int l5]) ⟨dX12_enter_162, trivial⟩ rfl ?_
    exact ms_iret mB_168 dX12_enter_164 mR_168 ⟨_, rfl, rfl, F⟩
  · have F := F.1 c
    refine ms_seq mB_168 mO_168 [(.aload_n 0, 1)] (pc' := 60) (L' := [.ref 48, .int l1, .int l2, .int l3, .int l4, .int l5, .int l6]) (st' := [.ref 48]) ⟨dX12_enter_59, trivial⟩ rfl ?_
    refine ms_getA mB_168 mO_168 dX12_enter_60 mF_12_65 (gk_48 N) rfl (b := 64) (gr_48_22 N) ?_
    refine ms_seq mB_168 mO_168 [(.aload_n 0, 1)] (pc' := 64) (L' := [.ref 48, .int l1, .int l2, .int l3, .int l4, .int l5, .int l6]) (st' := [.ref 48, .ref 64]) ⟨dX12_enter_63, trivial⟩ rfl ?_
    refine ms_getA mB_168 mO_168 dX12_enter_64 mF_12_56 (gk_48 N) rfl (b := 61) (gr_48_19 N) ?_
    refine ms_seq mB_168 mO_168 [(.iload 5, 2)] (pc' := 69) (L' := [.ref 48, .int l1, .int l2, .int l3, .int l4, .int l5, .int l6]) (st' := [.int l5, .ref 61, .ref 64]) ⟨dX12_enter_67, trivial⟩ rfl ?_
    have G := F.1
    have F := F.2
    refine ms_iald mB_168 dX12_enter_69 (Or.inl (gk_61 N)) (by rw [gl_61 N]; exact G) ?_
    refine ms_seq mB_168 mO_168 [(.iload 6, 2), (.iadd, 1), (.aload_n 0, 1)] (pc' := 74) (L' := [.ref 48, .int l1, .int l2, .int l3, .int l4, .int l5, .int l6]) (st' := [.ref 48, .int ((δ.2.1 61 (Int32.toNatClampNeg l5)) + l6), .ref 64]) ⟨dX12_enter_70, dX12_enter_72, dX12_enter_73, trivial⟩ rfl ?_
    refine ms_getA mB_168 mO_168 dX12_enter_74 mF_12_77 (gk_48 N) rfl (b := 68) (gr_48_28 N) ?_
    refine ms_seq mB_168 mO_168 [(.iload 6, 2)] (pc' := 79) (L' := [.ref 48, .int l1, .int l2, .int l3, .int l4, .int l5, .int l6]) (st' := [.int l6, .ref 68, .int ((δ.2.1 61 (Int32.toNatClampNeg l5)) + l6), .ref 64]) ⟨dX12_enter_77, trivial⟩ rfl ?_
    have G := F.1
    have F := F.2
    refine ms_iald mB_168 dX12_enter_79 (Or.inl (gk_68 N)) (by rw [gl_68 N]; exact G) ?_
    have G := F.1
    have F := F.2
    refine ms_iast mB_168 dX12_enter_80 (gk_64 N) (by rw [gl_64 N]; exact G) ?_
    refine mr_st (fun δ3 e_δ3 => ?_)
    have F := F δ3 e_δ3
    refine ms_seq mB_168 mO_168 [(.aload_n 0, 1)] (pc' := 82) (L' := [.ref 48, .int l1, .int l2, .int l3, .int l4, .int l5, .int l6]) (st' := [.ref 48]) ⟨dX12_enter_81, trivial⟩ rfl ?_
    refine ms_getA mB_168 mO_168 dX12_enter_82 mF_12_68 (gk_48 N) rfl (b := 65) (gr_48_23 N) ?_
    refine ms_seq mB_168 mO_168 [(.aload_n 0, 1)] (pc' := 86) (L' := [.ref 48, .int l1, .int l2, .int l3, .int l4, .int l5, .int l6]) (st' := [.ref 48, .ref 65]) ⟨dX12_enter_85, trivial⟩ rfl ?_
    refine ms_getA mB_168 mO_168 dX12_enter_86 mF_12_56 (gk_48 N) rfl (b := 61) (gr_48_19 N) ?_
    refine ms_seq mB_168 mO_168 [(.iload 5, 2)] (pc' := 91) (L' := [.ref 48, .int l1, .int l2, .int l3, .int l4, .int l5, .int l6]) (st' := [.int l5, .ref 61, .ref 65]) ⟨dX12_enter_89, trivial⟩ rfl ?_
    have G := F.1
    have F := F.2
    refine ms_iald mB_168 dX12_enter_91 (Or.inl (gk_61 N)) (by rw [gl_61 N]; exact G) ?_
    refine ms_seq mB_168 mO_168 [(.iload 6, 2), (.iadd, 1), (.aload_n 0, 1)] (pc' := 96) (L' := [.ref 48, .int l1, .int l2, .int l3, .int l4, .int l5, .int l6]) (st' := [.ref 48, .int ((δ3.2.1 61 (Int32.toNatClampNeg l5)) + l6), .ref 65]) ⟨dX12_enter_92, dX12_enter_94, dX12_enter_95, trivial⟩ rfl ?_
    refine ms_getA mB_168 mO_168 dX12_enter_96 mF_12_80 (gk_48 N) rfl (b := 69) (gr_48_29 N) ?_
    refine ms_seq mB_168 mO_168 [(.iload 6, 2)] (pc' := 101) (L' := [.ref 48, .int l1, .int l2, .int l3, .int l4, .int l5, .int l6]) (st' := [.int l6, .ref 69, .int ((δ3.2.1 61 (Int32.toNatClampNeg l5)) + l6), .ref 65]) ⟨dX12_enter_99, trivial⟩ rfl ?_
    have G := F.1
    have F := F.2
    refine ms_lald mB_168 dX12_enter_101 (gk_69 N) (by rw [gl_69 N]; exact G) ?_
    have G := F.1
    have F := F.2
    refine ms_last mB_168 dX12_enter_102 (gk_65 N) (by rw [gl_65 N]; exact G) ?_
    refine mr_st (fun δ4 e_δ4 => ?_)
    have F := F δ4 e_δ4
    refine ms_seq mB_168 mO_168 [(.aload_n 0, 1)] (pc' := 104) (L' := [.ref 48, .int l1, .int l2, .int l3, .int l4, .int l5, .int l6]) (st' := [.ref 48]) ⟨dX12_enter_103, trivial⟩ rfl ?_
    refine ms_getA mB_168 mO_168 dX12_enter_104 mF_12_33 (gk_48 N) rfl (b := 55) (gr_48_9 N) ?_
    refine ms_seq mB_168 mO_168 [(.aload_n 0, 1)] (pc' := 108) (L' := [.ref 48, .int l1, .int l2, .int l3, .int l4, .int l5, .int l6]) (st' := [.ref 48, .ref 55]) ⟨dX12_enter_107, trivial⟩ rfl ?_
    refine ms_getA mB_168 mO_168 dX12_enter_108 mF_12_77 (gk_48 N) rfl (b := 68) (gr_48_28 N) ?_
    refine ms_seq mB_168 mO_168 [(.iload 6, 2)] (pc' := 113) (L' := [.ref 48, .int l1, .int l2, .int l3, .int l4, .int l5, .int l6]) (st' := [.int l6, .ref 68, .ref 55]) ⟨dX12_enter_111, trivial⟩ rfl ?_
    have G := F.1
    have F := F.2
    refine ms_iald mB_168 dX12_enter_113 (Or.inl (gk_68 N)) (by rw [gl_68 N]; exact G) ?_
    refine ms_seq mB_168 mO_168 [(.dup2, 1)] (pc' := 115) (L' := [.ref 48, .int l1, .int l2, .int l3, .int l4, .int l5, .int l6]) (st' := [.int (δ4.2.1 68 (Int32.toNatClampNeg l6)), .ref 55, .int (δ4.2.1 68 (Int32.toNatClampNeg l6)), .ref 55]) ⟨dX12_enter_114, trivial⟩ rfl ?_
    have G := F.1
    have F := F.2
    refine ms_lald mB_168 dX12_enter_115 (gk_55 N) (by rw [gl_55 N]; exact G) ?_
    refine ms_seq mB_168 mO_168 [(.aload_n 0, 1)] (pc' := 117) (L' := [.ref 48, .int l1, .int l2, .int l3, .int l4, .int l5, .int l6]) (st' := [.ref 48, .long (δ4.2.2 55 (Int32.toNatClampNeg (δ4.2.1 68 (Int32.toNatClampNeg l6)))), .int (δ4.2.1 68 (Int32.toNatClampNeg l6)), .ref 55]) ⟨dX12_enter_116, trivial⟩ rfl ?_
    refine ms_getA mB_168 mO_168 dX12_enter_117 mF_12_80 (gk_48 N) rfl (b := 69) (gr_48_29 N) ?_
    refine ms_seq mB_168 mO_168 [(.iload 6, 2)] (pc' := 122) (L' := [.ref 48, .int l1, .int l2, .int l3, .int l4, .int l5, .int l6]) (st' := [.int l6, .ref 69, .long (δ4.2.2 55 (Int32.toNatClampNeg (δ4.2.1 68 (Int32.toNatClampNeg l6)))), .int (δ4.2.1 68 (Int32.toNatClampNeg l6)), .ref 55]) ⟨dX12_enter_120, trivial⟩ rfl ?_
    have G := F.1
    have F := F.2
    refine ms_lald mB_168 dX12_enter_122 (gk_69 N) (by rw [gl_69 N]; exact G) ?_
    refine ms_seq mB_168 mO_168 [(.ladd, 1)] (pc' := 124) (L' := [.ref 48, .int l1, .int l2, .int l3, .int l4, .int l5, .int l6]) (st' := [.long ((δ4.2.2 55 (Int32.toNatClampNeg (δ4.2.1 68 (Int32.toNatClampNeg l6)))) + (δ4.2.2 69 (Int32.toNatClampNeg l6))), .int (δ4.2.1 68 (Int32.toNatClampNeg l6)), .ref 55]) ⟨dX12_enter_123, trivial⟩ rfl ?_
    have G := F.1
    have F := F.2
    refine ms_last mB_168 dX12_enter_124 (gk_55 N) (by rw [gl_55 N]; exact G) ?_
    refine mr_st (fun δ5 e_δ5 => ?_)
    have F := F δ5 e_δ5
    refine ms_seq mB_168 mO_168 [(.iinc 6 1, 3)] (pc' := 128) (L' := [.ref 48, .int l1, .int l2, .int l3, .int l4, .int l5, .int (l6 + 1)]) (st' := []) ⟨dX12_enter_125, trivial⟩ rfl ?_
    refine ms_goto mB_168 dX12_enter_128 (t := 50) rfl ?_
    exact F
set_option maxRecDepth 100000 in
theorem q12_sayPost_0 {N d : Nat} (hd : 5 ≤ d) {p0 p1 : Int32} {δ : mi_D} {Q : mi_D → Prop} (F : (mi_wV N (d - 1) 150 0 [.ref 48] [] δ (fun δ1 => (mi_wV N (d - 1) 151 0 [.ref 48, .long (Int32.toInt64 p0), .null, .null, .null] [] δ1 (fun δ2 => (mi_wV N (d - 1) 151 0 [.ref 48, .long (Int32.toInt64 p1), .null, .null, .null] [] δ2 (fun δ3 => (mi_wV N (d - 1) 151 0 [.ref 48, .long (Int32.toInt64 (δ3.1 48 27)), .null, .null, .null] [] δ3 (fun δ4 => mi_wV N d 169 27 [.ref 48, .int p0, .int p1, .int 0] [] δ4 Q))))))))) : mi_wV N d 169 0 [.ref 48, .int p0, .int p1, .null] [] δ Q := by
  unfold mi_wV
  refine ms_seq mB_169 mO_169 [(.aload_n 0, 1)] (pc' := 1) (L' := [.ref 48, .int p0, .int p1, .null]) (st' := [.ref 48]) ⟨dX12_sayPost_0, trivial⟩ rfl ?_
  refine ms_callvV mB_169 mO_169 (by omega) dX12_sayPost_1 mQ_12_159 mC_12_159 mL_150 mO_150 rfl (Nat.le_of_ble_eq_true rfl) (Nat.le_of_ble_eq_true rfl) (gk_48 N) rfl F (fun δ1 F => ?_)
  refine ms_seq mB_169 mO_169 [(.aload_n 0, 1), (.iload_n 1, 1), (.i2l, 1)] (pc' := 7) (L' := [.ref 48, .int p0, .int p1, .null]) (st' := [.long (Int32.toInt64 p0), .ref 48]) ⟨dX12_sayPost_4, dX12_sayPost_5, dX12_sayPost_6, trivial⟩ rfl ?_
  refine ms_callvV mB_169 mO_169 (by omega) dX12_sayPost_7 mQ_12_162 mC_12_162 mL_151 mO_151 rfl (Nat.le_of_ble_eq_true rfl) (Nat.le_of_ble_eq_true rfl) (gk_48 N) rfl F (fun δ2 F => ?_)
  refine ms_seq mB_169 mO_169 [(.aload_n 0, 1), (.iload_n 2, 1), (.i2l, 1)] (pc' := 13) (L' := [.ref 48, .int p0, .int p1, .null]) (st' := [.long (Int32.toInt64 p1), .ref 48]) ⟨dX12_sayPost_10, dX12_sayPost_11, dX12_sayPost_12, trivial⟩ rfl ?_
  refine ms_callvV mB_169 mO_169 (by omega) dX12_sayPost_13 mQ_12_162 mC_12_162 mL_151 mO_151 rfl (Nat.le_of_ble_eq_true rfl) (Nat.le_of_ble_eq_true rfl) (gk_48 N) rfl F (fun δ3 F => ?_)
  refine ms_seq mB_169 mO_169 [(.aload_n 0, 1), (.aload_n 0, 1)] (pc' := 18) (L' := [.ref 48, .int p0, .int p1, .null]) (st' := [.ref 48, .ref 48]) ⟨dX12_sayPost_16, dX12_sayPost_17, trivial⟩ rfl ?_
  refine ms_getI mB_169 mO_169 dX12_sayPost_18 mF_12_187 (gk_48 N) (Or.inl rfl) ?_
  refine ms_seq mB_169 mO_169 [(.i2l, 1)] (pc' := 22) (L' := [.ref 48, .int p0, .int p1, .null]) (st' := [.long (Int32.toInt64 (δ3.1 48 27)), .ref 48]) ⟨dX12_sayPost_21, trivial⟩ rfl ?_
  refine ms_callvV mB_169 mO_169 (by omega) dX12_sayPost_22 mQ_12_162 mC_12_162 mL_151 mO_151 rfl (Nat.le_of_ble_eq_true rfl) (Nat.le_of_ble_eq_true rfl) (gk_48 N) rfl F (fun δ4 F => ?_)
  refine ms_seq mB_169 mO_169 [(.iconst 0, 1), (.istore_n 3, 1)] (pc' := 27) (L' := [.ref 48, .int p0, .int p1, .int 0]) (st' := []) ⟨dX12_sayPost_25, dX12_sayPost_26, trivial⟩ rfl ?_
  exact F
set_option maxRecDepth 100000 in
theorem q12_sayPost_27 {N d : Nat} (hd : 5 ≤ d) {l1 l2 l3 : Int32} {δ : mi_D} {Q : mi_D → Prop} (F : ((l3 < (δ.1 48 27) → (mi_ix l3 64 = true ∧ (mi_wV N (d - 1) 151 0 [.ref 48, .long (Int32.toInt64 (δ.2.1 68 (Int32.toNatClampNeg l3))), .null, .null, .null] [] δ (fun δ1 => (mi_ix l3 64 = true ∧ (mi_wV N (d - 1) 151 0 [.ref 48, .long (δ1.2.2 69 (Int32.toNatClampNeg l3)), .null, .null, .null] [] δ1 (fun δ2 => mi_wV N d 169 27 [.ref 48, .int l1, .int l2, .int (l3 + 1)] [] δ2 Q))))))) ∧ (¬ l3 < (δ.1 48 27) → Q δ))) : mi_wV N d 169 27 [.ref 48, .int l1, .int l2, .int l3] [] δ Q := by
  unfold mi_wV
  refine ms_seq mB_169 mO_169 [(.iload_n 3, 1), (.aload_n 0, 1)] (pc' := 29) (L' := [.ref 48, .int l1, .int l2, .int l3]) (st' := [.ref 48, .int l3]) ⟨dX12_sayPost_27, dX12_sayPost_28, trivial⟩ rfl ?_
  refine ms_getI mB_169 mO_169 dX12_sayPost_29 mF_12_187 (gk_48 N) (Or.inl rfl) ?_
  refine ms_icmp_ge mB_169 dX12_sayPost_32 (t := 62) rfl (fun c => ?_) (fun c => ?_)
  · have F := F.2 c
    exact ms_vret mB_169 dX12_sayPost_62 mR_169 ⟨rfl, rfl, F⟩
  · have F := F.1 c
    refine ms_seq mB_169 mO_169 [(.aload_n 0, 1), (.aload_n 0, 1)] (pc' := 37) (L' := [.ref 48, .int l1, .int l2, .int l3]) (st' := [.ref 48, .ref 48]) ⟨dX12_sayPost_35, dX12_sayPost_36, trivial⟩ rfl ?_
    refine ms_getA mB_169 mO_169 dX12_sayPost_37 mF_12_77 (gk_48 N) rfl (b := 68) (gr_48_28 N) ?_
    refine ms_seq mB_169 mO_169 [(.iload_n 3, 1)] (pc' := 41) (L' := [.ref 48, .int l1, .int l2, .int l3]) (st' := [.int l3, .ref 68, .ref 48]) ⟨dX12_sayPost_40, trivial⟩ rfl ?_
    have G := F.1
    have F := F.2
    refine ms_iald mB_169 dX12_sayPost_41 (Or.inl (gk_68 N)) (by rw [gl_68 N]; exact G) ?_
    refine ms_seq mB_169 mO_169 [(.i2l, 1)] (pc' := 43) (L' := [.ref 48, .int l1, .int l2, .int l3]) (st' := [.long (Int32.toInt64 (δ.2.1 68 (Int32.toNatClampNeg l3))), .ref 48]) ⟨dX12_sayPost_42, trivial⟩ rfl ?_
    refine ms_callvV mB_169 mO_169 (by omega) dX12_sayPost_43 mQ_12_162 mC_12_162 mL_151 mO_151 rfl (Nat.le_of_ble_eq_true rfl) (Nat.le_of_ble_eq_true rfl) (gk_48 N) rfl F (fun δ1 F => ?_)
    refine ms_seq mB_169 mO_169 [(.aload_n 0, 1), (.aload_n 0, 1)] (pc' := 48) (L' := [.ref 48, .int l1, .int l2, .int l3]) (st' := [.ref 48, .ref 48]) ⟨dX12_sayPost_46, dX12_sayPost_47, trivial⟩ rfl ?_
    refine ms_getA mB_169 mO_169 dX12_sayPost_48 mF_12_80 (gk_48 N) rfl (b := 69) (gr_48_29 N) ?_
    refine ms_seq mB_169 mO_169 [(.iload_n 3, 1)] (pc' := 52) (L' := [.ref 48, .int l1, .int l2, .int l3]) (st' := [.int l3, .ref 69, .ref 48]) ⟨dX12_sayPost_51, trivial⟩ rfl ?_
    have G := F.1
    have F := F.2
    refine ms_lald mB_169 dX12_sayPost_52 (gk_69 N) (by rw [gl_69 N]; exact G) ?_
    refine ms_callvV mB_169 mO_169 (by omega) dX12_sayPost_53 mQ_12_162 mC_12_162 mL_151 mO_151 rfl (Nat.le_of_ble_eq_true rfl) (Nat.le_of_ble_eq_true rfl) (gk_48 N) rfl F (fun δ2 F => ?_)
    refine ms_seq mB_169 mO_169 [(.iinc 3 1, 3)] (pc' := 59) (L' := [.ref 48, .int l1, .int l2, .int (l3 + 1)]) (st' := []) ⟨dX12_sayPost_56, trivial⟩ rfl ?_
    refine ms_goto mB_169 dX12_sayPost_59 (t := 27) rfl ?_
    exact F
set_option maxRecDepth 100000 in
theorem q12_posted_0 {N d : Nat} (hd : 5 ≤ d) {p0 p1 : Int32} {δ : mi_D} {Q : Int32 → mi_D → Prop} (F : (mi_wV N (d - 1) 169 0 [.ref 48, .int p0, .int p1, .null] [] δ (fun δ1 => (mi_wI N (d - 1) 167 0 [.ref 48, .int p0, .null, .null, .null, .null] [] δ1 (fun r3 δ2 => ((r3 < 0 → Q r3 δ2) ∧ (¬ r3 < 0 → (mi_wI N (d - 1) 168 0 [.ref 48, .int p0, .int p1, .int 0, .int (-1), .null, .null] [] δ2 (fun r5 δ4 => (mi_wV N (d - 1) 155 0 [.ref 48, .int 5, .null, .null] [] δ4 (fun δ6 => Q r5 δ6))))))))))) : mi_wI N d 170 0 [.ref 48, .int p0, .int p1, .null, .null] [] δ Q := by
  unfold mi_wI
  refine ms_seq mB_170 mO_170 [(.aload_n 0, 1), (.iload_n 1, 1), (.iload_n 2, 1)] (pc' := 3) (L' := [.ref 48, .int p0, .int p1, .null, .null]) (st' := [.int p1, .int p0, .ref 48]) ⟨dX12_posted_0, dX12_posted_1, dX12_posted_2, trivial⟩ rfl ?_
  refine ms_callvV mB_170 mO_170 (by omega) dX12_posted_3 mQ_12_206 mC_12_206 mL_169 mO_169 rfl (Nat.le_of_ble_eq_true rfl) (Nat.le_of_ble_eq_true rfl) (gk_48 N) rfl F (fun δ1 F => ?_)
  refine ms_seq mB_170 mO_170 [(.aload_n 0, 1), (.iload_n 1, 1)] (pc' := 8) (L' := [.ref 48, .int p0, .int p1, .null, .null]) (st' := [.int p0, .ref 48]) ⟨dX12_posted_6, dX12_posted_7, trivial⟩ rfl ?_
  refine ms_callvI mB_170 mO_170 (by omega) dX12_posted_8 mQ_12_210 mC_12_210 mL_167 mO_167 rfl (Nat.le_of_ble_eq_true rfl) (Nat.le_of_ble_eq_true rfl) (gk_48 N) rfl F (fun r3 δ2 F => ?_)
  refine ms_seq mB_170 mO_170 [(.istore_n 3, 1), (.iload_n 3, 1)] (pc' := 13) (L' := [.ref 48, .int p0, .int p1, .int r3, .null]) (st' := [.int r3]) ⟨dX12_posted_11, dX12_posted_12, trivial⟩ rfl ?_
  refine ms_if_ge mB_170 dX12_posted_13 (t := 18) rfl (fun c => ?_) (fun c => ?_)
  · have F := F.2 c
    refine ms_seq mB_170 mO_170 [(.aload_n 0, 1), (.iload_n 1, 1), (.iload_n 2, 1), (.iconst 0, 1), (.iconst (-1), 1)] (pc' := 23) (L' := [.ref 48, .int p0, .int p1, .int r3, .null]) (st' := [.int (-1), .int 0, .int p1, .int p0, .ref 48]) ⟨dX12_posted_18, dX12_posted_19, dX12_posted_20, dX12_posted_21, dX12_posted_22, trivial⟩ rfl ?_
    refine ms_callvI mB_170 mO_170 (by omega) dX12_posted_23 mQ_12_213 mC_12_213 mL_168 mO_168 rfl (Nat.le_of_ble_eq_true rfl) (Nat.le_of_ble_eq_true rfl) (gk_48 N) rfl F (fun r5 δ4 F => ?_)
    refine ms_seq mB_170 mO_170 [(.istore 4, 2), (.aload_n 0, 1), (.iconst 5, 1)] (pc' := 30) (L' := [.ref 48, .int p0, .int p1, .int r3, .int r5]) (st' := [.int 5, .ref 48]) ⟨dX12_posted_26, dX12_posted_28, dX12_posted_29, trivial⟩ rfl ?_
    refine ms_callvV mB_170 mO_170 (by omega) dX12_posted_30 mQ_12_170 mC_12_170 mL_155 mO_155 rfl (Nat.le_of_ble_eq_true rfl) (Nat.le_of_ble_eq_true rfl) (gk_48 N) rfl F (fun δ6 F => ?_)
    refine ms_seq mB_170 mO_170 [(.iload 4, 2)] (pc' := 35) (L' := [.ref 48, .int p0, .int p1, .int r3, .int r5]) (st' := [.int r5]) ⟨dX12_posted_33, trivial⟩ rfl ?_
    exact ms_iret mB_170 dX12_posted_35 mR_170 ⟨_, rfl, rfl, F⟩
  · have F := F.1 c
    refine ms_seq mB_170 mO_170 [(.iload_n 3, 1)] (pc' := 17) (L' := [.ref 48, .int p0, .int p1, .int r3, .null]) (st' := [.int r3]) ⟨dX12_posted_16, trivial⟩ rfl ?_
    exact ms_iret mB_170 dX12_posted_17 mR_170 ⟨_, rfl, rfl, F⟩
set_option maxRecDepth 100000 in
theorem q12_post_0 {N d : Nat} (hd : 5 ≤ d) {p0 p1 : Int32} {δ : mi_D} {Q : Int32 → mi_D → Prop} (F : (((δ.1 48 0) = 0 → Q (-6) δ) ∧ (¬ (δ.1 48 0) = 0 → (∀ δ1 : mi_D, δ1 = mi_setI δ 48 27 0 → mi_wI N d 171 17 [.ref 48, .int p0, .int p1, .int 0] [] δ1 Q)))) : mi_wI N d 171 0 [.ref 48, .int p0, .int p1, .null] [] δ Q := by
  unfold mi_wI
  refine ms_seq mB_171 mO_171 [(.aload_n 0, 1)] (pc' := 1) (L' := [.ref 48, .int p0, .int p1, .null]) (st' := [.ref 48]) ⟨dX12_post_0, trivial⟩ rfl ?_
  refine ms_getI mB_171 mO_171 dX12_post_1 mF_12_7 (gk_48 N) (Or.inr rfl) ?_
  refine ms_if_ne mB_171 dX12_post_4 (t := 10) rfl (fun c => ?_) (fun c => ?_)
  · have F := F.2 c
    refine ms_seq mB_171 mO_171 [(.aload_n 0, 1), (.iconst 0, 1)] (pc' := 12) (L' := [.ref 48, .int p0, .int p1, .null]) (st' := [.int 0, .ref 48]) ⟨dX12_post_10, dX12_post_11, trivial⟩ rfl ?_
    refine ms_putI mB_171 mO_171 dX12_post_12 mF_12_187 (gk_48 N) rfl rfl ?_
    refine mr_st (fun δ1 e_δ1 => ?_)
    have F := F δ1 e_δ1
    refine ms_seq mB_171 mO_171 [(.iconst 0, 1), (.istore_n 3, 1)] (pc' := 17) (L' := [.ref 48, .int p0, .int p1, .int 0]) (st' := []) ⟨dX12_post_15, dX12_post_16, trivial⟩ rfl ?_
    exact F
  · have F := F.1 c
    refine ms_seq mB_171 mO_171 [(.bipush (-6), 2)] (pc' := 9) (L' := [.ref 48, .int p0, .int p1, .null]) (st' := [.int (-6)]) ⟨dX12_post_7, trivial⟩ rfl ?_
    exact ms_iret mB_171 dX12_post_9 mR_171 ⟨_, rfl, rfl, F⟩
set_option maxRecDepth 100000 in
theorem q12_post_17 {N d : Nat} (hd : 5 ≤ d) {l1 l2 l3 : Int32} {δ : mi_D} {Q : Int32 → mi_D → Prop} (F : ((l3 < (δ.1 48 24) → (mi_ix l3 8 = true ∧ (mi_ix l3 8 = true ∧ (mi_wV N (d - 1) 164 0 [.ref 48, .int (δ.2.1 66 (Int32.toNatClampNeg l3)), .long (δ.2.2 67 (Int32.toNatClampNeg l3)), .null] [] δ (fun δ3 => mi_wI N d 171 17 [.ref 48, .int l1, .int l2, .int (l3 + 1)] [] δ3 Q))))) ∧ (¬ l3 < (δ.1 48 24) → (mi_wI N (d - 1) 170 0 [.ref 48, .int l1, .int l2, .null, .null] [] δ (fun r2 δ1 => ((r2 < 0 → mi_wI N d 171 67 [.ref 48, .int l1, .int l2, .int r2] [.int (δ1.1 48 24), .ref 48] δ1 Q) ∧ (¬ r2 < 0 → mi_wI N d 171 67 [.ref 48, .int l1, .int l2, .int r2] [.int 0, .ref 48] δ1 Q))))))) : mi_wI N d 171 17 [.ref 48, .int l1, .int l2, .int l3] [] δ Q := by
  unfold mi_wI
  refine ms_seq mB_171 mO_171 [(.iload_n 3, 1), (.aload_n 0, 1)] (pc' := 19) (L' := [.ref 48, .int l1, .int l2, .int l3]) (st' := [.ref 48, .int l3]) ⟨dX12_post_17, dX12_post_18, trivial⟩ rfl ?_
  refine ms_getI mB_171 mO_171 dX12_post_19 mF_12_184 (gk_48 N) (Or.inl rfl) ?_
  refine ms_icmp_ge mB_171 dX12_post_22 (t := 47) rfl (fun c => ?_) (fun c => ?_)
  · have F := F.2 c
    refine ms_seq mB_171 mO_171 [(.aload_n 0, 1), (.iload_n 1, 1), (.iload_n 2, 1)] (pc' := 50) (L' := [.ref 48, .int l1, .int l2, .int l3]) (st' := [.int l2, .int l1, .ref 48]) ⟨dX12_post_47, dX12_post_48, dX12_post_49, trivial⟩ rfl ?_
    refine ms_callvI mB_171 mO_171 (by omega) dX12_post_50 mQ_12_221 mC_12_221 mL_170 mO_170 rfl (Nat.le_of_ble_eq_true rfl) (Nat.le_of_ble_eq_true rfl) (gk_48 N) rfl F (fun r2 δ1 F => ?_)
    refine ms_seq mB_171 mO_171 [(.istore_n 3, 1), (.aload_n 0, 1), (.iload_n 3, 1)] (pc' := 56) (L' := [.ref 48, .int l1, .int l2, .int r2]) (st' := [.int r2, .ref 48]) ⟨dX12_post_53, dX12_post_54, dX12_post_55, trivial⟩ rfl ?_
    refine ms_if_ge mB_171 dX12_post_56 (t := 66) rfl (fun c => ?_) (fun c => ?_)
    · have F := F.2 c
      refine ms_seq mB_171 mO_171 [(.iconst 0, 1)] (pc' := 67) (L' := [.ref 48, .int l1, .int l2, .int r2]) (st' := [.int 0, .ref 48]) ⟨dX12_post_66, trivial⟩ rfl ?_
      exact F
    · have F := F.1 c
      refine ms_seq mB_171 mO_171 [(.aload_n 0, 1)] (pc' := 60) (L' := [.ref 48, .int l1, .int l2, .int r2]) (st' := [.ref 48, .ref 48]) ⟨dX12_post_59, trivial⟩ rfl ?_
      refine ms_getI mB_171 mO_171 dX12_post_60 mF_12_184 (gk_48 N) (Or.inl rfl) ?_
      refine ms_goto mB_171 dX12_post_63 (t := 67) rfl ?_
      exact F
  · have F := F.1 c
    refine ms_seq mB_171 mO_171 [(.aload_n 0, 1), (.aload_n 0, 1)] (pc' := 27) (L' := [.ref 48, .int l1, .int l2, .int l3]) (st' := [.ref 48, .ref 48]) ⟨dX12_post_25, dX12_post_26, trivial⟩ rfl ?_
    refine ms_getA mB_171 mO_171 dX12_post_27 mF_12_71 (gk_48 N) rfl (b := 66) (gr_48_25 N) ?_
    refine ms_seq mB_171 mO_171 [(.iload_n 3, 1)] (pc' := 31) (L' := [.ref 48, .int l1, .int l2, .int l3]) (st' := [.int l3, .ref 66, .ref 48]) ⟨dX12_post_30, trivial⟩ rfl ?_
    have G := F.1
    have F := F.2
    refine ms_iald mB_171 dX12_post_31 (Or.inl (gk_66 N)) (by rw [gl_66 N]; exact G) ?_
    refine ms_seq mB_171 mO_171 [(.aload_n 0, 1)] (pc' := 33) (L' := [.ref 48, .int l1, .int l2, .int l3]) (st' := [.ref 48, .int (δ.2.1 66 (Int32.toNatClampNeg l3)), .ref 48]) ⟨dX12_post_32, trivial⟩ rfl ?_
    refine ms_getA mB_171 mO_171 dX12_post_33 mF_12_74 (gk_48 N) rfl (b := 67) (gr_48_26 N) ?_
    refine ms_seq mB_171 mO_171 [(.iload_n 3, 1)] (pc' := 37) (L' := [.ref 48, .int l1, .int l2, .int l3]) (st' := [.int l3, .ref 67, .int (δ.2.1 66 (Int32.toNatClampNeg l3)), .ref 48]) ⟨dX12_post_36, trivial⟩ rfl ?_
    have G := F.1
    have F := F.2
    refine ms_lald mB_171 dX12_post_37 (gk_67 N) (by rw [gl_67 N]; exact G) ?_
    refine ms_callvV mB_171 mO_171 (by omega) dX12_post_38 mQ_12_217 mC_12_217 mL_164 mO_164 rfl (Nat.le_of_ble_eq_true rfl) (Nat.le_of_ble_eq_true rfl) (gk_48 N) rfl F (fun δ3 F => ?_)
    refine ms_seq mB_171 mO_171 [(.iinc 3 1, 3)] (pc' := 44) (L' := [.ref 48, .int l1, .int l2, .int (l3 + 1)]) (st' := []) ⟨dX12_post_41, trivial⟩ rfl ?_
    refine ms_goto mB_171 dX12_post_44 (t := 17) rfl ?_
    exact F
set_option maxRecDepth 100000 in
theorem q12_post_67 {N d : Nat} (hd : 5 ≤ d) {l1 l2 l3 s1 : Int32} {δ : mi_D} {Q : Int32 → mi_D → Prop} (F : (∀ δ1 : mi_D, δ1 = mi_setI δ 48 24 s1 → Q l3 δ1)) : mi_wI N d 171 67 [.ref 48, .int l1, .int l2, .int l3] [.int s1, .ref 48] δ Q := by
  unfold mi_wI
  refine ms_putI mB_171 mO_171 dX12_post_67 mF_12_184 (gk_48 N) rfl rfl ?_
  refine mr_st (fun δ1 e_δ1 => ?_)
  have F := F δ1 e_δ1
  refine ms_seq mB_171 mO_171 [(.iload_n 3, 1)] (pc' := 71) (L' := [.ref 48, .int l1, .int l2, .int l3]) (st' := [.int l3]) ⟨dX12_post_70, trivial⟩ rfl ?_
  exact ms_iret mB_171 dX12_post_71 mR_171 ⟨_, rfl, rfl, F⟩
set_option maxRecDepth 100000 in
theorem q12_back_0 {N d : Nat} (hd : 5 ≤ d) {p0 p1 : Int32} {δ : mi_D} {Q : Int32 → mi_D → Prop} (F : (((δ.1 48 0) = 0 → Q (-6) δ) ∧ (¬ (δ.1 48 0) = 0 → (mi_wI N (d - 1) 148 0 [.long (Int32.toInt64 p0), .null, .long 0, .null, .long (Int32.toInt64 ((δ.1 48 15) - 1)), .null] [] δ (fun r2 δ1 => ((r2 = 0 → Q (-2) δ1) ∧ (¬ r2 = 0 → (mi_ix p0 400 = true ∧ (((δ1.2.1 60 (Int32.toNatClampNeg p0)) = 0 → (mi_ix p0 400 = true ∧ (((δ1.2.1 62 (Int32.toNatClampNeg p0)) = (-1) → (mi_wV N (d - 1) 173 0 [.ref 48, .int p0, .null] [] δ1 (fun δ3 => (mi_wV N (d - 1) 150 0 [.ref 48] [] δ3 (fun δ4 => (mi_wV N (d - 1) 151 0 [.ref 48, .long (Int32.toInt64 p0), .null, .null, .null] [] δ4 (fun δ5 => (mi_wV N (d - 1) 151 0 [.ref 48, .long (Int32.toInt64 p1), .null, .null, .null] [] δ5 (fun δ6 => (mi_wI N (d - 1) 167 0 [.ref 48, .int p1, .null, .null, .null, .null] [] δ6 (fun r8 δ7 => ((r8 < 0 → Q r8 δ7) ∧ (¬ r8 < 0 → (mi_ix p0 400 = true ∧ (mi_wI N (d - 1) 168 0 [.ref 48, .int p1, .int (δ7.2.1 59 (Int32.toNatClampNeg p0)), .int 1, .int p0, .null, .null] [] δ7 (fun r10 δ9 => (mi_ix p0 400 = true ∧ (∀ δ11 : mi_D, δ11 = mi_setA δ9 62 (Int32.toNatClampNeg p0) r10 → (mi_wV N (d - 1) 155 0 [.ref 48, .int 6, .null, .null] [] δ11 (fun δ12 => Q r10 δ12)))))))))))))))))))) ∧ (¬ (δ1.2.1 62 (Int32.toNatClampNeg p0)) = (-1) → Q (-5) δ1)))) ∧ (¬ (δ1.2.1 60 (Int32.toNatClampNeg p0)) = 0 → Q (-4) δ1)))))))))) : mi_wI N d 172 0 [.ref 48, .int p0, .int p1, .null, .null] [] δ Q := by
  unfold mi_wI
  refine ms_seq mB_172 mO_172 [(.aload_n 0, 1)] (pc' := 1) (L' := [.ref 48, .int p0, .int p1, .null, .null]) (st' := [.ref 48]) ⟨dX12_back_0, trivial⟩ rfl ?_
  refine ms_getI mB_172 mO_172 dX12_back_1 mF_12_7 (gk_48 N) (Or.inr rfl) ?_
  refine ms_if_ne mB_172 dX12_back_4 (t := 10) rfl (fun c => ?_) (fun c => ?_)
  · have F := F.2 c
    refine ms_seq mB_172 mO_172 [(.iload_n 1, 1), (.i2l, 1), (.lconst 0, 1), (.aload_n 0, 1)] (pc' := 14) (L' := [.ref 48, .int p0, .int p1, .null, .null]) (st' := [.ref 48, .long 0, .long (Int32.toInt64 p0)]) ⟨dX12_back_10, dX12_back_11, dX12_back_12, dX12_back_13, trivial⟩ rfl ?_
    refine ms_getI mB_172 mO_172 dX12_back_14 mF_12_203 (gk_48 N) (Or.inl rfl) ?_
    refine ms_seq mB_172 mO_172 [(.iconst 1, 1), (.isub, 1), (.i2l, 1)] (pc' := 20) (L' := [.ref 48, .int p0, .int p1, .null, .null]) (st' := [.long (Int32.toInt64 ((δ.1 48 15) - 1)), .long 0, .long (Int32.toInt64 p0)]) ⟨dX12_back_17, dX12_back_18, dX12_back_19, trivial⟩ rfl ?_
    refine ms_callsI mB_172 mO_172 (by omega) dX12_back_20 mQ_12_116 mC_12_116 mL_148 (by decide) rfl (Nat.le_of_ble_eq_true rfl) (Nat.le_of_ble_eq_true rfl) rfl F (fun r2 δ1 F => ?_)
    refine ms_if_ne mB_172 dX12_back_23 (t := 29) rfl (fun c => ?_) (fun c => ?_)
    · have F := F.2 c
      refine ms_seq mB_172 mO_172 [(.aload_n 0, 1)] (pc' := 30) (L' := [.ref 48, .int p0, .int p1, .null, .null]) (st' := [.ref 48]) ⟨dX12_back_29, trivial⟩ rfl ?_
      refine ms_getA mB_172 mO_172 dX12_back_30 mF_12_53 (gk_48 N) rfl (b := 60) (gr_48_18 N) ?_
      refine ms_seq mB_172 mO_172 [(.iload_n 1, 1)] (pc' := 34) (L' := [.ref 48, .int p0, .int p1, .null, .null]) (st' := [.int p0, .ref 60]) ⟨dX12_back_33, trivial⟩ rfl ?_
      have G := F.1
      have F := F.2
      refine ms_iald mB_172 dX12_back_34 (Or.inl (gk_60 N)) (by rw [gl_60 N]; exact G) ?_
      refine ms_if_eq mB_172 dX12_back_35 (t := 41) rfl (fun c => ?_) (fun c => ?_)
      · have F := F.1 c
        refine ms_seq mB_172 mO_172 [(.aload_n 0, 1)] (pc' := 42) (L' := [.ref 48, .int p0, .int p1, .null, .null]) (st' := [.ref 48]) ⟨dX12_back_41, trivial⟩ rfl ?_
        refine ms_getA mB_172 mO_172 dX12_back_42 mF_12_59 (gk_48 N) rfl (b := 62) (gr_48_20 N) ?_
        refine ms_seq mB_172 mO_172 [(.iload_n 1, 1)] (pc' := 46) (L' := [.ref 48, .int p0, .int p1, .null, .null]) (st' := [.int p0, .ref 62]) ⟨dX12_back_45, trivial⟩ rfl ?_
        have G := F.1
        have F := F.2
        refine ms_iald mB_172 dX12_back_46 (Or.inl (gk_62 N)) (by rw [gl_62 N]; exact G) ?_
        refine ms_seq mB_172 mO_172 [(.iconst (-1), 1)] (pc' := 48) (L' := [.ref 48, .int p0, .int p1, .null, .null]) (st' := [.int (-1), .int (δ1.2.1 62 (Int32.toNatClampNeg p0))]) ⟨dX12_back_47, trivial⟩ rfl ?_
        refine ms_icmp_eq mB_172 dX12_back_48 (t := 54) rfl (fun c => ?_) (fun c => ?_)
        · have F := F.1 c
          refine ms_seq mB_172 mO_172 [(.aload_n 0, 1), (.iload_n 1, 1)] (pc' := 56) (L' := [.ref 48, .int p0, .int p1, .null, .null]) (st' := [.int p0, .ref 48]) ⟨dX12_back_54, dX12_back_55, trivial⟩ rfl ?_
          refine ms_callvV mB_172 mO_172 (by omega) dX12_back_56 mQ_12_224 mC_12_224 mL_173 mO_173 rfl (Nat.le_of_ble_eq_true rfl) (Nat.le_of_ble_eq_true rfl) (gk_48 N) rfl F (fun δ3 F => ?_)
          refine ms_seq mB_172 mO_172 [(.aload_n 0, 1)] (pc' := 60) (L' := [.ref 48, .int p0, .int p1, .null, .null]) (st' := [.ref 48]) ⟨dX12_back_59, trivial⟩ rfl ?_
          refine ms_callvV mB_172 mO_172 (by omega) dX12_back_60 mQ_12_159 mC_12_159 mL_150 mO_150 rfl (Nat.le_of_ble_eq_true rfl) (Nat.le_of_ble_eq_true rfl) (gk_48 N) rfl F (fun δ4 F => ?_)
          refine ms_seq mB_172 mO_172 [(.aload_n 0, 1), (.iload_n 1, 1), (.i2l, 1)] (pc' := 66) (L' := [.ref 48, .int p0, .int p1, .null, .null]) (st' := [.long (Int32.toInt64 p0), .ref 48]) ⟨dX12_back_63, dX12_back_64, dX12_back_65, trivial⟩ rfl ?_
          refine ms_callvV mB_172 mO_172 (by omega) dX12_back_66 mQ_12_162 mC_12_162 mL_151 mO_151 rfl (Nat.le_of_ble_eq_true rfl) (Nat.le_of_ble_eq_true rfl) (gk_48 N) rfl F (fun δ5 F => ?_)
          refine ms_seq mB_172 mO_172 [(.aload_n 0, 1), (.iload_n 2, 1), (.i2l, 1)] (pc' := 72) (L' := [.ref 48, .int p0, .int p1, .null, .null]) (st' := [.long (Int32.toInt64 p1), .ref 48]) ⟨dX12_back_69, dX12_back_70, dX12_back_71, trivial⟩ rfl ?_
          refine ms_callvV mB_172 mO_172 (by omega) dX12_back_72 mQ_12_162 mC_12_162 mL_151 mO_151 rfl (Nat.le_of_ble_eq_true rfl) (Nat.le_of_ble_eq_true rfl) (gk_48 N) rfl F (fun δ6 F => ?_)
          refine ms_seq mB_172 mO_172 [(.aload_n 0, 1), (.iload_n 2, 1)] (pc' := 77) (L' := [.ref 48, .int p0, .int p1, .null, .null]) (st' := [.int p1, .ref 48]) ⟨dX12_back_75, dX12_back_76, trivial⟩ rfl ?_
          refine ms_callvI mB_172 mO_172 (by omega) dX12_back_77 mQ_12_210 mC_12_210 mL_167 mO_167 rfl (Nat.le_of_ble_eq_true rfl) (Nat.le_of_ble_eq_true rfl) (gk_48 N) rfl F (fun r8 δ7 F => ?_)
          refine ms_seq mB_172 mO_172 [(.istore_n 3, 1), (.iload_n 3, 1)] (pc' := 82) (L' := [.ref 48, .int p0, .int p1, .int r8, .null]) (st' := [.int r8]) ⟨dX12_back_80, dX12_back_81, trivial⟩ rfl ?_
          refine ms_if_ge mB_172 dX12_back_82 (t := 87) rfl (fun c => ?_) (fun c => ?_)
          · have F := F.2 c
            refine ms_seq mB_172 mO_172 [(.aload_n 0, 1), (.iload_n 2, 1), (.aload_n 0, 1)] (pc' := 90) (L' := [.ref 48, .int p0, .int p1, .int r8, .null]) (st' := [.ref 48, .int p1, .ref 48]) ⟨dX12_back_87, dX12_back_88, dX12_back_89, trivial⟩ rfl ?_
            refine ms_getA mB_172 mO_172 dX12_back_90 mF_12_50 (gk_48 N) rfl (b := 59) (gr_48_17 N) ?_
            refine ms_seq mB_172 mO_172 [(.iload_n 1, 1)] (pc' := 94) (L' := [.ref 48, .int p0, .int p1, .int r8, .null]) (st' := [.int p0, .ref 59, .int p1, .ref 48]) ⟨dX12_back_93, trivial⟩ rfl ?_
            have G := F.1
            have F := F.2
            refine ms_iald mB_172 dX12_back_94 (Or.inl (gk_59 N)) (by rw [gl_59 N]; exact G) ?_
            refine ms_seq mB_172 mO_172 [(.iconst 1, 1), (.iload_n 1, 1)] (pc' := 97) (L' := [.ref 48, .int p0, .int p1, .int r8, .null]) (st' := [.int p0, .int 1, .int (δ7.2.1 59 (Int32.toNatClampNeg p0)), .int p1, .ref 48]) ⟨dX12_back_95, dX12_back_96, trivial⟩ rfl ?_
            refine ms_callvI mB_172 mO_172 (by omega) dX12_back_97 mQ_12_213 mC_12_213 mL_168 mO_168 rfl (Nat.le_of_ble_eq_true rfl) (Nat.le_of_ble_eq_true rfl) (gk_48 N) rfl F (fun r10 δ9 F => ?_)
            refine ms_seq mB_172 mO_172 [(.istore 4, 2), (.aload_n 0, 1)] (pc' := 103) (L' := [.ref 48, .int p0, .int p1, .int r8, .int r10]) (st' := [.ref 48]) ⟨dX12_back_100, dX12_back_102, trivial⟩ rfl ?_
            refine ms_getA mB_172 mO_172 dX12_back_103 mF_12_59 (gk_48 N) rfl (b := 62) (gr_48_20 N) ?_
            refine ms_seq mB_172 mO_172 [(.iload_n 1, 1), (.iload 4, 2)] (pc' := 109) (L' := [.ref 48, .int p0, .int p1, .int r8, .int r10]) (st' := [.int r10, .int p0, .ref 62]) ⟨dX12_back_106, dX12_back_107, trivial⟩ rfl ?_
            have G := F.1
            have F := F.2
            refine ms_iast mB_172 dX12_back_109 (gk_62 N) (by rw [gl_62 N]; exact G) ?_
            refine mr_st (fun δ11 e_δ11 => ?_)
            have F := F δ11 e_δ11
            refine ms_seq mB_172 mO_172 [(.aload_n 0, 1), (.bipush 6, 2)] (pc' := 113) (L' := [.ref 48, .int p0, .int p1, .int r8, .int r10]) (st' := [.int 6, .ref 48]) ⟨dX12_back_110, dX12_back_111, trivial⟩ rfl ?_
            refine ms_callvV mB_172 mO_172 (by omega) dX12_back_113 mQ_12_170 mC_12_170 mL_155 mO_155 rfl (Nat.le_of_ble_eq_true rfl) (Nat.le_of_ble_eq_true rfl) (gk_48 N) rfl F (fun δ12 F => ?_)
            refine ms_seq mB_172 mO_172 [(.iload 4, 2)] (pc' := 118) (L' := [.ref 48, .int p0, .int p1, .int r8, .int r10]) (st' := [.int r10]) ⟨dX12_back_116, trivial⟩ rfl ?_
            exact ms_iret mB_172 dX12_back_118 mR_172 ⟨_, rfl, rfl, F⟩
          · have F := F.1 c
            refine ms_seq mB_172 mO_172 [(.iload_n 3, 1)] (pc' := 86) (L' := [.ref 48, .int p0, .int p1, .int r8, .null]) (st' := [.int r8]) ⟨dX12_back_85, trivial⟩ rfl ?_
            exact ms_iret mB_172 dX12_back_86 mR_172 ⟨_, rfl, rfl, F⟩
        · have F := F.2 c
          refine ms_seq mB_172 mO_172 [(.bipush (-5), 2)] (pc' := 53) (L' := [.ref 48, .int p0, .int p1, .null, .null]) (st' := [.int (-5)]) ⟨dX12_back_51, trivial⟩ rfl ?_
          exact ms_iret mB_172 dX12_back_53 mR_172 ⟨_, rfl, rfl, F⟩
      · have F := F.2 c
        refine ms_seq mB_172 mO_172 [(.bipush (-4), 2)] (pc' := 40) (L' := [.ref 48, .int p0, .int p1, .null, .null]) (st' := [.int (-4)]) ⟨dX12_back_38, trivial⟩ rfl ?_
        exact ms_iret mB_172 dX12_back_40 mR_172 ⟨_, rfl, rfl, F⟩
    · have F := F.1 c
      refine ms_seq mB_172 mO_172 [(.bipush (-2), 2)] (pc' := 28) (L' := [.ref 48, .int p0, .int p1, .null, .null]) (st' := [.int (-2)]) ⟨dX12_back_26, trivial⟩ rfl ?_
      exact ms_iret mB_172 dX12_back_28 mR_172 ⟨_, rfl, rfl, F⟩
  · have F := F.1 c
    refine ms_seq mB_172 mO_172 [(.bipush (-6), 2)] (pc' := 9) (L' := [.ref 48, .int p0, .int p1, .null, .null]) (st' := [.int (-6)]) ⟨dX12_back_7, trivial⟩ rfl ?_
    exact ms_iret mB_172 dX12_back_9 mR_172 ⟨_, rfl, rfl, F⟩
set_option maxRecDepth 100000 in
theorem q12_turned_0 {N d : Nat} (hd : 5 ≤ d) {p0 : Int32} {δ : mi_D} {Q : mi_D → Prop} (F : (∀ δ1 : mi_D, δ1 = mi_setI δ 48 27 0 → (mi_ix p0 401 = true ∧ (∀ x2 : Int32, x2 = (δ1.2.1 61 (Int32.toNatClampNeg p0)) → mi_wV N d 173 12 [.ref 48, .int p0, .int x2] [] δ1 Q)))) : mi_wV N d 173 0 [.ref 48, .int p0, .null] [] δ Q := by
  unfold mi_wV
  refine ms_seq mB_173 mO_173 [(.aload_n 0, 1), (.iconst 0, 1)] (pc' := 2) (L' := [.ref 48, .int p0, .null]) (st' := [.int 0, .ref 48]) ⟨dX12_turned_0, dX12_turned_1, trivial⟩ rfl ?_
  refine ms_putI mB_173 mO_173 dX12_turned_2 mF_12_187 (gk_48 N) rfl rfl ?_
  refine mr_st (fun δ1 e_δ1 => ?_)
  have F := F δ1 e_δ1
  refine ms_seq mB_173 mO_173 [(.aload_n 0, 1)] (pc' := 6) (L' := [.ref 48, .int p0, .null]) (st' := [.ref 48]) ⟨dX12_turned_5, trivial⟩ rfl ?_
  refine ms_getA mB_173 mO_173 dX12_turned_6 mF_12_56 (gk_48 N) rfl (b := 61) (gr_48_19 N) ?_
  refine ms_seq mB_173 mO_173 [(.iload_n 1, 1)] (pc' := 10) (L' := [.ref 48, .int p0, .null]) (st' := [.int p0, .ref 61]) ⟨dX12_turned_9, trivial⟩ rfl ?_
  have G := F.1
  have F := F.2
  refine ms_iald mB_173 dX12_turned_10 (Or.inl (gk_61 N)) (by rw [gl_61 N]; exact G) ?_
  refine mr_topi (fun x2 e_x2 => ?_)
  have F := F x2 e_x2
  refine ms_seq mB_173 mO_173 [(.istore_n 2, 1)] (pc' := 12) (L' := [.ref 48, .int p0, .int x2]) (st' := []) ⟨dX12_turned_11, trivial⟩ rfl ?_
  exact F
set_option maxRecDepth 100000 in
theorem q12_turned_12 {N d : Nat} (hd : 5 ≤ d) {l1 l2 : Int32} {δ : mi_D} {Q : mi_D → Prop} (F : (mi_ix (l1 + 1) 401 = true ∧ ((l2 < (δ.2.1 61 (Int32.toNatClampNeg (l1 + 1))) → (mi_ix l2 24800 = true ∧ (mi_ix l2 24800 = true ∧ (mi_wV N (d - 1) 164 0 [.ref 48, .int (δ.2.1 64 (Int32.toNatClampNeg l2)), .long (-(δ.2.2 65 (Int32.toNatClampNeg l2))), .null] [] δ (fun δ1 => mi_wV N d 173 12 [.ref 48, .int l1, .int (l2 + 1)] [] δ1 Q))))) ∧ (¬ l2 < (δ.2.1 61 (Int32.toNatClampNeg (l1 + 1))) → Q δ)))) : mi_wV N d 173 12 [.ref 48, .int l1, .int l2] [] δ Q := by
  unfold mi_wV
  refine ms_seq mB_173 mO_173 [(.iload_n 2, 1), (.aload_n 0, 1)] (pc' := 14) (L' := [.ref 48, .int l1, .int l2]) (st' := [.ref 48, .int l2]) ⟨dX12_turned_12, dX12_turned_13, trivial⟩ rfl ?_
  refine ms_getA mB_173 mO_173 dX12_turned_14 mF_12_56 (gk_48 N) rfl (b := 61) (gr_48_19 N) ?_
  refine ms_seq mB_173 mO_173 [(.iload_n 1, 1), (.iconst 1, 1), (.iadd, 1)] (pc' := 20) (L' := [.ref 48, .int l1, .int l2]) (st' := [.int (l1 + 1), .ref 61, .int l2]) ⟨dX12_turned_17, dX12_turned_18, dX12_turned_19, trivial⟩ rfl ?_
  have G := F.1
  have F := F.2
  refine ms_iald mB_173 dX12_turned_20 (Or.inl (gk_61 N)) (by rw [gl_61 N]; exact G) ?_
  refine ms_icmp_ge mB_173 dX12_turned_21 (t := 47) rfl (fun c => ?_) (fun c => ?_)
  · have F := F.2 c
    exact ms_vret mB_173 dX12_turned_47 mR_173 ⟨rfl, rfl, F⟩
  · have F := F.1 c
    refine ms_seq mB_173 mO_173 [(.aload_n 0, 1), (.aload_n 0, 1)] (pc' := 26) (L' := [.ref 48, .int l1, .int l2]) (st' := [.ref 48, .ref 48]) ⟨dX12_turned_24, dX12_turned_25, trivial⟩ rfl ?_
    refine ms_getA mB_173 mO_173 dX12_turned_26 mF_12_65 (gk_48 N) rfl (b := 64) (gr_48_22 N) ?_
    refine ms_seq mB_173 mO_173 [(.iload_n 2, 1)] (pc' := 30) (L' := [.ref 48, .int l1, .int l2]) (st' := [.int l2, .ref 64, .ref 48]) ⟨dX12_turned_29, trivial⟩ rfl ?_
    have G := F.1
    have F := F.2
    refine ms_iald mB_173 dX12_turned_30 (Or.inl (gk_64 N)) (by rw [gl_64 N]; exact G) ?_
    refine ms_seq mB_173 mO_173 [(.aload_n 0, 1)] (pc' := 32) (L' := [.ref 48, .int l1, .int l2]) (st' := [.ref 48, .int (δ.2.1 64 (Int32.toNatClampNeg l2)), .ref 48]) ⟨dX12_turned_31, trivial⟩ rfl ?_
    refine ms_getA mB_173 mO_173 dX12_turned_32 mF_12_68 (gk_48 N) rfl (b := 65) (gr_48_23 N) ?_
    refine ms_seq mB_173 mO_173 [(.iload_n 2, 1)] (pc' := 36) (L' := [.ref 48, .int l1, .int l2]) (st' := [.int l2, .ref 65, .int (δ.2.1 64 (Int32.toNatClampNeg l2)), .ref 48]) ⟨dX12_turned_35, trivial⟩ rfl ?_
    have G := F.1
    have F := F.2
    refine ms_lald mB_173 dX12_turned_36 (gk_65 N) (by rw [gl_65 N]; exact G) ?_
    refine ms_seq mB_173 mO_173 [(.lneg, 1)] (pc' := 38) (L' := [.ref 48, .int l1, .int l2]) (st' := [.long (-(δ.2.2 65 (Int32.toNatClampNeg l2))), .int (δ.2.1 64 (Int32.toNatClampNeg l2)), .ref 48]) ⟨dX12_turned_37, trivial⟩ rfl ?_
    refine ms_callvV mB_173 mO_173 (by omega) dX12_turned_38 mQ_12_217 mC_12_217 mL_164 mO_164 rfl (Nat.le_of_ble_eq_true rfl) (Nat.le_of_ble_eq_true rfl) (gk_48 N) rfl F (fun δ1 F => ?_)
    refine ms_seq mB_173 mO_173 [(.iinc 2 1, 3)] (pc' := 44) (L' := [.ref 48, .int l1, .int (l2 + 1)]) (st' := []) ⟨dX12_turned_41, trivial⟩ rfl ?_
    refine ms_goto mB_173 dX12_turned_44 (t := 12) rfl ?_
    exact F
set_option maxRecDepth 100000 in
theorem q12_sumOf_0 {N d : Nat} (hd : 5 ≤ d) {p0 p1 p2 : Int32} {δ : mi_D} {Q : Int64 → mi_D → Prop} (F : mi_wL N d 174 6 [.ref 48, .int p0, .int p1, .int p2, .long 0, .null, .int 0, .null] [] δ Q) : mi_wL N d 174 0 [.ref 48, .int p0, .int p1, .int p2, .null, .null, .null, .null] [] δ Q := by
  unfold mi_wL
  refine ms_seq mB_174 mO_174 [(.lconst 0, 1), (.lstore 4, 2), (.iconst 0, 1), (.istore 6, 2)] (pc' := 6) (L' := [.ref 48, .int p0, .int p1, .int p2, .long 0, .null, .int 0, .null]) (st' := []) ⟨dX12_sumOf_0, dX12_sumOf_1, dX12_sumOf_3, dX12_sumOf_4, trivial⟩ rfl ?_
  exact F
set_option maxRecDepth 100000 in
theorem q12_sumOf_6 {N d : Nat} (hd : 5 ≤ d) {l1 l2 l3 l6 : Int32} {l4 : Int64} {δ : mi_D} {Q : Int64 → mi_D → Prop} (F : ((l6 < (δ.1 48 15) → (mi_ix l6 401 = true ∧ (∀ x1 : Int32, x1 = (δ.2.1 61 (Int32.toNatClampNeg l6)) → mi_wL N d 174 24 [.ref 48, .int l1, .int l2, .int l3, .long l4, .null, .int l6, .int x1] [] δ Q))) ∧ (¬ l6 < (δ.1 48 15) → Q l4 δ))) : mi_wL N d 174 6 [.ref 48, .int l1, .int l2, .int l3, .long l4, .null, .int l6, .null] [] δ Q := by
  unfold mi_wL
  refine ms_seq mB_174 mO_174 [(.iload 6, 2), (.aload_n 0, 1)] (pc' := 9) (L' := [.ref 48, .int l1, .int l2, .int l3, .long l4, .null, .int l6, .null]) (st' := [.ref 48, .int l6]) ⟨dX12_sumOf_6, dX12_sumOf_8, trivial⟩ rfl ?_
  refine ms_getI mB_174 mO_174 dX12_sumOf_9 mF_12_203 (gk_48 N) (Or.inl rfl) ?_
  refine ms_icmp_ge mB_174 dX12_sumOf_12 (t := 95) rfl (fun c => ?_) (fun c => ?_)
  · have F := F.2 c
    refine ms_seq mB_174 mO_174 [(.lload 4, 2)] (pc' := 97) (L' := [.ref 48, .int l1, .int l2, .int l3, .long l4, .null, .int l6, .null]) (st' := [.long l4]) ⟨dX12_sumOf_95, trivial⟩ rfl ?_
    exact ms_lret mB_174 dX12_sumOf_97 mR_174 ⟨_, rfl, rfl, F⟩
  · have F := F.1 c
    refine ms_seq mB_174 mO_174 [(.aload_n 0, 1)] (pc' := 16) (L' := [.ref 48, .int l1, .int l2, .int l3, .long l4, .null, .int l6, .null]) (st' := [.ref 48]) ⟨dX12_sumOf_15, trivial⟩ rfl ?_
    refine ms_getA mB_174 mO_174 dX12_sumOf_16 mF_12_56 (gk_48 N) rfl (b := 61) (gr_48_19 N) ?_
    refine ms_seq mB_174 mO_174 [(.iload 6, 2)] (pc' := 21) (L' := [.ref 48, .int l1, .int l2, .int l3, .long l4, .null, .int l6, .null]) (st' := [.int l6, .ref 61]) ⟨dX12_sumOf_19, trivial⟩ rfl ?_
    have G := F.1
    have F := F.2
    refine ms_iald mB_174 dX12_sumOf_21 (Or.inl (gk_61 N)) (by rw [gl_61 N]; exact G) ?_
    refine mr_topi (fun x1 e_x1 => ?_)
    have F := F x1 e_x1
    refine ms_seq mB_174 mO_174 [(.istore 7, 2)] (pc' := 24) (L' := [.ref 48, .int l1, .int l2, .int l3, .long l4, .null, .int l6, .int x1]) (st' := []) ⟨dX12_sumOf_22, trivial⟩ rfl ?_
    exact F
set_option maxRecDepth 100000 in
theorem q12_sumOf_24 {N d : Nat} (hd : 5 ≤ d) {l1 l2 l3 l6 l7 : Int32} {l4 : Int64} {δ : mi_D} {Q : Int64 → mi_D → Prop} (F : (mi_ix (l6 + 1) 401 = true ∧ ((l7 < (δ.2.1 61 (Int32.toNatClampNeg (l6 + 1))) → (mi_ix l6 400 = true ∧ (mi_wI N (d - 1) 148 0 [.long (Int32.toInt64 (δ.2.1 58 (Int32.toNatClampNeg l6))), .null, .long (Int32.toInt64 l2), .null, .long (Int32.toInt64 l3), .null] [] δ (fun r2 δ1 => ((r2 = 0 → mi_wL N d 174 6 [.ref 48, .int l1, .int l2, .int l3, .long l4, .null, .int (l6 + 1), .int l7] [] δ1 Q) ∧ (¬ r2 = 0 → (mi_ix l7 24800 = true ∧ (((δ1.2.1 64 (Int32.toNatClampNeg l7)) = l1 → (mi_ix l7 24800 = true ∧ (∀ x4 : Int64, x4 = (l4 + (δ1.2.2 65 (Int32.toNatClampNeg l7))) → mi_wL N d 174 24 [.ref 48, .int l1, .int l2, .int l3, .long x4, .null, .int l6, .int (l7 + 1)] [] δ1 Q))) ∧ (¬ (δ1.2.1 64 (Int32.toNatClampNeg l7)) = l1 → (∀ x3 : Int64, x3 = (l4 + 0) → mi_wL N d 174 24 [.ref 48, .int l1, .int l2, .int l3, .long x3, .null, .int l6, .int (l7 + 1)] [] δ1 Q)))))))))) ∧ (¬ l7 < (δ.2.1 61 (Int32.toNatClampNeg (l6 + 1))) → mi_wL N d 174 6 [.ref 48, .int l1, .int l2, .int l3, .long l4, .null, .int (l6 + 1), .int l7] [] δ Q)))) : mi_wL N d 174 24 [.ref 48, .int l1, .int l2, .int l3, .long l4, .null, .int l6, .int l7] [] δ Q := by
  unfold mi_wL
  refine ms_seq mB_174 mO_174 [(.iload 7, 2), (.aload_n 0, 1)] (pc' := 27) (L' := [.ref 48, .int l1, .int l2, .int l3, .long l4, .null, .int l6, .int l7]) (st' := [.ref 48, .int l7]) ⟨dX12_sumOf_24, dX12_sumOf_26, trivial⟩ rfl ?_
  refine ms_getA mB_174 mO_174 dX12_sumOf_27 mF_12_56 (gk_48 N) rfl (b := 61) (gr_48_19 N) ?_
  refine ms_seq mB_174 mO_174 [(.iload 6, 2), (.iconst 1, 1), (.iadd, 1)] (pc' := 34) (L' := [.ref 48, .int l1, .int l2, .int l3, .long l4, .null, .int l6, .int l7]) (st' := [.int (l6 + 1), .ref 61, .int l7]) ⟨dX12_sumOf_30, dX12_sumOf_32, dX12_sumOf_33, trivial⟩ rfl ?_
  have G := F.1
  have F := F.2
  refine ms_iald mB_174 dX12_sumOf_34 (Or.inl (gk_61 N)) (by rw [gl_61 N]; exact G) ?_
  refine ms_icmp_ge mB_174 dX12_sumOf_35 (t := 89) rfl (fun c => ?_) (fun c => ?_)
  · have F := F.2 c
    refine ms_seq mB_174 mO_174 [(.iinc 6 1, 3)] (pc' := 92) (L' := [.ref 48, .int l1, .int l2, .int l3, .long l4, .null, .int (l6 + 1), .int l7]) (st' := []) ⟨dX12_sumOf_89, trivial⟩ rfl ?_
    refine ms_goto mB_174 dX12_sumOf_92 (t := 6) rfl ?_
    exact F
  · have F := F.1 c
    refine ms_seq mB_174 mO_174 [(.aload_n 0, 1)] (pc' := 39) (L' := [.ref 48, .int l1, .int l2, .int l3, .long l4, .null, .int l6, .int l7]) (st' := [.ref 48]) ⟨dX12_sumOf_38, trivial⟩ rfl ?_
    refine ms_getA mB_174 mO_174 dX12_sumOf_39 mF_12_47 (gk_48 N) rfl (b := 58) (gr_48_16 N) ?_
    refine ms_seq mB_174 mO_174 [(.iload 6, 2)] (pc' := 44) (L' := [.ref 48, .int l1, .int l2, .int l3, .long l4, .null, .int l6, .int l7]) (st' := [.int l6, .ref 58]) ⟨dX12_sumOf_42, trivial⟩ rfl ?_
    have G := F.1
    have F := F.2
    refine ms_iald mB_174 dX12_sumOf_44 (Or.inl (gk_58 N)) (by rw [gl_58 N]; exact G) ?_
    refine ms_seq mB_174 mO_174 [(.i2l, 1), (.iload_n 2, 1), (.i2l, 1), (.iload_n 3, 1), (.i2l, 1)] (pc' := 50) (L' := [.ref 48, .int l1, .int l2, .int l3, .long l4, .null, .int l6, .int l7]) (st' := [.long (Int32.toInt64 l3), .long (Int32.toInt64 l2), .long (Int32.toInt64 (δ.2.1 58 (Int32.toNatClampNeg l6)))]) ⟨dX12_sumOf_45, dX12_sumOf_46, dX12_sumOf_47, dX12_sumOf_48, dX12_sumOf_49, trivial⟩ rfl ?_
    refine ms_callsI mB_174 mO_174 (by omega) dX12_sumOf_50 mQ_12_116 mC_12_116 mL_148 (by decide) rfl (Nat.le_of_ble_eq_true rfl) (Nat.le_of_ble_eq_true rfl) rfl F (fun r2 δ1 F => ?_)
    refine ms_if_eq mB_174 dX12_sumOf_53 (t := 89) rfl (fun c => ?_) (fun c => ?_)
    · have F := F.1 c
      refine ms_seq mB_174 mO_174 [(.iinc 6 1, 3)] (pc' := 92) (L' := [.ref 48, .int l1, .int l2, .int l3, .long l4, .null, .int (l6 + 1), .int l7]) (st' := []) ⟨dX12_sumOf_89, trivial⟩ rfl ?_
      refine ms_goto mB_174 dX12_sumOf_92 (t := 6) rfl ?_
      exact F
    · have F := F.2 c
      refine ms_seq mB_174 mO_174 [(.lload 4, 2), (.aload_n 0, 1)] (pc' := 59) (L' := [.ref 48, .int l1, .int l2, .int l3, .long l4, .null, .int l6, .int l7]) (st' := [.ref 48, .long l4]) ⟨dX12_sumOf_56, dX12_sumOf_58, trivial⟩ rfl ?_
      refine ms_getA mB_174 mO_174 dX12_sumOf_59 mF_12_65 (gk_48 N) rfl (b := 64) (gr_48_22 N) ?_
      refine ms_seq mB_174 mO_174 [(.iload 7, 2)] (pc' := 64) (L' := [.ref 48, .int l1, .int l2, .int l3, .long l4, .null, .int l6, .int l7]) (st' := [.int l7, .ref 64, .long l4]) ⟨dX12_sumOf_62, trivial⟩ rfl ?_
      have G := F.1
      have F := F.2
      refine ms_iald mB_174 dX12_sumOf_64 (Or.inl (gk_64 N)) (by rw [gl_64 N]; exact G) ?_
      refine ms_seq mB_174 mO_174 [(.iload_n 1, 1)] (pc' := 66) (L' := [.ref 48, .int l1, .int l2, .int l3, .long l4, .null, .int l6, .int l7]) (st' := [.int l1, .int (δ1.2.1 64 (Int32.toNatClampNeg l7)), .long l4]) ⟨dX12_sumOf_65, trivial⟩ rfl ?_
      refine ms_icmp_ne mB_174 dX12_sumOf_66 (t := 79) rfl (fun c => ?_) (fun c => ?_)
      · have F := F.2 c
        refine ms_seq mB_174 mO_174 [(.lconst 0, 1), (.ladd, 1)] (pc' := 81) (L' := [.ref 48, .int l1, .int l2, .int l3, .long l4, .null, .int l6, .int l7]) (st' := [.long (l4 + 0)]) ⟨dX12_sumOf_79, dX12_sumOf_80, trivial⟩ rfl ?_
        refine mr_topl (fun x3 e_x3 => ?_)
        have F := F x3 e_x3
        refine ms_seq mB_174 mO_174 [(.lstore 4, 2), (.iinc 7 1, 3)] (pc' := 86) (L' := [.ref 48, .int l1, .int l2, .int l3, .long x3, .null, .int l6, .int (l7 + 1)]) (st' := []) ⟨dX12_sumOf_81, dX12_sumOf_83, trivial⟩ rfl ?_
        refine ms_goto mB_174 dX12_sumOf_86 (t := 24) rfl ?_
        exact F
      · have F := F.1 c
        refine ms_seq mB_174 mO_174 [(.aload_n 0, 1)] (pc' := 70) (L' := [.ref 48, .int l1, .int l2, .int l3, .long l4, .null, .int l6, .int l7]) (st' := [.ref 48, .long l4]) ⟨dX12_sumOf_69, trivial⟩ rfl ?_
        refine ms_getA mB_174 mO_174 dX12_sumOf_70 mF_12_68 (gk_48 N) rfl (b := 65) (gr_48_23 N) ?_
        refine ms_seq mB_174 mO_174 [(.iload 7, 2)] (pc' := 75) (L' := [.ref 48, .int l1, .int l2, .int l3, .long l4, .null, .int l6, .int l7]) (st' := [.int l7, .ref 65, .long l4]) ⟨dX12_sumOf_73, trivial⟩ rfl ?_
        have G := F.1
        have F := F.2
        refine ms_lald mB_174 dX12_sumOf_75 (gk_65 N) (by rw [gl_65 N]; exact G) ?_
        refine ms_goto mB_174 dX12_sumOf_76 (t := 80) rfl ?_
        refine ms_seq mB_174 mO_174 [(.ladd, 1)] (pc' := 81) (L' := [.ref 48, .int l1, .int l2, .int l3, .long l4, .null, .int l6, .int l7]) (st' := [.long (l4 + (δ1.2.2 65 (Int32.toNatClampNeg l7)))]) ⟨dX12_sumOf_80, trivial⟩ rfl ?_
        refine mr_topl (fun x4 e_x4 => ?_)
        have F := F x4 e_x4
        refine ms_seq mB_174 mO_174 [(.lstore 4, 2), (.iinc 7 1, 3)] (pc' := 86) (L' := [.ref 48, .int l1, .int l2, .int l3, .long x4, .null, .int l6, .int (l7 + 1)]) (st' := []) ⟨dX12_sumOf_81, dX12_sumOf_83, trivial⟩ rfl ?_
        refine ms_goto mB_174 dX12_sumOf_86 (t := 24) rfl ?_
        exact F
set_option maxRecDepth 100000 in
theorem q12_sumOf_6a {N d : Nat} (hd : 5 ≤ d) {l1 l2 l3 l6 l7 : Int32} {l4 : Int64} {δ : mi_D} {Q : Int64 → mi_D → Prop} (F : ((l6 < (δ.1 48 15) → (mi_ix l6 401 = true ∧ (∀ x1 : Int32, x1 = (δ.2.1 61 (Int32.toNatClampNeg l6)) → mi_wL N d 174 24 [.ref 48, .int l1, .int l2, .int l3, .long l4, .null, .int l6, .int x1] [] δ Q))) ∧ (¬ l6 < (δ.1 48 15) → Q l4 δ))) : mi_wL N d 174 6 [.ref 48, .int l1, .int l2, .int l3, .long l4, .null, .int l6, .int l7] [] δ Q := by
  unfold mi_wL
  refine ms_seq mB_174 mO_174 [(.iload 6, 2), (.aload_n 0, 1)] (pc' := 9) (L' := [.ref 48, .int l1, .int l2, .int l3, .long l4, .null, .int l6, .int l7]) (st' := [.ref 48, .int l6]) ⟨dX12_sumOf_6, dX12_sumOf_8, trivial⟩ rfl ?_
  refine ms_getI mB_174 mO_174 dX12_sumOf_9 mF_12_203 (gk_48 N) (Or.inl rfl) ?_
  refine ms_icmp_ge mB_174 dX12_sumOf_12 (t := 95) rfl (fun c => ?_) (fun c => ?_)
  · have F := F.2 c
    refine ms_seq mB_174 mO_174 [(.lload 4, 2)] (pc' := 97) (L' := [.ref 48, .int l1, .int l2, .int l3, .long l4, .null, .int l6, .int l7]) (st' := [.long l4]) ⟨dX12_sumOf_95, trivial⟩ rfl ?_
    exact ms_lret mB_174 dX12_sumOf_97 mR_174 ⟨_, rfl, rfl, F⟩
  · have F := F.1 c
    refine ms_seq mB_174 mO_174 [(.aload_n 0, 1)] (pc' := 16) (L' := [.ref 48, .int l1, .int l2, .int l3, .long l4, .null, .int l6, .int l7]) (st' := [.ref 48]) ⟨dX12_sumOf_15, trivial⟩ rfl ?_
    refine ms_getA mB_174 mO_174 dX12_sumOf_16 mF_12_56 (gk_48 N) rfl (b := 61) (gr_48_19 N) ?_
    refine ms_seq mB_174 mO_174 [(.iload 6, 2)] (pc' := 21) (L' := [.ref 48, .int l1, .int l2, .int l3, .long l4, .null, .int l6, .int l7]) (st' := [.int l6, .ref 61]) ⟨dX12_sumOf_19, trivial⟩ rfl ?_
    have G := F.1
    have F := F.2
    refine ms_iald mB_174 dX12_sumOf_21 (Or.inl (gk_61 N)) (by rw [gl_61 N]; exact G) ?_
    refine mr_topi (fun x1 e_x1 => ?_)
    have F := F x1 e_x1
    refine ms_seq mB_174 mO_174 [(.istore 7, 2)] (pc' := 24) (L' := [.ref 48, .int l1, .int l2, .int l3, .long l4, .null, .int l6, .int x1]) (st' := []) ⟨dX12_sumOf_22, trivial⟩ rfl ?_
    exact F
set_option maxRecDepth 100000 in
theorem q12_nextCode_0 {N d : Nat} (hd : 5 ≤ d) {p0 : Int32} {δ : mi_D} {Q : Int32 → mi_D → Prop} (F : mi_wI N d 175 4 [.ref 48, .int p0, .int (-1), .int 0] [] δ Q) : mi_wI N d 175 0 [.ref 48, .int p0, .null, .null] [] δ Q := by
  unfold mi_wI
  refine ms_seq mB_175 mO_175 [(.iconst (-1), 1), (.istore_n 2, 1), (.iconst 0, 1), (.istore_n 3, 1)] (pc' := 4) (L' := [.ref 48, .int p0, .int (-1), .int 0]) (st' := []) ⟨dX12_nextCode_0, dX12_nextCode_1, dX12_nextCode_2, dX12_nextCode_3, trivial⟩ rfl ?_
  exact F
set_option maxRecDepth 100000 in
theorem q12_nextCode_4 {N d : Nat} (hd : 5 ≤ d) {l1 l2 l3 : Int32} {δ : mi_D} {Q : Int32 → mi_D → Prop} (F : ((l3 < (δ.1 48 2) → (mi_ix l3 60 = true ∧ ((l1 < (δ.2.1 49 (Int32.toNatClampNeg l3)) → ((l2 < 0 → mi_wI N d 175 4 [.ref 48, .int l1, .int l3, .int (l3 + 1)] [] δ Q) ∧ (¬ l2 < 0 → (mi_ix l3 60 = true ∧ (mi_ix l2 60 = true ∧ (((δ.2.1 49 (Int32.toNatClampNeg l3)) < (δ.2.1 49 (Int32.toNatClampNeg l2)) → mi_wI N d 175 4 [.ref 48, .int l1, .int l3, .int (l3 + 1)] [] δ Q) ∧ (¬ (δ.2.1 49 (Int32.toNatClampNeg l3)) < (δ.2.1 49 (Int32.toNatClampNeg l2)) → mi_wI N d 175 4 [.ref 48, .int l1, .int l2, .int (l3 + 1)] [] δ Q))))))) ∧ (¬ l1 < (δ.2.1 49 (Int32.toNatClampNeg l3)) → mi_wI N d 175 4 [.ref 48, .int l1, .int l2, .int (l3 + 1)] [] δ Q)))) ∧ (¬ l3 < (δ.1 48 2) → Q l2 δ))) : mi_wI N d 175 4 [.ref 48, .int l1, .int l2, .int l3] [] δ Q := by
  unfold mi_wI
  refine ms_seq mB_175 mO_175 [(.iload_n 3, 1), (.aload_n 0, 1)] (pc' := 6) (L' := [.ref 48, .int l1, .int l2, .int l3]) (st' := [.ref 48, .int l3]) ⟨dX12_nextCode_4, dX12_nextCode_5, trivial⟩ rfl ?_
  refine ms_getI mB_175 mO_175 dX12_nextCode_6 mF_12_113 (gk_48 N) (Or.inl rfl) ?_
  refine ms_icmp_ge mB_175 dX12_nextCode_9 (t := 53) rfl (fun c => ?_) (fun c => ?_)
  · have F := F.2 c
    refine ms_seq mB_175 mO_175 [(.iload_n 2, 1)] (pc' := 54) (L' := [.ref 48, .int l1, .int l2, .int l3]) (st' := [.int l2]) ⟨dX12_nextCode_53, trivial⟩ rfl ?_
    exact ms_iret mB_175 dX12_nextCode_54 mR_175 ⟨_, rfl, rfl, F⟩
  · have F := F.1 c
    refine ms_seq mB_175 mO_175 [(.aload_n 0, 1)] (pc' := 13) (L' := [.ref 48, .int l1, .int l2, .int l3]) (st' := [.ref 48]) ⟨dX12_nextCode_12, trivial⟩ rfl ?_
    refine ms_getA mB_175 mO_175 dX12_nextCode_13 mF_12_13 (gk_48 N) rfl (b := 49) (gr_48_3 N) ?_
    refine ms_seq mB_175 mO_175 [(.iload_n 3, 1)] (pc' := 17) (L' := [.ref 48, .int l1, .int l2, .int l3]) (st' := [.int l3, .ref 49]) ⟨dX12_nextCode_16, trivial⟩ rfl ?_
    have G := F.1
    have F := F.2
    refine ms_iald mB_175 dX12_nextCode_17 (Or.inl (gk_49 N)) (by rw [gl_49 N]; exact G) ?_
    refine ms_seq mB_175 mO_175 [(.iload_n 1, 1)] (pc' := 19) (L' := [.ref 48, .int l1, .int l2, .int l3]) (st' := [.int l1, .int (δ.2.1 49 (Int32.toNatClampNeg l3))]) ⟨dX12_nextCode_18, trivial⟩ rfl ?_
    refine ms_icmp_le mB_175 dX12_nextCode_19 (t := 45) rfl (fun c => ?_) (fun c => ?_)
    · have F := F.2 c
      refine ms_seq mB_175 mO_175 [(.iload_n 2, 1), (.istore_n 2, 1), (.iinc 3 1, 3)] (pc' := 50) (L' := [.ref 48, .int l1, .int l2, .int (l3 + 1)]) (st' := []) ⟨dX12_nextCode_45, dX12_nextCode_46, dX12_nextCode_47, trivial⟩ rfl ?_
      refine ms_goto mB_175 dX12_nextCode_50 (t := 4) rfl ?_
      exact F
    · have F := F.1 c
      refine ms_seq mB_175 mO_175 [(.iload_n 2, 1)] (pc' := 23) (L' := [.ref 48, .int l1, .int l2, .int l3]) (st' := [.int l2]) ⟨dX12_nextCode_22, trivial⟩ rfl ?_
      refine ms_if_lt mB_175 dX12_nextCode_23 (t := 41) rfl (fun c => ?_) (fun c => ?_)
      · have F := F.1 c
        refine ms_seq mB_175 mO_175 [(.iload_n 3, 1)] (pc' := 42) (L' := [.ref 48, .int l1, .int l2, .int l3]) (st' := [.int l3]) ⟨dX12_nextCode_41, trivial⟩ rfl ?_
        refine ms_goto mB_175 dX12_nextCode_42 (t := 46) rfl ?_
        refine ms_seq mB_175 mO_175 [(.istore_n 2, 1), (.iinc 3 1, 3)] (pc' := 50) (L' := [.ref 48, .int l1, .int l3, .int (l3 + 1)]) (st' := []) ⟨dX12_nextCode_46, dX12_nextCode_47, trivial⟩ rfl ?_
        refine ms_goto mB_175 dX12_nextCode_50 (t := 4) rfl ?_
        exact F
      · have F := F.2 c
        refine ms_seq mB_175 mO_175 [(.aload_n 0, 1)] (pc' := 27) (L' := [.ref 48, .int l1, .int l2, .int l3]) (st' := [.ref 48]) ⟨dX12_nextCode_26, trivial⟩ rfl ?_
        refine ms_getA mB_175 mO_175 dX12_nextCode_27 mF_12_13 (gk_48 N) rfl (b := 49) (gr_48_3 N) ?_
        refine ms_seq mB_175 mO_175 [(.iload_n 3, 1)] (pc' := 31) (L' := [.ref 48, .int l1, .int l2, .int l3]) (st' := [.int l3, .ref 49]) ⟨dX12_nextCode_30, trivial⟩ rfl ?_
        have G := F.1
        have F := F.2
        refine ms_iald mB_175 dX12_nextCode_31 (Or.inl (gk_49 N)) (by rw [gl_49 N]; exact G) ?_
        refine ms_seq mB_175 mO_175 [(.aload_n 0, 1)] (pc' := 33) (L' := [.ref 48, .int l1, .int l2, .int l3]) (st' := [.ref 48, .int (δ.2.1 49 (Int32.toNatClampNeg l3))]) ⟨dX12_nextCode_32, trivial⟩ rfl ?_
        refine ms_getA mB_175 mO_175 dX12_nextCode_33 mF_12_13 (gk_48 N) rfl (b := 49) (gr_48_3 N) ?_
        refine ms_seq mB_175 mO_175 [(.iload_n 2, 1)] (pc' := 37) (L' := [.ref 48, .int l1, .int l2, .int l3]) (st' := [.int l2, .ref 49, .int (δ.2.1 49 (Int32.toNatClampNeg l3))]) ⟨dX12_nextCode_36, trivial⟩ rfl ?_
        have G := F.1
        have F := F.2
        refine ms_iald mB_175 dX12_nextCode_37 (Or.inl (gk_49 N)) (by rw [gl_49 N]; exact G) ?_
        refine ms_icmp_ge mB_175 dX12_nextCode_38 (t := 45) rfl (fun c => ?_) (fun c => ?_)
        · have F := F.2 c
          refine ms_seq mB_175 mO_175 [(.iload_n 2, 1), (.istore_n 2, 1), (.iinc 3 1, 3)] (pc' := 50) (L' := [.ref 48, .int l1, .int l2, .int (l3 + 1)]) (st' := []) ⟨dX12_nextCode_45, dX12_nextCode_46, dX12_nextCode_47, trivial⟩ rfl ?_
          refine ms_goto mB_175 dX12_nextCode_50 (t := 4) rfl ?_
          exact F
        · have F := F.1 c
          refine ms_seq mB_175 mO_175 [(.iload_n 3, 1)] (pc' := 42) (L' := [.ref 48, .int l1, .int l2, .int l3]) (st' := [.int l3]) ⟨dX12_nextCode_41, trivial⟩ rfl ?_
          refine ms_goto mB_175 dX12_nextCode_42 (t := 46) rfl ?_
          refine ms_seq mB_175 mO_175 [(.istore_n 2, 1), (.iinc 3 1, 3)] (pc' := 50) (L' := [.ref 48, .int l1, .int l3, .int (l3 + 1)]) (st' := []) ⟨dX12_nextCode_46, dX12_nextCode_47, trivial⟩ rfl ?_
          refine ms_goto mB_175 dX12_nextCode_50 (t := 4) rfl ?_
          exact F
set_option maxRecDepth 100000 in
theorem q12_close_0 {N d : Nat} (hd : 5 ≤ d) {δ : mi_D} {Q : Int32 → mi_D → Prop} (F : (((δ.1 48 0) = 0 → Q (-6) δ) ∧ (¬ (δ.1 48 0) = 0 → (((δ.1 48 12) = (δ.1 48 11) → Q (-6) δ) ∧ (¬ (δ.1 48 12) = (δ.1 48 11) → (((δ.1 48 10) = (-1) → Q (-6) δ) ∧ (¬ (δ.1 48 10) = (-1) → (∀ x1 : Int32, x1 = (δ.1 48 12) → (∀ δ2 : mi_D, δ2 = mi_setI δ 48 27 0 → (mi_wI N (d - 1) 175 0 [.ref 48, .int 0, .null, .null] [] δ2 (fun r4 δ3 => mi_wI N d 176 51 [.ref 48, .int x1, .long 0, .null, .int r4, .null, .null] [] δ3 Q))))))))))) : mi_wI N d 176 0 [.ref 48, .null, .null, .null, .null, .null, .null] [] δ Q := by
  unfold mi_wI
  refine ms_seq mB_176 mO_176 [(.aload_n 0, 1)] (pc' := 1) (L' := [.ref 48, .null, .null, .null, .null, .null, .null]) (st' := [.ref 48]) ⟨dX12_close_0, trivial⟩ rfl ?_
  refine ms_getI mB_176 mO_176 dX12_close_1 mF_12_7 (gk_48 N) (Or.inr rfl) ?_
  refine ms_if_ne mB_176 dX12_close_4 (t := 10) rfl (fun c => ?_) (fun c => ?_)
  · have F := F.2 c
    refine ms_seq mB_176 mO_176 [(.aload_n 0, 1)] (pc' := 11) (L' := [.ref 48, .null, .null, .null, .null, .null, .null]) (st' := [.ref 48]) ⟨dX12_close_10, trivial⟩ rfl ?_
    refine ms_getI mB_176 mO_176 dX12_close_11 mF_12_197 (gk_48 N) (Or.inl rfl) ?_
    refine ms_seq mB_176 mO_176 [(.aload_n 0, 1)] (pc' := 15) (L' := [.ref 48, .null, .null, .null, .null, .null, .null]) (st' := [.ref 48, .int (δ.1 48 12)]) ⟨dX12_close_14, trivial⟩ rfl ?_
    refine ms_getI mB_176 mO_176 dX12_close_15 mF_12_173 (gk_48 N) (Or.inl rfl) ?_
    refine ms_icmp_eq mB_176 dX12_close_18 (t := 29) rfl (fun c => ?_) (fun c => ?_)
    · have F := F.1 c
      refine ms_seq mB_176 mO_176 [(.bipush (-6), 2)] (pc' := 31) (L' := [.ref 48, .null, .null, .null, .null, .null, .null]) (st' := [.int (-6)]) ⟨dX12_close_29, trivial⟩ rfl ?_
      exact ms_iret mB_176 dX12_close_31 mR_176 ⟨_, rfl, rfl, F⟩
    · have F := F.2 c
      refine ms_seq mB_176 mO_176 [(.aload_n 0, 1)] (pc' := 22) (L' := [.ref 48, .null, .null, .null, .null, .null, .null]) (st' := [.ref 48]) ⟨dX12_close_21, trivial⟩ rfl ?_
      refine ms_getI mB_176 mO_176 dX12_close_22 mF_12_37 (gk_48 N) (Or.inl rfl) ?_
      refine ms_seq mB_176 mO_176 [(.iconst (-1), 1)] (pc' := 26) (L' := [.ref 48, .null, .null, .null, .null, .null, .null]) (st' := [.int (-1), .int (δ.1 48 10)]) ⟨dX12_close_25, trivial⟩ rfl ?_
      refine ms_icmp_ne mB_176 dX12_close_26 (t := 32) rfl (fun c => ?_) (fun c => ?_)
      · have F := F.2 c
        refine ms_seq mB_176 mO_176 [(.aload_n 0, 1)] (pc' := 33) (L' := [.ref 48, .null, .null, .null, .null, .null, .null]) (st' := [.ref 48]) ⟨dX12_close_32, trivial⟩ rfl ?_
        refine ms_getI mB_176 mO_176 dX12_close_33 mF_12_197 (gk_48 N) (Or.inl rfl) ?_
        refine mr_topi (fun x1 e_x1 => ?_)
        have F := F x1 e_x1
        refine ms_seq mB_176 mO_176 [(.istore_n 1, 1), (.aload_n 0, 1), (.iconst 0, 1)] (pc' := 39) (L' := [.ref 48, .int x1, .null, .null, .null, .null, .null]) (st' := [.int 0, .ref 48]) ⟨dX12_close_36, dX12_close_37, dX12_close_38, trivial⟩ rfl ?_
        refine ms_putI mB_176 mO_176 dX12_close_39 mF_12_187 (gk_48 N) rfl rfl ?_
        refine mr_st (fun δ2 e_δ2 => ?_)
        have F := F δ2 e_δ2
        refine ms_seq mB_176 mO_176 [(.lconst 0, 1), (.lstore_n 2, 1), (.aload_n 0, 1), (.iconst 0, 1)] (pc' := 46) (L' := [.ref 48, .int x1, .long 0, .null, .null, .null, .null]) (st' := [.int 0, .ref 48]) ⟨dX12_close_42, dX12_close_43, dX12_close_44, dX12_close_45, trivial⟩ rfl ?_
        refine ms_callvI mB_176 mO_176 (by omega) dX12_close_46 mQ_12_227 mC_12_227 mL_175 mO_175 rfl (Nat.le_of_ble_eq_true rfl) (Nat.le_of_ble_eq_true rfl) (gk_48 N) rfl F (fun r4 δ3 F => ?_)
        refine ms_seq mB_176 mO_176 [(.istore 4, 2)] (pc' := 51) (L' := [.ref 48, .int x1, .long 0, .null, .int r4, .null, .null]) (st' := []) ⟨dX12_close_49, trivial⟩ rfl ?_
        exact F
      · have F := F.1 c
        refine ms_seq mB_176 mO_176 [(.bipush (-6), 2)] (pc' := 31) (L' := [.ref 48, .null, .null, .null, .null, .null, .null]) (st' := [.int (-6)]) ⟨dX12_close_29, trivial⟩ rfl ?_
        exact ms_iret mB_176 dX12_close_31 mR_176 ⟨_, rfl, rfl, F⟩
  · have F := F.1 c
    refine ms_seq mB_176 mO_176 [(.bipush (-6), 2)] (pc' := 9) (L' := [.ref 48, .null, .null, .null, .null, .null, .null]) (st' := [.int (-6)]) ⟨dX12_close_7, trivial⟩ rfl ?_
    exact ms_iret mB_176 dX12_close_9 mR_176 ⟨_, rfl, rfl, F⟩
set_option maxRecDepth 100000 in
theorem q12_close_51 {N d : Nat} (hd : 5 ≤ d) {l1 l4 : Int32} {l2 : Int64} {δ : mi_D} {Q : Int32 → mi_D → Prop} (F : ((l4 = (-1) → (((lg_cmp l2 0) = 0 → mi_wI N d 176 150 [.ref 48, .int l1, .long l2, .null, .int l4, .null, .null] [] δ Q) ∧ (¬ (lg_cmp l2 0) = 0 → (mi_wV N (d - 1) 164 0 [.ref 48, .int (δ.1 48 10), .long (-l2), .null] [] δ (fun δ1 => mi_wI N d 176 150 [.ref 48, .int l1, .long l2, .null, .int l4, .null, .null] [] δ1 Q))))) ∧ (¬ l4 = (-1) → (mi_ix l4 60 = true ∧ (((δ.2.1 52 (Int32.toNatClampNeg l4)) = 0 → (mi_ix l4 60 = true ∧ ((2 < (δ.2.1 50 (Int32.toNatClampNeg l4)) → (mi_wI N (d - 1) 159 0 [.ref 48, .int l1] [] δ (fun r3 δ2 => (mi_ix l1 24 = true ∧ (mi_wL N (d - 1) 174 0 [.ref 48, .int l4, .int r3, .int (δ2.2.1 56 (Int32.toNatClampNeg l1)), .null, .null, .null, .null] [] δ2 (fun r5 δ4 => (((lg_cmp r5 0) = 0 → mi_wI N d 176 118 [.ref 48, .int l1, .long l2, .null, .int l4, .long r5, .null] [] δ4 Q) ∧ (¬ (lg_cmp r5 0) = 0 → (mi_wV N (d - 1) 164 0 [.ref 48, .int l4, .long (-r5), .null] [] δ4 (fun δ6 => (∀ x7 : Int64, x7 = (l2 - r5) → mi_wI N d 176 118 [.ref 48, .int l1, .long x7, .null, .int l4, .long r5, .null] [] δ6 Q))))))))))) ∧ (¬ 2 < (δ.2.1 50 (Int32.toNatClampNeg l4)) → mi_wI N d 176 118 [.ref 48, .int l1, .long l2, .null, .int l4, .null, .null] [] δ Q)))) ∧ (¬ (δ.2.1 52 (Int32.toNatClampNeg l4)) = 0 → mi_wI N d 176 118 [.ref 48, .int l1, .long l2, .null, .int l4, .null, .null] [] δ Q)))))) : mi_wI N d 176 51 [.ref 48, .int l1, .long l2, .null, .int l4, .null, .null] [] δ Q := by
  unfold mi_wI
  refine ms_seq mB_176 mO_176 [(.iload 4, 2), (.iconst (-1), 1)] (pc' := 54) (L' := [.ref 48, .int l1, .long l2, .null, .int l4, .null, .null]) (st' := [.int (-1), .int l4]) ⟨dX12_close_51, dX12_close_53, trivial⟩ rfl ?_
  refine ms_icmp_eq mB_176 dX12_close_54 (t := 134) rfl (fun c => ?_) (fun c => ?_)
  · have F := F.1 c
    refine ms_seq mB_176 mO_176 [(.lload_n 2, 1), (.lconst 0, 1), (.lcmp, 1)] (pc' := 137) (L' := [.ref 48, .int l1, .long l2, .null, .int l4, .null, .null]) (st' := [.int (lg_cmp l2 0)]) ⟨dX12_close_134, dX12_close_135, dX12_close_136, trivial⟩ rfl ?_
    refine ms_if_eq mB_176 dX12_close_137 (t := 150) rfl (fun c => ?_) (fun c => ?_)
    · have F := F.1 c
      exact F
    · have F := F.2 c
      refine ms_seq mB_176 mO_176 [(.aload_n 0, 1), (.aload_n 0, 1)] (pc' := 142) (L' := [.ref 48, .int l1, .long l2, .null, .int l4, .null, .null]) (st' := [.ref 48, .ref 48]) ⟨dX12_close_140, dX12_close_141, trivial⟩ rfl ?_
      refine ms_getI mB_176 mO_176 dX12_close_142 mF_12_37 (gk_48 N) (Or.inl rfl) ?_
      refine ms_seq mB_176 mO_176 [(.lload_n 2, 1), (.lneg, 1)] (pc' := 147) (L' := [.ref 48, .int l1, .long l2, .null, .int l4, .null, .null]) (st' := [.long (-l2), .int (δ.1 48 10), .ref 48]) ⟨dX12_close_145, dX12_close_146, trivial⟩ rfl ?_
      refine ms_callvV mB_176 mO_176 (by omega) dX12_close_147 mQ_12_217 mC_12_217 mL_164 mO_164 rfl (Nat.le_of_ble_eq_true rfl) (Nat.le_of_ble_eq_true rfl) (gk_48 N) rfl F (fun δ1 F => ?_)
      exact F
  · have F := F.2 c
    refine ms_seq mB_176 mO_176 [(.aload_n 0, 1)] (pc' := 58) (L' := [.ref 48, .int l1, .long l2, .null, .int l4, .null, .null]) (st' := [.ref 48]) ⟨dX12_close_57, trivial⟩ rfl ?_
    refine ms_getA mB_176 mO_176 dX12_close_58 mF_12_23 (gk_48 N) rfl (b := 52) (gr_48_6 N) ?_
    refine ms_seq mB_176 mO_176 [(.iload 4, 2)] (pc' := 63) (L' := [.ref 48, .int l1, .long l2, .null, .int l4, .null, .null]) (st' := [.int l4, .ref 52]) ⟨dX12_close_61, trivial⟩ rfl ?_
    have G := F.1
    have F := F.2
    refine ms_bald mB_176 dX12_close_63 (gk_52 N) (by rw [gl_52 N]; exact G) ?_
    refine ms_if_ne mB_176 dX12_close_64 (t := 118) rfl (fun c => ?_) (fun c => ?_)
    · have F := F.2 c
      exact F
    · have F := F.1 c
      refine ms_seq mB_176 mO_176 [(.aload_n 0, 1)] (pc' := 68) (L' := [.ref 48, .int l1, .long l2, .null, .int l4, .null, .null]) (st' := [.ref 48]) ⟨dX12_close_67, trivial⟩ rfl ?_
      refine ms_getA mB_176 mO_176 dX12_close_68 mF_12_17 (gk_48 N) rfl (b := 50) (gr_48_4 N) ?_
      refine ms_seq mB_176 mO_176 [(.iload 4, 2)] (pc' := 73) (L' := [.ref 48, .int l1, .long l2, .null, .int l4, .null, .null]) (st' := [.int l4, .ref 50]) ⟨dX12_close_71, trivial⟩ rfl ?_
      have G := F.1
      have F := F.2
      refine ms_iald mB_176 dX12_close_73 (Or.inl (gk_50 N)) (by rw [gl_50 N]; exact G) ?_
      refine ms_seq mB_176 mO_176 [(.iconst 2, 1)] (pc' := 75) (L' := [.ref 48, .int l1, .long l2, .null, .int l4, .null, .null]) (st' := [.int 2, .int (δ.2.1 50 (Int32.toNatClampNeg l4))]) ⟨dX12_close_74, trivial⟩ rfl ?_
      refine ms_icmp_le mB_176 dX12_close_75 (t := 118) rfl (fun c => ?_) (fun c => ?_)
      · have F := F.2 c
        exact F
      · have F := F.1 c
        refine ms_seq mB_176 mO_176 [(.aload_n 0, 1), (.iload 4, 2), (.aload_n 0, 1), (.iload_n 1, 1)] (pc' := 83) (L' := [.ref 48, .int l1, .long l2, .null, .int l4, .null, .null]) (st' := [.int l1, .ref 48, .int l4, .ref 48]) ⟨dX12_close_78, dX12_close_79, dX12_close_81, dX12_close_82, trivial⟩ rfl ?_
        refine ms_callvI mB_176 mO_176 (by omega) dX12_close_83 mQ_12_176 mC_12_176 mL_159 mO_159 rfl (Nat.le_of_ble_eq_true rfl) (Nat.le_of_ble_eq_true rfl) (gk_48 N) rfl F (fun r3 δ2 F => ?_)
        refine ms_seq mB_176 mO_176 [(.aload_n 0, 1)] (pc' := 87) (L' := [.ref 48, .int l1, .long l2, .null, .int l4, .null, .null]) (st' := [.ref 48, .int r3, .int l4, .ref 48]) ⟨dX12_close_86, trivial⟩ rfl ?_
        refine ms_getA mB_176 mO_176 dX12_close_87 mF_12_41 (gk_48 N) rfl (b := 56) (gr_48_13 N) ?_
        refine ms_seq mB_176 mO_176 [(.iload_n 1, 1)] (pc' := 91) (L' := [.ref 48, .int l1, .long l2, .null, .int l4, .null, .null]) (st' := [.int l1, .ref 56, .int r3, .int l4, .ref 48]) ⟨dX12_close_90, trivial⟩ rfl ?_
        have G := F.1
        have F := F.2
        refine ms_iald mB_176 dX12_close_91 (Or.inl (gk_56 N)) (by rw [gl_56 N]; exact G) ?_
        refine ms_callvL mB_176 mO_176 (by omega) dX12_close_92 mQ_12_230 mC_12_230 mL_174 mO_174 rfl (Nat.le_of_ble_eq_true rfl) (Nat.le_of_ble_eq_true rfl) (gk_48 N) rfl F (fun r5 δ4 F => ?_)
        refine ms_seq mB_176 mO_176 [(.lstore 5, 2), (.lload 5, 2), (.lconst 0, 1), (.lcmp, 1)] (pc' := 101) (L' := [.ref 48, .int l1, .long l2, .null, .int l4, .long r5, .null]) (st' := [.int (lg_cmp r5 0)]) ⟨dX12_close_95, dX12_close_97, dX12_close_99, dX12_close_100, trivial⟩ rfl ?_
        refine ms_if_eq mB_176 dX12_close_101 (t := 118) rfl (fun c => ?_) (fun c => ?_)
        · have F := F.1 c
          exact F
        · have F := F.2 c
          refine ms_seq mB_176 mO_176 [(.aload_n 0, 1), (.iload 4, 2), (.lload 5, 2), (.lneg, 1)] (pc' := 110) (L' := [.ref 48, .int l1, .long l2, .null, .int l4, .long r5, .null]) (st' := [.long (-r5), .int l4, .ref 48]) ⟨dX12_close_104, dX12_close_105, dX12_close_107, dX12_close_109, trivial⟩ rfl ?_
          refine ms_callvV mB_176 mO_176 (by omega) dX12_close_110 mQ_12_217 mC_12_217 mL_164 mO_164 rfl (Nat.le_of_ble_eq_true rfl) (Nat.le_of_ble_eq_true rfl) (gk_48 N) rfl F (fun δ6 F => ?_)
          refine ms_seq mB_176 mO_176 [(.lload_n 2, 1), (.lload 5, 2), (.lsub, 1)] (pc' := 117) (L' := [.ref 48, .int l1, .long l2, .null, .int l4, .long r5, .null]) (st' := [.long (l2 - r5)]) ⟨dX12_close_113, dX12_close_114, dX12_close_116, trivial⟩ rfl ?_
          refine mr_topl (fun x7 e_x7 => ?_)
          have F := F x7 e_x7
          refine ms_seq mB_176 mO_176 [(.lstore_n 2, 1)] (pc' := 118) (L' := [.ref 48, .int l1, .long x7, .null, .int l4, .long r5, .null]) (st' := []) ⟨dX12_close_117, trivial⟩ rfl ?_
          exact F
set_option maxRecDepth 100000 in
theorem q12_close_150 {N d : Nat} (hd : 5 ≤ d) {l1 l4 : Int32} {l2 : Int64} {δ : mi_D} {Q : Int32 → mi_D → Prop} (F : (mi_wI N (d - 1) 166 0 [.ref 48, .null, .null, .null, .null] [] δ (fun r2 δ1 => ((r2 = 0 → (mi_wV N (d - 1) 150 0 [.ref 48] [] δ1 (fun δ3 => ((0 < (δ3.1 48 27) → (((δ3.1 48 15) = 400 → Q (-13) δ3) ∧ (¬ (δ3.1 48 15) = 400 → mi_wI N d 176 181 [.ref 48, .int l1, .long l2, .null, .int l4, .null, .null] [] δ3 Q))) ∧ (¬ 0 < (δ3.1 48 27) → mi_wI N d 176 181 [.ref 48, .int l1, .long l2, .null, .int l4, .null, .null] [] δ3 Q))))) ∧ (¬ r2 = 0 → Q (-12) δ1))))) : mi_wI N d 176 150 [.ref 48, .int l1, .long l2, .null, .int l4, .null, .null] [] δ Q := by
  unfold mi_wI
  refine ms_seq mB_176 mO_176 [(.aload_n 0, 1)] (pc' := 151) (L' := [.ref 48, .int l1, .long l2, .null, .int l4, .null, .null]) (st' := [.ref 48]) ⟨dX12_close_150, trivial⟩ rfl ?_
  refine ms_callvI mB_176 mO_176 (by omega) dX12_close_151 mQ_12_200 mC_12_200 mL_166 mO_166 rfl (Nat.le_of_ble_eq_true rfl) (Nat.le_of_ble_eq_true rfl) (gk_48 N) rfl F (fun r2 δ1 F => ?_)
  refine ms_if_eq mB_176 dX12_close_154 (t := 160) rfl (fun c => ?_) (fun c => ?_)
  · have F := F.1 c
    refine ms_seq mB_176 mO_176 [(.aload_n 0, 1)] (pc' := 161) (L' := [.ref 48, .int l1, .long l2, .null, .int l4, .null, .null]) (st' := [.ref 48]) ⟨dX12_close_160, trivial⟩ rfl ?_
    refine ms_callvV mB_176 mO_176 (by omega) dX12_close_161 mQ_12_159 mC_12_159 mL_150 mO_150 rfl (Nat.le_of_ble_eq_true rfl) (Nat.le_of_ble_eq_true rfl) (gk_48 N) rfl F (fun δ3 F => ?_)
    refine ms_seq mB_176 mO_176 [(.aload_n 0, 1)] (pc' := 165) (L' := [.ref 48, .int l1, .long l2, .null, .int l4, .null, .null]) (st' := [.ref 48]) ⟨dX12_close_164, trivial⟩ rfl ?_
    refine ms_getI mB_176 mO_176 dX12_close_165 mF_12_187 (gk_48 N) (Or.inl rfl) ?_
    refine ms_if_le mB_176 dX12_close_168 (t := 181) rfl (fun c => ?_) (fun c => ?_)
    · have F := F.2 c
      exact F
    · have F := F.1 c
      refine ms_seq mB_176 mO_176 [(.aload_n 0, 1)] (pc' := 172) (L' := [.ref 48, .int l1, .long l2, .null, .int l4, .null, .null]) (st' := [.ref 48]) ⟨dX12_close_171, trivial⟩ rfl ?_
      refine ms_getI mB_176 mO_176 dX12_close_172 mF_12_203 (gk_48 N) (Or.inl rfl) ?_
      refine ms_seq mB_176 mO_176 [(.sipush 400, 3)] (pc' := 178) (L' := [.ref 48, .int l1, .long l2, .null, .int l4, .null, .null]) (st' := [.int 400, .int (δ3.1 48 15)]) ⟨dX12_close_175, trivial⟩ rfl ?_
      refine ms_icmp_eq mB_176 dX12_close_178 (t := 188) rfl (fun c => ?_) (fun c => ?_)
      · have F := F.1 c
        refine ms_seq mB_176 mO_176 [(.bipush (-13), 2)] (pc' := 190) (L' := [.ref 48, .int l1, .long l2, .null, .int l4, .null, .null]) (st' := [.int (-13)]) ⟨dX12_close_188, trivial⟩ rfl ?_
        exact ms_iret mB_176 dX12_close_190 mR_176 ⟨_, rfl, rfl, F⟩
      · have F := F.2 c
        exact F
  · have F := F.2 c
    refine ms_seq mB_176 mO_176 [(.bipush (-12), 2)] (pc' := 159) (L' := [.ref 48, .int l1, .long l2, .null, .int l4, .null, .null]) (st' := [.int (-12)]) ⟨dX12_close_157, trivial⟩ rfl ?_
    exact ms_iret mB_176 dX12_close_159 mR_176 ⟨_, rfl, rfl, F⟩
set_option maxRecDepth 100000 in
theorem q12_close_118 {N d : Nat} (hd : 5 ≤ d) {l1 l4 : Int32} {l2 : Int64} {δ : mi_D} {Q : Int32 → mi_D → Prop} (F : (mi_ix l4 60 = true ∧ (mi_wI N (d - 1) 175 0 [.ref 48, .int (δ.2.1 49 (Int32.toNatClampNeg l4)), .null, .null] [] δ (fun r2 δ1 => mi_wI N d 176 51 [.ref 48, .int l1, .long l2, .null, .int r2, .null, .null] [] δ1 Q)))) : mi_wI N d 176 118 [.ref 48, .int l1, .long l2, .null, .int l4, .null, .null] [] δ Q := by
  unfold mi_wI
  refine ms_seq mB_176 mO_176 [(.aload_n 0, 1), (.aload_n 0, 1)] (pc' := 120) (L' := [.ref 48, .int l1, .long l2, .null, .int l4, .null, .null]) (st' := [.ref 48, .ref 48]) ⟨dX12_close_118, dX12_close_119, trivial⟩ rfl ?_
  refine ms_getA mB_176 mO_176 dX12_close_120 mF_12_13 (gk_48 N) rfl (b := 49) (gr_48_3 N) ?_
  refine ms_seq mB_176 mO_176 [(.iload 4, 2)] (pc' := 125) (L' := [.ref 48, .int l1, .long l2, .null, .int l4, .null, .null]) (st' := [.int l4, .ref 49, .ref 48]) ⟨dX12_close_123, trivial⟩ rfl ?_
  have G := F.1
  have F := F.2
  refine ms_iald mB_176 dX12_close_125 (Or.inl (gk_49 N)) (by rw [gl_49 N]; exact G) ?_
  refine ms_callvI mB_176 mO_176 (by omega) dX12_close_126 mQ_12_227 mC_12_227 mL_175 mO_175 rfl (Nat.le_of_ble_eq_true rfl) (Nat.le_of_ble_eq_true rfl) (gk_48 N) rfl F (fun r2 δ1 F => ?_)
  refine ms_seq mB_176 mO_176 [(.istore 4, 2)] (pc' := 131) (L' := [.ref 48, .int l1, .long l2, .null, .int r2, .null, .null]) (st' := []) ⟨dX12_close_129, trivial⟩ rfl ?_
  refine ms_goto mB_176 dX12_close_131 (t := 51) rfl ?_
  exact F
set_option maxRecDepth 100000 in
theorem q12_close_118a {N d : Nat} (hd : 5 ≤ d) {l1 l4 : Int32} {l2 l5 : Int64} {δ : mi_D} {Q : Int32 → mi_D → Prop} (F : (mi_ix l4 60 = true ∧ (mi_wI N (d - 1) 175 0 [.ref 48, .int (δ.2.1 49 (Int32.toNatClampNeg l4)), .null, .null] [] δ (fun r2 δ1 => mi_wI N d 176 51 [.ref 48, .int l1, .long l2, .null, .int r2, .long l5, .null] [] δ1 Q)))) : mi_wI N d 176 118 [.ref 48, .int l1, .long l2, .null, .int l4, .long l5, .null] [] δ Q := by
  unfold mi_wI
  refine ms_seq mB_176 mO_176 [(.aload_n 0, 1), (.aload_n 0, 1)] (pc' := 120) (L' := [.ref 48, .int l1, .long l2, .null, .int l4, .long l5, .null]) (st' := [.ref 48, .ref 48]) ⟨dX12_close_118, dX12_close_119, trivial⟩ rfl ?_
  refine ms_getA mB_176 mO_176 dX12_close_120 mF_12_13 (gk_48 N) rfl (b := 49) (gr_48_3 N) ?_
  refine ms_seq mB_176 mO_176 [(.iload 4, 2)] (pc' := 125) (L' := [.ref 48, .int l1, .long l2, .null, .int l4, .long l5, .null]) (st' := [.int l4, .ref 49, .ref 48]) ⟨dX12_close_123, trivial⟩ rfl ?_
  have G := F.1
  have F := F.2
  refine ms_iald mB_176 dX12_close_125 (Or.inl (gk_49 N)) (by rw [gl_49 N]; exact G) ?_
  refine ms_callvI mB_176 mO_176 (by omega) dX12_close_126 mQ_12_227 mC_12_227 mL_175 mO_175 rfl (Nat.le_of_ble_eq_true rfl) (Nat.le_of_ble_eq_true rfl) (gk_48 N) rfl F (fun r2 δ1 F => ?_)
  refine ms_seq mB_176 mO_176 [(.istore 4, 2)] (pc' := 131) (L' := [.ref 48, .int l1, .long l2, .null, .int r2, .long l5, .null]) (st' := []) ⟨dX12_close_129, trivial⟩ rfl ?_
  refine ms_goto mB_176 dX12_close_131 (t := 51) rfl ?_
  exact F
set_option maxRecDepth 100000 in
theorem q12_close_181 {N d : Nat} (hd : 5 ≤ d) {l1 l4 : Int32} {l2 : Int64} {δ : mi_D} {Q : Int32 → mi_D → Prop} (F : (mi_wI N (d - 1) 152 0 [.ref 48] [] δ (fun r2 δ1 => ((r2 = 0 → Q (-13) δ1) ∧ (¬ r2 = 0 → ((0 < (δ1.1 48 27) → (mi_ix l1 24 = true ∧ (mi_wI N (d - 1) 168 0 [.ref 48, .int (δ1.2.1 56 (Int32.toNatClampNeg l1)), .int 0, .int 2, .int l1, .null, .null] [] δ1 (fun r4 δ3 => (mi_ix l1 24 = true ∧ (∀ δ5 : mi_D, δ5 = mi_setA δ3 57 (Int32.toNatClampNeg l1) r4 → mi_wI N d 176 217 [.ref 48, .int l1, .long l2, .null, .int l4, .null, .null] [] δ5 Q)))))) ∧ (¬ 0 < (δ1.1 48 27) → mi_wI N d 176 217 [.ref 48, .int l1, .long l2, .null, .int l4, .null, .null] [] δ1 Q))))))) : mi_wI N d 176 181 [.ref 48, .int l1, .long l2, .null, .int l4, .null, .null] [] δ Q := by
  unfold mi_wI
  refine ms_seq mB_176 mO_176 [(.aload_n 0, 1)] (pc' := 182) (L' := [.ref 48, .int l1, .long l2, .null, .int l4, .null, .null]) (st' := [.ref 48]) ⟨dX12_close_181, trivial⟩ rfl ?_
  refine ms_callvI mB_176 mO_176 (by omega) dX12_close_182 mQ_12_166 mC_12_166 mL_152 mO_152 rfl (Nat.le_of_ble_eq_true rfl) (Nat.le_of_ble_eq_true rfl) (gk_48 N) rfl F (fun r2 δ1 F => ?_)
  refine ms_if_ne mB_176 dX12_close_185 (t := 191) rfl (fun c => ?_) (fun c => ?_)
  · have F := F.2 c
    refine ms_seq mB_176 mO_176 [(.aload_n 0, 1)] (pc' := 192) (L' := [.ref 48, .int l1, .long l2, .null, .int l4, .null, .null]) (st' := [.ref 48]) ⟨dX12_close_191, trivial⟩ rfl ?_
    refine ms_getI mB_176 mO_176 dX12_close_192 mF_12_187 (gk_48 N) (Or.inl rfl) ?_
    refine ms_if_le mB_176 dX12_close_195 (t := 217) rfl (fun c => ?_) (fun c => ?_)
    · have F := F.2 c
      exact F
    · have F := F.1 c
      refine ms_seq mB_176 mO_176 [(.aload_n 0, 1)] (pc' := 199) (L' := [.ref 48, .int l1, .long l2, .null, .int l4, .null, .null]) (st' := [.ref 48]) ⟨dX12_close_198, trivial⟩ rfl ?_
      refine ms_getA mB_176 mO_176 dX12_close_199 mF_12_44 (gk_48 N) rfl (b := 57) (gr_48_14 N) ?_
      refine ms_seq mB_176 mO_176 [(.iload_n 1, 1), (.aload_n 0, 1), (.aload_n 0, 1)] (pc' := 205) (L' := [.ref 48, .int l1, .long l2, .null, .int l4, .null, .null]) (st' := [.ref 48, .ref 48, .int l1, .ref 57]) ⟨dX12_close_202, dX12_close_203, dX12_close_204, trivial⟩ rfl ?_
      refine ms_getA mB_176 mO_176 dX12_close_205 mF_12_41 (gk_48 N) rfl (b := 56) (gr_48_13 N) ?_
      refine ms_seq mB_176 mO_176 [(.iload_n 1, 1)] (pc' := 209) (L' := [.ref 48, .int l1, .long l2, .null, .int l4, .null, .null]) (st' := [.int l1, .ref 56, .ref 48, .int l1, .ref 57]) ⟨dX12_close_208, trivial⟩ rfl ?_
      have G := F.1
      have F := F.2
      refine ms_iald mB_176 dX12_close_209 (Or.inl (gk_56 N)) (by rw [gl_56 N]; exact G) ?_
      refine ms_seq mB_176 mO_176 [(.iconst 0, 1), (.iconst 2, 1), (.iload_n 1, 1)] (pc' := 213) (L' := [.ref 48, .int l1, .long l2, .null, .int l4, .null, .null]) (st' := [.int l1, .int 2, .int 0, .int (δ1.2.1 56 (Int32.toNatClampNeg l1)), .ref 48, .int l1, .ref 57]) ⟨dX12_close_210, dX12_close_211, dX12_close_212, trivial⟩ rfl ?_
      refine ms_callvI mB_176 mO_176 (by omega) dX12_close_213 mQ_12_213 mC_12_213 mL_168 mO_168 rfl (Nat.le_of_ble_eq_true rfl) (Nat.le_of_ble_eq_true rfl) (gk_48 N) rfl F (fun r4 δ3 F => ?_)
      have G := F.1
      have F := F.2
      refine ms_iast mB_176 dX12_close_216 (gk_57 N) (by rw [gl_57 N]; exact G) ?_
      refine mr_st (fun δ5 e_δ5 => ?_)
      have F := F δ5 e_δ5
      exact F
  · have F := F.1 c
    refine ms_seq mB_176 mO_176 [(.bipush (-13), 2)] (pc' := 190) (L' := [.ref 48, .int l1, .long l2, .null, .int l4, .null, .null]) (st' := [.int (-13)]) ⟨dX12_close_188, trivial⟩ rfl ?_
    exact ms_iret mB_176 dX12_close_190 mR_176 ⟨_, rfl, rfl, F⟩
set_option maxRecDepth 100000 in
theorem q12_close_51a {N d : Nat} (hd : 5 ≤ d) {l1 l4 : Int32} {l2 l5 : Int64} {δ : mi_D} {Q : Int32 → mi_D → Prop} (F : ((l4 = (-1) → (((lg_cmp l2 0) = 0 → mi_wI N d 176 150 [.ref 48, .int l1, .long l2, .null, .int l4, .long l5, .null] [] δ Q) ∧ (¬ (lg_cmp l2 0) = 0 → (mi_wV N (d - 1) 164 0 [.ref 48, .int (δ.1 48 10), .long (-l2), .null] [] δ (fun δ1 => mi_wI N d 176 150 [.ref 48, .int l1, .long l2, .null, .int l4, .long l5, .null] [] δ1 Q))))) ∧ (¬ l4 = (-1) → (mi_ix l4 60 = true ∧ (((δ.2.1 52 (Int32.toNatClampNeg l4)) = 0 → (mi_ix l4 60 = true ∧ ((2 < (δ.2.1 50 (Int32.toNatClampNeg l4)) → (mi_wI N (d - 1) 159 0 [.ref 48, .int l1] [] δ (fun r3 δ2 => (mi_ix l1 24 = true ∧ (mi_wL N (d - 1) 174 0 [.ref 48, .int l4, .int r3, .int (δ2.2.1 56 (Int32.toNatClampNeg l1)), .null, .null, .null, .null] [] δ2 (fun r5 δ4 => (((lg_cmp r5 0) = 0 → mi_wI N d 176 118 [.ref 48, .int l1, .long l2, .null, .int l4, .long r5, .null] [] δ4 Q) ∧ (¬ (lg_cmp r5 0) = 0 → (mi_wV N (d - 1) 164 0 [.ref 48, .int l4, .long (-r5), .null] [] δ4 (fun δ6 => (∀ x7 : Int64, x7 = (l2 - r5) → mi_wI N d 176 118 [.ref 48, .int l1, .long x7, .null, .int l4, .long r5, .null] [] δ6 Q))))))))))) ∧ (¬ 2 < (δ.2.1 50 (Int32.toNatClampNeg l4)) → mi_wI N d 176 118 [.ref 48, .int l1, .long l2, .null, .int l4, .long l5, .null] [] δ Q)))) ∧ (¬ (δ.2.1 52 (Int32.toNatClampNeg l4)) = 0 → mi_wI N d 176 118 [.ref 48, .int l1, .long l2, .null, .int l4, .long l5, .null] [] δ Q)))))) : mi_wI N d 176 51 [.ref 48, .int l1, .long l2, .null, .int l4, .long l5, .null] [] δ Q := by
  unfold mi_wI
  refine ms_seq mB_176 mO_176 [(.iload 4, 2), (.iconst (-1), 1)] (pc' := 54) (L' := [.ref 48, .int l1, .long l2, .null, .int l4, .long l5, .null]) (st' := [.int (-1), .int l4]) ⟨dX12_close_51, dX12_close_53, trivial⟩ rfl ?_
  refine ms_icmp_eq mB_176 dX12_close_54 (t := 134) rfl (fun c => ?_) (fun c => ?_)
  · have F := F.1 c
    refine ms_seq mB_176 mO_176 [(.lload_n 2, 1), (.lconst 0, 1), (.lcmp, 1)] (pc' := 137) (L' := [.ref 48, .int l1, .long l2, .null, .int l4, .long l5, .null]) (st' := [.int (lg_cmp l2 0)]) ⟨dX12_close_134, dX12_close_135, dX12_close_136, trivial⟩ rfl ?_
    refine ms_if_eq mB_176 dX12_close_137 (t := 150) rfl (fun c => ?_) (fun c => ?_)
    · have F := F.1 c
      exact F
    · have F := F.2 c
      refine ms_seq mB_176 mO_176 [(.aload_n 0, 1), (.aload_n 0, 1)] (pc' := 142) (L' := [.ref 48, .int l1, .long l2, .null, .int l4, .long l5, .null]) (st' := [.ref 48, .ref 48]) ⟨dX12_close_140, dX12_close_141, trivial⟩ rfl ?_
      refine ms_getI mB_176 mO_176 dX12_close_142 mF_12_37 (gk_48 N) (Or.inl rfl) ?_
      refine ms_seq mB_176 mO_176 [(.lload_n 2, 1), (.lneg, 1)] (pc' := 147) (L' := [.ref 48, .int l1, .long l2, .null, .int l4, .long l5, .null]) (st' := [.long (-l2), .int (δ.1 48 10), .ref 48]) ⟨dX12_close_145, dX12_close_146, trivial⟩ rfl ?_
      refine ms_callvV mB_176 mO_176 (by omega) dX12_close_147 mQ_12_217 mC_12_217 mL_164 mO_164 rfl (Nat.le_of_ble_eq_true rfl) (Nat.le_of_ble_eq_true rfl) (gk_48 N) rfl F (fun δ1 F => ?_)
      exact F
  · have F := F.2 c
    refine ms_seq mB_176 mO_176 [(.aload_n 0, 1)] (pc' := 58) (L' := [.ref 48, .int l1, .long l2, .null, .int l4, .long l5, .null]) (st' := [.ref 48]) ⟨dX12_close_57, trivial⟩ rfl ?_
    refine ms_getA mB_176 mO_176 dX12_close_58 mF_12_23 (gk_48 N) rfl (b := 52) (gr_48_6 N) ?_
    refine ms_seq mB_176 mO_176 [(.iload 4, 2)] (pc' := 63) (L' := [.ref 48, .int l1, .long l2, .null, .int l4, .long l5, .null]) (st' := [.int l4, .ref 52]) ⟨dX12_close_61, trivial⟩ rfl ?_
    have G := F.1
    have F := F.2
    refine ms_bald mB_176 dX12_close_63 (gk_52 N) (by rw [gl_52 N]; exact G) ?_
    refine ms_if_ne mB_176 dX12_close_64 (t := 118) rfl (fun c => ?_) (fun c => ?_)
    · have F := F.2 c
      exact F
    · have F := F.1 c
      refine ms_seq mB_176 mO_176 [(.aload_n 0, 1)] (pc' := 68) (L' := [.ref 48, .int l1, .long l2, .null, .int l4, .long l5, .null]) (st' := [.ref 48]) ⟨dX12_close_67, trivial⟩ rfl ?_
      refine ms_getA mB_176 mO_176 dX12_close_68 mF_12_17 (gk_48 N) rfl (b := 50) (gr_48_4 N) ?_
      refine ms_seq mB_176 mO_176 [(.iload 4, 2)] (pc' := 73) (L' := [.ref 48, .int l1, .long l2, .null, .int l4, .long l5, .null]) (st' := [.int l4, .ref 50]) ⟨dX12_close_71, trivial⟩ rfl ?_
      have G := F.1
      have F := F.2
      refine ms_iald mB_176 dX12_close_73 (Or.inl (gk_50 N)) (by rw [gl_50 N]; exact G) ?_
      refine ms_seq mB_176 mO_176 [(.iconst 2, 1)] (pc' := 75) (L' := [.ref 48, .int l1, .long l2, .null, .int l4, .long l5, .null]) (st' := [.int 2, .int (δ.2.1 50 (Int32.toNatClampNeg l4))]) ⟨dX12_close_74, trivial⟩ rfl ?_
      refine ms_icmp_le mB_176 dX12_close_75 (t := 118) rfl (fun c => ?_) (fun c => ?_)
      · have F := F.2 c
        exact F
      · have F := F.1 c
        refine ms_seq mB_176 mO_176 [(.aload_n 0, 1), (.iload 4, 2), (.aload_n 0, 1), (.iload_n 1, 1)] (pc' := 83) (L' := [.ref 48, .int l1, .long l2, .null, .int l4, .long l5, .null]) (st' := [.int l1, .ref 48, .int l4, .ref 48]) ⟨dX12_close_78, dX12_close_79, dX12_close_81, dX12_close_82, trivial⟩ rfl ?_
        refine ms_callvI mB_176 mO_176 (by omega) dX12_close_83 mQ_12_176 mC_12_176 mL_159 mO_159 rfl (Nat.le_of_ble_eq_true rfl) (Nat.le_of_ble_eq_true rfl) (gk_48 N) rfl F (fun r3 δ2 F => ?_)
        refine ms_seq mB_176 mO_176 [(.aload_n 0, 1)] (pc' := 87) (L' := [.ref 48, .int l1, .long l2, .null, .int l4, .long l5, .null]) (st' := [.ref 48, .int r3, .int l4, .ref 48]) ⟨dX12_close_86, trivial⟩ rfl ?_
        refine ms_getA mB_176 mO_176 dX12_close_87 mF_12_41 (gk_48 N) rfl (b := 56) (gr_48_13 N) ?_
        refine ms_seq mB_176 mO_176 [(.iload_n 1, 1)] (pc' := 91) (L' := [.ref 48, .int l1, .long l2, .null, .int l4, .long l5, .null]) (st' := [.int l1, .ref 56, .int r3, .int l4, .ref 48]) ⟨dX12_close_90, trivial⟩ rfl ?_
        have G := F.1
        have F := F.2
        refine ms_iald mB_176 dX12_close_91 (Or.inl (gk_56 N)) (by rw [gl_56 N]; exact G) ?_
        refine ms_callvL mB_176 mO_176 (by omega) dX12_close_92 mQ_12_230 mC_12_230 mL_174 mO_174 rfl (Nat.le_of_ble_eq_true rfl) (Nat.le_of_ble_eq_true rfl) (gk_48 N) rfl F (fun r5 δ4 F => ?_)
        refine ms_seq mB_176 mO_176 [(.lstore 5, 2), (.lload 5, 2), (.lconst 0, 1), (.lcmp, 1)] (pc' := 101) (L' := [.ref 48, .int l1, .long l2, .null, .int l4, .long r5, .null]) (st' := [.int (lg_cmp r5 0)]) ⟨dX12_close_95, dX12_close_97, dX12_close_99, dX12_close_100, trivial⟩ rfl ?_
        refine ms_if_eq mB_176 dX12_close_101 (t := 118) rfl (fun c => ?_) (fun c => ?_)
        · have F := F.1 c
          exact F
        · have F := F.2 c
          refine ms_seq mB_176 mO_176 [(.aload_n 0, 1), (.iload 4, 2), (.lload 5, 2), (.lneg, 1)] (pc' := 110) (L' := [.ref 48, .int l1, .long l2, .null, .int l4, .long r5, .null]) (st' := [.long (-r5), .int l4, .ref 48]) ⟨dX12_close_104, dX12_close_105, dX12_close_107, dX12_close_109, trivial⟩ rfl ?_
          refine ms_callvV mB_176 mO_176 (by omega) dX12_close_110 mQ_12_217 mC_12_217 mL_164 mO_164 rfl (Nat.le_of_ble_eq_true rfl) (Nat.le_of_ble_eq_true rfl) (gk_48 N) rfl F (fun δ6 F => ?_)
          refine ms_seq mB_176 mO_176 [(.lload_n 2, 1), (.lload 5, 2), (.lsub, 1)] (pc' := 117) (L' := [.ref 48, .int l1, .long l2, .null, .int l4, .long r5, .null]) (st' := [.long (l2 - r5)]) ⟨dX12_close_113, dX12_close_114, dX12_close_116, trivial⟩ rfl ?_
          refine mr_topl (fun x7 e_x7 => ?_)
          have F := F x7 e_x7
          refine ms_seq mB_176 mO_176 [(.lstore_n 2, 1)] (pc' := 118) (L' := [.ref 48, .int l1, .long x7, .null, .int l4, .long r5, .null]) (st' := []) ⟨dX12_close_117, trivial⟩ rfl ?_
          exact F
set_option maxRecDepth 100000 in
theorem q12_close_217 {N d : Nat} (hd : 5 ≤ d) {l1 l4 : Int32} {l2 : Int64} {δ : mi_D} {Q : Int32 → mi_D → Prop} (F : (∀ δ1 : mi_D, δ1 = mi_setI δ 48 12 ((δ.1 48 12) + 1) → (mi_wV N (d - 1) 155 0 [.ref 48, .int 7, .null, .null] [] δ1 (fun δ2 => Q l1 δ2)))) : mi_wI N d 176 217 [.ref 48, .int l1, .long l2, .null, .int l4, .null, .null] [] δ Q := by
  unfold mi_wI
  refine ms_seq mB_176 mO_176 [(.aload_n 0, 1), (.dup, 1)] (pc' := 219) (L' := [.ref 48, .int l1, .long l2, .null, .int l4, .null, .null]) (st' := [.ref 48, .ref 48]) ⟨dX12_close_217, dX12_close_218, trivial⟩ rfl ?_
  refine ms_getI mB_176 mO_176 dX12_close_219 mF_12_197 (gk_48 N) (Or.inl rfl) ?_
  refine ms_seq mB_176 mO_176 [(.iconst 1, 1), (.iadd, 1)] (pc' := 224) (L' := [.ref 48, .int l1, .long l2, .null, .int l4, .null, .null]) (st' := [.int ((δ.1 48 12) + 1), .ref 48]) ⟨dX12_close_222, dX12_close_223, trivial⟩ rfl ?_
  refine ms_putI mB_176 mO_176 dX12_close_224 mF_12_197 (gk_48 N) rfl rfl ?_
  refine mr_st (fun δ1 e_δ1 => ?_)
  have F := F δ1 e_δ1
  refine ms_seq mB_176 mO_176 [(.aload_n 0, 1), (.bipush 7, 2)] (pc' := 230) (L' := [.ref 48, .int l1, .long l2, .null, .int l4, .null, .null]) (st' := [.int 7, .ref 48]) ⟨dX12_close_227, dX12_close_228, trivial⟩ rfl ?_
  refine ms_callvV mB_176 mO_176 (by omega) dX12_close_230 mQ_12_170 mC_12_170 mL_155 mO_155 rfl (Nat.le_of_ble_eq_true rfl) (Nat.le_of_ble_eq_true rfl) (gk_48 N) rfl F (fun δ2 F => ?_)
  refine ms_seq mB_176 mO_176 [(.iload_n 1, 1)] (pc' := 234) (L' := [.ref 48, .int l1, .long l2, .null, .int l4, .null, .null]) (st' := [.int l1]) ⟨dX12_close_233, trivial⟩ rfl ?_
  exact ms_iret mB_176 dX12_close_234 mR_176 ⟨_, rfl, rfl, F⟩
set_option maxRecDepth 100000 in
theorem q12_close_150a {N d : Nat} (hd : 5 ≤ d) {l1 l4 : Int32} {l2 l5 : Int64} {δ : mi_D} {Q : Int32 → mi_D → Prop} (F : (mi_wI N (d - 1) 166 0 [.ref 48, .null, .null, .null, .null] [] δ (fun r2 δ1 => ((r2 = 0 → (mi_wV N (d - 1) 150 0 [.ref 48] [] δ1 (fun δ3 => ((0 < (δ3.1 48 27) → (((δ3.1 48 15) = 400 → Q (-13) δ3) ∧ (¬ (δ3.1 48 15) = 400 → mi_wI N d 176 181 [.ref 48, .int l1, .long l2, .null, .int l4, .long l5, .null] [] δ3 Q))) ∧ (¬ 0 < (δ3.1 48 27) → mi_wI N d 176 181 [.ref 48, .int l1, .long l2, .null, .int l4, .long l5, .null] [] δ3 Q))))) ∧ (¬ r2 = 0 → Q (-12) δ1))))) : mi_wI N d 176 150 [.ref 48, .int l1, .long l2, .null, .int l4, .long l5, .null] [] δ Q := by
  unfold mi_wI
  refine ms_seq mB_176 mO_176 [(.aload_n 0, 1)] (pc' := 151) (L' := [.ref 48, .int l1, .long l2, .null, .int l4, .long l5, .null]) (st' := [.ref 48]) ⟨dX12_close_150, trivial⟩ rfl ?_
  refine ms_callvI mB_176 mO_176 (by omega) dX12_close_151 mQ_12_200 mC_12_200 mL_166 mO_166 rfl (Nat.le_of_ble_eq_true rfl) (Nat.le_of_ble_eq_true rfl) (gk_48 N) rfl F (fun r2 δ1 F => ?_)
  refine ms_if_eq mB_176 dX12_close_154 (t := 160) rfl (fun c => ?_) (fun c => ?_)
  · have F := F.1 c
    refine ms_seq mB_176 mO_176 [(.aload_n 0, 1)] (pc' := 161) (L' := [.ref 48, .int l1, .long l2, .null, .int l4, .long l5, .null]) (st' := [.ref 48]) ⟨dX12_close_160, trivial⟩ rfl ?_
    refine ms_callvV mB_176 mO_176 (by omega) dX12_close_161 mQ_12_159 mC_12_159 mL_150 mO_150 rfl (Nat.le_of_ble_eq_true rfl) (Nat.le_of_ble_eq_true rfl) (gk_48 N) rfl F (fun δ3 F => ?_)
    refine ms_seq mB_176 mO_176 [(.aload_n 0, 1)] (pc' := 165) (L' := [.ref 48, .int l1, .long l2, .null, .int l4, .long l5, .null]) (st' := [.ref 48]) ⟨dX12_close_164, trivial⟩ rfl ?_
    refine ms_getI mB_176 mO_176 dX12_close_165 mF_12_187 (gk_48 N) (Or.inl rfl) ?_
    refine ms_if_le mB_176 dX12_close_168 (t := 181) rfl (fun c => ?_) (fun c => ?_)
    · have F := F.2 c
      exact F
    · have F := F.1 c
      refine ms_seq mB_176 mO_176 [(.aload_n 0, 1)] (pc' := 172) (L' := [.ref 48, .int l1, .long l2, .null, .int l4, .long l5, .null]) (st' := [.ref 48]) ⟨dX12_close_171, trivial⟩ rfl ?_
      refine ms_getI mB_176 mO_176 dX12_close_172 mF_12_203 (gk_48 N) (Or.inl rfl) ?_
      refine ms_seq mB_176 mO_176 [(.sipush 400, 3)] (pc' := 178) (L' := [.ref 48, .int l1, .long l2, .null, .int l4, .long l5, .null]) (st' := [.int 400, .int (δ3.1 48 15)]) ⟨dX12_close_175, trivial⟩ rfl ?_
      refine ms_icmp_eq mB_176 dX12_close_178 (t := 188) rfl (fun c => ?_) (fun c => ?_)
      · have F := F.1 c
        refine ms_seq mB_176 mO_176 [(.bipush (-13), 2)] (pc' := 190) (L' := [.ref 48, .int l1, .long l2, .null, .int l4, .long l5, .null]) (st' := [.int (-13)]) ⟨dX12_close_188, trivial⟩ rfl ?_
        exact ms_iret mB_176 dX12_close_190 mR_176 ⟨_, rfl, rfl, F⟩
      · have F := F.2 c
        exact F
  · have F := F.2 c
    refine ms_seq mB_176 mO_176 [(.bipush (-12), 2)] (pc' := 159) (L' := [.ref 48, .int l1, .long l2, .null, .int l4, .long l5, .null]) (st' := [.int (-12)]) ⟨dX12_close_157, trivial⟩ rfl ?_
    exact ms_iret mB_176 dX12_close_159 mR_176 ⟨_, rfl, rfl, F⟩
set_option maxRecDepth 100000 in
theorem q12_close_181a {N d : Nat} (hd : 5 ≤ d) {l1 l4 : Int32} {l2 l5 : Int64} {δ : mi_D} {Q : Int32 → mi_D → Prop} (F : (mi_wI N (d - 1) 152 0 [.ref 48] [] δ (fun r2 δ1 => ((r2 = 0 → Q (-13) δ1) ∧ (¬ r2 = 0 → ((0 < (δ1.1 48 27) → (mi_ix l1 24 = true ∧ (mi_wI N (d - 1) 168 0 [.ref 48, .int (δ1.2.1 56 (Int32.toNatClampNeg l1)), .int 0, .int 2, .int l1, .null, .null] [] δ1 (fun r4 δ3 => (mi_ix l1 24 = true ∧ (∀ δ5 : mi_D, δ5 = mi_setA δ3 57 (Int32.toNatClampNeg l1) r4 → mi_wI N d 176 217 [.ref 48, .int l1, .long l2, .null, .int l4, .long l5, .null] [] δ5 Q)))))) ∧ (¬ 0 < (δ1.1 48 27) → mi_wI N d 176 217 [.ref 48, .int l1, .long l2, .null, .int l4, .long l5, .null] [] δ1 Q))))))) : mi_wI N d 176 181 [.ref 48, .int l1, .long l2, .null, .int l4, .long l5, .null] [] δ Q := by
  unfold mi_wI
  refine ms_seq mB_176 mO_176 [(.aload_n 0, 1)] (pc' := 182) (L' := [.ref 48, .int l1, .long l2, .null, .int l4, .long l5, .null]) (st' := [.ref 48]) ⟨dX12_close_181, trivial⟩ rfl ?_
  refine ms_callvI mB_176 mO_176 (by omega) dX12_close_182 mQ_12_166 mC_12_166 mL_152 mO_152 rfl (Nat.le_of_ble_eq_true rfl) (Nat.le_of_ble_eq_true rfl) (gk_48 N) rfl F (fun r2 δ1 F => ?_)
  refine ms_if_ne mB_176 dX12_close_185 (t := 191) rfl (fun c => ?_) (fun c => ?_)
  · have F := F.2 c
    refine ms_seq mB_176 mO_176 [(.aload_n 0, 1)] (pc' := 192) (L' := [.ref 48, .int l1, .long l2, .null, .int l4, .long l5, .null]) (st' := [.ref 48]) ⟨dX12_close_191, trivial⟩ rfl ?_
    refine ms_getI mB_176 mO_176 dX12_close_192 mF_12_187 (gk_48 N) (Or.inl rfl) ?_
    refine ms_if_le mB_176 dX12_close_195 (t := 217) rfl (fun c => ?_) (fun c => ?_)
    · have F := F.2 c
      exact F
    · have F := F.1 c
      refine ms_seq mB_176 mO_176 [(.aload_n 0, 1)] (pc' := 199) (L' := [.ref 48, .int l1, .long l2, .null, .int l4, .long l5, .null]) (st' := [.ref 48]) ⟨dX12_close_198, trivial⟩ rfl ?_
      refine ms_getA mB_176 mO_176 dX12_close_199 mF_12_44 (gk_48 N) rfl (b := 57) (gr_48_14 N) ?_
      refine ms_seq mB_176 mO_176 [(.iload_n 1, 1), (.aload_n 0, 1), (.aload_n 0, 1)] (pc' := 205) (L' := [.ref 48, .int l1, .long l2, .null, .int l4, .long l5, .null]) (st' := [.ref 48, .ref 48, .int l1, .ref 57]) ⟨dX12_close_202, dX12_close_203, dX12_close_204, trivial⟩ rfl ?_
      refine ms_getA mB_176 mO_176 dX12_close_205 mF_12_41 (gk_48 N) rfl (b := 56) (gr_48_13 N) ?_
      refine ms_seq mB_176 mO_176 [(.iload_n 1, 1)] (pc' := 209) (L' := [.ref 48, .int l1, .long l2, .null, .int l4, .long l5, .null]) (st' := [.int l1, .ref 56, .ref 48, .int l1, .ref 57]) ⟨dX12_close_208, trivial⟩ rfl ?_
      have G := F.1
      have F := F.2
      refine ms_iald mB_176 dX12_close_209 (Or.inl (gk_56 N)) (by rw [gl_56 N]; exact G) ?_
      refine ms_seq mB_176 mO_176 [(.iconst 0, 1), (.iconst 2, 1), (.iload_n 1, 1)] (pc' := 213) (L' := [.ref 48, .int l1, .long l2, .null, .int l4, .long l5, .null]) (st' := [.int l1, .int 2, .int 0, .int (δ1.2.1 56 (Int32.toNatClampNeg l1)), .ref 48, .int l1, .ref 57]) ⟨dX12_close_210, dX12_close_211, dX12_close_212, trivial⟩ rfl ?_
      refine ms_callvI mB_176 mO_176 (by omega) dX12_close_213 mQ_12_213 mC_12_213 mL_168 mO_168 rfl (Nat.le_of_ble_eq_true rfl) (Nat.le_of_ble_eq_true rfl) (gk_48 N) rfl F (fun r4 δ3 F => ?_)
      have G := F.1
      have F := F.2
      refine ms_iast mB_176 dX12_close_216 (gk_57 N) (by rw [gl_57 N]; exact G) ?_
      refine mr_st (fun δ5 e_δ5 => ?_)
      have F := F δ5 e_δ5
      exact F
  · have F := F.1 c
    refine ms_seq mB_176 mO_176 [(.bipush (-13), 2)] (pc' := 190) (L' := [.ref 48, .int l1, .long l2, .null, .int l4, .long l5, .null]) (st' := [.int (-13)]) ⟨dX12_close_188, trivial⟩ rfl ?_
    exact ms_iret mB_176 dX12_close_190 mR_176 ⟨_, rfl, rfl, F⟩
set_option maxRecDepth 100000 in
theorem q12_close_217a {N d : Nat} (hd : 5 ≤ d) {l1 l4 : Int32} {l2 l5 : Int64} {δ : mi_D} {Q : Int32 → mi_D → Prop} (F : (∀ δ1 : mi_D, δ1 = mi_setI δ 48 12 ((δ.1 48 12) + 1) → (mi_wV N (d - 1) 155 0 [.ref 48, .int 7, .null, .null] [] δ1 (fun δ2 => Q l1 δ2)))) : mi_wI N d 176 217 [.ref 48, .int l1, .long l2, .null, .int l4, .long l5, .null] [] δ Q := by
  unfold mi_wI
  refine ms_seq mB_176 mO_176 [(.aload_n 0, 1), (.dup, 1)] (pc' := 219) (L' := [.ref 48, .int l1, .long l2, .null, .int l4, .long l5, .null]) (st' := [.ref 48, .ref 48]) ⟨dX12_close_217, dX12_close_218, trivial⟩ rfl ?_
  refine ms_getI mB_176 mO_176 dX12_close_219 mF_12_197 (gk_48 N) (Or.inl rfl) ?_
  refine ms_seq mB_176 mO_176 [(.iconst 1, 1), (.iadd, 1)] (pc' := 224) (L' := [.ref 48, .int l1, .long l2, .null, .int l4, .long l5, .null]) (st' := [.int ((δ.1 48 12) + 1), .ref 48]) ⟨dX12_close_222, dX12_close_223, trivial⟩ rfl ?_
  refine ms_putI mB_176 mO_176 dX12_close_224 mF_12_197 (gk_48 N) rfl rfl ?_
  refine mr_st (fun δ1 e_δ1 => ?_)
  have F := F δ1 e_δ1
  refine ms_seq mB_176 mO_176 [(.aload_n 0, 1), (.bipush 7, 2)] (pc' := 230) (L' := [.ref 48, .int l1, .long l2, .null, .int l4, .long l5, .null]) (st' := [.int 7, .ref 48]) ⟨dX12_close_227, dX12_close_228, trivial⟩ rfl ?_
  refine ms_callvV mB_176 mO_176 (by omega) dX12_close_230 mQ_12_170 mC_12_170 mL_155 mO_155 rfl (Nat.le_of_ble_eq_true rfl) (Nat.le_of_ble_eq_true rfl) (gk_48 N) rfl F (fun δ2 F => ?_)
  refine ms_seq mB_176 mO_176 [(.iload_n 1, 1)] (pc' := 234) (L' := [.ref 48, .int l1, .long l2, .null, .int l4, .long l5, .null]) (st' := [.int l1]) ⟨dX12_close_233, trivial⟩ rfl ?_
  exact ms_iret mB_176 dX12_close_234 mR_176 ⟨_, rfl, rfl, F⟩
set_option maxRecDepth 100000 in
theorem q12_reopen_0 {N d : Nat} (hd : 5 ≤ d) {δ : mi_D} {Q : Int32 → mi_D → Prop} (F : (((δ.1 48 0) = 0 → Q (-6) δ) ∧ (¬ (δ.1 48 0) = 0 → (((δ.1 48 12) = 0 → Q (-6) δ) ∧ (¬ (δ.1 48 12) = 0 → (∀ x1 : Int32, x1 = ((δ.1 48 12) - 1) → (∀ δ2 : mi_D, δ2 = mi_setI δ 48 27 0 → (mi_ix x1 24 = true ∧ (((δ2.2.1 57 (Int32.toNatClampNeg x1)) = (-1) → mi_wI N d 177 52 [.ref 48, .int x1, .null] [] δ2 Q) ∧ (¬ (δ2.2.1 57 (Int32.toNatClampNeg x1)) = (-1) → (mi_ix x1 24 = true ∧ (mi_wV N (d - 1) 173 0 [.ref 48, .int (δ2.2.1 57 (Int32.toNatClampNeg x1)), .null] [] δ2 (fun δ3 => mi_wI N d 177 52 [.ref 48, .int x1, .null] [] δ3 Q))))))))))))) : mi_wI N d 177 0 [.ref 48, .null, .null] [] δ Q := by
  unfold mi_wI
  refine ms_seq mB_177 mO_177 [(.aload_n 0, 1)] (pc' := 1) (L' := [.ref 48, .null, .null]) (st' := [.ref 48]) ⟨dX12_reopen_0, trivial⟩ rfl ?_
  refine ms_getI mB_177 mO_177 dX12_reopen_1 mF_12_7 (gk_48 N) (Or.inr rfl) ?_
  refine ms_if_ne mB_177 dX12_reopen_4 (t := 10) rfl (fun c => ?_) (fun c => ?_)
  · have F := F.2 c
    refine ms_seq mB_177 mO_177 [(.aload_n 0, 1)] (pc' := 11) (L' := [.ref 48, .null, .null]) (st' := [.ref 48]) ⟨dX12_reopen_10, trivial⟩ rfl ?_
    refine ms_getI mB_177 mO_177 dX12_reopen_11 mF_12_197 (gk_48 N) (Or.inl rfl) ?_
    refine ms_if_ne mB_177 dX12_reopen_14 (t := 20) rfl (fun c => ?_) (fun c => ?_)
    · have F := F.2 c
      refine ms_seq mB_177 mO_177 [(.aload_n 0, 1)] (pc' := 21) (L' := [.ref 48, .null, .null]) (st' := [.ref 48]) ⟨dX12_reopen_20, trivial⟩ rfl ?_
      refine ms_getI mB_177 mO_177 dX12_reopen_21 mF_12_197 (gk_48 N) (Or.inl rfl) ?_
      refine ms_seq mB_177 mO_177 [(.iconst 1, 1), (.isub, 1)] (pc' := 26) (L' := [.ref 48, .null, .null]) (st' := [.int ((δ.1 48 12) - 1)]) ⟨dX12_reopen_24, dX12_reopen_25, trivial⟩ rfl ?_
      refine mr_topi (fun x1 e_x1 => ?_)
      have F := F x1 e_x1
      refine ms_seq mB_177 mO_177 [(.istore_n 1, 1), (.aload_n 0, 1), (.iconst 0, 1)] (pc' := 29) (L' := [.ref 48, .int x1, .null]) (st' := [.int 0, .ref 48]) ⟨dX12_reopen_26, dX12_reopen_27, dX12_reopen_28, trivial⟩ rfl ?_
      refine ms_putI mB_177 mO_177 dX12_reopen_29 mF_12_187 (gk_48 N) rfl rfl ?_
      refine mr_st (fun δ2 e_δ2 => ?_)
      have F := F δ2 e_δ2
      refine ms_seq mB_177 mO_177 [(.aload_n 0, 1)] (pc' := 33) (L' := [.ref 48, .int x1, .null]) (st' := [.ref 48]) ⟨dX12_reopen_32, trivial⟩ rfl ?_
      refine ms_getA mB_177 mO_177 dX12_reopen_33 mF_12_44 (gk_48 N) rfl (b := 57) (gr_48_14 N) ?_
      refine ms_seq mB_177 mO_177 [(.iload_n 1, 1)] (pc' := 37) (L' := [.ref 48, .int x1, .null]) (st' := [.int x1, .ref 57]) ⟨dX12_reopen_36, trivial⟩ rfl ?_
      have G := F.1
      have F := F.2
      refine ms_iald mB_177 dX12_reopen_37 (Or.inl (gk_57 N)) (by rw [gl_57 N]; exact G) ?_
      refine ms_seq mB_177 mO_177 [(.iconst (-1), 1)] (pc' := 39) (L' := [.ref 48, .int x1, .null]) (st' := [.int (-1), .int (δ2.2.1 57 (Int32.toNatClampNeg x1))]) ⟨dX12_reopen_38, trivial⟩ rfl ?_
      refine ms_icmp_eq mB_177 dX12_reopen_39 (t := 52) rfl (fun c => ?_) (fun c => ?_)
      · have F := F.1 c
        exact F
      · have F := F.2 c
        refine ms_seq mB_177 mO_177 [(.aload_n 0, 1), (.aload_n 0, 1)] (pc' := 44) (L' := [.ref 48, .int x1, .null]) (st' := [.ref 48, .ref 48]) ⟨dX12_reopen_42, dX12_reopen_43, trivial⟩ rfl ?_
        refine ms_getA mB_177 mO_177 dX12_reopen_44 mF_12_44 (gk_48 N) rfl (b := 57) (gr_48_14 N) ?_
        refine ms_seq mB_177 mO_177 [(.iload_n 1, 1)] (pc' := 48) (L' := [.ref 48, .int x1, .null]) (st' := [.int x1, .ref 57, .ref 48]) ⟨dX12_reopen_47, trivial⟩ rfl ?_
        have G := F.1
        have F := F.2
        refine ms_iald mB_177 dX12_reopen_48 (Or.inl (gk_57 N)) (by rw [gl_57 N]; exact G) ?_
        refine ms_callvV mB_177 mO_177 (by omega) dX12_reopen_49 mQ_12_224 mC_12_224 mL_173 mO_173 rfl (Nat.le_of_ble_eq_true rfl) (Nat.le_of_ble_eq_true rfl) (gk_48 N) rfl F (fun δ3 F => ?_)
        exact F
    · have F := F.1 c
      refine ms_seq mB_177 mO_177 [(.bipush (-6), 2)] (pc' := 19) (L' := [.ref 48, .null, .null]) (st' := [.int (-6)]) ⟨dX12_reopen_17, trivial⟩ rfl ?_
      exact ms_iret mB_177 dX12_reopen_19 mR_177 ⟨_, rfl, rfl, F⟩
  · have F := F.1 c
    refine ms_seq mB_177 mO_177 [(.bipush (-6), 2)] (pc' := 9) (L' := [.ref 48, .null, .null]) (st' := [.int (-6)]) ⟨dX12_reopen_7, trivial⟩ rfl ?_
    exact ms_iret mB_177 dX12_reopen_9 mR_177 ⟨_, rfl, rfl, F⟩
set_option maxRecDepth 100000 in
theorem q12_reopen_52 {N d : Nat} (hd : 5 ≤ d) {l1 : Int32} {δ : mi_D} {Q : Int32 → mi_D → Prop} (F : (mi_wI N (d - 1) 166 0 [.ref 48, .null, .null, .null, .null] [] δ (fun r2 δ1 => ((r2 = 0 → (mi_wV N (d - 1) 150 0 [.ref 48] [] δ1 (fun δ3 => ((0 < (δ3.1 48 27) → (((δ3.1 48 15) = 400 → Q (-13) δ3) ∧ (¬ (δ3.1 48 15) = 400 → mi_wI N d 177 83 [.ref 48, .int l1, .null] [] δ3 Q))) ∧ (¬ 0 < (δ3.1 48 27) → mi_wI N d 177 83 [.ref 48, .int l1, .null] [] δ3 Q))))) ∧ (¬ r2 = 0 → Q (-12) δ1))))) : mi_wI N d 177 52 [.ref 48, .int l1, .null] [] δ Q := by
  unfold mi_wI
  refine ms_seq mB_177 mO_177 [(.aload_n 0, 1)] (pc' := 53) (L' := [.ref 48, .int l1, .null]) (st' := [.ref 48]) ⟨dX12_reopen_52, trivial⟩ rfl ?_
  refine ms_callvI mB_177 mO_177 (by omega) dX12_reopen_53 mQ_12_200 mC_12_200 mL_166 mO_166 rfl (Nat.le_of_ble_eq_true rfl) (Nat.le_of_ble_eq_true rfl) (gk_48 N) rfl F (fun r2 δ1 F => ?_)
  refine ms_if_eq mB_177 dX12_reopen_56 (t := 62) rfl (fun c => ?_) (fun c => ?_)
  · have F := F.1 c
    refine ms_seq mB_177 mO_177 [(.aload_n 0, 1)] (pc' := 63) (L' := [.ref 48, .int l1, .null]) (st' := [.ref 48]) ⟨dX12_reopen_62, trivial⟩ rfl ?_
    refine ms_callvV mB_177 mO_177 (by omega) dX12_reopen_63 mQ_12_159 mC_12_159 mL_150 mO_150 rfl (Nat.le_of_ble_eq_true rfl) (Nat.le_of_ble_eq_true rfl) (gk_48 N) rfl F (fun δ3 F => ?_)
    refine ms_seq mB_177 mO_177 [(.aload_n 0, 1)] (pc' := 67) (L' := [.ref 48, .int l1, .null]) (st' := [.ref 48]) ⟨dX12_reopen_66, trivial⟩ rfl ?_
    refine ms_getI mB_177 mO_177 dX12_reopen_67 mF_12_187 (gk_48 N) (Or.inl rfl) ?_
    refine ms_if_le mB_177 dX12_reopen_70 (t := 83) rfl (fun c => ?_) (fun c => ?_)
    · have F := F.2 c
      exact F
    · have F := F.1 c
      refine ms_seq mB_177 mO_177 [(.aload_n 0, 1)] (pc' := 74) (L' := [.ref 48, .int l1, .null]) (st' := [.ref 48]) ⟨dX12_reopen_73, trivial⟩ rfl ?_
      refine ms_getI mB_177 mO_177 dX12_reopen_74 mF_12_203 (gk_48 N) (Or.inl rfl) ?_
      refine ms_seq mB_177 mO_177 [(.sipush 400, 3)] (pc' := 80) (L' := [.ref 48, .int l1, .null]) (st' := [.int 400, .int (δ3.1 48 15)]) ⟨dX12_reopen_77, trivial⟩ rfl ?_
      refine ms_icmp_eq mB_177 dX12_reopen_80 (t := 90) rfl (fun c => ?_) (fun c => ?_)
      · have F := F.1 c
        refine ms_seq mB_177 mO_177 [(.bipush (-13), 2)] (pc' := 92) (L' := [.ref 48, .int l1, .null]) (st' := [.int (-13)]) ⟨dX12_reopen_90, trivial⟩ rfl ?_
        exact ms_iret mB_177 dX12_reopen_92 mR_177 ⟨_, rfl, rfl, F⟩
      · have F := F.2 c
        exact F
  · have F := F.2 c
    refine ms_seq mB_177 mO_177 [(.bipush (-12), 2)] (pc' := 61) (L' := [.ref 48, .int l1, .null]) (st' := [.int (-12)]) ⟨dX12_reopen_59, trivial⟩ rfl ?_
    exact ms_iret mB_177 dX12_reopen_61 mR_177 ⟨_, rfl, rfl, F⟩
set_option maxRecDepth 100000 in
theorem q12_reopen_83 {N d : Nat} (hd : 5 ≤ d) {l1 : Int32} {δ : mi_D} {Q : Int32 → mi_D → Prop} (F : (mi_wI N (d - 1) 152 0 [.ref 48] [] δ (fun r2 δ1 => ((r2 = 0 → Q (-13) δ1) ∧ (¬ r2 = 0 → ((0 < (δ1.1 48 27) → (mi_ix l1 24 = true ∧ (mi_ix (δ1.2.1 57 (Int32.toNatClampNeg l1)) 400 = true ∧ (mi_ix l1 24 = true ∧ (mi_ix (δ1.2.1 57 (Int32.toNatClampNeg l1)) 400 = true ∧ (mi_wI N (d - 1) 168 0 [.ref 48, .int (δ1.2.1 58 (Int32.toNatClampNeg (δ1.2.1 57 (Int32.toNatClampNeg l1)))), .int (δ1.2.1 59 (Int32.toNatClampNeg (δ1.2.1 57 (Int32.toNatClampNeg l1)))), .int 3, .int l1, .null, .null] [] δ1 (fun r4 δ3 => (mi_ix l1 24 = true ∧ (∀ δ5 : mi_D, δ5 = mi_setA δ3 57 (Int32.toNatClampNeg l1) (-1) → mi_wI N d 177 136 [.ref 48, .int l1, .int r4] [] δ5 Q))))))))) ∧ (¬ 0 < (δ1.1 48 27) → mi_wI N d 177 136 [.ref 48, .int l1, .null] [] δ1 Q))))))) : mi_wI N d 177 83 [.ref 48, .int l1, .null] [] δ Q := by
  unfold mi_wI
  refine ms_seq mB_177 mO_177 [(.aload_n 0, 1)] (pc' := 84) (L' := [.ref 48, .int l1, .null]) (st' := [.ref 48]) ⟨dX12_reopen_83, trivial⟩ rfl ?_
  refine ms_callvI mB_177 mO_177 (by omega) dX12_reopen_84 mQ_12_166 mC_12_166 mL_152 mO_152 rfl (Nat.le_of_ble_eq_true rfl) (Nat.le_of_ble_eq_true rfl) (gk_48 N) rfl F (fun r2 δ1 F => ?_)
  refine ms_if_ne mB_177 dX12_reopen_87 (t := 93) rfl (fun c => ?_) (fun c => ?_)
  · have F := F.2 c
    refine ms_seq mB_177 mO_177 [(.aload_n 0, 1)] (pc' := 94) (L' := [.ref 48, .int l1, .null]) (st' := [.ref 48]) ⟨dX12_reopen_93, trivial⟩ rfl ?_
    refine ms_getI mB_177 mO_177 dX12_reopen_94 mF_12_187 (gk_48 N) (Or.inl rfl) ?_
    refine ms_if_le mB_177 dX12_reopen_97 (t := 136) rfl (fun c => ?_) (fun c => ?_)
    · have F := F.2 c
      exact F
    · have F := F.1 c
      refine ms_seq mB_177 mO_177 [(.aload_n 0, 1), (.aload_n 0, 1)] (pc' := 102) (L' := [.ref 48, .int l1, .null]) (st' := [.ref 48, .ref 48]) ⟨dX12_reopen_100, dX12_reopen_101, trivial⟩ rfl ?_
      refine ms_getA mB_177 mO_177 dX12_reopen_102 mF_12_47 (gk_48 N) rfl (b := 58) (gr_48_16 N) ?_
      refine ms_seq mB_177 mO_177 [(.aload_n 0, 1)] (pc' := 106) (L' := [.ref 48, .int l1, .null]) (st' := [.ref 48, .ref 58, .ref 48]) ⟨dX12_reopen_105, trivial⟩ rfl ?_
      refine ms_getA mB_177 mO_177 dX12_reopen_106 mF_12_44 (gk_48 N) rfl (b := 57) (gr_48_14 N) ?_
      refine ms_seq mB_177 mO_177 [(.iload_n 1, 1)] (pc' := 110) (L' := [.ref 48, .int l1, .null]) (st' := [.int l1, .ref 57, .ref 58, .ref 48]) ⟨dX12_reopen_109, trivial⟩ rfl ?_
      have G := F.1
      have F := F.2
      refine ms_iald mB_177 dX12_reopen_110 (Or.inl (gk_57 N)) (by rw [gl_57 N]; exact G) ?_
      have G := F.1
      have F := F.2
      refine ms_iald mB_177 dX12_reopen_111 (Or.inl (gk_58 N)) (by rw [gl_58 N]; exact G) ?_
      refine ms_seq mB_177 mO_177 [(.aload_n 0, 1)] (pc' := 113) (L' := [.ref 48, .int l1, .null]) (st' := [.ref 48, .int (δ1.2.1 58 (Int32.toNatClampNeg (δ1.2.1 57 (Int32.toNatClampNeg l1)))), .ref 48]) ⟨dX12_reopen_112, trivial⟩ rfl ?_
      refine ms_getA mB_177 mO_177 dX12_reopen_113 mF_12_50 (gk_48 N) rfl (b := 59) (gr_48_17 N) ?_
      refine ms_seq mB_177 mO_177 [(.aload_n 0, 1)] (pc' := 117) (L' := [.ref 48, .int l1, .null]) (st' := [.ref 48, .ref 59, .int (δ1.2.1 58 (Int32.toNatClampNeg (δ1.2.1 57 (Int32.toNatClampNeg l1)))), .ref 48]) ⟨dX12_reopen_116, trivial⟩ rfl ?_
      refine ms_getA mB_177 mO_177 dX12_reopen_117 mF_12_44 (gk_48 N) rfl (b := 57) (gr_48_14 N) ?_
      refine ms_seq mB_177 mO_177 [(.iload_n 1, 1)] (pc' := 121) (L' := [.ref 48, .int l1, .null]) (st' := [.int l1, .ref 57, .ref 59, .int (δ1.2.1 58 (Int32.toNatClampNeg (δ1.2.1 57 (Int32.toNatClampNeg l1)))), .ref 48]) ⟨dX12_reopen_120, trivial⟩ rfl ?_
      have G := F.1
      have F := F.2
      refine ms_iald mB_177 dX12_reopen_121 (Or.inl (gk_57 N)) (by rw [gl_57 N]; exact G) ?_
      have G := F.1
      have F := F.2
      refine ms_iald mB_177 dX12_reopen_122 (Or.inl (gk_59 N)) (by rw [gl_59 N]; exact G) ?_
      refine ms_seq mB_177 mO_177 [(.iconst 3, 1), (.iload_n 1, 1)] (pc' := 125) (L' := [.ref 48, .int l1, .null]) (st' := [.int l1, .int 3, .int (δ1.2.1 59 (Int32.toNatClampNeg (δ1.2.1 57 (Int32.toNatClampNeg l1)))), .int (δ1.2.1 58 (Int32.toNatClampNeg (δ1.2.1 57 (Int32.toNatClampNeg l1)))), .ref 48]) ⟨dX12_reopen_123, dX12_reopen_124, trivial⟩ rfl ?_
      refine ms_callvI mB_177 mO_177 (by omega) dX12_reopen_125 mQ_12_213 mC_12_213 mL_168 mO_168 rfl (Nat.le_of_ble_eq_true rfl) (Nat.le_of_ble_eq_true rfl) (gk_48 N) rfl F (fun r4 δ3 F => ?_)
      refine ms_seq mB_177 mO_177 [(.istore_n 2, 1), (.aload_n 0, 1)] (pc' := 130) (L' := [.ref 48, .int l1, .int r4]) (st' := [.ref 48]) ⟨dX12_reopen_128, dX12_reopen_129, trivial⟩ rfl ?_
      refine ms_getA mB_177 mO_177 dX12_reopen_130 mF_12_44 (gk_48 N) rfl (b := 57) (gr_48_14 N) ?_
      refine ms_seq mB_177 mO_177 [(.iload_n 1, 1), (.iconst (-1), 1)] (pc' := 135) (L' := [.ref 48, .int l1, .int r4]) (st' := [.int (-1), .int l1, .ref 57]) ⟨dX12_reopen_133, dX12_reopen_134, trivial⟩ rfl ?_
      have G := F.1
      have F := F.2
      refine ms_iast mB_177 dX12_reopen_135 (gk_57 N) (by rw [gl_57 N]; exact G) ?_
      refine mr_st (fun δ5 e_δ5 => ?_)
      have F := F δ5 e_δ5
      exact F
  · have F := F.1 c
    refine ms_seq mB_177 mO_177 [(.bipush (-13), 2)] (pc' := 92) (L' := [.ref 48, .int l1, .null]) (st' := [.int (-13)]) ⟨dX12_reopen_90, trivial⟩ rfl ?_
    exact ms_iret mB_177 dX12_reopen_92 mR_177 ⟨_, rfl, rfl, F⟩
set_option maxRecDepth 100000 in
theorem q12_reopen_136 {N d : Nat} (hd : 5 ≤ d) {l1 : Int32} {δ : mi_D} {Q : Int32 → mi_D → Prop} (F : (∀ δ1 : mi_D, δ1 = mi_setI δ 48 12 ((δ.1 48 12) - 1) → (mi_wV N (d - 1) 155 0 [.ref 48, .int 8, .null, .null] [] δ1 (fun δ2 => Q l1 δ2)))) : mi_wI N d 177 136 [.ref 48, .int l1, .null] [] δ Q := by
  unfold mi_wI
  refine ms_seq mB_177 mO_177 [(.aload_n 0, 1), (.dup, 1)] (pc' := 138) (L' := [.ref 48, .int l1, .null]) (st' := [.ref 48, .ref 48]) ⟨dX12_reopen_136, dX12_reopen_137, trivial⟩ rfl ?_
  refine ms_getI mB_177 mO_177 dX12_reopen_138 mF_12_197 (gk_48 N) (Or.inl rfl) ?_
  refine ms_seq mB_177 mO_177 [(.iconst 1, 1), (.isub, 1)] (pc' := 143) (L' := [.ref 48, .int l1, .null]) (st' := [.int ((δ.1 48 12) - 1), .ref 48]) ⟨dX12_reopen_141, dX12_reopen_142, trivial⟩ rfl ?_
  refine ms_putI mB_177 mO_177 dX12_reopen_143 mF_12_197 (gk_48 N) rfl rfl ?_
  refine mr_st (fun δ1 e_δ1 => ?_)
  have F := F δ1 e_δ1
  refine ms_seq mB_177 mO_177 [(.aload_n 0, 1), (.bipush 8, 2)] (pc' := 149) (L' := [.ref 48, .int l1, .null]) (st' := [.int 8, .ref 48]) ⟨dX12_reopen_146, dX12_reopen_147, trivial⟩ rfl ?_
  refine ms_callvV mB_177 mO_177 (by omega) dX12_reopen_149 mQ_12_170 mC_12_170 mL_155 mO_155 rfl (Nat.le_of_ble_eq_true rfl) (Nat.le_of_ble_eq_true rfl) (gk_48 N) rfl F (fun δ2 F => ?_)
  refine ms_seq mB_177 mO_177 [(.iload_n 1, 1)] (pc' := 153) (L' := [.ref 48, .int l1, .null]) (st' := [.int l1]) ⟨dX12_reopen_152, trivial⟩ rfl ?_
  exact ms_iret mB_177 dX12_reopen_153 mR_177 ⟨_, rfl, rfl, F⟩
set_option maxRecDepth 100000 in
theorem q12_reopen_136a {N d : Nat} (hd : 5 ≤ d) {l1 l2 : Int32} {δ : mi_D} {Q : Int32 → mi_D → Prop} (F : (∀ δ1 : mi_D, δ1 = mi_setI δ 48 12 ((δ.1 48 12) - 1) → (mi_wV N (d - 1) 155 0 [.ref 48, .int 8, .null, .null] [] δ1 (fun δ2 => Q l1 δ2)))) : mi_wI N d 177 136 [.ref 48, .int l1, .int l2] [] δ Q := by
  unfold mi_wI
  refine ms_seq mB_177 mO_177 [(.aload_n 0, 1), (.dup, 1)] (pc' := 138) (L' := [.ref 48, .int l1, .int l2]) (st' := [.ref 48, .ref 48]) ⟨dX12_reopen_136, dX12_reopen_137, trivial⟩ rfl ?_
  refine ms_getI mB_177 mO_177 dX12_reopen_138 mF_12_197 (gk_48 N) (Or.inl rfl) ?_
  refine ms_seq mB_177 mO_177 [(.iconst 1, 1), (.isub, 1)] (pc' := 143) (L' := [.ref 48, .int l1, .int l2]) (st' := [.int ((δ.1 48 12) - 1), .ref 48]) ⟨dX12_reopen_141, dX12_reopen_142, trivial⟩ rfl ?_
  refine ms_putI mB_177 mO_177 dX12_reopen_143 mF_12_197 (gk_48 N) rfl rfl ?_
  refine mr_st (fun δ1 e_δ1 => ?_)
  have F := F δ1 e_δ1
  refine ms_seq mB_177 mO_177 [(.aload_n 0, 1), (.bipush 8, 2)] (pc' := 149) (L' := [.ref 48, .int l1, .int l2]) (st' := [.int 8, .ref 48]) ⟨dX12_reopen_146, dX12_reopen_147, trivial⟩ rfl ?_
  refine ms_callvV mB_177 mO_177 (by omega) dX12_reopen_149 mQ_12_170 mC_12_170 mL_155 mO_155 rfl (Nat.le_of_ble_eq_true rfl) (Nat.le_of_ble_eq_true rfl) (gk_48 N) rfl F (fun δ2 F => ?_)
  refine ms_seq mB_177 mO_177 [(.iload_n 1, 1)] (pc' := 153) (L' := [.ref 48, .int l1, .int l2]) (st' := [.int l1]) ⟨dX12_reopen_152, trivial⟩ rfl ?_
  exact ms_iret mB_177 dX12_reopen_153 mR_177 ⟨_, rfl, rfl, F⟩
set_option maxRecDepth 100000 in
theorem q12_shares_0 {N d : Nat} (hd : 5 ≤ d) {p0 : Int64} {δ : mi_D} {Q : mi_D → Prop} (F : mi_wV N d 178 5 [.ref 48, .long p0, .null, .long 0, .null, .int 0, .null, .null, .null, .null] [] δ Q) : mi_wV N d 178 0 [.ref 48, .long p0, .null, .null, .null, .null, .null, .null, .null, .null] [] δ Q := by
  unfold mi_wV
  refine ms_seq mB_178 mO_178 [(.lconst 0, 1), (.lstore_n 3, 1), (.iconst 0, 1), (.istore 5, 2)] (pc' := 5) (L' := [.ref 48, .long p0, .null, .long 0, .null, .int 0, .null, .null, .null, .null]) (st' := []) ⟨dX12_shares_0, dX12_shares_1, dX12_shares_2, dX12_shares_3, trivial⟩ rfl ?_
  exact F
set_option maxRecDepth 100000 in
theorem q12_shares_5 {N d : Nat} (hd : 5 ≤ d) {l5 : Int32} {l1 l3 : Int64} {δ : mi_D} {Q : mi_D → Prop} (F : ((l5 < (δ.1 48 41) → (mi_ix l5 8 = true ∧ (∀ x1 : Int64, x1 = (l3 + (δ.2.2 76 (Int32.toNatClampNeg l5))) → mi_wV N d 178 5 [.ref 48, .long l1, .null, .long x1, .null, .int (l5 + 1), .null, .null, .null, .null] [] δ Q))) ∧ (¬ l5 < (δ.1 48 41) → mi_wV N d 178 36 [.ref 48, .long l1, .null, .long l3, .null, .long l1, .null, .int 0, .null, .null] [] δ Q))) : mi_wV N d 178 5 [.ref 48, .long l1, .null, .long l3, .null, .int l5, .null, .null, .null, .null] [] δ Q := by
  unfold mi_wV
  refine ms_seq mB_178 mO_178 [(.iload 5, 2), (.aload_n 0, 1)] (pc' := 8) (L' := [.ref 48, .long l1, .null, .long l3, .null, .int l5, .null, .null, .null, .null]) (st' := [.ref 48, .int l5]) ⟨dX12_shares_5, dX12_shares_7, trivial⟩ rfl ?_
  refine ms_getI mB_178 mO_178 dX12_shares_8 mF_12_234 (gk_48 N) (Or.inl rfl) ?_
  refine ms_icmp_ge mB_178 dX12_shares_11 (t := 30) rfl (fun c => ?_) (fun c => ?_)
  · have F := F.2 c
    refine ms_seq mB_178 mO_178 [(.lload_n 1, 1), (.lstore 5, 2), (.iconst 0, 1), (.istore 7, 2)] (pc' := 36) (L' := [.ref 48, .long l1, .null, .long l3, .null, .long l1, .null, .int 0, .null, .null]) (st' := []) ⟨dX12_shares_30, dX12_shares_31, dX12_shares_33, dX12_shares_34, trivial⟩ rfl ?_
    exact F
  · have F := F.1 c
    refine ms_seq mB_178 mO_178 [(.lload_n 3, 1), (.aload_n 0, 1)] (pc' := 16) (L' := [.ref 48, .long l1, .null, .long l3, .null, .int l5, .null, .null, .null, .null]) (st' := [.ref 48, .long l3]) ⟨dX12_shares_14, dX12_shares_15, trivial⟩ rfl ?_
    refine ms_getA mB_178 mO_178 dX12_shares_16 mF_12_101 (gk_48 N) rfl (b := 76) (gr_48_42 N) ?_
    refine ms_seq mB_178 mO_178 [(.iload 5, 2)] (pc' := 21) (L' := [.ref 48, .long l1, .null, .long l3, .null, .int l5, .null, .null, .null, .null]) (st' := [.int l5, .ref 76, .long l3]) ⟨dX12_shares_19, trivial⟩ rfl ?_
    have G := F.1
    have F := F.2
    refine ms_lald mB_178 dX12_shares_21 (gk_76 N) (by rw [gl_76 N]; exact G) ?_
    refine ms_seq mB_178 mO_178 [(.ladd, 1)] (pc' := 23) (L' := [.ref 48, .long l1, .null, .long l3, .null, .int l5, .null, .null, .null, .null]) (st' := [.long (l3 + (δ.2.2 76 (Int32.toNatClampNeg l5)))]) ⟨dX12_shares_22, trivial⟩ rfl ?_
    refine mr_topl (fun x1 e_x1 => ?_)
    have F := F x1 e_x1
    refine ms_seq mB_178 mO_178 [(.lstore_n 3, 1), (.iinc 5 1, 3)] (pc' := 27) (L' := [.ref 48, .long l1, .null, .long x1, .null, .int (l5 + 1), .null, .null, .null, .null]) (st' := []) ⟨dX12_shares_23, dX12_shares_24, trivial⟩ rfl ?_
    refine ms_goto mB_178 dX12_shares_27 (t := 5) rfl ?_
    exact F
set_option maxRecDepth 100000 in
theorem q12_shares_36 {N d : Nat} (hd : 5 ≤ d) {l7 : Int32} {l1 l3 l5 : Int64} {δ : mi_D} {Q : mi_D → Prop} (F : ((l7 < (δ.1 48 41) → (mi_ix l7 8 = true ∧ (¬ l3 = 0 ∧ (mi_ix l7 8 = true ∧ (∀ δ1 : mi_D, δ1 = mi_setL δ 77 (Int32.toNatClampNeg l7) ((l1 * (δ.2.2 76 (Int32.toNatClampNeg l7))) / l3) → (mi_ix l7 8 = true ∧ (¬ l3 = 0 ∧ (∀ x2 : Int64, x2 = ((l1 * (δ1.2.2 76 (Int32.toNatClampNeg l7))) - (l1 * (δ1.2.2 76 (Int32.toNatClampNeg l7))) / l3 * l3) → (((lg_cmp x2 0) < 0 → mi_wV N d 178 97 [.ref 48, .long l1, .null, .long l3, .null, .long l5, .null, .int l7, .long x2, .null] [.long (-x2), .int l7, .ref 78] δ1 Q) ∧ (¬ (lg_cmp x2 0) < 0 → mi_wV N d 178 97 [.ref 48, .long l1, .null, .long l3, .null, .long l5, .null, .int l7, .long x2, .null] [.long x2, .int l7, .ref 78] δ1 Q)))))))))) ∧ (¬ l7 < (δ.1 48 41) → mi_wV N d 178 124 [.ref 48, .long l1, .null, .long l3, .null, .long l5, .null, .int l7, .null, .null] [] δ Q))) : mi_wV N d 178 36 [.ref 48, .long l1, .null, .long l3, .null, .long l5, .null, .int l7, .null, .null] [] δ Q := by
  unfold mi_wV
  refine ms_seq mB_178 mO_178 [(.iload 7, 2), (.aload_n 0, 1)] (pc' := 39) (L' := [.ref 48, .long l1, .null, .long l3, .null, .long l5, .null, .int l7, .null, .null]) (st' := [.ref 48, .int l7]) ⟨dX12_shares_36, dX12_shares_38, trivial⟩ rfl ?_
  refine ms_getI mB_178 mO_178 dX12_shares_39 mF_12_234 (gk_48 N) (Or.inl rfl) ?_
  refine ms_icmp_ge mB_178 dX12_shares_42 (t := 124) rfl (fun c => ?_) (fun c => ?_)
  · have F := F.2 c
    exact F
  · have F := F.1 c
    refine ms_seq mB_178 mO_178 [(.aload_n 0, 1)] (pc' := 46) (L' := [.ref 48, .long l1, .null, .long l3, .null, .long l5, .null, .int l7, .null, .null]) (st' := [.ref 48]) ⟨dX12_shares_45, trivial⟩ rfl ?_
    refine ms_getA mB_178 mO_178 dX12_shares_46 mF_12_104 (gk_48 N) rfl (b := 77) (gr_48_43 N) ?_
    refine ms_seq mB_178 mO_178 [(.iload 7, 2), (.lload_n 1, 1), (.aload_n 0, 1)] (pc' := 53) (L' := [.ref 48, .long l1, .null, .long l3, .null, .long l5, .null, .int l7, .null, .null]) (st' := [.ref 48, .long l1, .int l7, .ref 77]) ⟨dX12_shares_49, dX12_shares_51, dX12_shares_52, trivial⟩ rfl ?_
    refine ms_getA mB_178 mO_178 dX12_shares_53 mF_12_101 (gk_48 N) rfl (b := 76) (gr_48_42 N) ?_
    refine ms_seq mB_178 mO_178 [(.iload 7, 2)] (pc' := 58) (L' := [.ref 48, .long l1, .null, .long l3, .null, .long l5, .null, .int l7, .null, .null]) (st' := [.int l7, .ref 76, .long l1, .int l7, .ref 77]) ⟨dX12_shares_56, trivial⟩ rfl ?_
    have G := F.1
    have F := F.2
    refine ms_lald mB_178 dX12_shares_58 (gk_76 N) (by rw [gl_76 N]; exact G) ?_
    refine ms_seq mB_178 mO_178 [(.lmul, 1), (.lload_n 3, 1)] (pc' := 61) (L' := [.ref 48, .long l1, .null, .long l3, .null, .long l5, .null, .int l7, .null, .null]) (st' := [.long l3, .long (l1 * (δ.2.2 76 (Int32.toNatClampNeg l7))), .int l7, .ref 77]) ⟨dX12_shares_59, dX12_shares_60, trivial⟩ rfl ?_
    have G := F.1
    have F := F.2
    refine ms_ldiv mB_178 dX12_shares_61 G ?_
    have G := F.1
    have F := F.2
    refine ms_last mB_178 dX12_shares_62 (gk_77 N) (by rw [gl_77 N]; exact G) ?_
    refine mr_st (fun δ1 e_δ1 => ?_)
    have F := F δ1 e_δ1
    refine ms_seq mB_178 mO_178 [(.lload_n 1, 1), (.aload_n 0, 1)] (pc' := 65) (L' := [.ref 48, .long l1, .null, .long l3, .null, .long l5, .null, .int l7, .null, .null]) (st' := [.ref 48, .long l1]) ⟨dX12_shares_63, dX12_shares_64, trivial⟩ rfl ?_
    refine ms_getA mB_178 mO_178 dX12_shares_65 mF_12_101 (gk_48 N) rfl (b := 76) (gr_48_42 N) ?_
    refine ms_seq mB_178 mO_178 [(.iload 7, 2)] (pc' := 70) (L' := [.ref 48, .long l1, .null, .long l3, .null, .long l5, .null, .int l7, .null, .null]) (st' := [.int l7, .ref 76, .long l1]) ⟨dX12_shares_68, trivial⟩ rfl ?_
    have G := F.1
    have F := F.2
    refine ms_lald mB_178 dX12_shares_70 (gk_76 N) (by rw [gl_76 N]; exact G) ?_
    refine ms_seq mB_178 mO_178 [(.lmul, 1), (.lload_n 3, 1)] (pc' := 73) (L' := [.ref 48, .long l1, .null, .long l3, .null, .long l5, .null, .int l7, .null, .null]) (st' := [.long l3, .long (l1 * (δ1.2.2 76 (Int32.toNatClampNeg l7)))]) ⟨dX12_shares_71, dX12_shares_72, trivial⟩ rfl ?_
    have G := F.1
    have F := F.2
    refine ms_lrem mB_178 dX12_shares_73 G ?_
    refine mr_topl (fun x2 e_x2 => ?_)
    have F := F x2 e_x2
    refine ms_seq mB_178 mO_178 [(.lstore 8, 2), (.aload_n 0, 1)] (pc' := 77) (L' := [.ref 48, .long l1, .null, .long l3, .null, .long l5, .null, .int l7, .long x2, .null]) (st' := [.ref 48]) ⟨dX12_shares_74, dX12_shares_76, trivial⟩ rfl ?_
    refine ms_getA mB_178 mO_178 dX12_shares_77 mF_12_107 (gk_48 N) rfl (b := 78) (gr_48_44 N) ?_
    refine ms_seq mB_178 mO_178 [(.iload 7, 2), (.lload 8, 2), (.lconst 0, 1), (.lcmp, 1)] (pc' := 86) (L' := [.ref 48, .long l1, .null, .long l3, .null, .long l5, .null, .int l7, .long x2, .null]) (st' := [.int (lg_cmp x2 0), .int l7, .ref 78]) ⟨dX12_shares_80, dX12_shares_82, dX12_shares_84, dX12_shares_85, trivial⟩ rfl ?_
    refine ms_if_ge mB_178 dX12_shares_86 (t := 95) rfl (fun c => ?_) (fun c => ?_)
    · have F := F.2 c
      refine ms_seq mB_178 mO_178 [(.lload 8, 2)] (pc' := 97) (L' := [.ref 48, .long l1, .null, .long l3, .null, .long l5, .null, .int l7, .long x2, .null]) (st' := [.long x2, .int l7, .ref 78]) ⟨dX12_shares_95, trivial⟩ rfl ?_
      exact F
    · have F := F.1 c
      refine ms_seq mB_178 mO_178 [(.lload 8, 2), (.lneg, 1)] (pc' := 92) (L' := [.ref 48, .long l1, .null, .long l3, .null, .long l5, .null, .int l7, .long x2, .null]) (st' := [.long (-x2), .int l7, .ref 78]) ⟨dX12_shares_89, dX12_shares_91, trivial⟩ rfl ?_
      refine ms_goto mB_178 dX12_shares_92 (t := 97) rfl ?_
      exact F
set_option maxRecDepth 100000 in
theorem q12_shares_124 {N d : Nat} (hd : 5 ≤ d) {l7 : Int32} {l1 l3 l5 : Int64} {δ : mi_D} {Q : mi_D → Prop} (F : (((lg_cmp l5 0) = 0 → Q δ) ∧ (¬ (lg_cmp l5 0) = 0 → mi_wV N d 178 137 [.ref 48, .long l1, .null, .long l3, .null, .long l5, .null, .int (-1), .int 0, .null] [] δ Q))) : mi_wV N d 178 124 [.ref 48, .long l1, .null, .long l3, .null, .long l5, .null, .int l7, .null, .null] [] δ Q := by
  unfold mi_wV
  refine ms_seq mB_178 mO_178 [(.lload 5, 2), (.lconst 0, 1), (.lcmp, 1)] (pc' := 128) (L' := [.ref 48, .long l1, .null, .long l3, .null, .long l5, .null, .int l7, .null, .null]) (st' := [.int (lg_cmp l5 0)]) ⟨dX12_shares_124, dX12_shares_126, dX12_shares_127, trivial⟩ rfl ?_
  refine ms_if_eq mB_178 dX12_shares_128 (t := 248) rfl (fun c => ?_) (fun c => ?_)
  · have F := F.1 c
    exact ms_vret mB_178 dX12_shares_248 mR_178 ⟨rfl, rfl, F⟩
  · have F := F.2 c
    refine ms_seq mB_178 mO_178 [(.iconst (-1), 1), (.istore 7, 2), (.iconst 0, 1), (.istore 8, 2)] (pc' := 137) (L' := [.ref 48, .long l1, .null, .long l3, .null, .long l5, .null, .int (-1), .int 0, .null]) (st' := []) ⟨dX12_shares_131, dX12_shares_132, dX12_shares_134, dX12_shares_135, trivial⟩ rfl ?_
    exact F
set_option maxRecDepth 100000 in
theorem q12_shares_97 {N d : Nat} (hd : 5 ≤ d) {l7 s1 : Int32} {l1 l3 l5 l8 s2 : Int64} {δ : mi_D} {Q : mi_D → Prop} (F : (mi_ix s1 8 = true ∧ (∀ δ1 : mi_D, δ1 = mi_setL δ 78 (Int32.toNatClampNeg s1) s2 → (mi_ix l7 8 = true ∧ (∀ δ2 : mi_D, δ2 = mi_setA δ1 79 (Int32.toNatClampNeg l7) 0 → (mi_ix l7 8 = true ∧ (∀ x3 : Int64, x3 = (l5 - (δ2.2.2 77 (Int32.toNatClampNeg l7))) → mi_wV N d 178 36 [.ref 48, .long l1, .null, .long l3, .null, .long x3, .null, .int (l7 + 1), .long l8, .null] [] δ2 Q))))))) : mi_wV N d 178 97 [.ref 48, .long l1, .null, .long l3, .null, .long l5, .null, .int l7, .long l8, .null] [.long s2, .int s1, .ref 78] δ Q := by
  unfold mi_wV
  have G := F.1
  have F := F.2
  refine ms_last mB_178 dX12_shares_97 (gk_78 N) (by rw [gl_78 N]; exact G) ?_
  refine mr_st (fun δ1 e_δ1 => ?_)
  have F := F δ1 e_δ1
  refine ms_seq mB_178 mO_178 [(.aload_n 0, 1)] (pc' := 99) (L' := [.ref 48, .long l1, .null, .long l3, .null, .long l5, .null, .int l7, .long l8, .null]) (st' := [.ref 48]) ⟨dX12_shares_98, trivial⟩ rfl ?_
  refine ms_getA mB_178 mO_178 dX12_shares_99 mF_12_110 (gk_48 N) rfl (b := 79) (gr_48_45 N) ?_
  refine ms_seq mB_178 mO_178 [(.iload 7, 2), (.iconst 0, 1)] (pc' := 105) (L' := [.ref 48, .long l1, .null, .long l3, .null, .long l5, .null, .int l7, .long l8, .null]) (st' := [.int 0, .int l7, .ref 79]) ⟨dX12_shares_102, dX12_shares_104, trivial⟩ rfl ?_
  have G := F.1
  have F := F.2
  refine ms_bast mB_178 dX12_shares_105 (gk_79 N) (by rw [gl_79 N]; exact G) (by decide) ?_
  refine mr_st (fun δ2 e_δ2 => ?_)
  have F := F δ2 e_δ2
  refine ms_seq mB_178 mO_178 [(.lload 5, 2), (.aload_n 0, 1)] (pc' := 109) (L' := [.ref 48, .long l1, .null, .long l3, .null, .long l5, .null, .int l7, .long l8, .null]) (st' := [.ref 48, .long l5]) ⟨dX12_shares_106, dX12_shares_108, trivial⟩ rfl ?_
  refine ms_getA mB_178 mO_178 dX12_shares_109 mF_12_104 (gk_48 N) rfl (b := 77) (gr_48_43 N) ?_
  refine ms_seq mB_178 mO_178 [(.iload 7, 2)] (pc' := 114) (L' := [.ref 48, .long l1, .null, .long l3, .null, .long l5, .null, .int l7, .long l8, .null]) (st' := [.int l7, .ref 77, .long l5]) ⟨dX12_shares_112, trivial⟩ rfl ?_
  have G := F.1
  have F := F.2
  refine ms_lald mB_178 dX12_shares_114 (gk_77 N) (by rw [gl_77 N]; exact G) ?_
  refine ms_seq mB_178 mO_178 [(.lsub, 1)] (pc' := 116) (L' := [.ref 48, .long l1, .null, .long l3, .null, .long l5, .null, .int l7, .long l8, .null]) (st' := [.long (l5 - (δ2.2.2 77 (Int32.toNatClampNeg l7)))]) ⟨dX12_shares_115, trivial⟩ rfl ?_
  refine mr_topl (fun x3 e_x3 => ?_)
  have F := F x3 e_x3
  refine ms_seq mB_178 mO_178 [(.lstore 5, 2), (.iinc 7 1, 3)] (pc' := 121) (L' := [.ref 48, .long l1, .null, .long l3, .null, .long x3, .null, .int (l7 + 1), .long l8, .null]) (st' := []) ⟨dX12_shares_116, dX12_shares_118, trivial⟩ rfl ?_
  refine ms_goto mB_178 dX12_shares_121 (t := 36) rfl ?_
  exact F
set_option maxRecDepth 100000 in
theorem q12_shares_137 {N d : Nat} (hd : 5 ≤ d) {l7 l8 : Int32} {l1 l3 l5 : Int64} {δ : mi_D} {Q : mi_D → Prop} (F : ((l8 < (δ.1 48 41) → (mi_ix l8 8 = true ∧ (((δ.2.1 79 (Int32.toNatClampNeg l8)) = 0 → ((l7 < 0 → mi_wV N d 178 137 [.ref 48, .long l1, .null, .long l3, .null, .long l5, .null, .int l8, .int (l8 + 1), .null] [] δ Q) ∧ (¬ l7 < 0 → (mi_ix l8 8 = true ∧ (mi_ix l7 8 = true ∧ ((0 < (lg_cmp (δ.2.2 78 (Int32.toNatClampNeg l8)) (δ.2.2 78 (Int32.toNatClampNeg l7))) → mi_wV N d 178 137 [.ref 48, .long l1, .null, .long l3, .null, .long l5, .null, .int l8, .int (l8 + 1), .null] [] δ Q) ∧ (¬ 0 < (lg_cmp (δ.2.2 78 (Int32.toNatClampNeg l8)) (δ.2.2 78 (Int32.toNatClampNeg l7))) → mi_wV N d 178 137 [.ref 48, .long l1, .null, .long l3, .null, .long l5, .null, .int l7, .int (l8 + 1), .null] [] δ Q))))))) ∧ (¬ (δ.2.1 79 (Int32.toNatClampNeg l8)) = 0 → mi_wV N d 178 137 [.ref 48, .long l1, .null, .long l3, .null, .long l5, .null, .int l7, .int (l8 + 1), .null] [] δ Q)))) ∧ (¬ l8 < (δ.1 48 41) → (mi_ix l7 8 = true ∧ (∀ δ1 : mi_D, δ1 = mi_setA δ 79 (Int32.toNatClampNeg l7) 1 → (mi_ix l7 8 = true ∧ (((lg_cmp l5 0) < 0 → mi_wV N d 178 224 [.ref 48, .long l1, .null, .long l3, .null, .long l5, .null, .int l7, .int l8, .null] [.long (-1), .long (δ1.2.2 77 (Int32.toNatClampNeg l7)), .int l7, .ref 77] δ1 Q) ∧ (¬ (lg_cmp l5 0) < 0 → mi_wV N d 178 224 [.ref 48, .long l1, .null, .long l3, .null, .long l5, .null, .int l7, .int l8, .null] [.long 1, .long (δ1.2.2 77 (Int32.toNatClampNeg l7)), .int l7, .ref 77] δ1 Q)))))))) : mi_wV N d 178 137 [.ref 48, .long l1, .null, .long l3, .null, .long l5, .null, .int l7, .int l8, .null] [] δ Q := by
  unfold mi_wV
  refine ms_seq mB_178 mO_178 [(.iload 8, 2), (.aload_n 0, 1)] (pc' := 140) (L' := [.ref 48, .long l1, .null, .long l3, .null, .long l5, .null, .int l7, .int l8, .null]) (st' := [.ref 48, .int l8]) ⟨dX12_shares_137, dX12_shares_139, trivial⟩ rfl ?_
  refine ms_getI mB_178 mO_178 dX12_shares_140 mF_12_234 (gk_48 N) (Or.inl rfl) ?_
  refine ms_icmp_ge mB_178 dX12_shares_143 (t := 194) rfl (fun c => ?_) (fun c => ?_)
  · have F := F.2 c
    refine ms_seq mB_178 mO_178 [(.aload_n 0, 1)] (pc' := 195) (L' := [.ref 48, .long l1, .null, .long l3, .null, .long l5, .null, .int l7, .int l8, .null]) (st' := [.ref 48]) ⟨dX12_shares_194, trivial⟩ rfl ?_
    refine ms_getA mB_178 mO_178 dX12_shares_195 mF_12_110 (gk_48 N) rfl (b := 79) (gr_48_45 N) ?_
    refine ms_seq mB_178 mO_178 [(.iload 7, 2), (.iconst 1, 1)] (pc' := 201) (L' := [.ref 48, .long l1, .null, .long l3, .null, .long l5, .null, .int l7, .int l8, .null]) (st' := [.int 1, .int l7, .ref 79]) ⟨dX12_shares_198, dX12_shares_200, trivial⟩ rfl ?_
    have G := F.1
    have F := F.2
    refine ms_bast mB_178 dX12_shares_201 (gk_79 N) (by rw [gl_79 N]; exact G) (by decide) ?_
    refine mr_st (fun δ1 e_δ1 => ?_)
    have F := F δ1 e_δ1
    refine ms_seq mB_178 mO_178 [(.aload_n 0, 1)] (pc' := 203) (L' := [.ref 48, .long l1, .null, .long l3, .null, .long l5, .null, .int l7, .int l8, .null]) (st' := [.ref 48]) ⟨dX12_shares_202, trivial⟩ rfl ?_
    refine ms_getA mB_178 mO_178 dX12_shares_203 mF_12_104 (gk_48 N) rfl (b := 77) (gr_48_43 N) ?_
    refine ms_seq mB_178 mO_178 [(.iload 7, 2), (.dup2, 1)] (pc' := 209) (L' := [.ref 48, .long l1, .null, .long l3, .null, .long l5, .null, .int l7, .int l8, .null]) (st' := [.int l7, .ref 77, .int l7, .ref 77]) ⟨dX12_shares_206, dX12_shares_208, trivial⟩ rfl ?_
    have G := F.1
    have F := F.2
    refine ms_lald mB_178 dX12_shares_209 (gk_77 N) (by rw [gl_77 N]; exact G) ?_
    refine ms_seq mB_178 mO_178 [(.lload 5, 2), (.lconst 0, 1), (.lcmp, 1)] (pc' := 214) (L' := [.ref 48, .long l1, .null, .long l3, .null, .long l5, .null, .int l7, .int l8, .null]) (st' := [.int (lg_cmp l5 0), .long (δ1.2.2 77 (Int32.toNatClampNeg l7)), .int l7, .ref 77]) ⟨dX12_shares_210, dX12_shares_212, dX12_shares_213, trivial⟩ rfl ?_
    refine ms_if_ge mB_178 dX12_shares_214 (t := 223) rfl (fun c => ?_) (fun c => ?_)
    · have F := F.2 c
      refine ms_seq mB_178 mO_178 [(.lconst 1, 1)] (pc' := 224) (L' := [.ref 48, .long l1, .null, .long l3, .null, .long l5, .null, .int l7, .int l8, .null]) (st' := [.long 1, .long (δ1.2.2 77 (Int32.toNatClampNeg l7)), .int l7, .ref 77]) ⟨dX12_shares_223, trivial⟩ rfl ?_
      exact F
    · have F := F.1 c
      refine ms_seq mB_178 mO_178 [(.ldc2_w 237, 3)] (pc' := 220) (L' := [.ref 48, .long l1, .null, .long l3, .null, .long l5, .null, .int l7, .int l8, .null]) (st' := [.long (-1), .long (δ1.2.2 77 (Int32.toNatClampNeg l7)), .int l7, .ref 77]) ⟨dX12_shares_217, trivial⟩ rfl ?_
      refine ms_goto mB_178 dX12_shares_220 (t := 224) rfl ?_
      exact F
  · have F := F.1 c
    refine ms_seq mB_178 mO_178 [(.aload_n 0, 1)] (pc' := 147) (L' := [.ref 48, .long l1, .null, .long l3, .null, .long l5, .null, .int l7, .int l8, .null]) (st' := [.ref 48]) ⟨dX12_shares_146, trivial⟩ rfl ?_
    refine ms_getA mB_178 mO_178 dX12_shares_147 mF_12_110 (gk_48 N) rfl (b := 79) (gr_48_45 N) ?_
    refine ms_seq mB_178 mO_178 [(.iload 8, 2)] (pc' := 152) (L' := [.ref 48, .long l1, .null, .long l3, .null, .long l5, .null, .int l7, .int l8, .null]) (st' := [.int l8, .ref 79]) ⟨dX12_shares_150, trivial⟩ rfl ?_
    have G := F.1
    have F := F.2
    refine ms_bald mB_178 dX12_shares_152 (gk_79 N) (by rw [gl_79 N]; exact G) ?_
    refine ms_if_ne mB_178 dX12_shares_153 (t := 184) rfl (fun c => ?_) (fun c => ?_)
    · have F := F.2 c
      refine ms_seq mB_178 mO_178 [(.iload 7, 2), (.istore 7, 2), (.iinc 8 1, 3)] (pc' := 191) (L' := [.ref 48, .long l1, .null, .long l3, .null, .long l5, .null, .int l7, .int (l8 + 1), .null]) (st' := []) ⟨dX12_shares_184, dX12_shares_186, dX12_shares_188, trivial⟩ rfl ?_
      refine ms_goto mB_178 dX12_shares_191 (t := 137) rfl ?_
      exact F
    · have F := F.1 c
      refine ms_seq mB_178 mO_178 [(.iload 7, 2)] (pc' := 158) (L' := [.ref 48, .long l1, .null, .long l3, .null, .long l5, .null, .int l7, .int l8, .null]) (st' := [.int l7]) ⟨dX12_shares_156, trivial⟩ rfl ?_
      refine ms_if_lt mB_178 dX12_shares_158 (t := 179) rfl (fun c => ?_) (fun c => ?_)
      · have F := F.1 c
        refine ms_seq mB_178 mO_178 [(.iload 8, 2)] (pc' := 181) (L' := [.ref 48, .long l1, .null, .long l3, .null, .long l5, .null, .int l7, .int l8, .null]) (st' := [.int l8]) ⟨dX12_shares_179, trivial⟩ rfl ?_
        refine ms_goto mB_178 dX12_shares_181 (t := 186) rfl ?_
        refine ms_seq mB_178 mO_178 [(.istore 7, 2), (.iinc 8 1, 3)] (pc' := 191) (L' := [.ref 48, .long l1, .null, .long l3, .null, .long l5, .null, .int l8, .int (l8 + 1), .null]) (st' := []) ⟨dX12_shares_186, dX12_shares_188, trivial⟩ rfl ?_
        refine ms_goto mB_178 dX12_shares_191 (t := 137) rfl ?_
        exact F
      · have F := F.2 c
        refine ms_seq mB_178 mO_178 [(.aload_n 0, 1)] (pc' := 162) (L' := [.ref 48, .long l1, .null, .long l3, .null, .long l5, .null, .int l7, .int l8, .null]) (st' := [.ref 48]) ⟨dX12_shares_161, trivial⟩ rfl ?_
        refine ms_getA mB_178 mO_178 dX12_shares_162 mF_12_107 (gk_48 N) rfl (b := 78) (gr_48_44 N) ?_
        refine ms_seq mB_178 mO_178 [(.iload 8, 2)] (pc' := 167) (L' := [.ref 48, .long l1, .null, .long l3, .null, .long l5, .null, .int l7, .int l8, .null]) (st' := [.int l8, .ref 78]) ⟨dX12_shares_165, trivial⟩ rfl ?_
        have G := F.1
        have F := F.2
        refine ms_lald mB_178 dX12_shares_167 (gk_78 N) (by rw [gl_78 N]; exact G) ?_
        refine ms_seq mB_178 mO_178 [(.aload_n 0, 1)] (pc' := 169) (L' := [.ref 48, .long l1, .null, .long l3, .null, .long l5, .null, .int l7, .int l8, .null]) (st' := [.ref 48, .long (δ.2.2 78 (Int32.toNatClampNeg l8))]) ⟨dX12_shares_168, trivial⟩ rfl ?_
        refine ms_getA mB_178 mO_178 dX12_shares_169 mF_12_107 (gk_48 N) rfl (b := 78) (gr_48_44 N) ?_
        refine ms_seq mB_178 mO_178 [(.iload 7, 2)] (pc' := 174) (L' := [.ref 48, .long l1, .null, .long l3, .null, .long l5, .null, .int l7, .int l8, .null]) (st' := [.int l7, .ref 78, .long (δ.2.2 78 (Int32.toNatClampNeg l8))]) ⟨dX12_shares_172, trivial⟩ rfl ?_
        have G := F.1
        have F := F.2
        refine ms_lald mB_178 dX12_shares_174 (gk_78 N) (by rw [gl_78 N]; exact G) ?_
        refine ms_seq mB_178 mO_178 [(.lcmp, 1)] (pc' := 176) (L' := [.ref 48, .long l1, .null, .long l3, .null, .long l5, .null, .int l7, .int l8, .null]) (st' := [.int (lg_cmp (δ.2.2 78 (Int32.toNatClampNeg l8)) (δ.2.2 78 (Int32.toNatClampNeg l7)))]) ⟨dX12_shares_175, trivial⟩ rfl ?_
        refine ms_if_le mB_178 dX12_shares_176 (t := 184) rfl (fun c => ?_) (fun c => ?_)
        · have F := F.2 c
          refine ms_seq mB_178 mO_178 [(.iload 7, 2), (.istore 7, 2), (.iinc 8 1, 3)] (pc' := 191) (L' := [.ref 48, .long l1, .null, .long l3, .null, .long l5, .null, .int l7, .int (l8 + 1), .null]) (st' := []) ⟨dX12_shares_184, dX12_shares_186, dX12_shares_188, trivial⟩ rfl ?_
          refine ms_goto mB_178 dX12_shares_191 (t := 137) rfl ?_
          exact F
        · have F := F.1 c
          refine ms_seq mB_178 mO_178 [(.iload 8, 2)] (pc' := 181) (L' := [.ref 48, .long l1, .null, .long l3, .null, .long l5, .null, .int l7, .int l8, .null]) (st' := [.int l8]) ⟨dX12_shares_179, trivial⟩ rfl ?_
          refine ms_goto mB_178 dX12_shares_181 (t := 186) rfl ?_
          refine ms_seq mB_178 mO_178 [(.istore 7, 2), (.iinc 8 1, 3)] (pc' := 191) (L' := [.ref 48, .long l1, .null, .long l3, .null, .long l5, .null, .int l8, .int (l8 + 1), .null]) (st' := []) ⟨dX12_shares_186, dX12_shares_188, trivial⟩ rfl ?_
          refine ms_goto mB_178 dX12_shares_191 (t := 137) rfl ?_
          exact F
set_option maxRecDepth 100000 in
theorem q12_shares_36a {N d : Nat} (hd : 5 ≤ d) {l7 : Int32} {l1 l3 l5 l8 : Int64} {δ : mi_D} {Q : mi_D → Prop} (F : ((l7 < (δ.1 48 41) → (mi_ix l7 8 = true ∧ (¬ l3 = 0 ∧ (mi_ix l7 8 = true ∧ (∀ δ1 : mi_D, δ1 = mi_setL δ 77 (Int32.toNatClampNeg l7) ((l1 * (δ.2.2 76 (Int32.toNatClampNeg l7))) / l3) → (mi_ix l7 8 = true ∧ (¬ l3 = 0 ∧ (∀ x2 : Int64, x2 = ((l1 * (δ1.2.2 76 (Int32.toNatClampNeg l7))) - (l1 * (δ1.2.2 76 (Int32.toNatClampNeg l7))) / l3 * l3) → (((lg_cmp x2 0) < 0 → mi_wV N d 178 97 [.ref 48, .long l1, .null, .long l3, .null, .long l5, .null, .int l7, .long x2, .null] [.long (-x2), .int l7, .ref 78] δ1 Q) ∧ (¬ (lg_cmp x2 0) < 0 → mi_wV N d 178 97 [.ref 48, .long l1, .null, .long l3, .null, .long l5, .null, .int l7, .long x2, .null] [.long x2, .int l7, .ref 78] δ1 Q)))))))))) ∧ (¬ l7 < (δ.1 48 41) → mi_wV N d 178 124 [.ref 48, .long l1, .null, .long l3, .null, .long l5, .null, .int l7, .long l8, .null] [] δ Q))) : mi_wV N d 178 36 [.ref 48, .long l1, .null, .long l3, .null, .long l5, .null, .int l7, .long l8, .null] [] δ Q := by
  unfold mi_wV
  refine ms_seq mB_178 mO_178 [(.iload 7, 2), (.aload_n 0, 1)] (pc' := 39) (L' := [.ref 48, .long l1, .null, .long l3, .null, .long l5, .null, .int l7, .long l8, .null]) (st' := [.ref 48, .int l7]) ⟨dX12_shares_36, dX12_shares_38, trivial⟩ rfl ?_
  refine ms_getI mB_178 mO_178 dX12_shares_39 mF_12_234 (gk_48 N) (Or.inl rfl) ?_
  refine ms_icmp_ge mB_178 dX12_shares_42 (t := 124) rfl (fun c => ?_) (fun c => ?_)
  · have F := F.2 c
    exact F
  · have F := F.1 c
    refine ms_seq mB_178 mO_178 [(.aload_n 0, 1)] (pc' := 46) (L' := [.ref 48, .long l1, .null, .long l3, .null, .long l5, .null, .int l7, .long l8, .null]) (st' := [.ref 48]) ⟨dX12_shares_45, trivial⟩ rfl ?_
    refine ms_getA mB_178 mO_178 dX12_shares_46 mF_12_104 (gk_48 N) rfl (b := 77) (gr_48_43 N) ?_
    refine ms_seq mB_178 mO_178 [(.iload 7, 2), (.lload_n 1, 1), (.aload_n 0, 1)] (pc' := 53) (L' := [.ref 48, .long l1, .null, .long l3, .null, .long l5, .null, .int l7, .long l8, .null]) (st' := [.ref 48, .long l1, .int l7, .ref 77]) ⟨dX12_shares_49, dX12_shares_51, dX12_shares_52, trivial⟩ rfl ?_
    refine ms_getA mB_178 mO_178 dX12_shares_53 mF_12_101 (gk_48 N) rfl (b := 76) (gr_48_42 N) ?_
    refine ms_seq mB_178 mO_178 [(.iload 7, 2)] (pc' := 58) (L' := [.ref 48, .long l1, .null, .long l3, .null, .long l5, .null, .int l7, .long l8, .null]) (st' := [.int l7, .ref 76, .long l1, .int l7, .ref 77]) ⟨dX12_shares_56, trivial⟩ rfl ?_
    have G := F.1
    have F := F.2
    refine ms_lald mB_178 dX12_shares_58 (gk_76 N) (by rw [gl_76 N]; exact G) ?_
    refine ms_seq mB_178 mO_178 [(.lmul, 1), (.lload_n 3, 1)] (pc' := 61) (L' := [.ref 48, .long l1, .null, .long l3, .null, .long l5, .null, .int l7, .long l8, .null]) (st' := [.long l3, .long (l1 * (δ.2.2 76 (Int32.toNatClampNeg l7))), .int l7, .ref 77]) ⟨dX12_shares_59, dX12_shares_60, trivial⟩ rfl ?_
    have G := F.1
    have F := F.2
    refine ms_ldiv mB_178 dX12_shares_61 G ?_
    have G := F.1
    have F := F.2
    refine ms_last mB_178 dX12_shares_62 (gk_77 N) (by rw [gl_77 N]; exact G) ?_
    refine mr_st (fun δ1 e_δ1 => ?_)
    have F := F δ1 e_δ1
    refine ms_seq mB_178 mO_178 [(.lload_n 1, 1), (.aload_n 0, 1)] (pc' := 65) (L' := [.ref 48, .long l1, .null, .long l3, .null, .long l5, .null, .int l7, .long l8, .null]) (st' := [.ref 48, .long l1]) ⟨dX12_shares_63, dX12_shares_64, trivial⟩ rfl ?_
    refine ms_getA mB_178 mO_178 dX12_shares_65 mF_12_101 (gk_48 N) rfl (b := 76) (gr_48_42 N) ?_
    refine ms_seq mB_178 mO_178 [(.iload 7, 2)] (pc' := 70) (L' := [.ref 48, .long l1, .null, .long l3, .null, .long l5, .null, .int l7, .long l8, .null]) (st' := [.int l7, .ref 76, .long l1]) ⟨dX12_shares_68, trivial⟩ rfl ?_
    have G := F.1
    have F := F.2
    refine ms_lald mB_178 dX12_shares_70 (gk_76 N) (by rw [gl_76 N]; exact G) ?_
    refine ms_seq mB_178 mO_178 [(.lmul, 1), (.lload_n 3, 1)] (pc' := 73) (L' := [.ref 48, .long l1, .null, .long l3, .null, .long l5, .null, .int l7, .long l8, .null]) (st' := [.long l3, .long (l1 * (δ1.2.2 76 (Int32.toNatClampNeg l7)))]) ⟨dX12_shares_71, dX12_shares_72, trivial⟩ rfl ?_
    have G := F.1
    have F := F.2
    refine ms_lrem mB_178 dX12_shares_73 G ?_
    refine mr_topl (fun x2 e_x2 => ?_)
    have F := F x2 e_x2
    refine ms_seq mB_178 mO_178 [(.lstore 8, 2), (.aload_n 0, 1)] (pc' := 77) (L' := [.ref 48, .long l1, .null, .long l3, .null, .long l5, .null, .int l7, .long x2, .null]) (st' := [.ref 48]) ⟨dX12_shares_74, dX12_shares_76, trivial⟩ rfl ?_
    refine ms_getA mB_178 mO_178 dX12_shares_77 mF_12_107 (gk_48 N) rfl (b := 78) (gr_48_44 N) ?_
    refine ms_seq mB_178 mO_178 [(.iload 7, 2), (.lload 8, 2), (.lconst 0, 1), (.lcmp, 1)] (pc' := 86) (L' := [.ref 48, .long l1, .null, .long l3, .null, .long l5, .null, .int l7, .long x2, .null]) (st' := [.int (lg_cmp x2 0), .int l7, .ref 78]) ⟨dX12_shares_80, dX12_shares_82, dX12_shares_84, dX12_shares_85, trivial⟩ rfl ?_
    refine ms_if_ge mB_178 dX12_shares_86 (t := 95) rfl (fun c => ?_) (fun c => ?_)
    · have F := F.2 c
      refine ms_seq mB_178 mO_178 [(.lload 8, 2)] (pc' := 97) (L' := [.ref 48, .long l1, .null, .long l3, .null, .long l5, .null, .int l7, .long x2, .null]) (st' := [.long x2, .int l7, .ref 78]) ⟨dX12_shares_95, trivial⟩ rfl ?_
      exact F
    · have F := F.1 c
      refine ms_seq mB_178 mO_178 [(.lload 8, 2), (.lneg, 1)] (pc' := 92) (L' := [.ref 48, .long l1, .null, .long l3, .null, .long l5, .null, .int l7, .long x2, .null]) (st' := [.long (-x2), .int l7, .ref 78]) ⟨dX12_shares_89, dX12_shares_91, trivial⟩ rfl ?_
      refine ms_goto mB_178 dX12_shares_92 (t := 97) rfl ?_
      exact F
set_option maxRecDepth 100000 in
theorem q12_shares_224 {N d : Nat} (hd : 5 ≤ d) {l7 l8 s1 : Int32} {l1 l3 l5 s2 s3 : Int64} {δ : mi_D} {Q : mi_D → Prop} (F : (mi_ix s1 8 = true ∧ (∀ δ1 : mi_D, δ1 = mi_setL δ 77 (Int32.toNatClampNeg s1) (s2 + s3) → (((lg_cmp l5 0) < 0 → (∀ x3 : Int64, x3 = (l5 - (-1)) → mi_wV N d 178 124 [.ref 48, .long l1, .null, .long l3, .null, .long x3, .null, .int l7, .int l8, .null] [] δ1 Q)) ∧ (¬ (lg_cmp l5 0) < 0 → (∀ x2 : Int64, x2 = (l5 - 1) → mi_wV N d 178 124 [.ref 48, .long l1, .null, .long l3, .null, .long x2, .null, .int l7, .int l8, .null] [] δ1 Q)))))) : mi_wV N d 178 224 [.ref 48, .long l1, .null, .long l3, .null, .long l5, .null, .int l7, .int l8, .null] [.long s3, .long s2, .int s1, .ref 77] δ Q := by
  unfold mi_wV
  refine ms_seq mB_178 mO_178 [(.ladd, 1)] (pc' := 225) (L' := [.ref 48, .long l1, .null, .long l3, .null, .long l5, .null, .int l7, .int l8, .null]) (st' := [.long (s2 + s3), .int s1, .ref 77]) ⟨dX12_shares_224, trivial⟩ rfl ?_
  have G := F.1
  have F := F.2
  refine ms_last mB_178 dX12_shares_225 (gk_77 N) (by rw [gl_77 N]; exact G) ?_
  refine mr_st (fun δ1 e_δ1 => ?_)
  have F := F δ1 e_δ1
  refine ms_seq mB_178 mO_178 [(.lload 5, 2), (.lload 5, 2), (.lconst 0, 1), (.lcmp, 1)] (pc' := 232) (L' := [.ref 48, .long l1, .null, .long l3, .null, .long l5, .null, .int l7, .int l8, .null]) (st' := [.int (lg_cmp l5 0), .long l5]) ⟨dX12_shares_226, dX12_shares_228, dX12_shares_230, dX12_shares_231, trivial⟩ rfl ?_
  refine ms_if_ge mB_178 dX12_shares_232 (t := 241) rfl (fun c => ?_) (fun c => ?_)
  · have F := F.2 c
    refine ms_seq mB_178 mO_178 [(.lconst 1, 1), (.lsub, 1)] (pc' := 243) (L' := [.ref 48, .long l1, .null, .long l3, .null, .long l5, .null, .int l7, .int l8, .null]) (st' := [.long (l5 - 1)]) ⟨dX12_shares_241, dX12_shares_242, trivial⟩ rfl ?_
    refine mr_topl (fun x2 e_x2 => ?_)
    have F := F x2 e_x2
    refine ms_seq mB_178 mO_178 [(.lstore 5, 2)] (pc' := 245) (L' := [.ref 48, .long l1, .null, .long l3, .null, .long x2, .null, .int l7, .int l8, .null]) (st' := []) ⟨dX12_shares_243, trivial⟩ rfl ?_
    refine ms_goto mB_178 dX12_shares_245 (t := 124) rfl ?_
    exact F
  · have F := F.1 c
    refine ms_seq mB_178 mO_178 [(.ldc2_w 237, 3)] (pc' := 238) (L' := [.ref 48, .long l1, .null, .long l3, .null, .long l5, .null, .int l7, .int l8, .null]) (st' := [.long (-1), .long l5]) ⟨dX12_shares_235, trivial⟩ rfl ?_
    refine ms_goto mB_178 dX12_shares_238 (t := 242) rfl ?_
    refine ms_seq mB_178 mO_178 [(.lsub, 1)] (pc' := 243) (L' := [.ref 48, .long l1, .null, .long l3, .null, .long l5, .null, .int l7, .int l8, .null]) (st' := [.long (l5 - (-1))]) ⟨dX12_shares_242, trivial⟩ rfl ?_
    refine mr_topl (fun x3 e_x3 => ?_)
    have F := F x3 e_x3
    refine ms_seq mB_178 mO_178 [(.lstore 5, 2)] (pc' := 245) (L' := [.ref 48, .long l1, .null, .long l3, .null, .long x3, .null, .int l7, .int l8, .null]) (st' := []) ⟨dX12_shares_243, trivial⟩ rfl ?_
    refine ms_goto mB_178 dX12_shares_245 (t := 124) rfl ?_
    exact F
set_option maxRecDepth 100000 in
theorem q12_shares_124a {N d : Nat} (hd : 5 ≤ d) {l7 : Int32} {l1 l3 l5 l8 : Int64} {δ : mi_D} {Q : mi_D → Prop} (F : (((lg_cmp l5 0) = 0 → Q δ) ∧ (¬ (lg_cmp l5 0) = 0 → mi_wV N d 178 137 [.ref 48, .long l1, .null, .long l3, .null, .long l5, .null, .int (-1), .int 0, .null] [] δ Q))) : mi_wV N d 178 124 [.ref 48, .long l1, .null, .long l3, .null, .long l5, .null, .int l7, .long l8, .null] [] δ Q := by
  unfold mi_wV
  refine ms_seq mB_178 mO_178 [(.lload 5, 2), (.lconst 0, 1), (.lcmp, 1)] (pc' := 128) (L' := [.ref 48, .long l1, .null, .long l3, .null, .long l5, .null, .int l7, .long l8, .null]) (st' := [.int (lg_cmp l5 0)]) ⟨dX12_shares_124, dX12_shares_126, dX12_shares_127, trivial⟩ rfl ?_
  refine ms_if_eq mB_178 dX12_shares_128 (t := 248) rfl (fun c => ?_) (fun c => ?_)
  · have F := F.1 c
    exact ms_vret mB_178 dX12_shares_248 mR_178 ⟨rfl, rfl, F⟩
  · have F := F.2 c
    refine ms_seq mB_178 mO_178 [(.iconst (-1), 1), (.istore 7, 2), (.iconst 0, 1), (.istore 8, 2)] (pc' := 137) (L' := [.ref 48, .long l1, .null, .long l3, .null, .long l5, .null, .int (-1), .int 0, .null]) (st' := []) ⟨dX12_shares_131, dX12_shares_132, dX12_shares_134, dX12_shares_135, trivial⟩ rfl ?_
    exact F
set_option maxRecDepth 100000 in
theorem q12_shares_124b {N d : Nat} (hd : 5 ≤ d) {l7 l8 : Int32} {l1 l3 l5 : Int64} {δ : mi_D} {Q : mi_D → Prop} (F : (((lg_cmp l5 0) = 0 → Q δ) ∧ (¬ (lg_cmp l5 0) = 0 → mi_wV N d 178 137 [.ref 48, .long l1, .null, .long l3, .null, .long l5, .null, .int (-1), .int 0, .null] [] δ Q))) : mi_wV N d 178 124 [.ref 48, .long l1, .null, .long l3, .null, .long l5, .null, .int l7, .int l8, .null] [] δ Q := by
  unfold mi_wV
  refine ms_seq mB_178 mO_178 [(.lload 5, 2), (.lconst 0, 1), (.lcmp, 1)] (pc' := 128) (L' := [.ref 48, .long l1, .null, .long l3, .null, .long l5, .null, .int l7, .int l8, .null]) (st' := [.int (lg_cmp l5 0)]) ⟨dX12_shares_124, dX12_shares_126, dX12_shares_127, trivial⟩ rfl ?_
  refine ms_if_eq mB_178 dX12_shares_128 (t := 248) rfl (fun c => ?_) (fun c => ?_)
  · have F := F.1 c
    exact ms_vret mB_178 dX12_shares_248 mR_178 ⟨rfl, rfl, F⟩
  · have F := F.2 c
    refine ms_seq mB_178 mO_178 [(.iconst (-1), 1), (.istore 7, 2), (.iconst 0, 1), (.istore 8, 2)] (pc' := 137) (L' := [.ref 48, .long l1, .null, .long l3, .null, .long l5, .null, .int (-1), .int 0, .null]) (st' := []) ⟨dX12_shares_131, dX12_shares_132, dX12_shares_134, dX12_shares_135, trivial⟩ rfl ?_
    exact F
set_option maxRecDepth 100000 in
theorem q12_share_0 {N d : Nat} (hd : 5 ≤ d) {p0 p2 p3 : Int32} {p1 : Int64} {δ : mi_D} {Q : Int32 → mi_D → Prop} (F : (((δ.1 48 0) = 0 → Q (-6) δ) ∧ (¬ (δ.1 48 0) = 0 → (mi_wI N (d - 1) 149 0 [.ref 48, .int p0] [] δ (fun r2 δ1 => ((r2 = 0 → Q (-2) δ1) ∧ (¬ r2 = 0 → (((lg_cmp p1 0) = 0 → mi_wI N d 179 59 [.ref 48, .int p0, .long p1, .null, .int p2, .int p3, .int 0, .int 0] [] δ1 Q) ∧ (¬ (lg_cmp p1 0) = 0 → (mi_wI N (d - 1) 148 0 [.long p1, .null, .long (-1000000000000000), .null, .long 1000000000000000, .null] [] δ1 (fun r4 δ3 => ((r4 = 0 → mi_wI N d 179 59 [.ref 48, .int p0, .long p1, .null, .int p2, .int p3, .int 0, .int 0] [] δ3 Q) ∧ (¬ r4 = 0 → (((δ3.1 48 24) < 8 → mi_wI N d 179 59 [.ref 48, .int p0, .long p1, .null, .int p2, .int p3, .int 1, .int 0] [] δ3 Q) ∧ (¬ (δ3.1 48 24) < 8 → mi_wI N d 179 59 [.ref 48, .int p0, .long p1, .null, .int p2, .int p3, .int 0, .int 0] [] δ3 Q))))))))))))))) : mi_wI N d 179 0 [.ref 48, .int p0, .long p1, .null, .int p2, .int p3, .null, .null] [] δ Q := by
  unfold mi_wI
  refine ms_seq mB_179 mO_179 [(.aload_n 0, 1)] (pc' := 1) (L' := [.ref 48, .int p0, .long p1, .null, .int p2, .int p3, .null, .null]) (st' := [.ref 48]) ⟨dX12_share_0, trivial⟩ rfl ?_
  refine ms_getI mB_179 mO_179 dX12_share_1 mF_12_7 (gk_48 N) (Or.inr rfl) ?_
  refine ms_if_ne mB_179 dX12_share_4 (t := 10) rfl (fun c => ?_) (fun c => ?_)
  · have F := F.2 c
    refine ms_seq mB_179 mO_179 [(.aload_n 0, 1), (.iload_n 1, 1)] (pc' := 12) (L' := [.ref 48, .int p0, .long p1, .null, .int p2, .int p3, .null, .null]) (st' := [.int p0, .ref 48]) ⟨dX12_share_10, dX12_share_11, trivial⟩ rfl ?_
    refine ms_callvI mB_179 mO_179 (by omega) dX12_share_12 mQ_12_148 mC_12_148 mL_149 mO_149 rfl (Nat.le_of_ble_eq_true rfl) (Nat.le_of_ble_eq_true rfl) (gk_48 N) rfl F (fun r2 δ1 F => ?_)
    refine ms_if_ne mB_179 dX12_share_15 (t := 21) rfl (fun c => ?_) (fun c => ?_)
    · have F := F.2 c
      refine ms_seq mB_179 mO_179 [(.lload_n 2, 1), (.lconst 0, 1), (.lcmp, 1)] (pc' := 24) (L' := [.ref 48, .int p0, .long p1, .null, .int p2, .int p3, .null, .null]) (st' := [.int (lg_cmp p1 0)]) ⟨dX12_share_21, dX12_share_22, dX12_share_23, trivial⟩ rfl ?_
      refine ms_if_eq mB_179 dX12_share_24 (t := 53) rfl (fun c => ?_) (fun c => ?_)
      · have F := F.1 c
        refine ms_seq mB_179 mO_179 [(.iconst 0, 1), (.istore 6, 2), (.iconst 0, 1), (.istore 7, 2)] (pc' := 59) (L' := [.ref 48, .int p0, .long p1, .null, .int p2, .int p3, .int 0, .int 0]) (st' := []) ⟨dX12_share_53, dX12_share_54, dX12_share_56, dX12_share_57, trivial⟩ rfl ?_
        exact F
      · have F := F.2 c
        refine ms_seq mB_179 mO_179 [(.lload_n 2, 1), (.ldc2_w 180, 3), (.ldc2_w 182, 3)] (pc' := 34) (L' := [.ref 48, .int p0, .long p1, .null, .int p2, .int p3, .null, .null]) (st' := [.long 1000000000000000, .long (-1000000000000000), .long p1]) ⟨dX12_share_27, dX12_share_28, dX12_share_31, trivial⟩ rfl ?_
        refine ms_callsI mB_179 mO_179 (by omega) dX12_share_34 mQ_12_116 mC_12_116 mL_148 (by decide) rfl (Nat.le_of_ble_eq_true rfl) (Nat.le_of_ble_eq_true rfl) rfl F (fun r4 δ3 F => ?_)
        refine ms_if_eq mB_179 dX12_share_37 (t := 53) rfl (fun c => ?_) (fun c => ?_)
        · have F := F.1 c
          refine ms_seq mB_179 mO_179 [(.iconst 0, 1), (.istore 6, 2), (.iconst 0, 1), (.istore 7, 2)] (pc' := 59) (L' := [.ref 48, .int p0, .long p1, .null, .int p2, .int p3, .int 0, .int 0]) (st' := []) ⟨dX12_share_53, dX12_share_54, dX12_share_56, dX12_share_57, trivial⟩ rfl ?_
          exact F
        · have F := F.2 c
          refine ms_seq mB_179 mO_179 [(.aload_n 0, 1)] (pc' := 41) (L' := [.ref 48, .int p0, .long p1, .null, .int p2, .int p3, .null, .null]) (st' := [.ref 48]) ⟨dX12_share_40, trivial⟩ rfl ?_
          refine ms_getI mB_179 mO_179 dX12_share_41 mF_12_184 (gk_48 N) (Or.inl rfl) ?_
          refine ms_seq mB_179 mO_179 [(.bipush 8, 2)] (pc' := 46) (L' := [.ref 48, .int p0, .long p1, .null, .int p2, .int p3, .null, .null]) (st' := [.int 8, .int (δ3.1 48 24)]) ⟨dX12_share_44, trivial⟩ rfl ?_
          refine ms_icmp_ge mB_179 dX12_share_46 (t := 53) rfl (fun c => ?_) (fun c => ?_)
          · have F := F.2 c
            refine ms_seq mB_179 mO_179 [(.iconst 0, 1), (.istore 6, 2), (.iconst 0, 1), (.istore 7, 2)] (pc' := 59) (L' := [.ref 48, .int p0, .long p1, .null, .int p2, .int p3, .int 0, .int 0]) (st' := []) ⟨dX12_share_53, dX12_share_54, dX12_share_56, dX12_share_57, trivial⟩ rfl ?_
            exact F
          · have F := F.1 c
            refine ms_seq mB_179 mO_179 [(.iconst 1, 1)] (pc' := 50) (L' := [.ref 48, .int p0, .long p1, .null, .int p2, .int p3, .null, .null]) (st' := [.int 1]) ⟨dX12_share_49, trivial⟩ rfl ?_
            refine ms_goto mB_179 dX12_share_50 (t := 54) rfl ?_
            refine ms_seq mB_179 mO_179 [(.istore 6, 2), (.iconst 0, 1), (.istore 7, 2)] (pc' := 59) (L' := [.ref 48, .int p0, .long p1, .null, .int p2, .int p3, .int 1, .int 0]) (st' := []) ⟨dX12_share_54, dX12_share_56, dX12_share_57, trivial⟩ rfl ?_
            exact F
    · have F := F.1 c
      refine ms_seq mB_179 mO_179 [(.bipush (-2), 2)] (pc' := 20) (L' := [.ref 48, .int p0, .long p1, .null, .int p2, .int p3, .null, .null]) (st' := [.int (-2)]) ⟨dX12_share_18, trivial⟩ rfl ?_
      exact ms_iret mB_179 dX12_share_20 mR_179 ⟨_, rfl, rfl, F⟩
  · have F := F.1 c
    refine ms_seq mB_179 mO_179 [(.bipush (-6), 2)] (pc' := 9) (L' := [.ref 48, .int p0, .long p1, .null, .int p2, .int p3, .null, .null]) (st' := [.int (-6)]) ⟨dX12_share_7, trivial⟩ rfl ?_
    exact ms_iret mB_179 dX12_share_9 mR_179 ⟨_, rfl, rfl, F⟩
set_option maxRecDepth 100000 in
theorem q12_share_59 {N d : Nat} (hd : 5 ≤ d) {l1 l4 l5 l6 l7 : Int32} {l2 : Int64} {δ : mi_D} {Q : Int32 → mi_D → Prop} (F : ((l7 < (δ.1 48 24) → ((l6 = 0 → mi_wI N d 179 59 [.ref 48, .int l1, .long l2, .null, .int l4, .int l5, .int 0, .int (l7 + 1)] [] δ Q) ∧ (¬ l6 = 0 → (mi_ix l7 8 = true ∧ (mi_wI N (d - 1) 148 0 [.long (δ.2.2 67 (Int32.toNatClampNeg l7)), .null, .long 1, .null, .long 1000, .null] [] δ (fun r3 δ2 => ((r3 = 0 → mi_wI N d 179 59 [.ref 48, .int l1, .long l2, .null, .int l4, .int l5, .int 0, .int (l7 + 1)] [] δ2 Q) ∧ (¬ r3 = 0 → mi_wI N d 179 59 [.ref 48, .int l1, .long l2, .null, .int l4, .int l5, .int 1, .int (l7 + 1)] [] δ2 Q)))))))) ∧ (¬ l7 < (δ.1 48 24) → ((l6 = 0 → Q (-3) δ) ∧ (¬ l6 = 0 → (mi_ix l1 60 = true ∧ (((δ.2.1 52 (Int32.toNatClampNeg l1)) = 0 → (((δ.1 48 24) = 0 → Q (-6) δ) ∧ (¬ (δ.1 48 24) = 0 → (∀ δ1 : mi_D, δ1 = mi_setI δ 48 41 (δ.1 48 24) → mi_wI N d 179 144 [.ref 48, .int l1, .long l2, .null, .int l4, .int l5, .int l6, .int 0] [] δ1 Q)))) ∧ (¬ (δ.2.1 52 (Int32.toNatClampNeg l1)) = 0 → Q (-4) δ)))))))) : mi_wI N d 179 59 [.ref 48, .int l1, .long l2, .null, .int l4, .int l5, .int l6, .int l7] [] δ Q := by
  unfold mi_wI
  refine ms_seq mB_179 mO_179 [(.iload 7, 2), (.aload_n 0, 1)] (pc' := 62) (L' := [.ref 48, .int l1, .long l2, .null, .int l4, .int l5, .int l6, .int l7]) (st' := [.ref 48, .int l7]) ⟨dX12_share_59, dX12_share_61, trivial⟩ rfl ?_
  refine ms_getI mB_179 mO_179 dX12_share_62 mF_12_184 (gk_48 N) (Or.inl rfl) ?_
  refine ms_icmp_ge mB_179 dX12_share_65 (t := 103) rfl (fun c => ?_) (fun c => ?_)
  · have F := F.2 c
    refine ms_seq mB_179 mO_179 [(.iload 6, 2)] (pc' := 105) (L' := [.ref 48, .int l1, .long l2, .null, .int l4, .int l5, .int l6, .int l7]) (st' := [.int l6]) ⟨dX12_share_103, trivial⟩ rfl ?_
    refine ms_if_ne mB_179 dX12_share_105 (t := 111) rfl (fun c => ?_) (fun c => ?_)
    · have F := F.2 c
      refine ms_seq mB_179 mO_179 [(.aload_n 0, 1)] (pc' := 112) (L' := [.ref 48, .int l1, .long l2, .null, .int l4, .int l5, .int l6, .int l7]) (st' := [.ref 48]) ⟨dX12_share_111, trivial⟩ rfl ?_
      refine ms_getA mB_179 mO_179 dX12_share_112 mF_12_23 (gk_48 N) rfl (b := 52) (gr_48_6 N) ?_
      refine ms_seq mB_179 mO_179 [(.iload_n 1, 1)] (pc' := 116) (L' := [.ref 48, .int l1, .long l2, .null, .int l4, .int l5, .int l6, .int l7]) (st' := [.int l1, .ref 52]) ⟨dX12_share_115, trivial⟩ rfl ?_
      have G := F.1
      have F := F.2
      refine ms_bald mB_179 dX12_share_116 (gk_52 N) (by rw [gl_52 N]; exact G) ?_
      refine ms_if_eq mB_179 dX12_share_117 (t := 123) rfl (fun c => ?_) (fun c => ?_)
      · have F := F.1 c
        refine ms_seq mB_179 mO_179 [(.aload_n 0, 1)] (pc' := 124) (L' := [.ref 48, .int l1, .long l2, .null, .int l4, .int l5, .int l6, .int l7]) (st' := [.ref 48]) ⟨dX12_share_123, trivial⟩ rfl ?_
        refine ms_getI mB_179 mO_179 dX12_share_124 mF_12_184 (gk_48 N) (Or.inl rfl) ?_
        refine ms_if_ne mB_179 dX12_share_127 (t := 133) rfl (fun c => ?_) (fun c => ?_)
        · have F := F.2 c
          refine ms_seq mB_179 mO_179 [(.aload_n 0, 1), (.aload_n 0, 1)] (pc' := 135) (L' := [.ref 48, .int l1, .long l2, .null, .int l4, .int l5, .int l6, .int l7]) (st' := [.ref 48, .ref 48]) ⟨dX12_share_133, dX12_share_134, trivial⟩ rfl ?_
          refine ms_getI mB_179 mO_179 dX12_share_135 mF_12_184 (gk_48 N) (Or.inl rfl) ?_
          refine ms_putI mB_179 mO_179 dX12_share_138 mF_12_234 (gk_48 N) rfl rfl ?_
          refine mr_st (fun δ1 e_δ1 => ?_)
          have F := F δ1 e_δ1
          refine ms_seq mB_179 mO_179 [(.iconst 0, 1), (.istore 7, 2)] (pc' := 144) (L' := [.ref 48, .int l1, .long l2, .null, .int l4, .int l5, .int l6, .int 0]) (st' := []) ⟨dX12_share_141, dX12_share_142, trivial⟩ rfl ?_
          exact F
        · have F := F.1 c
          refine ms_seq mB_179 mO_179 [(.bipush (-6), 2)] (pc' := 132) (L' := [.ref 48, .int l1, .long l2, .null, .int l4, .int l5, .int l6, .int l7]) (st' := [.int (-6)]) ⟨dX12_share_130, trivial⟩ rfl ?_
          exact ms_iret mB_179 dX12_share_132 mR_179 ⟨_, rfl, rfl, F⟩
      · have F := F.2 c
        refine ms_seq mB_179 mO_179 [(.bipush (-4), 2)] (pc' := 122) (L' := [.ref 48, .int l1, .long l2, .null, .int l4, .int l5, .int l6, .int l7]) (st' := [.int (-4)]) ⟨dX12_share_120, trivial⟩ rfl ?_
        exact ms_iret mB_179 dX12_share_122 mR_179 ⟨_, rfl, rfl, F⟩
    · have F := F.1 c
      refine ms_seq mB_179 mO_179 [(.bipush (-3), 2)] (pc' := 110) (L' := [.ref 48, .int l1, .long l2, .null, .int l4, .int l5, .int l6, .int l7]) (st' := [.int (-3)]) ⟨dX12_share_108, trivial⟩ rfl ?_
      exact ms_iret mB_179 dX12_share_110 mR_179 ⟨_, rfl, rfl, F⟩
  · have F := F.1 c
    refine ms_seq mB_179 mO_179 [(.iload 6, 2)] (pc' := 70) (L' := [.ref 48, .int l1, .long l2, .null, .int l4, .int l5, .int l6, .int l7]) (st' := [.int l6]) ⟨dX12_share_68, trivial⟩ rfl ?_
    refine ms_if_eq mB_179 dX12_share_70 (t := 94) rfl (fun c => ?_) (fun c => ?_)
    · have F := F.1 c
      refine ms_seq mB_179 mO_179 [(.iconst 0, 1), (.istore 6, 2), (.iinc 7 1, 3)] (pc' := 100) (L' := [.ref 48, .int l1, .long l2, .null, .int l4, .int l5, .int 0, .int (l7 + 1)]) (st' := []) ⟨dX12_share_94, dX12_share_95, dX12_share_97, trivial⟩ rfl ?_
      refine ms_goto mB_179 dX12_share_100 (t := 59) rfl ?_
      exact F
    · have F := F.2 c
      refine ms_seq mB_179 mO_179 [(.aload_n 0, 1)] (pc' := 74) (L' := [.ref 48, .int l1, .long l2, .null, .int l4, .int l5, .int l6, .int l7]) (st' := [.ref 48]) ⟨dX12_share_73, trivial⟩ rfl ?_
      refine ms_getA mB_179 mO_179 dX12_share_74 mF_12_74 (gk_48 N) rfl (b := 67) (gr_48_26 N) ?_
      refine ms_seq mB_179 mO_179 [(.iload 7, 2)] (pc' := 79) (L' := [.ref 48, .int l1, .long l2, .null, .int l4, .int l5, .int l6, .int l7]) (st' := [.int l7, .ref 67]) ⟨dX12_share_77, trivial⟩ rfl ?_
      have G := F.1
      have F := F.2
      refine ms_lald mB_179 dX12_share_79 (gk_67 N) (by rw [gl_67 N]; exact G) ?_
      refine ms_seq mB_179 mO_179 [(.lconst 1, 1), (.ldc2_w 239, 3)] (pc' := 84) (L' := [.ref 48, .int l1, .long l2, .null, .int l4, .int l5, .int l6, .int l7]) (st' := [.long 1000, .long 1, .long (δ.2.2 67 (Int32.toNatClampNeg l7))]) ⟨dX12_share_80, dX12_share_81, trivial⟩ rfl ?_
      refine ms_callsI mB_179 mO_179 (by omega) dX12_share_84 mQ_12_116 mC_12_116 mL_148 (by decide) rfl (Nat.le_of_ble_eq_true rfl) (Nat.le_of_ble_eq_true rfl) rfl F (fun r3 δ2 F => ?_)
      refine ms_if_eq mB_179 dX12_share_87 (t := 94) rfl (fun c => ?_) (fun c => ?_)
      · have F := F.1 c
        refine ms_seq mB_179 mO_179 [(.iconst 0, 1), (.istore 6, 2), (.iinc 7 1, 3)] (pc' := 100) (L' := [.ref 48, .int l1, .long l2, .null, .int l4, .int l5, .int 0, .int (l7 + 1)]) (st' := []) ⟨dX12_share_94, dX12_share_95, dX12_share_97, trivial⟩ rfl ?_
        refine ms_goto mB_179 dX12_share_100 (t := 59) rfl ?_
        exact F
      · have F := F.2 c
        refine ms_seq mB_179 mO_179 [(.iconst 1, 1)] (pc' := 91) (L' := [.ref 48, .int l1, .long l2, .null, .int l4, .int l5, .int l6, .int l7]) (st' := [.int 1]) ⟨dX12_share_90, trivial⟩ rfl ?_
        refine ms_goto mB_179 dX12_share_91 (t := 95) rfl ?_
        refine ms_seq mB_179 mO_179 [(.istore 6, 2), (.iinc 7 1, 3)] (pc' := 100) (L' := [.ref 48, .int l1, .long l2, .null, .int l4, .int l5, .int 1, .int (l7 + 1)]) (st' := []) ⟨dX12_share_95, dX12_share_97, trivial⟩ rfl ?_
        refine ms_goto mB_179 dX12_share_100 (t := 59) rfl ?_
        exact F
set_option maxRecDepth 100000 in
theorem q12_share_144 {N d : Nat} (hd : 5 ≤ d) {l1 l4 l5 l6 l7 : Int32} {l2 : Int64} {δ : mi_D} {Q : Int32 → mi_D → Prop} (F : ((l7 < (δ.1 48 24) → (mi_ix l7 8 = true ∧ (mi_ix l7 8 = true ∧ (∀ δ4 : mi_D, δ4 = mi_setL δ 76 (Int32.toNatClampNeg l7) (δ.2.2 67 (Int32.toNatClampNeg l7)) → mi_wI N d 179 144 [.ref 48, .int l1, .long l2, .null, .int l4, .int l5, .int l6, .int (l7 + 1)] [] δ4 Q)))) ∧ (¬ l7 < (δ.1 48 24) → (mi_wV N (d - 1) 178 0 [.ref 48, .long l2, .null, .null, .null, .null, .null, .null, .null, .null] [] δ (fun δ1 => (∀ δ2 : mi_D, δ2 = mi_setI δ1 48 27 0 → (mi_wV N (d - 1) 164 0 [.ref 48, .int l1, .long (-l2), .null] [] δ2 (fun δ3 => mi_wI N d 179 193 [.ref 48, .int l1, .long l2, .null, .int l4, .int l5, .int l6, .int 0] [] δ3 Q)))))))) : mi_wI N d 179 144 [.ref 48, .int l1, .long l2, .null, .int l4, .int l5, .int l6, .int l7] [] δ Q := by
  unfold mi_wI
  refine ms_seq mB_179 mO_179 [(.iload 7, 2), (.aload_n 0, 1)] (pc' := 147) (L' := [.ref 48, .int l1, .long l2, .null, .int l4, .int l5, .int l6, .int l7]) (st' := [.ref 48, .int l7]) ⟨dX12_share_144, dX12_share_146, trivial⟩ rfl ?_
  refine ms_getI mB_179 mO_179 dX12_share_147 mF_12_184 (gk_48 N) (Or.inl rfl) ?_
  refine ms_icmp_ge mB_179 dX12_share_150 (t := 173) rfl (fun c => ?_) (fun c => ?_)
  · have F := F.2 c
    refine ms_seq mB_179 mO_179 [(.aload_n 0, 1), (.lload_n 2, 1)] (pc' := 175) (L' := [.ref 48, .int l1, .long l2, .null, .int l4, .int l5, .int l6, .int l7]) (st' := [.long l2, .ref 48]) ⟨dX12_share_173, dX12_share_174, trivial⟩ rfl ?_
    refine ms_callvV mB_179 mO_179 (by omega) dX12_share_175 mQ_12_241 mC_12_241 mL_178 mO_178 rfl (Nat.le_of_ble_eq_true rfl) (Nat.le_of_ble_eq_true rfl) (gk_48 N) rfl F (fun δ1 F => ?_)
    refine ms_seq mB_179 mO_179 [(.aload_n 0, 1), (.iconst 0, 1)] (pc' := 180) (L' := [.ref 48, .int l1, .long l2, .null, .int l4, .int l5, .int l6, .int l7]) (st' := [.int 0, .ref 48]) ⟨dX12_share_178, dX12_share_179, trivial⟩ rfl ?_
    refine ms_putI mB_179 mO_179 dX12_share_180 mF_12_187 (gk_48 N) rfl rfl ?_
    refine mr_st (fun δ2 e_δ2 => ?_)
    have F := F δ2 e_δ2
    refine ms_seq mB_179 mO_179 [(.aload_n 0, 1), (.iload_n 1, 1), (.lload_n 2, 1), (.lneg, 1)] (pc' := 187) (L' := [.ref 48, .int l1, .long l2, .null, .int l4, .int l5, .int l6, .int l7]) (st' := [.long (-l2), .int l1, .ref 48]) ⟨dX12_share_183, dX12_share_184, dX12_share_185, dX12_share_186, trivial⟩ rfl ?_
    refine ms_callvV mB_179 mO_179 (by omega) dX12_share_187 mQ_12_217 mC_12_217 mL_164 mO_164 rfl (Nat.le_of_ble_eq_true rfl) (Nat.le_of_ble_eq_true rfl) (gk_48 N) rfl F (fun δ3 F => ?_)
    refine ms_seq mB_179 mO_179 [(.iconst 0, 1), (.istore 7, 2)] (pc' := 193) (L' := [.ref 48, .int l1, .long l2, .null, .int l4, .int l5, .int l6, .int 0]) (st' := []) ⟨dX12_share_190, dX12_share_191, trivial⟩ rfl ?_
    exact F
  · have F := F.1 c
    refine ms_seq mB_179 mO_179 [(.aload_n 0, 1)] (pc' := 154) (L' := [.ref 48, .int l1, .long l2, .null, .int l4, .int l5, .int l6, .int l7]) (st' := [.ref 48]) ⟨dX12_share_153, trivial⟩ rfl ?_
    refine ms_getA mB_179 mO_179 dX12_share_154 mF_12_101 (gk_48 N) rfl (b := 76) (gr_48_42 N) ?_
    refine ms_seq mB_179 mO_179 [(.iload 7, 2), (.aload_n 0, 1)] (pc' := 160) (L' := [.ref 48, .int l1, .long l2, .null, .int l4, .int l5, .int l6, .int l7]) (st' := [.ref 48, .int l7, .ref 76]) ⟨dX12_share_157, dX12_share_159, trivial⟩ rfl ?_
    refine ms_getA mB_179 mO_179 dX12_share_160 mF_12_74 (gk_48 N) rfl (b := 67) (gr_48_26 N) ?_
    refine ms_seq mB_179 mO_179 [(.iload 7, 2)] (pc' := 165) (L' := [.ref 48, .int l1, .long l2, .null, .int l4, .int l5, .int l6, .int l7]) (st' := [.int l7, .ref 67, .int l7, .ref 76]) ⟨dX12_share_163, trivial⟩ rfl ?_
    have G := F.1
    have F := F.2
    refine ms_lald mB_179 dX12_share_165 (gk_67 N) (by rw [gl_67 N]; exact G) ?_
    have G := F.1
    have F := F.2
    refine ms_last mB_179 dX12_share_166 (gk_76 N) (by rw [gl_76 N]; exact G) ?_
    refine mr_st (fun δ4 e_δ4 => ?_)
    have F := F δ4 e_δ4
    refine ms_seq mB_179 mO_179 [(.iinc 7 1, 3)] (pc' := 170) (L' := [.ref 48, .int l1, .long l2, .null, .int l4, .int l5, .int l6, .int (l7 + 1)]) (st' := []) ⟨dX12_share_167, trivial⟩ rfl ?_
    refine ms_goto mB_179 dX12_share_170 (t := 144) rfl ?_
    exact F
set_option maxRecDepth 100000 in
theorem q12_share_193 {N d : Nat} (hd : 5 ≤ d) {l1 l4 l5 l6 l7 : Int32} {l2 : Int64} {δ : mi_D} {Q : Int32 → mi_D → Prop} (F : ((l7 < (δ.1 48 24) → (mi_ix l7 8 = true ∧ (((lg_cmp (δ.2.2 77 (Int32.toNatClampNeg l7)) 0) = 0 → mi_wI N d 179 193 [.ref 48, .int l1, .long l2, .null, .int l4, .int l5, .int l6, .int (l7 + 1)] [] δ Q) ∧ (¬ (lg_cmp (δ.2.2 77 (Int32.toNatClampNeg l7)) 0) = 0 → (mi_ix l7 8 = true ∧ (mi_ix l7 8 = true ∧ (mi_wV N (d - 1) 164 0 [.ref 48, .int (δ.2.1 66 (Int32.toNatClampNeg l7)), .long (δ.2.2 77 (Int32.toNatClampNeg l7)), .null] [] δ (fun δ3 => mi_wI N d 179 193 [.ref 48, .int l1, .long l2, .null, .int l4, .int l5, .int l6, .int (l7 + 1)] [] δ3 Q)))))))) ∧ (¬ l7 < (δ.1 48 24) → (mi_wI N (d - 1) 170 0 [.ref 48, .int l4, .int l5, .null, .null] [] δ (fun r2 δ1 => ((r2 < 0 → mi_wI N d 179 262 [.ref 48, .int l1, .long l2, .null, .int l4, .int l5, .int l6, .int r2] [.int (δ1.1 48 24), .ref 48] δ1 Q) ∧ (¬ r2 < 0 → mi_wI N d 179 262 [.ref 48, .int l1, .long l2, .null, .int l4, .int l5, .int l6, .int r2] [.int 0, .ref 48] δ1 Q))))))) : mi_wI N d 179 193 [.ref 48, .int l1, .long l2, .null, .int l4, .int l5, .int l6, .int l7] [] δ Q := by
  unfold mi_wI
  refine ms_seq mB_179 mO_179 [(.iload 7, 2), (.aload_n 0, 1)] (pc' := 196) (L' := [.ref 48, .int l1, .long l2, .null, .int l4, .int l5, .int l6, .int l7]) (st' := [.ref 48, .int l7]) ⟨dX12_share_193, dX12_share_195, trivial⟩ rfl ?_
  refine ms_getI mB_179 mO_179 dX12_share_196 mF_12_184 (gk_48 N) (Or.inl rfl) ?_
  refine ms_icmp_ge mB_179 dX12_share_199 (t := 238) rfl (fun c => ?_) (fun c => ?_)
  · have F := F.2 c
    refine ms_seq mB_179 mO_179 [(.aload_n 0, 1), (.iload 4, 2), (.iload 5, 2)] (pc' := 243) (L' := [.ref 48, .int l1, .long l2, .null, .int l4, .int l5, .int l6, .int l7]) (st' := [.int l5, .int l4, .ref 48]) ⟨dX12_share_238, dX12_share_239, dX12_share_241, trivial⟩ rfl ?_
    refine ms_callvI mB_179 mO_179 (by omega) dX12_share_243 mQ_12_221 mC_12_221 mL_170 mO_170 rfl (Nat.le_of_ble_eq_true rfl) (Nat.le_of_ble_eq_true rfl) (gk_48 N) rfl F (fun r2 δ1 F => ?_)
    refine ms_seq mB_179 mO_179 [(.istore 7, 2), (.aload_n 0, 1), (.iload 7, 2)] (pc' := 251) (L' := [.ref 48, .int l1, .long l2, .null, .int l4, .int l5, .int l6, .int r2]) (st' := [.int r2, .ref 48]) ⟨dX12_share_246, dX12_share_248, dX12_share_249, trivial⟩ rfl ?_
    refine ms_if_ge mB_179 dX12_share_251 (t := 261) rfl (fun c => ?_) (fun c => ?_)
    · have F := F.2 c
      refine ms_seq mB_179 mO_179 [(.iconst 0, 1)] (pc' := 262) (L' := [.ref 48, .int l1, .long l2, .null, .int l4, .int l5, .int l6, .int r2]) (st' := [.int 0, .ref 48]) ⟨dX12_share_261, trivial⟩ rfl ?_
      exact F
    · have F := F.1 c
      refine ms_seq mB_179 mO_179 [(.aload_n 0, 1)] (pc' := 255) (L' := [.ref 48, .int l1, .long l2, .null, .int l4, .int l5, .int l6, .int r2]) (st' := [.ref 48, .ref 48]) ⟨dX12_share_254, trivial⟩ rfl ?_
      refine ms_getI mB_179 mO_179 dX12_share_255 mF_12_184 (gk_48 N) (Or.inl rfl) ?_
      refine ms_goto mB_179 dX12_share_258 (t := 262) rfl ?_
      exact F
  · have F := F.1 c
    refine ms_seq mB_179 mO_179 [(.aload_n 0, 1)] (pc' := 203) (L' := [.ref 48, .int l1, .long l2, .null, .int l4, .int l5, .int l6, .int l7]) (st' := [.ref 48]) ⟨dX12_share_202, trivial⟩ rfl ?_
    refine ms_getA mB_179 mO_179 dX12_share_203 mF_12_104 (gk_48 N) rfl (b := 77) (gr_48_43 N) ?_
    refine ms_seq mB_179 mO_179 [(.iload 7, 2)] (pc' := 208) (L' := [.ref 48, .int l1, .long l2, .null, .int l4, .int l5, .int l6, .int l7]) (st' := [.int l7, .ref 77]) ⟨dX12_share_206, trivial⟩ rfl ?_
    have G := F.1
    have F := F.2
    refine ms_lald mB_179 dX12_share_208 (gk_77 N) (by rw [gl_77 N]; exact G) ?_
    refine ms_seq mB_179 mO_179 [(.lconst 0, 1), (.lcmp, 1)] (pc' := 211) (L' := [.ref 48, .int l1, .long l2, .null, .int l4, .int l5, .int l6, .int l7]) (st' := [.int (lg_cmp (δ.2.2 77 (Int32.toNatClampNeg l7)) 0)]) ⟨dX12_share_209, dX12_share_210, trivial⟩ rfl ?_
    refine ms_if_eq mB_179 dX12_share_211 (t := 232) rfl (fun c => ?_) (fun c => ?_)
    · have F := F.1 c
      refine ms_seq mB_179 mO_179 [(.iinc 7 1, 3)] (pc' := 235) (L' := [.ref 48, .int l1, .long l2, .null, .int l4, .int l5, .int l6, .int (l7 + 1)]) (st' := []) ⟨dX12_share_232, trivial⟩ rfl ?_
      refine ms_goto mB_179 dX12_share_235 (t := 193) rfl ?_
      exact F
    · have F := F.2 c
      refine ms_seq mB_179 mO_179 [(.aload_n 0, 1), (.aload_n 0, 1)] (pc' := 216) (L' := [.ref 48, .int l1, .long l2, .null, .int l4, .int l5, .int l6, .int l7]) (st' := [.ref 48, .ref 48]) ⟨dX12_share_214, dX12_share_215, trivial⟩ rfl ?_
      refine ms_getA mB_179 mO_179 dX12_share_216 mF_12_71 (gk_48 N) rfl (b := 66) (gr_48_25 N) ?_
      refine ms_seq mB_179 mO_179 [(.iload 7, 2)] (pc' := 221) (L' := [.ref 48, .int l1, .long l2, .null, .int l4, .int l5, .int l6, .int l7]) (st' := [.int l7, .ref 66, .ref 48]) ⟨dX12_share_219, trivial⟩ rfl ?_
      have G := F.1
      have F := F.2
      refine ms_iald mB_179 dX12_share_221 (Or.inl (gk_66 N)) (by rw [gl_66 N]; exact G) ?_
      refine ms_seq mB_179 mO_179 [(.aload_n 0, 1)] (pc' := 223) (L' := [.ref 48, .int l1, .long l2, .null, .int l4, .int l5, .int l6, .int l7]) (st' := [.ref 48, .int (δ.2.1 66 (Int32.toNatClampNeg l7)), .ref 48]) ⟨dX12_share_222, trivial⟩ rfl ?_
      refine ms_getA mB_179 mO_179 dX12_share_223 mF_12_104 (gk_48 N) rfl (b := 77) (gr_48_43 N) ?_
      refine ms_seq mB_179 mO_179 [(.iload 7, 2)] (pc' := 228) (L' := [.ref 48, .int l1, .long l2, .null, .int l4, .int l5, .int l6, .int l7]) (st' := [.int l7, .ref 77, .int (δ.2.1 66 (Int32.toNatClampNeg l7)), .ref 48]) ⟨dX12_share_226, trivial⟩ rfl ?_
      have G := F.1
      have F := F.2
      refine ms_lald mB_179 dX12_share_228 (gk_77 N) (by rw [gl_77 N]; exact G) ?_
      refine ms_callvV mB_179 mO_179 (by omega) dX12_share_229 mQ_12_217 mC_12_217 mL_164 mO_164 rfl (Nat.le_of_ble_eq_true rfl) (Nat.le_of_ble_eq_true rfl) (gk_48 N) rfl F (fun δ3 F => ?_)
      refine ms_seq mB_179 mO_179 [(.iinc 7 1, 3)] (pc' := 235) (L' := [.ref 48, .int l1, .long l2, .null, .int l4, .int l5, .int l6, .int (l7 + 1)]) (st' := []) ⟨dX12_share_232, trivial⟩ rfl ?_
      refine ms_goto mB_179 dX12_share_235 (t := 193) rfl ?_
      exact F
set_option maxRecDepth 100000 in
theorem q12_share_262 {N d : Nat} (hd : 5 ≤ d) {l1 l4 l5 l6 l7 s1 : Int32} {l2 : Int64} {δ : mi_D} {Q : Int32 → mi_D → Prop} (F : (∀ δ1 : mi_D, δ1 = mi_setI δ 48 24 s1 → Q l7 δ1)) : mi_wI N d 179 262 [.ref 48, .int l1, .long l2, .null, .int l4, .int l5, .int l6, .int l7] [.int s1, .ref 48] δ Q := by
  unfold mi_wI
  refine ms_putI mB_179 mO_179 dX12_share_262 mF_12_184 (gk_48 N) rfl rfl ?_
  refine mr_st (fun δ1 e_δ1 => ?_)
  have F := F δ1 e_δ1
  refine ms_seq mB_179 mO_179 [(.iload 7, 2)] (pc' := 267) (L' := [.ref 48, .int l1, .long l2, .null, .int l4, .int l5, .int l6, .int l7]) (st' := [.int l7]) ⟨dX12_share_265, trivial⟩ rfl ?_
  exact ms_iret mB_179 dX12_share_267 mR_179 ⟨_, rfl, rfl, F⟩
set_option maxRecDepth 100000 in
theorem q12_part_0 {N d : Nat} (hd : 5 ≤ d) {p1 p2 p3 p4 p5 : Int32} {p0 : Int64} {δ : mi_D} {Q : Int64 → mi_D → Prop} (F : (mi_wI N (d - 1) 148 0 [.long (Int32.toInt64 p5), .null, .long 0, .null, .long 3, .null] [] δ (fun r2 δ1 => ((r2 = 0 → Q (-9223372036854775808) δ1) ∧ (¬ r2 = 0 → (mi_wI N (d - 1) 148 0 [.long p0, .null, .long (-1000000000000000), .null, .long 1000000000000000, .null] [] δ1 (fun r4 δ3 => ((r4 = 0 → Q (-9223372036854775808) δ3) ∧ (¬ r4 = 0 → (mi_wI N (d - 1) 148 0 [.long (Int32.toInt64 p1), .null, .long 0, .null, .long 1000, .null] [] δ3 (fun r6 δ5 => ((r6 = 0 → Q (-9223372036854775808) δ5) ∧ (¬ r6 = 0 → (mi_wI N (d - 1) 148 0 [.long (Int32.toInt64 p2), .null, .long 0, .null, .long 1000, .null] [] δ5 (fun r8 δ7 => ((r8 = 0 → Q (-9223372036854775808) δ7) ∧ (¬ r8 = 0 → (mi_wI N (d - 1) 148 0 [.long (Int32.toInt64 p3), .null, .long 0, .null, .long 1000, .null] [] δ7 (fun r10 δ9 => ((r10 = 0 → Q (-9223372036854775808) δ9) ∧ (¬ r10 = 0 → (mi_wI N (d - 1) 148 0 [.long (Int32.toInt64 p4), .null, .long 0, .null, .long 1000, .null] [] δ9 (fun r12 δ11 => ((r12 = 0 → Q (-9223372036854775808) δ11) ∧ (¬ r12 = 0 → (((((p1 + p2) + p3) + p4) = 0 → Q (-9223372036854775808) δ11) ∧ (¬ (((p1 + p2) + p3) + p4) = 0 → (∀ δ13 : mi_D, δ13 = mi_setI δ11 48 41 4 → (mi_ix 0 8 = true ∧ (∀ δ14 : mi_D, δ14 = mi_setL δ13 76 (Int32.toNatClampNeg 0) (Int32.toInt64 p1) → (mi_ix 1 8 = true ∧ (∀ δ15 : mi_D, δ15 = mi_setL δ14 76 (Int32.toNatClampNeg 1) (Int32.toInt64 p2) → (mi_ix 2 8 = true ∧ (∀ δ16 : mi_D, δ16 = mi_setL δ15 76 (Int32.toNatClampNeg 2) (Int32.toInt64 p3) → (mi_ix 3 8 = true ∧ (∀ δ17 : mi_D, δ17 = mi_setL δ16 76 (Int32.toNatClampNeg 3) (Int32.toInt64 p4) → (mi_wV N (d - 1) 178 0 [.ref 48, .long p0, .null, .null, .null, .null, .null, .null, .null, .null] [] δ17 (fun δ18 => (mi_ix p5 8 = true ∧ Q (δ18.2.2 77 (Int32.toNatClampNeg p5)) δ18))))))))))))))))))))))))))))))))))))))) : mi_wL N d 180 0 [.ref 48, .long p0, .null, .int p1, .int p2, .int p3, .int p4, .int p5] [] δ Q := by
  unfold mi_wL
  refine ms_seq mB_180 mO_180 [(.iload 7, 2), (.i2l, 1), (.lconst 0, 1), (.ldc2_w 244, 3)] (pc' := 7) (L' := [.ref 48, .long p0, .null, .int p1, .int p2, .int p3, .int p4, .int p5]) (st' := [.long 3, .long 0, .long (Int32.toInt64 p5)]) ⟨dX12_part_0, dX12_part_2, dX12_part_3, dX12_part_4, trivial⟩ rfl ?_
  refine ms_callsI mB_180 mO_180 (by omega) dX12_part_7 mQ_12_116 mC_12_116 mL_148 (by decide) rfl (Nat.le_of_ble_eq_true rfl) (Nat.le_of_ble_eq_true rfl) rfl F (fun r2 δ1 F => ?_)
  refine ms_if_eq mB_180 dX12_part_10 (t := 90) rfl (fun c => ?_) (fun c => ?_)
  · have F := F.1 c
    refine ms_seq mB_180 mO_180 [(.ldc2_w 246, 3)] (pc' := 93) (L' := [.ref 48, .long p0, .null, .int p1, .int p2, .int p3, .int p4, .int p5]) (st' := [.long (-9223372036854775808)]) ⟨dX12_part_90, trivial⟩ rfl ?_
    exact ms_lret mB_180 dX12_part_93 mR_180 ⟨_, rfl, rfl, F⟩
  · have F := F.2 c
    refine ms_seq mB_180 mO_180 [(.lload_n 1, 1), (.ldc2_w 180, 3), (.ldc2_w 182, 3)] (pc' := 20) (L' := [.ref 48, .long p0, .null, .int p1, .int p2, .int p3, .int p4, .int p5]) (st' := [.long 1000000000000000, .long (-1000000000000000), .long p0]) ⟨dX12_part_13, dX12_part_14, dX12_part_17, trivial⟩ rfl ?_
    refine ms_callsI mB_180 mO_180 (by omega) dX12_part_20 mQ_12_116 mC_12_116 mL_148 (by decide) rfl (Nat.le_of_ble_eq_true rfl) (Nat.le_of_ble_eq_true rfl) rfl F (fun r4 δ3 F => ?_)
    refine ms_if_eq mB_180 dX12_part_23 (t := 90) rfl (fun c => ?_) (fun c => ?_)
    · have F := F.1 c
      refine ms_seq mB_180 mO_180 [(.ldc2_w 246, 3)] (pc' := 93) (L' := [.ref 48, .long p0, .null, .int p1, .int p2, .int p3, .int p4, .int p5]) (st' := [.long (-9223372036854775808)]) ⟨dX12_part_90, trivial⟩ rfl ?_
      exact ms_lret mB_180 dX12_part_93 mR_180 ⟨_, rfl, rfl, F⟩
    · have F := F.2 c
      refine ms_seq mB_180 mO_180 [(.iload_n 3, 1), (.i2l, 1), (.lconst 0, 1), (.ldc2_w 239, 3)] (pc' := 32) (L' := [.ref 48, .long p0, .null, .int p1, .int p2, .int p3, .int p4, .int p5]) (st' := [.long 1000, .long 0, .long (Int32.toInt64 p1)]) ⟨dX12_part_26, dX12_part_27, dX12_part_28, dX12_part_29, trivial⟩ rfl ?_
      refine ms_callsI mB_180 mO_180 (by omega) dX12_part_32 mQ_12_116 mC_12_116 mL_148 (by decide) rfl (Nat.le_of_ble_eq_true rfl) (Nat.le_of_ble_eq_true rfl) rfl F (fun r6 δ5 F => ?_)
      refine ms_if_eq mB_180 dX12_part_35 (t := 90) rfl (fun c => ?_) (fun c => ?_)
      · have F := F.1 c
        refine ms_seq mB_180 mO_180 [(.ldc2_w 246, 3)] (pc' := 93) (L' := [.ref 48, .long p0, .null, .int p1, .int p2, .int p3, .int p4, .int p5]) (st' := [.long (-9223372036854775808)]) ⟨dX12_part_90, trivial⟩ rfl ?_
        exact ms_lret mB_180 dX12_part_93 mR_180 ⟨_, rfl, rfl, F⟩
      · have F := F.2 c
        refine ms_seq mB_180 mO_180 [(.iload 4, 2), (.i2l, 1), (.lconst 0, 1), (.ldc2_w 239, 3)] (pc' := 45) (L' := [.ref 48, .long p0, .null, .int p1, .int p2, .int p3, .int p4, .int p5]) (st' := [.long 1000, .long 0, .long (Int32.toInt64 p2)]) ⟨dX12_part_38, dX12_part_40, dX12_part_41, dX12_part_42, trivial⟩ rfl ?_
        refine ms_callsI mB_180 mO_180 (by omega) dX12_part_45 mQ_12_116 mC_12_116 mL_148 (by decide) rfl (Nat.le_of_ble_eq_true rfl) (Nat.le_of_ble_eq_true rfl) rfl F (fun r8 δ7 F => ?_)
        refine ms_if_eq mB_180 dX12_part_48 (t := 90) rfl (fun c => ?_) (fun c => ?_)
        · have F := F.1 c
          refine ms_seq mB_180 mO_180 [(.ldc2_w 246, 3)] (pc' := 93) (L' := [.ref 48, .long p0, .null, .int p1, .int p2, .int p3, .int p4, .int p5]) (st' := [.long (-9223372036854775808)]) ⟨dX12_part_90, trivial⟩ rfl ?_
          exact ms_lret mB_180 dX12_part_93 mR_180 ⟨_, rfl, rfl, F⟩
        · have F := F.2 c
          refine ms_seq mB_180 mO_180 [(.iload 5, 2), (.i2l, 1), (.lconst 0, 1), (.ldc2_w 239, 3)] (pc' := 58) (L' := [.ref 48, .long p0, .null, .int p1, .int p2, .int p3, .int p4, .int p5]) (st' := [.long 1000, .long 0, .long (Int32.toInt64 p3)]) ⟨dX12_part_51, dX12_part_53, dX12_part_54, dX12_part_55, trivial⟩ rfl ?_
          refine ms_callsI mB_180 mO_180 (by omega) dX12_part_58 mQ_12_116 mC_12_116 mL_148 (by decide) rfl (Nat.le_of_ble_eq_true rfl) (Nat.le_of_ble_eq_true rfl) rfl F (fun r10 δ9 F => ?_)
          refine ms_if_eq mB_180 dX12_part_61 (t := 90) rfl (fun c => ?_) (fun c => ?_)
          · have F := F.1 c
            refine ms_seq mB_180 mO_180 [(.ldc2_w 246, 3)] (pc' := 93) (L' := [.ref 48, .long p0, .null, .int p1, .int p2, .int p3, .int p4, .int p5]) (st' := [.long (-9223372036854775808)]) ⟨dX12_part_90, trivial⟩ rfl ?_
            exact ms_lret mB_180 dX12_part_93 mR_180 ⟨_, rfl, rfl, F⟩
          · have F := F.2 c
            refine ms_seq mB_180 mO_180 [(.iload 6, 2), (.i2l, 1), (.lconst 0, 1), (.ldc2_w 239, 3)] (pc' := 71) (L' := [.ref 48, .long p0, .null, .int p1, .int p2, .int p3, .int p4, .int p5]) (st' := [.long 1000, .long 0, .long (Int32.toInt64 p4)]) ⟨dX12_part_64, dX12_part_66, dX12_part_67, dX12_part_68, trivial⟩ rfl ?_
            refine ms_callsI mB_180 mO_180 (by omega) dX12_part_71 mQ_12_116 mC_12_116 mL_148 (by decide) rfl (Nat.le_of_ble_eq_true rfl) (Nat.le_of_ble_eq_true rfl) rfl F (fun r12 δ11 F => ?_)
            refine ms_if_eq mB_180 dX12_part_74 (t := 90) rfl (fun c => ?_) (fun c => ?_)
            · have F := F.1 c
              refine ms_seq mB_180 mO_180 [(.ldc2_w 246, 3)] (pc' := 93) (L' := [.ref 48, .long p0, .null, .int p1, .int p2, .int p3, .int p4, .int p5]) (st' := [.long (-9223372036854775808)]) ⟨dX12_part_90, trivial⟩ rfl ?_
              exact ms_lret mB_180 dX12_part_93 mR_180 ⟨_, rfl, rfl, F⟩
            · have F := F.2 c
              refine ms_seq mB_180 mO_180 [(.iload_n 3, 1), (.iload 4, 2), (.iadd, 1), (.iload 5, 2), (.iadd, 1), (.iload 6, 2), (.iadd, 1)] (pc' := 87) (L' := [.ref 48, .long p0, .null, .int p1, .int p2, .int p3, .int p4, .int p5]) (st' := [.int (((p1 + p2) + p3) + p4)]) ⟨dX12_part_77, dX12_part_78, dX12_part_80, dX12_part_81, dX12_part_83, dX12_part_84, dX12_part_86, trivial⟩ rfl ?_
              refine ms_if_ne mB_180 dX12_part_87 (t := 94) rfl (fun c => ?_) (fun c => ?_)
              · have F := F.2 c
                refine ms_seq mB_180 mO_180 [(.aload_n 0, 1), (.iconst 4, 1)] (pc' := 96) (L' := [.ref 48, .long p0, .null, .int p1, .int p2, .int p3, .int p4, .int p5]) (st' := [.int 4, .ref 48]) ⟨dX12_part_94, dX12_part_95, trivial⟩ rfl ?_
                refine ms_putI mB_180 mO_180 dX12_part_96 mF_12_234 (gk_48 N) rfl rfl ?_
                refine mr_st (fun δ13 e_δ13 => ?_)
                have F := F δ13 e_δ13
                refine ms_seq mB_180 mO_180 [(.aload_n 0, 1)] (pc' := 100) (L' := [.ref 48, .long p0, .null, .int p1, .int p2, .int p3, .int p4, .int p5]) (st' := [.ref 48]) ⟨dX12_part_99, trivial⟩ rfl ?_
                refine ms_getA mB_180 mO_180 dX12_part_100 mF_12_101 (gk_48 N) rfl (b := 76) (gr_48_42 N) ?_
                refine ms_seq mB_180 mO_180 [(.iconst 0, 1), (.iload_n 3, 1), (.i2l, 1)] (pc' := 106) (L' := [.ref 48, .long p0, .null, .int p1, .int p2, .int p3, .int p4, .int p5]) (st' := [.long (Int32.toInt64 p1), .int 0, .ref 76]) ⟨dX12_part_103, dX12_part_104, dX12_part_105, trivial⟩ rfl ?_
                have G := F.1
                have F := F.2
                refine ms_last mB_180 dX12_part_106 (gk_76 N) (by rw [gl_76 N]; exact G) ?_
                refine mr_st (fun δ14 e_δ14 => ?_)
                have F := F δ14 e_δ14
                refine ms_seq mB_180 mO_180 [(.aload_n 0, 1)] (pc' := 108) (L' := [.ref 48, .long p0, .null, .int p1, .int p2, .int p3, .int p4, .int p5]) (st' := [.ref 48]) ⟨dX12_part_107, trivial⟩ rfl ?_
                refine ms_getA mB_180 mO_180 dX12_part_108 mF_12_101 (gk_48 N) rfl (b := 76) (gr_48_42 N) ?_
                refine ms_seq mB_180 mO_180 [(.iconst 1, 1), (.iload 4, 2), (.i2l, 1)] (pc' := 115) (L' := [.ref 48, .long p0, .null, .int p1, .int p2, .int p3, .int p4, .int p5]) (st' := [.long (Int32.toInt64 p2), .int 1, .ref 76]) ⟨dX12_part_111, dX12_part_112, dX12_part_114, trivial⟩ rfl ?_
                have G := F.1
                have F := F.2
                refine ms_last mB_180 dX12_part_115 (gk_76 N) (by rw [gl_76 N]; exact G) ?_
                refine mr_st (fun δ15 e_δ15 => ?_)
                have F := F δ15 e_δ15
                refine ms_seq mB_180 mO_180 [(.aload_n 0, 1)] (pc' := 117) (L' := [.ref 48, .long p0, .null, .int p1, .int p2, .int p3, .int p4, .int p5]) (st' := [.ref 48]) ⟨dX12_part_116, trivial⟩ rfl ?_
                refine ms_getA mB_180 mO_180 dX12_part_117 mF_12_101 (gk_48 N) rfl (b := 76) (gr_48_42 N) ?_
                refine ms_seq mB_180 mO_180 [(.iconst 2, 1), (.iload 5, 2), (.i2l, 1)] (pc' := 124) (L' := [.ref 48, .long p0, .null, .int p1, .int p2, .int p3, .int p4, .int p5]) (st' := [.long (Int32.toInt64 p3), .int 2, .ref 76]) ⟨dX12_part_120, dX12_part_121, dX12_part_123, trivial⟩ rfl ?_
                have G := F.1
                have F := F.2
                refine ms_last mB_180 dX12_part_124 (gk_76 N) (by rw [gl_76 N]; exact G) ?_
                refine mr_st (fun δ16 e_δ16 => ?_)
                have F := F δ16 e_δ16
                refine ms_seq mB_180 mO_180 [(.aload_n 0, 1)] (pc' := 126) (L' := [.ref 48, .long p0, .null, .int p1, .int p2, .int p3, .int p4, .int p5]) (st' := [.ref 48]) ⟨dX12_part_125, trivial⟩ rfl ?_
                refine ms_getA mB_180 mO_180 dX12_part_126 mF_12_101 (gk_48 N) rfl (b := 76) (gr_48_42 N) ?_
                refine ms_seq mB_180 mO_180 [(.iconst 3, 1), (.iload 6, 2), (.i2l, 1)] (pc' := 133) (L' := [.ref 48, .long p0, .null, .int p1, .int p2, .int p3, .int p4, .int p5]) (st' := [.long (Int32.toInt64 p4), .int 3, .ref 76]) ⟨dX12_part_129, dX12_part_130, dX12_part_132, trivial⟩ rfl ?_
                have G := F.1
                have F := F.2
                refine ms_last mB_180 dX12_part_133 (gk_76 N) (by rw [gl_76 N]; exact G) ?_
                refine mr_st (fun δ17 e_δ17 => ?_)
                have F := F δ17 e_δ17
                refine ms_seq mB_180 mO_180 [(.aload_n 0, 1), (.lload_n 1, 1)] (pc' := 136) (L' := [.ref 48, .long p0, .null, .int p1, .int p2, .int p3, .int p4, .int p5]) (st' := [.long p0, .ref 48]) ⟨dX12_part_134, dX12_part_135, trivial⟩ rfl ?_
                refine ms_callvV mB_180 mO_180 (by omega) dX12_part_136 mQ_12_241 mC_12_241 mL_178 mO_178 rfl (Nat.le_of_ble_eq_true rfl) (Nat.le_of_ble_eq_true rfl) (gk_48 N) rfl F (fun δ18 F => ?_)
                refine ms_seq mB_180 mO_180 [(.aload_n 0, 1)] (pc' := 140) (L' := [.ref 48, .long p0, .null, .int p1, .int p2, .int p3, .int p4, .int p5]) (st' := [.ref 48]) ⟨dX12_part_139, trivial⟩ rfl ?_
                refine ms_getA mB_180 mO_180 dX12_part_140 mF_12_104 (gk_48 N) rfl (b := 77) (gr_48_43 N) ?_
                refine ms_seq mB_180 mO_180 [(.iload 7, 2)] (pc' := 145) (L' := [.ref 48, .long p0, .null, .int p1, .int p2, .int p3, .int p4, .int p5]) (st' := [.int p5, .ref 77]) ⟨dX12_part_143, trivial⟩ rfl ?_
                have G := F.1
                have F := F.2
                refine ms_lald mB_180 dX12_part_145 (gk_77 N) (by rw [gl_77 N]; exact G) ?_
                exact ms_lret mB_180 dX12_part_146 mR_180 ⟨_, rfl, rfl, F⟩
              · have F := F.1 c
                refine ms_seq mB_180 mO_180 [(.ldc2_w 246, 3)] (pc' := 93) (L' := [.ref 48, .long p0, .null, .int p1, .int p2, .int p3, .int p4, .int p5]) (st' := [.long (-9223372036854775808)]) ⟨dX12_part_90, trivial⟩ rfl ?_
                exact ms_lret mB_180 dX12_part_93 mR_180 ⟨_, rfl, rfl, F⟩
set_option maxRecDepth 100000 in
theorem q12_sync_0 {N d : Nat} (hd : 5 ≤ d) {δ : mi_D} {Q : Int32 → mi_D → Prop} (F : (((δ.1 48 0) = 0 → Q (-6) δ) ∧ (¬ (δ.1 48 0) = 0 → (∀ x1 : Int32, x1 = ((δ.1 48 30) - (δ.1 48 31)) → (∀ δ2 : mi_D, δ2 = mi_setI δ 48 31 (δ.1 48 30) → Q x1 δ2))))) : mi_wI N d 181 0 [.ref 48, .null] [] δ Q := by
  unfold mi_wI
  refine ms_seq mB_181 mO_181 [(.aload_n 0, 1)] (pc' := 1) (L' := [.ref 48, .null]) (st' := [.ref 48]) ⟨dX12_sync_0, trivial⟩ rfl ?_
  refine ms_getI mB_181 mO_181 dX12_sync_1 mF_12_7 (gk_48 N) (Or.inr rfl) ?_
  refine ms_if_ne mB_181 dX12_sync_4 (t := 10) rfl (fun c => ?_) (fun c => ?_)
  · have F := F.2 c
    refine ms_seq mB_181 mO_181 [(.aload_n 0, 1)] (pc' := 11) (L' := [.ref 48, .null]) (st' := [.ref 48]) ⟨dX12_sync_10, trivial⟩ rfl ?_
    refine ms_getI mB_181 mO_181 dX12_sync_11 mF_12_132 (gk_48 N) (Or.inl rfl) ?_
    refine ms_seq mB_181 mO_181 [(.aload_n 0, 1)] (pc' := 15) (L' := [.ref 48, .null]) (st' := [.ref 48, .int (δ.1 48 30)]) ⟨dX12_sync_14, trivial⟩ rfl ?_
    refine ms_getI mB_181 mO_181 dX12_sync_15 mF_12_248 (gk_48 N) (Or.inl rfl) ?_
    refine ms_seq mB_181 mO_181 [(.isub, 1)] (pc' := 19) (L' := [.ref 48, .null]) (st' := [.int ((δ.1 48 30) - (δ.1 48 31))]) ⟨dX12_sync_18, trivial⟩ rfl ?_
    refine mr_topi (fun x1 e_x1 => ?_)
    have F := F x1 e_x1
    refine ms_seq mB_181 mO_181 [(.istore_n 1, 1), (.aload_n 0, 1), (.aload_n 0, 1)] (pc' := 22) (L' := [.ref 48, .int x1]) (st' := [.ref 48, .ref 48]) ⟨dX12_sync_19, dX12_sync_20, dX12_sync_21, trivial⟩ rfl ?_
    refine ms_getI mB_181 mO_181 dX12_sync_22 mF_12_132 (gk_48 N) (Or.inl rfl) ?_
    refine ms_putI mB_181 mO_181 dX12_sync_25 mF_12_248 (gk_48 N) rfl rfl ?_
    refine mr_st (fun δ2 e_δ2 => ?_)
    have F := F δ2 e_δ2
    refine ms_seq mB_181 mO_181 [(.iload_n 1, 1)] (pc' := 29) (L' := [.ref 48, .int x1]) (st' := [.int x1]) ⟨dX12_sync_28, trivial⟩ rfl ?_
    exact ms_iret mB_181 dX12_sync_29 mR_181 ⟨_, rfl, rfl, F⟩
  · have F := F.1 c
    refine ms_seq mB_181 mO_181 [(.bipush (-6), 2)] (pc' := 9) (L' := [.ref 48, .null]) (st' := [.int (-6)]) ⟨dX12_sync_7, trivial⟩ rfl ?_
    exact ms_iret mB_181 dX12_sync_9 mR_181 ⟨_, rfl, rfl, F⟩
set_option maxRecDepth 100000 in
theorem q12_crash_0 {N d : Nat} (hd : 5 ≤ d) {p0 p1 : Int32} {δ : mi_D} {Q : Int32 → mi_D → Prop} (F : ((p0 < 0 → Q (-3) δ) ∧ (¬ p0 < 0 → (mi_wI N (d - 1) 148 0 [.long (Int32.toInt64 p1), .null, .long 0, .null, .long 255, .null] [] δ (fun r2 δ1 => ((r2 = 0 → Q (-3) δ1) ∧ (¬ r2 = 0 → ((((δ1.1 48 30) - (δ1.1 48 31)) < p0 → mi_wI N d 182 45 [.ref 48, .int p0, .int p1, .null] [.int ((δ1.1 48 30) - (δ1.1 48 31))] δ1 Q) ∧ (¬ ((δ1.1 48 30) - (δ1.1 48 31)) < p0 → mi_wI N d 182 45 [.ref 48, .int p0, .int p1, .null] [.int p0] δ1 Q))))))))) : mi_wI N d 182 0 [.ref 48, .int p0, .int p1, .null] [] δ Q := by
  unfold mi_wI
  refine ms_seq mB_182 mO_182 [(.iload_n 1, 1)] (pc' := 1) (L' := [.ref 48, .int p0, .int p1, .null]) (st' := [.int p0]) ⟨dX12_crash_0, trivial⟩ rfl ?_
  refine ms_if_lt mB_182 dX12_crash_1 (t := 16) rfl (fun c => ?_) (fun c => ?_)
  · have F := F.1 c
    refine ms_seq mB_182 mO_182 [(.bipush (-3), 2)] (pc' := 18) (L' := [.ref 48, .int p0, .int p1, .null]) (st' := [.int (-3)]) ⟨dX12_crash_16, trivial⟩ rfl ?_
    exact ms_iret mB_182 dX12_crash_18 mR_182 ⟨_, rfl, rfl, F⟩
  · have F := F.2 c
    refine ms_seq mB_182 mO_182 [(.iload_n 2, 1), (.i2l, 1), (.lconst 0, 1), (.ldc2_w 251, 3)] (pc' := 10) (L' := [.ref 48, .int p0, .int p1, .null]) (st' := [.long 255, .long 0, .long (Int32.toInt64 p1)]) ⟨dX12_crash_4, dX12_crash_5, dX12_crash_6, dX12_crash_7, trivial⟩ rfl ?_
    refine ms_callsI mB_182 mO_182 (by omega) dX12_crash_10 mQ_12_116 mC_12_116 mL_148 (by decide) rfl (Nat.le_of_ble_eq_true rfl) (Nat.le_of_ble_eq_true rfl) rfl F (fun r2 δ1 F => ?_)
    refine ms_if_ne mB_182 dX12_crash_13 (t := 19) rfl (fun c => ?_) (fun c => ?_)
    · have F := F.2 c
      refine ms_seq mB_182 mO_182 [(.aload_n 0, 1)] (pc' := 20) (L' := [.ref 48, .int p0, .int p1, .null]) (st' := [.ref 48]) ⟨dX12_crash_19, trivial⟩ rfl ?_
      refine ms_getI mB_182 mO_182 dX12_crash_20 mF_12_132 (gk_48 N) (Or.inl rfl) ?_
      refine ms_seq mB_182 mO_182 [(.aload_n 0, 1)] (pc' := 24) (L' := [.ref 48, .int p0, .int p1, .null]) (st' := [.ref 48, .int (δ1.1 48 30)]) ⟨dX12_crash_23, trivial⟩ rfl ?_
      refine ms_getI mB_182 mO_182 dX12_crash_24 mF_12_248 (gk_48 N) (Or.inl rfl) ?_
      refine ms_seq mB_182 mO_182 [(.isub, 1), (.iload_n 1, 1)] (pc' := 29) (L' := [.ref 48, .int p0, .int p1, .null]) (st' := [.int p0, .int ((δ1.1 48 30) - (δ1.1 48 31))]) ⟨dX12_crash_27, dX12_crash_28, trivial⟩ rfl ?_
      refine ms_icmp_ge mB_182 dX12_crash_29 (t := 44) rfl (fun c => ?_) (fun c => ?_)
      · have F := F.2 c
        refine ms_seq mB_182 mO_182 [(.iload_n 1, 1)] (pc' := 45) (L' := [.ref 48, .int p0, .int p1, .null]) (st' := [.int p0]) ⟨dX12_crash_44, trivial⟩ rfl ?_
        exact F
      · have F := F.1 c
        refine ms_seq mB_182 mO_182 [(.aload_n 0, 1)] (pc' := 33) (L' := [.ref 48, .int p0, .int p1, .null]) (st' := [.ref 48]) ⟨dX12_crash_32, trivial⟩ rfl ?_
        refine ms_getI mB_182 mO_182 dX12_crash_33 mF_12_132 (gk_48 N) (Or.inl rfl) ?_
        refine ms_seq mB_182 mO_182 [(.aload_n 0, 1)] (pc' := 37) (L' := [.ref 48, .int p0, .int p1, .null]) (st' := [.ref 48, .int (δ1.1 48 30)]) ⟨dX12_crash_36, trivial⟩ rfl ?_
        refine ms_getI mB_182 mO_182 dX12_crash_37 mF_12_248 (gk_48 N) (Or.inl rfl) ?_
        refine ms_seq mB_182 mO_182 [(.isub, 1)] (pc' := 41) (L' := [.ref 48, .int p0, .int p1, .null]) (st' := [.int ((δ1.1 48 30) - (δ1.1 48 31))]) ⟨dX12_crash_40, trivial⟩ rfl ?_
        refine ms_goto mB_182 dX12_crash_41 (t := 45) rfl ?_
        exact F
    · have F := F.1 c
      refine ms_seq mB_182 mO_182 [(.bipush (-3), 2)] (pc' := 18) (L' := [.ref 48, .int p0, .int p1, .null]) (st' := [.int (-3)]) ⟨dX12_crash_16, trivial⟩ rfl ?_
      exact ms_iret mB_182 dX12_crash_18 mR_182 ⟨_, rfl, rfl, F⟩
set_option maxRecDepth 100000 in
theorem q12_crash_45 {N d : Nat} (hd : 5 ≤ d) {l1 l2 s0 : Int32} {δ : mi_D} {Q : Int32 → mi_D → Prop} (F : (∀ δ1 : mi_D, δ1 = mi_setI δ 48 30 ((δ.1 48 31) + s0) → ((0 < s0 → (mi_ix ((δ1.1 48 30) - 1) 6000 = true ∧ (mi_ix ((δ1.1 48 30) - 1) 6000 = true ∧ (∀ δ2 : mi_D, δ2 = mi_setA δ1 70 (Int32.toNatClampNeg ((δ1.1 48 30) - 1)) ((δ1.2.1 70 (Int32.toNatClampNeg ((δ1.1 48 30) - 1))) ^^^ l2) → mi_wI N d 182 84 [.ref 48, .int l1, .int l2, .int s0] [] δ2 Q)))) ∧ (¬ 0 < s0 → mi_wI N d 182 84 [.ref 48, .int l1, .int l2, .int s0] [] δ1 Q)))) : mi_wI N d 182 45 [.ref 48, .int l1, .int l2, .null] [.int s0] δ Q := by
  unfold mi_wI
  refine ms_seq mB_182 mO_182 [(.istore_n 3, 1), (.aload_n 0, 1), (.aload_n 0, 1)] (pc' := 48) (L' := [.ref 48, .int l1, .int l2, .int s0]) (st' := [.ref 48, .ref 48]) ⟨dX12_crash_45, dX12_crash_46, dX12_crash_47, trivial⟩ rfl ?_
  refine ms_getI mB_182 mO_182 dX12_crash_48 mF_12_248 (gk_48 N) (Or.inl rfl) ?_
  refine ms_seq mB_182 mO_182 [(.iload_n 3, 1), (.iadd, 1)] (pc' := 53) (L' := [.ref 48, .int l1, .int l2, .int s0]) (st' := [.int ((δ.1 48 31) + s0), .ref 48]) ⟨dX12_crash_51, dX12_crash_52, trivial⟩ rfl ?_
  refine ms_putI mB_182 mO_182 dX12_crash_53 mF_12_132 (gk_48 N) rfl rfl ?_
  refine mr_st (fun δ1 e_δ1 => ?_)
  have F := F δ1 e_δ1
  refine ms_seq mB_182 mO_182 [(.iload_n 3, 1)] (pc' := 57) (L' := [.ref 48, .int l1, .int l2, .int s0]) (st' := [.int s0]) ⟨dX12_crash_56, trivial⟩ rfl ?_
  refine ms_if_le mB_182 dX12_crash_57 (t := 84) rfl (fun c => ?_) (fun c => ?_)
  · have F := F.2 c
    exact F
  · have F := F.1 c
    refine ms_seq mB_182 mO_182 [(.aload_n 0, 1)] (pc' := 61) (L' := [.ref 48, .int l1, .int l2, .int s0]) (st' := [.ref 48]) ⟨dX12_crash_60, trivial⟩ rfl ?_
    refine ms_getA mB_182 mO_182 dX12_crash_61 mF_12_83 (gk_48 N) rfl (b := 70) (gr_48_33 N) ?_
    refine ms_seq mB_182 mO_182 [(.aload_n 0, 1)] (pc' := 65) (L' := [.ref 48, .int l1, .int l2, .int s0]) (st' := [.ref 48, .ref 70]) ⟨dX12_crash_64, trivial⟩ rfl ?_
    refine ms_getI mB_182 mO_182 dX12_crash_65 mF_12_132 (gk_48 N) (Or.inl rfl) ?_
    refine ms_seq mB_182 mO_182 [(.iconst 1, 1), (.isub, 1), (.aload_n 0, 1)] (pc' := 71) (L' := [.ref 48, .int l1, .int l2, .int s0]) (st' := [.ref 48, .int ((δ1.1 48 30) - 1), .ref 70]) ⟨dX12_crash_68, dX12_crash_69, dX12_crash_70, trivial⟩ rfl ?_
    refine ms_getA mB_182 mO_182 dX12_crash_71 mF_12_83 (gk_48 N) rfl (b := 70) (gr_48_33 N) ?_
    refine ms_seq mB_182 mO_182 [(.aload_n 0, 1)] (pc' := 75) (L' := [.ref 48, .int l1, .int l2, .int s0]) (st' := [.ref 48, .ref 70, .int ((δ1.1 48 30) - 1), .ref 70]) ⟨dX12_crash_74, trivial⟩ rfl ?_
    refine ms_getI mB_182 mO_182 dX12_crash_75 mF_12_132 (gk_48 N) (Or.inl rfl) ?_
    refine ms_seq mB_182 mO_182 [(.iconst 1, 1), (.isub, 1)] (pc' := 80) (L' := [.ref 48, .int l1, .int l2, .int s0]) (st' := [.int ((δ1.1 48 30) - 1), .ref 70, .int ((δ1.1 48 30) - 1), .ref 70]) ⟨dX12_crash_78, dX12_crash_79, trivial⟩ rfl ?_
    have G := F.1
    have F := F.2
    refine ms_iald mB_182 dX12_crash_80 (Or.inl (gk_70 N)) (by rw [gl_70 N]; exact G) ?_
    refine ms_seq mB_182 mO_182 [(.iload_n 2, 1), (.ixor, 1)] (pc' := 83) (L' := [.ref 48, .int l1, .int l2, .int s0]) (st' := [.int ((δ1.2.1 70 (Int32.toNatClampNeg ((δ1.1 48 30) - 1))) ^^^ l2), .int ((δ1.1 48 30) - 1), .ref 70]) ⟨dX12_crash_81, dX12_crash_82, trivial⟩ rfl ?_
    have G := F.1
    have F := F.2
    refine ms_iast mB_182 dX12_crash_83 (gk_70 N) (by rw [gl_70 N]; exact G) ?_
    refine mr_st (fun δ2 e_δ2 => ?_)
    have F := F δ2 e_δ2
    exact F
set_option maxRecDepth 100000 in
theorem q12_crash_84 {N d : Nat} (hd : 5 ≤ d) {l1 l2 l3 : Int32} {δ : mi_D} {Q : Int32 → mi_D → Prop} (F : (∀ δ1 : mi_D, δ1 = mi_setI δ 48 24 0 → (∀ δ2 : mi_D, δ2 = mi_setI δ1 48 36 0 → (∀ δ3 : mi_D, δ3 = mi_setI δ2 48 0 0 → Q (δ3.1 48 30) δ3)))) : mi_wI N d 182 84 [.ref 48, .int l1, .int l2, .int l3] [] δ Q := by
  unfold mi_wI
  refine ms_seq mB_182 mO_182 [(.aload_n 0, 1), (.iconst 0, 1)] (pc' := 86) (L' := [.ref 48, .int l1, .int l2, .int l3]) (st' := [.int 0, .ref 48]) ⟨dX12_crash_84, dX12_crash_85, trivial⟩ rfl ?_
  refine ms_putI mB_182 mO_182 dX12_crash_86 mF_12_184 (gk_48 N) rfl rfl ?_
  refine mr_st (fun δ1 e_δ1 => ?_)
  have F := F δ1 e_δ1
  refine ms_seq mB_182 mO_182 [(.aload_n 0, 1), (.iconst 0, 1)] (pc' := 91) (L' := [.ref 48, .int l1, .int l2, .int l3]) (st' := [.int 0, .ref 48]) ⟨dX12_crash_89, dX12_crash_90, trivial⟩ rfl ?_
  refine ms_putI mB_182 mO_182 dX12_crash_91 mF_12_253 (gk_48 N) rfl rfl ?_
  refine mr_st (fun δ2 e_δ2 => ?_)
  have F := F δ2 e_δ2
  refine ms_seq mB_182 mO_182 [(.aload_n 0, 1), (.iconst 0, 1)] (pc' := 96) (L' := [.ref 48, .int l1, .int l2, .int l3]) (st' := [.int 0, .ref 48]) ⟨dX12_crash_94, dX12_crash_95, trivial⟩ rfl ?_
  refine ms_putZ mB_182 mO_182 dX12_crash_96 mF_12_7 (gk_48 N) rfl rfl (by decide) ?_
  refine mr_st (fun δ3 e_δ3 => ?_)
  have F := F δ3 e_δ3
  refine ms_seq mB_182 mO_182 [(.aload_n 0, 1)] (pc' := 100) (L' := [.ref 48, .int l1, .int l2, .int l3]) (st' := [.ref 48]) ⟨dX12_crash_99, trivial⟩ rfl ?_
  refine ms_getI mB_182 mO_182 dX12_crash_100 mF_12_132 (gk_48 N) (Or.inl rfl) ?_
  exact ms_iret mB_182 dX12_crash_103 mR_182 ⟨_, rfl, rfl, F⟩
set_option maxRecDepth 100000 in
theorem q12_number_0 {N d : Nat} (hd : 5 ≤ d) {δ : mi_D} {Q : Int64 → mi_D → Prop} (F : mi_wL N d 183 7 [.ref 48, .long 0, .null, .int 0, .int 1, .null, .null] [] δ Q) : mi_wL N d 183 0 [.ref 48, .null, .null, .null, .null, .null, .null] [] δ Q := by
  unfold mi_wL
  refine ms_seq mB_183 mO_183 [(.lconst 0, 1), (.lstore_n 1, 1), (.iconst 0, 1), (.istore_n 3, 1), (.iconst 1, 1), (.istore 4, 2)] (pc' := 7) (L' := [.ref 48, .long 0, .null, .int 0, .int 1, .null, .null]) (st' := []) ⟨dX12_number_0, dX12_number_1, dX12_number_2, dX12_number_3, dX12_number_4, dX12_number_5, trivial⟩ rfl ?_
  exact F
set_option maxRecDepth 100000 in
theorem q12_number_7 {N d : Nat} (hd : 5 ≤ d) {l3 l4 : Int32} {l1 : Int64} {δ : mi_D} {Q : Int64 → mi_D → Prop} (F : ((l4 = 0 → mi_wL N d 183 120 [.ref 48, .long l1, .null, .int l3, .int l4, .null, .null] [] δ Q) ∧ (¬ l4 = 0 → (((δ.1 48 48) = 0 → (((δ.1 48 46) = (δ.1 48 47) → mi_wL N d 183 36 [.ref 48, .long l1, .null, .int l3, .int l4, .null, .null] [] δ Q) ∧ (¬ (δ.1 48 46) = (δ.1 48 47) → ((l3 = 10 → mi_wL N d 183 36 [.ref 48, .long l1, .null, .int l3, .int l4, .null, .null] [] δ Q) ∧ (¬ l3 = 10 → (mi_ix (δ.1 48 46) 6000 = true ∧ (∀ x1 : Int32, x1 = (δ.2.1 70 (Int32.toNatClampNeg (δ.1 48 46))) → (∀ δ2 : mi_D, δ2 = mi_setI δ 48 46 ((δ.1 48 46) + 1) → ((l3 = 9 → ((1 < x1 → mi_wL N d 183 83 [.ref 48, .long l1, .null, .int l3, .int l4, .int x1, .null] [.int 1, .ref 48] δ2 Q) ∧ (¬ 1 < x1 → mi_wL N d 183 82 [.ref 48, .long l1, .null, .int l3, .int l4, .int x1, .null] [.ref 48] δ2 Q))) ∧ (¬ l3 = 9 → mi_wL N d 183 82 [.ref 48, .long l1, .null, .int l3, .int l4, .int x1, .null] [.ref 48] δ2 Q)))))))))) ∧ (¬ (δ.1 48 48) = 0 → mi_wL N d 183 120 [.ref 48, .long l1, .null, .int l3, .int l4, .null, .null] [] δ Q))))) : mi_wL N d 183 7 [.ref 48, .long l1, .null, .int l3, .int l4, .null, .null] [] δ Q := by
  unfold mi_wL
  refine ms_seq mB_183 mO_183 [(.iload 4, 2)] (pc' := 9) (L' := [.ref 48, .long l1, .null, .int l3, .int l4, .null, .null]) (st' := [.int l4]) ⟨dX12_number_7, trivial⟩ rfl ?_
  refine ms_if_eq mB_183 dX12_number_9 (t := 120) rfl (fun c => ?_) (fun c => ?_)
  · have F := F.1 c
    exact F
  · have F := F.2 c
    refine ms_seq mB_183 mO_183 [(.aload_n 0, 1)] (pc' := 13) (L' := [.ref 48, .long l1, .null, .int l3, .int l4, .null, .null]) (st' := [.ref 48]) ⟨dX12_number_12, trivial⟩ rfl ?_
    refine ms_getI mB_183 mO_183 dX12_number_13 mF_12_256 (gk_48 N) (Or.inr rfl) ?_
    refine ms_if_ne mB_183 dX12_number_16 (t := 120) rfl (fun c => ?_) (fun c => ?_)
    · have F := F.2 c
      exact F
    · have F := F.1 c
      refine ms_seq mB_183 mO_183 [(.aload_n 0, 1)] (pc' := 20) (L' := [.ref 48, .long l1, .null, .int l3, .int l4, .null, .null]) (st' := [.ref 48]) ⟨dX12_number_19, trivial⟩ rfl ?_
      refine ms_getI mB_183 mO_183 dX12_number_20 mF_12_259 (gk_48 N) (Or.inl rfl) ?_
      refine ms_seq mB_183 mO_183 [(.aload_n 0, 1)] (pc' := 24) (L' := [.ref 48, .long l1, .null, .int l3, .int l4, .null, .null]) (st' := [.ref 48, .int (δ.1 48 46)]) ⟨dX12_number_23, trivial⟩ rfl ?_
      refine ms_getI mB_183 mO_183 dX12_number_24 mF_12_262 (gk_48 N) (Or.inl rfl) ?_
      refine ms_icmp_eq mB_183 dX12_number_27 (t := 36) rfl (fun c => ?_) (fun c => ?_)
      · have F := F.1 c
        exact F
      · have F := F.2 c
        refine ms_seq mB_183 mO_183 [(.iload_n 3, 1), (.bipush 10, 2)] (pc' := 33) (L' := [.ref 48, .long l1, .null, .int l3, .int l4, .null, .null]) (st' := [.int 10, .int l3]) ⟨dX12_number_30, dX12_number_31, trivial⟩ rfl ?_
        refine ms_icmp_ne mB_183 dX12_number_33 (t := 44) rfl (fun c => ?_) (fun c => ?_)
        · have F := F.2 c
          refine ms_seq mB_183 mO_183 [(.aload_n 0, 1)] (pc' := 45) (L' := [.ref 48, .long l1, .null, .int l3, .int l4, .null, .null]) (st' := [.ref 48]) ⟨dX12_number_44, trivial⟩ rfl ?_
          refine ms_getA mB_183 mO_183 dX12_number_45 mF_12_83 (gk_48 N) rfl (b := 70) (gr_48_33 N) ?_
          refine ms_seq mB_183 mO_183 [(.aload_n 0, 1)] (pc' := 49) (L' := [.ref 48, .long l1, .null, .int l3, .int l4, .null, .null]) (st' := [.ref 48, .ref 70]) ⟨dX12_number_48, trivial⟩ rfl ?_
          refine ms_getI mB_183 mO_183 dX12_number_49 mF_12_259 (gk_48 N) (Or.inl rfl) ?_
          have G := F.1
          have F := F.2
          refine ms_iald mB_183 dX12_number_52 (Or.inl (gk_70 N)) (by rw [gl_70 N]; exact G) ?_
          refine mr_topi (fun x1 e_x1 => ?_)
          have F := F x1 e_x1
          refine ms_seq mB_183 mO_183 [(.istore 5, 2), (.aload_n 0, 1), (.dup, 1)] (pc' := 57) (L' := [.ref 48, .long l1, .null, .int l3, .int l4, .int x1, .null]) (st' := [.ref 48, .ref 48]) ⟨dX12_number_53, dX12_number_55, dX12_number_56, trivial⟩ rfl ?_
          refine ms_getI mB_183 mO_183 dX12_number_57 mF_12_259 (gk_48 N) (Or.inl rfl) ?_
          refine ms_seq mB_183 mO_183 [(.iconst 1, 1), (.iadd, 1)] (pc' := 62) (L' := [.ref 48, .long l1, .null, .int l3, .int l4, .int x1, .null]) (st' := [.int ((δ.1 48 46) + 1), .ref 48]) ⟨dX12_number_60, dX12_number_61, trivial⟩ rfl ?_
          refine ms_putI mB_183 mO_183 dX12_number_62 mF_12_259 (gk_48 N) rfl rfl ?_
          refine mr_st (fun δ2 e_δ2 => ?_)
          have F := F δ2 e_δ2
          refine ms_seq mB_183 mO_183 [(.aload_n 0, 1), (.iload_n 3, 1), (.bipush 9, 2)] (pc' := 69) (L' := [.ref 48, .long l1, .null, .int l3, .int l4, .int x1, .null]) (st' := [.int 9, .int l3, .ref 48]) ⟨dX12_number_65, dX12_number_66, dX12_number_67, trivial⟩ rfl ?_
          refine ms_icmp_ne mB_183 dX12_number_69 (t := 82) rfl (fun c => ?_) (fun c => ?_)
          · have F := F.2 c
            exact F
          · have F := F.1 c
            refine ms_seq mB_183 mO_183 [(.iload 5, 2), (.iconst 1, 1)] (pc' := 75) (L' := [.ref 48, .long l1, .null, .int l3, .int l4, .int x1, .null]) (st' := [.int 1, .int x1, .ref 48]) ⟨dX12_number_72, dX12_number_74, trivial⟩ rfl ?_
            refine ms_icmp_le mB_183 dX12_number_75 (t := 82) rfl (fun c => ?_) (fun c => ?_)
            · have F := F.2 c
              exact F
            · have F := F.1 c
              refine ms_seq mB_183 mO_183 [(.iconst 1, 1)] (pc' := 79) (L' := [.ref 48, .long l1, .null, .int l3, .int l4, .int x1, .null]) (st' := [.int 1, .ref 48]) ⟨dX12_number_78, trivial⟩ rfl ?_
              refine ms_goto mB_183 dX12_number_79 (t := 83) rfl ?_
              exact F
        · have F := F.1 c
          exact F
set_option maxRecDepth 100000 in
theorem q12_number_120 {N d : Nat} (hd : 5 ≤ d) {l3 l4 : Int32} {l1 : Int64} {δ : mi_D} {Q : Int64 → mi_D → Prop} (F : (∀ x1 : Int64, x1 = ((Int64.toUInt64 l1 >>> (Int64.toUInt64 (Int32.toInt64 1) &&& Int64.toUInt64 63)).toInt64) → (((lg_cmp (l1 &&& 1) 1) = 0 → Q ((-x1) - 1) δ) ∧ (¬ (lg_cmp (l1 &&& 1) 1) = 0 → Q x1 δ)))) : mi_wL N d 183 120 [.ref 48, .long l1, .null, .int l3, .int l4, .null, .null] [] δ Q := by
  unfold mi_wL
  refine ms_seq mB_183 mO_183 [(.lload_n 1, 1), (.iconst 1, 1), (.lushr, 1)] (pc' := 123) (L' := [.ref 48, .long l1, .null, .int l3, .int l4, .null, .null]) (st' := [.long ((Int64.toUInt64 l1 >>> (Int64.toUInt64 (Int32.toInt64 1) &&& Int64.toUInt64 63)).toInt64)]) ⟨dX12_number_120, dX12_number_121, dX12_number_122, trivial⟩ rfl ?_
  refine mr_topl (fun x1 e_x1 => ?_)
  have F := F x1 e_x1
  refine ms_seq mB_183 mO_183 [(.lstore 5, 2), (.lload_n 1, 1), (.lconst 1, 1), (.land, 1), (.lconst 1, 1), (.lcmp, 1)] (pc' := 130) (L' := [.ref 48, .long l1, .null, .int l3, .int l4, .long x1, .null]) (st' := [.int (lg_cmp (l1 &&& 1) 1)]) ⟨dX12_number_123, dX12_number_125, dX12_number_126, dX12_number_127, dX12_number_128, dX12_number_129, trivial⟩ rfl ?_
  refine ms_if_ne mB_183 dX12_number_130 (t := 141) rfl (fun c => ?_) (fun c => ?_)
  · have F := F.2 c
    refine ms_seq mB_183 mO_183 [(.lload 5, 2)] (pc' := 143) (L' := [.ref 48, .long l1, .null, .int l3, .int l4, .long x1, .null]) (st' := [.long x1]) ⟨dX12_number_141, trivial⟩ rfl ?_
    exact ms_lret mB_183 dX12_number_143 mR_183 ⟨_, rfl, rfl, F⟩
  · have F := F.1 c
    refine ms_seq mB_183 mO_183 [(.lload 5, 2), (.lneg, 1), (.lconst 1, 1), (.lsub, 1)] (pc' := 138) (L' := [.ref 48, .long l1, .null, .int l3, .int l4, .long x1, .null]) (st' := [.long ((-x1) - 1)]) ⟨dX12_number_133, dX12_number_135, dX12_number_136, dX12_number_137, trivial⟩ rfl ?_
    refine ms_goto mB_183 dX12_number_138 (t := 143) rfl ?_
    exact ms_lret mB_183 dX12_number_143 mR_183 ⟨_, rfl, rfl, F⟩
set_option maxRecDepth 100000 in
theorem q12_number_36 {N d : Nat} (hd : 5 ≤ d) {l3 l4 : Int32} {l1 : Int64} {δ : mi_D} {Q : Int64 → mi_D → Prop} (F : (∀ δ1 : mi_D, δ1 = mi_setI δ 48 48 1 → mi_wL N d 183 7 [.ref 48, .long l1, .null, .int l3, .int l4, .null, .null] [] δ1 Q)) : mi_wL N d 183 36 [.ref 48, .long l1, .null, .int l3, .int l4, .null, .null] [] δ Q := by
  unfold mi_wL
  refine ms_seq mB_183 mO_183 [(.aload_n 0, 1), (.iconst 1, 1)] (pc' := 38) (L' := [.ref 48, .long l1, .null, .int l3, .int l4, .null, .null]) (st' := [.int 1, .ref 48]) ⟨dX12_number_36, dX12_number_37, trivial⟩ rfl ?_
  refine ms_putZ mB_183 mO_183 dX12_number_38 mF_12_256 (gk_48 N) rfl rfl (by decide) ?_
  refine mr_st (fun δ1 e_δ1 => ?_)
  have F := F δ1 e_δ1
  refine ms_goto mB_183 dX12_number_41 (t := 7) rfl ?_
  exact F
set_option maxRecDepth 100000 in
theorem q12_number_82 {N d : Nat} (hd : 5 ≤ d) {l3 l4 l5 : Int32} {l1 : Int64} {δ : mi_D} {Q : Int64 → mi_D → Prop} (F : mi_wL N d 183 83 [.ref 48, .long l1, .null, .int l3, .int l4, .int l5, .null] [.int 0, .ref 48] δ Q) : mi_wL N d 183 82 [.ref 48, .long l1, .null, .int l3, .int l4, .int l5, .null] [.ref 48] δ Q := by
  unfold mi_wL
  refine ms_seq mB_183 mO_183 [(.iconst 0, 1)] (pc' := 83) (L' := [.ref 48, .long l1, .null, .int l3, .int l4, .int l5, .null]) (st' := [.int 0, .ref 48]) ⟨dX12_number_82, trivial⟩ rfl ?_
  exact F
set_option maxRecDepth 100000 in
theorem q12_number_83 {N d : Nat} (hd : 5 ≤ d) {l3 l4 l5 s1 : Int32} {l1 : Int64} {δ : mi_D} {Q : Int64 → mi_D → Prop} (F : ((s1 = 0 ∨ s1 = 1) ∧ (∀ δ1 : mi_D, δ1 = mi_setI δ 48 48 s1 → (∀ x2 : Int64, x2 = (l1 ||| ((Int32.toInt64 (l5 &&& 127)) <<< (Int32.toInt64 (7 * l3) &&& 63))) → ((127 < l5 → mi_wL N d 183 7 [.ref 48, .long x2, .null, .int (l3 + 1), .int 1, .int l5, .null] [] δ1 Q) ∧ (¬ 127 < l5 → mi_wL N d 183 7 [.ref 48, .long x2, .null, .int (l3 + 1), .int 0, .int l5, .null] [] δ1 Q)))))) : mi_wL N d 183 83 [.ref 48, .long l1, .null, .int l3, .int l4, .int l5, .null] [.int s1, .ref 48] δ Q := by
  unfold mi_wL
  have G := F.1
  have F := F.2
  refine ms_putZ mB_183 mO_183 dX12_number_83 mF_12_256 (gk_48 N) rfl rfl G ?_
  refine mr_st (fun δ1 e_δ1 => ?_)
  have F := F δ1 e_δ1
  refine ms_seq mB_183 mO_183 [(.lload_n 1, 1), (.iload 5, 2), (.bipush 127, 2), (.iand, 1), (.i2l, 1), (.bipush 7, 2), (.iload_n 3, 1), (.imul, 1), (.lshl, 1), (.lor, 1)] (pc' := 99) (L' := [.ref 48, .long l1, .null, .int l3, .int l4, .int l5, .null]) (st' := [.long (l1 ||| ((Int32.toInt64 (l5 &&& 127)) <<< (Int32.toInt64 (7 * l3) &&& 63)))]) ⟨dX12_number_86, dX12_number_87, dX12_number_89, dX12_number_91, dX12_number_92, dX12_number_93, dX12_number_95, dX12_number_96, dX12_number_97, dX12_number_98, trivial⟩ rfl ?_
  refine mr_topl (fun x2 e_x2 => ?_)
  have F := F x2 e_x2
  refine ms_seq mB_183 mO_183 [(.lstore_n 1, 1), (.iload 5, 2), (.bipush 127, 2)] (pc' := 104) (L' := [.ref 48, .long x2, .null, .int l3, .int l4, .int l5, .null]) (st' := [.int 127, .int l5]) ⟨dX12_number_99, dX12_number_100, dX12_number_102, trivial⟩ rfl ?_
  refine ms_icmp_le mB_183 dX12_number_104 (t := 111) rfl (fun c => ?_) (fun c => ?_)
  · have F := F.2 c
    refine ms_seq mB_183 mO_183 [(.iconst 0, 1), (.istore 4, 2), (.iinc 3 1, 3)] (pc' := 117) (L' := [.ref 48, .long x2, .null, .int (l3 + 1), .int 0, .int l5, .null]) (st' := []) ⟨dX12_number_111, dX12_number_112, dX12_number_114, trivial⟩ rfl ?_
    refine ms_goto mB_183 dX12_number_117 (t := 7) rfl ?_
    exact F
  · have F := F.1 c
    refine ms_seq mB_183 mO_183 [(.iconst 1, 1)] (pc' := 108) (L' := [.ref 48, .long x2, .null, .int l3, .int l4, .int l5, .null]) (st' := [.int 1]) ⟨dX12_number_107, trivial⟩ rfl ?_
    refine ms_goto mB_183 dX12_number_108 (t := 112) rfl ?_
    refine ms_seq mB_183 mO_183 [(.istore 4, 2), (.iinc 3 1, 3)] (pc' := 117) (L' := [.ref 48, .long x2, .null, .int (l3 + 1), .int 1, .int l5, .null]) (st' := []) ⟨dX12_number_112, dX12_number_114, trivial⟩ rfl ?_
    refine ms_goto mB_183 dX12_number_117 (t := 7) rfl ?_
    exact F
set_option maxRecDepth 100000 in
theorem q12_number_7a {N d : Nat} (hd : 5 ≤ d) {l3 l4 l5 : Int32} {l1 : Int64} {δ : mi_D} {Q : Int64 → mi_D → Prop} (F : ((l4 = 0 → mi_wL N d 183 120 [.ref 48, .long l1, .null, .int l3, .int l4, .int l5, .null] [] δ Q) ∧ (¬ l4 = 0 → (((δ.1 48 48) = 0 → (((δ.1 48 46) = (δ.1 48 47) → mi_wL N d 183 36 [.ref 48, .long l1, .null, .int l3, .int l4, .int l5, .null] [] δ Q) ∧ (¬ (δ.1 48 46) = (δ.1 48 47) → ((l3 = 10 → mi_wL N d 183 36 [.ref 48, .long l1, .null, .int l3, .int l4, .int l5, .null] [] δ Q) ∧ (¬ l3 = 10 → (mi_ix (δ.1 48 46) 6000 = true ∧ (∀ x1 : Int32, x1 = (δ.2.1 70 (Int32.toNatClampNeg (δ.1 48 46))) → (∀ δ2 : mi_D, δ2 = mi_setI δ 48 46 ((δ.1 48 46) + 1) → ((l3 = 9 → ((1 < x1 → mi_wL N d 183 83 [.ref 48, .long l1, .null, .int l3, .int l4, .int x1, .null] [.int 1, .ref 48] δ2 Q) ∧ (¬ 1 < x1 → mi_wL N d 183 82 [.ref 48, .long l1, .null, .int l3, .int l4, .int x1, .null] [.ref 48] δ2 Q))) ∧ (¬ l3 = 9 → mi_wL N d 183 82 [.ref 48, .long l1, .null, .int l3, .int l4, .int x1, .null] [.ref 48] δ2 Q)))))))))) ∧ (¬ (δ.1 48 48) = 0 → mi_wL N d 183 120 [.ref 48, .long l1, .null, .int l3, .int l4, .int l5, .null] [] δ Q))))) : mi_wL N d 183 7 [.ref 48, .long l1, .null, .int l3, .int l4, .int l5, .null] [] δ Q := by
  unfold mi_wL
  refine ms_seq mB_183 mO_183 [(.iload 4, 2)] (pc' := 9) (L' := [.ref 48, .long l1, .null, .int l3, .int l4, .int l5, .null]) (st' := [.int l4]) ⟨dX12_number_7, trivial⟩ rfl ?_
  refine ms_if_eq mB_183 dX12_number_9 (t := 120) rfl (fun c => ?_) (fun c => ?_)
  · have F := F.1 c
    exact F
  · have F := F.2 c
    refine ms_seq mB_183 mO_183 [(.aload_n 0, 1)] (pc' := 13) (L' := [.ref 48, .long l1, .null, .int l3, .int l4, .int l5, .null]) (st' := [.ref 48]) ⟨dX12_number_12, trivial⟩ rfl ?_
    refine ms_getI mB_183 mO_183 dX12_number_13 mF_12_256 (gk_48 N) (Or.inr rfl) ?_
    refine ms_if_ne mB_183 dX12_number_16 (t := 120) rfl (fun c => ?_) (fun c => ?_)
    · have F := F.2 c
      exact F
    · have F := F.1 c
      refine ms_seq mB_183 mO_183 [(.aload_n 0, 1)] (pc' := 20) (L' := [.ref 48, .long l1, .null, .int l3, .int l4, .int l5, .null]) (st' := [.ref 48]) ⟨dX12_number_19, trivial⟩ rfl ?_
      refine ms_getI mB_183 mO_183 dX12_number_20 mF_12_259 (gk_48 N) (Or.inl rfl) ?_
      refine ms_seq mB_183 mO_183 [(.aload_n 0, 1)] (pc' := 24) (L' := [.ref 48, .long l1, .null, .int l3, .int l4, .int l5, .null]) (st' := [.ref 48, .int (δ.1 48 46)]) ⟨dX12_number_23, trivial⟩ rfl ?_
      refine ms_getI mB_183 mO_183 dX12_number_24 mF_12_262 (gk_48 N) (Or.inl rfl) ?_
      refine ms_icmp_eq mB_183 dX12_number_27 (t := 36) rfl (fun c => ?_) (fun c => ?_)
      · have F := F.1 c
        exact F
      · have F := F.2 c
        refine ms_seq mB_183 mO_183 [(.iload_n 3, 1), (.bipush 10, 2)] (pc' := 33) (L' := [.ref 48, .long l1, .null, .int l3, .int l4, .int l5, .null]) (st' := [.int 10, .int l3]) ⟨dX12_number_30, dX12_number_31, trivial⟩ rfl ?_
        refine ms_icmp_ne mB_183 dX12_number_33 (t := 44) rfl (fun c => ?_) (fun c => ?_)
        · have F := F.2 c
          refine ms_seq mB_183 mO_183 [(.aload_n 0, 1)] (pc' := 45) (L' := [.ref 48, .long l1, .null, .int l3, .int l4, .int l5, .null]) (st' := [.ref 48]) ⟨dX12_number_44, trivial⟩ rfl ?_
          refine ms_getA mB_183 mO_183 dX12_number_45 mF_12_83 (gk_48 N) rfl (b := 70) (gr_48_33 N) ?_
          refine ms_seq mB_183 mO_183 [(.aload_n 0, 1)] (pc' := 49) (L' := [.ref 48, .long l1, .null, .int l3, .int l4, .int l5, .null]) (st' := [.ref 48, .ref 70]) ⟨dX12_number_48, trivial⟩ rfl ?_
          refine ms_getI mB_183 mO_183 dX12_number_49 mF_12_259 (gk_48 N) (Or.inl rfl) ?_
          have G := F.1
          have F := F.2
          refine ms_iald mB_183 dX12_number_52 (Or.inl (gk_70 N)) (by rw [gl_70 N]; exact G) ?_
          refine mr_topi (fun x1 e_x1 => ?_)
          have F := F x1 e_x1
          refine ms_seq mB_183 mO_183 [(.istore 5, 2), (.aload_n 0, 1), (.dup, 1)] (pc' := 57) (L' := [.ref 48, .long l1, .null, .int l3, .int l4, .int x1, .null]) (st' := [.ref 48, .ref 48]) ⟨dX12_number_53, dX12_number_55, dX12_number_56, trivial⟩ rfl ?_
          refine ms_getI mB_183 mO_183 dX12_number_57 mF_12_259 (gk_48 N) (Or.inl rfl) ?_
          refine ms_seq mB_183 mO_183 [(.iconst 1, 1), (.iadd, 1)] (pc' := 62) (L' := [.ref 48, .long l1, .null, .int l3, .int l4, .int x1, .null]) (st' := [.int ((δ.1 48 46) + 1), .ref 48]) ⟨dX12_number_60, dX12_number_61, trivial⟩ rfl ?_
          refine ms_putI mB_183 mO_183 dX12_number_62 mF_12_259 (gk_48 N) rfl rfl ?_
          refine mr_st (fun δ2 e_δ2 => ?_)
          have F := F δ2 e_δ2
          refine ms_seq mB_183 mO_183 [(.aload_n 0, 1), (.iload_n 3, 1), (.bipush 9, 2)] (pc' := 69) (L' := [.ref 48, .long l1, .null, .int l3, .int l4, .int x1, .null]) (st' := [.int 9, .int l3, .ref 48]) ⟨dX12_number_65, dX12_number_66, dX12_number_67, trivial⟩ rfl ?_
          refine ms_icmp_ne mB_183 dX12_number_69 (t := 82) rfl (fun c => ?_) (fun c => ?_)
          · have F := F.2 c
            exact F
          · have F := F.1 c
            refine ms_seq mB_183 mO_183 [(.iload 5, 2), (.iconst 1, 1)] (pc' := 75) (L' := [.ref 48, .long l1, .null, .int l3, .int l4, .int x1, .null]) (st' := [.int 1, .int x1, .ref 48]) ⟨dX12_number_72, dX12_number_74, trivial⟩ rfl ?_
            refine ms_icmp_le mB_183 dX12_number_75 (t := 82) rfl (fun c => ?_) (fun c => ?_)
            · have F := F.2 c
              exact F
            · have F := F.1 c
              refine ms_seq mB_183 mO_183 [(.iconst 1, 1)] (pc' := 79) (L' := [.ref 48, .long l1, .null, .int l3, .int l4, .int x1, .null]) (st' := [.int 1, .ref 48]) ⟨dX12_number_78, trivial⟩ rfl ?_
              refine ms_goto mB_183 dX12_number_79 (t := 83) rfl ?_
              exact F
        · have F := F.1 c
          exact F
set_option maxRecDepth 100000 in
theorem q12_number_120a {N d : Nat} (hd : 5 ≤ d) {l3 l4 l5 : Int32} {l1 : Int64} {δ : mi_D} {Q : Int64 → mi_D → Prop} (F : (∀ x1 : Int64, x1 = ((Int64.toUInt64 l1 >>> (Int64.toUInt64 (Int32.toInt64 1) &&& Int64.toUInt64 63)).toInt64) → (((lg_cmp (l1 &&& 1) 1) = 0 → Q ((-x1) - 1) δ) ∧ (¬ (lg_cmp (l1 &&& 1) 1) = 0 → Q x1 δ)))) : mi_wL N d 183 120 [.ref 48, .long l1, .null, .int l3, .int l4, .int l5, .null] [] δ Q := by
  unfold mi_wL
  refine ms_seq mB_183 mO_183 [(.lload_n 1, 1), (.iconst 1, 1), (.lushr, 1)] (pc' := 123) (L' := [.ref 48, .long l1, .null, .int l3, .int l4, .int l5, .null]) (st' := [.long ((Int64.toUInt64 l1 >>> (Int64.toUInt64 (Int32.toInt64 1) &&& Int64.toUInt64 63)).toInt64)]) ⟨dX12_number_120, dX12_number_121, dX12_number_122, trivial⟩ rfl ?_
  refine mr_topl (fun x1 e_x1 => ?_)
  have F := F x1 e_x1
  refine ms_seq mB_183 mO_183 [(.lstore 5, 2), (.lload_n 1, 1), (.lconst 1, 1), (.land, 1), (.lconst 1, 1), (.lcmp, 1)] (pc' := 130) (L' := [.ref 48, .long l1, .null, .int l3, .int l4, .long x1, .null]) (st' := [.int (lg_cmp (l1 &&& 1) 1)]) ⟨dX12_number_123, dX12_number_125, dX12_number_126, dX12_number_127, dX12_number_128, dX12_number_129, trivial⟩ rfl ?_
  refine ms_if_ne mB_183 dX12_number_130 (t := 141) rfl (fun c => ?_) (fun c => ?_)
  · have F := F.2 c
    refine ms_seq mB_183 mO_183 [(.lload 5, 2)] (pc' := 143) (L' := [.ref 48, .long l1, .null, .int l3, .int l4, .long x1, .null]) (st' := [.long x1]) ⟨dX12_number_141, trivial⟩ rfl ?_
    exact ms_lret mB_183 dX12_number_143 mR_183 ⟨_, rfl, rfl, F⟩
  · have F := F.1 c
    refine ms_seq mB_183 mO_183 [(.lload 5, 2), (.lneg, 1), (.lconst 1, 1), (.lsub, 1)] (pc' := 138) (L' := [.ref 48, .long l1, .null, .int l3, .int l4, .long x1, .null]) (st' := [.long ((-x1) - 1)]) ⟨dX12_number_133, dX12_number_135, dX12_number_136, dX12_number_137, trivial⟩ rfl ?_
    refine ms_goto mB_183 dX12_number_138 (t := 143) rfl ?_
    exact ms_lret mB_183 dX12_number_143 mR_183 ⟨_, rfl, rfl, F⟩
set_option maxRecDepth 100000 in
theorem q12_number_36a {N d : Nat} (hd : 5 ≤ d) {l3 l4 l5 : Int32} {l1 : Int64} {δ : mi_D} {Q : Int64 → mi_D → Prop} (F : (∀ δ1 : mi_D, δ1 = mi_setI δ 48 48 1 → mi_wL N d 183 7 [.ref 48, .long l1, .null, .int l3, .int l4, .int l5, .null] [] δ1 Q)) : mi_wL N d 183 36 [.ref 48, .long l1, .null, .int l3, .int l4, .int l5, .null] [] δ Q := by
  unfold mi_wL
  refine ms_seq mB_183 mO_183 [(.aload_n 0, 1), (.iconst 1, 1)] (pc' := 38) (L' := [.ref 48, .long l1, .null, .int l3, .int l4, .int l5, .null]) (st' := [.int 1, .ref 48]) ⟨dX12_number_36, dX12_number_37, trivial⟩ rfl ?_
  refine ms_putZ mB_183 mO_183 dX12_number_38 mF_12_256 (gk_48 N) rfl rfl (by decide) ?_
  refine mr_st (fun δ1 e_δ1 => ?_)
  have F := F δ1 e_δ1
  refine ms_goto mB_183 dX12_number_41 (t := 7) rfl ?_
  exact F
set_option maxRecDepth 100000 in
theorem q12_whole_0 {N d : Nat} (hd : 5 ≤ d) {δ : mi_D} {Q : Int32 → mi_D → Prop} (F : (mi_wL N (d - 1) 183 0 [.ref 48, .null, .null, .null, .null, .null, .null] [] δ (fun r2 δ1 => (((δ1.1 48 48) = 0 → (mi_wI N (d - 1) 148 0 [.long r2, .null, .long (-2147483648), .null, .long 2147483647, .null] [] δ1 (fun r4 δ3 => ((r4 = 0 → mi_wI N d 184 26 [.ref 48, .long r2, .null] [.ref 48] δ3 Q) ∧ (¬ r4 = 0 → mi_wI N d 184 31 [.ref 48, .long r2, .null] [.int 0, .ref 48] δ3 Q))))) ∧ (¬ (δ1.1 48 48) = 0 → mi_wI N d 184 26 [.ref 48, .long r2, .null] [.ref 48] δ1 Q))))) : mi_wI N d 184 0 [.ref 48, .null, .null] [] δ Q := by
  unfold mi_wI
  refine ms_seq mB_184 mO_184 [(.aload_n 0, 1)] (pc' := 1) (L' := [.ref 48, .null, .null]) (st' := [.ref 48]) ⟨dX12_whole_0, trivial⟩ rfl ?_
  refine ms_callvL mB_184 mO_184 (by omega) dX12_whole_1 mQ_12_265 mC_12_265 mL_183 mO_183 rfl (Nat.le_of_ble_eq_true rfl) (Nat.le_of_ble_eq_true rfl) (gk_48 N) rfl F (fun r2 δ1 F => ?_)
  refine ms_seq mB_184 mO_184 [(.lstore_n 1, 1), (.aload_n 0, 1), (.aload_n 0, 1)] (pc' := 7) (L' := [.ref 48, .long r2, .null]) (st' := [.ref 48, .ref 48]) ⟨dX12_whole_4, dX12_whole_5, dX12_whole_6, trivial⟩ rfl ?_
  refine ms_getI mB_184 mO_184 dX12_whole_7 mF_12_256 (gk_48 N) (Or.inr rfl) ?_
  refine ms_if_ne mB_184 dX12_whole_10 (t := 26) rfl (fun c => ?_) (fun c => ?_)
  · have F := F.2 c
    exact F
  · have F := F.1 c
    refine ms_seq mB_184 mO_184 [(.lload_n 1, 1), (.ldc2_w 269, 3), (.ldc2_w 271, 3)] (pc' := 20) (L' := [.ref 48, .long r2, .null]) (st' := [.long 2147483647, .long (-2147483648), .long r2, .ref 48]) ⟨dX12_whole_13, dX12_whole_14, dX12_whole_17, trivial⟩ rfl ?_
    refine ms_callsI mB_184 mO_184 (by omega) dX12_whole_20 mQ_12_116 mC_12_116 mL_148 (by decide) rfl (Nat.le_of_ble_eq_true rfl) (Nat.le_of_ble_eq_true rfl) rfl F (fun r4 δ3 F => ?_)
    refine ms_if_ne mB_184 dX12_whole_23 (t := 30) rfl (fun c => ?_) (fun c => ?_)
    · have F := F.2 c
      refine ms_seq mB_184 mO_184 [(.iconst 0, 1)] (pc' := 31) (L' := [.ref 48, .long r2, .null]) (st' := [.int 0, .ref 48]) ⟨dX12_whole_30, trivial⟩ rfl ?_
      exact F
    · have F := F.1 c
      exact F
set_option maxRecDepth 100000 in
theorem q12_whole_26 {N d : Nat} (hd : 5 ≤ d) {l1 : Int64} {δ : mi_D} {Q : Int32 → mi_D → Prop} (F : mi_wI N d 184 31 [.ref 48, .long l1, .null] [.int 1, .ref 48] δ Q) : mi_wI N d 184 26 [.ref 48, .long l1, .null] [.ref 48] δ Q := by
  unfold mi_wI
  refine ms_seq mB_184 mO_184 [(.iconst 1, 1)] (pc' := 27) (L' := [.ref 48, .long l1, .null]) (st' := [.int 1, .ref 48]) ⟨dX12_whole_26, trivial⟩ rfl ?_
  refine ms_goto mB_184 dX12_whole_27 (t := 31) rfl ?_
  exact F
set_option maxRecDepth 100000 in
theorem q12_whole_31 {N d : Nat} (hd : 5 ≤ d) {s1 : Int32} {l1 : Int64} {δ : mi_D} {Q : Int32 → mi_D → Prop} (F : ((s1 = 0 ∨ s1 = 1) ∧ (∀ δ1 : mi_D, δ1 = mi_setI δ 48 48 s1 → Q (Int64.toInt32 l1) δ1))) : mi_wI N d 184 31 [.ref 48, .long l1, .null] [.int s1, .ref 48] δ Q := by
  unfold mi_wI
  have G := F.1
  have F := F.2
  refine ms_putZ mB_184 mO_184 dX12_whole_31 mF_12_256 (gk_48 N) rfl rfl G ?_
  refine mr_st (fun δ1 e_δ1 => ?_)
  have F := F δ1 e_δ1
  refine ms_seq mB_184 mO_184 [(.lload_n 1, 1), (.l2i, 1)] (pc' := 36) (L' := [.ref 48, .long l1, .null]) (st' := [.int (Int64.toInt32 l1)]) ⟨dX12_whole_34, dX12_whole_35, trivial⟩ rfl ?_
  exact ms_iret mB_184 dX12_whole_36 mR_184 ⟨_, rfl, rfl, F⟩
set_option maxRecDepth 100000 in
theorem q12_truth_0 {N d : Nat} (hd : 5 ≤ d) {δ : mi_D} {Q : Int32 → mi_D → Prop} (F : (mi_wI N (d - 1) 184 0 [.ref 48, .null, .null] [] δ (fun r2 δ1 => (((δ1.1 48 48) = 0 → (mi_wI N (d - 1) 148 0 [.long (Int32.toInt64 r2), .null, .long 0, .null, .long 1, .null] [] δ1 (fun r4 δ3 => ((r4 = 0 → mi_wI N d 185 23 [.ref 48, .int r2] [.ref 48] δ3 Q) ∧ (¬ r4 = 0 → mi_wI N d 185 28 [.ref 48, .int r2] [.int 0, .ref 48] δ3 Q))))) ∧ (¬ (δ1.1 48 48) = 0 → mi_wI N d 185 23 [.ref 48, .int r2] [.ref 48] δ1 Q))))) : mi_wI N d 185 0 [.ref 48, .null] [] δ Q := by
  unfold mi_wI
  refine ms_seq mB_185 mO_185 [(.aload_n 0, 1)] (pc' := 1) (L' := [.ref 48, .null]) (st' := [.ref 48]) ⟨dX12_truth_0, trivial⟩ rfl ?_
  refine ms_callvI mB_185 mO_185 (by omega) dX12_truth_1 mQ_12_273 mC_12_273 mL_184 mO_184 rfl (Nat.le_of_ble_eq_true rfl) (Nat.le_of_ble_eq_true rfl) (gk_48 N) rfl F (fun r2 δ1 F => ?_)
  refine ms_seq mB_185 mO_185 [(.istore_n 1, 1), (.aload_n 0, 1), (.aload_n 0, 1)] (pc' := 7) (L' := [.ref 48, .int r2]) (st' := [.ref 48, .ref 48]) ⟨dX12_truth_4, dX12_truth_5, dX12_truth_6, trivial⟩ rfl ?_
  refine ms_getI mB_185 mO_185 dX12_truth_7 mF_12_256 (gk_48 N) (Or.inr rfl) ?_
  refine ms_if_ne mB_185 dX12_truth_10 (t := 23) rfl (fun c => ?_) (fun c => ?_)
  · have F := F.2 c
    exact F
  · have F := F.1 c
    refine ms_seq mB_185 mO_185 [(.iload_n 1, 1), (.i2l, 1), (.lconst 0, 1), (.lconst 1, 1)] (pc' := 17) (L' := [.ref 48, .int r2]) (st' := [.long 1, .long 0, .long (Int32.toInt64 r2), .ref 48]) ⟨dX12_truth_13, dX12_truth_14, dX12_truth_15, dX12_truth_16, trivial⟩ rfl ?_
    refine ms_callsI mB_185 mO_185 (by omega) dX12_truth_17 mQ_12_116 mC_12_116 mL_148 (by decide) rfl (Nat.le_of_ble_eq_true rfl) (Nat.le_of_ble_eq_true rfl) rfl F (fun r4 δ3 F => ?_)
    refine ms_if_ne mB_185 dX12_truth_20 (t := 27) rfl (fun c => ?_) (fun c => ?_)
    · have F := F.2 c
      refine ms_seq mB_185 mO_185 [(.iconst 0, 1)] (pc' := 28) (L' := [.ref 48, .int r2]) (st' := [.int 0, .ref 48]) ⟨dX12_truth_27, trivial⟩ rfl ?_
      exact F
    · have F := F.1 c
      exact F
set_option maxRecDepth 100000 in
theorem q12_truth_23 {N d : Nat} (hd : 5 ≤ d) {l1 : Int32} {δ : mi_D} {Q : Int32 → mi_D → Prop} (F : mi_wI N d 185 28 [.ref 48, .int l1] [.int 1, .ref 48] δ Q) : mi_wI N d 185 23 [.ref 48, .int l1] [.ref 48] δ Q := by
  unfold mi_wI
  refine ms_seq mB_185 mO_185 [(.iconst 1, 1)] (pc' := 24) (L' := [.ref 48, .int l1]) (st' := [.int 1, .ref 48]) ⟨dX12_truth_23, trivial⟩ rfl ?_
  refine ms_goto mB_185 dX12_truth_24 (t := 28) rfl ?_
  exact F
set_option maxRecDepth 100000 in
theorem q12_truth_28 {N d : Nat} (hd : 5 ≤ d) {l1 s1 : Int32} {δ : mi_D} {Q : Int32 → mi_D → Prop} (F : ((s1 = 0 ∨ s1 = 1) ∧ (∀ δ1 : mi_D, δ1 = mi_setI δ 48 48 s1 → ((l1 = 1 → Q 1 δ1) ∧ (¬ l1 = 1 → Q 0 δ1))))) : mi_wI N d 185 28 [.ref 48, .int l1] [.int s1, .ref 48] δ Q := by
  unfold mi_wI
  have G := F.1
  have F := F.2
  refine ms_putZ mB_185 mO_185 dX12_truth_28 mF_12_256 (gk_48 N) rfl rfl G ?_
  refine mr_st (fun δ1 e_δ1 => ?_)
  have F := F δ1 e_δ1
  refine ms_seq mB_185 mO_185 [(.iload_n 1, 1), (.iconst 1, 1)] (pc' := 33) (L' := [.ref 48, .int l1]) (st' := [.int 1, .int l1]) ⟨dX12_truth_31, dX12_truth_32, trivial⟩ rfl ?_
  refine ms_icmp_ne mB_185 dX12_truth_33 (t := 40) rfl (fun c => ?_) (fun c => ?_)
  · have F := F.2 c
    refine ms_seq mB_185 mO_185 [(.iconst 0, 1)] (pc' := 41) (L' := [.ref 48, .int l1]) (st' := [.int 0]) ⟨dX12_truth_40, trivial⟩ rfl ?_
    exact ms_zret mB_185 dX12_truth_41 mR_185 (by decide) ⟨_, rfl, rfl, F⟩
  · have F := F.1 c
    refine ms_seq mB_185 mO_185 [(.iconst 1, 1)] (pc' := 37) (L' := [.ref 48, .int l1]) (st' := [.int 1]) ⟨dX12_truth_36, trivial⟩ rfl ?_
    refine ms_goto mB_185 dX12_truth_37 (t := 41) rfl ?_
    exact ms_zret mB_185 dX12_truth_41 mR_185 (by decide) ⟨_, rfl, rfl, F⟩
set_option maxRecDepth 100000 in
theorem q12_isEnded_0 {N d : Nat} (hd : 5 ≤ d) {δ : mi_D} {Q : Int32 → mi_D → Prop} (F : (((δ.1 48 48) = 0 → (((δ.1 48 46) = (δ.1 48 47) → Q 1 δ) ∧ (¬ (δ.1 48 46) = (δ.1 48 47) → Q 0 δ))) ∧ (¬ (δ.1 48 48) = 0 → Q 0 δ))) : mi_wI N d 186 0 [.ref 48] [] δ Q := by
  unfold mi_wI
  refine ms_seq mB_186 mO_186 [(.aload_n 0, 1)] (pc' := 1) (L' := [.ref 48]) (st' := [.ref 48]) ⟨dX12_isEnded_0, trivial⟩ rfl ?_
  refine ms_getI mB_186 mO_186 dX12_isEnded_1 mF_12_256 (gk_48 N) (Or.inr rfl) ?_
  refine ms_if_ne mB_186 dX12_isEnded_4 (t := 22) rfl (fun c => ?_) (fun c => ?_)
  · have F := F.2 c
    refine ms_seq mB_186 mO_186 [(.iconst 0, 1)] (pc' := 23) (L' := [.ref 48]) (st' := [.int 0]) ⟨dX12_isEnded_22, trivial⟩ rfl ?_
    exact ms_zret mB_186 dX12_isEnded_23 mR_186 (by decide) ⟨_, rfl, rfl, F⟩
  · have F := F.1 c
    refine ms_seq mB_186 mO_186 [(.aload_n 0, 1)] (pc' := 8) (L' := [.ref 48]) (st' := [.ref 48]) ⟨dX12_isEnded_7, trivial⟩ rfl ?_
    refine ms_getI mB_186 mO_186 dX12_isEnded_8 mF_12_259 (gk_48 N) (Or.inl rfl) ?_
    refine ms_seq mB_186 mO_186 [(.aload_n 0, 1)] (pc' := 12) (L' := [.ref 48]) (st' := [.ref 48, .int (δ.1 48 46)]) ⟨dX12_isEnded_11, trivial⟩ rfl ?_
    refine ms_getI mB_186 mO_186 dX12_isEnded_12 mF_12_262 (gk_48 N) (Or.inl rfl) ?_
    refine ms_icmp_ne mB_186 dX12_isEnded_15 (t := 22) rfl (fun c => ?_) (fun c => ?_)
    · have F := F.2 c
      refine ms_seq mB_186 mO_186 [(.iconst 0, 1)] (pc' := 23) (L' := [.ref 48]) (st' := [.int 0]) ⟨dX12_isEnded_22, trivial⟩ rfl ?_
      exact ms_zret mB_186 dX12_isEnded_23 mR_186 (by decide) ⟨_, rfl, rfl, F⟩
    · have F := F.1 c
      refine ms_seq mB_186 mO_186 [(.iconst 1, 1)] (pc' := 19) (L' := [.ref 48]) (st' := [.int 1]) ⟨dX12_isEnded_18, trivial⟩ rfl ?_
      refine ms_goto mB_186 dX12_isEnded_19 (t := 23) rfl ?_
      exact ms_zret mB_186 dX12_isEnded_23 mR_186 (by decide) ⟨_, rfl, rfl, F⟩
set_option maxRecDepth 100000 in
theorem q12_isDone_0 {N d : Nat} (hd : 5 ≤ d) {p0 : Int32} {δ : mi_D} {Q : Int32 → mi_D → Prop} (F : ((p0 = 1 → (mi_wI N (d - 1) 184 0 [.ref 48, .null, .null] [] δ (fun r2 δ1 => (mi_wI N (d - 1) 184 0 [.ref 48, .null, .null] [] δ1 (fun r4 δ3 => (mi_wI N (d - 1) 184 0 [.ref 48, .null, .null] [] δ3 (fun r6 δ5 => (mi_wI N (d - 1) 185 0 [.ref 48, .null] [] δ5 (fun r8 δ7 => (mi_wI N (d - 1) 186 0 [.ref 48] [] δ7 (fun r10 δ9 => ((r10 = 0 → Q 0 δ9) ∧ (¬ r10 = 0 → (mi_wI N (d - 1) 157 0 [.ref 48, .int r2, .int r4, .int r6, .int r8, .null] [] δ9 (fun r12 δ11 => ((r12 < 0 → Q 0 δ11) ∧ (¬ r12 < 0 → Q 1 δ11))))))))))))))))) ∧ (p0 = 2 → (mi_wI N (d - 1) 184 0 [.ref 48, .null, .null] [] δ (fun r14 δ13 => (mi_wI N (d - 1) 185 0 [.ref 48, .null] [] δ13 (fun r16 δ15 => (mi_wI N (d - 1) 186 0 [.ref 48] [] δ15 (fun r18 δ17 => ((r18 = 0 → Q 0 δ17) ∧ (¬ r18 = 0 → (mi_wI N (d - 1) 158 0 [.ref 48, .int r14, .int r16] [] δ17 (fun r20 δ19 => ((r20 < 0 → Q 0 δ19) ∧ (¬ r20 < 0 → Q 1 δ19))))))))))))) ∧ (p0 = 3 → (mi_wI N (d - 1) 184 0 [.ref 48, .null, .null] [] δ (fun r22 δ21 => (mi_wI N (d - 1) 186 0 [.ref 48] [] δ21 (fun r24 δ23 => ((r24 = 0 → Q 0 δ23) ∧ (¬ r24 = 0 → (mi_wI N (d - 1) 160 0 [.ref 48, .int r22] [] δ23 (fun r26 δ25 => ((r26 < 0 → Q 0 δ25) ∧ (¬ r26 < 0 → Q 1 δ25))))))))))) ∧ (p0 = 4 → (mi_wI N (d - 1) 184 0 [.ref 48, .null, .null] [] δ (fun r28 δ27 => (mi_wI N (d - 1) 186 0 [.ref 48] [] δ27 (fun r30 δ29 => ((r30 = 0 → Q 0 δ29) ∧ (¬ r30 = 0 → (mi_wI N (d - 1) 161 0 [.ref 48, .int r28, .null] [] δ29 (fun r32 δ31 => ((r32 < (-1) → Q 0 δ31) ∧ (¬ r32 < (-1) → Q 1 δ31))))))))))) ∧ (p0 = 5 → (mi_wI N (d - 1) 188 0 [.ref 48, .null, .null, .null, .null, .null, .null, .null, .null] [] δ (fun r34 δ33 => ((r34 = 0 ∨ r34 = 1) ∧ Q r34 δ33)))) ∧ (p0 = 6 → (mi_wI N (d - 1) 184 0 [.ref 48, .null, .null] [] δ (fun r36 δ35 => (mi_wI N (d - 1) 184 0 [.ref 48, .null, .null] [] δ35 (fun r38 δ37 => (mi_wI N (d - 1) 186 0 [.ref 48] [] δ37 (fun r40 δ39 => ((r40 = 0 → Q 0 δ39) ∧ (¬ r40 = 0 → (mi_wI N (d - 1) 172 0 [.ref 48, .int r36, .int r38, .null, .null] [] δ39 (fun r42 δ41 => ((r42 < 0 → Q 0 δ41) ∧ (¬ r42 < 0 → Q 1 δ41))))))))))))) ∧ (p0 = 7 → (mi_wI N (d - 1) 186 0 [.ref 48] [] δ (fun r44 δ43 => ((r44 = 0 → Q 0 δ43) ∧ (¬ r44 = 0 → (mi_wI N (d - 1) 176 0 [.ref 48, .null, .null, .null, .null, .null, .null] [] δ43 (fun r46 δ45 => ((r46 < 0 → Q 0 δ45) ∧ (¬ r46 < 0 → Q 1 δ45))))))))) ∧ (p0 = 8 → (mi_wI N (d - 1) 186 0 [.ref 48] [] δ (fun r48 δ47 => ((r48 = 0 → Q 0 δ47) ∧ (¬ r48 = 0 → (mi_wI N (d - 1) 177 0 [.ref 48, .null, .null] [] δ47 (fun r50 δ49 => ((r50 < 0 → Q 0 δ49) ∧ (¬ r50 < 0 → Q 1 δ49))))))))) ∧ (¬ p0 = 1 → ¬ p0 = 2 → ¬ p0 = 3 → ¬ p0 = 4 → ¬ p0 = 5 → ¬ p0 = 6 → ¬ p0 = 7 → ¬ p0 = 8 → Q 0 δ))) : mi_wI N d 187 0 [.ref 48, .int p0, .null, .null, .null, .null, .null, .null, .null, .null, .null, .null] [] δ Q := by
  unfold mi_wI
  refine ms_seq mB_187 mO_187 [(.iload_n 1, 1)] (pc' := 1) (L' := [.ref 48, .int p0, .null, .null, .null, .null, .null, .null, .null, .null, .null, .null]) (st' := [.int p0]) ⟨dX12_isDone_0, trivial⟩ rfl ?_
  by_cases n1 : p0 = 1
  · refine ms_pure mB_187 mO_187 (pc' := 48) (L' := [.ref 48, .int p0, .null, .null, .null, .null, .null, .null, .null, .null, .null, .null]) (st' := []) dX12_isDone_1 (by rw [n1]; rfl) ?_
    have F := F.1 n1
    refine ms_seq mB_187 mO_187 [(.aload_n 0, 1)] (pc' := 49) (L' := [.ref 48, .int p0, .null, .null, .null, .null, .null, .null, .null, .null, .null, .null]) (st' := [.ref 48]) ⟨dX12_isDone_48, trivial⟩ rfl ?_
    refine ms_callvI mB_187 mO_187 (by omega) dX12_isDone_49 mQ_12_273 mC_12_273 mL_184 mO_184 rfl (Nat.le_of_ble_eq_true rfl) (Nat.le_of_ble_eq_true rfl) (gk_48 N) rfl F (fun r2 δ1 F => ?_)
    refine ms_seq mB_187 mO_187 [(.istore_n 2, 1), (.aload_n 0, 1)] (pc' := 54) (L' := [.ref 48, .int p0, .int r2, .null, .null, .null, .null, .null, .null, .null, .null, .null]) (st' := [.ref 48]) ⟨dX12_isDone_52, dX12_isDone_53, trivial⟩ rfl ?_
    refine ms_callvI mB_187 mO_187 (by omega) dX12_isDone_54 mQ_12_273 mC_12_273 mL_184 mO_184 rfl (Nat.le_of_ble_eq_true rfl) (Nat.le_of_ble_eq_true rfl) (gk_48 N) rfl F (fun r4 δ3 F => ?_)
    refine ms_seq mB_187 mO_187 [(.istore_n 3, 1), (.aload_n 0, 1)] (pc' := 59) (L' := [.ref 48, .int p0, .int r2, .int r4, .null, .null, .null, .null, .null, .null, .null, .null]) (st' := [.ref 48]) ⟨dX12_isDone_57, dX12_isDone_58, trivial⟩ rfl ?_
    refine ms_callvI mB_187 mO_187 (by omega) dX12_isDone_59 mQ_12_273 mC_12_273 mL_184 mO_184 rfl (Nat.le_of_ble_eq_true rfl) (Nat.le_of_ble_eq_true rfl) (gk_48 N) rfl F (fun r6 δ5 F => ?_)
    refine ms_seq mB_187 mO_187 [(.istore 4, 2), (.aload_n 0, 1)] (pc' := 65) (L' := [.ref 48, .int p0, .int r2, .int r4, .int r6, .null, .null, .null, .null, .null, .null, .null]) (st' := [.ref 48]) ⟨dX12_isDone_62, dX12_isDone_64, trivial⟩ rfl ?_
    refine ms_callvI mB_187 mO_187 (by omega) dX12_isDone_65 mQ_12_277 mC_12_277 mL_185 mO_185 rfl (Nat.le_of_ble_eq_true rfl) (Nat.le_of_ble_eq_true rfl) (gk_48 N) rfl F (fun r8 δ7 F => ?_)
    refine ms_seq mB_187 mO_187 [(.istore 5, 2), (.aload_n 0, 1)] (pc' := 71) (L' := [.ref 48, .int p0, .int r2, .int r4, .int r6, .int r8, .null, .null, .null, .null, .null, .null]) (st' := [.ref 48]) ⟨dX12_isDone_68, dX12_isDone_70, trivial⟩ rfl ?_
    refine ms_callvI mB_187 mO_187 (by omega) dX12_isDone_71 mQ_12_280 mC_12_280 mL_186 mO_186 rfl (Nat.le_of_ble_eq_true rfl) (Nat.le_of_ble_eq_true rfl) (gk_48 N) rfl F (fun r10 δ9 F => ?_)
    refine ms_if_eq mB_187 dX12_isDone_74 (t := 94) rfl (fun c => ?_) (fun c => ?_)
    · have F := F.1 c
      refine ms_seq mB_187 mO_187 [(.iconst 0, 1)] (pc' := 95) (L' := [.ref 48, .int p0, .int r2, .int r4, .int r6, .int r8, .null, .null, .null, .null, .null, .null]) (st' := [.int 0]) ⟨dX12_isDone_94, trivial⟩ rfl ?_
      exact ms_zret mB_187 dX12_isDone_95 mR_187 (by decide) ⟨_, rfl, rfl, F⟩
    · have F := F.2 c
      refine ms_seq mB_187 mO_187 [(.aload_n 0, 1), (.iload_n 2, 1), (.iload_n 3, 1), (.iload 4, 2), (.iload 5, 2)] (pc' := 84) (L' := [.ref 48, .int p0, .int r2, .int r4, .int r6, .int r8, .null, .null, .null, .null, .null, .null]) (st' := [.int r8, .int r6, .int r4, .int r2, .ref 48]) ⟨dX12_isDone_77, dX12_isDone_78, dX12_isDone_79, dX12_isDone_80, dX12_isDone_82, trivial⟩ rfl ?_
      refine ms_callvI mB_187 mO_187 (by omega) dX12_isDone_84 mQ_12_283 mC_12_283 mL_157 mO_157 rfl (Nat.le_of_ble_eq_true rfl) (Nat.le_of_ble_eq_true rfl) (gk_48 N) rfl F (fun r12 δ11 F => ?_)
      refine ms_if_lt mB_187 dX12_isDone_87 (t := 94) rfl (fun c => ?_) (fun c => ?_)
      · have F := F.1 c
        refine ms_seq mB_187 mO_187 [(.iconst 0, 1)] (pc' := 95) (L' := [.ref 48, .int p0, .int r2, .int r4, .int r6, .int r8, .null, .null, .null, .null, .null, .null]) (st' := [.int 0]) ⟨dX12_isDone_94, trivial⟩ rfl ?_
        exact ms_zret mB_187 dX12_isDone_95 mR_187 (by decide) ⟨_, rfl, rfl, F⟩
      · have F := F.2 c
        refine ms_seq mB_187 mO_187 [(.iconst 1, 1)] (pc' := 91) (L' := [.ref 48, .int p0, .int r2, .int r4, .int r6, .int r8, .null, .null, .null, .null, .null, .null]) (st' := [.int 1]) ⟨dX12_isDone_90, trivial⟩ rfl ?_
        refine ms_goto mB_187 dX12_isDone_91 (t := 95) rfl ?_
        exact ms_zret mB_187 dX12_isDone_95 mR_187 (by decide) ⟨_, rfl, rfl, F⟩
  have F := F.2
  by_cases n2 : p0 = 2
  · refine ms_pure mB_187 mO_187 (pc' := 96) (L' := [.ref 48, .int p0, .null, .null, .null, .null, .null, .null, .null, .null, .null, .null]) (st' := []) dX12_isDone_1 (by rw [n2]; rfl) ?_
    have F := F.1 n2
    refine ms_seq mB_187 mO_187 [(.aload_n 0, 1)] (pc' := 97) (L' := [.ref 48, .int p0, .null, .null, .null, .null, .null, .null, .null, .null, .null, .null]) (st' := [.ref 48]) ⟨dX12_isDone_96, trivial⟩ rfl ?_
    refine ms_callvI mB_187 mO_187 (by omega) dX12_isDone_97 mQ_12_273 mC_12_273 mL_184 mO_184 rfl (Nat.le_of_ble_eq_true rfl) (Nat.le_of_ble_eq_true rfl) (gk_48 N) rfl F (fun r14 δ13 F => ?_)
    refine ms_seq mB_187 mO_187 [(.istore 6, 2), (.aload_n 0, 1)] (pc' := 103) (L' := [.ref 48, .int p0, .null, .null, .null, .null, .int r14, .null, .null, .null, .null, .null]) (st' := [.ref 48]) ⟨dX12_isDone_100, dX12_isDone_102, trivial⟩ rfl ?_
    refine ms_callvI mB_187 mO_187 (by omega) dX12_isDone_103 mQ_12_277 mC_12_277 mL_185 mO_185 rfl (Nat.le_of_ble_eq_true rfl) (Nat.le_of_ble_eq_true rfl) (gk_48 N) rfl F (fun r16 δ15 F => ?_)
    refine ms_seq mB_187 mO_187 [(.istore 7, 2), (.aload_n 0, 1)] (pc' := 109) (L' := [.ref 48, .int p0, .null, .null, .null, .null, .int r14, .int r16, .null, .null, .null, .null]) (st' := [.ref 48]) ⟨dX12_isDone_106, dX12_isDone_108, trivial⟩ rfl ?_
    refine ms_callvI mB_187 mO_187 (by omega) dX12_isDone_109 mQ_12_280 mC_12_280 mL_186 mO_186 rfl (Nat.le_of_ble_eq_true rfl) (Nat.le_of_ble_eq_true rfl) (gk_48 N) rfl F (fun r18 δ17 F => ?_)
    refine ms_if_eq mB_187 dX12_isDone_112 (t := 130) rfl (fun c => ?_) (fun c => ?_)
    · have F := F.1 c
      refine ms_seq mB_187 mO_187 [(.iconst 0, 1)] (pc' := 131) (L' := [.ref 48, .int p0, .null, .null, .null, .null, .int r14, .int r16, .null, .null, .null, .null]) (st' := [.int 0]) ⟨dX12_isDone_130, trivial⟩ rfl ?_
      exact ms_zret mB_187 dX12_isDone_131 mR_187 (by decide) ⟨_, rfl, rfl, F⟩
    · have F := F.2 c
      refine ms_seq mB_187 mO_187 [(.aload_n 0, 1), (.iload 6, 2), (.iload 7, 2)] (pc' := 120) (L' := [.ref 48, .int p0, .null, .null, .null, .null, .int r14, .int r16, .null, .null, .null, .null]) (st' := [.int r16, .int r14, .ref 48]) ⟨dX12_isDone_115, dX12_isDone_116, dX12_isDone_118, trivial⟩ rfl ?_
      refine ms_callvI mB_187 mO_187 (by omega) dX12_isDone_120 mQ_12_287 mC_12_287 mL_158 mO_158 rfl (Nat.le_of_ble_eq_true rfl) (Nat.le_of_ble_eq_true rfl) (gk_48 N) rfl F (fun r20 δ19 F => ?_)
      refine ms_if_lt mB_187 dX12_isDone_123 (t := 130) rfl (fun c => ?_) (fun c => ?_)
      · have F := F.1 c
        refine ms_seq mB_187 mO_187 [(.iconst 0, 1)] (pc' := 131) (L' := [.ref 48, .int p0, .null, .null, .null, .null, .int r14, .int r16, .null, .null, .null, .null]) (st' := [.int 0]) ⟨dX12_isDone_130, trivial⟩ rfl ?_
        exact ms_zret mB_187 dX12_isDone_131 mR_187 (by decide) ⟨_, rfl, rfl, F⟩
      · have F := F.2 c
        refine ms_seq mB_187 mO_187 [(.iconst 1, 1)] (pc' := 127) (L' := [.ref 48, .int p0, .null, .null, .null, .null, .int r14, .int r16, .null, .null, .null, .null]) (st' := [.int 1]) ⟨dX12_isDone_126, trivial⟩ rfl ?_
        refine ms_goto mB_187 dX12_isDone_127 (t := 131) rfl ?_
        exact ms_zret mB_187 dX12_isDone_131 mR_187 (by decide) ⟨_, rfl, rfl, F⟩
  have F := F.2
  by_cases n3 : p0 = 3
  · refine ms_pure mB_187 mO_187 (pc' := 132) (L' := [.ref 48, .int p0, .null, .null, .null, .null, .null, .null, .null, .null, .null, .null]) (st' := []) dX12_isDone_1 (by rw [n3]; rfl) ?_
    have F := F.1 n3
    refine ms_seq mB_187 mO_187 [(.aload_n 0, 1)] (pc' := 133) (L' := [.ref 48, .int p0, .null, .null, .null, .null, .null, .null, .null, .null, .null, .null]) (st' := [.ref 48]) ⟨dX12_isDone_132, trivial⟩ rfl ?_
    refine ms_callvI mB_187 mO_187 (by omega) dX12_isDone_133 mQ_12_273 mC_12_273 mL_184 mO_184 rfl (Nat.le_of_ble_eq_true rfl) (Nat.le_of_ble_eq_true rfl) (gk_48 N) rfl F (fun r22 δ21 F => ?_)
    refine ms_seq mB_187 mO_187 [(.istore 8, 2), (.aload_n 0, 1)] (pc' := 139) (L' := [.ref 48, .int p0, .null, .null, .null, .null, .null, .null, .int r22, .null, .null, .null]) (st' := [.ref 48]) ⟨dX12_isDone_136, dX12_isDone_138, trivial⟩ rfl ?_
    refine ms_callvI mB_187 mO_187 (by omega) dX12_isDone_139 mQ_12_280 mC_12_280 mL_186 mO_186 rfl (Nat.le_of_ble_eq_true rfl) (Nat.le_of_ble_eq_true rfl) (gk_48 N) rfl F (fun r24 δ23 F => ?_)
    refine ms_if_eq mB_187 dX12_isDone_142 (t := 158) rfl (fun c => ?_) (fun c => ?_)
    · have F := F.1 c
      refine ms_seq mB_187 mO_187 [(.iconst 0, 1)] (pc' := 159) (L' := [.ref 48, .int p0, .null, .null, .null, .null, .null, .null, .int r22, .null, .null, .null]) (st' := [.int 0]) ⟨dX12_isDone_158, trivial⟩ rfl ?_
      exact ms_zret mB_187 dX12_isDone_159 mR_187 (by decide) ⟨_, rfl, rfl, F⟩
    · have F := F.2 c
      refine ms_seq mB_187 mO_187 [(.aload_n 0, 1), (.iload 8, 2)] (pc' := 148) (L' := [.ref 48, .int p0, .null, .null, .null, .null, .null, .null, .int r22, .null, .null, .null]) (st' := [.int r22, .ref 48]) ⟨dX12_isDone_145, dX12_isDone_146, trivial⟩ rfl ?_
      refine ms_callvI mB_187 mO_187 (by omega) dX12_isDone_148 mQ_12_291 mC_12_291 mL_160 mO_160 rfl (Nat.le_of_ble_eq_true rfl) (Nat.le_of_ble_eq_true rfl) (gk_48 N) rfl F (fun r26 δ25 F => ?_)
      refine ms_if_lt mB_187 dX12_isDone_151 (t := 158) rfl (fun c => ?_) (fun c => ?_)
      · have F := F.1 c
        refine ms_seq mB_187 mO_187 [(.iconst 0, 1)] (pc' := 159) (L' := [.ref 48, .int p0, .null, .null, .null, .null, .null, .null, .int r22, .null, .null, .null]) (st' := [.int 0]) ⟨dX12_isDone_158, trivial⟩ rfl ?_
        exact ms_zret mB_187 dX12_isDone_159 mR_187 (by decide) ⟨_, rfl, rfl, F⟩
      · have F := F.2 c
        refine ms_seq mB_187 mO_187 [(.iconst 1, 1)] (pc' := 155) (L' := [.ref 48, .int p0, .null, .null, .null, .null, .null, .null, .int r22, .null, .null, .null]) (st' := [.int 1]) ⟨dX12_isDone_154, trivial⟩ rfl ?_
        refine ms_goto mB_187 dX12_isDone_155 (t := 159) rfl ?_
        exact ms_zret mB_187 dX12_isDone_159 mR_187 (by decide) ⟨_, rfl, rfl, F⟩
  have F := F.2
  by_cases n4 : p0 = 4
  · refine ms_pure mB_187 mO_187 (pc' := 160) (L' := [.ref 48, .int p0, .null, .null, .null, .null, .null, .null, .null, .null, .null, .null]) (st' := []) dX12_isDone_1 (by rw [n4]; rfl) ?_
    have F := F.1 n4
    refine ms_seq mB_187 mO_187 [(.aload_n 0, 1)] (pc' := 161) (L' := [.ref 48, .int p0, .null, .null, .null, .null, .null, .null, .null, .null, .null, .null]) (st' := [.ref 48]) ⟨dX12_isDone_160, trivial⟩ rfl ?_
    refine ms_callvI mB_187 mO_187 (by omega) dX12_isDone_161 mQ_12_273 mC_12_273 mL_184 mO_184 rfl (Nat.le_of_ble_eq_true rfl) (Nat.le_of_ble_eq_true rfl) (gk_48 N) rfl F (fun r28 δ27 F => ?_)
    refine ms_seq mB_187 mO_187 [(.istore 9, 2), (.aload_n 0, 1)] (pc' := 167) (L' := [.ref 48, .int p0, .null, .null, .null, .null, .null, .null, .null, .int r28, .null, .null]) (st' := [.ref 48]) ⟨dX12_isDone_164, dX12_isDone_166, trivial⟩ rfl ?_
    refine ms_callvI mB_187 mO_187 (by omega) dX12_isDone_167 mQ_12_280 mC_12_280 mL_186 mO_186 rfl (Nat.le_of_ble_eq_true rfl) (Nat.le_of_ble_eq_true rfl) (gk_48 N) rfl F (fun r30 δ29 F => ?_)
    refine ms_if_eq mB_187 dX12_isDone_170 (t := 187) rfl (fun c => ?_) (fun c => ?_)
    · have F := F.1 c
      refine ms_seq mB_187 mO_187 [(.iconst 0, 1)] (pc' := 188) (L' := [.ref 48, .int p0, .null, .null, .null, .null, .null, .null, .null, .int r28, .null, .null]) (st' := [.int 0]) ⟨dX12_isDone_187, trivial⟩ rfl ?_
      exact ms_zret mB_187 dX12_isDone_188 mR_187 (by decide) ⟨_, rfl, rfl, F⟩
    · have F := F.2 c
      refine ms_seq mB_187 mO_187 [(.aload_n 0, 1), (.iload 9, 2)] (pc' := 176) (L' := [.ref 48, .int p0, .null, .null, .null, .null, .null, .null, .null, .int r28, .null, .null]) (st' := [.int r28, .ref 48]) ⟨dX12_isDone_173, dX12_isDone_174, trivial⟩ rfl ?_
      refine ms_callvI mB_187 mO_187 (by omega) dX12_isDone_176 mQ_12_294 mC_12_294 mL_161 mO_161 rfl (Nat.le_of_ble_eq_true rfl) (Nat.le_of_ble_eq_true rfl) (gk_48 N) rfl F (fun r32 δ31 F => ?_)
      refine ms_seq mB_187 mO_187 [(.iconst (-1), 1)] (pc' := 180) (L' := [.ref 48, .int p0, .null, .null, .null, .null, .null, .null, .null, .int r28, .null, .null]) (st' := [.int (-1), .int r32]) ⟨dX12_isDone_179, trivial⟩ rfl ?_
      refine ms_icmp_lt mB_187 dX12_isDone_180 (t := 187) rfl (fun c => ?_) (fun c => ?_)
      · have F := F.1 c
        refine ms_seq mB_187 mO_187 [(.iconst 0, 1)] (pc' := 188) (L' := [.ref 48, .int p0, .null, .null, .null, .null, .null, .null, .null, .int r28, .null, .null]) (st' := [.int 0]) ⟨dX12_isDone_187, trivial⟩ rfl ?_
        exact ms_zret mB_187 dX12_isDone_188 mR_187 (by decide) ⟨_, rfl, rfl, F⟩
      · have F := F.2 c
        refine ms_seq mB_187 mO_187 [(.iconst 1, 1)] (pc' := 184) (L' := [.ref 48, .int p0, .null, .null, .null, .null, .null, .null, .null, .int r28, .null, .null]) (st' := [.int 1]) ⟨dX12_isDone_183, trivial⟩ rfl ?_
        refine ms_goto mB_187 dX12_isDone_184 (t := 188) rfl ?_
        exact ms_zret mB_187 dX12_isDone_188 mR_187 (by decide) ⟨_, rfl, rfl, F⟩
  have F := F.2
  by_cases n5 : p0 = 5
  · refine ms_pure mB_187 mO_187 (pc' := 189) (L' := [.ref 48, .int p0, .null, .null, .null, .null, .null, .null, .null, .null, .null, .null]) (st' := []) dX12_isDone_1 (by rw [n5]; rfl) ?_
    have F := F.1 n5
    refine ms_seq mB_187 mO_187 [(.aload_n 0, 1)] (pc' := 190) (L' := [.ref 48, .int p0, .null, .null, .null, .null, .null, .null, .null, .null, .null, .null]) (st' := [.ref 48]) ⟨dX12_isDone_189, trivial⟩ rfl ?_
    refine ms_callvI mB_187 mO_187 (by omega) dX12_isDone_190 mQ_12_296 mC_12_296 mL_188 mO_188 rfl (Nat.le_of_ble_eq_true rfl) (Nat.le_of_ble_eq_true rfl) (gk_48 N) rfl F (fun r34 δ33 F => ?_)
    exact ms_zret mB_187 dX12_isDone_193 mR_187 F.1 ⟨_, rfl, rfl, F.2⟩
  have F := F.2
  by_cases n6 : p0 = 6
  · refine ms_pure mB_187 mO_187 (pc' := 194) (L' := [.ref 48, .int p0, .null, .null, .null, .null, .null, .null, .null, .null, .null, .null]) (st' := []) dX12_isDone_1 (by rw [n6]; rfl) ?_
    have F := F.1 n6
    refine ms_seq mB_187 mO_187 [(.aload_n 0, 1)] (pc' := 195) (L' := [.ref 48, .int p0, .null, .null, .null, .null, .null, .null, .null, .null, .null, .null]) (st' := [.ref 48]) ⟨dX12_isDone_194, trivial⟩ rfl ?_
    refine ms_callvI mB_187 mO_187 (by omega) dX12_isDone_195 mQ_12_273 mC_12_273 mL_184 mO_184 rfl (Nat.le_of_ble_eq_true rfl) (Nat.le_of_ble_eq_true rfl) (gk_48 N) rfl F (fun r36 δ35 F => ?_)
    refine ms_seq mB_187 mO_187 [(.istore 10, 2), (.aload_n 0, 1)] (pc' := 201) (L' := [.ref 48, .int p0, .null, .null, .null, .null, .null, .null, .null, .null, .int r36, .null]) (st' := [.ref 48]) ⟨dX12_isDone_198, dX12_isDone_200, trivial⟩ rfl ?_
    refine ms_callvI mB_187 mO_187 (by omega) dX12_isDone_201 mQ_12_273 mC_12_273 mL_184 mO_184 rfl (Nat.le_of_ble_eq_true rfl) (Nat.le_of_ble_eq_true rfl) (gk_48 N) rfl F (fun r38 δ37 F => ?_)
    refine ms_seq mB_187 mO_187 [(.istore 11, 2), (.aload_n 0, 1)] (pc' := 207) (L' := [.ref 48, .int p0, .null, .null, .null, .null, .null, .null, .null, .null, .int r36, .int r38]) (st' := [.ref 48]) ⟨dX12_isDone_204, dX12_isDone_206, trivial⟩ rfl ?_
    refine ms_callvI mB_187 mO_187 (by omega) dX12_isDone_207 mQ_12_280 mC_12_280 mL_186 mO_186 rfl (Nat.le_of_ble_eq_true rfl) (Nat.le_of_ble_eq_true rfl) (gk_48 N) rfl F (fun r40 δ39 F => ?_)
    refine ms_if_eq mB_187 dX12_isDone_210 (t := 228) rfl (fun c => ?_) (fun c => ?_)
    · have F := F.1 c
      refine ms_seq mB_187 mO_187 [(.iconst 0, 1)] (pc' := 229) (L' := [.ref 48, .int p0, .null, .null, .null, .null, .null, .null, .null, .null, .int r36, .int r38]) (st' := [.int 0]) ⟨dX12_isDone_228, trivial⟩ rfl ?_
      exact ms_zret mB_187 dX12_isDone_229 mR_187 (by decide) ⟨_, rfl, rfl, F⟩
    · have F := F.2 c
      refine ms_seq mB_187 mO_187 [(.aload_n 0, 1), (.iload 10, 2), (.iload 11, 2)] (pc' := 218) (L' := [.ref 48, .int p0, .null, .null, .null, .null, .null, .null, .null, .null, .int r36, .int r38]) (st' := [.int r38, .int r36, .ref 48]) ⟨dX12_isDone_213, dX12_isDone_214, dX12_isDone_216, trivial⟩ rfl ?_
      refine ms_callvI mB_187 mO_187 (by omega) dX12_isDone_218 mQ_12_299 mC_12_299 mL_172 mO_172 rfl (Nat.le_of_ble_eq_true rfl) (Nat.le_of_ble_eq_true rfl) (gk_48 N) rfl F (fun r42 δ41 F => ?_)
      refine ms_if_lt mB_187 dX12_isDone_221 (t := 228) rfl (fun c => ?_) (fun c => ?_)
      · have F := F.1 c
        refine ms_seq mB_187 mO_187 [(.iconst 0, 1)] (pc' := 229) (L' := [.ref 48, .int p0, .null, .null, .null, .null, .null, .null, .null, .null, .int r36, .int r38]) (st' := [.int 0]) ⟨dX12_isDone_228, trivial⟩ rfl ?_
        exact ms_zret mB_187 dX12_isDone_229 mR_187 (by decide) ⟨_, rfl, rfl, F⟩
      · have F := F.2 c
        refine ms_seq mB_187 mO_187 [(.iconst 1, 1)] (pc' := 225) (L' := [.ref 48, .int p0, .null, .null, .null, .null, .null, .null, .null, .null, .int r36, .int r38]) (st' := [.int 1]) ⟨dX12_isDone_224, trivial⟩ rfl ?_
        refine ms_goto mB_187 dX12_isDone_225 (t := 229) rfl ?_
        exact ms_zret mB_187 dX12_isDone_229 mR_187 (by decide) ⟨_, rfl, rfl, F⟩
  have F := F.2
  by_cases n7 : p0 = 7
  · refine ms_pure mB_187 mO_187 (pc' := 230) (L' := [.ref 48, .int p0, .null, .null, .null, .null, .null, .null, .null, .null, .null, .null]) (st' := []) dX12_isDone_1 (by rw [n7]; rfl) ?_
    have F := F.1 n7
    refine ms_seq mB_187 mO_187 [(.aload_n 0, 1)] (pc' := 231) (L' := [.ref 48, .int p0, .null, .null, .null, .null, .null, .null, .null, .null, .null, .null]) (st' := [.ref 48]) ⟨dX12_isDone_230, trivial⟩ rfl ?_
    refine ms_callvI mB_187 mO_187 (by omega) dX12_isDone_231 mQ_12_280 mC_12_280 mL_186 mO_186 rfl (Nat.le_of_ble_eq_true rfl) (Nat.le_of_ble_eq_true rfl) (gk_48 N) rfl F (fun r44 δ43 F => ?_)
    refine ms_if_eq mB_187 dX12_isDone_234 (t := 248) rfl (fun c => ?_) (fun c => ?_)
    · have F := F.1 c
      refine ms_seq mB_187 mO_187 [(.iconst 0, 1)] (pc' := 249) (L' := [.ref 48, .int p0, .null, .null, .null, .null, .null, .null, .null, .null, .null, .null]) (st' := [.int 0]) ⟨dX12_isDone_248, trivial⟩ rfl ?_
      exact ms_zret mB_187 dX12_isDone_249 mR_187 (by decide) ⟨_, rfl, rfl, F⟩
    · have F := F.2 c
      refine ms_seq mB_187 mO_187 [(.aload_n 0, 1)] (pc' := 238) (L' := [.ref 48, .int p0, .null, .null, .null, .null, .null, .null, .null, .null, .null, .null]) (st' := [.ref 48]) ⟨dX12_isDone_237, trivial⟩ rfl ?_
      refine ms_callvI mB_187 mO_187 (by omega) dX12_isDone_238 mQ_12_302 mC_12_302 mL_176 mO_176 rfl (Nat.le_of_ble_eq_true rfl) (Nat.le_of_ble_eq_true rfl) (gk_48 N) rfl F (fun r46 δ45 F => ?_)
      refine ms_if_lt mB_187 dX12_isDone_241 (t := 248) rfl (fun c => ?_) (fun c => ?_)
      · have F := F.1 c
        refine ms_seq mB_187 mO_187 [(.iconst 0, 1)] (pc' := 249) (L' := [.ref 48, .int p0, .null, .null, .null, .null, .null, .null, .null, .null, .null, .null]) (st' := [.int 0]) ⟨dX12_isDone_248, trivial⟩ rfl ?_
        exact ms_zret mB_187 dX12_isDone_249 mR_187 (by decide) ⟨_, rfl, rfl, F⟩
      · have F := F.2 c
        refine ms_seq mB_187 mO_187 [(.iconst 1, 1)] (pc' := 245) (L' := [.ref 48, .int p0, .null, .null, .null, .null, .null, .null, .null, .null, .null, .null]) (st' := [.int 1]) ⟨dX12_isDone_244, trivial⟩ rfl ?_
        refine ms_goto mB_187 dX12_isDone_245 (t := 249) rfl ?_
        exact ms_zret mB_187 dX12_isDone_249 mR_187 (by decide) ⟨_, rfl, rfl, F⟩
  have F := F.2
  by_cases n8 : p0 = 8
  · refine ms_pure mB_187 mO_187 (pc' := 250) (L' := [.ref 48, .int p0, .null, .null, .null, .null, .null, .null, .null, .null, .null, .null]) (st' := []) dX12_isDone_1 (by rw [n8]; rfl) ?_
    have F := F.1 n8
    refine ms_seq mB_187 mO_187 [(.aload_n 0, 1)] (pc' := 251) (L' := [.ref 48, .int p0, .null, .null, .null, .null, .null, .null, .null, .null, .null, .null]) (st' := [.ref 48]) ⟨dX12_isDone_250, trivial⟩ rfl ?_
    refine ms_callvI mB_187 mO_187 (by omega) dX12_isDone_251 mQ_12_280 mC_12_280 mL_186 mO_186 rfl (Nat.le_of_ble_eq_true rfl) (Nat.le_of_ble_eq_true rfl) (gk_48 N) rfl F (fun r48 δ47 F => ?_)
    refine ms_if_eq mB_187 dX12_isDone_254 (t := 268) rfl (fun c => ?_) (fun c => ?_)
    · have F := F.1 c
      refine ms_seq mB_187 mO_187 [(.iconst 0, 1)] (pc' := 269) (L' := [.ref 48, .int p0, .null, .null, .null, .null, .null, .null, .null, .null, .null, .null]) (st' := [.int 0]) ⟨dX12_isDone_268, trivial⟩ rfl ?_
      exact ms_zret mB_187 dX12_isDone_269 mR_187 (by decide) ⟨_, rfl, rfl, F⟩
    · have F := F.2 c
      refine ms_seq mB_187 mO_187 [(.aload_n 0, 1)] (pc' := 258) (L' := [.ref 48, .int p0, .null, .null, .null, .null, .null, .null, .null, .null, .null, .null]) (st' := [.ref 48]) ⟨dX12_isDone_257, trivial⟩ rfl ?_
      refine ms_callvI mB_187 mO_187 (by omega) dX12_isDone_258 mQ_12_305 mC_12_305 mL_177 mO_177 rfl (Nat.le_of_ble_eq_true rfl) (Nat.le_of_ble_eq_true rfl) (gk_48 N) rfl F (fun r50 δ49 F => ?_)
      refine ms_if_lt mB_187 dX12_isDone_261 (t := 268) rfl (fun c => ?_) (fun c => ?_)
      · have F := F.1 c
        refine ms_seq mB_187 mO_187 [(.iconst 0, 1)] (pc' := 269) (L' := [.ref 48, .int p0, .null, .null, .null, .null, .null, .null, .null, .null, .null, .null]) (st' := [.int 0]) ⟨dX12_isDone_268, trivial⟩ rfl ?_
        exact ms_zret mB_187 dX12_isDone_269 mR_187 (by decide) ⟨_, rfl, rfl, F⟩
      · have F := F.2 c
        refine ms_seq mB_187 mO_187 [(.iconst 1, 1)] (pc' := 265) (L' := [.ref 48, .int p0, .null, .null, .null, .null, .null, .null, .null, .null, .null, .null]) (st' := [.int 1]) ⟨dX12_isDone_264, trivial⟩ rfl ?_
        refine ms_goto mB_187 dX12_isDone_265 (t := 269) rfl ?_
        exact ms_zret mB_187 dX12_isDone_269 mR_187 (by decide) ⟨_, rfl, rfl, F⟩
  have F := F.2
  refine ms_swd mB_187 dX12_isDone_1 (t := 270) (by have a1 := lv_neT n1 (a := 1) rfl; have a2 := lv_neT n2 (a := 2) rfl; have a3 := lv_neT n3 (a := 3) rfl; have a4 := lv_neT n4 (a := 4) rfl; have a5 := lv_neT n5 (a := 5) rfl; have a6 := lv_neT n6 (a := 6) rfl; have a7 := lv_neT n7 (a := 7) rfl; have a8 := lv_neT n8 (a := 8) rfl; omega) rfl ?_
  have F := F n1
  have F := F n2
  have F := F n3
  have F := F n4
  have F := F n5
  have F := F n6
  have F := F n7
  have F := F n8
  refine ms_seq mB_187 mO_187 [(.iconst 0, 1)] (pc' := 271) (L' := [.ref 48, .int p0, .null, .null, .null, .null, .null, .null, .null, .null, .null, .null]) (st' := [.int 0]) ⟨dX12_isDone_270, trivial⟩ rfl ?_
  exact ms_zret mB_187 dX12_isDone_271 mR_187 (by decide) ⟨_, rfl, rfl, F⟩
set_option maxRecDepth 100000 in
theorem q12_isPosted_0 {N d : Nat} (hd : 5 ≤ d) {δ : mi_D} {Q : Int32 → mi_D → Prop} (F : (mi_wI N (d - 1) 184 0 [.ref 48, .null, .null] [] δ (fun r2 δ1 => (mi_wI N (d - 1) 184 0 [.ref 48, .null, .null] [] δ1 (fun r4 δ3 => (mi_wI N (d - 1) 184 0 [.ref 48, .null, .null] [] δ3 (fun r6 δ5 => (((δ5.1 48 48) = 0 → (mi_wI N (d - 1) 148 0 [.long (Int32.toInt64 r6), .null, .long 0, .null, .long 8, .null] [] δ5 (fun r8 δ7 => ((r8 = 0 → mi_wI N d 188 35 [.ref 48, .int r2, .int r4, .int r6, .null, .null, .null, .null, .null] [.ref 48] δ7 Q) ∧ (¬ r8 = 0 → mi_wI N d 188 40 [.ref 48, .int r2, .int r4, .int r6, .null, .null, .null, .null, .null] [.int 0, .ref 48] δ7 Q))))) ∧ (¬ (δ5.1 48 48) = 0 → mi_wI N d 188 35 [.ref 48, .int r2, .int r4, .int r6, .null, .null, .null, .null, .null] [.ref 48] δ5 Q))))))))) : mi_wI N d 188 0 [.ref 48, .null, .null, .null, .null, .null, .null, .null, .null] [] δ Q := by
  unfold mi_wI
  refine ms_seq mB_188 mO_188 [(.aload_n 0, 1)] (pc' := 1) (L' := [.ref 48, .null, .null, .null, .null, .null, .null, .null, .null]) (st' := [.ref 48]) ⟨dX12_isPosted_0, trivial⟩ rfl ?_
  refine ms_callvI mB_188 mO_188 (by omega) dX12_isPosted_1 mQ_12_273 mC_12_273 mL_184 mO_184 rfl (Nat.le_of_ble_eq_true rfl) (Nat.le_of_ble_eq_true rfl) (gk_48 N) rfl F (fun r2 δ1 F => ?_)
  refine ms_seq mB_188 mO_188 [(.istore_n 1, 1), (.aload_n 0, 1)] (pc' := 6) (L' := [.ref 48, .int r2, .null, .null, .null, .null, .null, .null, .null]) (st' := [.ref 48]) ⟨dX12_isPosted_4, dX12_isPosted_5, trivial⟩ rfl ?_
  refine ms_callvI mB_188 mO_188 (by omega) dX12_isPosted_6 mQ_12_273 mC_12_273 mL_184 mO_184 rfl (Nat.le_of_ble_eq_true rfl) (Nat.le_of_ble_eq_true rfl) (gk_48 N) rfl F (fun r4 δ3 F => ?_)
  refine ms_seq mB_188 mO_188 [(.istore_n 2, 1), (.aload_n 0, 1)] (pc' := 11) (L' := [.ref 48, .int r2, .int r4, .null, .null, .null, .null, .null, .null]) (st' := [.ref 48]) ⟨dX12_isPosted_9, dX12_isPosted_10, trivial⟩ rfl ?_
  refine ms_callvI mB_188 mO_188 (by omega) dX12_isPosted_11 mQ_12_273 mC_12_273 mL_184 mO_184 rfl (Nat.le_of_ble_eq_true rfl) (Nat.le_of_ble_eq_true rfl) (gk_48 N) rfl F (fun r6 δ5 F => ?_)
  refine ms_seq mB_188 mO_188 [(.istore_n 3, 1), (.aload_n 0, 1), (.aload_n 0, 1)] (pc' := 17) (L' := [.ref 48, .int r2, .int r4, .int r6, .null, .null, .null, .null, .null]) (st' := [.ref 48, .ref 48]) ⟨dX12_isPosted_14, dX12_isPosted_15, dX12_isPosted_16, trivial⟩ rfl ?_
  refine ms_getI mB_188 mO_188 dX12_isPosted_17 mF_12_256 (gk_48 N) (Or.inr rfl) ?_
  refine ms_if_ne mB_188 dX12_isPosted_20 (t := 35) rfl (fun c => ?_) (fun c => ?_)
  · have F := F.2 c
    exact F
  · have F := F.1 c
    refine ms_seq mB_188 mO_188 [(.iload_n 3, 1), (.i2l, 1), (.lconst 0, 1), (.ldc2_w 308, 3)] (pc' := 29) (L' := [.ref 48, .int r2, .int r4, .int r6, .null, .null, .null, .null, .null]) (st' := [.long 8, .long 0, .long (Int32.toInt64 r6), .ref 48]) ⟨dX12_isPosted_23, dX12_isPosted_24, dX12_isPosted_25, dX12_isPosted_26, trivial⟩ rfl ?_
    refine ms_callsI mB_188 mO_188 (by omega) dX12_isPosted_29 mQ_12_116 mC_12_116 mL_148 (by decide) rfl (Nat.le_of_ble_eq_true rfl) (Nat.le_of_ble_eq_true rfl) rfl F (fun r8 δ7 F => ?_)
    refine ms_if_ne mB_188 dX12_isPosted_32 (t := 39) rfl (fun c => ?_) (fun c => ?_)
    · have F := F.2 c
      refine ms_seq mB_188 mO_188 [(.iconst 0, 1)] (pc' := 40) (L' := [.ref 48, .int r2, .int r4, .int r6, .null, .null, .null, .null, .null]) (st' := [.int 0, .ref 48]) ⟨dX12_isPosted_39, trivial⟩ rfl ?_
      exact F
    · have F := F.1 c
      exact F
set_option maxRecDepth 100000 in
theorem q12_isPosted_35 {N d : Nat} (hd : 5 ≤ d) {l1 l2 l3 : Int32} {δ : mi_D} {Q : Int32 → mi_D → Prop} (F : mi_wI N d 188 40 [.ref 48, .int l1, .int l2, .int l3, .null, .null, .null, .null, .null] [.int 1, .ref 48] δ Q) : mi_wI N d 188 35 [.ref 48, .int l1, .int l2, .int l3, .null, .null, .null, .null, .null] [.ref 48] δ Q := by
  unfold mi_wI
  refine ms_seq mB_188 mO_188 [(.iconst 1, 1)] (pc' := 36) (L' := [.ref 48, .int l1, .int l2, .int l3, .null, .null, .null, .null, .null]) (st' := [.int 1, .ref 48]) ⟨dX12_isPosted_35, trivial⟩ rfl ?_
  refine ms_goto mB_188 dX12_isPosted_36 (t := 40) rfl ?_
  exact F
set_option maxRecDepth 100000 in
theorem q12_isPosted_40 {N d : Nat} (hd : 5 ≤ d) {l1 l2 l3 s1 : Int32} {δ : mi_D} {Q : Int32 → mi_D → Prop} (F : ((s1 = 0 ∨ s1 = 1) ∧ (∀ δ1 : mi_D, δ1 = mi_setI δ 48 48 s1 → (∀ δ2 : mi_D, δ2 = mi_setI δ1 48 27 0 → mi_wI N d 188 54 [.ref 48, .int l1, .int l2, .int l3, .int 1, .int 0, .null, .null, .null] [] δ2 Q)))) : mi_wI N d 188 40 [.ref 48, .int l1, .int l2, .int l3, .null, .null, .null, .null, .null] [.int s1, .ref 48] δ Q := by
  unfold mi_wI
  have G := F.1
  have F := F.2
  refine ms_putZ mB_188 mO_188 dX12_isPosted_40 mF_12_256 (gk_48 N) rfl rfl G ?_
  refine mr_st (fun δ1 e_δ1 => ?_)
  have F := F δ1 e_δ1
  refine ms_seq mB_188 mO_188 [(.aload_n 0, 1), (.iconst 0, 1)] (pc' := 45) (L' := [.ref 48, .int l1, .int l2, .int l3, .null, .null, .null, .null, .null]) (st' := [.int 0, .ref 48]) ⟨dX12_isPosted_43, dX12_isPosted_44, trivial⟩ rfl ?_
  refine ms_putI mB_188 mO_188 dX12_isPosted_45 mF_12_187 (gk_48 N) rfl rfl ?_
  refine mr_st (fun δ2 e_δ2 => ?_)
  have F := F δ2 e_δ2
  refine ms_seq mB_188 mO_188 [(.iconst 1, 1), (.istore 4, 2), (.iconst 0, 1), (.istore 5, 2)] (pc' := 54) (L' := [.ref 48, .int l1, .int l2, .int l3, .int 1, .int 0, .null, .null, .null]) (st' := []) ⟨dX12_isPosted_48, dX12_isPosted_49, dX12_isPosted_51, dX12_isPosted_52, trivial⟩ rfl ?_
  exact F
set_option maxRecDepth 100000 in
theorem q12_isPosted_54 {N d : Nat} (hd : 5 ≤ d) {l1 l2 l3 l4 l5 : Int32} {δ : mi_D} {Q : Int32 → mi_D → Prop} (F : ((l5 < l3 → (((δ.1 48 48) = 0 → (mi_wI N (d - 1) 184 0 [.ref 48, .null, .null] [] δ (fun r2 δ1 => (mi_wL N (d - 1) 183 0 [.ref 48, .null, .null, .null, .null, .null, .null] [] δ1 (fun r4 δ3 => ((l4 = 0 → mi_wI N d 188 128 [.ref 48, .int l1, .int l2, .int l3, .int l4, .int l5, .int r2, .long r4, .null] [] δ3 Q) ∧ (¬ l4 = 0 → (mi_wI N (d - 1) 149 0 [.ref 48, .int r2] [] δ3 (fun r6 δ5 => ((r6 = 0 → mi_wI N d 188 128 [.ref 48, .int l1, .int l2, .int l3, .int l4, .int l5, .int r2, .long r4, .null] [] δ5 Q) ∧ (¬ r6 = 0 → (((lg_cmp r4 0) = 0 → mi_wI N d 188 128 [.ref 48, .int l1, .int l2, .int l3, .int l4, .int l5, .int r2, .long r4, .null] [] δ5 Q) ∧ (¬ (lg_cmp r4 0) = 0 → (mi_wI N (d - 1) 148 0 [.long r4, .null, .long (-1000000000000000), .null, .long 1000000000000000, .null] [] δ5 (fun r8 δ7 => ((r8 = 0 → mi_wI N d 188 128 [.ref 48, .int l1, .int l2, .int l3, .int l4, .int l5, .int r2, .long r4, .null] [] δ7 Q) ∧ (¬ r8 = 0 → (mi_ix r2 60 = true ∧ (((δ7.2.1 52 (Int32.toNatClampNeg r2)) = 0 → mi_wI N d 188 129 [.ref 48, .int l1, .int l2, .int l3, .int l4, .int l5, .int r2, .long r4, .null] [.int 1] δ7 Q) ∧ (¬ (δ7.2.1 52 (Int32.toNatClampNeg r2)) = 0 → mi_wI N d 188 128 [.ref 48, .int l1, .int l2, .int l3, .int l4, .int l5, .int r2, .long r4, .null] [] δ7 Q)))))))))))))))))))) ∧ (¬ (δ.1 48 48) = 0 → mi_wI N d 188 145 [.ref 48, .int l1, .int l2, .int l3, .int l4, .int l5, .null, .null, .null] [] δ Q))) ∧ (¬ l5 < l3 → mi_wI N d 188 145 [.ref 48, .int l1, .int l2, .int l3, .int l4, .int l5, .null, .null, .null] [] δ Q))) : mi_wI N d 188 54 [.ref 48, .int l1, .int l2, .int l3, .int l4, .int l5, .null, .null, .null] [] δ Q := by
  unfold mi_wI
  refine ms_seq mB_188 mO_188 [(.iload 5, 2), (.iload_n 3, 1)] (pc' := 57) (L' := [.ref 48, .int l1, .int l2, .int l3, .int l4, .int l5, .null, .null, .null]) (st' := [.int l3, .int l5]) ⟨dX12_isPosted_54, dX12_isPosted_56, trivial⟩ rfl ?_
  refine ms_icmp_ge mB_188 dX12_isPosted_57 (t := 145) rfl (fun c => ?_) (fun c => ?_)
  · have F := F.2 c
    exact F
  · have F := F.1 c
    refine ms_seq mB_188 mO_188 [(.aload_n 0, 1)] (pc' := 61) (L' := [.ref 48, .int l1, .int l2, .int l3, .int l4, .int l5, .null, .null, .null]) (st' := [.ref 48]) ⟨dX12_isPosted_60, trivial⟩ rfl ?_
    refine ms_getI mB_188 mO_188 dX12_isPosted_61 mF_12_256 (gk_48 N) (Or.inr rfl) ?_
    refine ms_if_ne mB_188 dX12_isPosted_64 (t := 145) rfl (fun c => ?_) (fun c => ?_)
    · have F := F.2 c
      exact F
    · have F := F.1 c
      refine ms_seq mB_188 mO_188 [(.aload_n 0, 1)] (pc' := 68) (L' := [.ref 48, .int l1, .int l2, .int l3, .int l4, .int l5, .null, .null, .null]) (st' := [.ref 48]) ⟨dX12_isPosted_67, trivial⟩ rfl ?_
      refine ms_callvI mB_188 mO_188 (by omega) dX12_isPosted_68 mQ_12_273 mC_12_273 mL_184 mO_184 rfl (Nat.le_of_ble_eq_true rfl) (Nat.le_of_ble_eq_true rfl) (gk_48 N) rfl F (fun r2 δ1 F => ?_)
      refine ms_seq mB_188 mO_188 [(.istore 6, 2), (.aload_n 0, 1)] (pc' := 74) (L' := [.ref 48, .int l1, .int l2, .int l3, .int l4, .int l5, .int r2, .null, .null]) (st' := [.ref 48]) ⟨dX12_isPosted_71, dX12_isPosted_73, trivial⟩ rfl ?_
      refine ms_callvL mB_188 mO_188 (by omega) dX12_isPosted_74 mQ_12_265 mC_12_265 mL_183 mO_183 rfl (Nat.le_of_ble_eq_true rfl) (Nat.le_of_ble_eq_true rfl) (gk_48 N) rfl F (fun r4 δ3 F => ?_)
      refine ms_seq mB_188 mO_188 [(.lstore 7, 2), (.iload 4, 2)] (pc' := 81) (L' := [.ref 48, .int l1, .int l2, .int l3, .int l4, .int l5, .int r2, .long r4, .null]) (st' := [.int l4]) ⟨dX12_isPosted_77, dX12_isPosted_79, trivial⟩ rfl ?_
      refine ms_if_eq mB_188 dX12_isPosted_81 (t := 128) rfl (fun c => ?_) (fun c => ?_)
      · have F := F.1 c
        exact F
      · have F := F.2 c
        refine ms_seq mB_188 mO_188 [(.aload_n 0, 1), (.iload 6, 2)] (pc' := 87) (L' := [.ref 48, .int l1, .int l2, .int l3, .int l4, .int l5, .int r2, .long r4, .null]) (st' := [.int r2, .ref 48]) ⟨dX12_isPosted_84, dX12_isPosted_85, trivial⟩ rfl ?_
        refine ms_callvI mB_188 mO_188 (by omega) dX12_isPosted_87 mQ_12_148 mC_12_148 mL_149 mO_149 rfl (Nat.le_of_ble_eq_true rfl) (Nat.le_of_ble_eq_true rfl) (gk_48 N) rfl F (fun r6 δ5 F => ?_)
        refine ms_if_eq mB_188 dX12_isPosted_90 (t := 128) rfl (fun c => ?_) (fun c => ?_)
        · have F := F.1 c
          exact F
        · have F := F.2 c
          refine ms_seq mB_188 mO_188 [(.lload 7, 2), (.lconst 0, 1), (.lcmp, 1)] (pc' := 97) (L' := [.ref 48, .int l1, .int l2, .int l3, .int l4, .int l5, .int r2, .long r4, .null]) (st' := [.int (lg_cmp r4 0)]) ⟨dX12_isPosted_93, dX12_isPosted_95, dX12_isPosted_96, trivial⟩ rfl ?_
          refine ms_if_eq mB_188 dX12_isPosted_97 (t := 128) rfl (fun c => ?_) (fun c => ?_)
          · have F := F.1 c
            exact F
          · have F := F.2 c
            refine ms_seq mB_188 mO_188 [(.lload 7, 2), (.ldc2_w 180, 3), (.ldc2_w 182, 3)] (pc' := 108) (L' := [.ref 48, .int l1, .int l2, .int l3, .int l4, .int l5, .int r2, .long r4, .null]) (st' := [.long 1000000000000000, .long (-1000000000000000), .long r4]) ⟨dX12_isPosted_100, dX12_isPosted_102, dX12_isPosted_105, trivial⟩ rfl ?_
            refine ms_callsI mB_188 mO_188 (by omega) dX12_isPosted_108 mQ_12_116 mC_12_116 mL_148 (by decide) rfl (Nat.le_of_ble_eq_true rfl) (Nat.le_of_ble_eq_true rfl) rfl F (fun r8 δ7 F => ?_)
            refine ms_if_eq mB_188 dX12_isPosted_111 (t := 128) rfl (fun c => ?_) (fun c => ?_)
            · have F := F.1 c
              exact F
            · have F := F.2 c
              refine ms_seq mB_188 mO_188 [(.aload_n 0, 1)] (pc' := 115) (L' := [.ref 48, .int l1, .int l2, .int l3, .int l4, .int l5, .int r2, .long r4, .null]) (st' := [.ref 48]) ⟨dX12_isPosted_114, trivial⟩ rfl ?_
              refine ms_getA mB_188 mO_188 dX12_isPosted_115 mF_12_23 (gk_48 N) rfl (b := 52) (gr_48_6 N) ?_
              refine ms_seq mB_188 mO_188 [(.iload 6, 2)] (pc' := 120) (L' := [.ref 48, .int l1, .int l2, .int l3, .int l4, .int l5, .int r2, .long r4, .null]) (st' := [.int r2, .ref 52]) ⟨dX12_isPosted_118, trivial⟩ rfl ?_
              have G := F.1
              have F := F.2
              refine ms_bald mB_188 dX12_isPosted_120 (gk_52 N) (by rw [gl_52 N]; exact G) ?_
              refine ms_if_ne mB_188 dX12_isPosted_121 (t := 128) rfl (fun c => ?_) (fun c => ?_)
              · have F := F.2 c
                exact F
              · have F := F.1 c
                refine ms_seq mB_188 mO_188 [(.iconst 1, 1)] (pc' := 125) (L' := [.ref 48, .int l1, .int l2, .int l3, .int l4, .int l5, .int r2, .long r4, .null]) (st' := [.int 1]) ⟨dX12_isPosted_124, trivial⟩ rfl ?_
                refine ms_goto mB_188 dX12_isPosted_125 (t := 129) rfl ?_
                exact F
set_option maxRecDepth 100000 in
theorem q12_isPosted_145 {N d : Nat} (hd : 5 ≤ d) {l1 l2 l3 l4 l5 : Int32} {δ : mi_D} {Q : Int32 → mi_D → Prop} (F : (mi_wI N (d - 1) 186 0 [.ref 48] [] δ (fun r2 δ1 => ((r2 = 0 → Q 0 δ1) ∧ (¬ r2 = 0 → ((l4 = 0 → Q 0 δ1) ∧ (¬ l4 = 0 → (mi_wI N (d - 1) 170 0 [.ref 48, .int l1, .int l2, .null, .null] [] δ1 (fun r4 δ3 => ((r4 < 0 → Q 0 δ3) ∧ (¬ r4 < 0 → Q 1 δ3))))))))))) : mi_wI N d 188 145 [.ref 48, .int l1, .int l2, .int l3, .int l4, .int l5, .null, .null, .null] [] δ Q := by
  unfold mi_wI
  refine ms_seq mB_188 mO_188 [(.aload_n 0, 1)] (pc' := 146) (L' := [.ref 48, .int l1, .int l2, .int l3, .int l4, .int l5, .null, .null, .null]) (st' := [.ref 48]) ⟨dX12_isPosted_145, trivial⟩ rfl ?_
  refine ms_callvI mB_188 mO_188 (by omega) dX12_isPosted_146 mQ_12_280 mC_12_280 mL_186 mO_186 rfl (Nat.le_of_ble_eq_true rfl) (Nat.le_of_ble_eq_true rfl) (gk_48 N) rfl F (fun r2 δ1 F => ?_)
  refine ms_if_eq mB_188 dX12_isPosted_149 (t := 170) rfl (fun c => ?_) (fun c => ?_)
  · have F := F.1 c
    refine ms_seq mB_188 mO_188 [(.iconst 0, 1)] (pc' := 171) (L' := [.ref 48, .int l1, .int l2, .int l3, .int l4, .int l5, .null, .null, .null]) (st' := [.int 0]) ⟨dX12_isPosted_170, trivial⟩ rfl ?_
    exact ms_zret mB_188 dX12_isPosted_171 mR_188 (by decide) ⟨_, rfl, rfl, F⟩
  · have F := F.2 c
    refine ms_seq mB_188 mO_188 [(.iload 4, 2)] (pc' := 154) (L' := [.ref 48, .int l1, .int l2, .int l3, .int l4, .int l5, .null, .null, .null]) (st' := [.int l4]) ⟨dX12_isPosted_152, trivial⟩ rfl ?_
    refine ms_if_eq mB_188 dX12_isPosted_154 (t := 170) rfl (fun c => ?_) (fun c => ?_)
    · have F := F.1 c
      refine ms_seq mB_188 mO_188 [(.iconst 0, 1)] (pc' := 171) (L' := [.ref 48, .int l1, .int l2, .int l3, .int l4, .int l5, .null, .null, .null]) (st' := [.int 0]) ⟨dX12_isPosted_170, trivial⟩ rfl ?_
      exact ms_zret mB_188 dX12_isPosted_171 mR_188 (by decide) ⟨_, rfl, rfl, F⟩
    · have F := F.2 c
      refine ms_seq mB_188 mO_188 [(.aload_n 0, 1), (.iload_n 1, 1), (.iload_n 2, 1)] (pc' := 160) (L' := [.ref 48, .int l1, .int l2, .int l3, .int l4, .int l5, .null, .null, .null]) (st' := [.int l2, .int l1, .ref 48]) ⟨dX12_isPosted_157, dX12_isPosted_158, dX12_isPosted_159, trivial⟩ rfl ?_
      refine ms_callvI mB_188 mO_188 (by omega) dX12_isPosted_160 mQ_12_221 mC_12_221 mL_170 mO_170 rfl (Nat.le_of_ble_eq_true rfl) (Nat.le_of_ble_eq_true rfl) (gk_48 N) rfl F (fun r4 δ3 F => ?_)
      refine ms_if_lt mB_188 dX12_isPosted_163 (t := 170) rfl (fun c => ?_) (fun c => ?_)
      · have F := F.1 c
        refine ms_seq mB_188 mO_188 [(.iconst 0, 1)] (pc' := 171) (L' := [.ref 48, .int l1, .int l2, .int l3, .int l4, .int l5, .null, .null, .null]) (st' := [.int 0]) ⟨dX12_isPosted_170, trivial⟩ rfl ?_
        exact ms_zret mB_188 dX12_isPosted_171 mR_188 (by decide) ⟨_, rfl, rfl, F⟩
      · have F := F.2 c
        refine ms_seq mB_188 mO_188 [(.iconst 1, 1)] (pc' := 167) (L' := [.ref 48, .int l1, .int l2, .int l3, .int l4, .int l5, .null, .null, .null]) (st' := [.int 1]) ⟨dX12_isPosted_166, trivial⟩ rfl ?_
        refine ms_goto mB_188 dX12_isPosted_167 (t := 171) rfl ?_
        exact ms_zret mB_188 dX12_isPosted_171 mR_188 (by decide) ⟨_, rfl, rfl, F⟩
set_option maxRecDepth 100000 in
theorem q12_isPosted_128 {N d : Nat} (hd : 5 ≤ d) {l1 l2 l3 l4 l5 l6 : Int32} {l7 : Int64} {δ : mi_D} {Q : Int32 → mi_D → Prop} (F : mi_wI N d 188 129 [.ref 48, .int l1, .int l2, .int l3, .int l4, .int l5, .int l6, .long l7, .null] [.int 0] δ Q) : mi_wI N d 188 128 [.ref 48, .int l1, .int l2, .int l3, .int l4, .int l5, .int l6, .long l7, .null] [] δ Q := by
  unfold mi_wI
  refine ms_seq mB_188 mO_188 [(.iconst 0, 1)] (pc' := 129) (L' := [.ref 48, .int l1, .int l2, .int l3, .int l4, .int l5, .int l6, .long l7, .null]) (st' := [.int 0]) ⟨dX12_isPosted_128, trivial⟩ rfl ?_
  exact F
set_option maxRecDepth 100000 in
theorem q12_isPosted_129 {N d : Nat} (hd : 5 ≤ d) {l1 l2 l3 l4 l5 l6 s0 : Int32} {l7 : Int64} {δ : mi_D} {Q : Int32 → mi_D → Prop} (F : (mi_wV N (d - 1) 164 0 [.ref 48, .int l6, .long l7, .null] [] δ (fun δ1 => mi_wI N d 188 54 [.ref 48, .int l1, .int l2, .int l3, .int s0, .int (l5 + 1), .int l6, .long l7, .null] [] δ1 Q))) : mi_wI N d 188 129 [.ref 48, .int l1, .int l2, .int l3, .int l4, .int l5, .int l6, .long l7, .null] [.int s0] δ Q := by
  unfold mi_wI
  refine ms_seq mB_188 mO_188 [(.istore 4, 2), (.aload_n 0, 1), (.iload 6, 2), (.lload 7, 2)] (pc' := 136) (L' := [.ref 48, .int l1, .int l2, .int l3, .int s0, .int l5, .int l6, .long l7, .null]) (st' := [.long l7, .int l6, .ref 48]) ⟨dX12_isPosted_129, dX12_isPosted_131, dX12_isPosted_132, dX12_isPosted_134, trivial⟩ rfl ?_
  refine ms_callvV mB_188 mO_188 (by omega) dX12_isPosted_136 mQ_12_217 mC_12_217 mL_164 mO_164 rfl (Nat.le_of_ble_eq_true rfl) (Nat.le_of_ble_eq_true rfl) (gk_48 N) rfl F (fun δ1 F => ?_)
  refine ms_seq mB_188 mO_188 [(.iinc 5 1, 3)] (pc' := 142) (L' := [.ref 48, .int l1, .int l2, .int l3, .int s0, .int (l5 + 1), .int l6, .long l7, .null]) (st' := []) ⟨dX12_isPosted_139, trivial⟩ rfl ?_
  refine ms_goto mB_188 dX12_isPosted_142 (t := 54) rfl ?_
  exact F
set_option maxRecDepth 100000 in
theorem q12_isPosted_54a {N d : Nat} (hd : 5 ≤ d) {l1 l2 l3 l4 l5 l6 : Int32} {l7 : Int64} {δ : mi_D} {Q : Int32 → mi_D → Prop} (F : ((l5 < l3 → (((δ.1 48 48) = 0 → (mi_wI N (d - 1) 184 0 [.ref 48, .null, .null] [] δ (fun r2 δ1 => (mi_wL N (d - 1) 183 0 [.ref 48, .null, .null, .null, .null, .null, .null] [] δ1 (fun r4 δ3 => ((l4 = 0 → mi_wI N d 188 128 [.ref 48, .int l1, .int l2, .int l3, .int l4, .int l5, .int r2, .long r4, .null] [] δ3 Q) ∧ (¬ l4 = 0 → (mi_wI N (d - 1) 149 0 [.ref 48, .int r2] [] δ3 (fun r6 δ5 => ((r6 = 0 → mi_wI N d 188 128 [.ref 48, .int l1, .int l2, .int l3, .int l4, .int l5, .int r2, .long r4, .null] [] δ5 Q) ∧ (¬ r6 = 0 → (((lg_cmp r4 0) = 0 → mi_wI N d 188 128 [.ref 48, .int l1, .int l2, .int l3, .int l4, .int l5, .int r2, .long r4, .null] [] δ5 Q) ∧ (¬ (lg_cmp r4 0) = 0 → (mi_wI N (d - 1) 148 0 [.long r4, .null, .long (-1000000000000000), .null, .long 1000000000000000, .null] [] δ5 (fun r8 δ7 => ((r8 = 0 → mi_wI N d 188 128 [.ref 48, .int l1, .int l2, .int l3, .int l4, .int l5, .int r2, .long r4, .null] [] δ7 Q) ∧ (¬ r8 = 0 → (mi_ix r2 60 = true ∧ (((δ7.2.1 52 (Int32.toNatClampNeg r2)) = 0 → mi_wI N d 188 129 [.ref 48, .int l1, .int l2, .int l3, .int l4, .int l5, .int r2, .long r4, .null] [.int 1] δ7 Q) ∧ (¬ (δ7.2.1 52 (Int32.toNatClampNeg r2)) = 0 → mi_wI N d 188 128 [.ref 48, .int l1, .int l2, .int l3, .int l4, .int l5, .int r2, .long r4, .null] [] δ7 Q)))))))))))))))))))) ∧ (¬ (δ.1 48 48) = 0 → mi_wI N d 188 145 [.ref 48, .int l1, .int l2, .int l3, .int l4, .int l5, .int l6, .long l7, .null] [] δ Q))) ∧ (¬ l5 < l3 → mi_wI N d 188 145 [.ref 48, .int l1, .int l2, .int l3, .int l4, .int l5, .int l6, .long l7, .null] [] δ Q))) : mi_wI N d 188 54 [.ref 48, .int l1, .int l2, .int l3, .int l4, .int l5, .int l6, .long l7, .null] [] δ Q := by
  unfold mi_wI
  refine ms_seq mB_188 mO_188 [(.iload 5, 2), (.iload_n 3, 1)] (pc' := 57) (L' := [.ref 48, .int l1, .int l2, .int l3, .int l4, .int l5, .int l6, .long l7, .null]) (st' := [.int l3, .int l5]) ⟨dX12_isPosted_54, dX12_isPosted_56, trivial⟩ rfl ?_
  refine ms_icmp_ge mB_188 dX12_isPosted_57 (t := 145) rfl (fun c => ?_) (fun c => ?_)
  · have F := F.2 c
    exact F
  · have F := F.1 c
    refine ms_seq mB_188 mO_188 [(.aload_n 0, 1)] (pc' := 61) (L' := [.ref 48, .int l1, .int l2, .int l3, .int l4, .int l5, .int l6, .long l7, .null]) (st' := [.ref 48]) ⟨dX12_isPosted_60, trivial⟩ rfl ?_
    refine ms_getI mB_188 mO_188 dX12_isPosted_61 mF_12_256 (gk_48 N) (Or.inr rfl) ?_
    refine ms_if_ne mB_188 dX12_isPosted_64 (t := 145) rfl (fun c => ?_) (fun c => ?_)
    · have F := F.2 c
      exact F
    · have F := F.1 c
      refine ms_seq mB_188 mO_188 [(.aload_n 0, 1)] (pc' := 68) (L' := [.ref 48, .int l1, .int l2, .int l3, .int l4, .int l5, .int l6, .long l7, .null]) (st' := [.ref 48]) ⟨dX12_isPosted_67, trivial⟩ rfl ?_
      refine ms_callvI mB_188 mO_188 (by omega) dX12_isPosted_68 mQ_12_273 mC_12_273 mL_184 mO_184 rfl (Nat.le_of_ble_eq_true rfl) (Nat.le_of_ble_eq_true rfl) (gk_48 N) rfl F (fun r2 δ1 F => ?_)
      refine ms_seq mB_188 mO_188 [(.istore 6, 2), (.aload_n 0, 1)] (pc' := 74) (L' := [.ref 48, .int l1, .int l2, .int l3, .int l4, .int l5, .int r2, .long l7, .null]) (st' := [.ref 48]) ⟨dX12_isPosted_71, dX12_isPosted_73, trivial⟩ rfl ?_
      refine ms_callvL mB_188 mO_188 (by omega) dX12_isPosted_74 mQ_12_265 mC_12_265 mL_183 mO_183 rfl (Nat.le_of_ble_eq_true rfl) (Nat.le_of_ble_eq_true rfl) (gk_48 N) rfl F (fun r4 δ3 F => ?_)
      refine ms_seq mB_188 mO_188 [(.lstore 7, 2), (.iload 4, 2)] (pc' := 81) (L' := [.ref 48, .int l1, .int l2, .int l3, .int l4, .int l5, .int r2, .long r4, .null]) (st' := [.int l4]) ⟨dX12_isPosted_77, dX12_isPosted_79, trivial⟩ rfl ?_
      refine ms_if_eq mB_188 dX12_isPosted_81 (t := 128) rfl (fun c => ?_) (fun c => ?_)
      · have F := F.1 c
        exact F
      · have F := F.2 c
        refine ms_seq mB_188 mO_188 [(.aload_n 0, 1), (.iload 6, 2)] (pc' := 87) (L' := [.ref 48, .int l1, .int l2, .int l3, .int l4, .int l5, .int r2, .long r4, .null]) (st' := [.int r2, .ref 48]) ⟨dX12_isPosted_84, dX12_isPosted_85, trivial⟩ rfl ?_
        refine ms_callvI mB_188 mO_188 (by omega) dX12_isPosted_87 mQ_12_148 mC_12_148 mL_149 mO_149 rfl (Nat.le_of_ble_eq_true rfl) (Nat.le_of_ble_eq_true rfl) (gk_48 N) rfl F (fun r6 δ5 F => ?_)
        refine ms_if_eq mB_188 dX12_isPosted_90 (t := 128) rfl (fun c => ?_) (fun c => ?_)
        · have F := F.1 c
          exact F
        · have F := F.2 c
          refine ms_seq mB_188 mO_188 [(.lload 7, 2), (.lconst 0, 1), (.lcmp, 1)] (pc' := 97) (L' := [.ref 48, .int l1, .int l2, .int l3, .int l4, .int l5, .int r2, .long r4, .null]) (st' := [.int (lg_cmp r4 0)]) ⟨dX12_isPosted_93, dX12_isPosted_95, dX12_isPosted_96, trivial⟩ rfl ?_
          refine ms_if_eq mB_188 dX12_isPosted_97 (t := 128) rfl (fun c => ?_) (fun c => ?_)
          · have F := F.1 c
            exact F
          · have F := F.2 c
            refine ms_seq mB_188 mO_188 [(.lload 7, 2), (.ldc2_w 180, 3), (.ldc2_w 182, 3)] (pc' := 108) (L' := [.ref 48, .int l1, .int l2, .int l3, .int l4, .int l5, .int r2, .long r4, .null]) (st' := [.long 1000000000000000, .long (-1000000000000000), .long r4]) ⟨dX12_isPosted_100, dX12_isPosted_102, dX12_isPosted_105, trivial⟩ rfl ?_
            refine ms_callsI mB_188 mO_188 (by omega) dX12_isPosted_108 mQ_12_116 mC_12_116 mL_148 (by decide) rfl (Nat.le_of_ble_eq_true rfl) (Nat.le_of_ble_eq_true rfl) rfl F (fun r8 δ7 F => ?_)
            refine ms_if_eq mB_188 dX12_isPosted_111 (t := 128) rfl (fun c => ?_) (fun c => ?_)
            · have F := F.1 c
              exact F
            · have F := F.2 c
              refine ms_seq mB_188 mO_188 [(.aload_n 0, 1)] (pc' := 115) (L' := [.ref 48, .int l1, .int l2, .int l3, .int l4, .int l5, .int r2, .long r4, .null]) (st' := [.ref 48]) ⟨dX12_isPosted_114, trivial⟩ rfl ?_
              refine ms_getA mB_188 mO_188 dX12_isPosted_115 mF_12_23 (gk_48 N) rfl (b := 52) (gr_48_6 N) ?_
              refine ms_seq mB_188 mO_188 [(.iload 6, 2)] (pc' := 120) (L' := [.ref 48, .int l1, .int l2, .int l3, .int l4, .int l5, .int r2, .long r4, .null]) (st' := [.int r2, .ref 52]) ⟨dX12_isPosted_118, trivial⟩ rfl ?_
              have G := F.1
              have F := F.2
              refine ms_bald mB_188 dX12_isPosted_120 (gk_52 N) (by rw [gl_52 N]; exact G) ?_
              refine ms_if_ne mB_188 dX12_isPosted_121 (t := 128) rfl (fun c => ?_) (fun c => ?_)
              · have F := F.2 c
                exact F
              · have F := F.1 c
                refine ms_seq mB_188 mO_188 [(.iconst 1, 1)] (pc' := 125) (L' := [.ref 48, .int l1, .int l2, .int l3, .int l4, .int l5, .int r2, .long r4, .null]) (st' := [.int 1]) ⟨dX12_isPosted_124, trivial⟩ rfl ?_
                refine ms_goto mB_188 dX12_isPosted_125 (t := 129) rfl ?_
                exact F
set_option maxRecDepth 100000 in
theorem q12_isPosted_145a {N d : Nat} (hd : 5 ≤ d) {l1 l2 l3 l4 l5 l6 : Int32} {l7 : Int64} {δ : mi_D} {Q : Int32 → mi_D → Prop} (F : (mi_wI N (d - 1) 186 0 [.ref 48] [] δ (fun r2 δ1 => ((r2 = 0 → Q 0 δ1) ∧ (¬ r2 = 0 → ((l4 = 0 → Q 0 δ1) ∧ (¬ l4 = 0 → (mi_wI N (d - 1) 170 0 [.ref 48, .int l1, .int l2, .null, .null] [] δ1 (fun r4 δ3 => ((r4 < 0 → Q 0 δ3) ∧ (¬ r4 < 0 → Q 1 δ3))))))))))) : mi_wI N d 188 145 [.ref 48, .int l1, .int l2, .int l3, .int l4, .int l5, .int l6, .long l7, .null] [] δ Q := by
  unfold mi_wI
  refine ms_seq mB_188 mO_188 [(.aload_n 0, 1)] (pc' := 146) (L' := [.ref 48, .int l1, .int l2, .int l3, .int l4, .int l5, .int l6, .long l7, .null]) (st' := [.ref 48]) ⟨dX12_isPosted_145, trivial⟩ rfl ?_
  refine ms_callvI mB_188 mO_188 (by omega) dX12_isPosted_146 mQ_12_280 mC_12_280 mL_186 mO_186 rfl (Nat.le_of_ble_eq_true rfl) (Nat.le_of_ble_eq_true rfl) (gk_48 N) rfl F (fun r2 δ1 F => ?_)
  refine ms_if_eq mB_188 dX12_isPosted_149 (t := 170) rfl (fun c => ?_) (fun c => ?_)
  · have F := F.1 c
    refine ms_seq mB_188 mO_188 [(.iconst 0, 1)] (pc' := 171) (L' := [.ref 48, .int l1, .int l2, .int l3, .int l4, .int l5, .int l6, .long l7, .null]) (st' := [.int 0]) ⟨dX12_isPosted_170, trivial⟩ rfl ?_
    exact ms_zret mB_188 dX12_isPosted_171 mR_188 (by decide) ⟨_, rfl, rfl, F⟩
  · have F := F.2 c
    refine ms_seq mB_188 mO_188 [(.iload 4, 2)] (pc' := 154) (L' := [.ref 48, .int l1, .int l2, .int l3, .int l4, .int l5, .int l6, .long l7, .null]) (st' := [.int l4]) ⟨dX12_isPosted_152, trivial⟩ rfl ?_
    refine ms_if_eq mB_188 dX12_isPosted_154 (t := 170) rfl (fun c => ?_) (fun c => ?_)
    · have F := F.1 c
      refine ms_seq mB_188 mO_188 [(.iconst 0, 1)] (pc' := 171) (L' := [.ref 48, .int l1, .int l2, .int l3, .int l4, .int l5, .int l6, .long l7, .null]) (st' := [.int 0]) ⟨dX12_isPosted_170, trivial⟩ rfl ?_
      exact ms_zret mB_188 dX12_isPosted_171 mR_188 (by decide) ⟨_, rfl, rfl, F⟩
    · have F := F.2 c
      refine ms_seq mB_188 mO_188 [(.aload_n 0, 1), (.iload_n 1, 1), (.iload_n 2, 1)] (pc' := 160) (L' := [.ref 48, .int l1, .int l2, .int l3, .int l4, .int l5, .int l6, .long l7, .null]) (st' := [.int l2, .int l1, .ref 48]) ⟨dX12_isPosted_157, dX12_isPosted_158, dX12_isPosted_159, trivial⟩ rfl ?_
      refine ms_callvI mB_188 mO_188 (by omega) dX12_isPosted_160 mQ_12_221 mC_12_221 mL_170 mO_170 rfl (Nat.le_of_ble_eq_true rfl) (Nat.le_of_ble_eq_true rfl) (gk_48 N) rfl F (fun r4 δ3 F => ?_)
      refine ms_if_lt mB_188 dX12_isPosted_163 (t := 170) rfl (fun c => ?_) (fun c => ?_)
      · have F := F.1 c
        refine ms_seq mB_188 mO_188 [(.iconst 0, 1)] (pc' := 171) (L' := [.ref 48, .int l1, .int l2, .int l3, .int l4, .int l5, .int l6, .long l7, .null]) (st' := [.int 0]) ⟨dX12_isPosted_170, trivial⟩ rfl ?_
        exact ms_zret mB_188 dX12_isPosted_171 mR_188 (by decide) ⟨_, rfl, rfl, F⟩
      · have F := F.2 c
        refine ms_seq mB_188 mO_188 [(.iconst 1, 1)] (pc' := 167) (L' := [.ref 48, .int l1, .int l2, .int l3, .int l4, .int l5, .int l6, .long l7, .null]) (st' := [.int 1]) ⟨dX12_isPosted_166, trivial⟩ rfl ?_
        refine ms_goto mB_188 dX12_isPosted_167 (t := 171) rfl ?_
        exact ms_zret mB_188 dX12_isPosted_171 mR_188 (by decide) ⟨_, rfl, rfl, F⟩
set_option maxRecDepth 100000 in
theorem q12_isNext_0 {N d : Nat} (hd : 5 ≤ d) {δ : mi_D} {Q : Int32 → mi_D → Prop} (F : (((δ.1 48 30) < ((δ.1 48 46) + 4) → Q 0 δ) ∧ (¬ (δ.1 48 30) < ((δ.1 48 46) + 4) → (mi_ix (δ.1 48 46) 6000 = true ∧ (((δ.1 48 30) < (((δ.1 48 46) + 4) + (δ.2.1 70 (Int32.toNatClampNeg (δ.1 48 46)))) → Q 0 δ) ∧ (¬ (δ.1 48 30) < (((δ.1 48 46) + 4) + (δ.2.1 70 (Int32.toNatClampNeg (δ.1 48 46)))) → (∀ x1 : Int32, x1 = (δ.1 48 46) → (mi_ix x1 6000 = true ∧ (∀ x2 : Int32, x2 = (δ.2.1 70 (Int32.toNatClampNeg x1)) → mi_wI N d 189 56 [.ref 48, .int x1, .int x2, .int 65535, .int 0] [] δ Q))))))))) : mi_wI N d 189 0 [.ref 48, .null, .null, .null, .null] [] δ Q := by
  unfold mi_wI
  refine ms_seq mB_189 mO_189 [(.aload_n 0, 1)] (pc' := 1) (L' := [.ref 48, .null, .null, .null, .null]) (st' := [.ref 48]) ⟨dX12_isNext_0, trivial⟩ rfl ?_
  refine ms_getI mB_189 mO_189 dX12_isNext_1 mF_12_259 (gk_48 N) (Or.inl rfl) ?_
  refine ms_seq mB_189 mO_189 [(.iconst 4, 1), (.iadd, 1), (.aload_n 0, 1)] (pc' := 7) (L' := [.ref 48, .null, .null, .null, .null]) (st' := [.ref 48, .int ((δ.1 48 46) + 4)]) ⟨dX12_isNext_4, dX12_isNext_5, dX12_isNext_6, trivial⟩ rfl ?_
  refine ms_getI mB_189 mO_189 dX12_isNext_7 mF_12_132 (gk_48 N) (Or.inl rfl) ?_
  refine ms_icmp_gt mB_189 dX12_isNext_10 (t := 36) rfl (fun c => ?_) (fun c => ?_)
  · have F := F.1 c
    refine ms_seq mB_189 mO_189 [(.iconst 0, 1)] (pc' := 37) (L' := [.ref 48, .null, .null, .null, .null]) (st' := [.int 0]) ⟨dX12_isNext_36, trivial⟩ rfl ?_
    exact ms_zret mB_189 dX12_isNext_37 mR_189 (by decide) ⟨_, rfl, rfl, F⟩
  · have F := F.2 c
    refine ms_seq mB_189 mO_189 [(.aload_n 0, 1)] (pc' := 14) (L' := [.ref 48, .null, .null, .null, .null]) (st' := [.ref 48]) ⟨dX12_isNext_13, trivial⟩ rfl ?_
    refine ms_getI mB_189 mO_189 dX12_isNext_14 mF_12_259 (gk_48 N) (Or.inl rfl) ?_
    refine ms_seq mB_189 mO_189 [(.iconst 4, 1), (.iadd, 1), (.aload_n 0, 1)] (pc' := 20) (L' := [.ref 48, .null, .null, .null, .null]) (st' := [.ref 48, .int ((δ.1 48 46) + 4)]) ⟨dX12_isNext_17, dX12_isNext_18, dX12_isNext_19, trivial⟩ rfl ?_
    refine ms_getA mB_189 mO_189 dX12_isNext_20 mF_12_83 (gk_48 N) rfl (b := 70) (gr_48_33 N) ?_
    refine ms_seq mB_189 mO_189 [(.aload_n 0, 1)] (pc' := 24) (L' := [.ref 48, .null, .null, .null, .null]) (st' := [.ref 48, .ref 70, .int ((δ.1 48 46) + 4)]) ⟨dX12_isNext_23, trivial⟩ rfl ?_
    refine ms_getI mB_189 mO_189 dX12_isNext_24 mF_12_259 (gk_48 N) (Or.inl rfl) ?_
    have G := F.1
    have F := F.2
    refine ms_iald mB_189 dX12_isNext_27 (Or.inl (gk_70 N)) (by rw [gl_70 N]; exact G) ?_
    refine ms_seq mB_189 mO_189 [(.iadd, 1), (.aload_n 0, 1)] (pc' := 30) (L' := [.ref 48, .null, .null, .null, .null]) (st' := [.ref 48, .int (((δ.1 48 46) + 4) + (δ.2.1 70 (Int32.toNatClampNeg (δ.1 48 46))))]) ⟨dX12_isNext_28, dX12_isNext_29, trivial⟩ rfl ?_
    refine ms_getI mB_189 mO_189 dX12_isNext_30 mF_12_132 (gk_48 N) (Or.inl rfl) ?_
    refine ms_icmp_le mB_189 dX12_isNext_33 (t := 38) rfl (fun c => ?_) (fun c => ?_)
    · have F := F.2 c
      refine ms_seq mB_189 mO_189 [(.aload_n 0, 1)] (pc' := 39) (L' := [.ref 48, .null, .null, .null, .null]) (st' := [.ref 48]) ⟨dX12_isNext_38, trivial⟩ rfl ?_
      refine ms_getI mB_189 mO_189 dX12_isNext_39 mF_12_259 (gk_48 N) (Or.inl rfl) ?_
      refine mr_topi (fun x1 e_x1 => ?_)
      have F := F x1 e_x1
      refine ms_seq mB_189 mO_189 [(.istore_n 1, 1), (.aload_n 0, 1)] (pc' := 44) (L' := [.ref 48, .int x1, .null, .null, .null]) (st' := [.ref 48]) ⟨dX12_isNext_42, dX12_isNext_43, trivial⟩ rfl ?_
      refine ms_getA mB_189 mO_189 dX12_isNext_44 mF_12_83 (gk_48 N) rfl (b := 70) (gr_48_33 N) ?_
      refine ms_seq mB_189 mO_189 [(.iload_n 1, 1)] (pc' := 48) (L' := [.ref 48, .int x1, .null, .null, .null]) (st' := [.int x1, .ref 70]) ⟨dX12_isNext_47, trivial⟩ rfl ?_
      have G := F.1
      have F := F.2
      refine ms_iald mB_189 dX12_isNext_48 (Or.inl (gk_70 N)) (by rw [gl_70 N]; exact G) ?_
      refine mr_topi (fun x2 e_x2 => ?_)
      have F := F x2 e_x2
      refine ms_seq mB_189 mO_189 [(.istore_n 2, 1), (.ldc 136, 2), (.istore_n 3, 1), (.iconst 0, 1), (.istore 4, 2)] (pc' := 56) (L' := [.ref 48, .int x1, .int x2, .int 65535, .int 0]) (st' := []) ⟨dX12_isNext_49, dX12_isNext_50, dX12_isNext_52, dX12_isNext_53, dX12_isNext_54, trivial⟩ rfl ?_
      exact F
    · have F := F.1 c
      refine ms_seq mB_189 mO_189 [(.iconst 0, 1)] (pc' := 37) (L' := [.ref 48, .null, .null, .null, .null]) (st' := [.int 0]) ⟨dX12_isNext_36, trivial⟩ rfl ?_
      exact ms_zret mB_189 dX12_isNext_37 mR_189 (by decide) ⟨_, rfl, rfl, F⟩
set_option maxRecDepth 100000 in
theorem q12_isNext_56 {N d : Nat} (hd : 5 ≤ d) {l1 l2 l3 l4 : Int32} {δ : mi_D} {Q : Int32 → mi_D → Prop} (F : ((l4 < (l2 + 2) → (mi_ix (l1 + l4) 6000 = true ∧ (mi_wI N (d - 1) 153 0 [.int l3, .int (δ.2.1 70 (Int32.toNatClampNeg (l1 + l4))), .null, .null] [] δ (fun r7 δ6 => mi_wI N d 189 56 [.ref 48, .int l1, .int l2, .int r7, .int (l4 + 1)] [] δ6 Q)))) ∧ (¬ l4 < (l2 + 2) → (mi_ix ((l1 + l2) + 2) 6000 = true ∧ (((δ.2.1 70 (Int32.toNatClampNeg ((l1 + l2) + 2))) = (l3 >>> (8 &&& 31)) → (mi_ix ((l1 + l2) + 3) 6000 = true ∧ (((δ.2.1 70 (Int32.toNatClampNeg ((l1 + l2) + 3))) = (l3 &&& 255) → (∀ δ1 : mi_D, δ1 = mi_setI δ 48 47 ((l1 + 2) + l2) → (∀ δ2 : mi_D, δ2 = mi_setI δ1 48 46 (l1 + 2) → (∀ δ3 : mi_D, δ3 = mi_setI δ2 48 48 0 → (mi_ix (l1 + 1) 6000 = true ∧ (mi_wI N (d - 1) 187 0 [.ref 48, .int (δ3.2.1 70 (Int32.toNatClampNeg (l1 + 1))), .null, .null, .null, .null, .null, .null, .null, .null, .null, .null] [] δ3 (fun r5 δ4 => ((r5 = 0 → mi_wI N d 189 172 [.ref 48, .int l1, .int l2, .int l3, .int r5] [.int l1, .ref 48] δ4 Q) ∧ (¬ r5 = 0 → mi_wI N d 189 172 [.ref 48, .int l1, .int l2, .int l3, .int r5] [.int ((δ4.1 48 47) + 2), .ref 48] δ4 Q))))))))) ∧ (¬ (δ.2.1 70 (Int32.toNatClampNeg ((l1 + l2) + 3))) = (l3 &&& 255) → Q 0 δ)))) ∧ (¬ (δ.2.1 70 (Int32.toNatClampNeg ((l1 + l2) + 2))) = (l3 >>> (8 &&& 31)) → Q 0 δ)))))) : mi_wI N d 189 56 [.ref 48, .int l1, .int l2, .int l3, .int l4] [] δ Q := by
  unfold mi_wI
  refine ms_seq mB_189 mO_189 [(.iload 4, 2), (.iload_n 2, 1), (.iconst 2, 1), (.iadd, 1)] (pc' := 61) (L' := [.ref 48, .int l1, .int l2, .int l3, .int l4]) (st' := [.int (l2 + 2), .int l4]) ⟨dX12_isNext_56, dX12_isNext_58, dX12_isNext_59, dX12_isNext_60, trivial⟩ rfl ?_
  refine ms_icmp_ge mB_189 dX12_isNext_61 (t := 84) rfl (fun c => ?_) (fun c => ?_)
  · have F := F.2 c
    refine ms_seq mB_189 mO_189 [(.aload_n 0, 1)] (pc' := 85) (L' := [.ref 48, .int l1, .int l2, .int l3, .int l4]) (st' := [.ref 48]) ⟨dX12_isNext_84, trivial⟩ rfl ?_
    refine ms_getA mB_189 mO_189 dX12_isNext_85 mF_12_83 (gk_48 N) rfl (b := 70) (gr_48_33 N) ?_
    refine ms_seq mB_189 mO_189 [(.iload_n 1, 1), (.iload_n 2, 1), (.iadd, 1), (.iconst 2, 1), (.iadd, 1)] (pc' := 93) (L' := [.ref 48, .int l1, .int l2, .int l3, .int l4]) (st' := [.int ((l1 + l2) + 2), .ref 70]) ⟨dX12_isNext_88, dX12_isNext_89, dX12_isNext_90, dX12_isNext_91, dX12_isNext_92, trivial⟩ rfl ?_
    have G := F.1
    have F := F.2
    refine ms_iald mB_189 dX12_isNext_93 (Or.inl (gk_70 N)) (by rw [gl_70 N]; exact G) ?_
    refine ms_seq mB_189 mO_189 [(.iload_n 3, 1), (.bipush 8, 2), (.ishr, 1)] (pc' := 98) (L' := [.ref 48, .int l1, .int l2, .int l3, .int l4]) (st' := [.int (l3 >>> (8 &&& 31)), .int (δ.2.1 70 (Int32.toNatClampNeg ((l1 + l2) + 2)))]) ⟨dX12_isNext_94, dX12_isNext_95, dX12_isNext_97, trivial⟩ rfl ?_
    refine ms_icmp_ne mB_189 dX12_isNext_98 (t := 119) rfl (fun c => ?_) (fun c => ?_)
    · have F := F.2 c
      refine ms_seq mB_189 mO_189 [(.iconst 0, 1)] (pc' := 120) (L' := [.ref 48, .int l1, .int l2, .int l3, .int l4]) (st' := [.int 0]) ⟨dX12_isNext_119, trivial⟩ rfl ?_
      exact ms_zret mB_189 dX12_isNext_120 mR_189 (by decide) ⟨_, rfl, rfl, F⟩
    · have F := F.1 c
      refine ms_seq mB_189 mO_189 [(.aload_n 0, 1)] (pc' := 102) (L' := [.ref 48, .int l1, .int l2, .int l3, .int l4]) (st' := [.ref 48]) ⟨dX12_isNext_101, trivial⟩ rfl ?_
      refine ms_getA mB_189 mO_189 dX12_isNext_102 mF_12_83 (gk_48 N) rfl (b := 70) (gr_48_33 N) ?_
      refine ms_seq mB_189 mO_189 [(.iload_n 1, 1), (.iload_n 2, 1), (.iadd, 1), (.iconst 3, 1), (.iadd, 1)] (pc' := 110) (L' := [.ref 48, .int l1, .int l2, .int l3, .int l4]) (st' := [.int ((l1 + l2) + 3), .ref 70]) ⟨dX12_isNext_105, dX12_isNext_106, dX12_isNext_107, dX12_isNext_108, dX12_isNext_109, trivial⟩ rfl ?_
      have G := F.1
      have F := F.2
      refine ms_iald mB_189 dX12_isNext_110 (Or.inl (gk_70 N)) (by rw [gl_70 N]; exact G) ?_
      refine ms_seq mB_189 mO_189 [(.iload_n 3, 1), (.sipush 255, 3), (.iand, 1)] (pc' := 116) (L' := [.ref 48, .int l1, .int l2, .int l3, .int l4]) (st' := [.int (l3 &&& 255), .int (δ.2.1 70 (Int32.toNatClampNeg ((l1 + l2) + 3)))]) ⟨dX12_isNext_111, dX12_isNext_112, dX12_isNext_115, trivial⟩ rfl ?_
      refine ms_icmp_eq mB_189 dX12_isNext_116 (t := 121) rfl (fun c => ?_) (fun c => ?_)
      · have F := F.1 c
        refine ms_seq mB_189 mO_189 [(.aload_n 0, 1), (.iload_n 1, 1), (.iconst 2, 1), (.iadd, 1), (.iload_n 2, 1), (.iadd, 1)] (pc' := 127) (L' := [.ref 48, .int l1, .int l2, .int l3, .int l4]) (st' := [.int ((l1 + 2) + l2), .ref 48]) ⟨dX12_isNext_121, dX12_isNext_122, dX12_isNext_123, dX12_isNext_124, dX12_isNext_125, dX12_isNext_126, trivial⟩ rfl ?_
        refine ms_putI mB_189 mO_189 dX12_isNext_127 mF_12_262 (gk_48 N) rfl rfl ?_
        refine mr_st (fun δ1 e_δ1 => ?_)
        have F := F δ1 e_δ1
        refine ms_seq mB_189 mO_189 [(.aload_n 0, 1), (.iload_n 1, 1), (.iconst 2, 1), (.iadd, 1)] (pc' := 134) (L' := [.ref 48, .int l1, .int l2, .int l3, .int l4]) (st' := [.int (l1 + 2), .ref 48]) ⟨dX12_isNext_130, dX12_isNext_131, dX12_isNext_132, dX12_isNext_133, trivial⟩ rfl ?_
        refine ms_putI mB_189 mO_189 dX12_isNext_134 mF_12_259 (gk_48 N) rfl rfl ?_
        refine mr_st (fun δ2 e_δ2 => ?_)
        have F := F δ2 e_δ2
        refine ms_seq mB_189 mO_189 [(.aload_n 0, 1), (.iconst 0, 1)] (pc' := 139) (L' := [.ref 48, .int l1, .int l2, .int l3, .int l4]) (st' := [.int 0, .ref 48]) ⟨dX12_isNext_137, dX12_isNext_138, trivial⟩ rfl ?_
        refine ms_putZ mB_189 mO_189 dX12_isNext_139 mF_12_256 (gk_48 N) rfl rfl (by decide) ?_
        refine mr_st (fun δ3 e_δ3 => ?_)
        have F := F δ3 e_δ3
        refine ms_seq mB_189 mO_189 [(.aload_n 0, 1), (.aload_n 0, 1)] (pc' := 144) (L' := [.ref 48, .int l1, .int l2, .int l3, .int l4]) (st' := [.ref 48, .ref 48]) ⟨dX12_isNext_142, dX12_isNext_143, trivial⟩ rfl ?_
        refine ms_getA mB_189 mO_189 dX12_isNext_144 mF_12_83 (gk_48 N) rfl (b := 70) (gr_48_33 N) ?_
        refine ms_seq mB_189 mO_189 [(.iload_n 1, 1), (.iconst 1, 1), (.iadd, 1)] (pc' := 150) (L' := [.ref 48, .int l1, .int l2, .int l3, .int l4]) (st' := [.int (l1 + 1), .ref 70, .ref 48]) ⟨dX12_isNext_147, dX12_isNext_148, dX12_isNext_149, trivial⟩ rfl ?_
        have G := F.1
        have F := F.2
        refine ms_iald mB_189 dX12_isNext_150 (Or.inl (gk_70 N)) (by rw [gl_70 N]; exact G) ?_
        refine ms_callvI mB_189 mO_189 (by omega) dX12_isNext_151 mQ_12_310 mC_12_310 mL_187 mO_187 rfl (Nat.le_of_ble_eq_true rfl) (Nat.le_of_ble_eq_true rfl) (gk_48 N) rfl F (fun r5 δ4 F => ?_)
        refine ms_seq mB_189 mO_189 [(.istore 4, 2), (.aload_n 0, 1), (.iload 4, 2)] (pc' := 159) (L' := [.ref 48, .int l1, .int l2, .int l3, .int r5]) (st' := [.int r5, .ref 48]) ⟨dX12_isNext_154, dX12_isNext_156, dX12_isNext_157, trivial⟩ rfl ?_
        refine ms_if_eq mB_189 dX12_isNext_159 (t := 171) rfl (fun c => ?_) (fun c => ?_)
        · have F := F.1 c
          refine ms_seq mB_189 mO_189 [(.iload_n 1, 1)] (pc' := 172) (L' := [.ref 48, .int l1, .int l2, .int l3, .int r5]) (st' := [.int l1, .ref 48]) ⟨dX12_isNext_171, trivial⟩ rfl ?_
          exact F
        · have F := F.2 c
          refine ms_seq mB_189 mO_189 [(.aload_n 0, 1)] (pc' := 163) (L' := [.ref 48, .int l1, .int l2, .int l3, .int r5]) (st' := [.ref 48, .ref 48]) ⟨dX12_isNext_162, trivial⟩ rfl ?_
          refine ms_getI mB_189 mO_189 dX12_isNext_163 mF_12_262 (gk_48 N) (Or.inl rfl) ?_
          refine ms_seq mB_189 mO_189 [(.iconst 2, 1), (.iadd, 1)] (pc' := 168) (L' := [.ref 48, .int l1, .int l2, .int l3, .int r5]) (st' := [.int ((δ4.1 48 47) + 2), .ref 48]) ⟨dX12_isNext_166, dX12_isNext_167, trivial⟩ rfl ?_
          refine ms_goto mB_189 dX12_isNext_168 (t := 172) rfl ?_
          exact F
      · have F := F.2 c
        refine ms_seq mB_189 mO_189 [(.iconst 0, 1)] (pc' := 120) (L' := [.ref 48, .int l1, .int l2, .int l3, .int l4]) (st' := [.int 0]) ⟨dX12_isNext_119, trivial⟩ rfl ?_
        exact ms_zret mB_189 dX12_isNext_120 mR_189 (by decide) ⟨_, rfl, rfl, F⟩
  · have F := F.1 c
    refine ms_seq mB_189 mO_189 [(.iload_n 3, 1), (.aload_n 0, 1)] (pc' := 66) (L' := [.ref 48, .int l1, .int l2, .int l3, .int l4]) (st' := [.ref 48, .int l3]) ⟨dX12_isNext_64, dX12_isNext_65, trivial⟩ rfl ?_
    refine ms_getA mB_189 mO_189 dX12_isNext_66 mF_12_83 (gk_48 N) rfl (b := 70) (gr_48_33 N) ?_
    refine ms_seq mB_189 mO_189 [(.iload_n 1, 1), (.iload 4, 2), (.iadd, 1)] (pc' := 73) (L' := [.ref 48, .int l1, .int l2, .int l3, .int l4]) (st' := [.int (l1 + l4), .ref 70, .int l3]) ⟨dX12_isNext_69, dX12_isNext_70, dX12_isNext_72, trivial⟩ rfl ?_
    have G := F.1
    have F := F.2
    refine ms_iald mB_189 dX12_isNext_73 (Or.inl (gk_70 N)) (by rw [gl_70 N]; exact G) ?_
    refine ms_callsI mB_189 mO_189 (by omega) dX12_isNext_74 mQ_12_140 mC_12_140 mL_153 (by decide) rfl (Nat.le_of_ble_eq_true rfl) (Nat.le_of_ble_eq_true rfl) rfl F (fun r7 δ6 F => ?_)
    refine ms_seq mB_189 mO_189 [(.istore_n 3, 1), (.iinc 4 1, 3)] (pc' := 81) (L' := [.ref 48, .int l1, .int l2, .int r7, .int (l4 + 1)]) (st' := []) ⟨dX12_isNext_77, dX12_isNext_78, trivial⟩ rfl ?_
    refine ms_goto mB_189 dX12_isNext_81 (t := 56) rfl ?_
    exact F
set_option maxRecDepth 100000 in
theorem q12_isNext_172 {N d : Nat} (hd : 5 ≤ d) {l1 l2 l3 l4 s1 : Int32} {δ : mi_D} {Q : Int32 → mi_D → Prop} (F : (∀ δ1 : mi_D, δ1 = mi_setI δ 48 46 s1 → ((l4 = 0 ∨ l4 = 1) ∧ Q l4 δ1))) : mi_wI N d 189 172 [.ref 48, .int l1, .int l2, .int l3, .int l4] [.int s1, .ref 48] δ Q := by
  unfold mi_wI
  refine ms_putI mB_189 mO_189 dX12_isNext_172 mF_12_259 (gk_48 N) rfl rfl ?_
  refine mr_st (fun δ1 e_δ1 => ?_)
  have F := F δ1 e_δ1
  refine ms_seq mB_189 mO_189 [(.iload 4, 2)] (pc' := 177) (L' := [.ref 48, .int l1, .int l2, .int l3, .int l4]) (st' := [.int l4]) ⟨dX12_isNext_175, trivial⟩ rfl ?_
  exact ms_zret mB_189 dX12_isNext_177 mR_189 F.1 ⟨_, rfl, rfl, F.2⟩
set_option maxRecDepth 100000 in
theorem q12_recover_0 {N d : Nat} (hd : 5 ≤ d) {δ : mi_D} {Q : Int32 → mi_D → Prop} (F : (((δ.1 48 0) = 0 → (∀ δ1 : mi_D, δ1 = mi_setI δ 48 2 0 → (∀ δ2 : mi_D, δ2 = mi_setI δ1 48 10 (-1) → (∀ δ3 : mi_D, δ3 = mi_setI δ2 48 11 0 → (∀ δ4 : mi_D, δ4 = mi_setI δ3 48 12 0 → (∀ δ5 : mi_D, δ5 = mi_setI δ4 48 15 0 → (∀ δ6 : mi_D, δ6 = mi_setI δ5 48 32 0 → (∀ δ7 : mi_D, δ7 = mi_setI δ6 48 24 0 → (∀ δ8 : mi_D, δ8 = mi_setI δ7 48 0 1 → (∀ δ9 : mi_D, δ9 = mi_setI δ8 48 1 1 → (∀ δ10 : mi_D, δ10 = mi_setI δ9 48 46 0 → mi_wI N d 190 62 [.ref 48, .int 1] [] δ10 Q))))))))))) ∧ (¬ (δ.1 48 0) = 0 → Q (-6) δ))) : mi_wI N d 190 0 [.ref 48, .null] [] δ Q := by
  unfold mi_wI
  refine ms_seq mB_190 mO_190 [(.aload_n 0, 1)] (pc' := 1) (L' := [.ref 48, .null]) (st' := [.ref 48]) ⟨dX12_recover_0, trivial⟩ rfl ?_
  refine ms_getI mB_190 mO_190 dX12_recover_1 mF_12_7 (gk_48 N) (Or.inr rfl) ?_
  refine ms_if_eq mB_190 dX12_recover_4 (t := 10) rfl (fun c => ?_) (fun c => ?_)
  · have F := F.1 c
    refine ms_seq mB_190 mO_190 [(.aload_n 0, 1), (.iconst 0, 1)] (pc' := 12) (L' := [.ref 48, .null]) (st' := [.int 0, .ref 48]) ⟨dX12_recover_10, dX12_recover_11, trivial⟩ rfl ?_
    refine ms_putI mB_190 mO_190 dX12_recover_12 mF_12_113 (gk_48 N) rfl rfl ?_
    refine mr_st (fun δ1 e_δ1 => ?_)
    have F := F δ1 e_δ1
    refine ms_seq mB_190 mO_190 [(.aload_n 0, 1), (.iconst (-1), 1)] (pc' := 17) (L' := [.ref 48, .null]) (st' := [.int (-1), .ref 48]) ⟨dX12_recover_15, dX12_recover_16, trivial⟩ rfl ?_
    refine ms_putI mB_190 mO_190 dX12_recover_17 mF_12_37 (gk_48 N) rfl rfl ?_
    refine mr_st (fun δ2 e_δ2 => ?_)
    have F := F δ2 e_δ2
    refine ms_seq mB_190 mO_190 [(.aload_n 0, 1), (.iconst 0, 1)] (pc' := 22) (L' := [.ref 48, .null]) (st' := [.int 0, .ref 48]) ⟨dX12_recover_20, dX12_recover_21, trivial⟩ rfl ?_
    refine ms_putI mB_190 mO_190 dX12_recover_22 mF_12_173 (gk_48 N) rfl rfl ?_
    refine mr_st (fun δ3 e_δ3 => ?_)
    have F := F δ3 e_δ3
    refine ms_seq mB_190 mO_190 [(.aload_n 0, 1), (.iconst 0, 1)] (pc' := 27) (L' := [.ref 48, .null]) (st' := [.int 0, .ref 48]) ⟨dX12_recover_25, dX12_recover_26, trivial⟩ rfl ?_
    refine ms_putI mB_190 mO_190 dX12_recover_27 mF_12_197 (gk_48 N) rfl rfl ?_
    refine mr_st (fun δ4 e_δ4 => ?_)
    have F := F δ4 e_δ4
    refine ms_seq mB_190 mO_190 [(.aload_n 0, 1), (.iconst 0, 1)] (pc' := 32) (L' := [.ref 48, .null]) (st' := [.int 0, .ref 48]) ⟨dX12_recover_30, dX12_recover_31, trivial⟩ rfl ?_
    refine ms_putI mB_190 mO_190 dX12_recover_32 mF_12_203 (gk_48 N) rfl rfl ?_
    refine mr_st (fun δ5 e_δ5 => ?_)
    have F := F δ5 e_δ5
    refine ms_seq mB_190 mO_190 [(.aload_n 0, 1), (.iconst 0, 1)] (pc' := 37) (L' := [.ref 48, .null]) (st' := [.int 0, .ref 48]) ⟨dX12_recover_35, dX12_recover_36, trivial⟩ rfl ?_
    refine ms_putI mB_190 mO_190 dX12_recover_37 mF_12_137 (gk_48 N) rfl rfl ?_
    refine mr_st (fun δ6 e_δ6 => ?_)
    have F := F δ6 e_δ6
    refine ms_seq mB_190 mO_190 [(.aload_n 0, 1), (.iconst 0, 1)] (pc' := 42) (L' := [.ref 48, .null]) (st' := [.int 0, .ref 48]) ⟨dX12_recover_40, dX12_recover_41, trivial⟩ rfl ?_
    refine ms_putI mB_190 mO_190 dX12_recover_42 mF_12_184 (gk_48 N) rfl rfl ?_
    refine mr_st (fun δ7 e_δ7 => ?_)
    have F := F δ7 e_δ7
    refine ms_seq mB_190 mO_190 [(.aload_n 0, 1), (.iconst 1, 1)] (pc' := 47) (L' := [.ref 48, .null]) (st' := [.int 1, .ref 48]) ⟨dX12_recover_45, dX12_recover_46, trivial⟩ rfl ?_
    refine ms_putZ mB_190 mO_190 dX12_recover_47 mF_12_7 (gk_48 N) rfl rfl (by decide) ?_
    refine mr_st (fun δ8 e_δ8 => ?_)
    have F := F δ8 e_δ8
    refine ms_seq mB_190 mO_190 [(.aload_n 0, 1), (.iconst 1, 1)] (pc' := 52) (L' := [.ref 48, .null]) (st' := [.int 1, .ref 48]) ⟨dX12_recover_50, dX12_recover_51, trivial⟩ rfl ?_
    refine ms_putZ mB_190 mO_190 dX12_recover_52 mF_12_129 (gk_48 N) rfl rfl (by decide) ?_
    refine mr_st (fun δ9 e_δ9 => ?_)
    have F := F δ9 e_δ9
    refine ms_seq mB_190 mO_190 [(.aload_n 0, 1), (.iconst 0, 1)] (pc' := 57) (L' := [.ref 48, .null]) (st' := [.int 0, .ref 48]) ⟨dX12_recover_55, dX12_recover_56, trivial⟩ rfl ?_
    refine ms_putI mB_190 mO_190 dX12_recover_57 mF_12_259 (gk_48 N) rfl rfl ?_
    refine mr_st (fun δ10 e_δ10 => ?_)
    have F := F δ10 e_δ10
    refine ms_seq mB_190 mO_190 [(.iconst 1, 1), (.istore_n 1, 1)] (pc' := 62) (L' := [.ref 48, .int 1]) (st' := []) ⟨dX12_recover_60, dX12_recover_61, trivial⟩ rfl ?_
    exact F
  · have F := F.2 c
    refine ms_seq mB_190 mO_190 [(.bipush (-6), 2)] (pc' := 9) (L' := [.ref 48, .null]) (st' := [.int (-6)]) ⟨dX12_recover_7, trivial⟩ rfl ?_
    exact ms_iret mB_190 dX12_recover_9 mR_190 ⟨_, rfl, rfl, F⟩
set_option maxRecDepth 100000 in
theorem q12_recover_62 {N d : Nat} (hd : 5 ≤ d) {l1 : Int32} {δ : mi_D} {Q : Int32 → mi_D → Prop} (F : ((l1 = 0 → (∀ δ1 : mi_D, δ1 = mi_setI δ 48 1 0 → (∀ δ2 : mi_D, δ2 = mi_setI δ1 48 30 (δ1.1 48 46) → (∀ δ3 : mi_D, δ3 = mi_setI δ2 48 31 (δ2.1 48 30) → Q (δ3.1 48 32) δ3)))) ∧ (¬ l1 = 0 → (mi_wI N (d - 1) 189 0 [.ref 48, .null, .null, .null, .null] [] δ (fun r5 δ4 => mi_wI N d 190 62 [.ref 48, .int r5] [] δ4 Q))))) : mi_wI N d 190 62 [.ref 48, .int l1] [] δ Q := by
  unfold mi_wI
  refine ms_seq mB_190 mO_190 [(.iload_n 1, 1)] (pc' := 63) (L' := [.ref 48, .int l1]) (st' := [.int l1]) ⟨dX12_recover_62, trivial⟩ rfl ?_
  refine ms_if_eq mB_190 dX12_recover_63 (t := 74) rfl (fun c => ?_) (fun c => ?_)
  · have F := F.1 c
    refine ms_seq mB_190 mO_190 [(.aload_n 0, 1), (.iconst 0, 1)] (pc' := 76) (L' := [.ref 48, .int l1]) (st' := [.int 0, .ref 48]) ⟨dX12_recover_74, dX12_recover_75, trivial⟩ rfl ?_
    refine ms_putZ mB_190 mO_190 dX12_recover_76 mF_12_129 (gk_48 N) rfl rfl (by decide) ?_
    refine mr_st (fun δ1 e_δ1 => ?_)
    have F := F δ1 e_δ1
    refine ms_seq mB_190 mO_190 [(.aload_n 0, 1), (.aload_n 0, 1)] (pc' := 81) (L' := [.ref 48, .int l1]) (st' := [.ref 48, .ref 48]) ⟨dX12_recover_79, dX12_recover_80, trivial⟩ rfl ?_
    refine ms_getI mB_190 mO_190 dX12_recover_81 mF_12_259 (gk_48 N) (Or.inl rfl) ?_
    refine ms_putI mB_190 mO_190 dX12_recover_84 mF_12_132 (gk_48 N) rfl rfl ?_
    refine mr_st (fun δ2 e_δ2 => ?_)
    have F := F δ2 e_δ2
    refine ms_seq mB_190 mO_190 [(.aload_n 0, 1), (.aload_n 0, 1)] (pc' := 89) (L' := [.ref 48, .int l1]) (st' := [.ref 48, .ref 48]) ⟨dX12_recover_87, dX12_recover_88, trivial⟩ rfl ?_
    refine ms_getI mB_190 mO_190 dX12_recover_89 mF_12_132 (gk_48 N) (Or.inl rfl) ?_
    refine ms_putI mB_190 mO_190 dX12_recover_92 mF_12_248 (gk_48 N) rfl rfl ?_
    refine mr_st (fun δ3 e_δ3 => ?_)
    have F := F δ3 e_δ3
    refine ms_seq mB_190 mO_190 [(.aload_n 0, 1)] (pc' := 96) (L' := [.ref 48, .int l1]) (st' := [.ref 48]) ⟨dX12_recover_95, trivial⟩ rfl ?_
    refine ms_getI mB_190 mO_190 dX12_recover_96 mF_12_137 (gk_48 N) (Or.inl rfl) ?_
    exact ms_iret mB_190 dX12_recover_99 mR_190 ⟨_, rfl, rfl, F⟩
  · have F := F.2 c
    refine ms_seq mB_190 mO_190 [(.aload_n 0, 1)] (pc' := 67) (L' := [.ref 48, .int l1]) (st' := [.ref 48]) ⟨dX12_recover_66, trivial⟩ rfl ?_
    refine ms_callvI mB_190 mO_190 (by omega) dX12_recover_67 mQ_12_313 mC_12_313 mL_189 mO_189 rfl (Nat.le_of_ble_eq_true rfl) (Nat.le_of_ble_eq_true rfl) (gk_48 N) rfl F (fun r5 δ4 F => ?_)
    refine ms_seq mB_190 mO_190 [(.istore_n 1, 1)] (pc' := 71) (L' := [.ref 48, .int r5]) (st' := []) ⟨dX12_recover_70, trivial⟩ rfl ?_
    refine ms_goto mB_190 dX12_recover_71 (t := 62) rfl ?_
    exact F
set_option maxRecDepth 100000 in
theorem q12_byteAt_0 {N d : Nat} (hd : 5 ≤ d) {p0 : Int32} {δ : mi_D} {Q : Int32 → mi_D → Prop} (F : (mi_wI N (d - 1) 148 0 [.long (Int32.toInt64 p0), .null, .long 0, .null, .long (Int32.toInt64 ((δ.1 48 30) - 1)), .null] [] δ (fun r2 δ1 => ((r2 = 0 → Q (-2) δ1) ∧ (¬ r2 = 0 → (mi_ix p0 6000 = true ∧ Q (δ1.2.1 70 (Int32.toNatClampNeg p0)) δ1)))))) : mi_wI N d 191 0 [.ref 48, .int p0] [] δ Q := by
  unfold mi_wI
  refine ms_seq mB_191 mO_191 [(.iload_n 1, 1), (.i2l, 1), (.lconst 0, 1), (.aload_n 0, 1)] (pc' := 4) (L' := [.ref 48, .int p0]) (st' := [.ref 48, .long 0, .long (Int32.toInt64 p0)]) ⟨dX12_byteAt_0, dX12_byteAt_1, dX12_byteAt_2, dX12_byteAt_3, trivial⟩ rfl ?_
  refine ms_getI mB_191 mO_191 dX12_byteAt_4 mF_12_132 (gk_48 N) (Or.inl rfl) ?_
  refine ms_seq mB_191 mO_191 [(.iconst 1, 1), (.isub, 1), (.i2l, 1)] (pc' := 10) (L' := [.ref 48, .int p0]) (st' := [.long (Int32.toInt64 ((δ.1 48 30) - 1)), .long 0, .long (Int32.toInt64 p0)]) ⟨dX12_byteAt_7, dX12_byteAt_8, dX12_byteAt_9, trivial⟩ rfl ?_
  refine ms_callsI mB_191 mO_191 (by omega) dX12_byteAt_10 mQ_12_116 mC_12_116 mL_148 (by decide) rfl (Nat.le_of_ble_eq_true rfl) (Nat.le_of_ble_eq_true rfl) rfl F (fun r2 δ1 F => ?_)
  refine ms_if_eq mB_191 dX12_byteAt_13 (t := 25) rfl (fun c => ?_) (fun c => ?_)
  · have F := F.1 c
    refine ms_seq mB_191 mO_191 [(.bipush (-2), 2)] (pc' := 27) (L' := [.ref 48, .int p0]) (st' := [.int (-2)]) ⟨dX12_byteAt_25, trivial⟩ rfl ?_
    exact ms_iret mB_191 dX12_byteAt_27 mR_191 ⟨_, rfl, rfl, F⟩
  · have F := F.2 c
    refine ms_seq mB_191 mO_191 [(.aload_n 0, 1)] (pc' := 17) (L' := [.ref 48, .int p0]) (st' := [.ref 48]) ⟨dX12_byteAt_16, trivial⟩ rfl ?_
    refine ms_getA mB_191 mO_191 dX12_byteAt_17 mF_12_83 (gk_48 N) rfl (b := 70) (gr_48_33 N) ?_
    refine ms_seq mB_191 mO_191 [(.iload_n 1, 1)] (pc' := 21) (L' := [.ref 48, .int p0]) (st' := [.int p0, .ref 70]) ⟨dX12_byteAt_20, trivial⟩ rfl ?_
    have G := F.1
    have F := F.2
    refine ms_iald mB_191 dX12_byteAt_21 (Or.inl (gk_70 N)) (by rw [gl_70 N]; exact G) ?_
    refine ms_goto mB_191 dX12_byteAt_22 (t := 27) rfl ?_
    exact ms_iret mB_191 dX12_byteAt_27 mR_191 ⟨_, rfl, rfl, F⟩
set_option maxRecDepth 100000 in
theorem q12_of_0 {N d : Nat} (hd : 5 ≤ d) {p0 p1 : Int32} {δ : mi_D} {Q : Int32 → mi_D → Prop} (F : (((δ.1 48 0) = 0 → Q (-6) δ) ∧ (¬ (δ.1 48 0) = 0 → (mi_wI N (d - 1) 149 0 [.ref 48, .int p0] [] δ (fun r2 δ1 => ((r2 = 0 → Q (-2) δ1) ∧ (¬ r2 = 0 → ((p1 = 0 → (mi_ix p0 60 = true ∧ Q (δ1.2.1 49 (Int32.toNatClampNeg p0)) δ1)) ∧ (p1 = 1 → (mi_ix p0 60 = true ∧ Q (δ1.2.1 50 (Int32.toNatClampNeg p0)) δ1)) ∧ (p1 = 2 → (mi_ix p0 60 = true ∧ Q (δ1.2.1 51 (Int32.toNatClampNeg p0)) δ1)) ∧ (p1 = 3 → (mi_ix p0 60 = true ∧ (((δ1.2.1 52 (Int32.toNatClampNeg p0)) = 0 → Q 0 δ1) ∧ (¬ (δ1.2.1 52 (Int32.toNatClampNeg p0)) = 0 → Q 1 δ1)))) ∧ (p1 = 4 → (mi_ix p0 60 = true ∧ (((δ1.2.1 54 (Int32.toNatClampNeg p0)) = 0 → Q 0 δ1) ∧ (¬ (δ1.2.1 54 (Int32.toNatClampNeg p0)) = 0 → Q 1 δ1)))) ∧ (p1 = 5 → (mi_ix p0 60 = true ∧ Q (δ1.2.1 53 (Int32.toNatClampNeg p0)) δ1)) ∧ (p1 = 6 → mi_wI N d 192 127 [.ref 48, .int p0, .int p1, .int 0, .int 0] [] δ1 Q) ∧ (¬ p1 = 0 → ¬ p1 = 1 → ¬ p1 = 2 → ¬ p1 = 3 → ¬ p1 = 4 → ¬ p1 = 5 → ¬ p1 = 6 → Q (-3) δ1))))))))) : mi_wI N d 192 0 [.ref 48, .int p0, .int p1, .null, .null] [] δ Q := by
  unfold mi_wI
  refine ms_seq mB_192 mO_192 [(.aload_n 0, 1)] (pc' := 1) (L' := [.ref 48, .int p0, .int p1, .null, .null]) (st' := [.ref 48]) ⟨dX12_of_0, trivial⟩ rfl ?_
  refine ms_getI mB_192 mO_192 dX12_of_1 mF_12_7 (gk_48 N) (Or.inr rfl) ?_
  refine ms_if_ne mB_192 dX12_of_4 (t := 10) rfl (fun c => ?_) (fun c => ?_)
  · have F := F.2 c
    refine ms_seq mB_192 mO_192 [(.aload_n 0, 1), (.iload_n 1, 1)] (pc' := 12) (L' := [.ref 48, .int p0, .int p1, .null, .null]) (st' := [.int p0, .ref 48]) ⟨dX12_of_10, dX12_of_11, trivial⟩ rfl ?_
    refine ms_callvI mB_192 mO_192 (by omega) dX12_of_12 mQ_12_148 mC_12_148 mL_149 mO_149 rfl (Nat.le_of_ble_eq_true rfl) (Nat.le_of_ble_eq_true rfl) (gk_48 N) rfl F (fun r2 δ1 F => ?_)
    refine ms_if_ne mB_192 dX12_of_15 (t := 21) rfl (fun c => ?_) (fun c => ?_)
    · have F := F.2 c
      refine ms_seq mB_192 mO_192 [(.iload_n 2, 1)] (pc' := 22) (L' := [.ref 48, .int p0, .int p1, .null, .null]) (st' := [.int p1]) ⟨dX12_of_21, trivial⟩ rfl ?_
      by_cases n0 : p1 = 0
      · refine ms_pure mB_192 mO_192 (pc' := 64) (L' := [.ref 48, .int p0, .int p1, .null, .null]) (st' := []) dX12_of_22 (by rw [n0]; rfl) ?_
        have F := F.1 n0
        refine ms_seq mB_192 mO_192 [(.aload_n 0, 1)] (pc' := 65) (L' := [.ref 48, .int p0, .int p1, .null, .null]) (st' := [.ref 48]) ⟨dX12_of_64, trivial⟩ rfl ?_
        refine ms_getA mB_192 mO_192 dX12_of_65 mF_12_13 (gk_48 N) rfl (b := 49) (gr_48_3 N) ?_
        refine ms_seq mB_192 mO_192 [(.iload_n 1, 1)] (pc' := 69) (L' := [.ref 48, .int p0, .int p1, .null, .null]) (st' := [.int p0, .ref 49]) ⟨dX12_of_68, trivial⟩ rfl ?_
        have G := F.1
        have F := F.2
        refine ms_iald mB_192 dX12_of_69 (Or.inl (gk_49 N)) (by rw [gl_49 N]; exact G) ?_
        exact ms_iret mB_192 dX12_of_70 mR_192 ⟨_, rfl, rfl, F⟩
      have F := F.2
      by_cases n1 : p1 = 1
      · refine ms_pure mB_192 mO_192 (pc' := 71) (L' := [.ref 48, .int p0, .int p1, .null, .null]) (st' := []) dX12_of_22 (by rw [n1]; rfl) ?_
        have F := F.1 n1
        refine ms_seq mB_192 mO_192 [(.aload_n 0, 1)] (pc' := 72) (L' := [.ref 48, .int p0, .int p1, .null, .null]) (st' := [.ref 48]) ⟨dX12_of_71, trivial⟩ rfl ?_
        refine ms_getA mB_192 mO_192 dX12_of_72 mF_12_17 (gk_48 N) rfl (b := 50) (gr_48_4 N) ?_
        refine ms_seq mB_192 mO_192 [(.iload_n 1, 1)] (pc' := 76) (L' := [.ref 48, .int p0, .int p1, .null, .null]) (st' := [.int p0, .ref 50]) ⟨dX12_of_75, trivial⟩ rfl ?_
        have G := F.1
        have F := F.2
        refine ms_iald mB_192 dX12_of_76 (Or.inl (gk_50 N)) (by rw [gl_50 N]; exact G) ?_
        exact ms_iret mB_192 dX12_of_77 mR_192 ⟨_, rfl, rfl, F⟩
      have F := F.2
      by_cases n2 : p1 = 2
      · refine ms_pure mB_192 mO_192 (pc' := 78) (L' := [.ref 48, .int p0, .int p1, .null, .null]) (st' := []) dX12_of_22 (by rw [n2]; rfl) ?_
        have F := F.1 n2
        refine ms_seq mB_192 mO_192 [(.aload_n 0, 1)] (pc' := 79) (L' := [.ref 48, .int p0, .int p1, .null, .null]) (st' := [.ref 48]) ⟨dX12_of_78, trivial⟩ rfl ?_
        refine ms_getA mB_192 mO_192 dX12_of_79 mF_12_20 (gk_48 N) rfl (b := 51) (gr_48_5 N) ?_
        refine ms_seq mB_192 mO_192 [(.iload_n 1, 1)] (pc' := 83) (L' := [.ref 48, .int p0, .int p1, .null, .null]) (st' := [.int p0, .ref 51]) ⟨dX12_of_82, trivial⟩ rfl ?_
        have G := F.1
        have F := F.2
        refine ms_iald mB_192 dX12_of_83 (Or.inl (gk_51 N)) (by rw [gl_51 N]; exact G) ?_
        exact ms_iret mB_192 dX12_of_84 mR_192 ⟨_, rfl, rfl, F⟩
      have F := F.2
      by_cases n3 : p1 = 3
      · refine ms_pure mB_192 mO_192 (pc' := 85) (L' := [.ref 48, .int p0, .int p1, .null, .null]) (st' := []) dX12_of_22 (by rw [n3]; rfl) ?_
        have F := F.1 n3
        refine ms_seq mB_192 mO_192 [(.aload_n 0, 1)] (pc' := 86) (L' := [.ref 48, .int p0, .int p1, .null, .null]) (st' := [.ref 48]) ⟨dX12_of_85, trivial⟩ rfl ?_
        refine ms_getA mB_192 mO_192 dX12_of_86 mF_12_23 (gk_48 N) rfl (b := 52) (gr_48_6 N) ?_
        refine ms_seq mB_192 mO_192 [(.iload_n 1, 1)] (pc' := 90) (L' := [.ref 48, .int p0, .int p1, .null, .null]) (st' := [.int p0, .ref 52]) ⟨dX12_of_89, trivial⟩ rfl ?_
        have G := F.1
        have F := F.2
        refine ms_bald mB_192 dX12_of_90 (gk_52 N) (by rw [gl_52 N]; exact G) ?_
        refine ms_if_eq mB_192 dX12_of_91 (t := 98) rfl (fun c => ?_) (fun c => ?_)
        · have F := F.1 c
          refine ms_seq mB_192 mO_192 [(.iconst 0, 1)] (pc' := 99) (L' := [.ref 48, .int p0, .int p1, .null, .null]) (st' := [.int 0]) ⟨dX12_of_98, trivial⟩ rfl ?_
          exact ms_iret mB_192 dX12_of_99 mR_192 ⟨_, rfl, rfl, F⟩
        · have F := F.2 c
          refine ms_seq mB_192 mO_192 [(.iconst 1, 1)] (pc' := 95) (L' := [.ref 48, .int p0, .int p1, .null, .null]) (st' := [.int 1]) ⟨dX12_of_94, trivial⟩ rfl ?_
          refine ms_goto mB_192 dX12_of_95 (t := 99) rfl ?_
          exact ms_iret mB_192 dX12_of_99 mR_192 ⟨_, rfl, rfl, F⟩
      have F := F.2
      by_cases n4 : p1 = 4
      · refine ms_pure mB_192 mO_192 (pc' := 100) (L' := [.ref 48, .int p0, .int p1, .null, .null]) (st' := []) dX12_of_22 (by rw [n4]; rfl) ?_
        have F := F.1 n4
        refine ms_seq mB_192 mO_192 [(.aload_n 0, 1)] (pc' := 101) (L' := [.ref 48, .int p0, .int p1, .null, .null]) (st' := [.ref 48]) ⟨dX12_of_100, trivial⟩ rfl ?_
        refine ms_getA mB_192 mO_192 dX12_of_101 mF_12_30 (gk_48 N) rfl (b := 54) (gr_48_8 N) ?_
        refine ms_seq mB_192 mO_192 [(.iload_n 1, 1)] (pc' := 105) (L' := [.ref 48, .int p0, .int p1, .null, .null]) (st' := [.int p0, .ref 54]) ⟨dX12_of_104, trivial⟩ rfl ?_
        have G := F.1
        have F := F.2
        refine ms_bald mB_192 dX12_of_105 (gk_54 N) (by rw [gl_54 N]; exact G) ?_
        refine ms_if_eq mB_192 dX12_of_106 (t := 113) rfl (fun c => ?_) (fun c => ?_)
        · have F := F.1 c
          refine ms_seq mB_192 mO_192 [(.iconst 0, 1)] (pc' := 114) (L' := [.ref 48, .int p0, .int p1, .null, .null]) (st' := [.int 0]) ⟨dX12_of_113, trivial⟩ rfl ?_
          exact ms_iret mB_192 dX12_of_114 mR_192 ⟨_, rfl, rfl, F⟩
        · have F := F.2 c
          refine ms_seq mB_192 mO_192 [(.iconst 1, 1)] (pc' := 110) (L' := [.ref 48, .int p0, .int p1, .null, .null]) (st' := [.int 1]) ⟨dX12_of_109, trivial⟩ rfl ?_
          refine ms_goto mB_192 dX12_of_110 (t := 114) rfl ?_
          exact ms_iret mB_192 dX12_of_114 mR_192 ⟨_, rfl, rfl, F⟩
      have F := F.2
      by_cases n5 : p1 = 5
      · refine ms_pure mB_192 mO_192 (pc' := 115) (L' := [.ref 48, .int p0, .int p1, .null, .null]) (st' := []) dX12_of_22 (by rw [n5]; rfl) ?_
        have F := F.1 n5
        refine ms_seq mB_192 mO_192 [(.aload_n 0, 1)] (pc' := 116) (L' := [.ref 48, .int p0, .int p1, .null, .null]) (st' := [.ref 48]) ⟨dX12_of_115, trivial⟩ rfl ?_
        refine ms_getA mB_192 mO_192 dX12_of_116 mF_12_27 (gk_48 N) rfl (b := 53) (gr_48_7 N) ?_
        refine ms_seq mB_192 mO_192 [(.iload_n 1, 1)] (pc' := 120) (L' := [.ref 48, .int p0, .int p1, .null, .null]) (st' := [.int p0, .ref 53]) ⟨dX12_of_119, trivial⟩ rfl ?_
        have G := F.1
        have F := F.2
        refine ms_iald mB_192 dX12_of_120 (Or.inl (gk_53 N)) (by rw [gl_53 N]; exact G) ?_
        exact ms_iret mB_192 dX12_of_121 mR_192 ⟨_, rfl, rfl, F⟩
      have F := F.2
      by_cases n6 : p1 = 6
      · refine ms_pure mB_192 mO_192 (pc' := 122) (L' := [.ref 48, .int p0, .int p1, .null, .null]) (st' := []) dX12_of_22 (by rw [n6]; rfl) ?_
        have F := F.1 n6
        refine ms_seq mB_192 mO_192 [(.iconst 0, 1), (.istore_n 3, 1), (.iconst 0, 1), (.istore 4, 2)] (pc' := 127) (L' := [.ref 48, .int p0, .int p1, .int 0, .int 0]) (st' := []) ⟨dX12_of_122, dX12_of_123, dX12_of_124, dX12_of_125, trivial⟩ rfl ?_
        exact F
      have F := F.2
      refine ms_swd mB_192 dX12_of_22 (t := 168) (by have a0 := lv_neT n0 (a := 0) rfl; have a1 := lv_neT n1 (a := 1) rfl; have a2 := lv_neT n2 (a := 2) rfl; have a3 := lv_neT n3 (a := 3) rfl; have a4 := lv_neT n4 (a := 4) rfl; have a5 := lv_neT n5 (a := 5) rfl; have a6 := lv_neT n6 (a := 6) rfl; omega) rfl ?_
      have F := F n0
      have F := F n1
      have F := F n2
      have F := F n3
      have F := F n4
      have F := F n5
      have F := F n6
      refine ms_seq mB_192 mO_192 [(.bipush (-3), 2)] (pc' := 170) (L' := [.ref 48, .int p0, .int p1, .null, .null]) (st' := [.int (-3)]) ⟨dX12_of_168, trivial⟩ rfl ?_
      exact ms_iret mB_192 dX12_of_170 mR_192 ⟨_, rfl, rfl, F⟩
    · have F := F.1 c
      refine ms_seq mB_192 mO_192 [(.bipush (-2), 2)] (pc' := 20) (L' := [.ref 48, .int p0, .int p1, .null, .null]) (st' := [.int (-2)]) ⟨dX12_of_18, trivial⟩ rfl ?_
      exact ms_iret mB_192 dX12_of_20 mR_192 ⟨_, rfl, rfl, F⟩
  · have F := F.1 c
    refine ms_seq mB_192 mO_192 [(.bipush (-6), 2)] (pc' := 9) (L' := [.ref 48, .int p0, .int p1, .null, .null]) (st' := [.int (-6)]) ⟨dX12_of_7, trivial⟩ rfl ?_
    exact ms_iret mB_192 dX12_of_9 mR_192 ⟨_, rfl, rfl, F⟩
set_option maxRecDepth 100000 in
theorem q12_of_127 {N d : Nat} (hd : 5 ≤ d) {l1 l2 l3 l4 : Int32} {δ : mi_D} {Q : Int32 → mi_D → Prop} (F : (mi_ix (δ.1 48 15) 401 = true ∧ ((l4 < (δ.2.1 61 (Int32.toNatClampNeg (δ.1 48 15))) → (mi_ix l4 24800 = true ∧ (((δ.2.1 64 (Int32.toNatClampNeg l4)) = l1 → (∀ x2 : Int32, x2 = (l3 + 1) → mi_wI N d 192 127 [.ref 48, .int l1, .int l2, .int x2, .int (l4 + 1)] [] δ Q)) ∧ (¬ (δ.2.1 64 (Int32.toNatClampNeg l4)) = l1 → (∀ x1 : Int32, x1 = (l3 + 0) → mi_wI N d 192 127 [.ref 48, .int l1, .int l2, .int x1, .int (l4 + 1)] [] δ Q))))) ∧ (¬ l4 < (δ.2.1 61 (Int32.toNatClampNeg (δ.1 48 15))) → Q l3 δ)))) : mi_wI N d 192 127 [.ref 48, .int l1, .int l2, .int l3, .int l4] [] δ Q := by
  unfold mi_wI
  refine ms_seq mB_192 mO_192 [(.iload 4, 2), (.aload_n 0, 1)] (pc' := 130) (L' := [.ref 48, .int l1, .int l2, .int l3, .int l4]) (st' := [.ref 48, .int l4]) ⟨dX12_of_127, dX12_of_129, trivial⟩ rfl ?_
  refine ms_getA mB_192 mO_192 dX12_of_130 mF_12_56 (gk_48 N) rfl (b := 61) (gr_48_19 N) ?_
  refine ms_seq mB_192 mO_192 [(.aload_n 0, 1)] (pc' := 134) (L' := [.ref 48, .int l1, .int l2, .int l3, .int l4]) (st' := [.ref 48, .ref 61, .int l4]) ⟨dX12_of_133, trivial⟩ rfl ?_
  refine ms_getI mB_192 mO_192 dX12_of_134 mF_12_203 (gk_48 N) (Or.inl rfl) ?_
  have G := F.1
  have F := F.2
  refine ms_iald mB_192 dX12_of_137 (Or.inl (gk_61 N)) (by rw [gl_61 N]; exact G) ?_
  refine ms_icmp_ge mB_192 dX12_of_138 (t := 166) rfl (fun c => ?_) (fun c => ?_)
  · have F := F.2 c
    refine ms_seq mB_192 mO_192 [(.iload_n 3, 1)] (pc' := 167) (L' := [.ref 48, .int l1, .int l2, .int l3, .int l4]) (st' := [.int l3]) ⟨dX12_of_166, trivial⟩ rfl ?_
    exact ms_iret mB_192 dX12_of_167 mR_192 ⟨_, rfl, rfl, F⟩
  · have F := F.1 c
    refine ms_seq mB_192 mO_192 [(.iload_n 3, 1), (.aload_n 0, 1)] (pc' := 143) (L' := [.ref 48, .int l1, .int l2, .int l3, .int l4]) (st' := [.ref 48, .int l3]) ⟨dX12_of_141, dX12_of_142, trivial⟩ rfl ?_
    refine ms_getA mB_192 mO_192 dX12_of_143 mF_12_65 (gk_48 N) rfl (b := 64) (gr_48_22 N) ?_
    refine ms_seq mB_192 mO_192 [(.iload 4, 2)] (pc' := 148) (L' := [.ref 48, .int l1, .int l2, .int l3, .int l4]) (st' := [.int l4, .ref 64, .int l3]) ⟨dX12_of_146, trivial⟩ rfl ?_
    have G := F.1
    have F := F.2
    refine ms_iald mB_192 dX12_of_148 (Or.inl (gk_64 N)) (by rw [gl_64 N]; exact G) ?_
    refine ms_seq mB_192 mO_192 [(.iload_n 1, 1)] (pc' := 150) (L' := [.ref 48, .int l1, .int l2, .int l3, .int l4]) (st' := [.int l1, .int (δ.2.1 64 (Int32.toNatClampNeg l4)), .int l3]) ⟨dX12_of_149, trivial⟩ rfl ?_
    refine ms_icmp_ne mB_192 dX12_of_150 (t := 157) rfl (fun c => ?_) (fun c => ?_)
    · have F := F.2 c
      refine ms_seq mB_192 mO_192 [(.iconst 0, 1), (.iadd, 1)] (pc' := 159) (L' := [.ref 48, .int l1, .int l2, .int l3, .int l4]) (st' := [.int (l3 + 0)]) ⟨dX12_of_157, dX12_of_158, trivial⟩ rfl ?_
      refine mr_topi (fun x1 e_x1 => ?_)
      have F := F x1 e_x1
      refine ms_seq mB_192 mO_192 [(.istore_n 3, 1), (.iinc 4 1, 3)] (pc' := 163) (L' := [.ref 48, .int l1, .int l2, .int x1, .int (l4 + 1)]) (st' := []) ⟨dX12_of_159, dX12_of_160, trivial⟩ rfl ?_
      refine ms_goto mB_192 dX12_of_163 (t := 127) rfl ?_
      exact F
    · have F := F.1 c
      refine ms_seq mB_192 mO_192 [(.iconst 1, 1)] (pc' := 154) (L' := [.ref 48, .int l1, .int l2, .int l3, .int l4]) (st' := [.int 1, .int l3]) ⟨dX12_of_153, trivial⟩ rfl ?_
      refine ms_goto mB_192 dX12_of_154 (t := 158) rfl ?_
      refine ms_seq mB_192 mO_192 [(.iadd, 1)] (pc' := 159) (L' := [.ref 48, .int l1, .int l2, .int l3, .int l4]) (st' := [.int (l3 + 1)]) ⟨dX12_of_158, trivial⟩ rfl ?_
      refine mr_topi (fun x2 e_x2 => ?_)
      have F := F x2 e_x2
      refine ms_seq mB_192 mO_192 [(.istore_n 3, 1), (.iinc 4 1, 3)] (pc' := 163) (L' := [.ref 48, .int l1, .int l2, .int x2, .int (l4 + 1)]) (st' := []) ⟨dX12_of_159, dX12_of_160, trivial⟩ rfl ?_
      refine ms_goto mB_192 dX12_of_163 (t := 127) rfl ?_
      exact F
set_option maxRecDepth 100000 in
theorem q12_isUnder_0 {N d : Nat} (hd : 5 ≤ d) {p0 p1 : Int32} {δ : mi_D} {Q : Int32 → mi_D → Prop} (F : mi_wI N d 193 2 [.ref 48, .int p0, .int p1, .int p0] [] δ Q) : mi_wI N d 193 0 [.ref 48, .int p0, .int p1, .null] [] δ Q := by
  unfold mi_wI
  refine ms_seq mB_193 mO_193 [(.iload_n 1, 1), (.istore_n 3, 1)] (pc' := 2) (L' := [.ref 48, .int p0, .int p1, .int p0]) (st' := []) ⟨dX12_isUnder_0, dX12_isUnder_1, trivial⟩ rfl ?_
  exact F
set_option maxRecDepth 100000 in
theorem q12_isUnder_2 {N d : Nat} (hd : 5 ≤ d) {l1 l2 l3 : Int32} {δ : mi_D} {Q : Int32 → mi_D → Prop} (F : ((l3 = (-1) → mi_wI N d 193 22 [.ref 48, .int l1, .int l2, .int l3] [] δ Q) ∧ (¬ l3 = (-1) → ((l3 = l2 → mi_wI N d 193 22 [.ref 48, .int l1, .int l2, .int l3] [] δ Q) ∧ (¬ l3 = l2 → (mi_ix l3 60 = true ∧ (∀ x1 : Int32, x1 = (δ.2.1 51 (Int32.toNatClampNeg l3)) → mi_wI N d 193 2 [.ref 48, .int l1, .int l2, .int x1] [] δ Q))))))) : mi_wI N d 193 2 [.ref 48, .int l1, .int l2, .int l3] [] δ Q := by
  unfold mi_wI
  refine ms_seq mB_193 mO_193 [(.iload_n 3, 1), (.iconst (-1), 1)] (pc' := 4) (L' := [.ref 48, .int l1, .int l2, .int l3]) (st' := [.int (-1), .int l3]) ⟨dX12_isUnder_2, dX12_isUnder_3, trivial⟩ rfl ?_
  refine ms_icmp_eq mB_193 dX12_isUnder_4 (t := 22) rfl (fun c => ?_) (fun c => ?_)
  · have F := F.1 c
    exact F
  · have F := F.2 c
    refine ms_seq mB_193 mO_193 [(.iload_n 3, 1), (.iload_n 2, 1)] (pc' := 9) (L' := [.ref 48, .int l1, .int l2, .int l3]) (st' := [.int l2, .int l3]) ⟨dX12_isUnder_7, dX12_isUnder_8, trivial⟩ rfl ?_
    refine ms_icmp_eq mB_193 dX12_isUnder_9 (t := 22) rfl (fun c => ?_) (fun c => ?_)
    · have F := F.1 c
      exact F
    · have F := F.2 c
      refine ms_seq mB_193 mO_193 [(.aload_n 0, 1)] (pc' := 13) (L' := [.ref 48, .int l1, .int l2, .int l3]) (st' := [.ref 48]) ⟨dX12_isUnder_12, trivial⟩ rfl ?_
      refine ms_getA mB_193 mO_193 dX12_isUnder_13 mF_12_20 (gk_48 N) rfl (b := 51) (gr_48_5 N) ?_
      refine ms_seq mB_193 mO_193 [(.iload_n 3, 1)] (pc' := 17) (L' := [.ref 48, .int l1, .int l2, .int l3]) (st' := [.int l3, .ref 51]) ⟨dX12_isUnder_16, trivial⟩ rfl ?_
      have G := F.1
      have F := F.2
      refine ms_iald mB_193 dX12_isUnder_17 (Or.inl (gk_51 N)) (by rw [gl_51 N]; exact G) ?_
      refine mr_topi (fun x1 e_x1 => ?_)
      have F := F x1 e_x1
      refine ms_seq mB_193 mO_193 [(.istore_n 3, 1)] (pc' := 19) (L' := [.ref 48, .int l1, .int l2, .int x1]) (st' := []) ⟨dX12_isUnder_18, trivial⟩ rfl ?_
      refine ms_goto mB_193 dX12_isUnder_19 (t := 2) rfl ?_
      exact F
set_option maxRecDepth 100000 in
theorem q12_isUnder_22 {N d : Nat} (hd : 5 ≤ d) {l1 l2 l3 : Int32} {δ : mi_D} {Q : Int32 → mi_D → Prop} (F : ((l3 = l2 → Q 1 δ) ∧ (¬ l3 = l2 → Q 0 δ))) : mi_wI N d 193 22 [.ref 48, .int l1, .int l2, .int l3] [] δ Q := by
  unfold mi_wI
  refine ms_seq mB_193 mO_193 [(.iload_n 3, 1), (.iload_n 2, 1)] (pc' := 24) (L' := [.ref 48, .int l1, .int l2, .int l3]) (st' := [.int l2, .int l3]) ⟨dX12_isUnder_22, dX12_isUnder_23, trivial⟩ rfl ?_
  refine ms_icmp_ne mB_193 dX12_isUnder_24 (t := 31) rfl (fun c => ?_) (fun c => ?_)
  · have F := F.2 c
    refine ms_seq mB_193 mO_193 [(.iconst 0, 1)] (pc' := 32) (L' := [.ref 48, .int l1, .int l2, .int l3]) (st' := [.int 0]) ⟨dX12_isUnder_31, trivial⟩ rfl ?_
    exact ms_zret mB_193 dX12_isUnder_32 mR_193 (by decide) ⟨_, rfl, rfl, F⟩
  · have F := F.1 c
    refine ms_seq mB_193 mO_193 [(.iconst 1, 1)] (pc' := 28) (L' := [.ref 48, .int l1, .int l2, .int l3]) (st' := [.int 1]) ⟨dX12_isUnder_27, trivial⟩ rfl ?_
    refine ms_goto mB_193 dX12_isUnder_28 (t := 32) rfl ?_
    exact ms_zret mB_193 dX12_isUnder_32 mR_193 (by decide) ⟨_, rfl, rfl, F⟩
set_option maxRecDepth 100000 in
theorem q12_balanceOf_0 {N d : Nat} (hd : 5 ≤ d) {p0 : Int32} {δ : mi_D} {Q : Int64 → mi_D → Prop} (F : mi_wL N d 194 5 [.ref 48, .int p0, .long 0, .null, .int 0] [] δ Q) : mi_wL N d 194 0 [.ref 48, .int p0, .null, .null, .null] [] δ Q := by
  unfold mi_wL
  refine ms_seq mB_194 mO_194 [(.lconst 0, 1), (.lstore_n 2, 1), (.iconst 0, 1), (.istore 4, 2)] (pc' := 5) (L' := [.ref 48, .int p0, .long 0, .null, .int 0]) (st' := []) ⟨dX12_balanceOf_0, dX12_balanceOf_1, dX12_balanceOf_2, dX12_balanceOf_3, trivial⟩ rfl ?_
  exact F
set_option maxRecDepth 100000 in
theorem q12_balanceOf_5 {N d : Nat} (hd : 5 ≤ d) {l1 l4 : Int32} {l2 : Int64} {δ : mi_D} {Q : Int64 → mi_D → Prop} (F : ((l4 < (δ.1 48 2) → (mi_ix l4 60 = true ∧ (((δ.2.1 52 (Int32.toNatClampNeg l4)) = 0 → (mi_wI N (d - 1) 193 0 [.ref 48, .int l4, .int l1, .null] [] δ (fun r3 δ2 => ((r3 = 0 → (∀ x4 : Int64, x4 = (l2 + 0) → mi_wL N d 194 5 [.ref 48, .int l1, .long x4, .null, .int (l4 + 1)] [] δ2 Q)) ∧ (¬ r3 = 0 → (mi_ix l4 60 = true ∧ (∀ x5 : Int64, x5 = (l2 + (δ2.2.2 55 (Int32.toNatClampNeg l4))) → mi_wL N d 194 5 [.ref 48, .int l1, .long x5, .null, .int (l4 + 1)] [] δ2 Q))))))) ∧ (¬ (δ.2.1 52 (Int32.toNatClampNeg l4)) = 0 → (∀ x1 : Int64, x1 = (l2 + 0) → mi_wL N d 194 5 [.ref 48, .int l1, .long x1, .null, .int (l4 + 1)] [] δ Q))))) ∧ (¬ l4 < (δ.1 48 2) → Q l2 δ))) : mi_wL N d 194 5 [.ref 48, .int l1, .long l2, .null, .int l4] [] δ Q := by
  unfold mi_wL
  refine ms_seq mB_194 mO_194 [(.iload 4, 2), (.aload_n 0, 1)] (pc' := 8) (L' := [.ref 48, .int l1, .long l2, .null, .int l4]) (st' := [.ref 48, .int l4]) ⟨dX12_balanceOf_5, dX12_balanceOf_7, trivial⟩ rfl ?_
  refine ms_getI mB_194 mO_194 dX12_balanceOf_8 mF_12_113 (gk_48 N) (Or.inl rfl) ?_
  refine ms_icmp_ge mB_194 dX12_balanceOf_11 (t := 54) rfl (fun c => ?_) (fun c => ?_)
  · have F := F.2 c
    refine ms_seq mB_194 mO_194 [(.lload_n 2, 1)] (pc' := 55) (L' := [.ref 48, .int l1, .long l2, .null, .int l4]) (st' := [.long l2]) ⟨dX12_balanceOf_54, trivial⟩ rfl ?_
    exact ms_lret mB_194 dX12_balanceOf_55 mR_194 ⟨_, rfl, rfl, F⟩
  · have F := F.1 c
    refine ms_seq mB_194 mO_194 [(.lload_n 2, 1), (.aload_n 0, 1)] (pc' := 16) (L' := [.ref 48, .int l1, .long l2, .null, .int l4]) (st' := [.ref 48, .long l2]) ⟨dX12_balanceOf_14, dX12_balanceOf_15, trivial⟩ rfl ?_
    refine ms_getA mB_194 mO_194 dX12_balanceOf_16 mF_12_23 (gk_48 N) rfl (b := 52) (gr_48_6 N) ?_
    refine ms_seq mB_194 mO_194 [(.iload 4, 2)] (pc' := 21) (L' := [.ref 48, .int l1, .long l2, .null, .int l4]) (st' := [.int l4, .ref 52, .long l2]) ⟨dX12_balanceOf_19, trivial⟩ rfl ?_
    have G := F.1
    have F := F.2
    refine ms_bald mB_194 dX12_balanceOf_21 (gk_52 N) (by rw [gl_52 N]; exact G) ?_
    refine ms_if_ne mB_194 dX12_balanceOf_22 (t := 45) rfl (fun c => ?_) (fun c => ?_)
    · have F := F.2 c
      refine ms_seq mB_194 mO_194 [(.lconst 0, 1), (.ladd, 1)] (pc' := 47) (L' := [.ref 48, .int l1, .long l2, .null, .int l4]) (st' := [.long (l2 + 0)]) ⟨dX12_balanceOf_45, dX12_balanceOf_46, trivial⟩ rfl ?_
      refine mr_topl (fun x1 e_x1 => ?_)
      have F := F x1 e_x1
      refine ms_seq mB_194 mO_194 [(.lstore_n 2, 1), (.iinc 4 1, 3)] (pc' := 51) (L' := [.ref 48, .int l1, .long x1, .null, .int (l4 + 1)]) (st' := []) ⟨dX12_balanceOf_47, dX12_balanceOf_48, trivial⟩ rfl ?_
      refine ms_goto mB_194 dX12_balanceOf_51 (t := 5) rfl ?_
      exact F
    · have F := F.1 c
      refine ms_seq mB_194 mO_194 [(.aload_n 0, 1), (.iload 4, 2), (.iload_n 1, 1)] (pc' := 29) (L' := [.ref 48, .int l1, .long l2, .null, .int l4]) (st' := [.int l1, .int l4, .ref 48, .long l2]) ⟨dX12_balanceOf_25, dX12_balanceOf_26, dX12_balanceOf_28, trivial⟩ rfl ?_
      refine ms_callvI mB_194 mO_194 (by omega) dX12_balanceOf_29 mQ_12_316 mC_12_316 mL_193 mO_193 rfl (Nat.le_of_ble_eq_true rfl) (Nat.le_of_ble_eq_true rfl) (gk_48 N) rfl F (fun r3 δ2 F => ?_)
      refine ms_if_eq mB_194 dX12_balanceOf_32 (t := 45) rfl (fun c => ?_) (fun c => ?_)
      · have F := F.1 c
        refine ms_seq mB_194 mO_194 [(.lconst 0, 1), (.ladd, 1)] (pc' := 47) (L' := [.ref 48, .int l1, .long l2, .null, .int l4]) (st' := [.long (l2 + 0)]) ⟨dX12_balanceOf_45, dX12_balanceOf_46, trivial⟩ rfl ?_
        refine mr_topl (fun x4 e_x4 => ?_)
        have F := F x4 e_x4
        refine ms_seq mB_194 mO_194 [(.lstore_n 2, 1), (.iinc 4 1, 3)] (pc' := 51) (L' := [.ref 48, .int l1, .long x4, .null, .int (l4 + 1)]) (st' := []) ⟨dX12_balanceOf_47, dX12_balanceOf_48, trivial⟩ rfl ?_
        refine ms_goto mB_194 dX12_balanceOf_51 (t := 5) rfl ?_
        exact F
      · have F := F.2 c
        refine ms_seq mB_194 mO_194 [(.aload_n 0, 1)] (pc' := 36) (L' := [.ref 48, .int l1, .long l2, .null, .int l4]) (st' := [.ref 48, .long l2]) ⟨dX12_balanceOf_35, trivial⟩ rfl ?_
        refine ms_getA mB_194 mO_194 dX12_balanceOf_36 mF_12_33 (gk_48 N) rfl (b := 55) (gr_48_9 N) ?_
        refine ms_seq mB_194 mO_194 [(.iload 4, 2)] (pc' := 41) (L' := [.ref 48, .int l1, .long l2, .null, .int l4]) (st' := [.int l4, .ref 55, .long l2]) ⟨dX12_balanceOf_39, trivial⟩ rfl ?_
        have G := F.1
        have F := F.2
        refine ms_lald mB_194 dX12_balanceOf_41 (gk_55 N) (by rw [gl_55 N]; exact G) ?_
        refine ms_goto mB_194 dX12_balanceOf_42 (t := 46) rfl ?_
        refine ms_seq mB_194 mO_194 [(.ladd, 1)] (pc' := 47) (L' := [.ref 48, .int l1, .long l2, .null, .int l4]) (st' := [.long (l2 + (δ2.2.2 55 (Int32.toNatClampNeg l4)))]) ⟨dX12_balanceOf_46, trivial⟩ rfl ?_
        refine mr_topl (fun x5 e_x5 => ?_)
        have F := F x5 e_x5
        refine ms_seq mB_194 mO_194 [(.lstore_n 2, 1), (.iinc 4 1, 3)] (pc' := 51) (L' := [.ref 48, .int l1, .long x5, .null, .int (l4 + 1)]) (st' := []) ⟨dX12_balanceOf_47, dX12_balanceOf_48, trivial⟩ rfl ?_
        refine ms_goto mB_194 dX12_balanceOf_51 (t := 5) rfl ?_
        exact F
set_option maxRecDepth 100000 in
theorem q12_balance_0 {N d : Nat} (hd : 5 ≤ d) {p0 : Int32} {δ : mi_D} {Q : Int64 → mi_D → Prop} (F : (((δ.1 48 0) = 0 → Q (-9223372036854775808) δ) ∧ (¬ (δ.1 48 0) = 0 → (mi_wI N (d - 1) 149 0 [.ref 48, .int p0] [] δ (fun r2 δ1 => ((r2 = 0 → Q (-9223372036854775808) δ1) ∧ (¬ r2 = 0 → (mi_wL N (d - 1) 194 0 [.ref 48, .int p0, .null, .null, .null] [] δ1 (fun r4 δ3 => Q r4 δ3))))))))) : mi_wL N d 195 0 [.ref 48, .int p0] [] δ Q := by
  unfold mi_wL
  refine ms_seq mB_195 mO_195 [(.aload_n 0, 1)] (pc' := 1) (L' := [.ref 48, .int p0]) (st' := [.ref 48]) ⟨dX12_balance_0, trivial⟩ rfl ?_
  refine ms_getI mB_195 mO_195 dX12_balance_1 mF_12_7 (gk_48 N) (Or.inr rfl) ?_
  refine ms_if_eq mB_195 dX12_balance_4 (t := 15) rfl (fun c => ?_) (fun c => ?_)
  · have F := F.1 c
    refine ms_seq mB_195 mO_195 [(.ldc2_w 246, 3)] (pc' := 18) (L' := [.ref 48, .int p0]) (st' := [.long (-9223372036854775808)]) ⟨dX12_balance_15, trivial⟩ rfl ?_
    refine ms_goto mB_195 dX12_balance_18 (t := 26) rfl ?_
    exact ms_lret mB_195 dX12_balance_26 mR_195 ⟨_, rfl, rfl, F⟩
  · have F := F.2 c
    refine ms_seq mB_195 mO_195 [(.aload_n 0, 1), (.iload_n 1, 1)] (pc' := 9) (L' := [.ref 48, .int p0]) (st' := [.int p0, .ref 48]) ⟨dX12_balance_7, dX12_balance_8, trivial⟩ rfl ?_
    refine ms_callvI mB_195 mO_195 (by omega) dX12_balance_9 mQ_12_148 mC_12_148 mL_149 mO_149 rfl (Nat.le_of_ble_eq_true rfl) (Nat.le_of_ble_eq_true rfl) (gk_48 N) rfl F (fun r2 δ1 F => ?_)
    refine ms_if_ne mB_195 dX12_balance_12 (t := 21) rfl (fun c => ?_) (fun c => ?_)
    · have F := F.2 c
      refine ms_seq mB_195 mO_195 [(.aload_n 0, 1), (.iload_n 1, 1)] (pc' := 23) (L' := [.ref 48, .int p0]) (st' := [.int p0, .ref 48]) ⟨dX12_balance_21, dX12_balance_22, trivial⟩ rfl ?_
      refine ms_callvL mB_195 mO_195 (by omega) dX12_balance_23 mQ_12_320 mC_12_320 mL_194 mO_194 rfl (Nat.le_of_ble_eq_true rfl) (Nat.le_of_ble_eq_true rfl) (gk_48 N) rfl F (fun r4 δ3 F => ?_)
      exact ms_lret mB_195 dX12_balance_26 mR_195 ⟨_, rfl, rfl, F⟩
    · have F := F.1 c
      refine ms_seq mB_195 mO_195 [(.ldc2_w 246, 3)] (pc' := 18) (L' := [.ref 48, .int p0]) (st' := [.long (-9223372036854775808)]) ⟨dX12_balance_15, trivial⟩ rfl ?_
      refine ms_goto mB_195 dX12_balance_18 (t := 26) rfl ?_
      exact ms_lret mB_195 dX12_balance_26 mR_195 ⟨_, rfl, rfl, F⟩
set_option maxRecDepth 100000 in
theorem q12_sum_0 {N d : Nat} (hd : 5 ≤ d) {p0 p1 p2 : Int32} {δ : mi_D} {Q : Int64 → mi_D → Prop} (F : (((δ.1 48 0) = 0 → Q (-9223372036854775808) δ) ∧ (¬ (δ.1 48 0) = 0 → (mi_wI N (d - 1) 149 0 [.ref 48, .int p0] [] δ (fun r2 δ1 => ((r2 = 0 → Q (-9223372036854775808) δ1) ∧ (¬ r2 = 0 → mi_wL N d 196 25 [.ref 48, .int p0, .int p1, .int p2, .long 0, .null, .int 0] [] δ1 Q))))))) : mi_wL N d 196 0 [.ref 48, .int p0, .int p1, .int p2, .null, .null, .null] [] δ Q := by
  unfold mi_wL
  refine ms_seq mB_196 mO_196 [(.aload_n 0, 1)] (pc' := 1) (L' := [.ref 48, .int p0, .int p1, .int p2, .null, .null, .null]) (st' := [.ref 48]) ⟨dX12_sum_0, trivial⟩ rfl ?_
  refine ms_getI mB_196 mO_196 dX12_sum_1 mF_12_7 (gk_48 N) (Or.inr rfl) ?_
  refine ms_if_eq mB_196 dX12_sum_4 (t := 15) rfl (fun c => ?_) (fun c => ?_)
  · have F := F.1 c
    refine ms_seq mB_196 mO_196 [(.ldc2_w 246, 3)] (pc' := 18) (L' := [.ref 48, .int p0, .int p1, .int p2, .null, .null, .null]) (st' := [.long (-9223372036854775808)]) ⟨dX12_sum_15, trivial⟩ rfl ?_
    exact ms_lret mB_196 dX12_sum_18 mR_196 ⟨_, rfl, rfl, F⟩
  · have F := F.2 c
    refine ms_seq mB_196 mO_196 [(.aload_n 0, 1), (.iload_n 1, 1)] (pc' := 9) (L' := [.ref 48, .int p0, .int p1, .int p2, .null, .null, .null]) (st' := [.int p0, .ref 48]) ⟨dX12_sum_7, dX12_sum_8, trivial⟩ rfl ?_
    refine ms_callvI mB_196 mO_196 (by omega) dX12_sum_9 mQ_12_148 mC_12_148 mL_149 mO_149 rfl (Nat.le_of_ble_eq_true rfl) (Nat.le_of_ble_eq_true rfl) (gk_48 N) rfl F (fun r2 δ1 F => ?_)
    refine ms_if_ne mB_196 dX12_sum_12 (t := 19) rfl (fun c => ?_) (fun c => ?_)
    · have F := F.2 c
      refine ms_seq mB_196 mO_196 [(.lconst 0, 1), (.lstore 4, 2), (.iconst 0, 1), (.istore 6, 2)] (pc' := 25) (L' := [.ref 48, .int p0, .int p1, .int p2, .long 0, .null, .int 0]) (st' := []) ⟨dX12_sum_19, dX12_sum_20, dX12_sum_22, dX12_sum_23, trivial⟩ rfl ?_
      exact F
    · have F := F.1 c
      refine ms_seq mB_196 mO_196 [(.ldc2_w 246, 3)] (pc' := 18) (L' := [.ref 48, .int p0, .int p1, .int p2, .null, .null, .null]) (st' := [.long (-9223372036854775808)]) ⟨dX12_sum_15, trivial⟩ rfl ?_
      exact ms_lret mB_196 dX12_sum_18 mR_196 ⟨_, rfl, rfl, F⟩
set_option maxRecDepth 100000 in
theorem q12_sum_25 {N d : Nat} (hd : 5 ≤ d) {l1 l2 l3 l6 : Int32} {l4 : Int64} {δ : mi_D} {Q : Int64 → mi_D → Prop} (F : ((l6 < (δ.1 48 2) → (mi_ix l6 60 = true ∧ (((δ.2.1 52 (Int32.toNatClampNeg l6)) = 0 → (mi_wI N (d - 1) 193 0 [.ref 48, .int l6, .int l1, .null] [] δ (fun r3 δ2 => ((r3 = 0 → (∀ x4 : Int64, x4 = (l4 + 0) → mi_wL N d 196 25 [.ref 48, .int l1, .int l2, .int l3, .long x4, .null, .int (l6 + 1)] [] δ2 Q)) ∧ (¬ r3 = 0 → (mi_wL N (d - 1) 174 0 [.ref 48, .int l6, .int l2, .int l3, .null, .null, .null, .null] [] δ2 (fun r6 δ5 => (∀ x7 : Int64, x7 = (l4 + r6) → mi_wL N d 196 25 [.ref 48, .int l1, .int l2, .int l3, .long x7, .null, .int (l6 + 1)] [] δ5 Q)))))))) ∧ (¬ (δ.2.1 52 (Int32.toNatClampNeg l6)) = 0 → (∀ x1 : Int64, x1 = (l4 + 0) → mi_wL N d 196 25 [.ref 48, .int l1, .int l2, .int l3, .long x1, .null, .int (l6 + 1)] [] δ Q))))) ∧ (¬ l6 < (δ.1 48 2) → Q l4 δ))) : mi_wL N d 196 25 [.ref 48, .int l1, .int l2, .int l3, .long l4, .null, .int l6] [] δ Q := by
  unfold mi_wL
  refine ms_seq mB_196 mO_196 [(.iload 6, 2), (.aload_n 0, 1)] (pc' := 28) (L' := [.ref 48, .int l1, .int l2, .int l3, .long l4, .null, .int l6]) (st' := [.ref 48, .int l6]) ⟨dX12_sum_25, dX12_sum_27, trivial⟩ rfl ?_
  refine ms_getI mB_196 mO_196 dX12_sum_28 mF_12_113 (gk_48 N) (Or.inl rfl) ?_
  refine ms_icmp_ge mB_196 dX12_sum_31 (t := 77) rfl (fun c => ?_) (fun c => ?_)
  · have F := F.2 c
    refine ms_seq mB_196 mO_196 [(.lload 4, 2)] (pc' := 79) (L' := [.ref 48, .int l1, .int l2, .int l3, .long l4, .null, .int l6]) (st' := [.long l4]) ⟨dX12_sum_77, trivial⟩ rfl ?_
    exact ms_lret mB_196 dX12_sum_79 mR_196 ⟨_, rfl, rfl, F⟩
  · have F := F.1 c
    refine ms_seq mB_196 mO_196 [(.lload 4, 2), (.aload_n 0, 1)] (pc' := 37) (L' := [.ref 48, .int l1, .int l2, .int l3, .long l4, .null, .int l6]) (st' := [.ref 48, .long l4]) ⟨dX12_sum_34, dX12_sum_36, trivial⟩ rfl ?_
    refine ms_getA mB_196 mO_196 dX12_sum_37 mF_12_23 (gk_48 N) rfl (b := 52) (gr_48_6 N) ?_
    refine ms_seq mB_196 mO_196 [(.iload 6, 2)] (pc' := 42) (L' := [.ref 48, .int l1, .int l2, .int l3, .long l4, .null, .int l6]) (st' := [.int l6, .ref 52, .long l4]) ⟨dX12_sum_40, trivial⟩ rfl ?_
    have G := F.1
    have F := F.2
    refine ms_bald mB_196 dX12_sum_42 (gk_52 N) (by rw [gl_52 N]; exact G) ?_
    refine ms_if_ne mB_196 dX12_sum_43 (t := 67) rfl (fun c => ?_) (fun c => ?_)
    · have F := F.2 c
      refine ms_seq mB_196 mO_196 [(.lconst 0, 1), (.ladd, 1)] (pc' := 69) (L' := [.ref 48, .int l1, .int l2, .int l3, .long l4, .null, .int l6]) (st' := [.long (l4 + 0)]) ⟨dX12_sum_67, dX12_sum_68, trivial⟩ rfl ?_
      refine mr_topl (fun x1 e_x1 => ?_)
      have F := F x1 e_x1
      refine ms_seq mB_196 mO_196 [(.lstore 4, 2), (.iinc 6 1, 3)] (pc' := 74) (L' := [.ref 48, .int l1, .int l2, .int l3, .long x1, .null, .int (l6 + 1)]) (st' := []) ⟨dX12_sum_69, dX12_sum_71, trivial⟩ rfl ?_
      refine ms_goto mB_196 dX12_sum_74 (t := 25) rfl ?_
      exact F
    · have F := F.1 c
      refine ms_seq mB_196 mO_196 [(.aload_n 0, 1), (.iload 6, 2), (.iload_n 1, 1)] (pc' := 50) (L' := [.ref 48, .int l1, .int l2, .int l3, .long l4, .null, .int l6]) (st' := [.int l1, .int l6, .ref 48, .long l4]) ⟨dX12_sum_46, dX12_sum_47, dX12_sum_49, trivial⟩ rfl ?_
      refine ms_callvI mB_196 mO_196 (by omega) dX12_sum_50 mQ_12_316 mC_12_316 mL_193 mO_193 rfl (Nat.le_of_ble_eq_true rfl) (Nat.le_of_ble_eq_true rfl) (gk_48 N) rfl F (fun r3 δ2 F => ?_)
      refine ms_if_eq mB_196 dX12_sum_53 (t := 67) rfl (fun c => ?_) (fun c => ?_)
      · have F := F.1 c
        refine ms_seq mB_196 mO_196 [(.lconst 0, 1), (.ladd, 1)] (pc' := 69) (L' := [.ref 48, .int l1, .int l2, .int l3, .long l4, .null, .int l6]) (st' := [.long (l4 + 0)]) ⟨dX12_sum_67, dX12_sum_68, trivial⟩ rfl ?_
        refine mr_topl (fun x4 e_x4 => ?_)
        have F := F x4 e_x4
        refine ms_seq mB_196 mO_196 [(.lstore 4, 2), (.iinc 6 1, 3)] (pc' := 74) (L' := [.ref 48, .int l1, .int l2, .int l3, .long x4, .null, .int (l6 + 1)]) (st' := []) ⟨dX12_sum_69, dX12_sum_71, trivial⟩ rfl ?_
        refine ms_goto mB_196 dX12_sum_74 (t := 25) rfl ?_
        exact F
      · have F := F.2 c
        refine ms_seq mB_196 mO_196 [(.aload_n 0, 1), (.iload 6, 2), (.iload_n 2, 1), (.iload_n 3, 1)] (pc' := 61) (L' := [.ref 48, .int l1, .int l2, .int l3, .long l4, .null, .int l6]) (st' := [.int l3, .int l2, .int l6, .ref 48, .long l4]) ⟨dX12_sum_56, dX12_sum_57, dX12_sum_59, dX12_sum_60, trivial⟩ rfl ?_
        refine ms_callvL mB_196 mO_196 (by omega) dX12_sum_61 mQ_12_230 mC_12_230 mL_174 mO_174 rfl (Nat.le_of_ble_eq_true rfl) (Nat.le_of_ble_eq_true rfl) (gk_48 N) rfl F (fun r6 δ5 F => ?_)
        refine ms_goto mB_196 dX12_sum_64 (t := 68) rfl ?_
        refine ms_seq mB_196 mO_196 [(.ladd, 1)] (pc' := 69) (L' := [.ref 48, .int l1, .int l2, .int l3, .long l4, .null, .int l6]) (st' := [.long (l4 + r6)]) ⟨dX12_sum_68, trivial⟩ rfl ?_
        refine mr_topl (fun x7 e_x7 => ?_)
        have F := F x7 e_x7
        refine ms_seq mB_196 mO_196 [(.lstore 4, 2), (.iinc 6 1, 3)] (pc' := 74) (L' := [.ref 48, .int l1, .int l2, .int l3, .long x7, .null, .int (l6 + 1)]) (st' := []) ⟨dX12_sum_69, dX12_sum_71, trivial⟩ rfl ?_
        refine ms_goto mB_196 dX12_sum_74 (t := 25) rfl ?_
        exact F
set_option maxRecDepth 100000 in
theorem q12_entry_0 {N d : Nat} (hd : 5 ≤ d) {p0 p1 : Int32} {δ : mi_D} {Q : Int32 → mi_D → Prop} (F : (((δ.1 48 0) = 0 → Q (-6) δ) ∧ (¬ (δ.1 48 0) = 0 → (mi_wI N (d - 1) 148 0 [.long (Int32.toInt64 p0), .null, .long 0, .null, .long (Int32.toInt64 ((δ.1 48 15) - 1)), .null] [] δ (fun r2 δ1 => ((r2 = 0 → Q (-2) δ1) ∧ (¬ r2 = 0 → ((p1 = 0 → (mi_ix p0 400 = true ∧ Q (δ1.2.1 58 (Int32.toNatClampNeg p0)) δ1)) ∧ (p1 = 1 → (mi_ix p0 400 = true ∧ Q (δ1.2.1 59 (Int32.toNatClampNeg p0)) δ1)) ∧ (p1 = 2 → (mi_ix p0 400 = true ∧ Q (δ1.2.1 60 (Int32.toNatClampNeg p0)) δ1)) ∧ (p1 = 3 → (mi_ix (p0 + 1) 401 = true ∧ (mi_ix p0 401 = true ∧ Q ((δ1.2.1 61 (Int32.toNatClampNeg (p0 + 1))) - (δ1.2.1 61 (Int32.toNatClampNeg p0))) δ1))) ∧ (p1 = 4 → (mi_ix p0 400 = true ∧ Q (δ1.2.1 62 (Int32.toNatClampNeg p0)) δ1)) ∧ (p1 = 5 → (mi_ix p0 400 = true ∧ Q (δ1.2.1 63 (Int32.toNatClampNeg p0)) δ1)) ∧ (¬ p1 = 0 → ¬ p1 = 1 → ¬ p1 = 2 → ¬ p1 = 3 → ¬ p1 = 4 → ¬ p1 = 5 → Q (-3) δ1))))))))) : mi_wI N d 197 0 [.ref 48, .int p0, .int p1] [] δ Q := by
  unfold mi_wI
  refine ms_seq mB_197 mO_197 [(.aload_n 0, 1)] (pc' := 1) (L' := [.ref 48, .int p0, .int p1]) (st' := [.ref 48]) ⟨dX12_entry_0, trivial⟩ rfl ?_
  refine ms_getI mB_197 mO_197 dX12_entry_1 mF_12_7 (gk_48 N) (Or.inr rfl) ?_
  refine ms_if_ne mB_197 dX12_entry_4 (t := 10) rfl (fun c => ?_) (fun c => ?_)
  · have F := F.2 c
    refine ms_seq mB_197 mO_197 [(.iload_n 1, 1), (.i2l, 1), (.lconst 0, 1), (.aload_n 0, 1)] (pc' := 14) (L' := [.ref 48, .int p0, .int p1]) (st' := [.ref 48, .long 0, .long (Int32.toInt64 p0)]) ⟨dX12_entry_10, dX12_entry_11, dX12_entry_12, dX12_entry_13, trivial⟩ rfl ?_
    refine ms_getI mB_197 mO_197 dX12_entry_14 mF_12_203 (gk_48 N) (Or.inl rfl) ?_
    refine ms_seq mB_197 mO_197 [(.iconst 1, 1), (.isub, 1), (.i2l, 1)] (pc' := 20) (L' := [.ref 48, .int p0, .int p1]) (st' := [.long (Int32.toInt64 ((δ.1 48 15) - 1)), .long 0, .long (Int32.toInt64 p0)]) ⟨dX12_entry_17, dX12_entry_18, dX12_entry_19, trivial⟩ rfl ?_
    refine ms_callsI mB_197 mO_197 (by omega) dX12_entry_20 mQ_12_116 mC_12_116 mL_148 (by decide) rfl (Nat.le_of_ble_eq_true rfl) (Nat.le_of_ble_eq_true rfl) rfl F (fun r2 δ1 F => ?_)
    refine ms_if_ne mB_197 dX12_entry_23 (t := 29) rfl (fun c => ?_) (fun c => ?_)
    · have F := F.2 c
      refine ms_seq mB_197 mO_197 [(.iload_n 2, 1)] (pc' := 30) (L' := [.ref 48, .int p0, .int p1]) (st' := [.int p1]) ⟨dX12_entry_29, trivial⟩ rfl ?_
      by_cases n0 : p1 = 0
      · refine ms_pure mB_197 mO_197 (pc' := 68) (L' := [.ref 48, .int p0, .int p1]) (st' := []) dX12_entry_30 (by rw [n0]; rfl) ?_
        have F := F.1 n0
        refine ms_seq mB_197 mO_197 [(.aload_n 0, 1)] (pc' := 69) (L' := [.ref 48, .int p0, .int p1]) (st' := [.ref 48]) ⟨dX12_entry_68, trivial⟩ rfl ?_
        refine ms_getA mB_197 mO_197 dX12_entry_69 mF_12_47 (gk_48 N) rfl (b := 58) (gr_48_16 N) ?_
        refine ms_seq mB_197 mO_197 [(.iload_n 1, 1)] (pc' := 73) (L' := [.ref 48, .int p0, .int p1]) (st' := [.int p0, .ref 58]) ⟨dX12_entry_72, trivial⟩ rfl ?_
        have G := F.1
        have F := F.2
        refine ms_iald mB_197 dX12_entry_73 (Or.inl (gk_58 N)) (by rw [gl_58 N]; exact G) ?_
        exact ms_iret mB_197 dX12_entry_74 mR_197 ⟨_, rfl, rfl, F⟩
      have F := F.2
      by_cases n1 : p1 = 1
      · refine ms_pure mB_197 mO_197 (pc' := 75) (L' := [.ref 48, .int p0, .int p1]) (st' := []) dX12_entry_30 (by rw [n1]; rfl) ?_
        have F := F.1 n1
        refine ms_seq mB_197 mO_197 [(.aload_n 0, 1)] (pc' := 76) (L' := [.ref 48, .int p0, .int p1]) (st' := [.ref 48]) ⟨dX12_entry_75, trivial⟩ rfl ?_
        refine ms_getA mB_197 mO_197 dX12_entry_76 mF_12_50 (gk_48 N) rfl (b := 59) (gr_48_17 N) ?_
        refine ms_seq mB_197 mO_197 [(.iload_n 1, 1)] (pc' := 80) (L' := [.ref 48, .int p0, .int p1]) (st' := [.int p0, .ref 59]) ⟨dX12_entry_79, trivial⟩ rfl ?_
        have G := F.1
        have F := F.2
        refine ms_iald mB_197 dX12_entry_80 (Or.inl (gk_59 N)) (by rw [gl_59 N]; exact G) ?_
        exact ms_iret mB_197 dX12_entry_81 mR_197 ⟨_, rfl, rfl, F⟩
      have F := F.2
      by_cases n2 : p1 = 2
      · refine ms_pure mB_197 mO_197 (pc' := 82) (L' := [.ref 48, .int p0, .int p1]) (st' := []) dX12_entry_30 (by rw [n2]; rfl) ?_
        have F := F.1 n2
        refine ms_seq mB_197 mO_197 [(.aload_n 0, 1)] (pc' := 83) (L' := [.ref 48, .int p0, .int p1]) (st' := [.ref 48]) ⟨dX12_entry_82, trivial⟩ rfl ?_
        refine ms_getA mB_197 mO_197 dX12_entry_83 mF_12_53 (gk_48 N) rfl (b := 60) (gr_48_18 N) ?_
        refine ms_seq mB_197 mO_197 [(.iload_n 1, 1)] (pc' := 87) (L' := [.ref 48, .int p0, .int p1]) (st' := [.int p0, .ref 60]) ⟨dX12_entry_86, trivial⟩ rfl ?_
        have G := F.1
        have F := F.2
        refine ms_iald mB_197 dX12_entry_87 (Or.inl (gk_60 N)) (by rw [gl_60 N]; exact G) ?_
        exact ms_iret mB_197 dX12_entry_88 mR_197 ⟨_, rfl, rfl, F⟩
      have F := F.2
      by_cases n3 : p1 = 3
      · refine ms_pure mB_197 mO_197 (pc' := 89) (L' := [.ref 48, .int p0, .int p1]) (st' := []) dX12_entry_30 (by rw [n3]; rfl) ?_
        have F := F.1 n3
        refine ms_seq mB_197 mO_197 [(.aload_n 0, 1)] (pc' := 90) (L' := [.ref 48, .int p0, .int p1]) (st' := [.ref 48]) ⟨dX12_entry_89, trivial⟩ rfl ?_
        refine ms_getA mB_197 mO_197 dX12_entry_90 mF_12_56 (gk_48 N) rfl (b := 61) (gr_48_19 N) ?_
        refine ms_seq mB_197 mO_197 [(.iload_n 1, 1), (.iconst 1, 1), (.iadd, 1)] (pc' := 96) (L' := [.ref 48, .int p0, .int p1]) (st' := [.int (p0 + 1), .ref 61]) ⟨dX12_entry_93, dX12_entry_94, dX12_entry_95, trivial⟩ rfl ?_
        have G := F.1
        have F := F.2
        refine ms_iald mB_197 dX12_entry_96 (Or.inl (gk_61 N)) (by rw [gl_61 N]; exact G) ?_
        refine ms_seq mB_197 mO_197 [(.aload_n 0, 1)] (pc' := 98) (L' := [.ref 48, .int p0, .int p1]) (st' := [.ref 48, .int (δ1.2.1 61 (Int32.toNatClampNeg (p0 + 1)))]) ⟨dX12_entry_97, trivial⟩ rfl ?_
        refine ms_getA mB_197 mO_197 dX12_entry_98 mF_12_56 (gk_48 N) rfl (b := 61) (gr_48_19 N) ?_
        refine ms_seq mB_197 mO_197 [(.iload_n 1, 1)] (pc' := 102) (L' := [.ref 48, .int p0, .int p1]) (st' := [.int p0, .ref 61, .int (δ1.2.1 61 (Int32.toNatClampNeg (p0 + 1)))]) ⟨dX12_entry_101, trivial⟩ rfl ?_
        have G := F.1
        have F := F.2
        refine ms_iald mB_197 dX12_entry_102 (Or.inl (gk_61 N)) (by rw [gl_61 N]; exact G) ?_
        refine ms_seq mB_197 mO_197 [(.isub, 1)] (pc' := 104) (L' := [.ref 48, .int p0, .int p1]) (st' := [.int ((δ1.2.1 61 (Int32.toNatClampNeg (p0 + 1))) - (δ1.2.1 61 (Int32.toNatClampNeg p0)))]) ⟨dX12_entry_103, trivial⟩ rfl ?_
        exact ms_iret mB_197 dX12_entry_104 mR_197 ⟨_, rfl, rfl, F⟩
      have F := F.2
      by_cases n4 : p1 = 4
      · refine ms_pure mB_197 mO_197 (pc' := 105) (L' := [.ref 48, .int p0, .int p1]) (st' := []) dX12_entry_30 (by rw [n4]; rfl) ?_
        have F := F.1 n4
        refine ms_seq mB_197 mO_197 [(.aload_n 0, 1)] (pc' := 106) (L' := [.ref 48, .int p0, .int p1]) (st' := [.ref 48]) ⟨dX12_entry_105, trivial⟩ rfl ?_
        refine ms_getA mB_197 mO_197 dX12_entry_106 mF_12_59 (gk_48 N) rfl (b := 62) (gr_48_20 N) ?_
        refine ms_seq mB_197 mO_197 [(.iload_n 1, 1)] (pc' := 110) (L' := [.ref 48, .int p0, .int p1]) (st' := [.int p0, .ref 62]) ⟨dX12_entry_109, trivial⟩ rfl ?_
        have G := F.1
        have F := F.2
        refine ms_iald mB_197 dX12_entry_110 (Or.inl (gk_62 N)) (by rw [gl_62 N]; exact G) ?_
        exact ms_iret mB_197 dX12_entry_111 mR_197 ⟨_, rfl, rfl, F⟩
      have F := F.2
      by_cases n5 : p1 = 5
      · refine ms_pure mB_197 mO_197 (pc' := 112) (L' := [.ref 48, .int p0, .int p1]) (st' := []) dX12_entry_30 (by rw [n5]; rfl) ?_
        have F := F.1 n5
        refine ms_seq mB_197 mO_197 [(.aload_n 0, 1)] (pc' := 113) (L' := [.ref 48, .int p0, .int p1]) (st' := [.ref 48]) ⟨dX12_entry_112, trivial⟩ rfl ?_
        refine ms_getA mB_197 mO_197 dX12_entry_113 mF_12_62 (gk_48 N) rfl (b := 63) (gr_48_21 N) ?_
        refine ms_seq mB_197 mO_197 [(.iload_n 1, 1)] (pc' := 117) (L' := [.ref 48, .int p0, .int p1]) (st' := [.int p0, .ref 63]) ⟨dX12_entry_116, trivial⟩ rfl ?_
        have G := F.1
        have F := F.2
        refine ms_iald mB_197 dX12_entry_117 (Or.inl (gk_63 N)) (by rw [gl_63 N]; exact G) ?_
        exact ms_iret mB_197 dX12_entry_118 mR_197 ⟨_, rfl, rfl, F⟩
      have F := F.2
      refine ms_swd mB_197 dX12_entry_30 (t := 119) (by have a0 := lv_neT n0 (a := 0) rfl; have a1 := lv_neT n1 (a := 1) rfl; have a2 := lv_neT n2 (a := 2) rfl; have a3 := lv_neT n3 (a := 3) rfl; have a4 := lv_neT n4 (a := 4) rfl; have a5 := lv_neT n5 (a := 5) rfl; omega) rfl ?_
      have F := F n0
      have F := F n1
      have F := F n2
      have F := F n3
      have F := F n4
      have F := F n5
      refine ms_seq mB_197 mO_197 [(.bipush (-3), 2)] (pc' := 121) (L' := [.ref 48, .int p0, .int p1]) (st' := [.int (-3)]) ⟨dX12_entry_119, trivial⟩ rfl ?_
      exact ms_iret mB_197 dX12_entry_121 mR_197 ⟨_, rfl, rfl, F⟩
    · have F := F.1 c
      refine ms_seq mB_197 mO_197 [(.bipush (-2), 2)] (pc' := 28) (L' := [.ref 48, .int p0, .int p1]) (st' := [.int (-2)]) ⟨dX12_entry_26, trivial⟩ rfl ?_
      exact ms_iret mB_197 dX12_entry_28 mR_197 ⟨_, rfl, rfl, F⟩
  · have F := F.1 c
    refine ms_seq mB_197 mO_197 [(.bipush (-6), 2)] (pc' := 9) (L' := [.ref 48, .int p0, .int p1]) (st' := [.int (-6)]) ⟨dX12_entry_7, trivial⟩ rfl ?_
    exact ms_iret mB_197 dX12_entry_9 mR_197 ⟨_, rfl, rfl, F⟩
set_option maxRecDepth 100000 in
theorem q12_lineOf_0 {N d : Nat} (hd : 5 ≤ d) {p0 p1 p2 : Int32} {δ : mi_D} {Q : Int64 → mi_D → Prop} (F : (((δ.1 48 0) = 0 → Q (-9223372036854775808) δ) ∧ (¬ (δ.1 48 0) = 0 → (mi_wI N (d - 1) 148 0 [.long (Int32.toInt64 p0), .null, .long 0, .null, .long (Int32.toInt64 ((δ.1 48 15) - 1)), .null] [] δ (fun r2 δ1 => ((r2 = 0 → Q (-9223372036854775808) δ1) ∧ (¬ r2 = 0 → (mi_ix (p0 + 1) 401 = true ∧ (mi_ix p0 401 = true ∧ (mi_wI N (d - 1) 148 0 [.long (Int32.toInt64 p1), .null, .long 0, .null, .long (Int32.toInt64 (((δ1.2.1 61 (Int32.toNatClampNeg (p0 + 1))) - (δ1.2.1 61 (Int32.toNatClampNeg p0))) - 1)), .null] [] δ1 (fun r4 δ3 => ((r4 = 0 → Q (-9223372036854775808) δ3) ∧ (¬ r4 = 0 → (mi_wI N (d - 1) 148 0 [.long (Int32.toInt64 p2), .null, .long 0, .null, .long 1, .null] [] δ3 (fun r6 δ5 => ((r6 = 0 → Q (-9223372036854775808) δ5) ∧ (¬ r6 = 0 → ((p2 = 0 → (mi_ix p0 401 = true ∧ (mi_ix ((δ5.2.1 61 (Int32.toNatClampNeg p0)) + p1) 24800 = true ∧ Q (Int32.toInt64 (δ5.2.1 64 (Int32.toNatClampNeg ((δ5.2.1 61 (Int32.toNatClampNeg p0)) + p1)))) δ5))) ∧ (¬ p2 = 0 → (mi_ix p0 401 = true ∧ (mi_ix ((δ5.2.1 61 (Int32.toNatClampNeg p0)) + p1) 24800 = true ∧ Q (δ5.2.2 65 (Int32.toNatClampNeg ((δ5.2.1 61 (Int32.toNatClampNeg p0)) + p1))) δ5))))))))))))))))))))) : mi_wL N d 198 0 [.ref 48, .int p0, .int p1, .int p2] [] δ Q := by
  unfold mi_wL
  refine ms_seq mB_198 mO_198 [(.aload_n 0, 1)] (pc' := 1) (L' := [.ref 48, .int p0, .int p1, .int p2]) (st' := [.ref 48]) ⟨dX12_lineOf_0, trivial⟩ rfl ?_
  refine ms_getI mB_198 mO_198 dX12_lineOf_1 mF_12_7 (gk_48 N) (Or.inr rfl) ?_
  refine ms_if_eq mB_198 dX12_lineOf_4 (t := 60) rfl (fun c => ?_) (fun c => ?_)
  · have F := F.1 c
    refine ms_seq mB_198 mO_198 [(.ldc2_w 246, 3)] (pc' := 63) (L' := [.ref 48, .int p0, .int p1, .int p2]) (st' := [.long (-9223372036854775808)]) ⟨dX12_lineOf_60, trivial⟩ rfl ?_
    exact ms_lret mB_198 dX12_lineOf_63 mR_198 ⟨_, rfl, rfl, F⟩
  · have F := F.2 c
    refine ms_seq mB_198 mO_198 [(.iload_n 1, 1), (.i2l, 1), (.lconst 0, 1), (.aload_n 0, 1)] (pc' := 11) (L' := [.ref 48, .int p0, .int p1, .int p2]) (st' := [.ref 48, .long 0, .long (Int32.toInt64 p0)]) ⟨dX12_lineOf_7, dX12_lineOf_8, dX12_lineOf_9, dX12_lineOf_10, trivial⟩ rfl ?_
    refine ms_getI mB_198 mO_198 dX12_lineOf_11 mF_12_203 (gk_48 N) (Or.inl rfl) ?_
    refine ms_seq mB_198 mO_198 [(.iconst 1, 1), (.isub, 1), (.i2l, 1)] (pc' := 17) (L' := [.ref 48, .int p0, .int p1, .int p2]) (st' := [.long (Int32.toInt64 ((δ.1 48 15) - 1)), .long 0, .long (Int32.toInt64 p0)]) ⟨dX12_lineOf_14, dX12_lineOf_15, dX12_lineOf_16, trivial⟩ rfl ?_
    refine ms_callsI mB_198 mO_198 (by omega) dX12_lineOf_17 mQ_12_116 mC_12_116 mL_148 (by decide) rfl (Nat.le_of_ble_eq_true rfl) (Nat.le_of_ble_eq_true rfl) rfl F (fun r2 δ1 F => ?_)
    refine ms_if_eq mB_198 dX12_lineOf_20 (t := 60) rfl (fun c => ?_) (fun c => ?_)
    · have F := F.1 c
      refine ms_seq mB_198 mO_198 [(.ldc2_w 246, 3)] (pc' := 63) (L' := [.ref 48, .int p0, .int p1, .int p2]) (st' := [.long (-9223372036854775808)]) ⟨dX12_lineOf_60, trivial⟩ rfl ?_
      exact ms_lret mB_198 dX12_lineOf_63 mR_198 ⟨_, rfl, rfl, F⟩
    · have F := F.2 c
      refine ms_seq mB_198 mO_198 [(.iload_n 2, 1), (.i2l, 1), (.lconst 0, 1), (.aload_n 0, 1)] (pc' := 27) (L' := [.ref 48, .int p0, .int p1, .int p2]) (st' := [.ref 48, .long 0, .long (Int32.toInt64 p1)]) ⟨dX12_lineOf_23, dX12_lineOf_24, dX12_lineOf_25, dX12_lineOf_26, trivial⟩ rfl ?_
      refine ms_getA mB_198 mO_198 dX12_lineOf_27 mF_12_56 (gk_48 N) rfl (b := 61) (gr_48_19 N) ?_
      refine ms_seq mB_198 mO_198 [(.iload_n 1, 1), (.iconst 1, 1), (.iadd, 1)] (pc' := 33) (L' := [.ref 48, .int p0, .int p1, .int p2]) (st' := [.int (p0 + 1), .ref 61, .long 0, .long (Int32.toInt64 p1)]) ⟨dX12_lineOf_30, dX12_lineOf_31, dX12_lineOf_32, trivial⟩ rfl ?_
      have G := F.1
      have F := F.2
      refine ms_iald mB_198 dX12_lineOf_33 (Or.inl (gk_61 N)) (by rw [gl_61 N]; exact G) ?_
      refine ms_seq mB_198 mO_198 [(.aload_n 0, 1)] (pc' := 35) (L' := [.ref 48, .int p0, .int p1, .int p2]) (st' := [.ref 48, .int (δ1.2.1 61 (Int32.toNatClampNeg (p0 + 1))), .long 0, .long (Int32.toInt64 p1)]) ⟨dX12_lineOf_34, trivial⟩ rfl ?_
      refine ms_getA mB_198 mO_198 dX12_lineOf_35 mF_12_56 (gk_48 N) rfl (b := 61) (gr_48_19 N) ?_
      refine ms_seq mB_198 mO_198 [(.iload_n 1, 1)] (pc' := 39) (L' := [.ref 48, .int p0, .int p1, .int p2]) (st' := [.int p0, .ref 61, .int (δ1.2.1 61 (Int32.toNatClampNeg (p0 + 1))), .long 0, .long (Int32.toInt64 p1)]) ⟨dX12_lineOf_38, trivial⟩ rfl ?_
      have G := F.1
      have F := F.2
      refine ms_iald mB_198 dX12_lineOf_39 (Or.inl (gk_61 N)) (by rw [gl_61 N]; exact G) ?_
      refine ms_seq mB_198 mO_198 [(.isub, 1), (.iconst 1, 1), (.isub, 1), (.i2l, 1)] (pc' := 44) (L' := [.ref 48, .int p0, .int p1, .int p2]) (st' := [.long (Int32.toInt64 (((δ1.2.1 61 (Int32.toNatClampNeg (p0 + 1))) - (δ1.2.1 61 (Int32.toNatClampNeg p0))) - 1)), .long 0, .long (Int32.toInt64 p1)]) ⟨dX12_lineOf_40, dX12_lineOf_41, dX12_lineOf_42, dX12_lineOf_43, trivial⟩ rfl ?_
      refine ms_callsI mB_198 mO_198 (by omega) dX12_lineOf_44 mQ_12_116 mC_12_116 mL_148 (by decide) rfl (Nat.le_of_ble_eq_true rfl) (Nat.le_of_ble_eq_true rfl) rfl F (fun r4 δ3 F => ?_)
      refine ms_if_eq mB_198 dX12_lineOf_47 (t := 60) rfl (fun c => ?_) (fun c => ?_)
      · have F := F.1 c
        refine ms_seq mB_198 mO_198 [(.ldc2_w 246, 3)] (pc' := 63) (L' := [.ref 48, .int p0, .int p1, .int p2]) (st' := [.long (-9223372036854775808)]) ⟨dX12_lineOf_60, trivial⟩ rfl ?_
        exact ms_lret mB_198 dX12_lineOf_63 mR_198 ⟨_, rfl, rfl, F⟩
      · have F := F.2 c
        refine ms_seq mB_198 mO_198 [(.iload_n 3, 1), (.i2l, 1), (.lconst 0, 1), (.lconst 1, 1)] (pc' := 54) (L' := [.ref 48, .int p0, .int p1, .int p2]) (st' := [.long 1, .long 0, .long (Int32.toInt64 p2)]) ⟨dX12_lineOf_50, dX12_lineOf_51, dX12_lineOf_52, dX12_lineOf_53, trivial⟩ rfl ?_
        refine ms_callsI mB_198 mO_198 (by omega) dX12_lineOf_54 mQ_12_116 mC_12_116 mL_148 (by decide) rfl (Nat.le_of_ble_eq_true rfl) (Nat.le_of_ble_eq_true rfl) rfl F (fun r6 δ5 F => ?_)
        refine ms_if_ne mB_198 dX12_lineOf_57 (t := 64) rfl (fun c => ?_) (fun c => ?_)
        · have F := F.2 c
          refine ms_seq mB_198 mO_198 [(.iload_n 3, 1)] (pc' := 65) (L' := [.ref 48, .int p0, .int p1, .int p2]) (st' := [.int p2]) ⟨dX12_lineOf_64, trivial⟩ rfl ?_
          refine ms_if_ne mB_198 dX12_lineOf_65 (t := 85) rfl (fun c => ?_) (fun c => ?_)
          · have F := F.2 c
            refine ms_seq mB_198 mO_198 [(.aload_n 0, 1)] (pc' := 86) (L' := [.ref 48, .int p0, .int p1, .int p2]) (st' := [.ref 48]) ⟨dX12_lineOf_85, trivial⟩ rfl ?_
            refine ms_getA mB_198 mO_198 dX12_lineOf_86 mF_12_68 (gk_48 N) rfl (b := 65) (gr_48_23 N) ?_
            refine ms_seq mB_198 mO_198 [(.aload_n 0, 1)] (pc' := 90) (L' := [.ref 48, .int p0, .int p1, .int p2]) (st' := [.ref 48, .ref 65]) ⟨dX12_lineOf_89, trivial⟩ rfl ?_
            refine ms_getA mB_198 mO_198 dX12_lineOf_90 mF_12_56 (gk_48 N) rfl (b := 61) (gr_48_19 N) ?_
            refine ms_seq mB_198 mO_198 [(.iload_n 1, 1)] (pc' := 94) (L' := [.ref 48, .int p0, .int p1, .int p2]) (st' := [.int p0, .ref 61, .ref 65]) ⟨dX12_lineOf_93, trivial⟩ rfl ?_
            have G := F.1
            have F := F.2
            refine ms_iald mB_198 dX12_lineOf_94 (Or.inl (gk_61 N)) (by rw [gl_61 N]; exact G) ?_
            refine ms_seq mB_198 mO_198 [(.iload_n 2, 1), (.iadd, 1)] (pc' := 97) (L' := [.ref 48, .int p0, .int p1, .int p2]) (st' := [.int ((δ5.2.1 61 (Int32.toNatClampNeg p0)) + p1), .ref 65]) ⟨dX12_lineOf_95, dX12_lineOf_96, trivial⟩ rfl ?_
            have G := F.1
            have F := F.2
            refine ms_lald mB_198 dX12_lineOf_97 (gk_65 N) (by rw [gl_65 N]; exact G) ?_
            exact ms_lret mB_198 dX12_lineOf_98 mR_198 ⟨_, rfl, rfl, F⟩
          · have F := F.1 c
            refine ms_seq mB_198 mO_198 [(.aload_n 0, 1)] (pc' := 69) (L' := [.ref 48, .int p0, .int p1, .int p2]) (st' := [.ref 48]) ⟨dX12_lineOf_68, trivial⟩ rfl ?_
            refine ms_getA mB_198 mO_198 dX12_lineOf_69 mF_12_65 (gk_48 N) rfl (b := 64) (gr_48_22 N) ?_
            refine ms_seq mB_198 mO_198 [(.aload_n 0, 1)] (pc' := 73) (L' := [.ref 48, .int p0, .int p1, .int p2]) (st' := [.ref 48, .ref 64]) ⟨dX12_lineOf_72, trivial⟩ rfl ?_
            refine ms_getA mB_198 mO_198 dX12_lineOf_73 mF_12_56 (gk_48 N) rfl (b := 61) (gr_48_19 N) ?_
            refine ms_seq mB_198 mO_198 [(.iload_n 1, 1)] (pc' := 77) (L' := [.ref 48, .int p0, .int p1, .int p2]) (st' := [.int p0, .ref 61, .ref 64]) ⟨dX12_lineOf_76, trivial⟩ rfl ?_
            have G := F.1
            have F := F.2
            refine ms_iald mB_198 dX12_lineOf_77 (Or.inl (gk_61 N)) (by rw [gl_61 N]; exact G) ?_
            refine ms_seq mB_198 mO_198 [(.iload_n 2, 1), (.iadd, 1)] (pc' := 80) (L' := [.ref 48, .int p0, .int p1, .int p2]) (st' := [.int ((δ5.2.1 61 (Int32.toNatClampNeg p0)) + p1), .ref 64]) ⟨dX12_lineOf_78, dX12_lineOf_79, trivial⟩ rfl ?_
            have G := F.1
            have F := F.2
            refine ms_iald mB_198 dX12_lineOf_80 (Or.inl (gk_64 N)) (by rw [gl_64 N]; exact G) ?_
            refine ms_seq mB_198 mO_198 [(.i2l, 1)] (pc' := 82) (L' := [.ref 48, .int p0, .int p1, .int p2]) (st' := [.long (Int32.toInt64 (δ5.2.1 64 (Int32.toNatClampNeg ((δ5.2.1 61 (Int32.toNatClampNeg p0)) + p1))))]) ⟨dX12_lineOf_81, trivial⟩ rfl ?_
            refine ms_goto mB_198 dX12_lineOf_82 (t := 98) rfl ?_
            exact ms_lret mB_198 dX12_lineOf_98 mR_198 ⟨_, rfl, rfl, F⟩
        · have F := F.1 c
          refine ms_seq mB_198 mO_198 [(.ldc2_w 246, 3)] (pc' := 63) (L' := [.ref 48, .int p0, .int p1, .int p2]) (st' := [.long (-9223372036854775808)]) ⟨dX12_lineOf_60, trivial⟩ rfl ?_
          exact ms_lret mB_198 dX12_lineOf_63 mR_198 ⟨_, rfl, rfl, F⟩
set_option maxRecDepth 100000 in
theorem q12_ledger_0 {N d : Nat} (hd : 5 ≤ d) {p0 p1 p2 : Int32} {δ : mi_D} {Q : Int64 → mi_D → Prop} (F : (((δ.1 48 0) = 0 → Q (-9223372036854775808) δ) ∧ (¬ (δ.1 48 0) = 0 → (mi_wI N (d - 1) 149 0 [.ref 48, .int p0] [] δ (fun r2 δ1 => ((r2 = 0 → Q (-9223372036854775808) δ1) ∧ (¬ r2 = 0 → (mi_ix p0 60 = true ∧ (((δ1.2.1 52 (Int32.toNatClampNeg p0)) = 0 → (mi_wI N (d - 1) 148 0 [.long (Int32.toInt64 p2), .null, .long 0, .null, .long 2, .null] [] δ1 (fun r4 δ3 => ((r4 = 0 → Q (-9223372036854775808) δ3) ∧ (¬ r4 = 0 → ((p1 < 0 → Q (-9223372036854775808) δ3) ∧ (¬ p1 < 0 → mi_wL N d 199 53 [.ref 48, .int p0, .int p1, .int p2, .int 0, .long 0, .null, .int 0, .null] [] δ3 Q))))))) ∧ (¬ (δ1.2.1 52 (Int32.toNatClampNeg p0)) = 0 → Q (-9223372036854775808) δ1)))))))))) : mi_wL N d 199 0 [.ref 48, .int p0, .int p1, .int p2, .null, .null, .null, .null, .null] [] δ Q := by
  unfold mi_wL
  refine ms_seq mB_199 mO_199 [(.aload_n 0, 1)] (pc' := 1) (L' := [.ref 48, .int p0, .int p1, .int p2, .null, .null, .null, .null, .null]) (st' := [.ref 48]) ⟨dX12_ledger_0, trivial⟩ rfl ?_
  refine ms_getI mB_199 mO_199 dX12_ledger_1 mF_12_7 (gk_48 N) (Or.inr rfl) ?_
  refine ms_if_eq mB_199 dX12_ledger_4 (t := 40) rfl (fun c => ?_) (fun c => ?_)
  · have F := F.1 c
    refine ms_seq mB_199 mO_199 [(.ldc2_w 246, 3)] (pc' := 43) (L' := [.ref 48, .int p0, .int p1, .int p2, .null, .null, .null, .null, .null]) (st' := [.long (-9223372036854775808)]) ⟨dX12_ledger_40, trivial⟩ rfl ?_
    exact ms_lret mB_199 dX12_ledger_43 mR_199 ⟨_, rfl, rfl, F⟩
  · have F := F.2 c
    refine ms_seq mB_199 mO_199 [(.aload_n 0, 1), (.iload_n 1, 1)] (pc' := 9) (L' := [.ref 48, .int p0, .int p1, .int p2, .null, .null, .null, .null, .null]) (st' := [.int p0, .ref 48]) ⟨dX12_ledger_7, dX12_ledger_8, trivial⟩ rfl ?_
    refine ms_callvI mB_199 mO_199 (by omega) dX12_ledger_9 mQ_12_148 mC_12_148 mL_149 mO_149 rfl (Nat.le_of_ble_eq_true rfl) (Nat.le_of_ble_eq_true rfl) (gk_48 N) rfl F (fun r2 δ1 F => ?_)
    refine ms_if_eq mB_199 dX12_ledger_12 (t := 40) rfl (fun c => ?_) (fun c => ?_)
    · have F := F.1 c
      refine ms_seq mB_199 mO_199 [(.ldc2_w 246, 3)] (pc' := 43) (L' := [.ref 48, .int p0, .int p1, .int p2, .null, .null, .null, .null, .null]) (st' := [.long (-9223372036854775808)]) ⟨dX12_ledger_40, trivial⟩ rfl ?_
      exact ms_lret mB_199 dX12_ledger_43 mR_199 ⟨_, rfl, rfl, F⟩
    · have F := F.2 c
      refine ms_seq mB_199 mO_199 [(.aload_n 0, 1)] (pc' := 16) (L' := [.ref 48, .int p0, .int p1, .int p2, .null, .null, .null, .null, .null]) (st' := [.ref 48]) ⟨dX12_ledger_15, trivial⟩ rfl ?_
      refine ms_getA mB_199 mO_199 dX12_ledger_16 mF_12_23 (gk_48 N) rfl (b := 52) (gr_48_6 N) ?_
      refine ms_seq mB_199 mO_199 [(.iload_n 1, 1)] (pc' := 20) (L' := [.ref 48, .int p0, .int p1, .int p2, .null, .null, .null, .null, .null]) (st' := [.int p0, .ref 52]) ⟨dX12_ledger_19, trivial⟩ rfl ?_
      have G := F.1
      have F := F.2
      refine ms_bald mB_199 dX12_ledger_20 (gk_52 N) (by rw [gl_52 N]; exact G) ?_
      refine ms_if_ne mB_199 dX12_ledger_21 (t := 40) rfl (fun c => ?_) (fun c => ?_)
      · have F := F.2 c
        refine ms_seq mB_199 mO_199 [(.ldc2_w 246, 3)] (pc' := 43) (L' := [.ref 48, .int p0, .int p1, .int p2, .null, .null, .null, .null, .null]) (st' := [.long (-9223372036854775808)]) ⟨dX12_ledger_40, trivial⟩ rfl ?_
        exact ms_lret mB_199 dX12_ledger_43 mR_199 ⟨_, rfl, rfl, F⟩
      · have F := F.1 c
        refine ms_seq mB_199 mO_199 [(.iload_n 3, 1), (.i2l, 1), (.lconst 0, 1), (.ldc2_w 125, 3)] (pc' := 30) (L' := [.ref 48, .int p0, .int p1, .int p2, .null, .null, .null, .null, .null]) (st' := [.long 2, .long 0, .long (Int32.toInt64 p2)]) ⟨dX12_ledger_24, dX12_ledger_25, dX12_ledger_26, dX12_ledger_27, trivial⟩ rfl ?_
        refine ms_callsI mB_199 mO_199 (by omega) dX12_ledger_30 mQ_12_116 mC_12_116 mL_148 (by decide) rfl (Nat.le_of_ble_eq_true rfl) (Nat.le_of_ble_eq_true rfl) rfl F (fun r4 δ3 F => ?_)
        refine ms_if_eq mB_199 dX12_ledger_33 (t := 40) rfl (fun c => ?_) (fun c => ?_)
        · have F := F.1 c
          refine ms_seq mB_199 mO_199 [(.ldc2_w 246, 3)] (pc' := 43) (L' := [.ref 48, .int p0, .int p1, .int p2, .null, .null, .null, .null, .null]) (st' := [.long (-9223372036854775808)]) ⟨dX12_ledger_40, trivial⟩ rfl ?_
          exact ms_lret mB_199 dX12_ledger_43 mR_199 ⟨_, rfl, rfl, F⟩
        · have F := F.2 c
          refine ms_seq mB_199 mO_199 [(.iload_n 2, 1)] (pc' := 37) (L' := [.ref 48, .int p0, .int p1, .int p2, .null, .null, .null, .null, .null]) (st' := [.int p1]) ⟨dX12_ledger_36, trivial⟩ rfl ?_
          refine ms_if_ge mB_199 dX12_ledger_37 (t := 44) rfl (fun c => ?_) (fun c => ?_)
          · have F := F.2 c
            refine ms_seq mB_199 mO_199 [(.iconst 0, 1), (.istore 4, 2), (.lconst 0, 1), (.lstore 5, 2), (.iconst 0, 1), (.istore 7, 2)] (pc' := 53) (L' := [.ref 48, .int p0, .int p1, .int p2, .int 0, .long 0, .null, .int 0, .null]) (st' := []) ⟨dX12_ledger_44, dX12_ledger_45, dX12_ledger_47, dX12_ledger_48, dX12_ledger_50, dX12_ledger_51, trivial⟩ rfl ?_
            exact F
          · have F := F.1 c
            refine ms_seq mB_199 mO_199 [(.ldc2_w 246, 3)] (pc' := 43) (L' := [.ref 48, .int p0, .int p1, .int p2, .null, .null, .null, .null, .null]) (st' := [.long (-9223372036854775808)]) ⟨dX12_ledger_40, trivial⟩ rfl ?_
            exact ms_lret mB_199 dX12_ledger_43 mR_199 ⟨_, rfl, rfl, F⟩
set_option maxRecDepth 100000 in
theorem q12_ledger_53 {N d : Nat} (hd : 5 ≤ d) {l1 l2 l3 l4 l7 : Int32} {l5 : Int64} {δ : mi_D} {Q : Int64 → mi_D → Prop} (F : ((l7 < (δ.1 48 15) → (mi_ix l7 401 = true ∧ (∀ x1 : Int32, x1 = (δ.2.1 61 (Int32.toNatClampNeg l7)) → mi_wL N d 199 71 [.ref 48, .int l1, .int l2, .int l3, .int l4, .long l5, .null, .int l7, .int x1] [] δ Q))) ∧ (¬ l7 < (δ.1 48 15) → Q (-9223372036854775808) δ))) : mi_wL N d 199 53 [.ref 48, .int l1, .int l2, .int l3, .int l4, .long l5, .null, .int l7, .null] [] δ Q := by
  unfold mi_wL
  refine ms_seq mB_199 mO_199 [(.iload 7, 2), (.aload_n 0, 1)] (pc' := 56) (L' := [.ref 48, .int l1, .int l2, .int l3, .int l4, .long l5, .null, .int l7, .null]) (st' := [.ref 48, .int l7]) ⟨dX12_ledger_53, dX12_ledger_55, trivial⟩ rfl ?_
  refine ms_getI mB_199 mO_199 dX12_ledger_56 mF_12_203 (gk_48 N) (Or.inl rfl) ?_
  refine ms_icmp_ge mB_199 dX12_ledger_59 (t := 157) rfl (fun c => ?_) (fun c => ?_)
  · have F := F.2 c
    refine ms_seq mB_199 mO_199 [(.ldc2_w 246, 3)] (pc' := 160) (L' := [.ref 48, .int l1, .int l2, .int l3, .int l4, .long l5, .null, .int l7, .null]) (st' := [.long (-9223372036854775808)]) ⟨dX12_ledger_157, trivial⟩ rfl ?_
    exact ms_lret mB_199 dX12_ledger_160 mR_199 ⟨_, rfl, rfl, F⟩
  · have F := F.1 c
    refine ms_seq mB_199 mO_199 [(.aload_n 0, 1)] (pc' := 63) (L' := [.ref 48, .int l1, .int l2, .int l3, .int l4, .long l5, .null, .int l7, .null]) (st' := [.ref 48]) ⟨dX12_ledger_62, trivial⟩ rfl ?_
    refine ms_getA mB_199 mO_199 dX12_ledger_63 mF_12_56 (gk_48 N) rfl (b := 61) (gr_48_19 N) ?_
    refine ms_seq mB_199 mO_199 [(.iload 7, 2)] (pc' := 68) (L' := [.ref 48, .int l1, .int l2, .int l3, .int l4, .long l5, .null, .int l7, .null]) (st' := [.int l7, .ref 61]) ⟨dX12_ledger_66, trivial⟩ rfl ?_
    have G := F.1
    have F := F.2
    refine ms_iald mB_199 dX12_ledger_68 (Or.inl (gk_61 N)) (by rw [gl_61 N]; exact G) ?_
    refine mr_topi (fun x1 e_x1 => ?_)
    have F := F x1 e_x1
    refine ms_seq mB_199 mO_199 [(.istore 8, 2)] (pc' := 71) (L' := [.ref 48, .int l1, .int l2, .int l3, .int l4, .long l5, .null, .int l7, .int x1]) (st' := []) ⟨dX12_ledger_69, trivial⟩ rfl ?_
    exact F
set_option maxRecDepth 100000 in
theorem q12_ledger_71 {N d : Nat} (hd : 5 ≤ d) {l1 l2 l3 l4 l7 l8 : Int32} {l5 : Int64} {δ : mi_D} {Q : Int64 → mi_D → Prop} (F : (mi_ix (l7 + 1) 401 = true ∧ ((l8 < (δ.2.1 61 (Int32.toNatClampNeg (l7 + 1))) → (mi_ix l8 24800 = true ∧ (((δ.2.1 64 (Int32.toNatClampNeg l8)) = l1 → (mi_ix l8 24800 = true ∧ (∀ x1 : Int64, x1 = (l5 + (δ.2.2 65 (Int32.toNatClampNeg l8))) → ((l4 = l2 → ((l3 = 0 → Q (Int32.toInt64 l7) δ) ∧ (¬ l3 = 0 → ((l3 = 1 → (mi_ix l8 24800 = true ∧ Q (δ.2.2 65 (Int32.toNatClampNeg l8)) δ)) ∧ (¬ l3 = 1 → Q x1 δ))))) ∧ (¬ l4 = l2 → mi_wL N d 199 71 [.ref 48, .int l1, .int l2, .int l3, .int (l4 + 1), .long x1, .null, .int l7, .int (l8 + 1)] [] δ Q))))) ∧ (¬ (δ.2.1 64 (Int32.toNatClampNeg l8)) = l1 → mi_wL N d 199 71 [.ref 48, .int l1, .int l2, .int l3, .int l4, .long l5, .null, .int l7, .int (l8 + 1)] [] δ Q)))) ∧ (¬ l8 < (δ.2.1 61 (Int32.toNatClampNeg (l7 + 1))) → mi_wL N d 199 53 [.ref 48, .int l1, .int l2, .int l3, .int l4, .long l5, .null, .int (l7 + 1), .int l8] [] δ Q)))) : mi_wL N d 199 71 [.ref 48, .int l1, .int l2, .int l3, .int l4, .long l5, .null, .int l7, .int l8] [] δ Q := by
  unfold mi_wL
  refine ms_seq mB_199 mO_199 [(.iload 8, 2), (.aload_n 0, 1)] (pc' := 74) (L' := [.ref 48, .int l1, .int l2, .int l3, .int l4, .long l5, .null, .int l7, .int l8]) (st' := [.ref 48, .int l8]) ⟨dX12_ledger_71, dX12_ledger_73, trivial⟩ rfl ?_
  refine ms_getA mB_199 mO_199 dX12_ledger_74 mF_12_56 (gk_48 N) rfl (b := 61) (gr_48_19 N) ?_
  refine ms_seq mB_199 mO_199 [(.iload 7, 2), (.iconst 1, 1), (.iadd, 1)] (pc' := 81) (L' := [.ref 48, .int l1, .int l2, .int l3, .int l4, .long l5, .null, .int l7, .int l8]) (st' := [.int (l7 + 1), .ref 61, .int l8]) ⟨dX12_ledger_77, dX12_ledger_79, dX12_ledger_80, trivial⟩ rfl ?_
  have G := F.1
  have F := F.2
  refine ms_iald mB_199 dX12_ledger_81 (Or.inl (gk_61 N)) (by rw [gl_61 N]; exact G) ?_
  refine ms_icmp_ge mB_199 dX12_ledger_82 (t := 151) rfl (fun c => ?_) (fun c => ?_)
  · have F := F.2 c
    refine ms_seq mB_199 mO_199 [(.iinc 7 1, 3)] (pc' := 154) (L' := [.ref 48, .int l1, .int l2, .int l3, .int l4, .long l5, .null, .int (l7 + 1), .int l8]) (st' := []) ⟨dX12_ledger_151, trivial⟩ rfl ?_
    refine ms_goto mB_199 dX12_ledger_154 (t := 53) rfl ?_
    exact F
  · have F := F.1 c
    refine ms_seq mB_199 mO_199 [(.aload_n 0, 1)] (pc' := 86) (L' := [.ref 48, .int l1, .int l2, .int l3, .int l4, .long l5, .null, .int l7, .int l8]) (st' := [.ref 48]) ⟨dX12_ledger_85, trivial⟩ rfl ?_
    refine ms_getA mB_199 mO_199 dX12_ledger_86 mF_12_65 (gk_48 N) rfl (b := 64) (gr_48_22 N) ?_
    refine ms_seq mB_199 mO_199 [(.iload 8, 2)] (pc' := 91) (L' := [.ref 48, .int l1, .int l2, .int l3, .int l4, .long l5, .null, .int l7, .int l8]) (st' := [.int l8, .ref 64]) ⟨dX12_ledger_89, trivial⟩ rfl ?_
    have G := F.1
    have F := F.2
    refine ms_iald mB_199 dX12_ledger_91 (Or.inl (gk_64 N)) (by rw [gl_64 N]; exact G) ?_
    refine ms_seq mB_199 mO_199 [(.iload_n 1, 1)] (pc' := 93) (L' := [.ref 48, .int l1, .int l2, .int l3, .int l4, .long l5, .null, .int l7, .int l8]) (st' := [.int l1, .int (δ.2.1 64 (Int32.toNatClampNeg l8))]) ⟨dX12_ledger_92, trivial⟩ rfl ?_
    refine ms_icmp_ne mB_199 dX12_ledger_93 (t := 145) rfl (fun c => ?_) (fun c => ?_)
    · have F := F.2 c
      refine ms_seq mB_199 mO_199 [(.iinc 8 1, 3)] (pc' := 148) (L' := [.ref 48, .int l1, .int l2, .int l3, .int l4, .long l5, .null, .int l7, .int (l8 + 1)]) (st' := []) ⟨dX12_ledger_145, trivial⟩ rfl ?_
      refine ms_goto mB_199 dX12_ledger_148 (t := 71) rfl ?_
      exact F
    · have F := F.1 c
      refine ms_seq mB_199 mO_199 [(.lload 5, 2), (.aload_n 0, 1)] (pc' := 99) (L' := [.ref 48, .int l1, .int l2, .int l3, .int l4, .long l5, .null, .int l7, .int l8]) (st' := [.ref 48, .long l5]) ⟨dX12_ledger_96, dX12_ledger_98, trivial⟩ rfl ?_
      refine ms_getA mB_199 mO_199 dX12_ledger_99 mF_12_68 (gk_48 N) rfl (b := 65) (gr_48_23 N) ?_
      refine ms_seq mB_199 mO_199 [(.iload 8, 2)] (pc' := 104) (L' := [.ref 48, .int l1, .int l2, .int l3, .int l4, .long l5, .null, .int l7, .int l8]) (st' := [.int l8, .ref 65, .long l5]) ⟨dX12_ledger_102, trivial⟩ rfl ?_
      have G := F.1
      have F := F.2
      refine ms_lald mB_199 dX12_ledger_104 (gk_65 N) (by rw [gl_65 N]; exact G) ?_
      refine ms_seq mB_199 mO_199 [(.ladd, 1)] (pc' := 106) (L' := [.ref 48, .int l1, .int l2, .int l3, .int l4, .long l5, .null, .int l7, .int l8]) (st' := [.long (l5 + (δ.2.2 65 (Int32.toNatClampNeg l8)))]) ⟨dX12_ledger_105, trivial⟩ rfl ?_
      refine mr_topl (fun x1 e_x1 => ?_)
      have F := F x1 e_x1
      refine ms_seq mB_199 mO_199 [(.lstore 5, 2), (.iload 4, 2), (.iload_n 2, 1)] (pc' := 111) (L' := [.ref 48, .int l1, .int l2, .int l3, .int l4, .long x1, .null, .int l7, .int l8]) (st' := [.int l2, .int l4]) ⟨dX12_ledger_106, dX12_ledger_108, dX12_ledger_110, trivial⟩ rfl ?_
      refine ms_icmp_ne mB_199 dX12_ledger_111 (t := 142) rfl (fun c => ?_) (fun c => ?_)
      · have F := F.2 c
        refine ms_seq mB_199 mO_199 [(.iinc 4 1, 3), (.iinc 8 1, 3)] (pc' := 148) (L' := [.ref 48, .int l1, .int l2, .int l3, .int (l4 + 1), .long x1, .null, .int l7, .int (l8 + 1)]) (st' := []) ⟨dX12_ledger_142, dX12_ledger_145, trivial⟩ rfl ?_
        refine ms_goto mB_199 dX12_ledger_148 (t := 71) rfl ?_
        exact F
      · have F := F.1 c
        refine ms_seq mB_199 mO_199 [(.iload_n 3, 1)] (pc' := 115) (L' := [.ref 48, .int l1, .int l2, .int l3, .int l4, .long x1, .null, .int l7, .int l8]) (st' := [.int l3]) ⟨dX12_ledger_114, trivial⟩ rfl ?_
        refine ms_if_ne mB_199 dX12_ledger_115 (t := 124) rfl (fun c => ?_) (fun c => ?_)
        · have F := F.2 c
          refine ms_seq mB_199 mO_199 [(.iload_n 3, 1), (.iconst 1, 1)] (pc' := 126) (L' := [.ref 48, .int l1, .int l2, .int l3, .int l4, .long x1, .null, .int l7, .int l8]) (st' := [.int 1, .int l3]) ⟨dX12_ledger_124, dX12_ledger_125, trivial⟩ rfl ?_
          refine ms_icmp_ne mB_199 dX12_ledger_126 (t := 139) rfl (fun c => ?_) (fun c => ?_)
          · have F := F.2 c
            refine ms_seq mB_199 mO_199 [(.lload 5, 2)] (pc' := 141) (L' := [.ref 48, .int l1, .int l2, .int l3, .int l4, .long x1, .null, .int l7, .int l8]) (st' := [.long x1]) ⟨dX12_ledger_139, trivial⟩ rfl ?_
            exact ms_lret mB_199 dX12_ledger_141 mR_199 ⟨_, rfl, rfl, F⟩
          · have F := F.1 c
            refine ms_seq mB_199 mO_199 [(.aload_n 0, 1)] (pc' := 130) (L' := [.ref 48, .int l1, .int l2, .int l3, .int l4, .long x1, .null, .int l7, .int l8]) (st' := [.ref 48]) ⟨dX12_ledger_129, trivial⟩ rfl ?_
            refine ms_getA mB_199 mO_199 dX12_ledger_130 mF_12_68 (gk_48 N) rfl (b := 65) (gr_48_23 N) ?_
            refine ms_seq mB_199 mO_199 [(.iload 8, 2)] (pc' := 135) (L' := [.ref 48, .int l1, .int l2, .int l3, .int l4, .long x1, .null, .int l7, .int l8]) (st' := [.int l8, .ref 65]) ⟨dX12_ledger_133, trivial⟩ rfl ?_
            have G := F.1
            have F := F.2
            refine ms_lald mB_199 dX12_ledger_135 (gk_65 N) (by rw [gl_65 N]; exact G) ?_
            refine ms_goto mB_199 dX12_ledger_136 (t := 141) rfl ?_
            exact ms_lret mB_199 dX12_ledger_141 mR_199 ⟨_, rfl, rfl, F⟩
        · have F := F.1 c
          refine ms_seq mB_199 mO_199 [(.iload 7, 2), (.i2l, 1)] (pc' := 121) (L' := [.ref 48, .int l1, .int l2, .int l3, .int l4, .long x1, .null, .int l7, .int l8]) (st' := [.long (Int32.toInt64 l7)]) ⟨dX12_ledger_118, dX12_ledger_120, trivial⟩ rfl ?_
          refine ms_goto mB_199 dX12_ledger_121 (t := 141) rfl ?_
          exact ms_lret mB_199 dX12_ledger_141 mR_199 ⟨_, rfl, rfl, F⟩
set_option maxRecDepth 100000 in
theorem q12_ledger_53a {N d : Nat} (hd : 5 ≤ d) {l1 l2 l3 l4 l7 l8 : Int32} {l5 : Int64} {δ : mi_D} {Q : Int64 → mi_D → Prop} (F : ((l7 < (δ.1 48 15) → (mi_ix l7 401 = true ∧ (∀ x1 : Int32, x1 = (δ.2.1 61 (Int32.toNatClampNeg l7)) → mi_wL N d 199 71 [.ref 48, .int l1, .int l2, .int l3, .int l4, .long l5, .null, .int l7, .int x1] [] δ Q))) ∧ (¬ l7 < (δ.1 48 15) → Q (-9223372036854775808) δ))) : mi_wL N d 199 53 [.ref 48, .int l1, .int l2, .int l3, .int l4, .long l5, .null, .int l7, .int l8] [] δ Q := by
  unfold mi_wL
  refine ms_seq mB_199 mO_199 [(.iload 7, 2), (.aload_n 0, 1)] (pc' := 56) (L' := [.ref 48, .int l1, .int l2, .int l3, .int l4, .long l5, .null, .int l7, .int l8]) (st' := [.ref 48, .int l7]) ⟨dX12_ledger_53, dX12_ledger_55, trivial⟩ rfl ?_
  refine ms_getI mB_199 mO_199 dX12_ledger_56 mF_12_203 (gk_48 N) (Or.inl rfl) ?_
  refine ms_icmp_ge mB_199 dX12_ledger_59 (t := 157) rfl (fun c => ?_) (fun c => ?_)
  · have F := F.2 c
    refine ms_seq mB_199 mO_199 [(.ldc2_w 246, 3)] (pc' := 160) (L' := [.ref 48, .int l1, .int l2, .int l3, .int l4, .long l5, .null, .int l7, .int l8]) (st' := [.long (-9223372036854775808)]) ⟨dX12_ledger_157, trivial⟩ rfl ?_
    exact ms_lret mB_199 dX12_ledger_160 mR_199 ⟨_, rfl, rfl, F⟩
  · have F := F.1 c
    refine ms_seq mB_199 mO_199 [(.aload_n 0, 1)] (pc' := 63) (L' := [.ref 48, .int l1, .int l2, .int l3, .int l4, .long l5, .null, .int l7, .int l8]) (st' := [.ref 48]) ⟨dX12_ledger_62, trivial⟩ rfl ?_
    refine ms_getA mB_199 mO_199 dX12_ledger_63 mF_12_56 (gk_48 N) rfl (b := 61) (gr_48_19 N) ?_
    refine ms_seq mB_199 mO_199 [(.iload 7, 2)] (pc' := 68) (L' := [.ref 48, .int l1, .int l2, .int l3, .int l4, .long l5, .null, .int l7, .int l8]) (st' := [.int l7, .ref 61]) ⟨dX12_ledger_66, trivial⟩ rfl ?_
    have G := F.1
    have F := F.2
    refine ms_iald mB_199 dX12_ledger_68 (Or.inl (gk_61 N)) (by rw [gl_61 N]; exact G) ?_
    refine mr_topi (fun x1 e_x1 => ?_)
    have F := F x1 e_x1
    refine ms_seq mB_199 mO_199 [(.istore 8, 2)] (pc' := 71) (L' := [.ref 48, .int l1, .int l2, .int l3, .int l4, .long l5, .null, .int l7, .int x1]) (st' := []) ⟨dX12_ledger_69, trivial⟩ rfl ?_
    exact F
set_option maxRecDepth 100000 in
theorem q12_periodOf_0 {N d : Nat} (hd : 5 ≤ d) {p0 p1 : Int32} {δ : mi_D} {Q : Int32 → mi_D → Prop} (F : (((δ.1 48 0) = 0 → Q (-6) δ) ∧ (¬ (δ.1 48 0) = 0 → (mi_wI N (d - 1) 148 0 [.long (Int32.toInt64 p0), .null, .long 0, .null, .long (Int32.toInt64 ((δ.1 48 11) - 1)), .null] [] δ (fun r2 δ1 => ((r2 = 0 → Q (-2) δ1) ∧ (¬ r2 = 0 → ((p1 = 0 → (mi_wI N (d - 1) 159 0 [.ref 48, .int p0] [] δ1 (fun r4 δ3 => Q r4 δ3))) ∧ (p1 = 1 → (mi_ix p0 24 = true ∧ Q (δ1.2.1 56 (Int32.toNatClampNeg p0)) δ1)) ∧ (p1 = 2 → ((p0 < (δ1.1 48 12) → Q 1 δ1) ∧ (¬ p0 < (δ1.1 48 12) → Q 0 δ1))) ∧ (p1 = 3 → (mi_ix p0 24 = true ∧ Q (δ1.2.1 57 (Int32.toNatClampNeg p0)) δ1)) ∧ (¬ p1 = 0 → ¬ p1 = 1 → ¬ p1 = 2 → ¬ p1 = 3 → Q (-3) δ1))))))))) : mi_wI N d 200 0 [.ref 48, .int p0, .int p1] [] δ Q := by
  unfold mi_wI
  refine ms_seq mB_200 mO_200 [(.aload_n 0, 1)] (pc' := 1) (L' := [.ref 48, .int p0, .int p1]) (st' := [.ref 48]) ⟨dX12_periodOf_0, trivial⟩ rfl ?_
  refine ms_getI mB_200 mO_200 dX12_periodOf_1 mF_12_7 (gk_48 N) (Or.inr rfl) ?_
  refine ms_if_ne mB_200 dX12_periodOf_4 (t := 10) rfl (fun c => ?_) (fun c => ?_)
  · have F := F.2 c
    refine ms_seq mB_200 mO_200 [(.iload_n 1, 1), (.i2l, 1), (.lconst 0, 1), (.aload_n 0, 1)] (pc' := 14) (L' := [.ref 48, .int p0, .int p1]) (st' := [.ref 48, .long 0, .long (Int32.toInt64 p0)]) ⟨dX12_periodOf_10, dX12_periodOf_11, dX12_periodOf_12, dX12_periodOf_13, trivial⟩ rfl ?_
    refine ms_getI mB_200 mO_200 dX12_periodOf_14 mF_12_173 (gk_48 N) (Or.inl rfl) ?_
    refine ms_seq mB_200 mO_200 [(.iconst 1, 1), (.isub, 1), (.i2l, 1)] (pc' := 20) (L' := [.ref 48, .int p0, .int p1]) (st' := [.long (Int32.toInt64 ((δ.1 48 11) - 1)), .long 0, .long (Int32.toInt64 p0)]) ⟨dX12_periodOf_17, dX12_periodOf_18, dX12_periodOf_19, trivial⟩ rfl ?_
    refine ms_callsI mB_200 mO_200 (by omega) dX12_periodOf_20 mQ_12_116 mC_12_116 mL_148 (by decide) rfl (Nat.le_of_ble_eq_true rfl) (Nat.le_of_ble_eq_true rfl) rfl F (fun r2 δ1 F => ?_)
    refine ms_if_ne mB_200 dX12_periodOf_23 (t := 29) rfl (fun c => ?_) (fun c => ?_)
    · have F := F.2 c
      refine ms_seq mB_200 mO_200 [(.iload_n 2, 1)] (pc' := 30) (L' := [.ref 48, .int p0, .int p1]) (st' := [.int p1]) ⟨dX12_periodOf_29, trivial⟩ rfl ?_
      by_cases n0 : p1 = 0
      · refine ms_pure mB_200 mO_200 (pc' := 60) (L' := [.ref 48, .int p0, .int p1]) (st' := []) dX12_periodOf_30 (by rw [n0]; rfl) ?_
        have F := F.1 n0
        refine ms_seq mB_200 mO_200 [(.aload_n 0, 1), (.iload_n 1, 1)] (pc' := 62) (L' := [.ref 48, .int p0, .int p1]) (st' := [.int p0, .ref 48]) ⟨dX12_periodOf_60, dX12_periodOf_61, trivial⟩ rfl ?_
        refine ms_callvI mB_200 mO_200 (by omega) dX12_periodOf_62 mQ_12_176 mC_12_176 mL_159 mO_159 rfl (Nat.le_of_ble_eq_true rfl) (Nat.le_of_ble_eq_true rfl) (gk_48 N) rfl F (fun r4 δ3 F => ?_)
        exact ms_iret mB_200 dX12_periodOf_65 mR_200 ⟨_, rfl, rfl, F⟩
      have F := F.2
      by_cases n1 : p1 = 1
      · refine ms_pure mB_200 mO_200 (pc' := 66) (L' := [.ref 48, .int p0, .int p1]) (st' := []) dX12_periodOf_30 (by rw [n1]; rfl) ?_
        have F := F.1 n1
        refine ms_seq mB_200 mO_200 [(.aload_n 0, 1)] (pc' := 67) (L' := [.ref 48, .int p0, .int p1]) (st' := [.ref 48]) ⟨dX12_periodOf_66, trivial⟩ rfl ?_
        refine ms_getA mB_200 mO_200 dX12_periodOf_67 mF_12_41 (gk_48 N) rfl (b := 56) (gr_48_13 N) ?_
        refine ms_seq mB_200 mO_200 [(.iload_n 1, 1)] (pc' := 71) (L' := [.ref 48, .int p0, .int p1]) (st' := [.int p0, .ref 56]) ⟨dX12_periodOf_70, trivial⟩ rfl ?_
        have G := F.1
        have F := F.2
        refine ms_iald mB_200 dX12_periodOf_71 (Or.inl (gk_56 N)) (by rw [gl_56 N]; exact G) ?_
        exact ms_iret mB_200 dX12_periodOf_72 mR_200 ⟨_, rfl, rfl, F⟩
      have F := F.2
      by_cases n2 : p1 = 2
      · refine ms_pure mB_200 mO_200 (pc' := 73) (L' := [.ref 48, .int p0, .int p1]) (st' := []) dX12_periodOf_30 (by rw [n2]; rfl) ?_
        have F := F.1 n2
        refine ms_seq mB_200 mO_200 [(.iload_n 1, 1), (.aload_n 0, 1)] (pc' := 75) (L' := [.ref 48, .int p0, .int p1]) (st' := [.ref 48, .int p0]) ⟨dX12_periodOf_73, dX12_periodOf_74, trivial⟩ rfl ?_
        refine ms_getI mB_200 mO_200 dX12_periodOf_75 mF_12_197 (gk_48 N) (Or.inl rfl) ?_
        refine ms_icmp_ge mB_200 dX12_periodOf_78 (t := 85) rfl (fun c => ?_) (fun c => ?_)
        · have F := F.2 c
          refine ms_seq mB_200 mO_200 [(.iconst 0, 1)] (pc' := 86) (L' := [.ref 48, .int p0, .int p1]) (st' := [.int 0]) ⟨dX12_periodOf_85, trivial⟩ rfl ?_
          exact ms_iret mB_200 dX12_periodOf_86 mR_200 ⟨_, rfl, rfl, F⟩
        · have F := F.1 c
          refine ms_seq mB_200 mO_200 [(.iconst 1, 1)] (pc' := 82) (L' := [.ref 48, .int p0, .int p1]) (st' := [.int 1]) ⟨dX12_periodOf_81, trivial⟩ rfl ?_
          refine ms_goto mB_200 dX12_periodOf_82 (t := 86) rfl ?_
          exact ms_iret mB_200 dX12_periodOf_86 mR_200 ⟨_, rfl, rfl, F⟩
      have F := F.2
      by_cases n3 : p1 = 3
      · refine ms_pure mB_200 mO_200 (pc' := 87) (L' := [.ref 48, .int p0, .int p1]) (st' := []) dX12_periodOf_30 (by rw [n3]; rfl) ?_
        have F := F.1 n3
        refine ms_seq mB_200 mO_200 [(.aload_n 0, 1)] (pc' := 88) (L' := [.ref 48, .int p0, .int p1]) (st' := [.ref 48]) ⟨dX12_periodOf_87, trivial⟩ rfl ?_
        refine ms_getA mB_200 mO_200 dX12_periodOf_88 mF_12_44 (gk_48 N) rfl (b := 57) (gr_48_14 N) ?_
        refine ms_seq mB_200 mO_200 [(.iload_n 1, 1)] (pc' := 92) (L' := [.ref 48, .int p0, .int p1]) (st' := [.int p0, .ref 57]) ⟨dX12_periodOf_91, trivial⟩ rfl ?_
        have G := F.1
        have F := F.2
        refine ms_iald mB_200 dX12_periodOf_92 (Or.inl (gk_57 N)) (by rw [gl_57 N]; exact G) ?_
        exact ms_iret mB_200 dX12_periodOf_93 mR_200 ⟨_, rfl, rfl, F⟩
      have F := F.2
      refine ms_swd mB_200 dX12_periodOf_30 (t := 94) (by have a0 := lv_neT n0 (a := 0) rfl; have a1 := lv_neT n1 (a := 1) rfl; have a2 := lv_neT n2 (a := 2) rfl; have a3 := lv_neT n3 (a := 3) rfl; omega) rfl ?_
      have F := F n0
      have F := F n1
      have F := F n2
      have F := F n3
      refine ms_seq mB_200 mO_200 [(.bipush (-3), 2)] (pc' := 96) (L' := [.ref 48, .int p0, .int p1]) (st' := [.int (-3)]) ⟨dX12_periodOf_94, trivial⟩ rfl ?_
      exact ms_iret mB_200 dX12_periodOf_96 mR_200 ⟨_, rfl, rfl, F⟩
    · have F := F.1 c
      refine ms_seq mB_200 mO_200 [(.bipush (-2), 2)] (pc' := 28) (L' := [.ref 48, .int p0, .int p1]) (st' := [.int (-2)]) ⟨dX12_periodOf_26, trivial⟩ rfl ?_
      exact ms_iret mB_200 dX12_periodOf_28 mR_200 ⟨_, rfl, rfl, F⟩
  · have F := F.1 c
    refine ms_seq mB_200 mO_200 [(.bipush (-6), 2)] (pc' := 9) (L' := [.ref 48, .int p0, .int p1]) (st' := [.int (-6)]) ⟨dX12_periodOf_7, trivial⟩ rfl ?_
    exact ms_iret mB_200 dX12_periodOf_9 mR_200 ⟨_, rfl, rfl, F⟩
set_option maxRecDepth 100000 in
theorem q12_put_0 {N d : Nat} (hd : 5 ≤ d) {p0 : Int32} {δ : mi_D} {Q : mi_D → Prop} (F : (((δ.1 48 36) < 4000 → (mi_ix (δ.1 48 36) 4000 = true ∧ (∀ δ1 : mi_D, δ1 = mi_setA δ 72 (Int32.toNatClampNeg (δ.1 48 36)) p0 → mi_wV N d 201 20 [.ref 48, .int p0] [] δ1 Q))) ∧ (¬ (δ.1 48 36) < 4000 → mi_wV N d 201 20 [.ref 48, .int p0] [] δ Q))) : mi_wV N d 201 0 [.ref 48, .int p0] [] δ Q := by
  unfold mi_wV
  refine ms_seq mB_201 mO_201 [(.aload_n 0, 1)] (pc' := 1) (L' := [.ref 48, .int p0]) (st' := [.ref 48]) ⟨dX12_put_0, trivial⟩ rfl ?_
  refine ms_getI mB_201 mO_201 dX12_put_1 mF_12_253 (gk_48 N) (Or.inl rfl) ?_
  refine ms_seq mB_201 mO_201 [(.sipush 4000, 3)] (pc' := 7) (L' := [.ref 48, .int p0]) (st' := [.int 4000, .int (δ.1 48 36)]) ⟨dX12_put_4, trivial⟩ rfl ?_
  refine ms_icmp_ge mB_201 dX12_put_7 (t := 20) rfl (fun c => ?_) (fun c => ?_)
  · have F := F.2 c
    exact F
  · have F := F.1 c
    refine ms_seq mB_201 mO_201 [(.aload_n 0, 1)] (pc' := 11) (L' := [.ref 48, .int p0]) (st' := [.ref 48]) ⟨dX12_put_10, trivial⟩ rfl ?_
    refine ms_getA mB_201 mO_201 dX12_put_11 mF_12_89 (gk_48 N) rfl (b := 72) (gr_48_37 N) ?_
    refine ms_seq mB_201 mO_201 [(.aload_n 0, 1)] (pc' := 15) (L' := [.ref 48, .int p0]) (st' := [.ref 48, .ref 72]) ⟨dX12_put_14, trivial⟩ rfl ?_
    refine ms_getI mB_201 mO_201 dX12_put_15 mF_12_253 (gk_48 N) (Or.inl rfl) ?_
    refine ms_seq mB_201 mO_201 [(.iload_n 1, 1)] (pc' := 19) (L' := [.ref 48, .int p0]) (st' := [.int p0, .int (δ.1 48 36), .ref 72]) ⟨dX12_put_18, trivial⟩ rfl ?_
    have G := F.1
    have F := F.2
    refine ms_iast mB_201 dX12_put_19 (gk_72 N) (by rw [gl_72 N]; exact G) ?_
    refine mr_st (fun δ1 e_δ1 => ?_)
    have F := F δ1 e_δ1
    exact F
set_option maxRecDepth 100000 in
theorem q12_put_20 {N d : Nat} (hd : 5 ≤ d) {l1 : Int32} {δ : mi_D} {Q : mi_D → Prop} (F : (∀ δ1 : mi_D, δ1 = mi_setI δ 48 36 ((δ.1 48 36) + 1) → Q δ1)) : mi_wV N d 201 20 [.ref 48, .int l1] [] δ Q := by
  unfold mi_wV
  refine ms_seq mB_201 mO_201 [(.aload_n 0, 1), (.dup, 1)] (pc' := 22) (L' := [.ref 48, .int l1]) (st' := [.ref 48, .ref 48]) ⟨dX12_put_20, dX12_put_21, trivial⟩ rfl ?_
  refine ms_getI mB_201 mO_201 dX12_put_22 mF_12_253 (gk_48 N) (Or.inl rfl) ?_
  refine ms_seq mB_201 mO_201 [(.iconst 1, 1), (.iadd, 1)] (pc' := 27) (L' := [.ref 48, .int l1]) (st' := [.int ((δ.1 48 36) + 1), .ref 48]) ⟨dX12_put_25, dX12_put_26, trivial⟩ rfl ?_
  refine ms_putI mB_201 mO_201 dX12_put_27 mF_12_253 (gk_48 N) rfl rfl ?_
  refine mr_st (fun δ1 e_δ1 => ?_)
  have F := F δ1 e_δ1
  exact ms_vret mB_201 dX12_put_30 mR_201 ⟨rfl, rfl, F⟩
set_option maxRecDepth 100000 in
theorem q12_money_0 {N d : Nat} (hd : 5 ≤ d) {p0 : Int64} {δ : mi_D} {Q : mi_D → Prop} (F : (((lg_cmp p0 0) < 0 → (mi_wV N (d - 1) 201 0 [.ref 48, .int 45] [] δ (fun δ1 => mi_wV N d 202 12 [.ref 48, .long p0, .null, .null, .null, .null, .null] [] δ1 Q))) ∧ (¬ (lg_cmp p0 0) < 0 → mi_wV N d 202 12 [.ref 48, .long p0, .null, .null, .null, .null, .null] [] δ Q))) : mi_wV N d 202 0 [.ref 48, .long p0, .null, .null, .null, .null, .null] [] δ Q := by
  unfold mi_wV
  refine ms_seq mB_202 mO_202 [(.lload_n 1, 1), (.lconst 0, 1), (.lcmp, 1)] (pc' := 3) (L' := [.ref 48, .long p0, .null, .null, .null, .null, .null]) (st' := [.int (lg_cmp p0 0)]) ⟨dX12_money_0, dX12_money_1, dX12_money_2, trivial⟩ rfl ?_
  refine ms_if_ge mB_202 dX12_money_3 (t := 12) rfl (fun c => ?_) (fun c => ?_)
  · have F := F.2 c
    exact F
  · have F := F.1 c
    refine ms_seq mB_202 mO_202 [(.aload_n 0, 1), (.bipush 45, 2)] (pc' := 9) (L' := [.ref 48, .long p0, .null, .null, .null, .null, .null]) (st' := [.int 45, .ref 48]) ⟨dX12_money_6, dX12_money_7, trivial⟩ rfl ?_
    refine ms_callvV mB_202 mO_202 (by omega) dX12_money_9 mQ_12_324 mC_12_324 mL_201 mO_201 rfl (Nat.le_of_ble_eq_true rfl) (Nat.le_of_ble_eq_true rfl) (gk_48 N) rfl F (fun δ1 F => ?_)
    exact F
set_option maxRecDepth 100000 in
theorem q12_money_12 {N d : Nat} (hd : 5 ≤ d) {l1 : Int64} {δ : mi_D} {Q : mi_D → Prop} (F : (((lg_cmp l1 0) < 0 → (∀ x1 : Int64, x1 = (-l1) → mi_wV N d 202 28 [.ref 48, .long l1, .null, .long x1, .null, .int 0, .null] [] δ Q)) ∧ (¬ (lg_cmp l1 0) < 0 → mi_wV N d 202 28 [.ref 48, .long l1, .null, .long l1, .null, .int 0, .null] [] δ Q))) : mi_wV N d 202 12 [.ref 48, .long l1, .null, .null, .null, .null, .null] [] δ Q := by
  unfold mi_wV
  refine ms_seq mB_202 mO_202 [(.lload_n 1, 1), (.lconst 0, 1), (.lcmp, 1)] (pc' := 15) (L' := [.ref 48, .long l1, .null, .null, .null, .null, .null]) (st' := [.int (lg_cmp l1 0)]) ⟨dX12_money_12, dX12_money_13, dX12_money_14, trivial⟩ rfl ?_
  refine ms_if_ge mB_202 dX12_money_15 (t := 23) rfl (fun c => ?_) (fun c => ?_)
  · have F := F.2 c
    refine ms_seq mB_202 mO_202 [(.lload_n 1, 1), (.lstore_n 3, 1), (.iconst 0, 1), (.istore 5, 2)] (pc' := 28) (L' := [.ref 48, .long l1, .null, .long l1, .null, .int 0, .null]) (st' := []) ⟨dX12_money_23, dX12_money_24, dX12_money_25, dX12_money_26, trivial⟩ rfl ?_
    exact F
  · have F := F.1 c
    refine ms_seq mB_202 mO_202 [(.lload_n 1, 1), (.lneg, 1)] (pc' := 20) (L' := [.ref 48, .long l1, .null, .null, .null, .null, .null]) (st' := [.long (-l1)]) ⟨dX12_money_18, dX12_money_19, trivial⟩ rfl ?_
    refine ms_goto mB_202 dX12_money_20 (t := 24) rfl ?_
    refine mr_topl (fun x1 e_x1 => ?_)
    have F := F x1 e_x1
    refine ms_seq mB_202 mO_202 [(.lstore_n 3, 1), (.iconst 0, 1), (.istore 5, 2)] (pc' := 28) (L' := [.ref 48, .long l1, .null, .long x1, .null, .int 0, .null]) (st' := []) ⟨dX12_money_24, dX12_money_25, dX12_money_26, trivial⟩ rfl ?_
    exact F
set_option maxRecDepth 100000 in
theorem q12_money_28 {N d : Nat} (hd : 5 ≤ d) {l5 : Int32} {l1 l3 : Int64} {δ : mi_D} {Q : mi_D → Prop} (F : ((0 < (lg_cmp l3 0) → mi_wV N d 202 40 [.ref 48, .long l1, .null, .long l3, .null, .int l5, .null] [] δ Q) ∧ (¬ 0 < (lg_cmp l3 0) → ((l5 < 3 → mi_wV N d 202 40 [.ref 48, .long l1, .null, .long l3, .null, .int l5, .null] [] δ Q) ∧ (¬ l5 < 3 → (∀ x1 : Int32, x1 = (l5 - 1) → mi_wV N d 202 71 [.ref 48, .long l1, .null, .long l3, .null, .int l5, .int x1] [] δ Q)))))) : mi_wV N d 202 28 [.ref 48, .long l1, .null, .long l3, .null, .int l5, .null] [] δ Q := by
  unfold mi_wV
  refine ms_seq mB_202 mO_202 [(.lload_n 3, 1), (.lconst 0, 1), (.lcmp, 1)] (pc' := 31) (L' := [.ref 48, .long l1, .null, .long l3, .null, .int l5, .null]) (st' := [.int (lg_cmp l3 0)]) ⟨dX12_money_28, dX12_money_29, dX12_money_30, trivial⟩ rfl ?_
  refine ms_if_gt mB_202 dX12_money_31 (t := 40) rfl (fun c => ?_) (fun c => ?_)
  · have F := F.1 c
    exact F
  · have F := F.2 c
    refine ms_seq mB_202 mO_202 [(.iload 5, 2), (.iconst 3, 1)] (pc' := 37) (L' := [.ref 48, .long l1, .null, .long l3, .null, .int l5, .null]) (st' := [.int 3, .int l5]) ⟨dX12_money_34, dX12_money_36, trivial⟩ rfl ?_
    refine ms_icmp_ge mB_202 dX12_money_37 (t := 65) rfl (fun c => ?_) (fun c => ?_)
    · have F := F.2 c
      refine ms_seq mB_202 mO_202 [(.iload 5, 2), (.iconst 1, 1), (.isub, 1)] (pc' := 69) (L' := [.ref 48, .long l1, .null, .long l3, .null, .int l5, .null]) (st' := [.int (l5 - 1)]) ⟨dX12_money_65, dX12_money_67, dX12_money_68, trivial⟩ rfl ?_
      refine mr_topi (fun x1 e_x1 => ?_)
      have F := F x1 e_x1
      refine ms_seq mB_202 mO_202 [(.istore 6, 2)] (pc' := 71) (L' := [.ref 48, .long l1, .null, .long l3, .null, .int l5, .int x1]) (st' := []) ⟨dX12_money_69, trivial⟩ rfl ?_
      exact F
    · have F := F.1 c
      exact F
set_option maxRecDepth 100000 in
theorem q12_money_40 {N d : Nat} (hd : 5 ≤ d) {l5 : Int32} {l1 l3 : Int64} {δ : mi_D} {Q : mi_D → Prop} (F : (mi_ix l5 24 = true ∧ (∀ δ1 : mi_D, δ1 = mi_setA δ 73 (Int32.toNatClampNeg l5) (Int64.toInt32 (l3 - l3 / 10 * 10)) → (∀ x2 : Int64, x2 = (l3 / 10) → mi_wV N d 202 28 [.ref 48, .long l1, .null, .long x2, .null, .int (l5 + 1), .null] [] δ1 Q)))) : mi_wV N d 202 40 [.ref 48, .long l1, .null, .long l3, .null, .int l5, .null] [] δ Q := by
  unfold mi_wV
  refine ms_seq mB_202 mO_202 [(.aload_n 0, 1)] (pc' := 41) (L' := [.ref 48, .long l1, .null, .long l3, .null, .int l5, .null]) (st' := [.ref 48]) ⟨dX12_money_40, trivial⟩ rfl ?_
  refine ms_getA mB_202 mO_202 dX12_money_41 mF_12_92 (gk_48 N) rfl (b := 73) (gr_48_38 N) ?_
  refine ms_seq mB_202 mO_202 [(.iload 5, 2), (.lload_n 3, 1), (.ldc2_w 327, 3)] (pc' := 50) (L' := [.ref 48, .long l1, .null, .long l3, .null, .int l5, .null]) (st' := [.long 10, .long l3, .int l5, .ref 73]) ⟨dX12_money_44, dX12_money_46, dX12_money_47, trivial⟩ rfl ?_
  refine ms_lrem mB_202 dX12_money_50 (by decide) ?_
  refine ms_seq mB_202 mO_202 [(.l2i, 1)] (pc' := 52) (L' := [.ref 48, .long l1, .null, .long l3, .null, .int l5, .null]) (st' := [.int (Int64.toInt32 (l3 - l3 / 10 * 10)), .int l5, .ref 73]) ⟨dX12_money_51, trivial⟩ rfl ?_
  have G := F.1
  have F := F.2
  refine ms_iast mB_202 dX12_money_52 (gk_73 N) (by rw [gl_73 N]; exact G) ?_
  refine mr_st (fun δ1 e_δ1 => ?_)
  have F := F δ1 e_δ1
  refine ms_seq mB_202 mO_202 [(.lload_n 3, 1), (.ldc2_w 327, 3)] (pc' := 57) (L' := [.ref 48, .long l1, .null, .long l3, .null, .int l5, .null]) (st' := [.long 10, .long l3]) ⟨dX12_money_53, dX12_money_54, trivial⟩ rfl ?_
  refine ms_ldiv mB_202 dX12_money_57 (by decide) ?_
  refine mr_topl (fun x2 e_x2 => ?_)
  have F := F x2 e_x2
  refine ms_seq mB_202 mO_202 [(.lstore_n 3, 1), (.iinc 5 1, 3)] (pc' := 62) (L' := [.ref 48, .long l1, .null, .long x2, .null, .int (l5 + 1), .null]) (st' := []) ⟨dX12_money_58, dX12_money_59, trivial⟩ rfl ?_
  refine ms_goto mB_202 dX12_money_62 (t := 28) rfl ?_
  exact F
set_option maxRecDepth 100000 in
theorem q12_money_71 {N d : Nat} (hd : 5 ≤ d) {l5 l6 : Int32} {l1 l3 : Int64} {δ : mi_D} {Q : mi_D → Prop} (F : ((l6 < 0 → Q δ) ∧ (¬ l6 < 0 → ((l6 = 1 → (mi_wV N (d - 1) 201 0 [.ref 48, .int 46] [] δ (fun δ1 => mi_wV N d 202 88 [.ref 48, .long l1, .null, .long l3, .null, .int l5, .int l6] [] δ1 Q))) ∧ (¬ l6 = 1 → mi_wV N d 202 88 [.ref 48, .long l1, .null, .long l3, .null, .int l5, .int l6] [] δ Q))))) : mi_wV N d 202 71 [.ref 48, .long l1, .null, .long l3, .null, .int l5, .int l6] [] δ Q := by
  unfold mi_wV
  refine ms_seq mB_202 mO_202 [(.iload 6, 2)] (pc' := 73) (L' := [.ref 48, .long l1, .null, .long l3, .null, .int l5, .int l6]) (st' := [.int l6]) ⟨dX12_money_71, trivial⟩ rfl ?_
  refine ms_if_lt mB_202 dX12_money_73 (t := 129) rfl (fun c => ?_) (fun c => ?_)
  · have F := F.1 c
    exact ms_vret mB_202 dX12_money_129 mR_202 ⟨rfl, rfl, F⟩
  · have F := F.2 c
    refine ms_seq mB_202 mO_202 [(.iload 6, 2), (.iconst 1, 1)] (pc' := 79) (L' := [.ref 48, .long l1, .null, .long l3, .null, .int l5, .int l6]) (st' := [.int 1, .int l6]) ⟨dX12_money_76, dX12_money_78, trivial⟩ rfl ?_
    refine ms_icmp_ne mB_202 dX12_money_79 (t := 88) rfl (fun c => ?_) (fun c => ?_)
    · have F := F.2 c
      exact F
    · have F := F.1 c
      refine ms_seq mB_202 mO_202 [(.aload_n 0, 1), (.bipush 46, 2)] (pc' := 85) (L' := [.ref 48, .long l1, .null, .long l3, .null, .int l5, .int l6]) (st' := [.int 46, .ref 48]) ⟨dX12_money_82, dX12_money_83, trivial⟩ rfl ?_
      refine ms_callvV mB_202 mO_202 (by omega) dX12_money_85 mQ_12_324 mC_12_324 mL_201 mO_201 rfl (Nat.le_of_ble_eq_true rfl) (Nat.le_of_ble_eq_true rfl) (gk_48 N) rfl F (fun δ1 F => ?_)
      exact F
set_option maxRecDepth 100000 in
theorem q12_money_88 {N d : Nat} (hd : 5 ≤ d) {l5 l6 : Int32} {l1 l3 : Int64} {δ : mi_D} {Q : mi_D → Prop} (F : (mi_ix l6 24 = true ∧ (mi_wV N (d - 1) 201 0 [.ref 48, .int (48 + (δ.2.1 73 (Int32.toNatClampNeg l6)))] [] δ (fun δ1 => ((2 < l6 → ((((l6 - 2) - (l6 - 2) / 3 * 3) = 0 → (mi_wV N (d - 1) 201 0 [.ref 48, .int 44] [] δ1 (fun δ2 => mi_wV N d 202 71 [.ref 48, .long l1, .null, .long l3, .null, .int l5, .int (l6 + (-1))] [] δ2 Q))) ∧ (¬ ((l6 - 2) - (l6 - 2) / 3 * 3) = 0 → mi_wV N d 202 71 [.ref 48, .long l1, .null, .long l3, .null, .int l5, .int (l6 + (-1))] [] δ1 Q))) ∧ (¬ 2 < l6 → mi_wV N d 202 71 [.ref 48, .long l1, .null, .long l3, .null, .int l5, .int (l6 + (-1))] [] δ1 Q)))))) : mi_wV N d 202 88 [.ref 48, .long l1, .null, .long l3, .null, .int l5, .int l6] [] δ Q := by
  unfold mi_wV
  refine ms_seq mB_202 mO_202 [(.aload_n 0, 1), (.bipush 48, 2), (.aload_n 0, 1)] (pc' := 92) (L' := [.ref 48, .long l1, .null, .long l3, .null, .int l5, .int l6]) (st' := [.ref 48, .int 48, .ref 48]) ⟨dX12_money_88, dX12_money_89, dX12_money_91, trivial⟩ rfl ?_
  refine ms_getA mB_202 mO_202 dX12_money_92 mF_12_92 (gk_48 N) rfl (b := 73) (gr_48_38 N) ?_
  refine ms_seq mB_202 mO_202 [(.iload 6, 2)] (pc' := 97) (L' := [.ref 48, .long l1, .null, .long l3, .null, .int l5, .int l6]) (st' := [.int l6, .ref 73, .int 48, .ref 48]) ⟨dX12_money_95, trivial⟩ rfl ?_
  have G := F.1
  have F := F.2
  refine ms_iald mB_202 dX12_money_97 (Or.inl (gk_73 N)) (by rw [gl_73 N]; exact G) ?_
  refine ms_seq mB_202 mO_202 [(.iadd, 1)] (pc' := 99) (L' := [.ref 48, .long l1, .null, .long l3, .null, .int l5, .int l6]) (st' := [.int (48 + (δ.2.1 73 (Int32.toNatClampNeg l6))), .ref 48]) ⟨dX12_money_98, trivial⟩ rfl ?_
  refine ms_callvV mB_202 mO_202 (by omega) dX12_money_99 mQ_12_324 mC_12_324 mL_201 mO_201 rfl (Nat.le_of_ble_eq_true rfl) (Nat.le_of_ble_eq_true rfl) (gk_48 N) rfl F (fun δ1 F => ?_)
  refine ms_seq mB_202 mO_202 [(.iload 6, 2), (.iconst 2, 1)] (pc' := 105) (L' := [.ref 48, .long l1, .null, .long l3, .null, .int l5, .int l6]) (st' := [.int 2, .int l6]) ⟨dX12_money_102, dX12_money_104, trivial⟩ rfl ?_
  refine ms_icmp_le mB_202 dX12_money_105 (t := 123) rfl (fun c => ?_) (fun c => ?_)
  · have F := F.2 c
    refine ms_seq mB_202 mO_202 [(.iinc 6 (-1), 3)] (pc' := 126) (L' := [.ref 48, .long l1, .null, .long l3, .null, .int l5, .int (l6 + (-1))]) (st' := []) ⟨dX12_money_123, trivial⟩ rfl ?_
    refine ms_goto mB_202 dX12_money_126 (t := 71) rfl ?_
    exact F
  · have F := F.1 c
    refine ms_seq mB_202 mO_202 [(.iload 6, 2), (.iconst 2, 1), (.isub, 1), (.iconst 3, 1)] (pc' := 113) (L' := [.ref 48, .long l1, .null, .long l3, .null, .int l5, .int l6]) (st' := [.int 3, .int (l6 - 2)]) ⟨dX12_money_108, dX12_money_110, dX12_money_111, dX12_money_112, trivial⟩ rfl ?_
    refine ms_irem mB_202 dX12_money_113 (by decide) ?_
    refine ms_if_ne mB_202 dX12_money_114 (t := 123) rfl (fun c => ?_) (fun c => ?_)
    · have F := F.2 c
      refine ms_seq mB_202 mO_202 [(.iinc 6 (-1), 3)] (pc' := 126) (L' := [.ref 48, .long l1, .null, .long l3, .null, .int l5, .int (l6 + (-1))]) (st' := []) ⟨dX12_money_123, trivial⟩ rfl ?_
      refine ms_goto mB_202 dX12_money_126 (t := 71) rfl ?_
      exact F
    · have F := F.1 c
      refine ms_seq mB_202 mO_202 [(.aload_n 0, 1), (.bipush 44, 2)] (pc' := 120) (L' := [.ref 48, .long l1, .null, .long l3, .null, .int l5, .int l6]) (st' := [.int 44, .ref 48]) ⟨dX12_money_117, dX12_money_118, trivial⟩ rfl ?_
      refine ms_callvV mB_202 mO_202 (by omega) dX12_money_120 mQ_12_324 mC_12_324 mL_201 mO_201 rfl (Nat.le_of_ble_eq_true rfl) (Nat.le_of_ble_eq_true rfl) (gk_48 N) rfl F (fun δ2 F => ?_)
      refine ms_seq mB_202 mO_202 [(.iinc 6 (-1), 3)] (pc' := 126) (L' := [.ref 48, .long l1, .null, .long l3, .null, .int l5, .int (l6 + (-1))]) (st' := []) ⟨dX12_money_123, trivial⟩ rfl ?_
      refine ms_goto mB_202 dX12_money_126 (t := 71) rfl ?_
      exact F
set_option maxRecDepth 100000 in
theorem q12_row_0 {N d : Nat} (hd : 5 ≤ d) {p0 : Int32} {δ : mi_D} {Q : mi_D → Prop} (F : mi_wV N d 203 2 [.ref 48, .int p0, .int 0] [] δ Q) : mi_wV N d 203 0 [.ref 48, .int p0, .null] [] δ Q := by
  unfold mi_wV
  refine ms_seq mB_203 mO_203 [(.iconst 0, 1), (.istore_n 2, 1)] (pc' := 2) (L' := [.ref 48, .int p0, .int 0]) (st' := []) ⟨dX12_row_0, dX12_row_1, trivial⟩ rfl ?_
  exact F
set_option maxRecDepth 100000 in
theorem q12_row_2 {N d : Nat} (hd : 5 ≤ d) {l1 l2 : Int32} {δ : mi_D} {Q : mi_D → Prop} (F : (mi_ix l1 60 = true ∧ ((l2 < (2 * (δ.2.1 53 (Int32.toNatClampNeg l1))) → (mi_wV N (d - 1) 201 0 [.ref 48, .int 32] [] δ (fun δ10 => mi_wV N d 203 2 [.ref 48, .int l1, .int (l2 + 1)] [] δ10 Q))) ∧ (¬ l2 < (2 * (δ.2.1 53 (Int32.toNatClampNeg l1))) → (mi_ix l1 60 = true ∧ (mi_wV N (d - 1) 201 0 [.ref 48, .int (48 + ((δ.2.1 49 (Int32.toNatClampNeg l1)) / 1000))] [] δ (fun δ1 => (mi_ix l1 60 = true ∧ (mi_wV N (d - 1) 201 0 [.ref 48, .int (48 + (((δ1.2.1 49 (Int32.toNatClampNeg l1)) / 100) - ((δ1.2.1 49 (Int32.toNatClampNeg l1)) / 100) / 10 * 10))] [] δ1 (fun δ2 => (mi_ix l1 60 = true ∧ (mi_wV N (d - 1) 201 0 [.ref 48, .int (48 + (((δ2.2.1 49 (Int32.toNatClampNeg l1)) / 10) - ((δ2.2.1 49 (Int32.toNatClampNeg l1)) / 10) / 10 * 10))] [] δ2 (fun δ3 => (mi_ix l1 60 = true ∧ (mi_wV N (d - 1) 201 0 [.ref 48, .int (48 + ((δ3.2.1 49 (Int32.toNatClampNeg l1)) - (δ3.2.1 49 (Int32.toNatClampNeg l1)) / 10 * 10))] [] δ3 (fun δ4 => (mi_wV N (d - 1) 201 0 [.ref 48, .int 32] [] δ4 (fun δ5 => (mi_wL N (d - 1) 194 0 [.ref 48, .int l1, .null, .null, .null] [] δ5 (fun r7 δ6 => (mi_wV N (d - 1) 202 0 [.ref 48, .long r7, .null, .null, .null, .null, .null] [] δ6 (fun δ8 => (mi_wV N (d - 1) 201 0 [.ref 48, .int 10] [] δ8 (fun δ9 => Q δ9)))))))))))))))))))))))) : mi_wV N d 203 2 [.ref 48, .int l1, .int l2] [] δ Q := by
  unfold mi_wV
  refine ms_seq mB_203 mO_203 [(.iload_n 2, 1), (.iconst 2, 1), (.aload_n 0, 1)] (pc' := 5) (L' := [.ref 48, .int l1, .int l2]) (st' := [.ref 48, .int 2, .int l2]) ⟨dX12_row_2, dX12_row_3, dX12_row_4, trivial⟩ rfl ?_
  refine ms_getA mB_203 mO_203 dX12_row_5 mF_12_27 (gk_48 N) rfl (b := 53) (gr_48_7 N) ?_
  refine ms_seq mB_203 mO_203 [(.iload_n 1, 1)] (pc' := 9) (L' := [.ref 48, .int l1, .int l2]) (st' := [.int l1, .ref 53, .int 2, .int l2]) ⟨dX12_row_8, trivial⟩ rfl ?_
  have G := F.1
  have F := F.2
  refine ms_iald mB_203 dX12_row_9 (Or.inl (gk_53 N)) (by rw [gl_53 N]; exact G) ?_
  refine ms_seq mB_203 mO_203 [(.imul, 1)] (pc' := 11) (L' := [.ref 48, .int l1, .int l2]) (st' := [.int (2 * (δ.2.1 53 (Int32.toNatClampNeg l1))), .int l2]) ⟨dX12_row_10, trivial⟩ rfl ?_
  refine ms_icmp_ge mB_203 dX12_row_11 (t := 26) rfl (fun c => ?_) (fun c => ?_)
  · have F := F.2 c
    refine ms_seq mB_203 mO_203 [(.aload_n 0, 1), (.bipush 48, 2), (.aload_n 0, 1)] (pc' := 30) (L' := [.ref 48, .int l1, .int l2]) (st' := [.ref 48, .int 48, .ref 48]) ⟨dX12_row_26, dX12_row_27, dX12_row_29, trivial⟩ rfl ?_
    refine ms_getA mB_203 mO_203 dX12_row_30 mF_12_13 (gk_48 N) rfl (b := 49) (gr_48_3 N) ?_
    refine ms_seq mB_203 mO_203 [(.iload_n 1, 1)] (pc' := 34) (L' := [.ref 48, .int l1, .int l2]) (st' := [.int l1, .ref 49, .int 48, .ref 48]) ⟨dX12_row_33, trivial⟩ rfl ?_
    have G := F.1
    have F := F.2
    refine ms_iald mB_203 dX12_row_34 (Or.inl (gk_49 N)) (by rw [gl_49 N]; exact G) ?_
    refine ms_seq mB_203 mO_203 [(.sipush 1000, 3)] (pc' := 38) (L' := [.ref 48, .int l1, .int l2]) (st' := [.int 1000, .int (δ.2.1 49 (Int32.toNatClampNeg l1)), .int 48, .ref 48]) ⟨dX12_row_35, trivial⟩ rfl ?_
    refine ms_idiv mB_203 dX12_row_38 (by decide) ?_
    refine ms_seq mB_203 mO_203 [(.iadd, 1)] (pc' := 40) (L' := [.ref 48, .int l1, .int l2]) (st' := [.int (48 + ((δ.2.1 49 (Int32.toNatClampNeg l1)) / 1000)), .ref 48]) ⟨dX12_row_39, trivial⟩ rfl ?_
    refine ms_callvV mB_203 mO_203 (by omega) dX12_row_40 mQ_12_324 mC_12_324 mL_201 mO_201 rfl (Nat.le_of_ble_eq_true rfl) (Nat.le_of_ble_eq_true rfl) (gk_48 N) rfl F (fun δ1 F => ?_)
    refine ms_seq mB_203 mO_203 [(.aload_n 0, 1), (.bipush 48, 2), (.aload_n 0, 1)] (pc' := 47) (L' := [.ref 48, .int l1, .int l2]) (st' := [.ref 48, .int 48, .ref 48]) ⟨dX12_row_43, dX12_row_44, dX12_row_46, trivial⟩ rfl ?_
    refine ms_getA mB_203 mO_203 dX12_row_47 mF_12_13 (gk_48 N) rfl (b := 49) (gr_48_3 N) ?_
    refine ms_seq mB_203 mO_203 [(.iload_n 1, 1)] (pc' := 51) (L' := [.ref 48, .int l1, .int l2]) (st' := [.int l1, .ref 49, .int 48, .ref 48]) ⟨dX12_row_50, trivial⟩ rfl ?_
    have G := F.1
    have F := F.2
    refine ms_iald mB_203 dX12_row_51 (Or.inl (gk_49 N)) (by rw [gl_49 N]; exact G) ?_
    refine ms_seq mB_203 mO_203 [(.bipush 100, 2)] (pc' := 54) (L' := [.ref 48, .int l1, .int l2]) (st' := [.int 100, .int (δ1.2.1 49 (Int32.toNatClampNeg l1)), .int 48, .ref 48]) ⟨dX12_row_52, trivial⟩ rfl ?_
    refine ms_idiv mB_203 dX12_row_54 (by decide) ?_
    refine ms_seq mB_203 mO_203 [(.bipush 10, 2)] (pc' := 57) (L' := [.ref 48, .int l1, .int l2]) (st' := [.int 10, .int ((δ1.2.1 49 (Int32.toNatClampNeg l1)) / 100), .int 48, .ref 48]) ⟨dX12_row_55, trivial⟩ rfl ?_
    refine ms_irem mB_203 dX12_row_57 (by decide) ?_
    refine ms_seq mB_203 mO_203 [(.iadd, 1)] (pc' := 59) (L' := [.ref 48, .int l1, .int l2]) (st' := [.int (48 + (((δ1.2.1 49 (Int32.toNatClampNeg l1)) / 100) - ((δ1.2.1 49 (Int32.toNatClampNeg l1)) / 100) / 10 * 10)), .ref 48]) ⟨dX12_row_58, trivial⟩ rfl ?_
    refine ms_callvV mB_203 mO_203 (by omega) dX12_row_59 mQ_12_324 mC_12_324 mL_201 mO_201 rfl (Nat.le_of_ble_eq_true rfl) (Nat.le_of_ble_eq_true rfl) (gk_48 N) rfl F (fun δ2 F => ?_)
    refine ms_seq mB_203 mO_203 [(.aload_n 0, 1), (.bipush 48, 2), (.aload_n 0, 1)] (pc' := 66) (L' := [.ref 48, .int l1, .int l2]) (st' := [.ref 48, .int 48, .ref 48]) ⟨dX12_row_62, dX12_row_63, dX12_row_65, trivial⟩ rfl ?_
    refine ms_getA mB_203 mO_203 dX12_row_66 mF_12_13 (gk_48 N) rfl (b := 49) (gr_48_3 N) ?_
    refine ms_seq mB_203 mO_203 [(.iload_n 1, 1)] (pc' := 70) (L' := [.ref 48, .int l1, .int l2]) (st' := [.int l1, .ref 49, .int 48, .ref 48]) ⟨dX12_row_69, trivial⟩ rfl ?_
    have G := F.1
    have F := F.2
    refine ms_iald mB_203 dX12_row_70 (Or.inl (gk_49 N)) (by rw [gl_49 N]; exact G) ?_
    refine ms_seq mB_203 mO_203 [(.bipush 10, 2)] (pc' := 73) (L' := [.ref 48, .int l1, .int l2]) (st' := [.int 10, .int (δ2.2.1 49 (Int32.toNatClampNeg l1)), .int 48, .ref 48]) ⟨dX12_row_71, trivial⟩ rfl ?_
    refine ms_idiv mB_203 dX12_row_73 (by decide) ?_
    refine ms_seq mB_203 mO_203 [(.bipush 10, 2)] (pc' := 76) (L' := [.ref 48, .int l1, .int l2]) (st' := [.int 10, .int ((δ2.2.1 49 (Int32.toNatClampNeg l1)) / 10), .int 48, .ref 48]) ⟨dX12_row_74, trivial⟩ rfl ?_
    refine ms_irem mB_203 dX12_row_76 (by decide) ?_
    refine ms_seq mB_203 mO_203 [(.iadd, 1)] (pc' := 78) (L' := [.ref 48, .int l1, .int l2]) (st' := [.int (48 + (((δ2.2.1 49 (Int32.toNatClampNeg l1)) / 10) - ((δ2.2.1 49 (Int32.toNatClampNeg l1)) / 10) / 10 * 10)), .ref 48]) ⟨dX12_row_77, trivial⟩ rfl ?_
    refine ms_callvV mB_203 mO_203 (by omega) dX12_row_78 mQ_12_324 mC_12_324 mL_201 mO_201 rfl (Nat.le_of_ble_eq_true rfl) (Nat.le_of_ble_eq_true rfl) (gk_48 N) rfl F (fun δ3 F => ?_)
    refine ms_seq mB_203 mO_203 [(.aload_n 0, 1), (.bipush 48, 2), (.aload_n 0, 1)] (pc' := 85) (L' := [.ref 48, .int l1, .int l2]) (st' := [.ref 48, .int 48, .ref 48]) ⟨dX12_row_81, dX12_row_82, dX12_row_84, trivial⟩ rfl ?_
    refine ms_getA mB_203 mO_203 dX12_row_85 mF_12_13 (gk_48 N) rfl (b := 49) (gr_48_3 N) ?_
    refine ms_seq mB_203 mO_203 [(.iload_n 1, 1)] (pc' := 89) (L' := [.ref 48, .int l1, .int l2]) (st' := [.int l1, .ref 49, .int 48, .ref 48]) ⟨dX12_row_88, trivial⟩ rfl ?_
    have G := F.1
    have F := F.2
    refine ms_iald mB_203 dX12_row_89 (Or.inl (gk_49 N)) (by rw [gl_49 N]; exact G) ?_
    refine ms_seq mB_203 mO_203 [(.bipush 10, 2)] (pc' := 92) (L' := [.ref 48, .int l1, .int l2]) (st' := [.int 10, .int (δ3.2.1 49 (Int32.toNatClampNeg l1)), .int 48, .ref 48]) ⟨dX12_row_90, trivial⟩ rfl ?_
    refine ms_irem mB_203 dX12_row_92 (by decide) ?_
    refine ms_seq mB_203 mO_203 [(.iadd, 1)] (pc' := 94) (L' := [.ref 48, .int l1, .int l2]) (st' := [.int (48 + ((δ3.2.1 49 (Int32.toNatClampNeg l1)) - (δ3.2.1 49 (Int32.toNatClampNeg l1)) / 10 * 10)), .ref 48]) ⟨dX12_row_93, trivial⟩ rfl ?_
    refine ms_callvV mB_203 mO_203 (by omega) dX12_row_94 mQ_12_324 mC_12_324 mL_201 mO_201 rfl (Nat.le_of_ble_eq_true rfl) (Nat.le_of_ble_eq_true rfl) (gk_48 N) rfl F (fun δ4 F => ?_)
    refine ms_seq mB_203 mO_203 [(.aload_n 0, 1), (.bipush 32, 2)] (pc' := 100) (L' := [.ref 48, .int l1, .int l2]) (st' := [.int 32, .ref 48]) ⟨dX12_row_97, dX12_row_98, trivial⟩ rfl ?_
    refine ms_callvV mB_203 mO_203 (by omega) dX12_row_100 mQ_12_324 mC_12_324 mL_201 mO_201 rfl (Nat.le_of_ble_eq_true rfl) (Nat.le_of_ble_eq_true rfl) (gk_48 N) rfl F (fun δ5 F => ?_)
    refine ms_seq mB_203 mO_203 [(.aload_n 0, 1), (.aload_n 0, 1), (.iload_n 1, 1)] (pc' := 106) (L' := [.ref 48, .int l1, .int l2]) (st' := [.int l1, .ref 48, .ref 48]) ⟨dX12_row_103, dX12_row_104, dX12_row_105, trivial⟩ rfl ?_
    refine ms_callvL mB_203 mO_203 (by omega) dX12_row_106 mQ_12_320 mC_12_320 mL_194 mO_194 rfl (Nat.le_of_ble_eq_true rfl) (Nat.le_of_ble_eq_true rfl) (gk_48 N) rfl F (fun r7 δ6 F => ?_)
    refine ms_callvV mB_203 mO_203 (by omega) dX12_row_109 mQ_12_329 mC_12_329 mL_202 mO_202 rfl (Nat.le_of_ble_eq_true rfl) (Nat.le_of_ble_eq_true rfl) (gk_48 N) rfl F (fun δ8 F => ?_)
    refine ms_seq mB_203 mO_203 [(.aload_n 0, 1), (.bipush 10, 2)] (pc' := 115) (L' := [.ref 48, .int l1, .int l2]) (st' := [.int 10, .ref 48]) ⟨dX12_row_112, dX12_row_113, trivial⟩ rfl ?_
    refine ms_callvV mB_203 mO_203 (by omega) dX12_row_115 mQ_12_324 mC_12_324 mL_201 mO_201 rfl (Nat.le_of_ble_eq_true rfl) (Nat.le_of_ble_eq_true rfl) (gk_48 N) rfl F (fun δ9 F => ?_)
    exact ms_vret mB_203 dX12_row_118 mR_203 ⟨rfl, rfl, F⟩
  · have F := F.1 c
    refine ms_seq mB_203 mO_203 [(.aload_n 0, 1), (.bipush 32, 2)] (pc' := 17) (L' := [.ref 48, .int l1, .int l2]) (st' := [.int 32, .ref 48]) ⟨dX12_row_14, dX12_row_15, trivial⟩ rfl ?_
    refine ms_callvV mB_203 mO_203 (by omega) dX12_row_17 mQ_12_324 mC_12_324 mL_201 mO_201 rfl (Nat.le_of_ble_eq_true rfl) (Nat.le_of_ble_eq_true rfl) (gk_48 N) rfl F (fun δ10 F => ?_)
    refine ms_seq mB_203 mO_203 [(.iinc 2 1, 3)] (pc' := 23) (L' := [.ref 48, .int l1, .int (l2 + 1)]) (st' := []) ⟨dX12_row_20, trivial⟩ rfl ?_
    refine ms_goto mB_203 dX12_row_23 (t := 2) rfl ?_
    exact F
set_option maxRecDepth 100000 in
theorem q12_tree_0 {N d : Nat} (hd : 5 ≤ d) {δ : mi_D} {Q : mi_D → Prop} (F : (mi_ix 0 8 = true ∧ (∀ δ1 : mi_D, δ1 = mi_setA δ 74 (Int32.toNatClampNeg 0) (-1) → (mi_ix 0 8 = true ∧ (∀ δ2 : mi_D, δ2 = mi_setA δ1 75 (Int32.toNatClampNeg 0) (-1) → mi_wV N d 204 16 [.ref 48, .int 0, .null, .null, .null] [] δ2 Q))))) : mi_wV N d 204 0 [.ref 48, .null, .null, .null, .null] [] δ Q := by
  unfold mi_wV
  refine ms_seq mB_204 mO_204 [(.iconst 0, 1), (.istore_n 1, 1), (.aload_n 0, 1)] (pc' := 3) (L' := [.ref 48, .int 0, .null, .null, .null]) (st' := [.ref 48]) ⟨dX12_tree_0, dX12_tree_1, dX12_tree_2, trivial⟩ rfl ?_
  refine ms_getA mB_204 mO_204 dX12_tree_3 mF_12_95 (gk_48 N) rfl (b := 74) (gr_48_39 N) ?_
  refine ms_seq mB_204 mO_204 [(.iconst 0, 1), (.iconst (-1), 1)] (pc' := 8) (L' := [.ref 48, .int 0, .null, .null, .null]) (st' := [.int (-1), .int 0, .ref 74]) ⟨dX12_tree_6, dX12_tree_7, trivial⟩ rfl ?_
  have G := F.1
  have F := F.2
  refine ms_iast mB_204 dX12_tree_8 (gk_74 N) (by rw [gl_74 N]; exact G) ?_
  refine mr_st (fun δ1 e_δ1 => ?_)
  have F := F δ1 e_δ1
  refine ms_seq mB_204 mO_204 [(.aload_n 0, 1)] (pc' := 10) (L' := [.ref 48, .int 0, .null, .null, .null]) (st' := [.ref 48]) ⟨dX12_tree_9, trivial⟩ rfl ?_
  refine ms_getA mB_204 mO_204 dX12_tree_10 mF_12_98 (gk_48 N) rfl (b := 75) (gr_48_40 N) ?_
  refine ms_seq mB_204 mO_204 [(.iconst 0, 1), (.iconst (-1), 1)] (pc' := 15) (L' := [.ref 48, .int 0, .null, .null, .null]) (st' := [.int (-1), .int 0, .ref 75]) ⟨dX12_tree_13, dX12_tree_14, trivial⟩ rfl ?_
  have G := F.1
  have F := F.2
  refine ms_iast mB_204 dX12_tree_15 (gk_75 N) (by rw [gl_75 N]; exact G) ?_
  refine mr_st (fun δ2 e_δ2 => ?_)
  have F := F δ2 e_δ2
  exact F
set_option maxRecDepth 100000 in
theorem q12_tree_16 {N d : Nat} (hd : 5 ≤ d) {l1 : Int32} {δ : mi_D} {Q : mi_D → Prop} (F : ((l1 < 0 → Q δ) ∧ (¬ l1 < 0 → mi_wV N d 204 24 [.ref 48, .int l1, .int (-1), .int 0, .null] [] δ Q))) : mi_wV N d 204 16 [.ref 48, .int l1, .null, .null, .null] [] δ Q := by
  unfold mi_wV
  refine ms_seq mB_204 mO_204 [(.iload_n 1, 1)] (pc' := 17) (L' := [.ref 48, .int l1, .null, .null, .null]) (st' := [.int l1]) ⟨dX12_tree_16, trivial⟩ rfl ?_
  refine ms_if_lt mB_204 dX12_tree_17 (t := 169) rfl (fun c => ?_) (fun c => ?_)
  · have F := F.1 c
    exact ms_vret mB_204 dX12_tree_169 mR_204 ⟨rfl, rfl, F⟩
  · have F := F.2 c
    refine ms_seq mB_204 mO_204 [(.iconst (-1), 1), (.istore_n 2, 1), (.iconst 0, 1), (.istore_n 3, 1)] (pc' := 24) (L' := [.ref 48, .int l1, .int (-1), .int 0, .null]) (st' := []) ⟨dX12_tree_20, dX12_tree_21, dX12_tree_22, dX12_tree_23, trivial⟩ rfl ?_
    exact F
set_option maxRecDepth 100000 in
theorem q12_tree_24 {N d : Nat} (hd : 5 ≤ d) {l1 l2 l3 : Int32} {δ : mi_D} {Q : mi_D → Prop} (F : ((l3 < (δ.1 48 2) → (mi_ix l3 60 = true ∧ (mi_ix l3 60 = true ∧ (∀ x5 : Int32, x5 = ((10000 * (δ.2.1 50 (Int32.toNatClampNeg l3))) + (δ.2.1 49 (Int32.toNatClampNeg l3))) → (mi_ix l3 60 = true ∧ (mi_ix l1 8 = true ∧ (((δ.2.1 51 (Int32.toNatClampNeg l3)) = (δ.2.1 74 (Int32.toNatClampNeg l1)) → (mi_ix l1 8 = true ∧ (((δ.2.1 75 (Int32.toNatClampNeg l1)) < x5 → ((l2 < 0 → mi_wV N d 204 24 [.ref 48, .int l1, .int l3, .int (l3 + 1), .int x5] [] δ Q) ∧ (¬ l2 < 0 → (mi_ix l2 60 = true ∧ (mi_ix l2 60 = true ∧ ((x5 < ((10000 * (δ.2.1 50 (Int32.toNatClampNeg l2))) + (δ.2.1 49 (Int32.toNatClampNeg l2))) → mi_wV N d 204 24 [.ref 48, .int l1, .int l3, .int (l3 + 1), .int x5] [] δ Q) ∧ (¬ x5 < ((10000 * (δ.2.1 50 (Int32.toNatClampNeg l2))) + (δ.2.1 49 (Int32.toNatClampNeg l2))) → mi_wV N d 204 24 [.ref 48, .int l1, .int l2, .int (l3 + 1), .int x5] [] δ Q))))))) ∧ (¬ (δ.2.1 75 (Int32.toNatClampNeg l1)) < x5 → mi_wV N d 204 24 [.ref 48, .int l1, .int l2, .int (l3 + 1), .int x5] [] δ Q)))) ∧ (¬ (δ.2.1 51 (Int32.toNatClampNeg l3)) = (δ.2.1 74 (Int32.toNatClampNeg l1)) → mi_wV N d 204 24 [.ref 48, .int l1, .int l2, .int (l3 + 1), .int x5] [] δ Q)))))))) ∧ (¬ l3 < (δ.1 48 2) → ((l2 < 0 → mi_wV N d 204 16 [.ref 48, .int (l1 + (-1)), .int l2, .int l3, .null] [] δ Q) ∧ (¬ l2 < 0 → (mi_wV N (d - 1) 203 0 [.ref 48, .int l2, .null] [] δ (fun δ1 => (mi_ix l2 60 = true ∧ (mi_ix l2 60 = true ∧ (mi_ix l1 8 = true ∧ (∀ δ2 : mi_D, δ2 = mi_setA δ1 75 (Int32.toNatClampNeg l1) ((10000 * (δ1.2.1 50 (Int32.toNatClampNeg l2))) + (δ1.2.1 49 (Int32.toNatClampNeg l2))) → (mi_ix (l1 + 1) 8 = true ∧ (∀ δ3 : mi_D, δ3 = mi_setA δ2 74 (Int32.toNatClampNeg (l1 + 1)) l2 → (mi_ix (l1 + 1) 8 = true ∧ (∀ δ4 : mi_D, δ4 = mi_setA δ3 75 (Int32.toNatClampNeg (l1 + 1)) (-1) → mi_wV N d 204 16 [.ref 48, .int (l1 + 1), .int l2, .int l3, .null] [] δ4 Q))))))))))))))) : mi_wV N d 204 24 [.ref 48, .int l1, .int l2, .int l3, .null] [] δ Q := by
  unfold mi_wV
  refine ms_seq mB_204 mO_204 [(.iload_n 3, 1), (.aload_n 0, 1)] (pc' := 26) (L' := [.ref 48, .int l1, .int l2, .int l3, .null]) (st' := [.ref 48, .int l3]) ⟨dX12_tree_24, dX12_tree_25, trivial⟩ rfl ?_
  refine ms_getI mB_204 mO_204 dX12_tree_26 mF_12_113 (gk_48 N) (Or.inl rfl) ?_
  refine ms_icmp_ge mB_204 dX12_tree_29 (t := 111) rfl (fun c => ?_) (fun c => ?_)
  · have F := F.2 c
    refine ms_seq mB_204 mO_204 [(.iload_n 2, 1)] (pc' := 112) (L' := [.ref 48, .int l1, .int l2, .int l3, .null]) (st' := [.int l2]) ⟨dX12_tree_111, trivial⟩ rfl ?_
    refine ms_if_ge mB_204 dX12_tree_112 (t := 121) rfl (fun c => ?_) (fun c => ?_)
    · have F := F.2 c
      refine ms_seq mB_204 mO_204 [(.aload_n 0, 1), (.iload_n 2, 1)] (pc' := 123) (L' := [.ref 48, .int l1, .int l2, .int l3, .null]) (st' := [.int l2, .ref 48]) ⟨dX12_tree_121, dX12_tree_122, trivial⟩ rfl ?_
      refine ms_callvV mB_204 mO_204 (by omega) dX12_tree_123 mQ_12_332 mC_12_332 mL_203 mO_203 rfl (Nat.le_of_ble_eq_true rfl) (Nat.le_of_ble_eq_true rfl) (gk_48 N) rfl F (fun δ1 F => ?_)
      refine ms_seq mB_204 mO_204 [(.aload_n 0, 1)] (pc' := 127) (L' := [.ref 48, .int l1, .int l2, .int l3, .null]) (st' := [.ref 48]) ⟨dX12_tree_126, trivial⟩ rfl ?_
      refine ms_getA mB_204 mO_204 dX12_tree_127 mF_12_98 (gk_48 N) rfl (b := 75) (gr_48_40 N) ?_
      refine ms_seq mB_204 mO_204 [(.iload_n 1, 1), (.sipush 10000, 3), (.aload_n 0, 1)] (pc' := 135) (L' := [.ref 48, .int l1, .int l2, .int l3, .null]) (st' := [.ref 48, .int 10000, .int l1, .ref 75]) ⟨dX12_tree_130, dX12_tree_131, dX12_tree_134, trivial⟩ rfl ?_
      refine ms_getA mB_204 mO_204 dX12_tree_135 mF_12_17 (gk_48 N) rfl (b := 50) (gr_48_4 N) ?_
      refine ms_seq mB_204 mO_204 [(.iload_n 2, 1)] (pc' := 139) (L' := [.ref 48, .int l1, .int l2, .int l3, .null]) (st' := [.int l2, .ref 50, .int 10000, .int l1, .ref 75]) ⟨dX12_tree_138, trivial⟩ rfl ?_
      have G := F.1
      have F := F.2
      refine ms_iald mB_204 dX12_tree_139 (Or.inl (gk_50 N)) (by rw [gl_50 N]; exact G) ?_
      refine ms_seq mB_204 mO_204 [(.imul, 1), (.aload_n 0, 1)] (pc' := 142) (L' := [.ref 48, .int l1, .int l2, .int l3, .null]) (st' := [.ref 48, .int (10000 * (δ1.2.1 50 (Int32.toNatClampNeg l2))), .int l1, .ref 75]) ⟨dX12_tree_140, dX12_tree_141, trivial⟩ rfl ?_
      refine ms_getA mB_204 mO_204 dX12_tree_142 mF_12_13 (gk_48 N) rfl (b := 49) (gr_48_3 N) ?_
      refine ms_seq mB_204 mO_204 [(.iload_n 2, 1)] (pc' := 146) (L' := [.ref 48, .int l1, .int l2, .int l3, .null]) (st' := [.int l2, .ref 49, .int (10000 * (δ1.2.1 50 (Int32.toNatClampNeg l2))), .int l1, .ref 75]) ⟨dX12_tree_145, trivial⟩ rfl ?_
      have G := F.1
      have F := F.2
      refine ms_iald mB_204 dX12_tree_146 (Or.inl (gk_49 N)) (by rw [gl_49 N]; exact G) ?_
      refine ms_seq mB_204 mO_204 [(.iadd, 1)] (pc' := 148) (L' := [.ref 48, .int l1, .int l2, .int l3, .null]) (st' := [.int ((10000 * (δ1.2.1 50 (Int32.toNatClampNeg l2))) + (δ1.2.1 49 (Int32.toNatClampNeg l2))), .int l1, .ref 75]) ⟨dX12_tree_147, trivial⟩ rfl ?_
      have G := F.1
      have F := F.2
      refine ms_iast mB_204 dX12_tree_148 (gk_75 N) (by rw [gl_75 N]; exact G) ?_
      refine mr_st (fun δ2 e_δ2 => ?_)
      have F := F δ2 e_δ2
      refine ms_seq mB_204 mO_204 [(.iinc 1 1, 3), (.aload_n 0, 1)] (pc' := 153) (L' := [.ref 48, .int (l1 + 1), .int l2, .int l3, .null]) (st' := [.ref 48]) ⟨dX12_tree_149, dX12_tree_152, trivial⟩ rfl ?_
      refine ms_getA mB_204 mO_204 dX12_tree_153 mF_12_95 (gk_48 N) rfl (b := 74) (gr_48_39 N) ?_
      refine ms_seq mB_204 mO_204 [(.iload_n 1, 1), (.iload_n 2, 1)] (pc' := 158) (L' := [.ref 48, .int (l1 + 1), .int l2, .int l3, .null]) (st' := [.int l2, .int (l1 + 1), .ref 74]) ⟨dX12_tree_156, dX12_tree_157, trivial⟩ rfl ?_
      have G := F.1
      have F := F.2
      refine ms_iast mB_204 dX12_tree_158 (gk_74 N) (by rw [gl_74 N]; exact G) ?_
      refine mr_st (fun δ3 e_δ3 => ?_)
      have F := F δ3 e_δ3
      refine ms_seq mB_204 mO_204 [(.aload_n 0, 1)] (pc' := 160) (L' := [.ref 48, .int (l1 + 1), .int l2, .int l3, .null]) (st' := [.ref 48]) ⟨dX12_tree_159, trivial⟩ rfl ?_
      refine ms_getA mB_204 mO_204 dX12_tree_160 mF_12_98 (gk_48 N) rfl (b := 75) (gr_48_40 N) ?_
      refine ms_seq mB_204 mO_204 [(.iload_n 1, 1), (.iconst (-1), 1)] (pc' := 165) (L' := [.ref 48, .int (l1 + 1), .int l2, .int l3, .null]) (st' := [.int (-1), .int (l1 + 1), .ref 75]) ⟨dX12_tree_163, dX12_tree_164, trivial⟩ rfl ?_
      have G := F.1
      have F := F.2
      refine ms_iast mB_204 dX12_tree_165 (gk_75 N) (by rw [gl_75 N]; exact G) ?_
      refine mr_st (fun δ4 e_δ4 => ?_)
      have F := F δ4 e_δ4
      refine ms_goto mB_204 dX12_tree_166 (t := 16) rfl ?_
      exact F
    · have F := F.1 c
      refine ms_seq mB_204 mO_204 [(.iinc 1 (-1), 3)] (pc' := 118) (L' := [.ref 48, .int (l1 + (-1)), .int l2, .int l3, .null]) (st' := []) ⟨dX12_tree_115, trivial⟩ rfl ?_
      refine ms_goto mB_204 dX12_tree_118 (t := 166) rfl ?_
      refine ms_goto mB_204 dX12_tree_166 (t := 16) rfl ?_
      exact F
  · have F := F.1 c
    refine ms_seq mB_204 mO_204 [(.sipush 10000, 3), (.aload_n 0, 1)] (pc' := 36) (L' := [.ref 48, .int l1, .int l2, .int l3, .null]) (st' := [.ref 48, .int 10000]) ⟨dX12_tree_32, dX12_tree_35, trivial⟩ rfl ?_
    refine ms_getA mB_204 mO_204 dX12_tree_36 mF_12_17 (gk_48 N) rfl (b := 50) (gr_48_4 N) ?_
    refine ms_seq mB_204 mO_204 [(.iload_n 3, 1)] (pc' := 40) (L' := [.ref 48, .int l1, .int l2, .int l3, .null]) (st' := [.int l3, .ref 50, .int 10000]) ⟨dX12_tree_39, trivial⟩ rfl ?_
    have G := F.1
    have F := F.2
    refine ms_iald mB_204 dX12_tree_40 (Or.inl (gk_50 N)) (by rw [gl_50 N]; exact G) ?_
    refine ms_seq mB_204 mO_204 [(.imul, 1), (.aload_n 0, 1)] (pc' := 43) (L' := [.ref 48, .int l1, .int l2, .int l3, .null]) (st' := [.ref 48, .int (10000 * (δ.2.1 50 (Int32.toNatClampNeg l3)))]) ⟨dX12_tree_41, dX12_tree_42, trivial⟩ rfl ?_
    refine ms_getA mB_204 mO_204 dX12_tree_43 mF_12_13 (gk_48 N) rfl (b := 49) (gr_48_3 N) ?_
    refine ms_seq mB_204 mO_204 [(.iload_n 3, 1)] (pc' := 47) (L' := [.ref 48, .int l1, .int l2, .int l3, .null]) (st' := [.int l3, .ref 49, .int (10000 * (δ.2.1 50 (Int32.toNatClampNeg l3)))]) ⟨dX12_tree_46, trivial⟩ rfl ?_
    have G := F.1
    have F := F.2
    refine ms_iald mB_204 dX12_tree_47 (Or.inl (gk_49 N)) (by rw [gl_49 N]; exact G) ?_
    refine ms_seq mB_204 mO_204 [(.iadd, 1)] (pc' := 49) (L' := [.ref 48, .int l1, .int l2, .int l3, .null]) (st' := [.int ((10000 * (δ.2.1 50 (Int32.toNatClampNeg l3))) + (δ.2.1 49 (Int32.toNatClampNeg l3)))]) ⟨dX12_tree_48, trivial⟩ rfl ?_
    refine mr_topi (fun x5 e_x5 => ?_)
    have F := F x5 e_x5
    refine ms_seq mB_204 mO_204 [(.istore 4, 2), (.aload_n 0, 1)] (pc' := 52) (L' := [.ref 48, .int l1, .int l2, .int l3, .int x5]) (st' := [.ref 48]) ⟨dX12_tree_49, dX12_tree_51, trivial⟩ rfl ?_
    refine ms_getA mB_204 mO_204 dX12_tree_52 mF_12_20 (gk_48 N) rfl (b := 51) (gr_48_5 N) ?_
    refine ms_seq mB_204 mO_204 [(.iload_n 3, 1)] (pc' := 56) (L' := [.ref 48, .int l1, .int l2, .int l3, .int x5]) (st' := [.int l3, .ref 51]) ⟨dX12_tree_55, trivial⟩ rfl ?_
    have G := F.1
    have F := F.2
    refine ms_iald mB_204 dX12_tree_56 (Or.inl (gk_51 N)) (by rw [gl_51 N]; exact G) ?_
    refine ms_seq mB_204 mO_204 [(.aload_n 0, 1)] (pc' := 58) (L' := [.ref 48, .int l1, .int l2, .int l3, .int x5]) (st' := [.ref 48, .int (δ.2.1 51 (Int32.toNatClampNeg l3))]) ⟨dX12_tree_57, trivial⟩ rfl ?_
    refine ms_getA mB_204 mO_204 dX12_tree_58 mF_12_95 (gk_48 N) rfl (b := 74) (gr_48_39 N) ?_
    refine ms_seq mB_204 mO_204 [(.iload_n 1, 1)] (pc' := 62) (L' := [.ref 48, .int l1, .int l2, .int l3, .int x5]) (st' := [.int l1, .ref 74, .int (δ.2.1 51 (Int32.toNatClampNeg l3))]) ⟨dX12_tree_61, trivial⟩ rfl ?_
    have G := F.1
    have F := F.2
    refine ms_iald mB_204 dX12_tree_62 (Or.inl (gk_74 N)) (by rw [gl_74 N]; exact G) ?_
    refine ms_icmp_ne mB_204 dX12_tree_63 (t := 105) rfl (fun c => ?_) (fun c => ?_)
    · have F := F.2 c
      refine ms_seq mB_204 mO_204 [(.iinc 3 1, 3)] (pc' := 108) (L' := [.ref 48, .int l1, .int l2, .int (l3 + 1), .int x5]) (st' := []) ⟨dX12_tree_105, trivial⟩ rfl ?_
      refine ms_goto mB_204 dX12_tree_108 (t := 24) rfl ?_
      exact F
    · have F := F.1 c
      refine ms_seq mB_204 mO_204 [(.iload 4, 2), (.aload_n 0, 1)] (pc' := 69) (L' := [.ref 48, .int l1, .int l2, .int l3, .int x5]) (st' := [.ref 48, .int x5]) ⟨dX12_tree_66, dX12_tree_68, trivial⟩ rfl ?_
      refine ms_getA mB_204 mO_204 dX12_tree_69 mF_12_98 (gk_48 N) rfl (b := 75) (gr_48_40 N) ?_
      refine ms_seq mB_204 mO_204 [(.iload_n 1, 1)] (pc' := 73) (L' := [.ref 48, .int l1, .int l2, .int l3, .int x5]) (st' := [.int l1, .ref 75, .int x5]) ⟨dX12_tree_72, trivial⟩ rfl ?_
      have G := F.1
      have F := F.2
      refine ms_iald mB_204 dX12_tree_73 (Or.inl (gk_75 N)) (by rw [gl_75 N]; exact G) ?_
      refine ms_icmp_le mB_204 dX12_tree_74 (t := 105) rfl (fun c => ?_) (fun c => ?_)
      · have F := F.2 c
        refine ms_seq mB_204 mO_204 [(.iinc 3 1, 3)] (pc' := 108) (L' := [.ref 48, .int l1, .int l2, .int (l3 + 1), .int x5]) (st' := []) ⟨dX12_tree_105, trivial⟩ rfl ?_
        refine ms_goto mB_204 dX12_tree_108 (t := 24) rfl ?_
        exact F
      · have F := F.1 c
        refine ms_seq mB_204 mO_204 [(.iload_n 2, 1)] (pc' := 78) (L' := [.ref 48, .int l1, .int l2, .int l3, .int x5]) (st' := [.int l2]) ⟨dX12_tree_77, trivial⟩ rfl ?_
        refine ms_if_lt mB_204 dX12_tree_78 (t := 103) rfl (fun c => ?_) (fun c => ?_)
        · have F := F.1 c
          refine ms_seq mB_204 mO_204 [(.iload_n 3, 1), (.istore_n 2, 1), (.iinc 3 1, 3)] (pc' := 108) (L' := [.ref 48, .int l1, .int l3, .int (l3 + 1), .int x5]) (st' := []) ⟨dX12_tree_103, dX12_tree_104, dX12_tree_105, trivial⟩ rfl ?_
          refine ms_goto mB_204 dX12_tree_108 (t := 24) rfl ?_
          exact F
        · have F := F.2 c
          refine ms_seq mB_204 mO_204 [(.iload 4, 2), (.sipush 10000, 3), (.aload_n 0, 1)] (pc' := 87) (L' := [.ref 48, .int l1, .int l2, .int l3, .int x5]) (st' := [.ref 48, .int 10000, .int x5]) ⟨dX12_tree_81, dX12_tree_83, dX12_tree_86, trivial⟩ rfl ?_
          refine ms_getA mB_204 mO_204 dX12_tree_87 mF_12_17 (gk_48 N) rfl (b := 50) (gr_48_4 N) ?_
          refine ms_seq mB_204 mO_204 [(.iload_n 2, 1)] (pc' := 91) (L' := [.ref 48, .int l1, .int l2, .int l3, .int x5]) (st' := [.int l2, .ref 50, .int 10000, .int x5]) ⟨dX12_tree_90, trivial⟩ rfl ?_
          have G := F.1
          have F := F.2
          refine ms_iald mB_204 dX12_tree_91 (Or.inl (gk_50 N)) (by rw [gl_50 N]; exact G) ?_
          refine ms_seq mB_204 mO_204 [(.imul, 1), (.aload_n 0, 1)] (pc' := 94) (L' := [.ref 48, .int l1, .int l2, .int l3, .int x5]) (st' := [.ref 48, .int (10000 * (δ.2.1 50 (Int32.toNatClampNeg l2))), .int x5]) ⟨dX12_tree_92, dX12_tree_93, trivial⟩ rfl ?_
          refine ms_getA mB_204 mO_204 dX12_tree_94 mF_12_13 (gk_48 N) rfl (b := 49) (gr_48_3 N) ?_
          refine ms_seq mB_204 mO_204 [(.iload_n 2, 1)] (pc' := 98) (L' := [.ref 48, .int l1, .int l2, .int l3, .int x5]) (st' := [.int l2, .ref 49, .int (10000 * (δ.2.1 50 (Int32.toNatClampNeg l2))), .int x5]) ⟨dX12_tree_97, trivial⟩ rfl ?_
          have G := F.1
          have F := F.2
          refine ms_iald mB_204 dX12_tree_98 (Or.inl (gk_49 N)) (by rw [gl_49 N]; exact G) ?_
          refine ms_seq mB_204 mO_204 [(.iadd, 1)] (pc' := 100) (L' := [.ref 48, .int l1, .int l2, .int l3, .int x5]) (st' := [.int ((10000 * (δ.2.1 50 (Int32.toNatClampNeg l2))) + (δ.2.1 49 (Int32.toNatClampNeg l2))), .int x5]) ⟨dX12_tree_99, trivial⟩ rfl ?_
          refine ms_icmp_ge mB_204 dX12_tree_100 (t := 105) rfl (fun c => ?_) (fun c => ?_)
          · have F := F.2 c
            refine ms_seq mB_204 mO_204 [(.iinc 3 1, 3)] (pc' := 108) (L' := [.ref 48, .int l1, .int l2, .int (l3 + 1), .int x5]) (st' := []) ⟨dX12_tree_105, trivial⟩ rfl ?_
            refine ms_goto mB_204 dX12_tree_108 (t := 24) rfl ?_
            exact F
          · have F := F.1 c
            refine ms_seq mB_204 mO_204 [(.iload_n 3, 1), (.istore_n 2, 1), (.iinc 3 1, 3)] (pc' := 108) (L' := [.ref 48, .int l1, .int l3, .int (l3 + 1), .int x5]) (st' := []) ⟨dX12_tree_103, dX12_tree_104, dX12_tree_105, trivial⟩ rfl ?_
            refine ms_goto mB_204 dX12_tree_108 (t := 24) rfl ?_
            exact F
set_option maxRecDepth 100000 in
theorem q12_tree_16a {N d : Nat} (hd : 5 ≤ d) {l1 l2 l3 : Int32} {δ : mi_D} {Q : mi_D → Prop} (F : ((l1 < 0 → Q δ) ∧ (¬ l1 < 0 → mi_wV N d 204 24 [.ref 48, .int l1, .int (-1), .int 0, .null] [] δ Q))) : mi_wV N d 204 16 [.ref 48, .int l1, .int l2, .int l3, .null] [] δ Q := by
  unfold mi_wV
  refine ms_seq mB_204 mO_204 [(.iload_n 1, 1)] (pc' := 17) (L' := [.ref 48, .int l1, .int l2, .int l3, .null]) (st' := [.int l1]) ⟨dX12_tree_16, trivial⟩ rfl ?_
  refine ms_if_lt mB_204 dX12_tree_17 (t := 169) rfl (fun c => ?_) (fun c => ?_)
  · have F := F.1 c
    exact ms_vret mB_204 dX12_tree_169 mR_204 ⟨rfl, rfl, F⟩
  · have F := F.2 c
    refine ms_seq mB_204 mO_204 [(.iconst (-1), 1), (.istore_n 2, 1), (.iconst 0, 1), (.istore_n 3, 1)] (pc' := 24) (L' := [.ref 48, .int l1, .int (-1), .int 0, .null]) (st' := []) ⟨dX12_tree_20, dX12_tree_21, dX12_tree_22, dX12_tree_23, trivial⟩ rfl ?_
    exact F
set_option maxRecDepth 100000 in
theorem q12_tree_24a {N d : Nat} (hd : 5 ≤ d) {l1 l2 l3 l4 : Int32} {δ : mi_D} {Q : mi_D → Prop} (F : ((l3 < (δ.1 48 2) → (mi_ix l3 60 = true ∧ (mi_ix l3 60 = true ∧ (∀ x5 : Int32, x5 = ((10000 * (δ.2.1 50 (Int32.toNatClampNeg l3))) + (δ.2.1 49 (Int32.toNatClampNeg l3))) → (mi_ix l3 60 = true ∧ (mi_ix l1 8 = true ∧ (((δ.2.1 51 (Int32.toNatClampNeg l3)) = (δ.2.1 74 (Int32.toNatClampNeg l1)) → (mi_ix l1 8 = true ∧ (((δ.2.1 75 (Int32.toNatClampNeg l1)) < x5 → ((l2 < 0 → mi_wV N d 204 24 [.ref 48, .int l1, .int l3, .int (l3 + 1), .int x5] [] δ Q) ∧ (¬ l2 < 0 → (mi_ix l2 60 = true ∧ (mi_ix l2 60 = true ∧ ((x5 < ((10000 * (δ.2.1 50 (Int32.toNatClampNeg l2))) + (δ.2.1 49 (Int32.toNatClampNeg l2))) → mi_wV N d 204 24 [.ref 48, .int l1, .int l3, .int (l3 + 1), .int x5] [] δ Q) ∧ (¬ x5 < ((10000 * (δ.2.1 50 (Int32.toNatClampNeg l2))) + (δ.2.1 49 (Int32.toNatClampNeg l2))) → mi_wV N d 204 24 [.ref 48, .int l1, .int l2, .int (l3 + 1), .int x5] [] δ Q))))))) ∧ (¬ (δ.2.1 75 (Int32.toNatClampNeg l1)) < x5 → mi_wV N d 204 24 [.ref 48, .int l1, .int l2, .int (l3 + 1), .int x5] [] δ Q)))) ∧ (¬ (δ.2.1 51 (Int32.toNatClampNeg l3)) = (δ.2.1 74 (Int32.toNatClampNeg l1)) → mi_wV N d 204 24 [.ref 48, .int l1, .int l2, .int (l3 + 1), .int x5] [] δ Q)))))))) ∧ (¬ l3 < (δ.1 48 2) → ((l2 < 0 → mi_wV N d 204 16 [.ref 48, .int (l1 + (-1)), .int l2, .int l3, .int l4] [] δ Q) ∧ (¬ l2 < 0 → (mi_wV N (d - 1) 203 0 [.ref 48, .int l2, .null] [] δ (fun δ1 => (mi_ix l2 60 = true ∧ (mi_ix l2 60 = true ∧ (mi_ix l1 8 = true ∧ (∀ δ2 : mi_D, δ2 = mi_setA δ1 75 (Int32.toNatClampNeg l1) ((10000 * (δ1.2.1 50 (Int32.toNatClampNeg l2))) + (δ1.2.1 49 (Int32.toNatClampNeg l2))) → (mi_ix (l1 + 1) 8 = true ∧ (∀ δ3 : mi_D, δ3 = mi_setA δ2 74 (Int32.toNatClampNeg (l1 + 1)) l2 → (mi_ix (l1 + 1) 8 = true ∧ (∀ δ4 : mi_D, δ4 = mi_setA δ3 75 (Int32.toNatClampNeg (l1 + 1)) (-1) → mi_wV N d 204 16 [.ref 48, .int (l1 + 1), .int l2, .int l3, .int l4] [] δ4 Q))))))))))))))) : mi_wV N d 204 24 [.ref 48, .int l1, .int l2, .int l3, .int l4] [] δ Q := by
  unfold mi_wV
  refine ms_seq mB_204 mO_204 [(.iload_n 3, 1), (.aload_n 0, 1)] (pc' := 26) (L' := [.ref 48, .int l1, .int l2, .int l3, .int l4]) (st' := [.ref 48, .int l3]) ⟨dX12_tree_24, dX12_tree_25, trivial⟩ rfl ?_
  refine ms_getI mB_204 mO_204 dX12_tree_26 mF_12_113 (gk_48 N) (Or.inl rfl) ?_
  refine ms_icmp_ge mB_204 dX12_tree_29 (t := 111) rfl (fun c => ?_) (fun c => ?_)
  · have F := F.2 c
    refine ms_seq mB_204 mO_204 [(.iload_n 2, 1)] (pc' := 112) (L' := [.ref 48, .int l1, .int l2, .int l3, .int l4]) (st' := [.int l2]) ⟨dX12_tree_111, trivial⟩ rfl ?_
    refine ms_if_ge mB_204 dX12_tree_112 (t := 121) rfl (fun c => ?_) (fun c => ?_)
    · have F := F.2 c
      refine ms_seq mB_204 mO_204 [(.aload_n 0, 1), (.iload_n 2, 1)] (pc' := 123) (L' := [.ref 48, .int l1, .int l2, .int l3, .int l4]) (st' := [.int l2, .ref 48]) ⟨dX12_tree_121, dX12_tree_122, trivial⟩ rfl ?_
      refine ms_callvV mB_204 mO_204 (by omega) dX12_tree_123 mQ_12_332 mC_12_332 mL_203 mO_203 rfl (Nat.le_of_ble_eq_true rfl) (Nat.le_of_ble_eq_true rfl) (gk_48 N) rfl F (fun δ1 F => ?_)
      refine ms_seq mB_204 mO_204 [(.aload_n 0, 1)] (pc' := 127) (L' := [.ref 48, .int l1, .int l2, .int l3, .int l4]) (st' := [.ref 48]) ⟨dX12_tree_126, trivial⟩ rfl ?_
      refine ms_getA mB_204 mO_204 dX12_tree_127 mF_12_98 (gk_48 N) rfl (b := 75) (gr_48_40 N) ?_
      refine ms_seq mB_204 mO_204 [(.iload_n 1, 1), (.sipush 10000, 3), (.aload_n 0, 1)] (pc' := 135) (L' := [.ref 48, .int l1, .int l2, .int l3, .int l4]) (st' := [.ref 48, .int 10000, .int l1, .ref 75]) ⟨dX12_tree_130, dX12_tree_131, dX12_tree_134, trivial⟩ rfl ?_
      refine ms_getA mB_204 mO_204 dX12_tree_135 mF_12_17 (gk_48 N) rfl (b := 50) (gr_48_4 N) ?_
      refine ms_seq mB_204 mO_204 [(.iload_n 2, 1)] (pc' := 139) (L' := [.ref 48, .int l1, .int l2, .int l3, .int l4]) (st' := [.int l2, .ref 50, .int 10000, .int l1, .ref 75]) ⟨dX12_tree_138, trivial⟩ rfl ?_
      have G := F.1
      have F := F.2
      refine ms_iald mB_204 dX12_tree_139 (Or.inl (gk_50 N)) (by rw [gl_50 N]; exact G) ?_
      refine ms_seq mB_204 mO_204 [(.imul, 1), (.aload_n 0, 1)] (pc' := 142) (L' := [.ref 48, .int l1, .int l2, .int l3, .int l4]) (st' := [.ref 48, .int (10000 * (δ1.2.1 50 (Int32.toNatClampNeg l2))), .int l1, .ref 75]) ⟨dX12_tree_140, dX12_tree_141, trivial⟩ rfl ?_
      refine ms_getA mB_204 mO_204 dX12_tree_142 mF_12_13 (gk_48 N) rfl (b := 49) (gr_48_3 N) ?_
      refine ms_seq mB_204 mO_204 [(.iload_n 2, 1)] (pc' := 146) (L' := [.ref 48, .int l1, .int l2, .int l3, .int l4]) (st' := [.int l2, .ref 49, .int (10000 * (δ1.2.1 50 (Int32.toNatClampNeg l2))), .int l1, .ref 75]) ⟨dX12_tree_145, trivial⟩ rfl ?_
      have G := F.1
      have F := F.2
      refine ms_iald mB_204 dX12_tree_146 (Or.inl (gk_49 N)) (by rw [gl_49 N]; exact G) ?_
      refine ms_seq mB_204 mO_204 [(.iadd, 1)] (pc' := 148) (L' := [.ref 48, .int l1, .int l2, .int l3, .int l4]) (st' := [.int ((10000 * (δ1.2.1 50 (Int32.toNatClampNeg l2))) + (δ1.2.1 49 (Int32.toNatClampNeg l2))), .int l1, .ref 75]) ⟨dX12_tree_147, trivial⟩ rfl ?_
      have G := F.1
      have F := F.2
      refine ms_iast mB_204 dX12_tree_148 (gk_75 N) (by rw [gl_75 N]; exact G) ?_
      refine mr_st (fun δ2 e_δ2 => ?_)
      have F := F δ2 e_δ2
      refine ms_seq mB_204 mO_204 [(.iinc 1 1, 3), (.aload_n 0, 1)] (pc' := 153) (L' := [.ref 48, .int (l1 + 1), .int l2, .int l3, .int l4]) (st' := [.ref 48]) ⟨dX12_tree_149, dX12_tree_152, trivial⟩ rfl ?_
      refine ms_getA mB_204 mO_204 dX12_tree_153 mF_12_95 (gk_48 N) rfl (b := 74) (gr_48_39 N) ?_
      refine ms_seq mB_204 mO_204 [(.iload_n 1, 1), (.iload_n 2, 1)] (pc' := 158) (L' := [.ref 48, .int (l1 + 1), .int l2, .int l3, .int l4]) (st' := [.int l2, .int (l1 + 1), .ref 74]) ⟨dX12_tree_156, dX12_tree_157, trivial⟩ rfl ?_
      have G := F.1
      have F := F.2
      refine ms_iast mB_204 dX12_tree_158 (gk_74 N) (by rw [gl_74 N]; exact G) ?_
      refine mr_st (fun δ3 e_δ3 => ?_)
      have F := F δ3 e_δ3
      refine ms_seq mB_204 mO_204 [(.aload_n 0, 1)] (pc' := 160) (L' := [.ref 48, .int (l1 + 1), .int l2, .int l3, .int l4]) (st' := [.ref 48]) ⟨dX12_tree_159, trivial⟩ rfl ?_
      refine ms_getA mB_204 mO_204 dX12_tree_160 mF_12_98 (gk_48 N) rfl (b := 75) (gr_48_40 N) ?_
      refine ms_seq mB_204 mO_204 [(.iload_n 1, 1), (.iconst (-1), 1)] (pc' := 165) (L' := [.ref 48, .int (l1 + 1), .int l2, .int l3, .int l4]) (st' := [.int (-1), .int (l1 + 1), .ref 75]) ⟨dX12_tree_163, dX12_tree_164, trivial⟩ rfl ?_
      have G := F.1
      have F := F.2
      refine ms_iast mB_204 dX12_tree_165 (gk_75 N) (by rw [gl_75 N]; exact G) ?_
      refine mr_st (fun δ4 e_δ4 => ?_)
      have F := F δ4 e_δ4
      refine ms_goto mB_204 dX12_tree_166 (t := 16) rfl ?_
      exact F
    · have F := F.1 c
      refine ms_seq mB_204 mO_204 [(.iinc 1 (-1), 3)] (pc' := 118) (L' := [.ref 48, .int (l1 + (-1)), .int l2, .int l3, .int l4]) (st' := []) ⟨dX12_tree_115, trivial⟩ rfl ?_
      refine ms_goto mB_204 dX12_tree_118 (t := 166) rfl ?_
      refine ms_goto mB_204 dX12_tree_166 (t := 16) rfl ?_
      exact F
  · have F := F.1 c
    refine ms_seq mB_204 mO_204 [(.sipush 10000, 3), (.aload_n 0, 1)] (pc' := 36) (L' := [.ref 48, .int l1, .int l2, .int l3, .int l4]) (st' := [.ref 48, .int 10000]) ⟨dX12_tree_32, dX12_tree_35, trivial⟩ rfl ?_
    refine ms_getA mB_204 mO_204 dX12_tree_36 mF_12_17 (gk_48 N) rfl (b := 50) (gr_48_4 N) ?_
    refine ms_seq mB_204 mO_204 [(.iload_n 3, 1)] (pc' := 40) (L' := [.ref 48, .int l1, .int l2, .int l3, .int l4]) (st' := [.int l3, .ref 50, .int 10000]) ⟨dX12_tree_39, trivial⟩ rfl ?_
    have G := F.1
    have F := F.2
    refine ms_iald mB_204 dX12_tree_40 (Or.inl (gk_50 N)) (by rw [gl_50 N]; exact G) ?_
    refine ms_seq mB_204 mO_204 [(.imul, 1), (.aload_n 0, 1)] (pc' := 43) (L' := [.ref 48, .int l1, .int l2, .int l3, .int l4]) (st' := [.ref 48, .int (10000 * (δ.2.1 50 (Int32.toNatClampNeg l3)))]) ⟨dX12_tree_41, dX12_tree_42, trivial⟩ rfl ?_
    refine ms_getA mB_204 mO_204 dX12_tree_43 mF_12_13 (gk_48 N) rfl (b := 49) (gr_48_3 N) ?_
    refine ms_seq mB_204 mO_204 [(.iload_n 3, 1)] (pc' := 47) (L' := [.ref 48, .int l1, .int l2, .int l3, .int l4]) (st' := [.int l3, .ref 49, .int (10000 * (δ.2.1 50 (Int32.toNatClampNeg l3)))]) ⟨dX12_tree_46, trivial⟩ rfl ?_
    have G := F.1
    have F := F.2
    refine ms_iald mB_204 dX12_tree_47 (Or.inl (gk_49 N)) (by rw [gl_49 N]; exact G) ?_
    refine ms_seq mB_204 mO_204 [(.iadd, 1)] (pc' := 49) (L' := [.ref 48, .int l1, .int l2, .int l3, .int l4]) (st' := [.int ((10000 * (δ.2.1 50 (Int32.toNatClampNeg l3))) + (δ.2.1 49 (Int32.toNatClampNeg l3)))]) ⟨dX12_tree_48, trivial⟩ rfl ?_
    refine mr_topi (fun x5 e_x5 => ?_)
    have F := F x5 e_x5
    refine ms_seq mB_204 mO_204 [(.istore 4, 2), (.aload_n 0, 1)] (pc' := 52) (L' := [.ref 48, .int l1, .int l2, .int l3, .int x5]) (st' := [.ref 48]) ⟨dX12_tree_49, dX12_tree_51, trivial⟩ rfl ?_
    refine ms_getA mB_204 mO_204 dX12_tree_52 mF_12_20 (gk_48 N) rfl (b := 51) (gr_48_5 N) ?_
    refine ms_seq mB_204 mO_204 [(.iload_n 3, 1)] (pc' := 56) (L' := [.ref 48, .int l1, .int l2, .int l3, .int x5]) (st' := [.int l3, .ref 51]) ⟨dX12_tree_55, trivial⟩ rfl ?_
    have G := F.1
    have F := F.2
    refine ms_iald mB_204 dX12_tree_56 (Or.inl (gk_51 N)) (by rw [gl_51 N]; exact G) ?_
    refine ms_seq mB_204 mO_204 [(.aload_n 0, 1)] (pc' := 58) (L' := [.ref 48, .int l1, .int l2, .int l3, .int x5]) (st' := [.ref 48, .int (δ.2.1 51 (Int32.toNatClampNeg l3))]) ⟨dX12_tree_57, trivial⟩ rfl ?_
    refine ms_getA mB_204 mO_204 dX12_tree_58 mF_12_95 (gk_48 N) rfl (b := 74) (gr_48_39 N) ?_
    refine ms_seq mB_204 mO_204 [(.iload_n 1, 1)] (pc' := 62) (L' := [.ref 48, .int l1, .int l2, .int l3, .int x5]) (st' := [.int l1, .ref 74, .int (δ.2.1 51 (Int32.toNatClampNeg l3))]) ⟨dX12_tree_61, trivial⟩ rfl ?_
    have G := F.1
    have F := F.2
    refine ms_iald mB_204 dX12_tree_62 (Or.inl (gk_74 N)) (by rw [gl_74 N]; exact G) ?_
    refine ms_icmp_ne mB_204 dX12_tree_63 (t := 105) rfl (fun c => ?_) (fun c => ?_)
    · have F := F.2 c
      refine ms_seq mB_204 mO_204 [(.iinc 3 1, 3)] (pc' := 108) (L' := [.ref 48, .int l1, .int l2, .int (l3 + 1), .int x5]) (st' := []) ⟨dX12_tree_105, trivial⟩ rfl ?_
      refine ms_goto mB_204 dX12_tree_108 (t := 24) rfl ?_
      exact F
    · have F := F.1 c
      refine ms_seq mB_204 mO_204 [(.iload 4, 2), (.aload_n 0, 1)] (pc' := 69) (L' := [.ref 48, .int l1, .int l2, .int l3, .int x5]) (st' := [.ref 48, .int x5]) ⟨dX12_tree_66, dX12_tree_68, trivial⟩ rfl ?_
      refine ms_getA mB_204 mO_204 dX12_tree_69 mF_12_98 (gk_48 N) rfl (b := 75) (gr_48_40 N) ?_
      refine ms_seq mB_204 mO_204 [(.iload_n 1, 1)] (pc' := 73) (L' := [.ref 48, .int l1, .int l2, .int l3, .int x5]) (st' := [.int l1, .ref 75, .int x5]) ⟨dX12_tree_72, trivial⟩ rfl ?_
      have G := F.1
      have F := F.2
      refine ms_iald mB_204 dX12_tree_73 (Or.inl (gk_75 N)) (by rw [gl_75 N]; exact G) ?_
      refine ms_icmp_le mB_204 dX12_tree_74 (t := 105) rfl (fun c => ?_) (fun c => ?_)
      · have F := F.2 c
        refine ms_seq mB_204 mO_204 [(.iinc 3 1, 3)] (pc' := 108) (L' := [.ref 48, .int l1, .int l2, .int (l3 + 1), .int x5]) (st' := []) ⟨dX12_tree_105, trivial⟩ rfl ?_
        refine ms_goto mB_204 dX12_tree_108 (t := 24) rfl ?_
        exact F
      · have F := F.1 c
        refine ms_seq mB_204 mO_204 [(.iload_n 2, 1)] (pc' := 78) (L' := [.ref 48, .int l1, .int l2, .int l3, .int x5]) (st' := [.int l2]) ⟨dX12_tree_77, trivial⟩ rfl ?_
        refine ms_if_lt mB_204 dX12_tree_78 (t := 103) rfl (fun c => ?_) (fun c => ?_)
        · have F := F.1 c
          refine ms_seq mB_204 mO_204 [(.iload_n 3, 1), (.istore_n 2, 1), (.iinc 3 1, 3)] (pc' := 108) (L' := [.ref 48, .int l1, .int l3, .int (l3 + 1), .int x5]) (st' := []) ⟨dX12_tree_103, dX12_tree_104, dX12_tree_105, trivial⟩ rfl ?_
          refine ms_goto mB_204 dX12_tree_108 (t := 24) rfl ?_
          exact F
        · have F := F.2 c
          refine ms_seq mB_204 mO_204 [(.iload 4, 2), (.sipush 10000, 3), (.aload_n 0, 1)] (pc' := 87) (L' := [.ref 48, .int l1, .int l2, .int l3, .int x5]) (st' := [.ref 48, .int 10000, .int x5]) ⟨dX12_tree_81, dX12_tree_83, dX12_tree_86, trivial⟩ rfl ?_
          refine ms_getA mB_204 mO_204 dX12_tree_87 mF_12_17 (gk_48 N) rfl (b := 50) (gr_48_4 N) ?_
          refine ms_seq mB_204 mO_204 [(.iload_n 2, 1)] (pc' := 91) (L' := [.ref 48, .int l1, .int l2, .int l3, .int x5]) (st' := [.int l2, .ref 50, .int 10000, .int x5]) ⟨dX12_tree_90, trivial⟩ rfl ?_
          have G := F.1
          have F := F.2
          refine ms_iald mB_204 dX12_tree_91 (Or.inl (gk_50 N)) (by rw [gl_50 N]; exact G) ?_
          refine ms_seq mB_204 mO_204 [(.imul, 1), (.aload_n 0, 1)] (pc' := 94) (L' := [.ref 48, .int l1, .int l2, .int l3, .int x5]) (st' := [.ref 48, .int (10000 * (δ.2.1 50 (Int32.toNatClampNeg l2))), .int x5]) ⟨dX12_tree_92, dX12_tree_93, trivial⟩ rfl ?_
          refine ms_getA mB_204 mO_204 dX12_tree_94 mF_12_13 (gk_48 N) rfl (b := 49) (gr_48_3 N) ?_
          refine ms_seq mB_204 mO_204 [(.iload_n 2, 1)] (pc' := 98) (L' := [.ref 48, .int l1, .int l2, .int l3, .int x5]) (st' := [.int l2, .ref 49, .int (10000 * (δ.2.1 50 (Int32.toNatClampNeg l2))), .int x5]) ⟨dX12_tree_97, trivial⟩ rfl ?_
          have G := F.1
          have F := F.2
          refine ms_iald mB_204 dX12_tree_98 (Or.inl (gk_49 N)) (by rw [gl_49 N]; exact G) ?_
          refine ms_seq mB_204 mO_204 [(.iadd, 1)] (pc' := 100) (L' := [.ref 48, .int l1, .int l2, .int l3, .int x5]) (st' := [.int ((10000 * (δ.2.1 50 (Int32.toNatClampNeg l2))) + (δ.2.1 49 (Int32.toNatClampNeg l2))), .int x5]) ⟨dX12_tree_99, trivial⟩ rfl ?_
          refine ms_icmp_ge mB_204 dX12_tree_100 (t := 105) rfl (fun c => ?_) (fun c => ?_)
          · have F := F.2 c
            refine ms_seq mB_204 mO_204 [(.iinc 3 1, 3)] (pc' := 108) (L' := [.ref 48, .int l1, .int l2, .int (l3 + 1), .int x5]) (st' := []) ⟨dX12_tree_105, trivial⟩ rfl ?_
            refine ms_goto mB_204 dX12_tree_108 (t := 24) rfl ?_
            exact F
          · have F := F.1 c
            refine ms_seq mB_204 mO_204 [(.iload_n 3, 1), (.istore_n 2, 1), (.iinc 3 1, 3)] (pc' := 108) (L' := [.ref 48, .int l1, .int l3, .int (l3 + 1), .int x5]) (st' := []) ⟨dX12_tree_103, dX12_tree_104, dX12_tree_105, trivial⟩ rfl ?_
            refine ms_goto mB_204 dX12_tree_108 (t := 24) rfl ?_
            exact F
set_option maxRecDepth 100000 in
theorem q12_tree_16b {N d : Nat} (hd : 5 ≤ d) {l1 l2 l3 l4 : Int32} {δ : mi_D} {Q : mi_D → Prop} (F : ((l1 < 0 → Q δ) ∧ (¬ l1 < 0 → mi_wV N d 204 24 [.ref 48, .int l1, .int (-1), .int 0, .int l4] [] δ Q))) : mi_wV N d 204 16 [.ref 48, .int l1, .int l2, .int l3, .int l4] [] δ Q := by
  unfold mi_wV
  refine ms_seq mB_204 mO_204 [(.iload_n 1, 1)] (pc' := 17) (L' := [.ref 48, .int l1, .int l2, .int l3, .int l4]) (st' := [.int l1]) ⟨dX12_tree_16, trivial⟩ rfl ?_
  refine ms_if_lt mB_204 dX12_tree_17 (t := 169) rfl (fun c => ?_) (fun c => ?_)
  · have F := F.1 c
    exact ms_vret mB_204 dX12_tree_169 mR_204 ⟨rfl, rfl, F⟩
  · have F := F.2 c
    refine ms_seq mB_204 mO_204 [(.iconst (-1), 1), (.istore_n 2, 1), (.iconst 0, 1), (.istore_n 3, 1)] (pc' := 24) (L' := [.ref 48, .int l1, .int (-1), .int 0, .int l4]) (st' := []) ⟨dX12_tree_20, dX12_tree_21, dX12_tree_22, dX12_tree_23, trivial⟩ rfl ?_
    exact F
set_option maxRecDepth 100000 in
theorem q12_ofKind_0 {N d : Nat} (hd : 5 ≤ d) {p0 : Int32} {δ : mi_D} {Q : Int64 → mi_D → Prop} (F : mi_wL N d 205 5 [.ref 48, .int p0, .long 0, .null, .int 0] [] δ Q) : mi_wL N d 205 0 [.ref 48, .int p0, .null, .null, .null] [] δ Q := by
  unfold mi_wL
  refine ms_seq mB_205 mO_205 [(.lconst 0, 1), (.lstore_n 2, 1), (.iconst 0, 1), (.istore 4, 2)] (pc' := 5) (L' := [.ref 48, .int p0, .long 0, .null, .int 0]) (st' := []) ⟨dX12_ofKind_0, dX12_ofKind_1, dX12_ofKind_2, dX12_ofKind_3, trivial⟩ rfl ?_
  exact F
set_option maxRecDepth 100000 in
theorem q12_ofKind_5 {N d : Nat} (hd : 5 ≤ d) {l1 l4 : Int32} {l2 : Int64} {δ : mi_D} {Q : Int64 → mi_D → Prop} (F : ((l4 < (δ.1 48 2) → (mi_ix l4 60 = true ∧ (((δ.2.1 52 (Int32.toNatClampNeg l4)) = 0 → ((l1 < 0 → mi_wL N d 205 40 [.ref 48, .int l1, .long l2, .null, .int l4] [.long l2] δ Q) ∧ (¬ l1 < 0 → (mi_ix l4 60 = true ∧ (((δ.2.1 50 (Int32.toNatClampNeg l4)) = l1 → mi_wL N d 205 40 [.ref 48, .int l1, .long l2, .null, .int l4] [.long l2] δ Q) ∧ (¬ (δ.2.1 50 (Int32.toNatClampNeg l4)) = l1 → (∀ x2 : Int64, x2 = (l2 + 0) → mi_wL N d 205 5 [.ref 48, .int l1, .long x2, .null, .int (l4 + 1)] [] δ Q))))))) ∧ (¬ (δ.2.1 52 (Int32.toNatClampNeg l4)) = 0 → (∀ x1 : Int64, x1 = (l2 + 0) → mi_wL N d 205 5 [.ref 48, .int l1, .long x1, .null, .int (l4 + 1)] [] δ Q))))) ∧ (¬ l4 < (δ.1 48 2) → Q l2 δ))) : mi_wL N d 205 5 [.ref 48, .int l1, .long l2, .null, .int l4] [] δ Q := by
  unfold mi_wL
  refine ms_seq mB_205 mO_205 [(.iload 4, 2), (.aload_n 0, 1)] (pc' := 8) (L' := [.ref 48, .int l1, .long l2, .null, .int l4]) (st' := [.ref 48, .int l4]) ⟨dX12_ofKind_5, dX12_ofKind_7, trivial⟩ rfl ?_
  refine ms_getI mB_205 mO_205 dX12_ofKind_8 mF_12_113 (gk_48 N) (Or.inl rfl) ?_
  refine ms_icmp_ge mB_205 dX12_ofKind_11 (t := 59) rfl (fun c => ?_) (fun c => ?_)
  · have F := F.2 c
    refine ms_seq mB_205 mO_205 [(.lload_n 2, 1)] (pc' := 60) (L' := [.ref 48, .int l1, .long l2, .null, .int l4]) (st' := [.long l2]) ⟨dX12_ofKind_59, trivial⟩ rfl ?_
    exact ms_lret mB_205 dX12_ofKind_60 mR_205 ⟨_, rfl, rfl, F⟩
  · have F := F.1 c
    refine ms_seq mB_205 mO_205 [(.lload_n 2, 1), (.aload_n 0, 1)] (pc' := 16) (L' := [.ref 48, .int l1, .long l2, .null, .int l4]) (st' := [.ref 48, .long l2]) ⟨dX12_ofKind_14, dX12_ofKind_15, trivial⟩ rfl ?_
    refine ms_getA mB_205 mO_205 dX12_ofKind_16 mF_12_23 (gk_48 N) rfl (b := 52) (gr_48_6 N) ?_
    refine ms_seq mB_205 mO_205 [(.iload 4, 2)] (pc' := 21) (L' := [.ref 48, .int l1, .long l2, .null, .int l4]) (st' := [.int l4, .ref 52, .long l2]) ⟨dX12_ofKind_19, trivial⟩ rfl ?_
    have G := F.1
    have F := F.2
    refine ms_bald mB_205 dX12_ofKind_21 (gk_52 N) (by rw [gl_52 N]; exact G) ?_
    refine ms_if_ne mB_205 dX12_ofKind_22 (t := 50) rfl (fun c => ?_) (fun c => ?_)
    · have F := F.2 c
      refine ms_seq mB_205 mO_205 [(.lconst 0, 1), (.ladd, 1)] (pc' := 52) (L' := [.ref 48, .int l1, .long l2, .null, .int l4]) (st' := [.long (l2 + 0)]) ⟨dX12_ofKind_50, dX12_ofKind_51, trivial⟩ rfl ?_
      refine mr_topl (fun x1 e_x1 => ?_)
      have F := F x1 e_x1
      refine ms_seq mB_205 mO_205 [(.lstore_n 2, 1), (.iinc 4 1, 3)] (pc' := 56) (L' := [.ref 48, .int l1, .long x1, .null, .int (l4 + 1)]) (st' := []) ⟨dX12_ofKind_52, dX12_ofKind_53, trivial⟩ rfl ?_
      refine ms_goto mB_205 dX12_ofKind_56 (t := 5) rfl ?_
      exact F
    · have F := F.1 c
      refine ms_seq mB_205 mO_205 [(.iload_n 1, 1)] (pc' := 26) (L' := [.ref 48, .int l1, .long l2, .null, .int l4]) (st' := [.int l1, .long l2]) ⟨dX12_ofKind_25, trivial⟩ rfl ?_
      refine ms_if_lt mB_205 dX12_ofKind_26 (t := 40) rfl (fun c => ?_) (fun c => ?_)
      · have F := F.1 c
        exact F
      · have F := F.2 c
        refine ms_seq mB_205 mO_205 [(.aload_n 0, 1)] (pc' := 30) (L' := [.ref 48, .int l1, .long l2, .null, .int l4]) (st' := [.ref 48, .long l2]) ⟨dX12_ofKind_29, trivial⟩ rfl ?_
        refine ms_getA mB_205 mO_205 dX12_ofKind_30 mF_12_17 (gk_48 N) rfl (b := 50) (gr_48_4 N) ?_
        refine ms_seq mB_205 mO_205 [(.iload 4, 2)] (pc' := 35) (L' := [.ref 48, .int l1, .long l2, .null, .int l4]) (st' := [.int l4, .ref 50, .long l2]) ⟨dX12_ofKind_33, trivial⟩ rfl ?_
        have G := F.1
        have F := F.2
        refine ms_iald mB_205 dX12_ofKind_35 (Or.inl (gk_50 N)) (by rw [gl_50 N]; exact G) ?_
        refine ms_seq mB_205 mO_205 [(.iload_n 1, 1)] (pc' := 37) (L' := [.ref 48, .int l1, .long l2, .null, .int l4]) (st' := [.int l1, .int (δ.2.1 50 (Int32.toNatClampNeg l4)), .long l2]) ⟨dX12_ofKind_36, trivial⟩ rfl ?_
        refine ms_icmp_ne mB_205 dX12_ofKind_37 (t := 50) rfl (fun c => ?_) (fun c => ?_)
        · have F := F.2 c
          refine ms_seq mB_205 mO_205 [(.lconst 0, 1), (.ladd, 1)] (pc' := 52) (L' := [.ref 48, .int l1, .long l2, .null, .int l4]) (st' := [.long (l2 + 0)]) ⟨dX12_ofKind_50, dX12_ofKind_51, trivial⟩ rfl ?_
          refine mr_topl (fun x2 e_x2 => ?_)
          have F := F x2 e_x2
          refine ms_seq mB_205 mO_205 [(.lstore_n 2, 1), (.iinc 4 1, 3)] (pc' := 56) (L' := [.ref 48, .int l1, .long x2, .null, .int (l4 + 1)]) (st' := []) ⟨dX12_ofKind_52, dX12_ofKind_53, trivial⟩ rfl ?_
          refine ms_goto mB_205 dX12_ofKind_56 (t := 5) rfl ?_
          exact F
        · have F := F.1 c
          exact F
set_option maxRecDepth 100000 in
theorem q12_ofKind_40 {N d : Nat} (hd : 5 ≤ d) {l1 l4 : Int32} {l2 s0 : Int64} {δ : mi_D} {Q : Int64 → mi_D → Prop} (F : (mi_ix l4 60 = true ∧ (∀ x1 : Int64, x1 = (s0 + (δ.2.2 55 (Int32.toNatClampNeg l4))) → mi_wL N d 205 5 [.ref 48, .int l1, .long x1, .null, .int (l4 + 1)] [] δ Q))) : mi_wL N d 205 40 [.ref 48, .int l1, .long l2, .null, .int l4] [.long s0] δ Q := by
  unfold mi_wL
  refine ms_seq mB_205 mO_205 [(.aload_n 0, 1)] (pc' := 41) (L' := [.ref 48, .int l1, .long l2, .null, .int l4]) (st' := [.ref 48, .long s0]) ⟨dX12_ofKind_40, trivial⟩ rfl ?_
  refine ms_getA mB_205 mO_205 dX12_ofKind_41 mF_12_33 (gk_48 N) rfl (b := 55) (gr_48_9 N) ?_
  refine ms_seq mB_205 mO_205 [(.iload 4, 2)] (pc' := 46) (L' := [.ref 48, .int l1, .long l2, .null, .int l4]) (st' := [.int l4, .ref 55, .long s0]) ⟨dX12_ofKind_44, trivial⟩ rfl ?_
  have G := F.1
  have F := F.2
  refine ms_lald mB_205 dX12_ofKind_46 (gk_55 N) (by rw [gl_55 N]; exact G) ?_
  refine ms_goto mB_205 dX12_ofKind_47 (t := 51) rfl ?_
  refine ms_seq mB_205 mO_205 [(.ladd, 1)] (pc' := 52) (L' := [.ref 48, .int l1, .long l2, .null, .int l4]) (st' := [.long (s0 + (δ.2.2 55 (Int32.toNatClampNeg l4)))]) ⟨dX12_ofKind_51, trivial⟩ rfl ?_
  refine mr_topl (fun x1 e_x1 => ?_)
  have F := F x1 e_x1
  refine ms_seq mB_205 mO_205 [(.lstore_n 2, 1), (.iinc 4 1, 3)] (pc' := 56) (L' := [.ref 48, .int l1, .long x1, .null, .int (l4 + 1)]) (st' := []) ⟨dX12_ofKind_52, dX12_ofKind_53, trivial⟩ rfl ?_
  refine ms_goto mB_205 dX12_ofKind_56 (t := 5) rfl ?_
  exact F
set_option maxRecDepth 100000 in
theorem q12_total_0 {N d : Nat} (hd : 5 ≤ d) {p0 p1 : Int32} {δ : mi_D} {Q : mi_D → Prop} (F : (mi_wV N (d - 1) 201 0 [.ref 48, .int p0] [] δ (fun δ1 => (mi_wV N (d - 1) 201 0 [.ref 48, .int 32] [] δ1 (fun δ2 => (mi_wL N (d - 1) 205 0 [.ref 48, .int p1, .null, .null, .null] [] δ2 (fun r4 δ3 => (mi_wV N (d - 1) 202 0 [.ref 48, .long r4, .null, .null, .null, .null, .null] [] δ3 (fun δ5 => (mi_wV N (d - 1) 201 0 [.ref 48, .int 10] [] δ5 (fun δ6 => Q δ6))))))))))) : mi_wV N d 206 0 [.ref 48, .int p0, .int p1] [] δ Q := by
  unfold mi_wV
  refine ms_seq mB_206 mO_206 [(.aload_n 0, 1), (.iload_n 1, 1)] (pc' := 2) (L' := [.ref 48, .int p0, .int p1]) (st' := [.int p0, .ref 48]) ⟨dX12_total_0, dX12_total_1, trivial⟩ rfl ?_
  refine ms_callvV mB_206 mO_206 (by omega) dX12_total_2 mQ_12_324 mC_12_324 mL_201 mO_201 rfl (Nat.le_of_ble_eq_true rfl) (Nat.le_of_ble_eq_true rfl) (gk_48 N) rfl F (fun δ1 F => ?_)
  refine ms_seq mB_206 mO_206 [(.aload_n 0, 1), (.bipush 32, 2)] (pc' := 8) (L' := [.ref 48, .int p0, .int p1]) (st' := [.int 32, .ref 48]) ⟨dX12_total_5, dX12_total_6, trivial⟩ rfl ?_
  refine ms_callvV mB_206 mO_206 (by omega) dX12_total_8 mQ_12_324 mC_12_324 mL_201 mO_201 rfl (Nat.le_of_ble_eq_true rfl) (Nat.le_of_ble_eq_true rfl) (gk_48 N) rfl F (fun δ2 F => ?_)
  refine ms_seq mB_206 mO_206 [(.aload_n 0, 1), (.aload_n 0, 1), (.iload_n 2, 1)] (pc' := 14) (L' := [.ref 48, .int p0, .int p1]) (st' := [.int p1, .ref 48, .ref 48]) ⟨dX12_total_11, dX12_total_12, dX12_total_13, trivial⟩ rfl ?_
  refine ms_callvL mB_206 mO_206 (by omega) dX12_total_14 mQ_12_335 mC_12_335 mL_205 mO_205 rfl (Nat.le_of_ble_eq_true rfl) (Nat.le_of_ble_eq_true rfl) (gk_48 N) rfl F (fun r4 δ3 F => ?_)
  refine ms_callvV mB_206 mO_206 (by omega) dX12_total_17 mQ_12_329 mC_12_329 mL_202 mO_202 rfl (Nat.le_of_ble_eq_true rfl) (Nat.le_of_ble_eq_true rfl) (gk_48 N) rfl F (fun δ5 F => ?_)
  refine ms_seq mB_206 mO_206 [(.aload_n 0, 1), (.bipush 10, 2)] (pc' := 23) (L' := [.ref 48, .int p0, .int p1]) (st' := [.int 10, .ref 48]) ⟨dX12_total_20, dX12_total_21, trivial⟩ rfl ?_
  refine ms_callvV mB_206 mO_206 (by omega) dX12_total_23 mQ_12_324 mC_12_324 mL_201 mO_201 rfl (Nat.le_of_ble_eq_true rfl) (Nat.le_of_ble_eq_true rfl) (gk_48 N) rfl F (fun δ6 F => ?_)
  exact ms_vret mB_206 dX12_total_26 mR_206 ⟨rfl, rfl, F⟩
set_option maxRecDepth 100000 in
theorem q12_sheet_0 {N d : Nat} (hd : 5 ≤ d) {p0 : Int32} {δ : mi_D} {Q : Int32 → mi_D → Prop} (F : (((δ.1 48 0) = 0 → Q (-6) δ) ∧ (¬ (δ.1 48 0) = 0 → (mi_wI N (d - 1) 148 0 [.long (Int32.toInt64 p0), .null, .long 0, .null, .long 2, .null] [] δ (fun r2 δ1 => ((r2 = 0 → Q (-3) δ1) ∧ (¬ r2 = 0 → (∀ δ3 : mi_D, δ3 = mi_setI δ1 48 36 0 → ((p0 = 0 → (mi_wI N (d - 1) 175 0 [.ref 48, .int 0, .null, .null] [] δ3 (fun r12 δ11 => mi_wI N d 207 40 [.ref 48, .int p0, .int r12] [] δ11 Q))) ∧ (¬ p0 = 0 → ((p0 = 1 → (mi_wV N (d - 1) 204 0 [.ref 48, .null, .null, .null, .null] [] δ3 (fun δ10 => mi_wI N d 207 141 [.ref 48, .int p0, .null] [] δ10 Q))) ∧ (¬ p0 = 1 → (mi_wV N (d - 1) 206 0 [.ref 48, .int 65, .int 0] [] δ3 (fun δ4 => (mi_wV N (d - 1) 206 0 [.ref 48, .int 68, .int 1] [] δ4 (fun δ5 => (mi_wV N (d - 1) 206 0 [.ref 48, .int 79, .int 2] [] δ5 (fun δ6 => (mi_wV N (d - 1) 206 0 [.ref 48, .int 73, .int 3] [] δ6 (fun δ7 => (mi_wV N (d - 1) 206 0 [.ref 48, .int 67, .int 4] [] δ7 (fun δ8 => (mi_wV N (d - 1) 206 0 [.ref 48, .int 61, .int (-1)] [] δ8 (fun δ9 => mi_wI N d 207 141 [.ref 48, .int p0, .null] [] δ9 Q)))))))))))))))))))))))) : mi_wI N d 207 0 [.ref 48, .int p0, .null] [] δ Q := by
  unfold mi_wI
  refine ms_seq mB_207 mO_207 [(.aload_n 0, 1)] (pc' := 1) (L' := [.ref 48, .int p0, .null]) (st' := [.ref 48]) ⟨dX12_sheet_0, trivial⟩ rfl ?_
  refine ms_getI mB_207 mO_207 dX12_sheet_1 mF_12_7 (gk_48 N) (Or.inr rfl) ?_
  refine ms_if_ne mB_207 dX12_sheet_4 (t := 10) rfl (fun c => ?_) (fun c => ?_)
  · have F := F.2 c
    refine ms_seq mB_207 mO_207 [(.iload_n 1, 1), (.i2l, 1), (.lconst 0, 1), (.ldc2_w 125, 3)] (pc' := 16) (L' := [.ref 48, .int p0, .null]) (st' := [.long 2, .long 0, .long (Int32.toInt64 p0)]) ⟨dX12_sheet_10, dX12_sheet_11, dX12_sheet_12, dX12_sheet_13, trivial⟩ rfl ?_
    refine ms_callsI mB_207 mO_207 (by omega) dX12_sheet_16 mQ_12_116 mC_12_116 mL_148 (by decide) rfl (Nat.le_of_ble_eq_true rfl) (Nat.le_of_ble_eq_true rfl) rfl F (fun r2 δ1 F => ?_)
    refine ms_if_ne mB_207 dX12_sheet_19 (t := 25) rfl (fun c => ?_) (fun c => ?_)
    · have F := F.2 c
      refine ms_seq mB_207 mO_207 [(.aload_n 0, 1), (.iconst 0, 1)] (pc' := 27) (L' := [.ref 48, .int p0, .null]) (st' := [.int 0, .ref 48]) ⟨dX12_sheet_25, dX12_sheet_26, trivial⟩ rfl ?_
      refine ms_putI mB_207 mO_207 dX12_sheet_27 mF_12_253 (gk_48 N) rfl rfl ?_
      refine mr_st (fun δ3 e_δ3 => ?_)
      have F := F δ3 e_δ3
      refine ms_seq mB_207 mO_207 [(.iload_n 1, 1)] (pc' := 31) (L' := [.ref 48, .int p0, .null]) (st' := [.int p0]) ⟨dX12_sheet_30, trivial⟩ rfl ?_
      refine ms_if_ne mB_207 dX12_sheet_31 (t := 87) rfl (fun c => ?_) (fun c => ?_)
      · have F := F.2 c
        refine ms_seq mB_207 mO_207 [(.iload_n 1, 1), (.iconst 1, 1)] (pc' := 89) (L' := [.ref 48, .int p0, .null]) (st' := [.int 1, .int p0]) ⟨dX12_sheet_87, dX12_sheet_88, trivial⟩ rfl ?_
        refine ms_icmp_ne mB_207 dX12_sheet_89 (t := 99) rfl (fun c => ?_) (fun c => ?_)
        · have F := F.2 c
          refine ms_seq mB_207 mO_207 [(.aload_n 0, 1), (.bipush 65, 2), (.iconst 0, 1)] (pc' := 103) (L' := [.ref 48, .int p0, .null]) (st' := [.int 0, .int 65, .ref 48]) ⟨dX12_sheet_99, dX12_sheet_100, dX12_sheet_102, trivial⟩ rfl ?_
          refine ms_callvV mB_207 mO_207 (by omega) dX12_sheet_103 mQ_12_341 mC_12_341 mL_206 mO_206 rfl (Nat.le_of_ble_eq_true rfl) (Nat.le_of_ble_eq_true rfl) (gk_48 N) rfl F (fun δ4 F => ?_)
          refine ms_seq mB_207 mO_207 [(.aload_n 0, 1), (.bipush 68, 2), (.iconst 1, 1)] (pc' := 110) (L' := [.ref 48, .int p0, .null]) (st' := [.int 1, .int 68, .ref 48]) ⟨dX12_sheet_106, dX12_sheet_107, dX12_sheet_109, trivial⟩ rfl ?_
          refine ms_callvV mB_207 mO_207 (by omega) dX12_sheet_110 mQ_12_341 mC_12_341 mL_206 mO_206 rfl (Nat.le_of_ble_eq_true rfl) (Nat.le_of_ble_eq_true rfl) (gk_48 N) rfl F (fun δ5 F => ?_)
          refine ms_seq mB_207 mO_207 [(.aload_n 0, 1), (.bipush 79, 2), (.iconst 2, 1)] (pc' := 117) (L' := [.ref 48, .int p0, .null]) (st' := [.int 2, .int 79, .ref 48]) ⟨dX12_sheet_113, dX12_sheet_114, dX12_sheet_116, trivial⟩ rfl ?_
          refine ms_callvV mB_207 mO_207 (by omega) dX12_sheet_117 mQ_12_341 mC_12_341 mL_206 mO_206 rfl (Nat.le_of_ble_eq_true rfl) (Nat.le_of_ble_eq_true rfl) (gk_48 N) rfl F (fun δ6 F => ?_)
          refine ms_seq mB_207 mO_207 [(.aload_n 0, 1), (.bipush 73, 2), (.iconst 3, 1)] (pc' := 124) (L' := [.ref 48, .int p0, .null]) (st' := [.int 3, .int 73, .ref 48]) ⟨dX12_sheet_120, dX12_sheet_121, dX12_sheet_123, trivial⟩ rfl ?_
          refine ms_callvV mB_207 mO_207 (by omega) dX12_sheet_124 mQ_12_341 mC_12_341 mL_206 mO_206 rfl (Nat.le_of_ble_eq_true rfl) (Nat.le_of_ble_eq_true rfl) (gk_48 N) rfl F (fun δ7 F => ?_)
          refine ms_seq mB_207 mO_207 [(.aload_n 0, 1), (.bipush 67, 2), (.iconst 4, 1)] (pc' := 131) (L' := [.ref 48, .int p0, .null]) (st' := [.int 4, .int 67, .ref 48]) ⟨dX12_sheet_127, dX12_sheet_128, dX12_sheet_130, trivial⟩ rfl ?_
          refine ms_callvV mB_207 mO_207 (by omega) dX12_sheet_131 mQ_12_341 mC_12_341 mL_206 mO_206 rfl (Nat.le_of_ble_eq_true rfl) (Nat.le_of_ble_eq_true rfl) (gk_48 N) rfl F (fun δ8 F => ?_)
          refine ms_seq mB_207 mO_207 [(.aload_n 0, 1), (.bipush 61, 2), (.iconst (-1), 1)] (pc' := 138) (L' := [.ref 48, .int p0, .null]) (st' := [.int (-1), .int 61, .ref 48]) ⟨dX12_sheet_134, dX12_sheet_135, dX12_sheet_137, trivial⟩ rfl ?_
          refine ms_callvV mB_207 mO_207 (by omega) dX12_sheet_138 mQ_12_341 mC_12_341 mL_206 mO_206 rfl (Nat.le_of_ble_eq_true rfl) (Nat.le_of_ble_eq_true rfl) (gk_48 N) rfl F (fun δ9 F => ?_)
          exact F
        · have F := F.1 c
          refine ms_seq mB_207 mO_207 [(.aload_n 0, 1)] (pc' := 93) (L' := [.ref 48, .int p0, .null]) (st' := [.ref 48]) ⟨dX12_sheet_92, trivial⟩ rfl ?_
          refine ms_callvV mB_207 mO_207 (by omega) dX12_sheet_93 mQ_12_338 mC_12_338 mL_204 mO_204 rfl (Nat.le_of_ble_eq_true rfl) (Nat.le_of_ble_eq_true rfl) (gk_48 N) rfl F (fun δ10 F => ?_)
          refine ms_goto mB_207 dX12_sheet_96 (t := 141) rfl ?_
          exact F
      · have F := F.1 c
        refine ms_seq mB_207 mO_207 [(.aload_n 0, 1), (.iconst 0, 1)] (pc' := 36) (L' := [.ref 48, .int p0, .null]) (st' := [.int 0, .ref 48]) ⟨dX12_sheet_34, dX12_sheet_35, trivial⟩ rfl ?_
        refine ms_callvI mB_207 mO_207 (by omega) dX12_sheet_36 mQ_12_227 mC_12_227 mL_175 mO_175 rfl (Nat.le_of_ble_eq_true rfl) (Nat.le_of_ble_eq_true rfl) (gk_48 N) rfl F (fun r12 δ11 F => ?_)
        refine ms_seq mB_207 mO_207 [(.istore_n 2, 1)] (pc' := 40) (L' := [.ref 48, .int p0, .int r12]) (st' := []) ⟨dX12_sheet_39, trivial⟩ rfl ?_
        exact F
    · have F := F.1 c
      refine ms_seq mB_207 mO_207 [(.bipush (-3), 2)] (pc' := 24) (L' := [.ref 48, .int p0, .null]) (st' := [.int (-3)]) ⟨dX12_sheet_22, trivial⟩ rfl ?_
      exact ms_iret mB_207 dX12_sheet_24 mR_207 ⟨_, rfl, rfl, F⟩
  · have F := F.1 c
    refine ms_seq mB_207 mO_207 [(.bipush (-6), 2)] (pc' := 9) (L' := [.ref 48, .int p0, .null]) (st' := [.int (-6)]) ⟨dX12_sheet_7, trivial⟩ rfl ?_
    exact ms_iret mB_207 dX12_sheet_9 mR_207 ⟨_, rfl, rfl, F⟩
set_option maxRecDepth 100000 in
theorem q12_sheet_141 {N d : Nat} (hd : 5 ≤ d) {l1 : Int32} {δ : mi_D} {Q : Int32 → mi_D → Prop} (F : ((4000 < (δ.1 48 36) → (∀ δ1 : mi_D, δ1 = mi_setI δ 48 36 0 → Q (-13) δ1)) ∧ (¬ 4000 < (δ.1 48 36) → Q (δ.1 48 36) δ))) : mi_wI N d 207 141 [.ref 48, .int l1, .null] [] δ Q := by
  unfold mi_wI
  refine ms_seq mB_207 mO_207 [(.aload_n 0, 1)] (pc' := 142) (L' := [.ref 48, .int l1, .null]) (st' := [.ref 48]) ⟨dX12_sheet_141, trivial⟩ rfl ?_
  refine ms_getI mB_207 mO_207 dX12_sheet_142 mF_12_253 (gk_48 N) (Or.inl rfl) ?_
  refine ms_seq mB_207 mO_207 [(.sipush 4000, 3)] (pc' := 148) (L' := [.ref 48, .int l1, .null]) (st' := [.int 4000, .int (δ.1 48 36)]) ⟨dX12_sheet_145, trivial⟩ rfl ?_
  refine ms_icmp_le mB_207 dX12_sheet_148 (t := 159) rfl (fun c => ?_) (fun c => ?_)
  · have F := F.2 c
    refine ms_seq mB_207 mO_207 [(.aload_n 0, 1)] (pc' := 160) (L' := [.ref 48, .int l1, .null]) (st' := [.ref 48]) ⟨dX12_sheet_159, trivial⟩ rfl ?_
    refine ms_getI mB_207 mO_207 dX12_sheet_160 mF_12_253 (gk_48 N) (Or.inl rfl) ?_
    exact ms_iret mB_207 dX12_sheet_163 mR_207 ⟨_, rfl, rfl, F⟩
  · have F := F.1 c
    refine ms_seq mB_207 mO_207 [(.aload_n 0, 1), (.iconst 0, 1)] (pc' := 153) (L' := [.ref 48, .int l1, .null]) (st' := [.int 0, .ref 48]) ⟨dX12_sheet_151, dX12_sheet_152, trivial⟩ rfl ?_
    refine ms_putI mB_207 mO_207 dX12_sheet_153 mF_12_253 (gk_48 N) rfl rfl ?_
    refine mr_st (fun δ1 e_δ1 => ?_)
    have F := F δ1 e_δ1
    refine ms_seq mB_207 mO_207 [(.bipush (-13), 2)] (pc' := 158) (L' := [.ref 48, .int l1, .null]) (st' := [.int (-13)]) ⟨dX12_sheet_156, trivial⟩ rfl ?_
    exact ms_iret mB_207 dX12_sheet_158 mR_207 ⟨_, rfl, rfl, F⟩
set_option maxRecDepth 100000 in
theorem q12_sheet_40 {N d : Nat} (hd : 5 ≤ d) {l1 l2 : Int32} {δ : mi_D} {Q : Int32 → mi_D → Prop} (F : ((l2 = (-1) → mi_wI N d 207 141 [.ref 48, .int l1, .int l2] [] δ Q) ∧ (¬ l2 = (-1) → (mi_ix l2 60 = true ∧ (((δ.2.1 52 (Int32.toNatClampNeg l2)) = 0 → (mi_ix l2 60 = true ∧ (((lg_cmp (δ.2.2 55 (Int32.toNatClampNeg l2)) 0) = 0 → mi_wI N d 207 70 [.ref 48, .int l1, .int l2] [] δ Q) ∧ (¬ (lg_cmp (δ.2.2 55 (Int32.toNatClampNeg l2)) 0) = 0 → (mi_wV N (d - 1) 203 0 [.ref 48, .int l2, .null] [] δ (fun δ1 => mi_wI N d 207 70 [.ref 48, .int l1, .int l2] [] δ1 Q)))))) ∧ (¬ (δ.2.1 52 (Int32.toNatClampNeg l2)) = 0 → mi_wI N d 207 70 [.ref 48, .int l1, .int l2] [] δ Q)))))) : mi_wI N d 207 40 [.ref 48, .int l1, .int l2] [] δ Q := by
  unfold mi_wI
  refine ms_seq mB_207 mO_207 [(.iload_n 2, 1), (.iconst (-1), 1)] (pc' := 42) (L' := [.ref 48, .int l1, .int l2]) (st' := [.int (-1), .int l2]) ⟨dX12_sheet_40, dX12_sheet_41, trivial⟩ rfl ?_
  refine ms_icmp_eq mB_207 dX12_sheet_42 (t := 84) rfl (fun c => ?_) (fun c => ?_)
  · have F := F.1 c
    refine ms_goto mB_207 dX12_sheet_84 (t := 141) rfl ?_
    exact F
  · have F := F.2 c
    refine ms_seq mB_207 mO_207 [(.aload_n 0, 1)] (pc' := 46) (L' := [.ref 48, .int l1, .int l2]) (st' := [.ref 48]) ⟨dX12_sheet_45, trivial⟩ rfl ?_
    refine ms_getA mB_207 mO_207 dX12_sheet_46 mF_12_23 (gk_48 N) rfl (b := 52) (gr_48_6 N) ?_
    refine ms_seq mB_207 mO_207 [(.iload_n 2, 1)] (pc' := 50) (L' := [.ref 48, .int l1, .int l2]) (st' := [.int l2, .ref 52]) ⟨dX12_sheet_49, trivial⟩ rfl ?_
    have G := F.1
    have F := F.2
    refine ms_bald mB_207 dX12_sheet_50 (gk_52 N) (by rw [gl_52 N]; exact G) ?_
    refine ms_if_ne mB_207 dX12_sheet_51 (t := 70) rfl (fun c => ?_) (fun c => ?_)
    · have F := F.2 c
      exact F
    · have F := F.1 c
      refine ms_seq mB_207 mO_207 [(.aload_n 0, 1)] (pc' := 55) (L' := [.ref 48, .int l1, .int l2]) (st' := [.ref 48]) ⟨dX12_sheet_54, trivial⟩ rfl ?_
      refine ms_getA mB_207 mO_207 dX12_sheet_55 mF_12_33 (gk_48 N) rfl (b := 55) (gr_48_9 N) ?_
      refine ms_seq mB_207 mO_207 [(.iload_n 2, 1)] (pc' := 59) (L' := [.ref 48, .int l1, .int l2]) (st' := [.int l2, .ref 55]) ⟨dX12_sheet_58, trivial⟩ rfl ?_
      have G := F.1
      have F := F.2
      refine ms_lald mB_207 dX12_sheet_59 (gk_55 N) (by rw [gl_55 N]; exact G) ?_
      refine ms_seq mB_207 mO_207 [(.lconst 0, 1), (.lcmp, 1)] (pc' := 62) (L' := [.ref 48, .int l1, .int l2]) (st' := [.int (lg_cmp (δ.2.2 55 (Int32.toNatClampNeg l2)) 0)]) ⟨dX12_sheet_60, dX12_sheet_61, trivial⟩ rfl ?_
      refine ms_if_eq mB_207 dX12_sheet_62 (t := 70) rfl (fun c => ?_) (fun c => ?_)
      · have F := F.1 c
        exact F
      · have F := F.2 c
        refine ms_seq mB_207 mO_207 [(.aload_n 0, 1), (.iload_n 2, 1)] (pc' := 67) (L' := [.ref 48, .int l1, .int l2]) (st' := [.int l2, .ref 48]) ⟨dX12_sheet_65, dX12_sheet_66, trivial⟩ rfl ?_
        refine ms_callvV mB_207 mO_207 (by omega) dX12_sheet_67 mQ_12_332 mC_12_332 mL_203 mO_203 rfl (Nat.le_of_ble_eq_true rfl) (Nat.le_of_ble_eq_true rfl) (gk_48 N) rfl F (fun δ1 F => ?_)
        exact F
set_option maxRecDepth 100000 in
theorem q12_sheet_141a {N d : Nat} (hd : 5 ≤ d) {l1 l2 : Int32} {δ : mi_D} {Q : Int32 → mi_D → Prop} (F : ((4000 < (δ.1 48 36) → (∀ δ1 : mi_D, δ1 = mi_setI δ 48 36 0 → Q (-13) δ1)) ∧ (¬ 4000 < (δ.1 48 36) → Q (δ.1 48 36) δ))) : mi_wI N d 207 141 [.ref 48, .int l1, .int l2] [] δ Q := by
  unfold mi_wI
  refine ms_seq mB_207 mO_207 [(.aload_n 0, 1)] (pc' := 142) (L' := [.ref 48, .int l1, .int l2]) (st' := [.ref 48]) ⟨dX12_sheet_141, trivial⟩ rfl ?_
  refine ms_getI mB_207 mO_207 dX12_sheet_142 mF_12_253 (gk_48 N) (Or.inl rfl) ?_
  refine ms_seq mB_207 mO_207 [(.sipush 4000, 3)] (pc' := 148) (L' := [.ref 48, .int l1, .int l2]) (st' := [.int 4000, .int (δ.1 48 36)]) ⟨dX12_sheet_145, trivial⟩ rfl ?_
  refine ms_icmp_le mB_207 dX12_sheet_148 (t := 159) rfl (fun c => ?_) (fun c => ?_)
  · have F := F.2 c
    refine ms_seq mB_207 mO_207 [(.aload_n 0, 1)] (pc' := 160) (L' := [.ref 48, .int l1, .int l2]) (st' := [.ref 48]) ⟨dX12_sheet_159, trivial⟩ rfl ?_
    refine ms_getI mB_207 mO_207 dX12_sheet_160 mF_12_253 (gk_48 N) (Or.inl rfl) ?_
    exact ms_iret mB_207 dX12_sheet_163 mR_207 ⟨_, rfl, rfl, F⟩
  · have F := F.1 c
    refine ms_seq mB_207 mO_207 [(.aload_n 0, 1), (.iconst 0, 1)] (pc' := 153) (L' := [.ref 48, .int l1, .int l2]) (st' := [.int 0, .ref 48]) ⟨dX12_sheet_151, dX12_sheet_152, trivial⟩ rfl ?_
    refine ms_putI mB_207 mO_207 dX12_sheet_153 mF_12_253 (gk_48 N) rfl rfl ?_
    refine mr_st (fun δ1 e_δ1 => ?_)
    have F := F δ1 e_δ1
    refine ms_seq mB_207 mO_207 [(.bipush (-13), 2)] (pc' := 158) (L' := [.ref 48, .int l1, .int l2]) (st' := [.int (-13)]) ⟨dX12_sheet_156, trivial⟩ rfl ?_
    exact ms_iret mB_207 dX12_sheet_158 mR_207 ⟨_, rfl, rfl, F⟩
set_option maxRecDepth 100000 in
theorem q12_sheet_70 {N d : Nat} (hd : 5 ≤ d) {l1 l2 : Int32} {δ : mi_D} {Q : Int32 → mi_D → Prop} (F : (mi_ix l2 60 = true ∧ (mi_wI N (d - 1) 175 0 [.ref 48, .int (δ.2.1 49 (Int32.toNatClampNeg l2)), .null, .null] [] δ (fun r2 δ1 => mi_wI N d 207 40 [.ref 48, .int l1, .int r2] [] δ1 Q)))) : mi_wI N d 207 70 [.ref 48, .int l1, .int l2] [] δ Q := by
  unfold mi_wI
  refine ms_seq mB_207 mO_207 [(.aload_n 0, 1), (.aload_n 0, 1)] (pc' := 72) (L' := [.ref 48, .int l1, .int l2]) (st' := [.ref 48, .ref 48]) ⟨dX12_sheet_70, dX12_sheet_71, trivial⟩ rfl ?_
  refine ms_getA mB_207 mO_207 dX12_sheet_72 mF_12_13 (gk_48 N) rfl (b := 49) (gr_48_3 N) ?_
  refine ms_seq mB_207 mO_207 [(.iload_n 2, 1)] (pc' := 76) (L' := [.ref 48, .int l1, .int l2]) (st' := [.int l2, .ref 49, .ref 48]) ⟨dX12_sheet_75, trivial⟩ rfl ?_
  have G := F.1
  have F := F.2
  refine ms_iald mB_207 dX12_sheet_76 (Or.inl (gk_49 N)) (by rw [gl_49 N]; exact G) ?_
  refine ms_callvI mB_207 mO_207 (by omega) dX12_sheet_77 mQ_12_227 mC_12_227 mL_175 mO_175 rfl (Nat.le_of_ble_eq_true rfl) (Nat.le_of_ble_eq_true rfl) (gk_48 N) rfl F (fun r2 δ1 F => ?_)
  refine ms_seq mB_207 mO_207 [(.istore_n 2, 1)] (pc' := 81) (L' := [.ref 48, .int l1, .int r2]) (st' := []) ⟨dX12_sheet_80, trivial⟩ rfl ?_
  refine ms_goto mB_207 dX12_sheet_81 (t := 40) rfl ?_
  exact F
set_option maxRecDepth 100000 in
theorem q12_shown_0 {N d : Nat} (hd : 5 ≤ d) {p0 : Int32} {δ : mi_D} {Q : Int32 → mi_D → Prop} (F : (((δ.1 48 0) = 0 → Q (-6) δ) ∧ (¬ (δ.1 48 0) = 0 → (mi_wI N (d - 1) 148 0 [.long (Int32.toInt64 p0), .null, .long 0, .null, .long (Int32.toInt64 ((δ.1 48 36) - 1)), .null] [] δ (fun r2 δ1 => ((r2 = 0 → Q (-2) δ1) ∧ (¬ r2 = 0 → (mi_ix p0 4000 = true ∧ Q (δ1.2.1 72 (Int32.toNatClampNeg p0)) δ1)))))))) : mi_wI N d 208 0 [.ref 48, .int p0] [] δ Q := by
  unfold mi_wI
  refine ms_seq mB_208 mO_208 [(.aload_n 0, 1)] (pc' := 1) (L' := [.ref 48, .int p0]) (st' := [.ref 48]) ⟨dX12_shown_0, trivial⟩ rfl ?_
  refine ms_getI mB_208 mO_208 dX12_shown_1 mF_12_7 (gk_48 N) (Or.inr rfl) ?_
  refine ms_if_ne mB_208 dX12_shown_4 (t := 10) rfl (fun c => ?_) (fun c => ?_)
  · have F := F.2 c
    refine ms_seq mB_208 mO_208 [(.iload_n 1, 1), (.i2l, 1), (.lconst 0, 1), (.aload_n 0, 1)] (pc' := 14) (L' := [.ref 48, .int p0]) (st' := [.ref 48, .long 0, .long (Int32.toInt64 p0)]) ⟨dX12_shown_10, dX12_shown_11, dX12_shown_12, dX12_shown_13, trivial⟩ rfl ?_
    refine ms_getI mB_208 mO_208 dX12_shown_14 mF_12_253 (gk_48 N) (Or.inl rfl) ?_
    refine ms_seq mB_208 mO_208 [(.iconst 1, 1), (.isub, 1), (.i2l, 1)] (pc' := 20) (L' := [.ref 48, .int p0]) (st' := [.long (Int32.toInt64 ((δ.1 48 36) - 1)), .long 0, .long (Int32.toInt64 p0)]) ⟨dX12_shown_17, dX12_shown_18, dX12_shown_19, trivial⟩ rfl ?_
    refine ms_callsI mB_208 mO_208 (by omega) dX12_shown_20 mQ_12_116 mC_12_116 mL_148 (by decide) rfl (Nat.le_of_ble_eq_true rfl) (Nat.le_of_ble_eq_true rfl) rfl F (fun r2 δ1 F => ?_)
    refine ms_if_eq mB_208 dX12_shown_23 (t := 35) rfl (fun c => ?_) (fun c => ?_)
    · have F := F.1 c
      refine ms_seq mB_208 mO_208 [(.bipush (-2), 2)] (pc' := 37) (L' := [.ref 48, .int p0]) (st' := [.int (-2)]) ⟨dX12_shown_35, trivial⟩ rfl ?_
      exact ms_iret mB_208 dX12_shown_37 mR_208 ⟨_, rfl, rfl, F⟩
    · have F := F.2 c
      refine ms_seq mB_208 mO_208 [(.aload_n 0, 1)] (pc' := 27) (L' := [.ref 48, .int p0]) (st' := [.ref 48]) ⟨dX12_shown_26, trivial⟩ rfl ?_
      refine ms_getA mB_208 mO_208 dX12_shown_27 mF_12_89 (gk_48 N) rfl (b := 72) (gr_48_37 N) ?_
      refine ms_seq mB_208 mO_208 [(.iload_n 1, 1)] (pc' := 31) (L' := [.ref 48, .int p0]) (st' := [.int p0, .ref 72]) ⟨dX12_shown_30, trivial⟩ rfl ?_
      have G := F.1
      have F := F.2
      refine ms_iald mB_208 dX12_shown_31 (Or.inl (gk_72 N)) (by rw [gl_72 N]; exact G) ?_
      refine ms_goto mB_208 dX12_shown_32 (t := 37) rfl ?_
      exact ms_iret mB_208 dX12_shown_37 mR_208 ⟨_, rfl, rfl, F⟩
  · have F := F.1 c
    refine ms_seq mB_208 mO_208 [(.bipush (-6), 2)] (pc' := 9) (L' := [.ref 48, .int p0]) (st' := [.int (-6)]) ⟨dX12_shown_7, trivial⟩ rfl ?_
    exact ms_iret mB_208 dX12_shown_9 mR_208 ⟨_, rfl, rfl, F⟩
set_option maxRecDepth 100000 in
theorem q12_count_0 {N d : Nat} (hd : 5 ≤ d) {p0 : Int32} {δ : mi_D} {Q : Int32 → mi_D → Prop} (F : (mi_wI N (d - 1) 148 0 [.long (Int32.toInt64 p0), .null, .long 5, .null, .long 7, .null] [] δ (fun r2 δ1 => ((r2 = 0 → (mi_wI N (d - 1) 148 0 [.long (Int32.toInt64 p0), .null, .long 9, .null, .long 10, .null] [] δ1 (fun r4 δ3 => ((r4 = 0 → mi_wI N d 209 33 [.ref 48, .int p0, .null] [.int 0] δ3 Q) ∧ (¬ r4 = 0 → mi_wI N d 209 28 [.ref 48, .int p0, .null] [] δ3 Q))))) ∧ (¬ r2 = 0 → mi_wI N d 209 28 [.ref 48, .int p0, .null] [] δ1 Q))))) : mi_wI N d 209 0 [.ref 48, .int p0, .null] [] δ Q := by
  unfold mi_wI
  refine ms_seq mB_209 mO_209 [(.iload_n 1, 1), (.i2l, 1), (.ldc2_w 344, 3), (.ldc2_w 346, 3)] (pc' := 8) (L' := [.ref 48, .int p0, .null]) (st' := [.long 7, .long 5, .long (Int32.toInt64 p0)]) ⟨dX12_count_0, dX12_count_1, dX12_count_2, dX12_count_5, trivial⟩ rfl ?_
  refine ms_callsI mB_209 mO_209 (by omega) dX12_count_8 mQ_12_116 mC_12_116 mL_148 (by decide) rfl (Nat.le_of_ble_eq_true rfl) (Nat.le_of_ble_eq_true rfl) rfl F (fun r2 δ1 F => ?_)
  refine ms_if_ne mB_209 dX12_count_11 (t := 28) rfl (fun c => ?_) (fun c => ?_)
  · have F := F.2 c
    exact F
  · have F := F.1 c
    refine ms_seq mB_209 mO_209 [(.iload_n 1, 1), (.i2l, 1), (.ldc2_w 348, 3), (.ldc2_w 327, 3)] (pc' := 22) (L' := [.ref 48, .int p0, .null]) (st' := [.long 10, .long 9, .long (Int32.toInt64 p0)]) ⟨dX12_count_14, dX12_count_15, dX12_count_16, dX12_count_19, trivial⟩ rfl ?_
    refine ms_callsI mB_209 mO_209 (by omega) dX12_count_22 mQ_12_116 mC_12_116 mL_148 (by decide) rfl (Nat.le_of_ble_eq_true rfl) (Nat.le_of_ble_eq_true rfl) rfl F (fun r4 δ3 F => ?_)
    refine ms_if_eq mB_209 dX12_count_25 (t := 32) rfl (fun c => ?_) (fun c => ?_)
    · have F := F.1 c
      refine ms_seq mB_209 mO_209 [(.iconst 0, 1)] (pc' := 33) (L' := [.ref 48, .int p0, .null]) (st' := [.int 0]) ⟨dX12_count_32, trivial⟩ rfl ?_
      exact F
    · have F := F.2 c
      exact F
set_option maxRecDepth 100000 in
theorem q12_count_28 {N d : Nat} (hd : 5 ≤ d) {l1 : Int32} {δ : mi_D} {Q : Int32 → mi_D → Prop} (F : mi_wI N d 209 33 [.ref 48, .int l1, .null] [.int 1] δ Q) : mi_wI N d 209 28 [.ref 48, .int l1, .null] [] δ Q := by
  unfold mi_wI
  refine ms_seq mB_209 mO_209 [(.iconst 1, 1)] (pc' := 29) (L' := [.ref 48, .int l1, .null]) (st' := [.int 1]) ⟨dX12_count_28, trivial⟩ rfl ?_
  refine ms_goto mB_209 dX12_count_29 (t := 33) rfl ?_
  exact F
set_option maxRecDepth 100000 in
theorem q12_count_33 {N d : Nat} (hd : 5 ≤ d) {l1 s0 : Int32} {δ : mi_D} {Q : Int32 → mi_D → Prop} (F : (mi_wI N (d - 1) 148 0 [.long (Int32.toInt64 l1), .null, .long 0, .null, .long 10, .null] [] δ (fun r2 δ1 => ((r2 = 0 → Q (-3) δ1) ∧ (¬ r2 = 0 → (((δ1.1 48 0) = 0 → ((s0 = 0 → Q (-6) δ1) ∧ (¬ s0 = 0 → mi_wI N d 209 63 [.ref 48, .int l1, .int s0] [] δ1 Q))) ∧ (¬ (δ1.1 48 0) = 0 → mi_wI N d 209 63 [.ref 48, .int l1, .int s0] [] δ1 Q))))))) : mi_wI N d 209 33 [.ref 48, .int l1, .null] [.int s0] δ Q := by
  unfold mi_wI
  refine ms_seq mB_209 mO_209 [(.istore_n 2, 1), (.iload_n 1, 1), (.i2l, 1), (.lconst 0, 1), (.ldc2_w 327, 3)] (pc' := 40) (L' := [.ref 48, .int l1, .int s0]) (st' := [.long 10, .long 0, .long (Int32.toInt64 l1)]) ⟨dX12_count_33, dX12_count_34, dX12_count_35, dX12_count_36, dX12_count_37, trivial⟩ rfl ?_
  refine ms_callsI mB_209 mO_209 (by omega) dX12_count_40 mQ_12_116 mC_12_116 mL_148 (by decide) rfl (Nat.le_of_ble_eq_true rfl) (Nat.le_of_ble_eq_true rfl) rfl F (fun r2 δ1 F => ?_)
  refine ms_if_ne mB_209 dX12_count_43 (t := 49) rfl (fun c => ?_) (fun c => ?_)
  · have F := F.2 c
    refine ms_seq mB_209 mO_209 [(.aload_n 0, 1)] (pc' := 50) (L' := [.ref 48, .int l1, .int s0]) (st' := [.ref 48]) ⟨dX12_count_49, trivial⟩ rfl ?_
    refine ms_getI mB_209 mO_209 dX12_count_50 mF_12_7 (gk_48 N) (Or.inr rfl) ?_
    refine ms_if_ne mB_209 dX12_count_53 (t := 63) rfl (fun c => ?_) (fun c => ?_)
    · have F := F.2 c
      exact F
    · have F := F.1 c
      refine ms_seq mB_209 mO_209 [(.iload_n 2, 1)] (pc' := 57) (L' := [.ref 48, .int l1, .int s0]) (st' := [.int s0]) ⟨dX12_count_56, trivial⟩ rfl ?_
      refine ms_if_ne mB_209 dX12_count_57 (t := 63) rfl (fun c => ?_) (fun c => ?_)
      · have F := F.2 c
        exact F
      · have F := F.1 c
        refine ms_seq mB_209 mO_209 [(.bipush (-6), 2)] (pc' := 62) (L' := [.ref 48, .int l1, .int s0]) (st' := [.int (-6)]) ⟨dX12_count_60, trivial⟩ rfl ?_
        exact ms_iret mB_209 dX12_count_62 mR_209 ⟨_, rfl, rfl, F⟩
  · have F := F.1 c
    refine ms_seq mB_209 mO_209 [(.bipush (-3), 2)] (pc' := 48) (L' := [.ref 48, .int l1, .int s0]) (st' := [.int (-3)]) ⟨dX12_count_46, trivial⟩ rfl ?_
    exact ms_iret mB_209 dX12_count_48 mR_209 ⟨_, rfl, rfl, F⟩
set_option maxRecDepth 100000 in
theorem q12_count_63 {N d : Nat} (hd : 5 ≤ d) {l1 l2 : Int32} {δ : mi_D} {Q : Int32 → mi_D → Prop} (F : ((l1 = 0 → Q (δ.1 48 2) δ) ∧ (l1 = 1 → Q (δ.1 48 11) δ) ∧ (l1 = 2 → Q (δ.1 48 12) δ) ∧ (l1 = 3 → Q (δ.1 48 15) δ) ∧ (l1 = 4 → Q (δ.1 48 24) δ) ∧ (l1 = 5 → Q (δ.1 48 30) δ) ∧ (l1 = 6 → Q (δ.1 48 31) δ) ∧ (l1 = 7 → Q (δ.1 48 32) δ) ∧ (l1 = 8 → Q (δ.1 48 10) δ) ∧ (l1 = 9 → Q (δ.1 48 36) δ) ∧ (¬ l1 = 0 → ¬ l1 = 1 → ¬ l1 = 2 → ¬ l1 = 3 → ¬ l1 = 4 → ¬ l1 = 5 → ¬ l1 = 6 → ¬ l1 = 7 → ¬ l1 = 8 → ¬ l1 = 9 → (((δ.1 48 0) = 0 → Q 0 δ) ∧ (¬ (δ.1 48 0) = 0 → Q 1 δ))))) : mi_wI N d 209 63 [.ref 48, .int l1, .int l2] [] δ Q := by
  unfold mi_wI
  refine ms_seq mB_209 mO_209 [(.iload_n 1, 1)] (pc' := 64) (L' := [.ref 48, .int l1, .int l2]) (st' := [.int l1]) ⟨dX12_count_63, trivial⟩ rfl ?_
  by_cases n0 : l1 = 0
  · refine ms_pure mB_209 mO_209 (pc' := 120) (L' := [.ref 48, .int l1, .int l2]) (st' := []) dX12_count_64 (by rw [n0]; rfl) ?_
    have F := F.1 n0
    refine ms_seq mB_209 mO_209 [(.aload_n 0, 1)] (pc' := 121) (L' := [.ref 48, .int l1, .int l2]) (st' := [.ref 48]) ⟨dX12_count_120, trivial⟩ rfl ?_
    refine ms_getI mB_209 mO_209 dX12_count_121 mF_12_113 (gk_48 N) (Or.inl rfl) ?_
    exact ms_iret mB_209 dX12_count_124 mR_209 ⟨_, rfl, rfl, F⟩
  have F := F.2
  by_cases n1 : l1 = 1
  · refine ms_pure mB_209 mO_209 (pc' := 125) (L' := [.ref 48, .int l1, .int l2]) (st' := []) dX12_count_64 (by rw [n1]; rfl) ?_
    have F := F.1 n1
    refine ms_seq mB_209 mO_209 [(.aload_n 0, 1)] (pc' := 126) (L' := [.ref 48, .int l1, .int l2]) (st' := [.ref 48]) ⟨dX12_count_125, trivial⟩ rfl ?_
    refine ms_getI mB_209 mO_209 dX12_count_126 mF_12_173 (gk_48 N) (Or.inl rfl) ?_
    exact ms_iret mB_209 dX12_count_129 mR_209 ⟨_, rfl, rfl, F⟩
  have F := F.2
  by_cases n2 : l1 = 2
  · refine ms_pure mB_209 mO_209 (pc' := 130) (L' := [.ref 48, .int l1, .int l2]) (st' := []) dX12_count_64 (by rw [n2]; rfl) ?_
    have F := F.1 n2
    refine ms_seq mB_209 mO_209 [(.aload_n 0, 1)] (pc' := 131) (L' := [.ref 48, .int l1, .int l2]) (st' := [.ref 48]) ⟨dX12_count_130, trivial⟩ rfl ?_
    refine ms_getI mB_209 mO_209 dX12_count_131 mF_12_197 (gk_48 N) (Or.inl rfl) ?_
    exact ms_iret mB_209 dX12_count_134 mR_209 ⟨_, rfl, rfl, F⟩
  have F := F.2
  by_cases n3 : l1 = 3
  · refine ms_pure mB_209 mO_209 (pc' := 135) (L' := [.ref 48, .int l1, .int l2]) (st' := []) dX12_count_64 (by rw [n3]; rfl) ?_
    have F := F.1 n3
    refine ms_seq mB_209 mO_209 [(.aload_n 0, 1)] (pc' := 136) (L' := [.ref 48, .int l1, .int l2]) (st' := [.ref 48]) ⟨dX12_count_135, trivial⟩ rfl ?_
    refine ms_getI mB_209 mO_209 dX12_count_136 mF_12_203 (gk_48 N) (Or.inl rfl) ?_
    exact ms_iret mB_209 dX12_count_139 mR_209 ⟨_, rfl, rfl, F⟩
  have F := F.2
  by_cases n4 : l1 = 4
  · refine ms_pure mB_209 mO_209 (pc' := 140) (L' := [.ref 48, .int l1, .int l2]) (st' := []) dX12_count_64 (by rw [n4]; rfl) ?_
    have F := F.1 n4
    refine ms_seq mB_209 mO_209 [(.aload_n 0, 1)] (pc' := 141) (L' := [.ref 48, .int l1, .int l2]) (st' := [.ref 48]) ⟨dX12_count_140, trivial⟩ rfl ?_
    refine ms_getI mB_209 mO_209 dX12_count_141 mF_12_184 (gk_48 N) (Or.inl rfl) ?_
    exact ms_iret mB_209 dX12_count_144 mR_209 ⟨_, rfl, rfl, F⟩
  have F := F.2
  by_cases n5 : l1 = 5
  · refine ms_pure mB_209 mO_209 (pc' := 145) (L' := [.ref 48, .int l1, .int l2]) (st' := []) dX12_count_64 (by rw [n5]; rfl) ?_
    have F := F.1 n5
    refine ms_seq mB_209 mO_209 [(.aload_n 0, 1)] (pc' := 146) (L' := [.ref 48, .int l1, .int l2]) (st' := [.ref 48]) ⟨dX12_count_145, trivial⟩ rfl ?_
    refine ms_getI mB_209 mO_209 dX12_count_146 mF_12_132 (gk_48 N) (Or.inl rfl) ?_
    exact ms_iret mB_209 dX12_count_149 mR_209 ⟨_, rfl, rfl, F⟩
  have F := F.2
  by_cases n6 : l1 = 6
  · refine ms_pure mB_209 mO_209 (pc' := 150) (L' := [.ref 48, .int l1, .int l2]) (st' := []) dX12_count_64 (by rw [n6]; rfl) ?_
    have F := F.1 n6
    refine ms_seq mB_209 mO_209 [(.aload_n 0, 1)] (pc' := 151) (L' := [.ref 48, .int l1, .int l2]) (st' := [.ref 48]) ⟨dX12_count_150, trivial⟩ rfl ?_
    refine ms_getI mB_209 mO_209 dX12_count_151 mF_12_248 (gk_48 N) (Or.inl rfl) ?_
    exact ms_iret mB_209 dX12_count_154 mR_209 ⟨_, rfl, rfl, F⟩
  have F := F.2
  by_cases n7 : l1 = 7
  · refine ms_pure mB_209 mO_209 (pc' := 155) (L' := [.ref 48, .int l1, .int l2]) (st' := []) dX12_count_64 (by rw [n7]; rfl) ?_
    have F := F.1 n7
    refine ms_seq mB_209 mO_209 [(.aload_n 0, 1)] (pc' := 156) (L' := [.ref 48, .int l1, .int l2]) (st' := [.ref 48]) ⟨dX12_count_155, trivial⟩ rfl ?_
    refine ms_getI mB_209 mO_209 dX12_count_156 mF_12_137 (gk_48 N) (Or.inl rfl) ?_
    exact ms_iret mB_209 dX12_count_159 mR_209 ⟨_, rfl, rfl, F⟩
  have F := F.2
  by_cases n8 : l1 = 8
  · refine ms_pure mB_209 mO_209 (pc' := 160) (L' := [.ref 48, .int l1, .int l2]) (st' := []) dX12_count_64 (by rw [n8]; rfl) ?_
    have F := F.1 n8
    refine ms_seq mB_209 mO_209 [(.aload_n 0, 1)] (pc' := 161) (L' := [.ref 48, .int l1, .int l2]) (st' := [.ref 48]) ⟨dX12_count_160, trivial⟩ rfl ?_
    refine ms_getI mB_209 mO_209 dX12_count_161 mF_12_37 (gk_48 N) (Or.inl rfl) ?_
    exact ms_iret mB_209 dX12_count_164 mR_209 ⟨_, rfl, rfl, F⟩
  have F := F.2
  by_cases n9 : l1 = 9
  · refine ms_pure mB_209 mO_209 (pc' := 165) (L' := [.ref 48, .int l1, .int l2]) (st' := []) dX12_count_64 (by rw [n9]; rfl) ?_
    have F := F.1 n9
    refine ms_seq mB_209 mO_209 [(.aload_n 0, 1)] (pc' := 166) (L' := [.ref 48, .int l1, .int l2]) (st' := [.ref 48]) ⟨dX12_count_165, trivial⟩ rfl ?_
    refine ms_getI mB_209 mO_209 dX12_count_166 mF_12_253 (gk_48 N) (Or.inl rfl) ?_
    exact ms_iret mB_209 dX12_count_169 mR_209 ⟨_, rfl, rfl, F⟩
  have F := F.2
  refine ms_swd mB_209 dX12_count_64 (t := 170) (by have a0 := lv_neT n0 (a := 0) rfl; have a1 := lv_neT n1 (a := 1) rfl; have a2 := lv_neT n2 (a := 2) rfl; have a3 := lv_neT n3 (a := 3) rfl; have a4 := lv_neT n4 (a := 4) rfl; have a5 := lv_neT n5 (a := 5) rfl; have a6 := lv_neT n6 (a := 6) rfl; have a7 := lv_neT n7 (a := 7) rfl; have a8 := lv_neT n8 (a := 8) rfl; have a9 := lv_neT n9 (a := 9) rfl; omega) rfl ?_
  have F := F n0
  have F := F n1
  have F := F n2
  have F := F n3
  have F := F n4
  have F := F n5
  have F := F n6
  have F := F n7
  have F := F n8
  have F := F n9
  refine ms_seq mB_209 mO_209 [(.aload_n 0, 1)] (pc' := 171) (L' := [.ref 48, .int l1, .int l2]) (st' := [.ref 48]) ⟨dX12_count_170, trivial⟩ rfl ?_
  refine ms_getI mB_209 mO_209 dX12_count_171 mF_12_7 (gk_48 N) (Or.inr rfl) ?_
  refine ms_if_eq mB_209 dX12_count_174 (t := 181) rfl (fun c => ?_) (fun c => ?_)
  · have F := F.1 c
    refine ms_seq mB_209 mO_209 [(.iconst 0, 1)] (pc' := 182) (L' := [.ref 48, .int l1, .int l2]) (st' := [.int 0]) ⟨dX12_count_181, trivial⟩ rfl ?_
    exact ms_iret mB_209 dX12_count_182 mR_209 ⟨_, rfl, rfl, F⟩
  · have F := F.2 c
    refine ms_seq mB_209 mO_209 [(.iconst 1, 1)] (pc' := 178) (L' := [.ref 48, .int l1, .int l2]) (st' := [.int 1]) ⟨dX12_count_177, trivial⟩ rfl ?_
    refine ms_goto mB_209 dX12_count_178 (t := 182) rfl ?_
    exact ms_iret mB_209 dX12_count_182 mR_209 ⟨_, rfl, rfl, F⟩
