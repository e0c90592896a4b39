set_option maxRecDepth 100000 in
theorem q9_clear_0 {N d : Nat} (hd : 5 ≤ d) {δ : mi_D} {Q : mi_D → Prop} (F : (∀ δ1 : mi_D, δ1 = mi_setI δ 41 3 0 → Q δ1)) : mi_wV N d 97 0 [.ref 41] [] δ Q := by
  unfold mi_wV
  refine ms_seq mB_97 mO_97 [(.aload_n 0, 1), (.iconst 0, 1)] (pc' := 2) (L' := [.ref 41]) (st' := [.int 0, .ref 41]) ⟨dX9_clear_0, dX9_clear_1, trivial⟩ rfl ?_
  refine ms_putI mB_97 mO_97 dX9_clear_2 mF_9_30 (gk_41 N) rfl rfl ?_
  refine mr_st (fun δ1 e_δ1 => ?_)
  have F := F δ1 e_δ1
  exact ms_vret mB_97 dX9_clear_5 mR_97 ⟨rfl, rfl, F⟩
set_option maxRecDepth 100000 in
theorem q9_add_0 {N d : Nat} (hd : 5 ≤ d) {p0 : Int32} {δ : mi_D} {Q : mi_D → Prop} (F : (∀ δ1 : mi_D, δ1 = mi_pt δ 43 7 (δ.1 41 3) p0 → (∀ δ2 : mi_D, δ2 = mi_setI δ1 41 3 ((δ1.1 41 3) + 1) → Q δ2))) : mi_wV N d 98 0 [.ref 41, .int p0] [] δ Q := by
  unfold mi_wV
  refine ms_seq mB_98 mO_98 [(.aload_n 0, 1)] (pc' := 1) (L' := [.ref 41, .int p0]) (st' := [.ref 41]) ⟨dX9_add_0, trivial⟩ rfl ?_
  refine ms_getR mB_98 mO_98 dX9_add_1 mF_9_23 (gk_41 N) rfl (b := 43) (gr_41_1 N) ?_
  refine ms_seq mB_98 mO_98 [(.aload_n 0, 1)] (pc' := 5) (L' := [.ref 41, .int p0]) (st' := [.ref 41, .ref 43]) ⟨dX9_add_4, trivial⟩ rfl ?_
  refine ms_getI mB_98 mO_98 dX9_add_5 mF_9_30 (gk_41 N) (Or.inl rfl) ?_
  refine ms_seq mB_98 mO_98 [(.iload_n 1, 1)] (pc' := 9) (L' := [.ref 41, .int p0]) (st' := [.int p0, .int (δ.1 41 3), .ref 43]) ⟨dX9_add_8, trivial⟩ rfl ?_
  refine ms_put mB_98 mO_98 (lim := 7) hd dX9_add_9 mQ_9_34 (Nat.le_of_ble_eq_true rfl) (gk_43 N) (gl_43 N) ?_
  refine mr_st (fun δ1 e_δ1 => ?_)
  have F := F δ1 e_δ1
  refine ms_seq mB_98 mO_98 [(.aload_n 0, 1), (.dup, 1)] (pc' := 14) (L' := [.ref 41, .int p0]) (st' := [.ref 41, .ref 41]) ⟨dX9_add_12, dX9_add_13, trivial⟩ rfl ?_
  refine ms_getI mB_98 mO_98 dX9_add_14 mF_9_30 (gk_41 N) (Or.inl rfl) ?_
  refine ms_seq mB_98 mO_98 [(.iconst 1, 1), (.iadd, 1)] (pc' := 19) (L' := [.ref 41, .int p0]) (st' := [.int ((δ1.1 41 3) + 1), .ref 41]) ⟨dX9_add_17, dX9_add_18, trivial⟩ rfl ?_
  refine ms_putI mB_98 mO_98 dX9_add_19 mF_9_30 (gk_41 N) rfl rfl ?_
  refine mr_st (fun δ2 e_δ2 => ?_)
  have F := F δ2 e_δ2
  exact ms_vret mB_98 dX9_add_22 mR_98 ⟨rfl, rfl, F⟩
set_option maxRecDepth 100000 in
theorem q9_divide_0 {N d : Nat} (hd : 5 ≤ d) {p0 : Int64} {δ : mi_D} {Q : Int32 → mi_D → Prop} (F : mi_wI N d 99 5 [.ref 41, .long p0, .null, .long 0, .null, .int 0, .null, .null, .null, .null] [] δ Q) : mi_wI N d 99 0 [.ref 41, .long p0, .null, .null, .null, .null, .null, .null, .null, .null] [] δ Q := by
  unfold mi_wI
  refine ms_seq mB_99 mO_99 [(.lconst 0, 1), (.lstore_n 3, 1), (.iconst 0, 1), (.istore 5, 2)] (pc' := 5) (L' := [.ref 41, .long p0, .null, .long 0, .null, .int 0, .null, .null, .null, .null]) (st' := []) ⟨dX9_divide_0, dX9_divide_1, dX9_divide_2, dX9_divide_3, trivial⟩ rfl ?_
  exact F
set_option maxRecDepth 100000 in
theorem q9_divide_5 {N d : Nat} (hd : 5 ≤ d) {l5 : Int32} {l1 l3 : Int64} {δ : mi_D} {Q : Int32 → mi_D → Prop} (F : ((l5 < (δ.1 41 3) → (∀ x1 : Int64, x1 = (l3 + (Int32.toInt64 (mi_at δ 43 l5))) → mi_wI N d 99 5 [.ref 41, .long l1, .null, .long x1, .null, .int (l5 + 1), .null, .null, .null, .null] [] δ Q)) ∧ (¬ l5 < (δ.1 41 3) → ((0 < (lg_cmp l3 0) → mi_wI N d 99 47 [.ref 41, .long l1, .null, .long l3, .null, .long l1, .null, .int 0, .null, .null] [] δ Q) ∧ (¬ 0 < (lg_cmp l3 0) → Q 0 δ))))) : mi_wI N d 99 5 [.ref 41, .long l1, .null, .long l3, .null, .int l5, .null, .null, .null, .null] [] δ Q := by
  unfold mi_wI
  refine ms_seq mB_99 mO_99 [(.iload 5, 2), (.aload_n 0, 1)] (pc' := 8) (L' := [.ref 41, .long l1, .null, .long l3, .null, .int l5, .null, .null, .null, .null]) (st' := [.ref 41, .int l5]) ⟨dX9_divide_5, dX9_divide_7, trivial⟩ rfl ?_
  refine ms_getI mB_99 mO_99 dX9_divide_8 mF_9_30 (gk_41 N) (Or.inl rfl) ?_
  refine ms_icmp_ge mB_99 dX9_divide_11 (t := 33) rfl (fun c => ?_) (fun c => ?_)
  · have F := F.2 c
    refine ms_seq mB_99 mO_99 [(.lload_n 3, 1), (.lconst 0, 1), (.lcmp, 1)] (pc' := 36) (L' := [.ref 41, .long l1, .null, .long l3, .null, .int l5, .null, .null, .null, .null]) (st' := [.int (lg_cmp l3 0)]) ⟨dX9_divide_33, dX9_divide_34, dX9_divide_35, trivial⟩ rfl ?_
    refine ms_if_gt mB_99 dX9_divide_36 (t := 41) rfl (fun c => ?_) (fun c => ?_)
    · have F := F.1 c
      refine ms_seq mB_99 mO_99 [(.lload_n 1, 1), (.lstore 5, 2), (.iconst 0, 1), (.istore 7, 2)] (pc' := 47) (L' := [.ref 41, .long l1, .null, .long l3, .null, .long l1, .null, .int 0, .null, .null]) (st' := []) ⟨dX9_divide_41, dX9_divide_42, dX9_divide_44, dX9_divide_45, trivial⟩ rfl ?_
      exact F
    · have F := F.2 c
      refine ms_seq mB_99 mO_99 [(.iconst 0, 1)] (pc' := 40) (L' := [.ref 41, .long l1, .null, .long l3, .null, .int l5, .null, .null, .null, .null]) (st' := [.int 0]) ⟨dX9_divide_39, trivial⟩ rfl ?_
      exact ms_zret mB_99 dX9_divide_40 mR_99 (by decide) ⟨_, rfl, rfl, F⟩
  · have F := F.1 c
    refine ms_seq mB_99 mO_99 [(.lload_n 3, 1), (.aload_n 0, 1)] (pc' := 16) (L' := [.ref 41, .long l1, .null, .long l3, .null, .int l5, .null, .null, .null, .null]) (st' := [.ref 41, .long l3]) ⟨dX9_divide_14, dX9_divide_15, trivial⟩ rfl ?_
    refine ms_getR mB_99 mO_99 dX9_divide_16 mF_9_23 (gk_41 N) rfl (b := 43) (gr_41_1 N) ?_
    refine ms_seq mB_99 mO_99 [(.iload 5, 2)] (pc' := 21) (L' := [.ref 41, .long l1, .null, .long l3, .null, .int l5, .null, .null, .null, .null]) (st' := [.int l5, .ref 43, .long l3]) ⟨dX9_divide_19, trivial⟩ rfl ?_
    refine ms_at mB_99 mO_99 hd dX9_divide_21 mQ_9_38 (Nat.le_of_ble_eq_true rfl) (gk_43 N) (mi_ne (gl_43 N)) ?_
    refine ms_seq mB_99 mO_99 [(.i2l, 1), (.ladd, 1)] (pc' := 26) (L' := [.ref 41, .long l1, .null, .long l3, .null, .int l5, .null, .null, .null, .null]) (st' := [.long (l3 + (Int32.toInt64 (mi_at δ 43 l5)))]) ⟨dX9_divide_24, dX9_divide_25, trivial⟩ rfl ?_
    refine mr_topl (fun x1 e_x1 => ?_)
    have F := F x1 e_x1
    refine ms_seq mB_99 mO_99 [(.lstore_n 3, 1), (.iinc 5 1, 3)] (pc' := 30) (L' := [.ref 41, .long l1, .null, .long x1, .null, .int (l5 + 1), .null, .null, .null, .null]) (st' := []) ⟨dX9_divide_26, dX9_divide_27, trivial⟩ rfl ?_
    refine ms_goto mB_99 dX9_divide_30 (t := 5) rfl ?_
    exact F
set_option maxRecDepth 100000 in
theorem q9_divide_47 {N d : Nat} (hd : 5 ≤ d) {l7 : Int32} {l1 l3 l5 : Int64} {δ : mi_D} {Q : Int32 → mi_D → Prop} (F : ((l7 < (δ.1 41 3) → (∀ x2 : Int64, x2 = (l1 * (Int32.toInt64 (mi_at δ 43 l7))) → (¬ l3 = 0 ∧ (∀ δ3 : mi_D, δ3 = mi_pl δ 42 7 l7 (x2 / l3) → (¬ l3 = 0 ∧ (∀ δ4 : mi_D, δ4 = mi_pl δ3 44 7 l7 (if 0 < (x2 - x2 / l3 * l3) then (x2 - x2 / l3 * l3) else -(x2 - x2 / l3 * l3)) → (∀ x5 : Int64, x5 = (l5 - (mi_al δ4 42 l7)) → mi_wI N d 99 47 [.ref 41, .long l1, .null, .long l3, .null, .long x5, .null, .int (l7 + 1), .long x2, .null] [] δ4 Q))))))) ∧ (¬ l7 < (δ.1 41 3) → (mi_wV N (d - 1) 100 0 [.ref 41, .long l5, .null, .null, .null, .null, .null, .null, .null] [] δ (fun δ1 => Q 1 δ1))))) : mi_wI N d 99 47 [.ref 41, .long l1, .null, .long l3, .null, .long l5, .null, .int l7, .null, .null] [] δ Q := by
  unfold mi_wI
  refine ms_seq mB_99 mO_99 [(.iload 7, 2), (.aload_n 0, 1)] (pc' := 50) (L' := [.ref 41, .long l1, .null, .long l3, .null, .long l5, .null, .int l7, .null, .null]) (st' := [.ref 41, .int l7]) ⟨dX9_divide_47, dX9_divide_49, trivial⟩ rfl ?_
  refine ms_getI mB_99 mO_99 dX9_divide_50 mF_9_30 (gk_41 N) (Or.inl rfl) ?_
  refine ms_icmp_ge mB_99 dX9_divide_53 (t := 119) rfl (fun c => ?_) (fun c => ?_)
  · have F := F.2 c
    refine ms_seq mB_99 mO_99 [(.aload_n 0, 1), (.lload 5, 2)] (pc' := 122) (L' := [.ref 41, .long l1, .null, .long l3, .null, .long l5, .null, .int l7, .null, .null]) (st' := [.long l5, .ref 41]) ⟨dX9_divide_119, dX9_divide_120, trivial⟩ rfl ?_
    refine ms_callvV mB_99 mO_99 (by omega) dX9_divide_122 mQ_9_54 mC_9_54 mL_100 mO_100 rfl (Nat.le_of_ble_eq_true rfl) (Nat.le_of_ble_eq_true rfl) (gk_41 N) rfl F (fun δ1 F => ?_)
    refine ms_seq mB_99 mO_99 [(.iconst 1, 1)] (pc' := 126) (L' := [.ref 41, .long l1, .null, .long l3, .null, .long l5, .null, .int l7, .null, .null]) (st' := [.int 1]) ⟨dX9_divide_125, trivial⟩ rfl ?_
    exact ms_zret mB_99 dX9_divide_126 mR_99 (by decide) ⟨_, rfl, rfl, F⟩
  · have F := F.1 c
    refine ms_seq mB_99 mO_99 [(.lload_n 1, 1), (.aload_n 0, 1)] (pc' := 58) (L' := [.ref 41, .long l1, .null, .long l3, .null, .long l5, .null, .int l7, .null, .null]) (st' := [.ref 41, .long l1]) ⟨dX9_divide_56, dX9_divide_57, trivial⟩ rfl ?_
    refine ms_getR mB_99 mO_99 dX9_divide_58 mF_9_23 (gk_41 N) rfl (b := 43) (gr_41_1 N) ?_
    refine ms_seq mB_99 mO_99 [(.iload 7, 2)] (pc' := 63) (L' := [.ref 41, .long l1, .null, .long l3, .null, .long l5, .null, .int l7, .null, .null]) (st' := [.int l7, .ref 43, .long l1]) ⟨dX9_divide_61, trivial⟩ rfl ?_
    refine ms_at mB_99 mO_99 hd dX9_divide_63 mQ_9_38 (Nat.le_of_ble_eq_true rfl) (gk_43 N) (mi_ne (gl_43 N)) ?_
    refine ms_seq mB_99 mO_99 [(.i2l, 1), (.lmul, 1)] (pc' := 68) (L' := [.ref 41, .long l1, .null, .long l3, .null, .long l5, .null, .int l7, .null, .null]) (st' := [.long (l1 * (Int32.toInt64 (mi_at δ 43 l7)))]) ⟨dX9_divide_66, dX9_divide_67, trivial⟩ rfl ?_
    refine mr_topl (fun x2 e_x2 => ?_)
    have F := F x2 e_x2
    refine ms_seq mB_99 mO_99 [(.lstore 8, 2), (.aload_n 0, 1)] (pc' := 71) (L' := [.ref 41, .long l1, .null, .long l3, .null, .long l5, .null, .int l7, .long x2, .null]) (st' := [.ref 41]) ⟨dX9_divide_68, dX9_divide_70, trivial⟩ rfl ?_
    refine ms_getR mB_99 mO_99 dX9_divide_71 mF_9_14 (gk_41 N) rfl (b := 42) (gr_41_0 N) ?_
    refine ms_seq mB_99 mO_99 [(.iload 7, 2), (.lload 8, 2), (.lload_n 3, 1)] (pc' := 79) (L' := [.ref 41, .long l1, .null, .long l3, .null, .long l5, .null, .int l7, .long x2, .null]) (st' := [.long l3, .long x2, .int l7, .ref 42]) ⟨dX9_divide_74, dX9_divide_76, dX9_divide_78, trivial⟩ rfl ?_
    have G := F.1
    have F := F.2
    refine ms_ldiv mB_99 dX9_divide_79 G ?_
    refine ms_pl mB_99 mO_99 (lim := 7) hd dX9_divide_80 mQ_9_42 (Nat.le_of_ble_eq_true rfl) (gk_42 N) (gl_42 N) ?_
    refine mr_st (fun δ3 e_δ3 => ?_)
    have F := F δ3 e_δ3
    refine ms_seq mB_99 mO_99 [(.aload_n 0, 1)] (pc' := 84) (L' := [.ref 41, .long l1, .null, .long l3, .null, .long l5, .null, .int l7, .long x2, .null]) (st' := [.ref 41]) ⟨dX9_divide_83, trivial⟩ rfl ?_
    refine ms_getR mB_99 mO_99 dX9_divide_84 mF_9_27 (gk_41 N) rfl (b := 44) (gr_41_2 N) ?_
    refine ms_seq mB_99 mO_99 [(.iload 7, 2), (.lload 8, 2), (.lload_n 3, 1)] (pc' := 92) (L' := [.ref 41, .long l1, .null, .long l3, .null, .long l5, .null, .int l7, .long x2, .null]) (st' := [.long l3, .long x2, .int l7, .ref 44]) ⟨dX9_divide_87, dX9_divide_89, dX9_divide_91, trivial⟩ rfl ?_
    have G := F.1
    have F := F.2
    refine ms_lrem mB_99 dX9_divide_92 G ?_
    refine ms_abs mB_99 mO_99 hd dX9_divide_93 mQ_9_45 (Nat.le_of_ble_eq_true rfl) ?_
    refine ms_pl mB_99 mO_99 (lim := 7) hd dX9_divide_96 mQ_9_42 (Nat.le_of_ble_eq_true rfl) (gk_44 N) (gl_44 N) ?_
    refine mr_st (fun δ4 e_δ4 => ?_)
    have F := F δ4 e_δ4
    refine ms_seq mB_99 mO_99 [(.lload 5, 2), (.aload_n 0, 1)] (pc' := 102) (L' := [.ref 41, .long l1, .null, .long l3, .null, .long l5, .null, .int l7, .long x2, .null]) (st' := [.ref 41, .long l5]) ⟨dX9_divide_99, dX9_divide_101, trivial⟩ rfl ?_
    refine ms_getR mB_99 mO_99 dX9_divide_102 mF_9_14 (gk_41 N) rfl (b := 42) (gr_41_0 N) ?_
    refine ms_seq mB_99 mO_99 [(.iload 7, 2)] (pc' := 107) (L' := [.ref 41, .long l1, .null, .long l3, .null, .long l5, .null, .int l7, .long x2, .null]) (st' := [.int l7, .ref 42, .long l5]) ⟨dX9_divide_105, trivial⟩ rfl ?_
    refine ms_al mB_99 mO_99 hd dX9_divide_107 mQ_9_51 (Nat.le_of_ble_eq_true rfl) (gk_42 N) (mi_ne (gl_42 N)) ?_
    refine ms_seq mB_99 mO_99 [(.lsub, 1)] (pc' := 111) (L' := [.ref 41, .long l1, .null, .long l3, .null, .long l5, .null, .int l7, .long x2, .null]) (st' := [.long (l5 - (mi_al δ4 42 l7))]) ⟨dX9_divide_110, trivial⟩ rfl ?_
    refine mr_topl (fun x5 e_x5 => ?_)
    have F := F x5 e_x5
    refine ms_seq mB_99 mO_99 [(.lstore 5, 2), (.iinc 7 1, 3)] (pc' := 116) (L' := [.ref 41, .long l1, .null, .long l3, .null, .long x5, .null, .int (l7 + 1), .long x2, .null]) (st' := []) ⟨dX9_divide_111, dX9_divide_113, trivial⟩ rfl ?_
    refine ms_goto mB_99 dX9_divide_116 (t := 47) rfl ?_
    exact F
set_option maxRecDepth 100000 in
theorem q9_divide_47a {N d : Nat} (hd : 5 ≤ d) {l7 : Int32} {l1 l3 l5 l8 : Int64} {δ : mi_D} {Q : Int32 → mi_D → Prop} (F : ((l7 < (δ.1 41 3) → (∀ x2 : Int64, x2 = (l1 * (Int32.toInt64 (mi_at δ 43 l7))) → (¬ l3 = 0 ∧ (∀ δ3 : mi_D, δ3 = mi_pl δ 42 7 l7 (x2 / l3) → (¬ l3 = 0 ∧ (∀ δ4 : mi_D, δ4 = mi_pl δ3 44 7 l7 (if 0 < (x2 - x2 / l3 * l3) then (x2 - x2 / l3 * l3) else -(x2 - x2 / l3 * l3)) → (∀ x5 : Int64, x5 = (l5 - (mi_al δ4 42 l7)) → mi_wI N d 99 47 [.ref 41, .long l1, .null, .long l3, .null, .long x5, .null, .int (l7 + 1), .long x2, .null] [] δ4 Q))))))) ∧ (¬ l7 < (δ.1 41 3) → (mi_wV N (d - 1) 100 0 [.ref 41, .long l5, .null, .null, .null, .null, .null, .null, .null] [] δ (fun δ1 => Q 1 δ1))))) : mi_wI N d 99 47 [.ref 41, .long l1, .null, .long l3, .null, .long l5, .null, .int l7, .long l8, .null] [] δ Q := by
  unfold mi_wI
  refine ms_seq mB_99 mO_99 [(.iload 7, 2), (.aload_n 0, 1)] (pc' := 50) (L' := [.ref 41, .long l1, .null, .long l3, .null, .long l5, .null, .int l7, .long l8, .null]) (st' := [.ref 41, .int l7]) ⟨dX9_divide_47, dX9_divide_49, trivial⟩ rfl ?_
  refine ms_getI mB_99 mO_99 dX9_divide_50 mF_9_30 (gk_41 N) (Or.inl rfl) ?_
  refine ms_icmp_ge mB_99 dX9_divide_53 (t := 119) rfl (fun c => ?_) (fun c => ?_)
  · have F := F.2 c
    refine ms_seq mB_99 mO_99 [(.aload_n 0, 1), (.lload 5, 2)] (pc' := 122) (L' := [.ref 41, .long l1, .null, .long l3, .null, .long l5, .null, .int l7, .long l8, .null]) (st' := [.long l5, .ref 41]) ⟨dX9_divide_119, dX9_divide_120, trivial⟩ rfl ?_
    refine ms_callvV mB_99 mO_99 (by omega) dX9_divide_122 mQ_9_54 mC_9_54 mL_100 mO_100 rfl (Nat.le_of_ble_eq_true rfl) (Nat.le_of_ble_eq_true rfl) (gk_41 N) rfl F (fun δ1 F => ?_)
    refine ms_seq mB_99 mO_99 [(.iconst 1, 1)] (pc' := 126) (L' := [.ref 41, .long l1, .null, .long l3, .null, .long l5, .null, .int l7, .long l8, .null]) (st' := [.int 1]) ⟨dX9_divide_125, trivial⟩ rfl ?_
    exact ms_zret mB_99 dX9_divide_126 mR_99 (by decide) ⟨_, rfl, rfl, F⟩
  · have F := F.1 c
    refine ms_seq mB_99 mO_99 [(.lload_n 1, 1), (.aload_n 0, 1)] (pc' := 58) (L' := [.ref 41, .long l1, .null, .long l3, .null, .long l5, .null, .int l7, .long l8, .null]) (st' := [.ref 41, .long l1]) ⟨dX9_divide_56, dX9_divide_57, trivial⟩ rfl ?_
    refine ms_getR mB_99 mO_99 dX9_divide_58 mF_9_23 (gk_41 N) rfl (b := 43) (gr_41_1 N) ?_
    refine ms_seq mB_99 mO_99 [(.iload 7, 2)] (pc' := 63) (L' := [.ref 41, .long l1, .null, .long l3, .null, .long l5, .null, .int l7, .long l8, .null]) (st' := [.int l7, .ref 43, .long l1]) ⟨dX9_divide_61, trivial⟩ rfl ?_
    refine ms_at mB_99 mO_99 hd dX9_divide_63 mQ_9_38 (Nat.le_of_ble_eq_true rfl) (gk_43 N) (mi_ne (gl_43 N)) ?_
    refine ms_seq mB_99 mO_99 [(.i2l, 1), (.lmul, 1)] (pc' := 68) (L' := [.ref 41, .long l1, .null, .long l3, .null, .long l5, .null, .int l7, .long l8, .null]) (st' := [.long (l1 * (Int32.toInt64 (mi_at δ 43 l7)))]) ⟨dX9_divide_66, dX9_divide_67, trivial⟩ rfl ?_
    refine mr_topl (fun x2 e_x2 => ?_)
    have F := F x2 e_x2
    refine ms_seq mB_99 mO_99 [(.lstore 8, 2), (.aload_n 0, 1)] (pc' := 71) (L' := [.ref 41, .long l1, .null, .long l3, .null, .long l5, .null, .int l7, .long x2, .null]) (st' := [.ref 41]) ⟨dX9_divide_68, dX9_divide_70, trivial⟩ rfl ?_
    refine ms_getR mB_99 mO_99 dX9_divide_71 mF_9_14 (gk_41 N) rfl (b := 42) (gr_41_0 N) ?_
    refine ms_seq mB_99 mO_99 [(.iload 7, 2), (.lload 8, 2), (.lload_n 3, 1)] (pc' := 79) (L' := [.ref 41, .long l1, .null, .long l3, .null, .long l5, .null, .int l7, .long x2, .null]) (st' := [.long l3, .long x2, .int l7, .ref 42]) ⟨dX9_divide_74, dX9_divide_76, dX9_divide_78, trivial⟩ rfl ?_
    have G := F.1
    have F := F.2
    refine ms_ldiv mB_99 dX9_divide_79 G ?_
    refine ms_pl mB_99 mO_99 (lim := 7) hd dX9_divide_80 mQ_9_42 (Nat.le_of_ble_eq_true rfl) (gk_42 N) (gl_42 N) ?_
    refine mr_st (fun δ3 e_δ3 => ?_)
    have F := F δ3 e_δ3
    refine ms_seq mB_99 mO_99 [(.aload_n 0, 1)] (pc' := 84) (L' := [.ref 41, .long l1, .null, .long l3, .null, .long l5, .null, .int l7, .long x2, .null]) (st' := [.ref 41]) ⟨dX9_divide_83, trivial⟩ rfl ?_
    refine ms_getR mB_99 mO_99 dX9_divide_84 mF_9_27 (gk_41 N) rfl (b := 44) (gr_41_2 N) ?_
    refine ms_seq mB_99 mO_99 [(.iload 7, 2), (.lload 8, 2), (.lload_n 3, 1)] (pc' := 92) (L' := [.ref 41, .long l1, .null, .long l3, .null, .long l5, .null, .int l7, .long x2, .null]) (st' := [.long l3, .long x2, .int l7, .ref 44]) ⟨dX9_divide_87, dX9_divide_89, dX9_divide_91, trivial⟩ rfl ?_
    have G := F.1
    have F := F.2
    refine ms_lrem mB_99 dX9_divide_92 G ?_
    refine ms_abs mB_99 mO_99 hd dX9_divide_93 mQ_9_45 (Nat.le_of_ble_eq_true rfl) ?_
    refine ms_pl mB_99 mO_99 (lim := 7) hd dX9_divide_96 mQ_9_42 (Nat.le_of_ble_eq_true rfl) (gk_44 N) (gl_44 N) ?_
    refine mr_st (fun δ4 e_δ4 => ?_)
    have F := F δ4 e_δ4
    refine ms_seq mB_99 mO_99 [(.lload 5, 2), (.aload_n 0, 1)] (pc' := 102) (L' := [.ref 41, .long l1, .null, .long l3, .null, .long l5, .null, .int l7, .long x2, .null]) (st' := [.ref 41, .long l5]) ⟨dX9_divide_99, dX9_divide_101, trivial⟩ rfl ?_
    refine ms_getR mB_99 mO_99 dX9_divide_102 mF_9_14 (gk_41 N) rfl (b := 42) (gr_41_0 N) ?_
    refine ms_seq mB_99 mO_99 [(.iload 7, 2)] (pc' := 107) (L' := [.ref 41, .long l1, .null, .long l3, .null, .long l5, .null, .int l7, .long x2, .null]) (st' := [.int l7, .ref 42, .long l5]) ⟨dX9_divide_105, trivial⟩ rfl ?_
    refine ms_al mB_99 mO_99 hd dX9_divide_107 mQ_9_51 (Nat.le_of_ble_eq_true rfl) (gk_42 N) (mi_ne (gl_42 N)) ?_
    refine ms_seq mB_99 mO_99 [(.lsub, 1)] (pc' := 111) (L' := [.ref 41, .long l1, .null, .long l3, .null, .long l5, .null, .int l7, .long x2, .null]) (st' := [.long (l5 - (mi_al δ4 42 l7))]) ⟨dX9_divide_110, trivial⟩ rfl ?_
    refine mr_topl (fun x5 e_x5 => ?_)
    have F := F x5 e_x5
    refine ms_seq mB_99 mO_99 [(.lstore 5, 2), (.iinc 7 1, 3)] (pc' := 116) (L' := [.ref 41, .long l1, .null, .long l3, .null, .long x5, .null, .int (l7 + 1), .long x2, .null]) (st' := []) ⟨dX9_divide_111, dX9_divide_113, trivial⟩ rfl ?_
    refine ms_goto mB_99 dX9_divide_116 (t := 47) rfl ?_
    exact F
set_option maxRecDepth 100000 in
theorem q9_giveRest_0 {N d : Nat} (hd : 5 ≤ d) {p0 : Int64} {δ : mi_D} {Q : mi_D → Prop} (F : (((lg_cmp p0 0) < 0 → mi_wV N d 100 13 [.ref 41, .long p0, .null, .null, .null, .null, .null, .null, .null] [.long (-1)] δ Q) ∧ (¬ (lg_cmp p0 0) < 0 → mi_wV N d 100 13 [.ref 41, .long p0, .null, .null, .null, .null, .null, .null, .null] [.long 1] δ Q))) : mi_wV N d 100 0 [.ref 41, .long p0, .null, .null, .null, .null, .null, .null, .null] [] δ Q := by
  unfold mi_wV
  refine ms_seq mB_100 mO_100 [(.lload_n 1, 1), (.lconst 0, 1), (.lcmp, 1)] (pc' := 3) (L' := [.ref 41, .long p0, .null, .null, .null, .null, .null, .null, .null]) (st' := [.int (lg_cmp p0 0)]) ⟨dX9_giveRest_0, dX9_giveRest_1, dX9_giveRest_2, trivial⟩ rfl ?_
  refine ms_if_ge mB_100 dX9_giveRest_3 (t := 12) rfl (fun c => ?_) (fun c => ?_)
  · have F := F.2 c
    refine ms_seq mB_100 mO_100 [(.lconst 1, 1)] (pc' := 13) (L' := [.ref 41, .long p0, .null, .null, .null, .null, .null, .null, .null]) (st' := [.long 1]) ⟨dX9_giveRest_12, trivial⟩ rfl ?_
    exact F
  · have F := F.1 c
    refine ms_seq mB_100 mO_100 [(.ldc2_w 58, 3)] (pc' := 9) (L' := [.ref 41, .long p0, .null, .null, .null, .null, .null, .null, .null]) (st' := [.long (-1)]) ⟨dX9_giveRest_6, trivial⟩ rfl ?_
    refine ms_goto mB_100 dX9_giveRest_9 (t := 13) rfl ?_
    exact F
set_option maxRecDepth 100000 in
theorem q9_giveRest_13 {N d : Nat} (hd : 5 ≤ d) {l1 s0 : Int64} {δ : mi_D} {Q : mi_D → Prop} (F : (∀ x1 : Int64, x1 = (if 0 < l1 then l1 else -l1) → mi_wV N d 100 23 [.ref 41, .long l1, .null, .long s0, .null, .long x1, .null, .int 0, .null] [] δ Q)) : mi_wV N d 100 13 [.ref 41, .long l1, .null, .null, .null, .null, .null, .null, .null] [.long s0] δ Q := by
  unfold mi_wV
  refine ms_seq mB_100 mO_100 [(.lstore_n 3, 1), (.lload_n 1, 1)] (pc' := 15) (L' := [.ref 41, .long l1, .null, .long s0, .null, .null, .null, .null, .null]) (st' := [.long l1]) ⟨dX9_giveRest_13, dX9_giveRest_14, trivial⟩ rfl ?_
  refine ms_abs mB_100 mO_100 hd dX9_giveRest_15 mQ_9_45 (Nat.le_of_ble_eq_true rfl) ?_
  refine mr_topl (fun x1 e_x1 => ?_)
  have F := F x1 e_x1
  refine ms_seq mB_100 mO_100 [(.lstore 5, 2), (.iconst 0, 1), (.istore 7, 2)] (pc' := 23) (L' := [.ref 41, .long l1, .null, .long s0, .null, .long x1, .null, .int 0, .null]) (st' := []) ⟨dX9_giveRest_18, dX9_giveRest_20, dX9_giveRest_21, trivial⟩ rfl ?_
  exact F
set_option maxRecDepth 100000 in
theorem q9_giveRest_23 {N d : Nat} (hd : 5 ≤ d) {l7 : Int32} {l1 l3 l5 : Int64} {δ : mi_D} {Q : mi_D → Prop} (F : ((l7 < (δ.1 41 3) → (((lg_cmp (Int32.toInt64 l7) l5) < 0 → (mi_wI N (d - 1) 101 0 [.ref 41, .null, .null] [] δ (fun r2 δ1 => (∀ δ3 : mi_D, δ3 = mi_pl δ1 42 7 r2 ((mi_al δ1 42 r2) + l3) → (∀ δ4 : mi_D, δ4 = mi_pl δ3 44 7 r2 (-1) → mi_wV N d 100 23 [.ref 41, .long l1, .null, .long l3, .null, .long l5, .null, .int (l7 + 1), .int r2] [] δ4 Q))))) ∧ (¬ (lg_cmp (Int32.toInt64 l7) l5) < 0 → Q δ))) ∧ (¬ l7 < (δ.1 41 3) → Q δ))) : mi_wV N d 100 23 [.ref 41, .long l1, .null, .long l3, .null, .long l5, .null, .int l7, .null] [] δ Q := by
  unfold mi_wV
  refine ms_seq mB_100 mO_100 [(.iload 7, 2), (.aload_n 0, 1)] (pc' := 26) (L' := [.ref 41, .long l1, .null, .long l3, .null, .long l5, .null, .int l7, .null]) (st' := [.ref 41, .int l7]) ⟨dX9_giveRest_23, dX9_giveRest_25, trivial⟩ rfl ?_
  refine ms_getI mB_100 mO_100 dX9_giveRest_26 mF_9_30 (gk_41 N) (Or.inl rfl) ?_
  refine ms_icmp_ge mB_100 dX9_giveRest_29 (t := 85) rfl (fun c => ?_) (fun c => ?_)
  · have F := F.2 c
    exact ms_vret mB_100 dX9_giveRest_85 mR_100 ⟨rfl, rfl, F⟩
  · have F := F.1 c
    refine ms_seq mB_100 mO_100 [(.iload 7, 2), (.i2l, 1), (.lload 5, 2), (.lcmp, 1)] (pc' := 38) (L' := [.ref 41, .long l1, .null, .long l3, .null, .long l5, .null, .int l7, .null]) (st' := [.int (lg_cmp (Int32.toInt64 l7) l5)]) ⟨dX9_giveRest_32, dX9_giveRest_34, dX9_giveRest_35, dX9_giveRest_37, trivial⟩ rfl ?_
    refine ms_if_ge mB_100 dX9_giveRest_38 (t := 85) rfl (fun c => ?_) (fun c => ?_)
    · have F := F.2 c
      exact ms_vret mB_100 dX9_giveRest_85 mR_100 ⟨rfl, rfl, F⟩
    · have F := F.1 c
      refine ms_seq mB_100 mO_100 [(.aload_n 0, 1)] (pc' := 42) (L' := [.ref 41, .long l1, .null, .long l3, .null, .long l5, .null, .int l7, .null]) (st' := [.ref 41]) ⟨dX9_giveRest_41, trivial⟩ rfl ?_
      refine ms_callvI mB_100 mO_100 (by omega) dX9_giveRest_42 mQ_9_60 mC_9_60 mL_101 mO_101 rfl (Nat.le_of_ble_eq_true rfl) (Nat.le_of_ble_eq_true rfl) (gk_41 N) rfl F (fun r2 δ1 F => ?_)
      refine ms_seq mB_100 mO_100 [(.istore 8, 2), (.aload_n 0, 1)] (pc' := 48) (L' := [.ref 41, .long l1, .null, .long l3, .null, .long l5, .null, .int l7, .int r2]) (st' := [.ref 41]) ⟨dX9_giveRest_45, dX9_giveRest_47, trivial⟩ rfl ?_
      refine ms_getR mB_100 mO_100 dX9_giveRest_48 mF_9_14 (gk_41 N) rfl (b := 42) (gr_41_0 N) ?_
      refine ms_seq mB_100 mO_100 [(.iload 8, 2), (.aload_n 0, 1)] (pc' := 54) (L' := [.ref 41, .long l1, .null, .long l3, .null, .long l5, .null, .int l7, .int r2]) (st' := [.ref 41, .int r2, .ref 42]) ⟨dX9_giveRest_51, dX9_giveRest_53, trivial⟩ rfl ?_
      refine ms_getR mB_100 mO_100 dX9_giveRest_54 mF_9_14 (gk_41 N) rfl (b := 42) (gr_41_0 N) ?_
      refine ms_seq mB_100 mO_100 [(.iload 8, 2)] (pc' := 59) (L' := [.ref 41, .long l1, .null, .long l3, .null, .long l5, .null, .int l7, .int r2]) (st' := [.int r2, .ref 42, .int r2, .ref 42]) ⟨dX9_giveRest_57, trivial⟩ rfl ?_
      refine ms_al mB_100 mO_100 hd dX9_giveRest_59 mQ_9_51 (Nat.le_of_ble_eq_true rfl) (gk_42 N) (mi_ne (gl_42 N)) ?_
      refine ms_seq mB_100 mO_100 [(.lload_n 3, 1), (.ladd, 1)] (pc' := 64) (L' := [.ref 41, .long l1, .null, .long l3, .null, .long l5, .null, .int l7, .int r2]) (st' := [.long ((mi_al δ1 42 r2) + l3), .int r2, .ref 42]) ⟨dX9_giveRest_62, dX9_giveRest_63, trivial⟩ rfl ?_
      refine ms_pl mB_100 mO_100 (lim := 7) hd dX9_giveRest_64 mQ_9_42 (Nat.le_of_ble_eq_true rfl) (gk_42 N) (gl_42 N) ?_
      refine mr_st (fun δ3 e_δ3 => ?_)
      have F := F δ3 e_δ3
      refine ms_seq mB_100 mO_100 [(.aload_n 0, 1)] (pc' := 68) (L' := [.ref 41, .long l1, .null, .long l3, .null, .long l5, .null, .int l7, .int r2]) (st' := [.ref 41]) ⟨dX9_giveRest_67, trivial⟩ rfl ?_
      refine ms_getR mB_100 mO_100 dX9_giveRest_68 mF_9_27 (gk_41 N) rfl (b := 44) (gr_41_2 N) ?_
      refine ms_seq mB_100 mO_100 [(.iload 8, 2), (.ldc2_w 58, 3)] (pc' := 76) (L' := [.ref 41, .long l1, .null, .long l3, .null, .long l5, .null, .int l7, .int r2]) (st' := [.long (-1), .int r2, .ref 44]) ⟨dX9_giveRest_71, dX9_giveRest_73, trivial⟩ rfl ?_
      refine ms_pl mB_100 mO_100 (lim := 7) hd dX9_giveRest_76 mQ_9_42 (Nat.le_of_ble_eq_true rfl) (gk_44 N) (gl_44 N) ?_
      refine mr_st (fun δ4 e_δ4 => ?_)
      have F := F δ4 e_δ4
      refine ms_seq mB_100 mO_100 [(.iinc 7 1, 3)] (pc' := 82) (L' := [.ref 41, .long l1, .null, .long l3, .null, .long l5, .null, .int (l7 + 1), .int r2]) (st' := []) ⟨dX9_giveRest_79, trivial⟩ rfl ?_
      refine ms_goto mB_100 dX9_giveRest_82 (t := 23) rfl ?_
      exact F
set_option maxRecDepth 100000 in
theorem q9_giveRest_23a {N d : Nat} (hd : 5 ≤ d) {l7 l8 : Int32} {l1 l3 l5 : Int64} {δ : mi_D} {Q : mi_D → Prop} (F : ((l7 < (δ.1 41 3) → (((lg_cmp (Int32.toInt64 l7) l5) < 0 → (mi_wI N (d - 1) 101 0 [.ref 41, .null, .null] [] δ (fun r2 δ1 => (∀ δ3 : mi_D, δ3 = mi_pl δ1 42 7 r2 ((mi_al δ1 42 r2) + l3) → (∀ δ4 : mi_D, δ4 = mi_pl δ3 44 7 r2 (-1) → mi_wV N d 100 23 [.ref 41, .long l1, .null, .long l3, .null, .long l5, .null, .int (l7 + 1), .int r2] [] δ4 Q))))) ∧ (¬ (lg_cmp (Int32.toInt64 l7) l5) < 0 → Q δ))) ∧ (¬ l7 < (δ.1 41 3) → Q δ))) : mi_wV N d 100 23 [.ref 41, .long l1, .null, .long l3, .null, .long l5, .null, .int l7, .int l8] [] δ Q := by
  unfold mi_wV
  refine ms_seq mB_100 mO_100 [(.iload 7, 2), (.aload_n 0, 1)] (pc' := 26) (L' := [.ref 41, .long l1, .null, .long l3, .null, .long l5, .null, .int l7, .int l8]) (st' := [.ref 41, .int l7]) ⟨dX9_giveRest_23, dX9_giveRest_25, trivial⟩ rfl ?_
  refine ms_getI mB_100 mO_100 dX9_giveRest_26 mF_9_30 (gk_41 N) (Or.inl rfl) ?_
  refine ms_icmp_ge mB_100 dX9_giveRest_29 (t := 85) rfl (fun c => ?_) (fun c => ?_)
  · have F := F.2 c
    exact ms_vret mB_100 dX9_giveRest_85 mR_100 ⟨rfl, rfl, F⟩
  · have F := F.1 c
    refine ms_seq mB_100 mO_100 [(.iload 7, 2), (.i2l, 1), (.lload 5, 2), (.lcmp, 1)] (pc' := 38) (L' := [.ref 41, .long l1, .null, .long l3, .null, .long l5, .null, .int l7, .int l8]) (st' := [.int (lg_cmp (Int32.toInt64 l7) l5)]) ⟨dX9_giveRest_32, dX9_giveRest_34, dX9_giveRest_35, dX9_giveRest_37, trivial⟩ rfl ?_
    refine ms_if_ge mB_100 dX9_giveRest_38 (t := 85) rfl (fun c => ?_) (fun c => ?_)
    · have F := F.2 c
      exact ms_vret mB_100 dX9_giveRest_85 mR_100 ⟨rfl, rfl, F⟩
    · have F := F.1 c
      refine ms_seq mB_100 mO_100 [(.aload_n 0, 1)] (pc' := 42) (L' := [.ref 41, .long l1, .null, .long l3, .null, .long l5, .null, .int l7, .int l8]) (st' := [.ref 41]) ⟨dX9_giveRest_41, trivial⟩ rfl ?_
      refine ms_callvI mB_100 mO_100 (by omega) dX9_giveRest_42 mQ_9_60 mC_9_60 mL_101 mO_101 rfl (Nat.le_of_ble_eq_true rfl) (Nat.le_of_ble_eq_true rfl) (gk_41 N) rfl F (fun r2 δ1 F => ?_)
      refine ms_seq mB_100 mO_100 [(.istore 8, 2), (.aload_n 0, 1)] (pc' := 48) (L' := [.ref 41, .long l1, .null, .long l3, .null, .long l5, .null, .int l7, .int r2]) (st' := [.ref 41]) ⟨dX9_giveRest_45, dX9_giveRest_47, trivial⟩ rfl ?_
      refine ms_getR mB_100 mO_100 dX9_giveRest_48 mF_9_14 (gk_41 N) rfl (b := 42) (gr_41_0 N) ?_
      refine ms_seq mB_100 mO_100 [(.iload 8, 2), (.aload_n 0, 1)] (pc' := 54) (L' := [.ref 41, .long l1, .null, .long l3, .null, .long l5, .null, .int l7, .int r2]) (st' := [.ref 41, .int r2, .ref 42]) ⟨dX9_giveRest_51, dX9_giveRest_53, trivial⟩ rfl ?_
      refine ms_getR mB_100 mO_100 dX9_giveRest_54 mF_9_14 (gk_41 N) rfl (b := 42) (gr_41_0 N) ?_
      refine ms_seq mB_100 mO_100 [(.iload 8, 2)] (pc' := 59) (L' := [.ref 41, .long l1, .null, .long l3, .null, .long l5, .null, .int l7, .int r2]) (st' := [.int r2, .ref 42, .int r2, .ref 42]) ⟨dX9_giveRest_57, trivial⟩ rfl ?_
      refine ms_al mB_100 mO_100 hd dX9_giveRest_59 mQ_9_51 (Nat.le_of_ble_eq_true rfl) (gk_42 N) (mi_ne (gl_42 N)) ?_
      refine ms_seq mB_100 mO_100 [(.lload_n 3, 1), (.ladd, 1)] (pc' := 64) (L' := [.ref 41, .long l1, .null, .long l3, .null, .long l5, .null, .int l7, .int r2]) (st' := [.long ((mi_al δ1 42 r2) + l3), .int r2, .ref 42]) ⟨dX9_giveRest_62, dX9_giveRest_63, trivial⟩ rfl ?_
      refine ms_pl mB_100 mO_100 (lim := 7) hd dX9_giveRest_64 mQ_9_42 (Nat.le_of_ble_eq_true rfl) (gk_42 N) (gl_42 N) ?_
      refine mr_st (fun δ3 e_δ3 => ?_)
      have F := F δ3 e_δ3
      refine ms_seq mB_100 mO_100 [(.aload_n 0, 1)] (pc' := 68) (L' := [.ref 41, .long l1, .null, .long l3, .null, .long l5, .null, .int l7, .int r2]) (st' := [.ref 41]) ⟨dX9_giveRest_67, trivial⟩ rfl ?_
      refine ms_getR mB_100 mO_100 dX9_giveRest_68 mF_9_27 (gk_41 N) rfl (b := 44) (gr_41_2 N) ?_
      refine ms_seq mB_100 mO_100 [(.iload 8, 2), (.ldc2_w 58, 3)] (pc' := 76) (L' := [.ref 41, .long l1, .null, .long l3, .null, .long l5, .null, .int l7, .int r2]) (st' := [.long (-1), .int r2, .ref 44]) ⟨dX9_giveRest_71, dX9_giveRest_73, trivial⟩ rfl ?_
      refine ms_pl mB_100 mO_100 (lim := 7) hd dX9_giveRest_76 mQ_9_42 (Nat.le_of_ble_eq_true rfl) (gk_44 N) (gl_44 N) ?_
      refine mr_st (fun δ4 e_δ4 => ?_)
      have F := F δ4 e_δ4
      refine ms_seq mB_100 mO_100 [(.iinc 7 1, 3)] (pc' := 82) (L' := [.ref 41, .long l1, .null, .long l3, .null, .long l5, .null, .int (l7 + 1), .int r2]) (st' := []) ⟨dX9_giveRest_79, trivial⟩ rfl ?_
      refine ms_goto mB_100 dX9_giveRest_82 (t := 23) rfl ?_
      exact F
set_option maxRecDepth 100000 in
theorem q9_withGreatestRemainder_0 {N d : Nat} (hd : 5 ≤ d) {δ : mi_D} {Q : Int32 → mi_D → Prop} (F : mi_wI N d 101 4 [.ref 41, .int 0, .int 1] [] δ Q) : mi_wI N d 101 0 [.ref 41, .null, .null] [] δ Q := by
  unfold mi_wI
  refine ms_seq mB_101 mO_101 [(.iconst 0, 1), (.istore_n 1, 1), (.iconst 1, 1), (.istore_n 2, 1)] (pc' := 4) (L' := [.ref 41, .int 0, .int 1]) (st' := []) ⟨dX9_withGreatestRemainder_0, dX9_withGreatestRemainder_1, dX9_withGreatestRemainder_2, dX9_withGreatestRemainder_3, trivial⟩ rfl ?_
  exact F
set_option maxRecDepth 100000 in
theorem q9_withGreatestRemainder_4 {N d : Nat} (hd : 5 ≤ d) {l1 l2 : Int32} {δ : mi_D} {Q : Int32 → mi_D → Prop} (F : ((l2 < (δ.1 41 3) → ((0 < (lg_cmp (mi_al δ 44 l2) (mi_al δ 44 l1)) → mi_wI N d 101 4 [.ref 41, .int l2, .int (l2 + 1)] [] δ Q) ∧ (¬ 0 < (lg_cmp (mi_al δ 44 l2) (mi_al δ 44 l1)) → mi_wI N d 101 4 [.ref 41, .int l1, .int (l2 + 1)] [] δ Q))) ∧ (¬ l2 < (δ.1 41 3) → Q l1 δ))) : mi_wI N d 101 4 [.ref 41, .int l1, .int l2] [] δ Q := by
  unfold mi_wI
  refine ms_seq mB_101 mO_101 [(.iload_n 2, 1), (.aload_n 0, 1)] (pc' := 6) (L' := [.ref 41, .int l1, .int l2]) (st' := [.ref 41, .int l2]) ⟨dX9_withGreatestRemainder_4, dX9_withGreatestRemainder_5, trivial⟩ rfl ?_
  refine ms_getI mB_101 mO_101 dX9_withGreatestRemainder_6 mF_9_30 (gk_41 N) (Or.inl rfl) ?_
  refine ms_icmp_ge mB_101 dX9_withGreatestRemainder_9 (t := 40) rfl (fun c => ?_) (fun c => ?_)
  · have F := F.2 c
    refine ms_seq mB_101 mO_101 [(.iload_n 1, 1)] (pc' := 41) (L' := [.ref 41, .int l1, .int l2]) (st' := [.int l1]) ⟨dX9_withGreatestRemainder_40, trivial⟩ rfl ?_
    exact ms_iret mB_101 dX9_withGreatestRemainder_41 mR_101 ⟨_, rfl, rfl, F⟩
  · have F := F.1 c
    refine ms_seq mB_101 mO_101 [(.aload_n 0, 1)] (pc' := 13) (L' := [.ref 41, .int l1, .int l2]) (st' := [.ref 41]) ⟨dX9_withGreatestRemainder_12, trivial⟩ rfl ?_
    refine ms_getR mB_101 mO_101 dX9_withGreatestRemainder_13 mF_9_27 (gk_41 N) rfl (b := 44) (gr_41_2 N) ?_
    refine ms_seq mB_101 mO_101 [(.iload_n 2, 1)] (pc' := 17) (L' := [.ref 41, .int l1, .int l2]) (st' := [.int l2, .ref 44]) ⟨dX9_withGreatestRemainder_16, trivial⟩ rfl ?_
    refine ms_al mB_101 mO_101 hd dX9_withGreatestRemainder_17 mQ_9_51 (Nat.le_of_ble_eq_true rfl) (gk_44 N) (mi_ne (gl_44 N)) ?_
    refine ms_seq mB_101 mO_101 [(.aload_n 0, 1)] (pc' := 21) (L' := [.ref 41, .int l1, .int l2]) (st' := [.ref 41, .long (mi_al δ 44 l2)]) ⟨dX9_withGreatestRemainder_20, trivial⟩ rfl ?_
    refine ms_getR mB_101 mO_101 dX9_withGreatestRemainder_21 mF_9_27 (gk_41 N) rfl (b := 44) (gr_41_2 N) ?_
    refine ms_seq mB_101 mO_101 [(.iload_n 1, 1)] (pc' := 25) (L' := [.ref 41, .int l1, .int l2]) (st' := [.int l1, .ref 44, .long (mi_al δ 44 l2)]) ⟨dX9_withGreatestRemainder_24, trivial⟩ rfl ?_
    refine ms_al mB_101 mO_101 hd dX9_withGreatestRemainder_25 mQ_9_51 (Nat.le_of_ble_eq_true rfl) (gk_44 N) (mi_ne (gl_44 N)) ?_
    refine ms_seq mB_101 mO_101 [(.lcmp, 1)] (pc' := 29) (L' := [.ref 41, .int l1, .int l2]) (st' := [.int (lg_cmp (mi_al δ 44 l2) (mi_al δ 44 l1))]) ⟨dX9_withGreatestRemainder_28, trivial⟩ rfl ?_
    refine ms_if_le mB_101 dX9_withGreatestRemainder_29 (t := 34) rfl (fun c => ?_) (fun c => ?_)
    · have F := F.2 c
      refine ms_seq mB_101 mO_101 [(.iinc 2 1, 3)] (pc' := 37) (L' := [.ref 41, .int l1, .int (l2 + 1)]) (st' := []) ⟨dX9_withGreatestRemainder_34, trivial⟩ rfl ?_
      refine ms_goto mB_101 dX9_withGreatestRemainder_37 (t := 4) rfl ?_
      exact F
    · have F := F.1 c
      refine ms_seq mB_101 mO_101 [(.iload_n 2, 1), (.istore_n 1, 1), (.iinc 2 1, 3)] (pc' := 37) (L' := [.ref 41, .int l2, .int (l2 + 1)]) (st' := []) ⟨dX9_withGreatestRemainder_32, dX9_withGreatestRemainder_33, dX9_withGreatestRemainder_34, trivial⟩ rfl ?_
      refine ms_goto mB_101 dX9_withGreatestRemainder_37 (t := 4) rfl ?_
      exact F
