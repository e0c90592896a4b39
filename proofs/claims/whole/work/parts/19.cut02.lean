set_option maxRecDepth 100000 in
theorem q2_clear_0 {N d : Nat} (hd : 5 ≤ d) {δ : mi_D} {Q : mi_D → Prop} (F : (∀ δ1 : mi_D, δ1 = mi_setI δ 17 9 0 → (∀ δ2 : mi_D, δ2 = mi_setI δ1 17 10 0 → Q δ2))) : mi_wV N d 38 0 [.ref 17] [] δ Q := by
  unfold mi_wV
  refine ms_seq mB_38 mO_38 [(.aload_n 0, 1), (.iconst 0, 1)] (pc' := 2) (L' := [.ref 17]) (st' := [.int 0, .ref 17]) ⟨dX2_clear_0, dX2_clear_1, trivial⟩ rfl ?_
  refine ms_putI mB_38 mO_38 dX2_clear_2 mF_2_48 (gk_17 N) rfl rfl ?_
  refine mr_st (fun δ1 e_δ1 => ?_)
  have F := F δ1 e_δ1
  refine ms_seq mB_38 mO_38 [(.aload_n 0, 1), (.iconst 0, 1)] (pc' := 7) (L' := [.ref 17]) (st' := [.int 0, .ref 17]) ⟨dX2_clear_5, dX2_clear_6, trivial⟩ rfl ?_
  refine ms_putI mB_38 mO_38 dX2_clear_7 mF_2_52 (gk_17 N) rfl rfl ?_
  refine mr_st (fun δ2 e_δ2 => ?_)
  have F := F δ2 e_δ2
  exact ms_vret mB_38 dX2_clear_10 mR_38 ⟨rfl, rfl, F⟩
set_option maxRecDepth 100000 in
theorem q2_has_0 {N d : Nat} (hd : 5 ≤ d) {p0 : Int32} {δ : mi_D} {Q : Int32 → mi_D → Prop} (F : ((p0 < 0 → Q 0 δ) ∧ (¬ p0 < 0 → ((p0 < (δ.1 17 9) → Q 1 δ) ∧ (¬ p0 < (δ.1 17 9) → Q 0 δ))))) : mi_wI N d 39 0 [.ref 17, .int p0] [] δ Q := by
  unfold mi_wI
  refine ms_seq mB_39 mO_39 [(.iload_n 1, 1)] (pc' := 1) (L' := [.ref 17, .int p0]) (st' := [.int p0]) ⟨dX2_has_0, trivial⟩ rfl ?_
  refine ms_if_lt mB_39 dX2_has_1 (t := 16) rfl (fun c => ?_) (fun c => ?_)
  · have F := F.1 c
    refine ms_seq mB_39 mO_39 [(.iconst 0, 1)] (pc' := 17) (L' := [.ref 17, .int p0]) (st' := [.int 0]) ⟨dX2_has_16, trivial⟩ rfl ?_
    exact ms_zret mB_39 dX2_has_17 mR_39 (by decide) ⟨_, rfl, rfl, F⟩
  · have F := F.2 c
    refine ms_seq mB_39 mO_39 [(.iload_n 1, 1), (.aload_n 0, 1)] (pc' := 6) (L' := [.ref 17, .int p0]) (st' := [.ref 17, .int p0]) ⟨dX2_has_4, dX2_has_5, trivial⟩ rfl ?_
    refine ms_getI mB_39 mO_39 dX2_has_6 mF_2_48 (gk_17 N) (Or.inl rfl) ?_
    refine ms_icmp_ge mB_39 dX2_has_9 (t := 16) rfl (fun c => ?_) (fun c => ?_)
    · have F := F.2 c
      refine ms_seq mB_39 mO_39 [(.iconst 0, 1)] (pc' := 17) (L' := [.ref 17, .int p0]) (st' := [.int 0]) ⟨dX2_has_16, trivial⟩ rfl ?_
      exact ms_zret mB_39 dX2_has_17 mR_39 (by decide) ⟨_, rfl, rfl, F⟩
    · have F := F.1 c
      refine ms_seq mB_39 mO_39 [(.iconst 1, 1)] (pc' := 13) (L' := [.ref 17, .int p0]) (st' := [.int 1]) ⟨dX2_has_12, trivial⟩ rfl ?_
      refine ms_goto mB_39 dX2_has_13 (t := 17) rfl ?_
      exact ms_zret mB_39 dX2_has_17 mR_39 (by decide) ⟨_, rfl, rfl, F⟩
set_option maxRecDepth 100000 in
theorem q2_add_0 {N d : Nat} (hd : 5 ≤ d) {ln la lb lim : Nat} (hl : mi_Ls ln la lb lim) {p1 p2 p3 p4 : Int32} {δ : mi_D} {Q : Int32 → mi_D → Prop} (F : (∀ x1 : Int32, x1 = (δ.1 17 9) → (∀ δ2 : mi_D, δ2 = mi_pt δ 18 400 x1 p1 → (∀ δ3 : mi_D, δ3 = mi_pt δ2 19 400 x1 p2 → (∀ δ4 : mi_D, δ4 = mi_pt δ3 20 400 x1 p3 → (∀ δ5 : mi_D, δ5 = mi_pt δ4 22 400 x1 (-1) → (∀ δ6 : mi_D, δ6 = mi_pt δ5 23 400 x1 p4 → (∀ δ7 : mi_D, δ7 = mi_pt δ6 24 400 x1 (δ6.1 17 10) → (∀ δ8 : mi_D, δ8 = mi_pt δ7 21 400 x1 (δ7.1 ln 2) → mi_wI N d 40 87 [.ref 17, .ref ln, .int p1, .int p2, .int p3, .int p4, .int x1, .int 0] [] δ8 Q))))))))) : mi_wI N d 40 0 [.ref 17, .ref ln, .int p1, .int p2, .int p3, .int p4, .null, .null] [] δ Q := by
  unfold mi_wI
  obtain ⟨hk_ln, hr_ln_0, hr_ln_1, hk_la, hk_lb, hl_la, hl_lb⟩ := hl.all N
  refine ms_seq mB_40 mO_40 [(.aload_n 0, 1)] (pc' := 1) (L' := [.ref 17, .ref ln, .int p1, .int p2, .int p3, .int p4, .null, .null]) (st' := [.ref 17]) ⟨dX2_add_0, trivial⟩ rfl ?_
  refine ms_getI mB_40 mO_40 dX2_add_1 mF_2_48 (gk_17 N) (Or.inl rfl) ?_
  refine mr_topi (fun x1 e_x1 => ?_)
  have F := F x1 e_x1
  refine ms_seq mB_40 mO_40 [(.istore 6, 2), (.aload_n 0, 1)] (pc' := 7) (L' := [.ref 17, .ref ln, .int p1, .int p2, .int p3, .int p4, .int x1, .null]) (st' := [.ref 17]) ⟨dX2_add_4, dX2_add_6, trivial⟩ rfl ?_
  refine ms_getR mB_40 mO_40 dX2_add_7 mF_2_14 (gk_17 N) rfl (b := 18) (gr_17_0 N) ?_
  refine ms_seq mB_40 mO_40 [(.iload 6, 2), (.iload_n 2, 1)] (pc' := 13) (L' := [.ref 17, .ref ln, .int p1, .int p2, .int p3, .int p4, .int x1, .null]) (st' := [.int p1, .int x1, .ref 18]) ⟨dX2_add_10, dX2_add_12, trivial⟩ rfl ?_
  refine ms_put mB_40 mO_40 (lim := 400) hd dX2_add_13 mQ_2_55 (Nat.le_of_ble_eq_true rfl) (gk_18 N) (gl_18 N) ?_
  refine mr_st (fun δ2 e_δ2 => ?_)
  have F := F δ2 e_δ2
  refine ms_seq mB_40 mO_40 [(.aload_n 0, 1)] (pc' := 17) (L' := [.ref 17, .ref ln, .int p1, .int p2, .int p3, .int p4, .int x1, .null]) (st' := [.ref 17]) ⟨dX2_add_16, trivial⟩ rfl ?_
  refine ms_getR mB_40 mO_40 dX2_add_17 mF_2_20 (gk_17 N) rfl (b := 19) (gr_17_1 N) ?_
  refine ms_seq mB_40 mO_40 [(.iload 6, 2), (.iload_n 3, 1)] (pc' := 23) (L' := [.ref 17, .ref ln, .int p1, .int p2, .int p3, .int p4, .int x1, .null]) (st' := [.int p2, .int x1, .ref 19]) ⟨dX2_add_20, dX2_add_22, trivial⟩ rfl ?_
  refine ms_put mB_40 mO_40 (lim := 400) hd dX2_add_23 mQ_2_55 (Nat.le_of_ble_eq_true rfl) (gk_19 N) (gl_19 N) ?_
  refine mr_st (fun δ3 e_δ3 => ?_)
  have F := F δ3 e_δ3
  refine ms_seq mB_40 mO_40 [(.aload_n 0, 1)] (pc' := 27) (L' := [.ref 17, .ref ln, .int p1, .int p2, .int p3, .int p4, .int x1, .null]) (st' := [.ref 17]) ⟨dX2_add_26, trivial⟩ rfl ?_
  refine ms_getR mB_40 mO_40 dX2_add_27 mF_2_23 (gk_17 N) rfl (b := 20) (gr_17_2 N) ?_
  refine ms_seq mB_40 mO_40 [(.iload 6, 2), (.iload 4, 2)] (pc' := 34) (L' := [.ref 17, .ref ln, .int p1, .int p2, .int p3, .int p4, .int x1, .null]) (st' := [.int p3, .int x1, .ref 20]) ⟨dX2_add_30, dX2_add_32, trivial⟩ rfl ?_
  refine ms_put mB_40 mO_40 (lim := 400) hd dX2_add_34 mQ_2_55 (Nat.le_of_ble_eq_true rfl) (gk_20 N) (gl_20 N) ?_
  refine mr_st (fun δ4 e_δ4 => ?_)
  have F := F δ4 e_δ4
  refine ms_seq mB_40 mO_40 [(.aload_n 0, 1)] (pc' := 38) (L' := [.ref 17, .ref ln, .int p1, .int p2, .int p3, .int p4, .int x1, .null]) (st' := [.ref 17]) ⟨dX2_add_37, trivial⟩ rfl ?_
  refine ms_getR mB_40 mO_40 dX2_add_38 mF_2_29 (gk_17 N) rfl (b := 22) (gr_17_4 N) ?_
  refine ms_seq mB_40 mO_40 [(.iload 6, 2), (.iconst (-1), 1)] (pc' := 44) (L' := [.ref 17, .ref ln, .int p1, .int p2, .int p3, .int p4, .int x1, .null]) (st' := [.int (-1), .int x1, .ref 22]) ⟨dX2_add_41, dX2_add_43, trivial⟩ rfl ?_
  refine ms_put mB_40 mO_40 (lim := 400) hd dX2_add_44 mQ_2_55 (Nat.le_of_ble_eq_true rfl) (gk_22 N) (gl_22 N) ?_
  refine mr_st (fun δ5 e_δ5 => ?_)
  have F := F δ5 e_δ5
  refine ms_seq mB_40 mO_40 [(.aload_n 0, 1)] (pc' := 48) (L' := [.ref 17, .ref ln, .int p1, .int p2, .int p3, .int p4, .int x1, .null]) (st' := [.ref 17]) ⟨dX2_add_47, trivial⟩ rfl ?_
  refine ms_getR mB_40 mO_40 dX2_add_48 mF_2_32 (gk_17 N) rfl (b := 23) (gr_17_5 N) ?_
  refine ms_seq mB_40 mO_40 [(.iload 6, 2), (.iload 5, 2)] (pc' := 55) (L' := [.ref 17, .ref ln, .int p1, .int p2, .int p3, .int p4, .int x1, .null]) (st' := [.int p4, .int x1, .ref 23]) ⟨dX2_add_51, dX2_add_53, trivial⟩ rfl ?_
  refine ms_put mB_40 mO_40 (lim := 400) hd dX2_add_55 mQ_2_55 (Nat.le_of_ble_eq_true rfl) (gk_23 N) (gl_23 N) ?_
  refine mr_st (fun δ6 e_δ6 => ?_)
  have F := F δ6 e_δ6
  refine ms_seq mB_40 mO_40 [(.aload_n 0, 1)] (pc' := 59) (L' := [.ref 17, .ref ln, .int p1, .int p2, .int p3, .int p4, .int x1, .null]) (st' := [.ref 17]) ⟨dX2_add_58, trivial⟩ rfl ?_
  refine ms_getR mB_40 mO_40 dX2_add_59 mF_2_35 (gk_17 N) rfl (b := 24) (gr_17_6 N) ?_
  refine ms_seq mB_40 mO_40 [(.iload 6, 2), (.aload_n 0, 1)] (pc' := 65) (L' := [.ref 17, .ref ln, .int p1, .int p2, .int p3, .int p4, .int x1, .null]) (st' := [.ref 17, .int x1, .ref 24]) ⟨dX2_add_62, dX2_add_64, trivial⟩ rfl ?_
  refine ms_getI mB_40 mO_40 dX2_add_65 mF_2_52 (gk_17 N) (Or.inl rfl) ?_
  refine ms_put mB_40 mO_40 (lim := 400) hd dX2_add_68 mQ_2_55 (Nat.le_of_ble_eq_true rfl) (gk_24 N) (gl_24 N) ?_
  refine mr_st (fun δ7 e_δ7 => ?_)
  have F := F δ7 e_δ7
  refine ms_seq mB_40 mO_40 [(.aload_n 0, 1)] (pc' := 72) (L' := [.ref 17, .ref ln, .int p1, .int p2, .int p3, .int p4, .int x1, .null]) (st' := [.ref 17]) ⟨dX2_add_71, trivial⟩ rfl ?_
  refine ms_getR mB_40 mO_40 dX2_add_72 mF_2_26 (gk_17 N) rfl (b := 21) (gr_17_3 N) ?_
  refine ms_seq mB_40 mO_40 [(.iload 6, 2), (.aload_n 1, 1)] (pc' := 78) (L' := [.ref 17, .ref ln, .int p1, .int p2, .int p3, .int p4, .int x1, .null]) (st' := [.ref ln, .int x1, .ref 21]) ⟨dX2_add_75, dX2_add_77, trivial⟩ rfl ?_
  refine ms_getI mB_40 mO_40 dX2_add_78 mF_2_59 (hk_ln) (Or.inl rfl) ?_
  refine ms_put mB_40 mO_40 (lim := 400) hd dX2_add_81 mQ_2_55 (Nat.le_of_ble_eq_true rfl) (gk_21 N) (gl_21 N) ?_
  refine mr_st (fun δ8 e_δ8 => ?_)
  have F := F δ8 e_δ8
  refine ms_seq mB_40 mO_40 [(.iconst 0, 1), (.istore 7, 2)] (pc' := 87) (L' := [.ref 17, .ref ln, .int p1, .int p2, .int p3, .int p4, .int x1, .int 0]) (st' := []) ⟨dX2_add_84, dX2_add_85, trivial⟩ rfl ?_
  exact F
set_option maxRecDepth 100000 in
theorem q2_add_87 {N d : Nat} (hd : 5 ≤ d) {ln la lb lim : Nat} (hl : mi_Ls ln la lb lim) {l2 l3 l4 l5 l6 l7 : Int32} {δ : mi_D} {Q : Int32 → mi_D → Prop} (F : ((l7 < (δ.1 ln 2) → (∀ δ2 : mi_D, δ2 = mi_pt δ 25 24000 (δ.1 17 10) (mi_at δ la l7) → (∀ δ3 : mi_D, δ3 = mi_pl δ2 26 24000 (δ2.1 17 10) (mi_al δ2 lb l7) → (∀ δ4 : mi_D, δ4 = mi_setI δ3 17 10 ((δ3.1 17 10) + 1) → mi_wI N d 40 87 [.ref 17, .ref ln, .int l2, .int l3, .int l4, .int l5, .int l6, .int (l7 + 1)] [] δ4 Q)))) ∧ (¬ l7 < (δ.1 ln 2) → (∀ δ1 : mi_D, δ1 = mi_setI δ 17 9 ((δ.1 17 9) + 1) → Q l6 δ1)))) : mi_wI N d 40 87 [.ref 17, .ref ln, .int l2, .int l3, .int l4, .int l5, .int l6, .int l7] [] δ Q := by
  unfold mi_wI
  obtain ⟨hk_ln, hr_ln_0, hr_ln_1, hk_la, hk_lb, hl_la, hl_lb⟩ := hl.all N
  refine ms_seq mB_40 mO_40 [(.iload 7, 2), (.aload_n 1, 1)] (pc' := 90) (L' := [.ref 17, .ref ln, .int l2, .int l3, .int l4, .int l5, .int l6, .int l7]) (st' := [.ref ln, .int l7]) ⟨dX2_add_87, dX2_add_89, trivial⟩ rfl ?_
  refine ms_getI mB_40 mO_40 dX2_add_90 mF_2_59 (hk_ln) (Or.inl rfl) ?_
  refine ms_icmp_ge mB_40 dX2_add_93 (t := 152) rfl (fun c => ?_) (fun c => ?_)
  · have F := F.2 c
    refine ms_seq mB_40 mO_40 [(.aload_n 0, 1), (.dup, 1)] (pc' := 154) (L' := [.ref 17, .ref ln, .int l2, .int l3, .int l4, .int l5, .int l6, .int l7]) (st' := [.ref 17, .ref 17]) ⟨dX2_add_152, dX2_add_153, trivial⟩ rfl ?_
    refine ms_getI mB_40 mO_40 dX2_add_154 mF_2_48 (gk_17 N) (Or.inl rfl) ?_
    refine ms_seq mB_40 mO_40 [(.iconst 1, 1), (.iadd, 1)] (pc' := 159) (L' := [.ref 17, .ref ln, .int l2, .int l3, .int l4, .int l5, .int l6, .int l7]) (st' := [.int ((δ.1 17 9) + 1), .ref 17]) ⟨dX2_add_157, dX2_add_158, trivial⟩ rfl ?_
    refine ms_putI mB_40 mO_40 dX2_add_159 mF_2_48 (gk_17 N) rfl rfl ?_
    refine mr_st (fun δ1 e_δ1 => ?_)
    have F := F δ1 e_δ1
    refine ms_seq mB_40 mO_40 [(.iload 6, 2)] (pc' := 164) (L' := [.ref 17, .ref ln, .int l2, .int l3, .int l4, .int l5, .int l6, .int l7]) (st' := [.int l6]) ⟨dX2_add_162, trivial⟩ rfl ?_
    exact ms_iret mB_40 dX2_add_164 mR_40 ⟨_, rfl, rfl, F⟩
  · have F := F.1 c
    refine ms_seq mB_40 mO_40 [(.aload_n 0, 1)] (pc' := 97) (L' := [.ref 17, .ref ln, .int l2, .int l3, .int l4, .int l5, .int l6, .int l7]) (st' := [.ref 17]) ⟨dX2_add_96, trivial⟩ rfl ?_
    refine ms_getR mB_40 mO_40 dX2_add_97 mF_2_38 (gk_17 N) rfl (b := 25) (gr_17_7 N) ?_
    refine ms_seq mB_40 mO_40 [(.aload_n 0, 1)] (pc' := 101) (L' := [.ref 17, .ref ln, .int l2, .int l3, .int l4, .int l5, .int l6, .int l7]) (st' := [.ref 17, .ref 25]) ⟨dX2_add_100, trivial⟩ rfl ?_
    refine ms_getI mB_40 mO_40 dX2_add_101 mF_2_52 (gk_17 N) (Or.inl rfl) ?_
    refine ms_seq mB_40 mO_40 [(.aload_n 1, 1)] (pc' := 105) (L' := [.ref 17, .ref ln, .int l2, .int l3, .int l4, .int l5, .int l6, .int l7]) (st' := [.ref ln, .int (δ.1 17 10), .ref 25]) ⟨dX2_add_104, trivial⟩ rfl ?_
    refine ms_getR mB_40 mO_40 dX2_add_105 mF_2_62 (hk_ln) rfl (b := la) (hr_ln_0) ?_
    refine ms_seq mB_40 mO_40 [(.iload 7, 2)] (pc' := 110) (L' := [.ref 17, .ref ln, .int l2, .int l3, .int l4, .int l5, .int l6, .int l7]) (st' := [.int l7, .ref la, .int (δ.1 17 10), .ref 25]) ⟨dX2_add_108, trivial⟩ rfl ?_
    refine ms_at mB_40 mO_40 hd dX2_add_110 mQ_2_65 (Nat.le_of_ble_eq_true rfl) (hk_la) (mi_ne (hl_la)) ?_
    refine ms_put mB_40 mO_40 (lim := 24000) hd dX2_add_113 mQ_2_55 (Nat.le_of_ble_eq_true rfl) (gk_25 N) (gl_25 N) ?_
    refine mr_st (fun δ2 e_δ2 => ?_)
    have F := F δ2 e_δ2
    refine ms_seq mB_40 mO_40 [(.aload_n 0, 1)] (pc' := 117) (L' := [.ref 17, .ref ln, .int l2, .int l3, .int l4, .int l5, .int l6, .int l7]) (st' := [.ref 17]) ⟨dX2_add_116, trivial⟩ rfl ?_
    refine ms_getR mB_40 mO_40 dX2_add_117 mF_2_44 (gk_17 N) rfl (b := 26) (gr_17_8 N) ?_
    refine ms_seq mB_40 mO_40 [(.aload_n 0, 1)] (pc' := 121) (L' := [.ref 17, .ref ln, .int l2, .int l3, .int l4, .int l5, .int l6, .int l7]) (st' := [.ref 17, .ref 26]) ⟨dX2_add_120, trivial⟩ rfl ?_
    refine ms_getI mB_40 mO_40 dX2_add_121 mF_2_52 (gk_17 N) (Or.inl rfl) ?_
    refine ms_seq mB_40 mO_40 [(.aload_n 1, 1)] (pc' := 125) (L' := [.ref 17, .ref ln, .int l2, .int l3, .int l4, .int l5, .int l6, .int l7]) (st' := [.ref ln, .int (δ2.1 17 10), .ref 26]) ⟨dX2_add_124, trivial⟩ rfl ?_
    refine ms_getR mB_40 mO_40 dX2_add_125 mF_2_69 (hk_ln) rfl (b := lb) (hr_ln_1) ?_
    refine ms_seq mB_40 mO_40 [(.iload 7, 2)] (pc' := 130) (L' := [.ref 17, .ref ln, .int l2, .int l3, .int l4, .int l5, .int l6, .int l7]) (st' := [.int l7, .ref lb, .int (δ2.1 17 10), .ref 26]) ⟨dX2_add_128, trivial⟩ rfl ?_
    refine ms_al mB_40 mO_40 hd dX2_add_130 mQ_2_72 (Nat.le_of_ble_eq_true rfl) (hk_lb) (mi_ne (hl_lb)) ?_
    refine ms_pl mB_40 mO_40 (lim := 24000) hd dX2_add_133 mQ_2_75 (Nat.le_of_ble_eq_true rfl) (gk_26 N) (gl_26 N) ?_
    refine mr_st (fun δ3 e_δ3 => ?_)
    have F := F δ3 e_δ3
    refine ms_seq mB_40 mO_40 [(.aload_n 0, 1), (.dup, 1)] (pc' := 138) (L' := [.ref 17, .ref ln, .int l2, .int l3, .int l4, .int l5, .int l6, .int l7]) (st' := [.ref 17, .ref 17]) ⟨dX2_add_136, dX2_add_137, trivial⟩ rfl ?_
    refine ms_getI mB_40 mO_40 dX2_add_138 mF_2_52 (gk_17 N) (Or.inl rfl) ?_
    refine ms_seq mB_40 mO_40 [(.iconst 1, 1), (.iadd, 1)] (pc' := 143) (L' := [.ref 17, .ref ln, .int l2, .int l3, .int l4, .int l5, .int l6, .int l7]) (st' := [.int ((δ3.1 17 10) + 1), .ref 17]) ⟨dX2_add_141, dX2_add_142, trivial⟩ rfl ?_
    refine ms_putI mB_40 mO_40 dX2_add_143 mF_2_52 (gk_17 N) rfl rfl ?_
    refine mr_st (fun δ4 e_δ4 => ?_)
    have F := F δ4 e_δ4
    refine ms_seq mB_40 mO_40 [(.iinc 7 1, 3)] (pc' := 149) (L' := [.ref 17, .ref ln, .int l2, .int l3, .int l4, .int l5, .int l6, .int (l7 + 1)]) (st' := []) ⟨dX2_add_146, trivial⟩ rfl ?_
    refine ms_goto mB_40 dX2_add_149 (t := 87) rfl ?_
    exact F
set_option maxRecDepth 100000 in
theorem q2_accountOf_0 {N d : Nat} (hd : 5 ≤ d) {p0 p1 : Int32} {δ : mi_D} {Q : Int32 → mi_D → Prop} (F : Q (mi_at δ 25 ((mi_at δ 24 p0) + p1)) δ) : mi_wI N d 41 0 [.ref 17, .int p0, .int p1] [] δ Q := by
  unfold mi_wI
  refine ms_seq mB_41 mO_41 [(.aload_n 0, 1)] (pc' := 1) (L' := [.ref 17, .int p0, .int p1]) (st' := [.ref 17]) ⟨dX2_accountOf_0, trivial⟩ rfl ?_
  refine ms_getR mB_41 mO_41 dX2_accountOf_1 mF_2_38 (gk_17 N) rfl (b := 25) (gr_17_7 N) ?_
  refine ms_seq mB_41 mO_41 [(.aload_n 0, 1)] (pc' := 5) (L' := [.ref 17, .int p0, .int p1]) (st' := [.ref 17, .ref 25]) ⟨dX2_accountOf_4, trivial⟩ rfl ?_
  refine ms_getR mB_41 mO_41 dX2_accountOf_5 mF_2_35 (gk_17 N) rfl (b := 24) (gr_17_6 N) ?_
  refine ms_seq mB_41 mO_41 [(.iload_n 1, 1)] (pc' := 9) (L' := [.ref 17, .int p0, .int p1]) (st' := [.int p0, .ref 24, .ref 25]) ⟨dX2_accountOf_8, trivial⟩ rfl ?_
  refine ms_at mB_41 mO_41 hd dX2_accountOf_9 mQ_2_65 (Nat.le_of_ble_eq_true rfl) (gk_24 N) (mi_ne (gl_24 N)) ?_
  refine ms_seq mB_41 mO_41 [(.iload_n 2, 1), (.iadd, 1)] (pc' := 14) (L' := [.ref 17, .int p0, .int p1]) (st' := [.int ((mi_at δ 24 p0) + p1), .ref 25]) ⟨dX2_accountOf_12, dX2_accountOf_13, trivial⟩ rfl ?_
  refine ms_at mB_41 mO_41 hd dX2_accountOf_14 mQ_2_65 (Nat.le_of_ble_eq_true rfl) (gk_25 N) (mi_ne (gl_25 N)) ?_
  exact ms_iret mB_41 dX2_accountOf_17 mR_41 ⟨_, rfl, rfl, F⟩
set_option maxRecDepth 100000 in
theorem q2_amountOf_0 {N d : Nat} (hd : 5 ≤ d) {p0 p1 : Int32} {δ : mi_D} {Q : Int64 → mi_D → Prop} (F : Q (mi_al δ 26 ((mi_at δ 24 p0) + p1)) δ) : mi_wL N d 42 0 [.ref 17, .int p0, .int p1] [] δ Q := by
  unfold mi_wL
  refine ms_seq mB_42 mO_42 [(.aload_n 0, 1)] (pc' := 1) (L' := [.ref 17, .int p0, .int p1]) (st' := [.ref 17]) ⟨dX2_amountOf_0, trivial⟩ rfl ?_
  refine ms_getR mB_42 mO_42 dX2_amountOf_1 mF_2_44 (gk_17 N) rfl (b := 26) (gr_17_8 N) ?_
  refine ms_seq mB_42 mO_42 [(.aload_n 0, 1)] (pc' := 5) (L' := [.ref 17, .int p0, .int p1]) (st' := [.ref 17, .ref 26]) ⟨dX2_amountOf_4, trivial⟩ rfl ?_
  refine ms_getR mB_42 mO_42 dX2_amountOf_5 mF_2_35 (gk_17 N) rfl (b := 24) (gr_17_6 N) ?_
  refine ms_seq mB_42 mO_42 [(.iload_n 1, 1)] (pc' := 9) (L' := [.ref 17, .int p0, .int p1]) (st' := [.int p0, .ref 24, .ref 26]) ⟨dX2_amountOf_8, trivial⟩ rfl ?_
  refine ms_at mB_42 mO_42 hd dX2_amountOf_9 mQ_2_65 (Nat.le_of_ble_eq_true rfl) (gk_24 N) (mi_ne (gl_24 N)) ?_
  refine ms_seq mB_42 mO_42 [(.iload_n 2, 1), (.iadd, 1)] (pc' := 14) (L' := [.ref 17, .int p0, .int p1]) (st' := [.int ((mi_at δ 24 p0) + p1), .ref 26]) ⟨dX2_amountOf_12, dX2_amountOf_13, trivial⟩ rfl ?_
  refine ms_al mB_42 mO_42 hd dX2_amountOf_14 mQ_2_72 (Nat.le_of_ble_eq_true rfl) (gk_26 N) (mi_ne (gl_26 N)) ?_
  exact ms_lret mB_42 dX2_amountOf_17 mR_42 ⟨_, rfl, rfl, F⟩
set_option maxRecDepth 100000 in
theorem q2_turn_0 {N d : Nat} (hd : 5 ≤ d) {ln la lb lim : Nat} (hl : mi_Ls ln la lb lim) {p0 : Int32} {δ : mi_D} {Q : mi_D → Prop} (F : (mi_wV N (d - 1) 62 0 [.ref ln] [] δ (fun δ1 => mi_wV N d 43 6 [.ref 17, .int p0, .ref ln, .int 0] [] δ1 Q))) : mi_wV N d 43 0 [.ref 17, .int p0, .ref ln, .null] [] δ Q := by
  unfold mi_wV
  obtain ⟨hk_ln, hr_ln_0, hr_ln_1, hk_la, hk_lb, hl_la, hl_lb⟩ := hl.all N
  refine ms_seq mB_43 mO_43 [(.aload_n 2, 1)] (pc' := 1) (L' := [.ref 17, .int p0, .ref ln, .null]) (st' := [.ref ln]) ⟨dX2_turn_0, trivial⟩ rfl ?_
  refine ms_callvV mB_43 mO_43 (by omega) dX2_turn_1 mQ_2_78 mC_2_78 mL_62 mO_62 rfl (Nat.le_of_ble_eq_true rfl) (Nat.le_of_ble_eq_true rfl) (hk_ln) rfl F (fun δ1 F => ?_)
  refine ms_seq mB_43 mO_43 [(.iconst 0, 1), (.istore_n 3, 1)] (pc' := 6) (L' := [.ref 17, .int p0, .ref ln, .int 0]) (st' := []) ⟨dX2_turn_4, dX2_turn_5, trivial⟩ rfl ?_
  exact F
set_option maxRecDepth 100000 in
theorem q2_turn_6 {N d : Nat} (hd : 5 ≤ d) {ln la lb lim : Nat} (hl : mi_Ls ln la lb lim) {l1 l3 : Int32} {δ : mi_D} {Q : mi_D → Prop} (F : ((l3 < (mi_at δ 21 l1) → (mi_wI N (d - 1) 41 0 [.ref 17, .int l1, .int l3] [] δ (fun r2 δ1 => (mi_wL N (d - 1) 42 0 [.ref 17, .int l1, .int l3] [] δ1 (fun r4 δ3 => (mi_wV N (d - 1) 63 0 [.ref ln, .int r2, .long (-r4), .null] [] δ3 (fun δ5 => mi_wV N d 43 6 [.ref 17, .int l1, .ref ln, .int (l3 + 1)] [] δ5 Q))))))) ∧ (¬ l3 < (mi_at δ 21 l1) → Q δ))) : mi_wV N d 43 6 [.ref 17, .int l1, .ref ln, .int l3] [] δ Q := by
  unfold mi_wV
  obtain ⟨hk_ln, hr_ln_0, hr_ln_1, hk_la, hk_lb, hl_la, hl_lb⟩ := hl.all N
  refine ms_seq mB_43 mO_43 [(.iload_n 3, 1), (.aload_n 0, 1)] (pc' := 8) (L' := [.ref 17, .int l1, .ref ln, .int l3]) (st' := [.ref 17, .int l3]) ⟨dX2_turn_6, dX2_turn_7, trivial⟩ rfl ?_
  refine ms_getR mB_43 mO_43 dX2_turn_8 mF_2_26 (gk_17 N) rfl (b := 21) (gr_17_3 N) ?_
  refine ms_seq mB_43 mO_43 [(.iload_n 1, 1)] (pc' := 12) (L' := [.ref 17, .int l1, .ref ln, .int l3]) (st' := [.int l1, .ref 21, .int l3]) ⟨dX2_turn_11, trivial⟩ rfl ?_
  refine ms_at mB_43 mO_43 hd dX2_turn_12 mQ_2_65 (Nat.le_of_ble_eq_true rfl) (gk_21 N) (mi_ne (gl_21 N)) ?_
  refine ms_icmp_ge mB_43 dX2_turn_15 (t := 41) rfl (fun c => ?_) (fun c => ?_)
  · have F := F.2 c
    exact ms_vret mB_43 dX2_turn_41 mR_43 ⟨rfl, rfl, F⟩
  · have F := F.1 c
    refine ms_seq mB_43 mO_43 [(.aload_n 2, 1), (.aload_n 0, 1), (.iload_n 1, 1), (.iload_n 3, 1)] (pc' := 22) (L' := [.ref 17, .int l1, .ref ln, .int l3]) (st' := [.int l3, .int l1, .ref 17, .ref ln]) ⟨dX2_turn_18, dX2_turn_19, dX2_turn_20, dX2_turn_21, trivial⟩ rfl ?_
    refine ms_callvI mB_43 mO_43 (by omega) dX2_turn_22 mQ_2_81 mC_2_81 mL_41 mO_41 rfl (Nat.le_of_ble_eq_true rfl) (Nat.le_of_ble_eq_true rfl) (gk_17 N) rfl F (fun r2 δ1 F => ?_)
    refine ms_seq mB_43 mO_43 [(.aload_n 0, 1), (.iload_n 1, 1), (.iload_n 3, 1)] (pc' := 28) (L' := [.ref 17, .int l1, .ref ln, .int l3]) (st' := [.int l3, .int l1, .ref 17, .int r2, .ref ln]) ⟨dX2_turn_25, dX2_turn_26, dX2_turn_27, trivial⟩ rfl ?_
    refine ms_callvL mB_43 mO_43 (by omega) dX2_turn_28 mQ_2_85 mC_2_85 mL_42 mO_42 rfl (Nat.le_of_ble_eq_true rfl) (Nat.le_of_ble_eq_true rfl) (gk_17 N) rfl F (fun r4 δ3 F => ?_)
    refine ms_seq mB_43 mO_43 [(.lneg, 1)] (pc' := 32) (L' := [.ref 17, .int l1, .ref ln, .int l3]) (st' := [.long (-r4), .int r2, .ref ln]) ⟨dX2_turn_31, trivial⟩ rfl ?_
    refine ms_callvV mB_43 mO_43 (by omega) dX2_turn_32 mQ_2_89 mC_2_89 mL_63 mO_63 rfl (Nat.le_of_ble_eq_true rfl) (Nat.le_of_ble_eq_true rfl) (hk_ln) rfl F (fun δ5 F => ?_)
    refine ms_seq mB_43 mO_43 [(.iinc 3 1, 3)] (pc' := 38) (L' := [.ref 17, .int l1, .ref ln, .int (l3 + 1)]) (st' := []) ⟨dX2_turn_35, trivial⟩ rfl ?_
    refine ms_goto mB_43 dX2_turn_38 (t := 6) rfl ?_
    exact F
set_option maxRecDepth 100000 in
theorem q2_gather_0 {N d : Nat} (hd : 5 ≤ d) {rw rlim : Nat} (hk_rw : mi_k (mi_GG N) rw = 6) (hl_rw : mi_len (mi_GG N) rw = rlim + 1) {p0 p1 : Int32} {δ : mi_D} {Q : mi_D → Prop} (F : (∀ δ1 : mi_D, δ1 = mi_clrL δ rw → mi_wV N d 44 7 [.ref 17, .int p0, .int p1, .ref rw, .int 0, .null, .null] [] δ1 Q)) : mi_wV N d 44 0 [.ref 17, .int p0, .int p1, .ref rw, .null, .null, .null] [] δ Q := by
  unfold mi_wV
  refine ms_seq mB_44 mO_44 [(.aload_n 3, 1)] (pc' := 1) (L' := [.ref 17, .int p0, .int p1, .ref rw, .null, .null, .null]) (st' := [.ref rw]) ⟨dX2_gather_0, trivial⟩ rfl ?_
  refine ms_clear mB_44 mO_44 hd dX2_gather_1 mQ_2_92 (Nat.le_of_ble_eq_true rfl) (hk_rw) (mi_ne (hl_rw)) ?_
  refine mr_st (fun δ1 e_δ1 => ?_)
  have F := F δ1 e_δ1
  refine ms_seq mB_44 mO_44 [(.iconst 0, 1), (.istore 4, 2)] (pc' := 7) (L' := [.ref 17, .int p0, .int p1, .ref rw, .int 0, .null, .null]) (st' := []) ⟨dX2_gather_4, dX2_gather_5, trivial⟩ rfl ?_
  exact F
set_option maxRecDepth 100000 in
theorem q2_gather_7 {N d : Nat} (hd : 5 ≤ d) {rw rlim : Nat} (hk_rw : mi_k (mi_GG N) rw = 6) (hl_rw : mi_len (mi_GG N) rw = rlim + 1) {l1 l2 l4 : Int32} {δ : mi_D} {Q : mi_D → Prop} (F : ((l4 < (δ.1 17 9) → (((mi_at δ 18 l4) < l1 → mi_wV N d 44 7 [.ref 17, .int l1, .int l2, .ref rw, .int (l4 + 1), .null, .null] [] δ Q) ∧ (¬ (mi_at δ 18 l4) < l1 → ((l2 < (mi_at δ 18 l4) → mi_wV N d 44 7 [.ref 17, .int l1, .int l2, .ref rw, .int (l4 + 1), .null, .null] [] δ Q) ∧ (¬ l2 < (mi_at δ 18 l4) → mi_wV N d 44 45 [.ref 17, .int l1, .int l2, .ref rw, .int l4, .int 0, .null] [] δ Q))))) ∧ (¬ l4 < (δ.1 17 9) → Q δ))) : mi_wV N d 44 7 [.ref 17, .int l1, .int l2, .ref rw, .int l4, .null, .null] [] δ Q := by
  unfold mi_wV
  refine ms_seq mB_44 mO_44 [(.iload 4, 2), (.aload_n 0, 1)] (pc' := 10) (L' := [.ref 17, .int l1, .int l2, .ref rw, .int l4, .null, .null]) (st' := [.ref 17, .int l4]) ⟨dX2_gather_7, dX2_gather_9, trivial⟩ rfl ?_
  refine ms_getI mB_44 mO_44 dX2_gather_10 mF_2_48 (gk_17 N) (Or.inl rfl) ?_
  refine ms_icmp_ge mB_44 dX2_gather_13 (t := 102) rfl (fun c => ?_) (fun c => ?_)
  · have F := F.2 c
    exact ms_vret mB_44 dX2_gather_102 mR_44 ⟨rfl, rfl, F⟩
  · have F := F.1 c
    refine ms_seq mB_44 mO_44 [(.aload_n 0, 1)] (pc' := 17) (L' := [.ref 17, .int l1, .int l2, .ref rw, .int l4, .null, .null]) (st' := [.ref 17]) ⟨dX2_gather_16, trivial⟩ rfl ?_
    refine ms_getR mB_44 mO_44 dX2_gather_17 mF_2_14 (gk_17 N) rfl (b := 18) (gr_17_0 N) ?_
    refine ms_seq mB_44 mO_44 [(.iload 4, 2)] (pc' := 22) (L' := [.ref 17, .int l1, .int l2, .ref rw, .int l4, .null, .null]) (st' := [.int l4, .ref 18]) ⟨dX2_gather_20, trivial⟩ rfl ?_
    refine ms_at mB_44 mO_44 hd dX2_gather_22 mQ_2_65 (Nat.le_of_ble_eq_true rfl) (gk_18 N) (mi_ne (gl_18 N)) ?_
    refine ms_seq mB_44 mO_44 [(.iload_n 1, 1)] (pc' := 26) (L' := [.ref 17, .int l1, .int l2, .ref rw, .int l4, .null, .null]) (st' := [.int l1, .int (mi_at δ 18 l4)]) ⟨dX2_gather_25, trivial⟩ rfl ?_
    refine ms_icmp_lt mB_44 dX2_gather_26 (t := 96) rfl (fun c => ?_) (fun c => ?_)
    · have F := F.1 c
      refine ms_seq mB_44 mO_44 [(.iinc 4 1, 3)] (pc' := 99) (L' := [.ref 17, .int l1, .int l2, .ref rw, .int (l4 + 1), .null, .null]) (st' := []) ⟨dX2_gather_96, trivial⟩ rfl ?_
      refine ms_goto mB_44 dX2_gather_99 (t := 7) rfl ?_
      exact F
    · have F := F.2 c
      refine ms_seq mB_44 mO_44 [(.aload_n 0, 1)] (pc' := 30) (L' := [.ref 17, .int l1, .int l2, .ref rw, .int l4, .null, .null]) (st' := [.ref 17]) ⟨dX2_gather_29, trivial⟩ rfl ?_
      refine ms_getR mB_44 mO_44 dX2_gather_30 mF_2_14 (gk_17 N) rfl (b := 18) (gr_17_0 N) ?_
      refine ms_seq mB_44 mO_44 [(.iload 4, 2)] (pc' := 35) (L' := [.ref 17, .int l1, .int l2, .ref rw, .int l4, .null, .null]) (st' := [.int l4, .ref 18]) ⟨dX2_gather_33, trivial⟩ rfl ?_
      refine ms_at mB_44 mO_44 hd dX2_gather_35 mQ_2_65 (Nat.le_of_ble_eq_true rfl) (gk_18 N) (mi_ne (gl_18 N)) ?_
      refine ms_seq mB_44 mO_44 [(.iload_n 2, 1)] (pc' := 39) (L' := [.ref 17, .int l1, .int l2, .ref rw, .int l4, .null, .null]) (st' := [.int l2, .int (mi_at δ 18 l4)]) ⟨dX2_gather_38, trivial⟩ rfl ?_
      refine ms_icmp_gt mB_44 dX2_gather_39 (t := 96) rfl (fun c => ?_) (fun c => ?_)
      · have F := F.1 c
        refine ms_seq mB_44 mO_44 [(.iinc 4 1, 3)] (pc' := 99) (L' := [.ref 17, .int l1, .int l2, .ref rw, .int (l4 + 1), .null, .null]) (st' := []) ⟨dX2_gather_96, trivial⟩ rfl ?_
        refine ms_goto mB_44 dX2_gather_99 (t := 7) rfl ?_
        exact F
      · have F := F.2 c
        refine ms_seq mB_44 mO_44 [(.iconst 0, 1), (.istore 5, 2)] (pc' := 45) (L' := [.ref 17, .int l1, .int l2, .ref rw, .int l4, .int 0, .null]) (st' := []) ⟨dX2_gather_42, dX2_gather_43, trivial⟩ rfl ?_
        exact F
set_option maxRecDepth 100000 in
theorem q2_gather_45 {N d : Nat} (hd : 5 ≤ d) {rw rlim : Nat} (hk_rw : mi_k (mi_GG N) rw = 6) (hl_rw : mi_len (mi_GG N) rw = rlim + 1) {l1 l2 l4 l5 : Int32} {δ : mi_D} {Q : mi_D → Prop} (F : ((l5 < (mi_at δ 21 l4) → (mi_wI N (d - 1) 41 0 [.ref 17, .int l4, .int l5] [] δ (fun r2 δ1 => (mi_wL N (d - 1) 42 0 [.ref 17, .int l4, .int l5] [] δ1 (fun r4 δ3 => (∀ δ5 : mi_D, δ5 = mi_pl δ3 rw rlim r2 ((mi_al δ1 rw r2) + r4) → mi_wV N d 44 45 [.ref 17, .int l1, .int l2, .ref rw, .int l4, .int (l5 + 1), .int r2] [] δ5 Q)))))) ∧ (¬ l5 < (mi_at δ 21 l4) → mi_wV N d 44 7 [.ref 17, .int l1, .int l2, .ref rw, .int (l4 + 1), .int l5, .null] [] δ Q))) : mi_wV N d 44 45 [.ref 17, .int l1, .int l2, .ref rw, .int l4, .int l5, .null] [] δ Q := by
  unfold mi_wV
  refine ms_seq mB_44 mO_44 [(.iload 5, 2), (.aload_n 0, 1)] (pc' := 48) (L' := [.ref 17, .int l1, .int l2, .ref rw, .int l4, .int l5, .null]) (st' := [.ref 17, .int l5]) ⟨dX2_gather_45, dX2_gather_47, trivial⟩ rfl ?_
  refine ms_getR mB_44 mO_44 dX2_gather_48 mF_2_26 (gk_17 N) rfl (b := 21) (gr_17_3 N) ?_
  refine ms_seq mB_44 mO_44 [(.iload 4, 2)] (pc' := 53) (L' := [.ref 17, .int l1, .int l2, .ref rw, .int l4, .int l5, .null]) (st' := [.int l4, .ref 21, .int l5]) ⟨dX2_gather_51, trivial⟩ rfl ?_
  refine ms_at mB_44 mO_44 hd dX2_gather_53 mQ_2_65 (Nat.le_of_ble_eq_true rfl) (gk_21 N) (mi_ne (gl_21 N)) ?_
  refine ms_icmp_ge mB_44 dX2_gather_56 (t := 96) rfl (fun c => ?_) (fun c => ?_)
  · have F := F.2 c
    refine ms_seq mB_44 mO_44 [(.iinc 4 1, 3)] (pc' := 99) (L' := [.ref 17, .int l1, .int l2, .ref rw, .int (l4 + 1), .int l5, .null]) (st' := []) ⟨dX2_gather_96, trivial⟩ rfl ?_
    refine ms_goto mB_44 dX2_gather_99 (t := 7) rfl ?_
    exact F
  · have F := F.1 c
    refine ms_seq mB_44 mO_44 [(.aload_n 0, 1), (.iload 4, 2), (.iload 5, 2)] (pc' := 64) (L' := [.ref 17, .int l1, .int l2, .ref rw, .int l4, .int l5, .null]) (st' := [.int l5, .int l4, .ref 17]) ⟨dX2_gather_59, dX2_gather_60, dX2_gather_62, trivial⟩ rfl ?_
    refine ms_callvI mB_44 mO_44 (by omega) dX2_gather_64 mQ_2_81 mC_2_81 mL_41 mO_41 rfl (Nat.le_of_ble_eq_true rfl) (Nat.le_of_ble_eq_true rfl) (gk_17 N) rfl F (fun r2 δ1 F => ?_)
    refine ms_seq mB_44 mO_44 [(.istore 6, 2), (.aload_n 3, 1), (.iload 6, 2), (.aload_n 3, 1), (.iload 6, 2)] (pc' := 75) (L' := [.ref 17, .int l1, .int l2, .ref rw, .int l4, .int l5, .int r2]) (st' := [.int r2, .ref rw, .int r2, .ref rw]) ⟨dX2_gather_67, dX2_gather_69, dX2_gather_70, dX2_gather_72, dX2_gather_73, trivial⟩ rfl ?_
    refine ms_al mB_44 mO_44 hd dX2_gather_75 mQ_2_72 (Nat.le_of_ble_eq_true rfl) (hk_rw) (mi_ne (hl_rw)) ?_
    refine ms_seq mB_44 mO_44 [(.aload_n 0, 1), (.iload 4, 2), (.iload 5, 2)] (pc' := 83) (L' := [.ref 17, .int l1, .int l2, .ref rw, .int l4, .int l5, .int r2]) (st' := [.int l5, .int l4, .ref 17, .long (mi_al δ1 rw r2), .int r2, .ref rw]) ⟨dX2_gather_78, dX2_gather_79, dX2_gather_81, trivial⟩ rfl ?_
    refine ms_callvL mB_44 mO_44 (by omega) dX2_gather_83 mQ_2_85 mC_2_85 mL_42 mO_42 rfl (Nat.le_of_ble_eq_true rfl) (Nat.le_of_ble_eq_true rfl) (gk_17 N) rfl F (fun r4 δ3 F => ?_)
    refine ms_seq mB_44 mO_44 [(.ladd, 1)] (pc' := 87) (L' := [.ref 17, .int l1, .int l2, .ref rw, .int l4, .int l5, .int r2]) (st' := [.long ((mi_al δ1 rw r2) + r4), .int r2, .ref rw]) ⟨dX2_gather_86, trivial⟩ rfl ?_
    refine ms_pl mB_44 mO_44 (lim := rlim) hd dX2_gather_87 mQ_2_75 (Nat.le_of_ble_eq_true rfl) (hk_rw) (hl_rw) ?_
    refine mr_st (fun δ5 e_δ5 => ?_)
    have F := F δ5 e_δ5
    refine ms_seq mB_44 mO_44 [(.iinc 5 1, 3)] (pc' := 93) (L' := [.ref 17, .int l1, .int l2, .ref rw, .int l4, .int (l5 + 1), .int r2]) (st' := []) ⟨dX2_gather_90, trivial⟩ rfl ?_
    refine ms_goto mB_44 dX2_gather_93 (t := 45) rfl ?_
    exact F
set_option maxRecDepth 100000 in
theorem q2_gather_7a {N d : Nat} (hd : 5 ≤ d) {rw rlim : Nat} (hk_rw : mi_k (mi_GG N) rw = 6) (hl_rw : mi_len (mi_GG N) rw = rlim + 1) {l1 l2 l4 l5 : Int32} {δ : mi_D} {Q : mi_D → Prop} (F : ((l4 < (δ.1 17 9) → (((mi_at δ 18 l4) < l1 → mi_wV N d 44 7 [.ref 17, .int l1, .int l2, .ref rw, .int (l4 + 1), .int l5, .null] [] δ Q) ∧ (¬ (mi_at δ 18 l4) < l1 → ((l2 < (mi_at δ 18 l4) → mi_wV N d 44 7 [.ref 17, .int l1, .int l2, .ref rw, .int (l4 + 1), .int l5, .null] [] δ Q) ∧ (¬ l2 < (mi_at δ 18 l4) → mi_wV N d 44 45 [.ref 17, .int l1, .int l2, .ref rw, .int l4, .int 0, .null] [] δ Q))))) ∧ (¬ l4 < (δ.1 17 9) → Q δ))) : mi_wV N d 44 7 [.ref 17, .int l1, .int l2, .ref rw, .int l4, .int l5, .null] [] δ Q := by
  unfold mi_wV
  refine ms_seq mB_44 mO_44 [(.iload 4, 2), (.aload_n 0, 1)] (pc' := 10) (L' := [.ref 17, .int l1, .int l2, .ref rw, .int l4, .int l5, .null]) (st' := [.ref 17, .int l4]) ⟨dX2_gather_7, dX2_gather_9, trivial⟩ rfl ?_
  refine ms_getI mB_44 mO_44 dX2_gather_10 mF_2_48 (gk_17 N) (Or.inl rfl) ?_
  refine ms_icmp_ge mB_44 dX2_gather_13 (t := 102) rfl (fun c => ?_) (fun c => ?_)
  · have F := F.2 c
    exact ms_vret mB_44 dX2_gather_102 mR_44 ⟨rfl, rfl, F⟩
  · have F := F.1 c
    refine ms_seq mB_44 mO_44 [(.aload_n 0, 1)] (pc' := 17) (L' := [.ref 17, .int l1, .int l2, .ref rw, .int l4, .int l5, .null]) (st' := [.ref 17]) ⟨dX2_gather_16, trivial⟩ rfl ?_
    refine ms_getR mB_44 mO_44 dX2_gather_17 mF_2_14 (gk_17 N) rfl (b := 18) (gr_17_0 N) ?_
    refine ms_seq mB_44 mO_44 [(.iload 4, 2)] (pc' := 22) (L' := [.ref 17, .int l1, .int l2, .ref rw, .int l4, .int l5, .null]) (st' := [.int l4, .ref 18]) ⟨dX2_gather_20, trivial⟩ rfl ?_
    refine ms_at mB_44 mO_44 hd dX2_gather_22 mQ_2_65 (Nat.le_of_ble_eq_true rfl) (gk_18 N) (mi_ne (gl_18 N)) ?_
    refine ms_seq mB_44 mO_44 [(.iload_n 1, 1)] (pc' := 26) (L' := [.ref 17, .int l1, .int l2, .ref rw, .int l4, .int l5, .null]) (st' := [.int l1, .int (mi_at δ 18 l4)]) ⟨dX2_gather_25, trivial⟩ rfl ?_
    refine ms_icmp_lt mB_44 dX2_gather_26 (t := 96) rfl (fun c => ?_) (fun c => ?_)
    · have F := F.1 c
      refine ms_seq mB_44 mO_44 [(.iinc 4 1, 3)] (pc' := 99) (L' := [.ref 17, .int l1, .int l2, .ref rw, .int (l4 + 1), .int l5, .null]) (st' := []) ⟨dX2_gather_96, trivial⟩ rfl ?_
      refine ms_goto mB_44 dX2_gather_99 (t := 7) rfl ?_
      exact F
    · have F := F.2 c
      refine ms_seq mB_44 mO_44 [(.aload_n 0, 1)] (pc' := 30) (L' := [.ref 17, .int l1, .int l2, .ref rw, .int l4, .int l5, .null]) (st' := [.ref 17]) ⟨dX2_gather_29, trivial⟩ rfl ?_
      refine ms_getR mB_44 mO_44 dX2_gather_30 mF_2_14 (gk_17 N) rfl (b := 18) (gr_17_0 N) ?_
      refine ms_seq mB_44 mO_44 [(.iload 4, 2)] (pc' := 35) (L' := [.ref 17, .int l1, .int l2, .ref rw, .int l4, .int l5, .null]) (st' := [.int l4, .ref 18]) ⟨dX2_gather_33, trivial⟩ rfl ?_
      refine ms_at mB_44 mO_44 hd dX2_gather_35 mQ_2_65 (Nat.le_of_ble_eq_true rfl) (gk_18 N) (mi_ne (gl_18 N)) ?_
      refine ms_seq mB_44 mO_44 [(.iload_n 2, 1)] (pc' := 39) (L' := [.ref 17, .int l1, .int l2, .ref rw, .int l4, .int l5, .null]) (st' := [.int l2, .int (mi_at δ 18 l4)]) ⟨dX2_gather_38, trivial⟩ rfl ?_
      refine ms_icmp_gt mB_44 dX2_gather_39 (t := 96) rfl (fun c => ?_) (fun c => ?_)
      · have F := F.1 c
        refine ms_seq mB_44 mO_44 [(.iinc 4 1, 3)] (pc' := 99) (L' := [.ref 17, .int l1, .int l2, .ref rw, .int (l4 + 1), .int l5, .null]) (st' := []) ⟨dX2_gather_96, trivial⟩ rfl ?_
        refine ms_goto mB_44 dX2_gather_99 (t := 7) rfl ?_
        exact F
      · have F := F.2 c
        refine ms_seq mB_44 mO_44 [(.iconst 0, 1), (.istore 5, 2)] (pc' := 45) (L' := [.ref 17, .int l1, .int l2, .ref rw, .int l4, .int 0, .null]) (st' := []) ⟨dX2_gather_42, dX2_gather_43, trivial⟩ rfl ?_
        exact F
set_option maxRecDepth 100000 in
theorem q2_gather_45a {N d : Nat} (hd : 5 ≤ d) {rw rlim : Nat} (hk_rw : mi_k (mi_GG N) rw = 6) (hl_rw : mi_len (mi_GG N) rw = rlim + 1) {l1 l2 l4 l5 l6 : Int32} {δ : mi_D} {Q : mi_D → Prop} (F : ((l5 < (mi_at δ 21 l4) → (mi_wI N (d - 1) 41 0 [.ref 17, .int l4, .int l5] [] δ (fun r2 δ1 => (mi_wL N (d - 1) 42 0 [.ref 17, .int l4, .int l5] [] δ1 (fun r4 δ3 => (∀ δ5 : mi_D, δ5 = mi_pl δ3 rw rlim r2 ((mi_al δ1 rw r2) + r4) → mi_wV N d 44 45 [.ref 17, .int l1, .int l2, .ref rw, .int l4, .int (l5 + 1), .int r2] [] δ5 Q)))))) ∧ (¬ l5 < (mi_at δ 21 l4) → mi_wV N d 44 7 [.ref 17, .int l1, .int l2, .ref rw, .int (l4 + 1), .int l5, .int l6] [] δ Q))) : mi_wV N d 44 45 [.ref 17, .int l1, .int l2, .ref rw, .int l4, .int l5, .int l6] [] δ Q := by
  unfold mi_wV
  refine ms_seq mB_44 mO_44 [(.iload 5, 2), (.aload_n 0, 1)] (pc' := 48) (L' := [.ref 17, .int l1, .int l2, .ref rw, .int l4, .int l5, .int l6]) (st' := [.ref 17, .int l5]) ⟨dX2_gather_45, dX2_gather_47, trivial⟩ rfl ?_
  refine ms_getR mB_44 mO_44 dX2_gather_48 mF_2_26 (gk_17 N) rfl (b := 21) (gr_17_3 N) ?_
  refine ms_seq mB_44 mO_44 [(.iload 4, 2)] (pc' := 53) (L' := [.ref 17, .int l1, .int l2, .ref rw, .int l4, .int l5, .int l6]) (st' := [.int l4, .ref 21, .int l5]) ⟨dX2_gather_51, trivial⟩ rfl ?_
  refine ms_at mB_44 mO_44 hd dX2_gather_53 mQ_2_65 (Nat.le_of_ble_eq_true rfl) (gk_21 N) (mi_ne (gl_21 N)) ?_
  refine ms_icmp_ge mB_44 dX2_gather_56 (t := 96) rfl (fun c => ?_) (fun c => ?_)
  · have F := F.2 c
    refine ms_seq mB_44 mO_44 [(.iinc 4 1, 3)] (pc' := 99) (L' := [.ref 17, .int l1, .int l2, .ref rw, .int (l4 + 1), .int l5, .int l6]) (st' := []) ⟨dX2_gather_96, trivial⟩ rfl ?_
    refine ms_goto mB_44 dX2_gather_99 (t := 7) rfl ?_
    exact F
  · have F := F.1 c
    refine ms_seq mB_44 mO_44 [(.aload_n 0, 1), (.iload 4, 2), (.iload 5, 2)] (pc' := 64) (L' := [.ref 17, .int l1, .int l2, .ref rw, .int l4, .int l5, .int l6]) (st' := [.int l5, .int l4, .ref 17]) ⟨dX2_gather_59, dX2_gather_60, dX2_gather_62, trivial⟩ rfl ?_
    refine ms_callvI mB_44 mO_44 (by omega) dX2_gather_64 mQ_2_81 mC_2_81 mL_41 mO_41 rfl (Nat.le_of_ble_eq_true rfl) (Nat.le_of_ble_eq_true rfl) (gk_17 N) rfl F (fun r2 δ1 F => ?_)
    refine ms_seq mB_44 mO_44 [(.istore 6, 2), (.aload_n 3, 1), (.iload 6, 2), (.aload_n 3, 1), (.iload 6, 2)] (pc' := 75) (L' := [.ref 17, .int l1, .int l2, .ref rw, .int l4, .int l5, .int r2]) (st' := [.int r2, .ref rw, .int r2, .ref rw]) ⟨dX2_gather_67, dX2_gather_69, dX2_gather_70, dX2_gather_72, dX2_gather_73, trivial⟩ rfl ?_
    refine ms_al mB_44 mO_44 hd dX2_gather_75 mQ_2_72 (Nat.le_of_ble_eq_true rfl) (hk_rw) (mi_ne (hl_rw)) ?_
    refine ms_seq mB_44 mO_44 [(.aload_n 0, 1), (.iload 4, 2), (.iload 5, 2)] (pc' := 83) (L' := [.ref 17, .int l1, .int l2, .ref rw, .int l4, .int l5, .int r2]) (st' := [.int l5, .int l4, .ref 17, .long (mi_al δ1 rw r2), .int r2, .ref rw]) ⟨dX2_gather_78, dX2_gather_79, dX2_gather_81, trivial⟩ rfl ?_
    refine ms_callvL mB_44 mO_44 (by omega) dX2_gather_83 mQ_2_85 mC_2_85 mL_42 mO_42 rfl (Nat.le_of_ble_eq_true rfl) (Nat.le_of_ble_eq_true rfl) (gk_17 N) rfl F (fun r4 δ3 F => ?_)
    refine ms_seq mB_44 mO_44 [(.ladd, 1)] (pc' := 87) (L' := [.ref 17, .int l1, .int l2, .ref rw, .int l4, .int l5, .int r2]) (st' := [.long ((mi_al δ1 rw r2) + r4), .int r2, .ref rw]) ⟨dX2_gather_86, trivial⟩ rfl ?_
    refine ms_pl mB_44 mO_44 (lim := rlim) hd dX2_gather_87 mQ_2_75 (Nat.le_of_ble_eq_true rfl) (hk_rw) (hl_rw) ?_
    refine mr_st (fun δ5 e_δ5 => ?_)
    have F := F δ5 e_δ5
    refine ms_seq mB_44 mO_44 [(.iinc 5 1, 3)] (pc' := 93) (L' := [.ref 17, .int l1, .int l2, .ref rw, .int l4, .int (l5 + 1), .int r2]) (st' := []) ⟨dX2_gather_90, trivial⟩ rfl ?_
    refine ms_goto mB_44 dX2_gather_93 (t := 45) rfl ?_
    exact F
set_option maxRecDepth 100000 in
theorem q2_gather_7b {N d : Nat} (hd : 5 ≤ d) {rw rlim : Nat} (hk_rw : mi_k (mi_GG N) rw = 6) (hl_rw : mi_len (mi_GG N) rw = rlim + 1) {l1 l2 l4 l5 l6 : Int32} {δ : mi_D} {Q : mi_D → Prop} (F : ((l4 < (δ.1 17 9) → (((mi_at δ 18 l4) < l1 → mi_wV N d 44 7 [.ref 17, .int l1, .int l2, .ref rw, .int (l4 + 1), .int l5, .int l6] [] δ Q) ∧ (¬ (mi_at δ 18 l4) < l1 → ((l2 < (mi_at δ 18 l4) → mi_wV N d 44 7 [.ref 17, .int l1, .int l2, .ref rw, .int (l4 + 1), .int l5, .int l6] [] δ Q) ∧ (¬ l2 < (mi_at δ 18 l4) → mi_wV N d 44 45 [.ref 17, .int l1, .int l2, .ref rw, .int l4, .int 0, .int l6] [] δ Q))))) ∧ (¬ l4 < (δ.1 17 9) → Q δ))) : mi_wV N d 44 7 [.ref 17, .int l1, .int l2, .ref rw, .int l4, .int l5, .int l6] [] δ Q := by
  unfold mi_wV
  refine ms_seq mB_44 mO_44 [(.iload 4, 2), (.aload_n 0, 1)] (pc' := 10) (L' := [.ref 17, .int l1, .int l2, .ref rw, .int l4, .int l5, .int l6]) (st' := [.ref 17, .int l4]) ⟨dX2_gather_7, dX2_gather_9, trivial⟩ rfl ?_
  refine ms_getI mB_44 mO_44 dX2_gather_10 mF_2_48 (gk_17 N) (Or.inl rfl) ?_
  refine ms_icmp_ge mB_44 dX2_gather_13 (t := 102) rfl (fun c => ?_) (fun c => ?_)
  · have F := F.2 c
    exact ms_vret mB_44 dX2_gather_102 mR_44 ⟨rfl, rfl, F⟩
  · have F := F.1 c
    refine ms_seq mB_44 mO_44 [(.aload_n 0, 1)] (pc' := 17) (L' := [.ref 17, .int l1, .int l2, .ref rw, .int l4, .int l5, .int l6]) (st' := [.ref 17]) ⟨dX2_gather_16, trivial⟩ rfl ?_
    refine ms_getR mB_44 mO_44 dX2_gather_17 mF_2_14 (gk_17 N) rfl (b := 18) (gr_17_0 N) ?_
    refine ms_seq mB_44 mO_44 [(.iload 4, 2)] (pc' := 22) (L' := [.ref 17, .int l1, .int l2, .ref rw, .int l4, .int l5, .int l6]) (st' := [.int l4, .ref 18]) ⟨dX2_gather_20, trivial⟩ rfl ?_
    refine ms_at mB_44 mO_44 hd dX2_gather_22 mQ_2_65 (Nat.le_of_ble_eq_true rfl) (gk_18 N) (mi_ne (gl_18 N)) ?_
    refine ms_seq mB_44 mO_44 [(.iload_n 1, 1)] (pc' := 26) (L' := [.ref 17, .int l1, .int l2, .ref rw, .int l4, .int l5, .int l6]) (st' := [.int l1, .int (mi_at δ 18 l4)]) ⟨dX2_gather_25, trivial⟩ rfl ?_
    refine ms_icmp_lt mB_44 dX2_gather_26 (t := 96) rfl (fun c => ?_) (fun c => ?_)
    · have F := F.1 c
      refine ms_seq mB_44 mO_44 [(.iinc 4 1, 3)] (pc' := 99) (L' := [.ref 17, .int l1, .int l2, .ref rw, .int (l4 + 1), .int l5, .int l6]) (st' := []) ⟨dX2_gather_96, trivial⟩ rfl ?_
      refine ms_goto mB_44 dX2_gather_99 (t := 7) rfl ?_
      exact F
    · have F := F.2 c
      refine ms_seq mB_44 mO_44 [(.aload_n 0, 1)] (pc' := 30) (L' := [.ref 17, .int l1, .int l2, .ref rw, .int l4, .int l5, .int l6]) (st' := [.ref 17]) ⟨dX2_gather_29, trivial⟩ rfl ?_
      refine ms_getR mB_44 mO_44 dX2_gather_30 mF_2_14 (gk_17 N) rfl (b := 18) (gr_17_0 N) ?_
      refine ms_seq mB_44 mO_44 [(.iload 4, 2)] (pc' := 35) (L' := [.ref 17, .int l1, .int l2, .ref rw, .int l4, .int l5, .int l6]) (st' := [.int l4, .ref 18]) ⟨dX2_gather_33, trivial⟩ rfl ?_
      refine ms_at mB_44 mO_44 hd dX2_gather_35 mQ_2_65 (Nat.le_of_ble_eq_true rfl) (gk_18 N) (mi_ne (gl_18 N)) ?_
      refine ms_seq mB_44 mO_44 [(.iload_n 2, 1)] (pc' := 39) (L' := [.ref 17, .int l1, .int l2, .ref rw, .int l4, .int l5, .int l6]) (st' := [.int l2, .int (mi_at δ 18 l4)]) ⟨dX2_gather_38, trivial⟩ rfl ?_
      refine ms_icmp_gt mB_44 dX2_gather_39 (t := 96) rfl (fun c => ?_) (fun c => ?_)
      · have F := F.1 c
        refine ms_seq mB_44 mO_44 [(.iinc 4 1, 3)] (pc' := 99) (L' := [.ref 17, .int l1, .int l2, .ref rw, .int (l4 + 1), .int l5, .int l6]) (st' := []) ⟨dX2_gather_96, trivial⟩ rfl ?_
        refine ms_goto mB_44 dX2_gather_99 (t := 7) rfl ?_
        exact F
      · have F := F.2 c
        refine ms_seq mB_44 mO_44 [(.iconst 0, 1), (.istore 5, 2)] (pc' := 45) (L' := [.ref 17, .int l1, .int l2, .ref rw, .int l4, .int 0, .int l6]) (st' := []) ⟨dX2_gather_42, dX2_gather_43, trivial⟩ rfl ?_
        exact F
set_option maxRecDepth 100000 in
theorem q2_ledgerLine_0 {N d : Nat} (hd : 5 ≤ d) {p0 p1 p2 : Int32} {δ : mi_D} {Q : Int64 → mi_D → Prop} (F : mi_wL N d 45 9 [.ref 17, .int p0, .int p1, .int p2, .int 0, .long 0, .null, .int 0, .null] [] δ Q) : mi_wL N d 45 0 [.ref 17, .int p0, .int p1, .int p2, .null, .null, .null, .null, .null] [] δ Q := by
  unfold mi_wL
  refine ms_seq mB_45 mO_45 [(.iconst 0, 1), (.istore 4, 2), (.lconst 0, 1), (.lstore 5, 2), (.iconst 0, 1), (.istore 7, 2)] (pc' := 9) (L' := [.ref 17, .int p0, .int p1, .int p2, .int 0, .long 0, .null, .int 0, .null]) (st' := []) ⟨dX2_ledgerLine_0, dX2_ledgerLine_1, dX2_ledgerLine_3, dX2_ledgerLine_4, dX2_ledgerLine_6, dX2_ledgerLine_7, trivial⟩ rfl ?_
  exact F
set_option maxRecDepth 100000 in
theorem q2_ledgerLine_9 {N d : Nat} (hd : 5 ≤ d) {l1 l2 l3 l4 l7 : Int32} {l5 : Int64} {δ : mi_D} {Q : Int64 → mi_D → Prop} (F : ((l7 < (δ.1 17 9) → mi_wL N d 45 21 [.ref 17, .int l1, .int l2, .int l3, .int l4, .long l5, .null, .int l7, .int 0] [] δ Q) ∧ (¬ l7 < (δ.1 17 9) → Q (-9223372036854775808) δ))) : mi_wL N d 45 9 [.ref 17, .int l1, .int l2, .int l3, .int l4, .long l5, .null, .int l7, .null] [] δ Q := by
  unfold mi_wL
  refine ms_seq mB_45 mO_45 [(.iload 7, 2), (.aload_n 0, 1)] (pc' := 12) (L' := [.ref 17, .int l1, .int l2, .int l3, .int l4, .long l5, .null, .int l7, .null]) (st' := [.ref 17, .int l7]) ⟨dX2_ledgerLine_9, dX2_ledgerLine_11, trivial⟩ rfl ?_
  refine ms_getI mB_45 mO_45 dX2_ledgerLine_12 mF_2_48 (gk_17 N) (Or.inl rfl) ?_
  refine ms_icmp_ge mB_45 dX2_ledgerLine_15 (t := 98) rfl (fun c => ?_) (fun c => ?_)
  · have F := F.2 c
    refine ms_seq mB_45 mO_45 [(.ldc2_w 97, 3)] (pc' := 101) (L' := [.ref 17, .int l1, .int l2, .int l3, .int l4, .long l5, .null, .int l7, .null]) (st' := [.long (-9223372036854775808)]) ⟨dX2_ledgerLine_98, trivial⟩ rfl ?_
    exact ms_lret mB_45 dX2_ledgerLine_101 mR_45 ⟨_, rfl, rfl, F⟩
  · have F := F.1 c
    refine ms_seq mB_45 mO_45 [(.iconst 0, 1), (.istore 8, 2)] (pc' := 21) (L' := [.ref 17, .int l1, .int l2, .int l3, .int l4, .long l5, .null, .int l7, .int 0]) (st' := []) ⟨dX2_ledgerLine_18, dX2_ledgerLine_19, trivial⟩ rfl ?_
    exact F
set_option maxRecDepth 100000 in
theorem q2_ledgerLine_21 {N d : Nat} (hd : 5 ≤ d) {l1 l2 l3 l4 l7 l8 : Int32} {l5 : Int64} {δ : mi_D} {Q : Int64 → mi_D → Prop} (F : ((l8 < (mi_at δ 21 l7) → (mi_wI N (d - 1) 41 0 [.ref 17, .int l7, .int l8] [] δ (fun r2 δ1 => ((r2 = l1 → (mi_wL N (d - 1) 42 0 [.ref 17, .int l7, .int l8] [] δ1 (fun r4 δ3 => (∀ x5 : Int64, x5 = (l5 + r4) → ((l4 = l2 → (mi_wL N (d - 1) 42 0 [.ref 17, .int l7, .int l8] [] δ3 (fun r7 δ6 => (mi_wL N (d - 1) 46 0 [.int l7, .long r7, .null, .long x5, .null, .int l3] [] δ6 (fun r9 δ8 => Q r9 δ8))))) ∧ (¬ l4 = l2 → mi_wL N d 45 21 [.ref 17, .int l1, .int l2, .int l3, .int (l4 + 1), .long x5, .null, .int l7, .int (l8 + 1)] [] δ3 Q)))))) ∧ (¬ r2 = l1 → mi_wL N d 45 21 [.ref 17, .int l1, .int l2, .int l3, .int l4, .long l5, .null, .int l7, .int (l8 + 1)] [] δ1 Q))))) ∧ (¬ l8 < (mi_at δ 21 l7) → mi_wL N d 45 9 [.ref 17, .int l1, .int l2, .int l3, .int l4, .long l5, .null, .int (l7 + 1), .int l8] [] δ Q))) : mi_wL N d 45 21 [.ref 17, .int l1, .int l2, .int l3, .int l4, .long l5, .null, .int l7, .int l8] [] δ Q := by
  unfold mi_wL
  refine ms_seq mB_45 mO_45 [(.iload 8, 2), (.aload_n 0, 1)] (pc' := 24) (L' := [.ref 17, .int l1, .int l2, .int l3, .int l4, .long l5, .null, .int l7, .int l8]) (st' := [.ref 17, .int l8]) ⟨dX2_ledgerLine_21, dX2_ledgerLine_23, trivial⟩ rfl ?_
  refine ms_getR mB_45 mO_45 dX2_ledgerLine_24 mF_2_26 (gk_17 N) rfl (b := 21) (gr_17_3 N) ?_
  refine ms_seq mB_45 mO_45 [(.iload 7, 2)] (pc' := 29) (L' := [.ref 17, .int l1, .int l2, .int l3, .int l4, .long l5, .null, .int l7, .int l8]) (st' := [.int l7, .ref 21, .int l8]) ⟨dX2_ledgerLine_27, trivial⟩ rfl ?_
  refine ms_at mB_45 mO_45 hd dX2_ledgerLine_29 mQ_2_65 (Nat.le_of_ble_eq_true rfl) (gk_21 N) (mi_ne (gl_21 N)) ?_
  refine ms_icmp_ge mB_45 dX2_ledgerLine_32 (t := 92) rfl (fun c => ?_) (fun c => ?_)
  · have F := F.2 c
    refine ms_seq mB_45 mO_45 [(.iinc 7 1, 3)] (pc' := 95) (L' := [.ref 17, .int l1, .int l2, .int l3, .int l4, .long l5, .null, .int (l7 + 1), .int l8]) (st' := []) ⟨dX2_ledgerLine_92, trivial⟩ rfl ?_
    refine ms_goto mB_45 dX2_ledgerLine_95 (t := 9) rfl ?_
    exact F
  · have F := F.1 c
    refine ms_seq mB_45 mO_45 [(.aload_n 0, 1), (.iload 7, 2), (.iload 8, 2)] (pc' := 40) (L' := [.ref 17, .int l1, .int l2, .int l3, .int l4, .long l5, .null, .int l7, .int l8]) (st' := [.int l8, .int l7, .ref 17]) ⟨dX2_ledgerLine_35, dX2_ledgerLine_36, dX2_ledgerLine_38, trivial⟩ rfl ?_
    refine ms_callvI mB_45 mO_45 (by omega) dX2_ledgerLine_40 mQ_2_81 mC_2_81 mL_41 mO_41 rfl (Nat.le_of_ble_eq_true rfl) (Nat.le_of_ble_eq_true rfl) (gk_17 N) rfl F (fun r2 δ1 F => ?_)
    refine ms_seq mB_45 mO_45 [(.iload_n 1, 1)] (pc' := 44) (L' := [.ref 17, .int l1, .int l2, .int l3, .int l4, .long l5, .null, .int l7, .int l8]) (st' := [.int l1, .int r2]) ⟨dX2_ledgerLine_43, trivial⟩ rfl ?_
    refine ms_icmp_ne mB_45 dX2_ledgerLine_44 (t := 86) rfl (fun c => ?_) (fun c => ?_)
    · have F := F.2 c
      refine ms_seq mB_45 mO_45 [(.iinc 8 1, 3)] (pc' := 89) (L' := [.ref 17, .int l1, .int l2, .int l3, .int l4, .long l5, .null, .int l7, .int (l8 + 1)]) (st' := []) ⟨dX2_ledgerLine_86, trivial⟩ rfl ?_
      refine ms_goto mB_45 dX2_ledgerLine_89 (t := 21) rfl ?_
      exact F
    · have F := F.1 c
      refine ms_seq mB_45 mO_45 [(.lload 5, 2), (.aload_n 0, 1), (.iload 7, 2), (.iload 8, 2)] (pc' := 54) (L' := [.ref 17, .int l1, .int l2, .int l3, .int l4, .long l5, .null, .int l7, .int l8]) (st' := [.int l8, .int l7, .ref 17, .long l5]) ⟨dX2_ledgerLine_47, dX2_ledgerLine_49, dX2_ledgerLine_50, dX2_ledgerLine_52, trivial⟩ rfl ?_
      refine ms_callvL mB_45 mO_45 (by omega) dX2_ledgerLine_54 mQ_2_85 mC_2_85 mL_42 mO_42 rfl (Nat.le_of_ble_eq_true rfl) (Nat.le_of_ble_eq_true rfl) (gk_17 N) rfl F (fun r4 δ3 F => ?_)
      refine ms_seq mB_45 mO_45 [(.ladd, 1)] (pc' := 58) (L' := [.ref 17, .int l1, .int l2, .int l3, .int l4, .long l5, .null, .int l7, .int l8]) (st' := [.long (l5 + r4)]) ⟨dX2_ledgerLine_57, trivial⟩ rfl ?_
      refine mr_topl (fun x5 e_x5 => ?_)
      have F := F x5 e_x5
      refine ms_seq mB_45 mO_45 [(.lstore 5, 2), (.iload 4, 2), (.iload_n 2, 1)] (pc' := 63) (L' := [.ref 17, .int l1, .int l2, .int l3, .int l4, .long x5, .null, .int l7, .int l8]) (st' := [.int l2, .int l4]) ⟨dX2_ledgerLine_58, dX2_ledgerLine_60, dX2_ledgerLine_62, trivial⟩ rfl ?_
      refine ms_icmp_ne mB_45 dX2_ledgerLine_63 (t := 83) rfl (fun c => ?_) (fun c => ?_)
      · have F := F.2 c
        refine ms_seq mB_45 mO_45 [(.iinc 4 1, 3), (.iinc 8 1, 3)] (pc' := 89) (L' := [.ref 17, .int l1, .int l2, .int l3, .int (l4 + 1), .long x5, .null, .int l7, .int (l8 + 1)]) (st' := []) ⟨dX2_ledgerLine_83, dX2_ledgerLine_86, trivial⟩ rfl ?_
        refine ms_goto mB_45 dX2_ledgerLine_89 (t := 21) rfl ?_
        exact F
      · have F := F.1 c
        refine ms_seq mB_45 mO_45 [(.iload 7, 2), (.aload_n 0, 1), (.iload 7, 2), (.iload 8, 2)] (pc' := 73) (L' := [.ref 17, .int l1, .int l2, .int l3, .int l4, .long x5, .null, .int l7, .int l8]) (st' := [.int l8, .int l7, .ref 17, .int l7]) ⟨dX2_ledgerLine_66, dX2_ledgerLine_68, dX2_ledgerLine_69, dX2_ledgerLine_71, trivial⟩ rfl ?_
        refine ms_callvL mB_45 mO_45 (by omega) dX2_ledgerLine_73 mQ_2_85 mC_2_85 mL_42 mO_42 rfl (Nat.le_of_ble_eq_true rfl) (Nat.le_of_ble_eq_true rfl) (gk_17 N) rfl F (fun r7 δ6 F => ?_)
        refine ms_seq mB_45 mO_45 [(.lload 5, 2), (.iload_n 3, 1)] (pc' := 79) (L' := [.ref 17, .int l1, .int l2, .int l3, .int l4, .long x5, .null, .int l7, .int l8]) (st' := [.int l3, .long x5, .long r7, .int l7]) ⟨dX2_ledgerLine_76, dX2_ledgerLine_78, trivial⟩ rfl ?_
        refine ms_callsL mB_45 mO_45 (by omega) dX2_ledgerLine_79 mQ_2_93 mC_2_93 mL_46 (by decide) rfl (Nat.le_of_ble_eq_true rfl) (Nat.le_of_ble_eq_true rfl) rfl F (fun r9 δ8 F => ?_)
        exact ms_lret mB_45 dX2_ledgerLine_82 mR_45 ⟨_, rfl, rfl, F⟩
set_option maxRecDepth 100000 in
theorem q2_ledgerLine_9a {N d : Nat} (hd : 5 ≤ d) {l1 l2 l3 l4 l7 l8 : Int32} {l5 : Int64} {δ : mi_D} {Q : Int64 → mi_D → Prop} (F : ((l7 < (δ.1 17 9) → mi_wL N d 45 21 [.ref 17, .int l1, .int l2, .int l3, .int l4, .long l5, .null, .int l7, .int 0] [] δ Q) ∧ (¬ l7 < (δ.1 17 9) → Q (-9223372036854775808) δ))) : mi_wL N d 45 9 [.ref 17, .int l1, .int l2, .int l3, .int l4, .long l5, .null, .int l7, .int l8] [] δ Q := by
  unfold mi_wL
  refine ms_seq mB_45 mO_45 [(.iload 7, 2), (.aload_n 0, 1)] (pc' := 12) (L' := [.ref 17, .int l1, .int l2, .int l3, .int l4, .long l5, .null, .int l7, .int l8]) (st' := [.ref 17, .int l7]) ⟨dX2_ledgerLine_9, dX2_ledgerLine_11, trivial⟩ rfl ?_
  refine ms_getI mB_45 mO_45 dX2_ledgerLine_12 mF_2_48 (gk_17 N) (Or.inl rfl) ?_
  refine ms_icmp_ge mB_45 dX2_ledgerLine_15 (t := 98) rfl (fun c => ?_) (fun c => ?_)
  · have F := F.2 c
    refine ms_seq mB_45 mO_45 [(.ldc2_w 97, 3)] (pc' := 101) (L' := [.ref 17, .int l1, .int l2, .int l3, .int l4, .long l5, .null, .int l7, .int l8]) (st' := [.long (-9223372036854775808)]) ⟨dX2_ledgerLine_98, trivial⟩ rfl ?_
    exact ms_lret mB_45 dX2_ledgerLine_101 mR_45 ⟨_, rfl, rfl, F⟩
  · have F := F.1 c
    refine ms_seq mB_45 mO_45 [(.iconst 0, 1), (.istore 8, 2)] (pc' := 21) (L' := [.ref 17, .int l1, .int l2, .int l3, .int l4, .long l5, .null, .int l7, .int 0]) (st' := []) ⟨dX2_ledgerLine_18, dX2_ledgerLine_19, trivial⟩ rfl ?_
    exact F
set_option maxRecDepth 100000 in
theorem q2_toldOfLedger_0 {N d : Nat} (hd : 5 ≤ d) {p0 p3 : Int32} {p1 p2 : Int64} {δ : mi_D} {Q : Int64 → mi_D → Prop} (F : ((p3 = 0 → Q (Int32.toInt64 p0) δ) ∧ (p3 = 1 → Q p1 δ) ∧ (p3 = 2 → Q p2 δ) ∧ (¬ p3 = 0 → ¬ p3 = 1 → ¬ p3 = 2 → Q (-9223372036854775808) δ))) : mi_wL N d 46 0 [.int p0, .long p1, .null, .long p2, .null, .int p3] [] δ Q := by
  unfold mi_wL
  refine ms_seq mB_46 mO_46 [(.iload 5, 2)] (pc' := 2) (L' := [.int p0, .long p1, .null, .long p2, .null, .int p3]) (st' := [.int p3]) ⟨dX2_toldOfLedger_0, trivial⟩ rfl ?_
  by_cases n0 : p3 = 0
  · refine ms_pure mB_46 mO_46 (pc' := 28) (L' := [.int p0, .long p1, .null, .long p2, .null, .int p3]) (st' := []) dX2_toldOfLedger_2 (by rw [n0]; rfl) ?_
    have F := F.1 n0
    refine ms_seq mB_46 mO_46 [(.iload_n 0, 1), (.i2l, 1)] (pc' := 30) (L' := [.int p0, .long p1, .null, .long p2, .null, .int p3]) (st' := [.long (Int32.toInt64 p0)]) ⟨dX2_toldOfLedger_28, dX2_toldOfLedger_29, trivial⟩ rfl ?_
    exact ms_lret mB_46 dX2_toldOfLedger_30 mR_46 ⟨_, rfl, rfl, F⟩
  have F := F.2
  by_cases n1 : p3 = 1
  · refine ms_pure mB_46 mO_46 (pc' := 31) (L' := [.int p0, .long p1, .null, .long p2, .null, .int p3]) (st' := []) dX2_toldOfLedger_2 (by rw [n1]; rfl) ?_
    have F := F.1 n1
    refine ms_seq mB_46 mO_46 [(.lload_n 1, 1)] (pc' := 32) (L' := [.int p0, .long p1, .null, .long p2, .null, .int p3]) (st' := [.long p1]) ⟨dX2_toldOfLedger_31, trivial⟩ rfl ?_
    exact ms_lret mB_46 dX2_toldOfLedger_32 mR_46 ⟨_, rfl, rfl, F⟩
  have F := F.2
  by_cases n2 : p3 = 2
  · refine ms_pure mB_46 mO_46 (pc' := 33) (L' := [.int p0, .long p1, .null, .long p2, .null, .int p3]) (st' := []) dX2_toldOfLedger_2 (by rw [n2]; rfl) ?_
    have F := F.1 n2
    refine ms_seq mB_46 mO_46 [(.lload_n 3, 1)] (pc' := 34) (L' := [.int p0, .long p1, .null, .long p2, .null, .int p3]) (st' := [.long p2]) ⟨dX2_toldOfLedger_33, trivial⟩ rfl ?_
    exact ms_lret mB_46 dX2_toldOfLedger_34 mR_46 ⟨_, rfl, rfl, F⟩
  have F := F.2
  refine ms_swd mB_46 dX2_toldOfLedger_2 (t := 35) (by have a0 := lv_neT n0 (a := 0) rfl; have a1 := lv_neT n1 (a := 1) rfl; have a2 := lv_neT n2 (a := 2) rfl; omega) rfl ?_
  have F := F n0
  have F := F n1
  have F := F n2
  refine ms_seq mB_46 mO_46 [(.ldc2_w 97, 3)] (pc' := 38) (L' := [.int p0, .long p1, .null, .long p2, .null, .int p3]) (st' := [.long (-9223372036854775808)]) ⟨dX2_toldOfLedger_35, trivial⟩ rfl ?_
  exact ms_lret mB_46 dX2_toldOfLedger_38 mR_46 ⟨_, rfl, rfl, F⟩
set_option maxRecDepth 100000 in
theorem q2_told_0 {N d : Nat} (hd : 5 ≤ d) {p0 p1 : Int32} {δ : mi_D} {Q : Int32 → mi_D → Prop} (F : ((p1 = 0 → Q (mi_at δ 18 p0) δ) ∧ (p1 = 1 → Q (mi_at δ 19 p0) δ) ∧ (p1 = 2 → Q (mi_at δ 20 p0) δ) ∧ (p1 = 3 → Q (mi_at δ 21 p0) δ) ∧ (p1 = 4 → Q (mi_at δ 22 p0) δ) ∧ (p1 = 5 → Q (mi_at δ 23 p0) δ) ∧ (¬ p1 = 0 → ¬ p1 = 1 → ¬ p1 = 2 → ¬ p1 = 3 → ¬ p1 = 4 → ¬ p1 = 5 → Q (-3) δ))) : mi_wI N d 47 0 [.ref 17, .int p0, .int p1] [] δ Q := by
  unfold mi_wI
  refine ms_seq mB_47 mO_47 [(.iload_n 2, 1)] (pc' := 1) (L' := [.ref 17, .int p0, .int p1]) (st' := [.int p1]) ⟨dX2_told_0, trivial⟩ rfl ?_
  by_cases n0 : p1 = 0
  · refine ms_pure mB_47 mO_47 (pc' := 40) (L' := [.ref 17, .int p0, .int p1]) (st' := []) dX2_told_1 (by rw [n0]; rfl) ?_
    have F := F.1 n0
    refine ms_seq mB_47 mO_47 [(.aload_n 0, 1)] (pc' := 41) (L' := [.ref 17, .int p0, .int p1]) (st' := [.ref 17]) ⟨dX2_told_40, trivial⟩ rfl ?_
    refine ms_getR mB_47 mO_47 dX2_told_41 mF_2_14 (gk_17 N) rfl (b := 18) (gr_17_0 N) ?_
    refine ms_seq mB_47 mO_47 [(.iload_n 1, 1)] (pc' := 45) (L' := [.ref 17, .int p0, .int p1]) (st' := [.int p0, .ref 18]) ⟨dX2_told_44, trivial⟩ rfl ?_
    refine ms_at mB_47 mO_47 hd dX2_told_45 mQ_2_65 (Nat.le_of_ble_eq_true rfl) (gk_18 N) (mi_ne (gl_18 N)) ?_
    exact ms_iret mB_47 dX2_told_48 mR_47 ⟨_, rfl, rfl, F⟩
  have F := F.2
  by_cases n1 : p1 = 1
  · refine ms_pure mB_47 mO_47 (pc' := 49) (L' := [.ref 17, .int p0, .int p1]) (st' := []) dX2_told_1 (by rw [n1]; rfl) ?_
    have F := F.1 n1
    refine ms_seq mB_47 mO_47 [(.aload_n 0, 1)] (pc' := 50) (L' := [.ref 17, .int p0, .int p1]) (st' := [.ref 17]) ⟨dX2_told_49, trivial⟩ rfl ?_
    refine ms_getR mB_47 mO_47 dX2_told_50 mF_2_20 (gk_17 N) rfl (b := 19) (gr_17_1 N) ?_
    refine ms_seq mB_47 mO_47 [(.iload_n 1, 1)] (pc' := 54) (L' := [.ref 17, .int p0, .int p1]) (st' := [.int p0, .ref 19]) ⟨dX2_told_53, trivial⟩ rfl ?_
    refine ms_at mB_47 mO_47 hd dX2_told_54 mQ_2_65 (Nat.le_of_ble_eq_true rfl) (gk_19 N) (mi_ne (gl_19 N)) ?_
    exact ms_iret mB_47 dX2_told_57 mR_47 ⟨_, rfl, rfl, F⟩
  have F := F.2
  by_cases n2 : p1 = 2
  · refine ms_pure mB_47 mO_47 (pc' := 58) (L' := [.ref 17, .int p0, .int p1]) (st' := []) dX2_told_1 (by rw [n2]; rfl) ?_
    have F := F.1 n2
    refine ms_seq mB_47 mO_47 [(.aload_n 0, 1)] (pc' := 59) (L' := [.ref 17, .int p0, .int p1]) (st' := [.ref 17]) ⟨dX2_told_58, trivial⟩ rfl ?_
    refine ms_getR mB_47 mO_47 dX2_told_59 mF_2_23 (gk_17 N) rfl (b := 20) (gr_17_2 N) ?_
    refine ms_seq mB_47 mO_47 [(.iload_n 1, 1)] (pc' := 63) (L' := [.ref 17, .int p0, .int p1]) (st' := [.int p0, .ref 20]) ⟨dX2_told_62, trivial⟩ rfl ?_
    refine ms_at mB_47 mO_47 hd dX2_told_63 mQ_2_65 (Nat.le_of_ble_eq_true rfl) (gk_20 N) (mi_ne (gl_20 N)) ?_
    exact ms_iret mB_47 dX2_told_66 mR_47 ⟨_, rfl, rfl, F⟩
  have F := F.2
  by_cases n3 : p1 = 3
  · refine ms_pure mB_47 mO_47 (pc' := 67) (L' := [.ref 17, .int p0, .int p1]) (st' := []) dX2_told_1 (by rw [n3]; rfl) ?_
    have F := F.1 n3
    refine ms_seq mB_47 mO_47 [(.aload_n 0, 1)] (pc' := 68) (L' := [.ref 17, .int p0, .int p1]) (st' := [.ref 17]) ⟨dX2_told_67, trivial⟩ rfl ?_
    refine ms_getR mB_47 mO_47 dX2_told_68 mF_2_26 (gk_17 N) rfl (b := 21) (gr_17_3 N) ?_
    refine ms_seq mB_47 mO_47 [(.iload_n 1, 1)] (pc' := 72) (L' := [.ref 17, .int p0, .int p1]) (st' := [.int p0, .ref 21]) ⟨dX2_told_71, trivial⟩ rfl ?_
    refine ms_at mB_47 mO_47 hd dX2_told_72 mQ_2_65 (Nat.le_of_ble_eq_true rfl) (gk_21 N) (mi_ne (gl_21 N)) ?_
    exact ms_iret mB_47 dX2_told_75 mR_47 ⟨_, rfl, rfl, F⟩
  have F := F.2
  by_cases n4 : p1 = 4
  · refine ms_pure mB_47 mO_47 (pc' := 76) (L' := [.ref 17, .int p0, .int p1]) (st' := []) dX2_told_1 (by rw [n4]; rfl) ?_
    have F := F.1 n4
    refine ms_seq mB_47 mO_47 [(.aload_n 0, 1)] (pc' := 77) (L' := [.ref 17, .int p0, .int p1]) (st' := [.ref 17]) ⟨dX2_told_76, trivial⟩ rfl ?_
    refine ms_getR mB_47 mO_47 dX2_told_77 mF_2_29 (gk_17 N) rfl (b := 22) (gr_17_4 N) ?_
    refine ms_seq mB_47 mO_47 [(.iload_n 1, 1)] (pc' := 81) (L' := [.ref 17, .int p0, .int p1]) (st' := [.int p0, .ref 22]) ⟨dX2_told_80, trivial⟩ rfl ?_
    refine ms_at mB_47 mO_47 hd dX2_told_81 mQ_2_65 (Nat.le_of_ble_eq_true rfl) (gk_22 N) (mi_ne (gl_22 N)) ?_
    exact ms_iret mB_47 dX2_told_84 mR_47 ⟨_, rfl, rfl, F⟩
  have F := F.2
  by_cases n5 : p1 = 5
  · refine ms_pure mB_47 mO_47 (pc' := 85) (L' := [.ref 17, .int p0, .int p1]) (st' := []) dX2_told_1 (by rw [n5]; rfl) ?_
    have F := F.1 n5
    refine ms_seq mB_47 mO_47 [(.aload_n 0, 1)] (pc' := 86) (L' := [.ref 17, .int p0, .int p1]) (st' := [.ref 17]) ⟨dX2_told_85, trivial⟩ rfl ?_
    refine ms_getR mB_47 mO_47 dX2_told_86 mF_2_32 (gk_17 N) rfl (b := 23) (gr_17_5 N) ?_
    refine ms_seq mB_47 mO_47 [(.iload_n 1, 1)] (pc' := 90) (L' := [.ref 17, .int p0, .int p1]) (st' := [.int p0, .ref 23]) ⟨dX2_told_89, trivial⟩ rfl ?_
    refine ms_at mB_47 mO_47 hd dX2_told_90 mQ_2_65 (Nat.le_of_ble_eq_true rfl) (gk_23 N) (mi_ne (gl_23 N)) ?_
    exact ms_iret mB_47 dX2_told_93 mR_47 ⟨_, rfl, rfl, F⟩
  have F := F.2
  refine ms_swd mB_47 dX2_told_1 (t := 94) (by have a0 := lv_neT n0 (a := 0) rfl; have a1 := lv_neT n1 (a := 1) rfl; have a2 := lv_neT n2 (a := 2) rfl; have a3 := lv_neT n3 (a := 3) rfl; have a4 := lv_neT n4 (a := 4) rfl; have a5 := lv_neT n5 (a := 5) rfl; omega) rfl ?_
  have F := F n0
  have F := F n1
  have F := F n2
  have F := F n3
  have F := F n4
  have F := F n5
  refine ms_seq mB_47 mO_47 [(.bipush (-3), 2)] (pc' := 96) (L' := [.ref 17, .int p0, .int p1]) (st' := [.int (-3)]) ⟨dX2_told_94, trivial⟩ rfl ?_
  exact ms_iret mB_47 dX2_told_96 mR_47 ⟨_, rfl, rfl, F⟩
