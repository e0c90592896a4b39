set_option maxRecDepth 100000 in
theorem q5_clear_0 {N d : Nat} (hd : 5 ≤ d) {ln la lb lim : Nat} (hl : mi_Ls ln la lb lim) {δ : mi_D} {Q : mi_D → Prop} (F : (∀ δ1 : mi_D, δ1 = mi_setI δ ln 2 0 → Q δ1)) : mi_wV N d 62 0 [.ref ln] [] δ Q := by
  unfold mi_wV
  obtain ⟨hk_ln, hr_ln_0, hr_ln_1, hk_la, hk_lb, hl_la, hl_lb⟩ := hl.all N
  refine ms_seq mB_62 mO_62 [(.aload_n 0, 1), (.iconst 0, 1)] (pc' := 2) (L' := [.ref ln]) (st' := [.int 0, .ref ln]) ⟨dX5_clear_0, dX5_clear_1, trivial⟩ rfl ?_
  refine ms_putI mB_62 mO_62 dX5_clear_2 mF_5_25 (hk_ln) rfl rfl ?_
  refine mr_st (fun δ1 e_δ1 => ?_)
  have F := F δ1 e_δ1
  exact ms_vret mB_62 dX5_clear_5 mR_62 ⟨rfl, rfl, F⟩
set_option maxRecDepth 100000 in
theorem q5_add_0 {N d : Nat} (hd : 5 ≤ d) {ln la lb lim : Nat} (hl : mi_Ls ln la lb lim) {p0 : Int32} {p1 : Int64} {δ : mi_D} {Q : mi_D → Prop} (F : (∀ δ1 : mi_D, δ1 = mi_pt δ la lim (δ.1 ln 2) p0 → (∀ δ2 : mi_D, δ2 = mi_pl δ1 lb lim (δ1.1 ln 2) p1 → (∀ δ3 : mi_D, δ3 = mi_setI δ2 ln 2 ((δ2.1 ln 2) + 1) → Q δ3)))) : mi_wV N d 63 0 [.ref ln, .int p0, .long p1, .null] [] δ Q := by
  unfold mi_wV
  obtain ⟨hk_ln, hr_ln_0, hr_ln_1, hk_la, hk_lb, hl_la, hl_lb⟩ := hl.all N
  refine ms_seq mB_63 mO_63 [(.aload_n 0, 1)] (pc' := 1) (L' := [.ref ln, .int p0, .long p1, .null]) (st' := [.ref ln]) ⟨dX5_add_0, trivial⟩ rfl ?_
  refine ms_getR mB_63 mO_63 dX5_add_1 mF_5_12 (hk_ln) rfl (b := la) (hr_ln_0) ?_
  refine ms_seq mB_63 mO_63 [(.aload_n 0, 1)] (pc' := 5) (L' := [.ref ln, .int p0, .long p1, .null]) (st' := [.ref ln, .ref la]) ⟨dX5_add_4, trivial⟩ rfl ?_
  refine ms_getI mB_63 mO_63 dX5_add_5 mF_5_25 (hk_ln) (Or.inl rfl) ?_
  refine ms_seq mB_63 mO_63 [(.iload_n 1, 1)] (pc' := 9) (L' := [.ref ln, .int p0, .long p1, .null]) (st' := [.int p0, .int (δ.1 ln 2), .ref la]) ⟨dX5_add_8, trivial⟩ rfl ?_
  refine ms_put mB_63 mO_63 (lim := lim) hd dX5_add_9 mQ_5_29 (Nat.le_of_ble_eq_true rfl) (hk_la) (hl_la) ?_
  refine mr_st (fun δ1 e_δ1 => ?_)
  have F := F δ1 e_δ1
  refine ms_seq mB_63 mO_63 [(.aload_n 0, 1)] (pc' := 13) (L' := [.ref ln, .int p0, .long p1, .null]) (st' := [.ref ln]) ⟨dX5_add_12, trivial⟩ rfl ?_
  refine ms_getR mB_63 mO_63 dX5_add_13 mF_5_21 (hk_ln) rfl (b := lb) (hr_ln_1) ?_
  refine ms_seq mB_63 mO_63 [(.aload_n 0, 1)] (pc' := 17) (L' := [.ref ln, .int p0, .long p1, .null]) (st' := [.ref ln, .ref lb]) ⟨dX5_add_16, trivial⟩ rfl ?_
  refine ms_getI mB_63 mO_63 dX5_add_17 mF_5_25 (hk_ln) (Or.inl rfl) ?_
  refine ms_seq mB_63 mO_63 [(.lload_n 2, 1)] (pc' := 21) (L' := [.ref ln, .int p0, .long p1, .null]) (st' := [.long p1, .int (δ1.1 ln 2), .ref lb]) ⟨dX5_add_20, trivial⟩ rfl ?_
  refine ms_pl mB_63 mO_63 (lim := lim) hd dX5_add_21 mQ_5_33 (Nat.le_of_ble_eq_true rfl) (hk_lb) (hl_lb) ?_
  refine mr_st (fun δ2 e_δ2 => ?_)
  have F := F δ2 e_δ2
  refine ms_seq mB_63 mO_63 [(.aload_n 0, 1), (.dup, 1)] (pc' := 26) (L' := [.ref ln, .int p0, .long p1, .null]) (st' := [.ref ln, .ref ln]) ⟨dX5_add_24, dX5_add_25, trivial⟩ rfl ?_
  refine ms_getI mB_63 mO_63 dX5_add_26 mF_5_25 (hk_ln) (Or.inl rfl) ?_
  refine ms_seq mB_63 mO_63 [(.iconst 1, 1), (.iadd, 1)] (pc' := 31) (L' := [.ref ln, .int p0, .long p1, .null]) (st' := [.int ((δ2.1 ln 2) + 1), .ref ln]) ⟨dX5_add_29, dX5_add_30, trivial⟩ rfl ?_
  refine ms_putI mB_63 mO_63 dX5_add_31 mF_5_25 (hk_ln) rfl rfl ?_
  refine mr_st (fun δ3 e_δ3 => ?_)
  have F := F δ3 e_δ3
  exact ms_vret mB_63 dX5_add_34 mR_63 ⟨rfl, rfl, F⟩
set_option maxRecDepth 100000 in
theorem q5_total_0 {N d : Nat} (hd : 5 ≤ d) {ln la lb lim : Nat} (hl : mi_Ls ln la lb lim) {δ : mi_D} {Q : Int64 → mi_D → Prop} (F : mi_wL N d 64 4 [.ref ln, .long 0, .null, .int 0] [] δ Q) : mi_wL N d 64 0 [.ref ln, .null, .null, .null] [] δ Q := by
  unfold mi_wL
  obtain ⟨hk_ln, hr_ln_0, hr_ln_1, hk_la, hk_lb, hl_la, hl_lb⟩ := hl.all N
  refine ms_seq mB_64 mO_64 [(.lconst 0, 1), (.lstore_n 1, 1), (.iconst 0, 1), (.istore_n 3, 1)] (pc' := 4) (L' := [.ref ln, .long 0, .null, .int 0]) (st' := []) ⟨dX5_total_0, dX5_total_1, dX5_total_2, dX5_total_3, trivial⟩ rfl ?_
  exact F
set_option maxRecDepth 100000 in
theorem q5_total_4 {N d : Nat} (hd : 5 ≤ d) {ln la lb lim : Nat} (hl : mi_Ls ln la lb lim) {l3 : Int32} {l1 : Int64} {δ : mi_D} {Q : Int64 → mi_D → Prop} (F : ((l3 < (δ.1 ln 2) → (∀ x1 : Int64, x1 = (l1 + (mi_al δ lb l3)) → mi_wL N d 64 4 [.ref ln, .long x1, .null, .int (l3 + 1)] [] δ Q)) ∧ (¬ l3 < (δ.1 ln 2) → Q l1 δ))) : mi_wL N d 64 4 [.ref ln, .long l1, .null, .int l3] [] δ Q := by
  unfold mi_wL
  obtain ⟨hk_ln, hr_ln_0, hr_ln_1, hk_la, hk_lb, hl_la, hl_lb⟩ := hl.all N
  refine ms_seq mB_64 mO_64 [(.iload_n 3, 1), (.aload_n 0, 1)] (pc' := 6) (L' := [.ref ln, .long l1, .null, .int l3]) (st' := [.ref ln, .int l3]) ⟨dX5_total_4, dX5_total_5, trivial⟩ rfl ?_
  refine ms_getI mB_64 mO_64 dX5_total_6 mF_5_25 (hk_ln) (Or.inl rfl) ?_
  refine ms_icmp_ge mB_64 dX5_total_9 (t := 29) rfl (fun c => ?_) (fun c => ?_)
  · have F := F.2 c
    refine ms_seq mB_64 mO_64 [(.lload_n 1, 1)] (pc' := 30) (L' := [.ref ln, .long l1, .null, .int l3]) (st' := [.long l1]) ⟨dX5_total_29, trivial⟩ rfl ?_
    exact ms_lret mB_64 dX5_total_30 mR_64 ⟨_, rfl, rfl, F⟩
  · have F := F.1 c
    refine ms_seq mB_64 mO_64 [(.lload_n 1, 1), (.aload_n 0, 1)] (pc' := 14) (L' := [.ref ln, .long l1, .null, .int l3]) (st' := [.ref ln, .long l1]) ⟨dX5_total_12, dX5_total_13, trivial⟩ rfl ?_
    refine ms_getR mB_64 mO_64 dX5_total_14 mF_5_21 (hk_ln) rfl (b := lb) (hr_ln_1) ?_
    refine ms_seq mB_64 mO_64 [(.iload_n 3, 1)] (pc' := 18) (L' := [.ref ln, .long l1, .null, .int l3]) (st' := [.int l3, .ref lb, .long l1]) ⟨dX5_total_17, trivial⟩ rfl ?_
    refine ms_al mB_64 mO_64 hd dX5_total_18 mQ_5_36 (Nat.le_of_ble_eq_true rfl) (hk_lb) (mi_ne (hl_lb)) ?_
    refine ms_seq mB_64 mO_64 [(.ladd, 1)] (pc' := 22) (L' := [.ref ln, .long l1, .null, .int l3]) (st' := [.long (l1 + (mi_al δ lb l3))]) ⟨dX5_total_21, trivial⟩ rfl ?_
    refine mr_topl (fun x1 e_x1 => ?_)
    have F := F x1 e_x1
    refine ms_seq mB_64 mO_64 [(.lstore_n 1, 1), (.iinc 3 1, 3)] (pc' := 26) (L' := [.ref ln, .long x1, .null, .int (l3 + 1)]) (st' := []) ⟨dX5_total_22, dX5_total_23, trivial⟩ rfl ?_
    refine ms_goto mB_64 dX5_total_26 (t := 4) rfl ?_
    exact F
