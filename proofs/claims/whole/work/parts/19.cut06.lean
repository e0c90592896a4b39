set_option maxRecDepth 100000 in
theorem q6_addTo_0 {N d : Nat} (hd : 5 ≤ d) {rw rlim : Nat} (hk_rw : mi_k (mi_GG N) rw = 6) (hl_rw : mi_len (mi_GG N) rw = rlim + 1) {p0 : Int32} {p1 : Int64} {δ : mi_D} {Q : mi_D → Prop} (F : (∀ δ1 : mi_D, δ1 = mi_pl δ rw rlim p0 ((mi_al δ rw p0) + p1) → Q δ1)) : mi_wV N d 68 0 [.ref rw, .int p0, .long p1, .null] [] δ Q := by
  unfold mi_wV
  refine ms_seq mB_68 mO_68 [(.aload_n 0, 1), (.iload_n 1, 1), (.aload_n 0, 1), (.iload_n 1, 1)] (pc' := 4) (L' := [.ref rw, .int p0, .long p1, .null]) (st' := [.int p0, .ref rw, .int p0, .ref rw]) ⟨dX6_addTo_0, dX6_addTo_1, dX6_addTo_2, dX6_addTo_3, trivial⟩ rfl ?_
  refine ms_al mB_68 mO_68 hd dX6_addTo_4 mQ_6_32 (Nat.le_of_ble_eq_true rfl) (hk_rw) (mi_ne (hl_rw)) ?_
  refine ms_seq mB_68 mO_68 [(.lload_n 2, 1), (.ladd, 1)] (pc' := 9) (L' := [.ref rw, .int p0, .long p1, .null]) (st' := [.long ((mi_al δ rw p0) + p1), .int p0, .ref rw]) ⟨dX6_addTo_7, dX6_addTo_8, trivial⟩ rfl ?_
  refine ms_pl mB_68 mO_68 (lim := rlim) hd dX6_addTo_9 mQ_6_36 (Nat.le_of_ble_eq_true rfl) (hk_rw) (hl_rw) ?_
  refine mr_st (fun δ1 e_δ1 => ?_)
  have F := F δ1 e_δ1
  exact ms_vret mB_68 dX6_addTo_12 mR_68 ⟨rfl, rfl, F⟩
