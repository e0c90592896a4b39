theorem mi_cpy_all {α : Type} (z : α) (f : Nat → α) (n : Nat) (h : ∀ j, n ≤ j → f j = z) : va_cpy f (fun _ => z) 0 0 n = f := by
  funext k
  unfold va_cpy
  by_cases hk : k < n
  · rw [if_pos ⟨Nat.zero_le _, by omega⟩]
    congr 1
    omega
  · rw [if_neg (by omega), h k (by omega)]
theorem mi_one_D {A : Nat → Prop} {a : Nat} {e : va_E} (h : A a) : va_D A [(a, e)] := by
  refine ⟨fun i j x y hi hj _ => ?_, fun i x hi => ?_⟩
  · have h1 := (List.getElem?_eq_some_iff.mp hi).1
    have h2 := (List.getElem?_eq_some_iff.mp hj).1
    simp at h1 h2
    omega
  · have h1 := (List.getElem?_eq_some_iff.mp hi).1
    simp at h1
    subst h1
    cases hi
    exact h
theorem mi_two_D {A : Nat → Prop} {a b : Nat} {e f : va_E} (h : A a) (hb : A b) (hab : a ≠ b) : va_D A [(a, e), (b, f)] := by
  refine ⟨fun i j x y hi hj hxy => ?_, fun i x hi => ?_⟩
  · have h1 := (List.getElem?_eq_some_iff.mp hi).1
    have h2 := (List.getElem?_eq_some_iff.mp hj).1
    simp at h1 h2
    rcases (show i = 0 ∨ i = 1 by omega) with rfl | rfl <;> rcases (show j = 0 ∨ j = 1 by omega) with rfl | rfl
    · rfl
    · cases hi; cases hj; exact absurd hxy hab
    · cases hi; cases hj; exact absurd hxy.symm hab
    · rfl
  · have h1 := (List.getElem?_eq_some_iff.mp hi).1
    simp at h1
    rcases (show i = 0 ∨ i = 1 by omega) with rfl | rfl
    · cases hi; exact h
    · cases hi; exact hb

set_option maxHeartbeats 4000000 in
set_option maxRecDepth 100000 in
theorem mi_c_putA3 (l : Launch) (D : va_G) (cA : mi_cA) (a b N : Nat) (i : Int32) (v : Int32) (hN : N < 2 ^ 31) (h : i < 0 ∨ N ≤ i.toNatClampNeg) : Met l yX3_put (.code yX3_put cX3_put 3 none :: mi_ws) { frames := 0, cells := 0, slots := 0, locals := 0 }
    (fun w U => w = ([.ref a, .int i, .int v] : List Value).toArray ∧ va_P D vwCl [(a, .inr (3, [.int (nI N), .ref b]))] U.heap ∧ va_K D vwCl (mi_tys cA) U)
    (fun _ st o t => o = .returned none ∧ t.heap = st.heap) 0 0 (fun _ => False) := by
  refine Met.ofW (cc := cX3_put) (maxL := 3) (ret := none) (by decide) rfl ?_
  intro p e s m args below meth c s₁ B hml hv
  have hx := B.exec
  have hb := B.bytes
  have hr := B.returns
  have hts0 := atoms_spec (ws := .code yX3_put cX3_put 3 none :: mi_ws) B.pre
  have hts : ∀ w ∈ mi_ws, w.before args s = true := fun w hw => hts0 w (List.mem_cons_of_mem _ hw)
  have hown : s.vm.findClass RX3 = some m.cls := findClass_of_methodNamed B.named
  have hlocks := B.notSynchronized
  obtain ⟨rfl, hP, hK⟩ := hv
  have hl := lv_entry ([.ref a, .int i, .int v]) (n := 3) (Nat.le_of_ble_eq_true rfl)
  rw [lg_entry_eq]
  generalize (lg_sl ([.ref a, .int i, .int v]) ++ List.replicate (3 - (lg_sl ([.ref a, .int i, .int v])).length) Slot.unset).toArray = ls at hl ⊢
  have hl : lv_has ls 3 [(0, .ref a), (1, .int i), (2, .int v)] := hl
  refine lv_iload_n hx hb dX3_put_0 rfl (lv_at hl 1 rfl) ?_
  refine lv_if_lt (tgt := 12) hx hb dX3_put_1 (by decide) (fun h1 => ?_) (fun h1 => ?_)
  · exact W.vret hx hb hr (fun t ht hW => ⟨rfl, ht⟩) (fun q hq => by cases hq) dX3_put_12
  · refine lv_iload_n hx hb dX3_put_4 rfl (lv_at hl 1 rfl) ?_
    refine lv_aload_n hx hb dX3_put_5 rfl (lv_at hl 0 rfl) ?_
    refine va_get (D := D) (cl := vwCl) (tys := mi_tys cA) (ws := [(a, .inr (3, [.int (nI N), .ref b]))]) (C := RX3) (T := TX3) (N := 2) (ref := mi_RX 3) (Ts := mi_ws) hx hb hts (mi_inws 3 (by decide)) hown hK hP 0 rfl rfl 0 (by decide) (hts _ mi_wd_fl3) (fun _ h => h) rfl dX3_put_6 ?_
    refine lv_icmp_lt (tgt := 13) hx hb dX3_put_9 (by decide) (fun h2 => ?_) (fun h2 => ?_)
    · have h3 := (mi_lt h1 hN).mp h2
      rcases h with h | h
      · exact absurd h h1
      · omega
    · exact W.vret hx hb hr (fun t ht hW => ⟨rfl, ht⟩) (fun q hq => by cases hq) dX3_put_12
set_option maxHeartbeats 4000000 in
set_option maxRecDepth 100000 in
theorem mi_c_putB3 (l : Launch) (D : va_G) (cA : mi_cA) (a b n N : Nat) (f : Nat → Int32) (i : Int32) (v : Int32) (hN : N < 2 ^ 31) (hn : n < 2 ^ 31) (h0 : ¬ i < 0) (hiN : i.toNatClampNeg < N) (hin : i.toNatClampNeg < n) : Met l yX3_put (.code yX3_put cX3_put 3 none :: mi_ws) { frames := 0, cells := 0, slots := 0, locals := 0 }
    (fun w U => w = ([.ref a, .int i, .int v] : List Value).toArray ∧ va_P D vwCl [(a, .inr (3, [.int (nI N), .ref b])), (b, .inl (cA.1, n, (.inl f)))] U.heap ∧ va_K D vwCl (mi_tys cA) U)
    (fun _ st o t => o = .returned none ∧ t.heap.size = st.heap.size ∧ (∀ q : Nat, q ≠ b → t.heap[q]? = st.heap[q]?) ∧ va_at D vwCl (b, .inl (cA.1, n, (.inl (upd f i.toNatClampNeg v)))) t.heap) 0 0 (fun x => x = b) := by
  refine Met.ofW (cc := cX3_put) (maxL := 3) (ret := none) (by decide) rfl ?_
  intro p e s m args below meth c s₁ B hml hv
  have hx := B.exec
  have hb := B.bytes
  have hr := B.returns
  have hts0 := atoms_spec (ws := .code yX3_put cX3_put 3 none :: mi_ws) B.pre
  have hts : ∀ w ∈ mi_ws, w.before args s = true := fun w hw => hts0 w (List.mem_cons_of_mem _ hw)
  have hown : s.vm.findClass RX3 = some m.cls := findClass_of_methodNamed B.named
  have hlocks := B.notSynchronized
  obtain ⟨rfl, hP, hK⟩ := hv
  have hl := lv_entry ([.ref a, .int i, .int v]) (n := 3) (Nat.le_of_ble_eq_true rfl)
  rw [lg_entry_eq]
  generalize (lg_sl ([.ref a, .int i, .int v]) ++ List.replicate (3 - (lg_sl ([.ref a, .int i, .int v])).length) Slot.unset).toArray = ls at hl ⊢
  have hl : lv_has ls 3 [(0, .ref a), (1, .int i), (2, .int v)] := hl
  refine lv_iload_n hx hb dX3_put_0 rfl (lv_at hl 1 rfl) ?_
  refine lv_if_lt (tgt := 12) hx hb dX3_put_1 (by decide) (fun h1 => absurd h1 h0) (fun h1 => ?_)
  refine lv_iload_n hx hb dX3_put_4 rfl (lv_at hl 1 rfl) ?_
  refine lv_aload_n hx hb dX3_put_5 rfl (lv_at hl 0 rfl) ?_
  refine va_get (D := D) (cl := vwCl) (tys := mi_tys cA) (ws := [(a, .inr (3, [.int (nI N), .ref b])), (b, .inl (cA.1, n, (.inl f)))]) (C := RX3) (T := TX3) (N := 2) (ref := mi_RX 3) (Ts := mi_ws) hx hb hts (mi_inws 3 (by decide)) hown hK hP 0 rfl rfl 0 (by decide) (hts _ mi_wd_fl3) (fun _ h => h) rfl dX3_put_6 ?_
  refine lv_icmp_lt (tgt := 13) hx hb dX3_put_9 (by decide) (fun h2 => ?_) (fun h2 => absurd ((mi_lt h0 hN).mpr hiN) h2)
  refine lv_iload_n hx hb dX3_put_13 rfl (lv_at hl 1 rfl) ?_
  refine lv_aload_n hx hb dX3_put_14 rfl (lv_at hl 0 rfl) ?_
  refine va_get (D := D) (cl := vwCl) (tys := mi_tys cA) (ws := [(a, .inr (3, [.int (nI N), .ref b])), (b, .inl (cA.1, n, (.inl f)))]) (C := RX3) (T := TX3) (N := 2) (ref := mi_RX 3) (Ts := mi_ws) hx hb hts (mi_inws 3 (by decide)) hown hK hP 0 rfl rfl 1 (by decide) (hts _ mi_wd_fc3) (fun _ h => h) rfl dX3_put_15 ?_
  refine va_alen (D := D) (cl := vwCl) (ws := [(a, .inr (3, [.int (nI N), .ref b])), (b, .inl (cA.1, n, (.inl f)))]) hx hb hK hP 1 0 rfl (ty := .int) rfl (v := nI n) rfl dX3_put_18 ?_
  refine lv_icmp_lt (tgt := 53) hx hb dX3_put_19 (by decide) (fun h3 => ?_) (fun h3 => absurd ((mi_lt h0 hn).mpr hin) h3)
  refine lv_aload_n hx hb dX3_put_53 rfl (lv_at hl 0 rfl) ?_
  refine va_get (D := D) (cl := vwCl) (tys := mi_tys cA) (ws := [(a, .inr (3, [.int (nI N), .ref b])), (b, .inl (cA.1, n, (.inl f)))]) (C := RX3) (T := TX3) (N := 2) (ref := mi_RX 3) (Ts := mi_ws) hx hb hts (mi_inws 3 (by decide)) hown hK hP 0 rfl rfl 1 (by decide) (hts _ mi_wd_fc3) (fun _ h => h) rfl dX3_put_54 ?_
  refine lv_iload_n hx hb dX3_put_57 rfl (lv_at hl 1 rfl) ?_
  refine lv_iload_n hx hb dX3_put_58 rfl (lv_at hl 2 rfl) ?_
  refine W.iast hx hb (hP 1 _ rfl) ((hK.2 0 _ rfl).1 n (fun j => .int (f j))) (fun q => by cases q) (by show ¬ (i < 0 ∨ (arrV _ _ _).slots.size ≤ _); rw [arrV_size]; exact fun q => q.elim h0 (fun q => absurd q (Nat.not_le.mpr hin))) rfl rfl dX3_put_59 fun H1 e1 z oq => ?_
  refine W.vret hx hb hr (fun t ht hW => ⟨rfl, by rw [ht]; exact z, by rw [ht]; exact oq, ?_⟩) (fun q hq => by simp at hq; rw [hq]) dX3_put_60
  rw [ht]
  show H1[b]? = some (vp_cell _ _)
  rw [e1]
  rw [vp_cell_i, vp_cell_i, arrV_store]
  congr 2
  funext q
  by_cases hq : q = i.toNatClampNeg
  · subst hq
    simp [updV, upd]
  · simp [updV, upd, hq]
set_option maxHeartbeats 4000000 in
set_option maxRecDepth 100000 in
theorem mi_c_putC3 (l : Launch) (D : va_G) (cA : mi_cA) (a b n N sz : Nat) (f : Nat → Int32) (i : Int32) (v : Int32) (hN : N ≤ 1000000) (hn : n ≤ 1000001) (h0 : ¬ i < 0) (hiN : i.toNatClampNeg < N) (hin : n ≤ i.toNatClampNeg) (hz : ∀ j, n ≤ j → f j = 0) : Met l yX3_put (.code yX3_put cX3_put 3 none :: mi_ws) { frames := 2, cells := 1, slots := mi_grow N n i.toNatClampNeg, locals := 70 }
    (fun w U => w = ([.ref a, .int i, .int v] : List Value).toArray ∧ va_P D vwCl [(a, .inr (3, [.int (nI N), .ref b])), (b, .inl (cA.1, n, (.inl f)))] U.heap ∧ va_K D vwCl (mi_tys cA) U ∧ U.heap.size = sz ∧ a ≠ b)
    (fun _ st o t => o = .returned none ∧ sz ≤ t.heap.size ∧ (∀ q : Nat, q < sz → q ≠ a → q ≠ b → t.heap[q]? = st.heap[q]?) ∧ ∃ q : Nat, sz ≤ q ∧ va_P D vwCl [(a, .inr (3, [.int (nI N), .ref q])), (q, .inl (cA.1, mi_grow N n i.toNatClampNeg, (.inl (upd f i.toNatClampNeg v))))] t.heap) 1 (mi_grow N n i.toNatClampNeg) (fun x => x = a ∨ x = b ∨ sz ≤ x) := by
  refine Met.ofW (cc := cX3_put) (maxL := 3) (ret := none) (by decide) rfl ?_
  intro p e s m args below meth c s₁ B hml hv
  have hx := B.exec
  have hb := B.bytes
  have hr := B.returns
  have hts0 := atoms_spec (ws := .code yX3_put cX3_put 3 none :: mi_ws) B.pre
  have hts : ∀ w ∈ mi_ws, w.before args s = true := fun w hw => hts0 w (List.mem_cons_of_mem _ hw)
  have hown : s.vm.findClass RX3 = some m.cls := findClass_of_methodNamed B.named
  have hlocks := B.notSynchronized
  obtain ⟨rfl, hP, hK, hsz, hab⟩ := hv
  subst hsz
  have hal : a < s.heap.size := (hP 0 _ rfl).lt
  have hbl : b < s.heap.size := (hP 1 _ rfl).lt
  have hg : mi_grow N n i.toNatClampNeg = max (i.toNatClampNeg + 1) (min N (2 * n)) := by unfold mi_grow; rw [if_neg (by omega)]
  rw [hg]
  have hl := lv_entry ([.ref a, .int i, .int v]) (n := 3) (Nat.le_of_ble_eq_true rfl)
  rw [lg_entry_eq]
  generalize (lg_sl ([.ref a, .int i, .int v]) ++ List.replicate (3 - (lg_sl ([.ref a, .int i, .int v])).length) Slot.unset).toArray = ls at hl ⊢
  have hl : lv_has ls 3 [(0, .ref a), (1, .int i), (2, .int v)] := hl
  refine lv_iload_n hx hb dX3_put_0 rfl (lv_at hl 1 rfl) ?_
  refine lv_if_lt (tgt := 12) hx hb dX3_put_1 (by decide) (fun h1 => absurd h1 h0) (fun h1 => ?_)
  refine lv_iload_n hx hb dX3_put_4 rfl (lv_at hl 1 rfl) ?_
  refine lv_aload_n hx hb dX3_put_5 rfl (lv_at hl 0 rfl) ?_
  refine va_get (D := D) (cl := vwCl) (tys := mi_tys cA) (ws := [(a, .inr (3, [.int (nI N), .ref b])), (b, .inl (cA.1, n, (.inl f)))]) (C := RX3) (T := TX3) (N := 2) (ref := mi_RX 3) (Ts := mi_ws) hx hb hts (mi_inws 3 (by decide)) hown hK hP 0 rfl rfl 0 (by decide) (hts _ mi_wd_fl3) (fun _ h => h) rfl dX3_put_6 ?_
  refine lv_icmp_lt (tgt := 13) hx hb dX3_put_9 (by decide) (fun h2 => ?_) (fun h2 => absurd ((mi_lt h0 (by omega)).mpr hiN) h2)
  refine lv_iload_n hx hb dX3_put_13 rfl (lv_at hl 1 rfl) ?_
  refine lv_aload_n hx hb dX3_put_14 rfl (lv_at hl 0 rfl) ?_
  refine va_get (D := D) (cl := vwCl) (tys := mi_tys cA) (ws := [(a, .inr (3, [.int (nI N), .ref b])), (b, .inl (cA.1, n, (.inl f)))]) (C := RX3) (T := TX3) (N := 2) (ref := mi_RX 3) (Ts := mi_ws) hx hb hts (mi_inws 3 (by decide)) hown hK hP 0 rfl rfl 1 (by decide) (hts _ mi_wd_fc3) (fun _ h => h) rfl dX3_put_15 ?_
  refine va_alen (D := D) (cl := vwCl) (ws := [(a, .inr (3, [.int (nI N), .ref b])), (b, .inl (cA.1, n, (.inl f)))]) hx hb hK hP 1 0 rfl (ty := .int) rfl (v := nI n) rfl dX3_put_18 ?_
  refine lv_icmp_lt (tgt := 53) hx hb dX3_put_19 (by decide) (fun h3 => absurd ((mi_lt h0 (by omega)).mp h3) (by omega)) (fun h3 => ?_)
  refine lv_aload_n hx hb dX3_put_22 rfl (lv_at hl 0 rfl) ?_
  refine lv_aload_n hx hb dX3_put_23 rfl (lv_at hl 0 rfl) ?_
  refine va_get (D := D) (cl := vwCl) (tys := mi_tys cA) (ws := [(a, .inr (3, [.int (nI N), .ref b])), (b, .inl (cA.1, n, (.inl f)))]) (C := RX3) (T := TX3) (N := 2) (ref := mi_RX 3) (Ts := mi_ws) hx hb hts (mi_inws 3 (by decide)) hown hK hP 0 rfl rfl 1 (by decide) (hts _ mi_wd_fc3) (fun _ h => h) rfl dX3_put_24 ?_
  refine lv_iload_n hx hb dX3_put_27 rfl (lv_at hl 1 rfl) ?_
  refine lv_iconst (v := 1) hx hb dX3_put_28 (by decide) ?_
  refine lv_iadd hx hb dX3_put_29 ?_
  refine lv_aload_n hx hb dX3_put_30 rfl (lv_at hl 0 rfl) ?_
  refine va_get (D := D) (cl := vwCl) (tys := mi_tys cA) (ws := [(a, .inr (3, [.int (nI N), .ref b])), (b, .inl (cA.1, n, (.inl f)))]) (C := RX3) (T := TX3) (N := 2) (ref := mi_RX 3) (Ts := mi_ws) hx hb hts (mi_inws 3 (by decide)) hown hK hP 0 rfl rfl 0 (by decide) (hts _ mi_wd_fl3) (fun _ h => h) rfl dX3_put_31 ?_
  refine lv_iconst (v := nI 2) hx hb dX3_put_34 (by decide) ?_
  refine lv_aload_n hx hb dX3_put_35 rfl (lv_at hl 0 rfl) ?_
  refine va_get (D := D) (cl := vwCl) (tys := mi_tys cA) (ws := [(a, .inr (3, [.int (nI N), .ref b])), (b, .inl (cA.1, n, (.inl f)))]) (C := RX3) (T := TX3) (N := 2) (ref := mi_RX 3) (Ts := mi_ws) hx hb hts (mi_inws 3 (by decide)) hown hK hP 0 rfl rfl 1 (by decide) (hts _ mi_wd_fc3) (fun _ h => h) rfl dX3_put_36 ?_
  refine va_alen (D := D) (cl := vwCl) (ws := [(a, .inr (3, [.int (nI N), .ref b])), (b, .inl (cA.1, n, (.inl f)))]) hx hb hK hP 1 0 rfl (ty := .int) rfl (v := nI n) rfl dX3_put_39 ?_
  refine lv_imul hx hb dX3_put_40 ?_
  rw [pk_mul]
  refine va_mmin hx hb (hml.trans hl.1.symm) hown (hts _ mi_wd_mi3) (hts _ mi_wd_stMin) (hts _ mi_wd_iniMath) (hts _ mi_wd_cdMin) (by show 1 ≤ 2; omega) (by show _ + 13 ≤ 70; simp [Value.category]) (by show 0 ≤ 1; omega) (by show 0 ≤ _; omega) dX3_put_41 ?_
  rw [show (if nI (2 * n) < nI N then nI (2 * n) else nI N) = nI (min N (2 * n)) by
    by_cases hc : 2 * n < N
    · rw [if_pos (nI_lt hc (by omega)), Nat.min_eq_right (by omega)]
    · rw [if_neg (nI_nlt (by omega) (by omega)), Nat.min_eq_left (by omega)]]
  refine va_mmax hx hb (hml.trans hl.1.symm) hown (hts _ mi_wd_ma3) (hts _ mi_wd_stMax) (hts _ mi_wd_iniMath) (hts _ mi_wd_cdMax) (by show 1 ≤ 2; omega) (by show _ + 13 ≤ 70; simp [Value.category]) (by show 0 ≤ 1; omega) (by show 0 ≤ _; omega) dX3_put_44 ?_
  obtain ⟨j, hj, rfl⟩ := nI_of h0
  rw [nI_clamp hj] at hiN hin ⊢
  rw [nI_1, show (if nI (j + 1) < nI (min N (2 * n)) then nI (min N (2 * n)) else nI (j + 1)) = nI (max (j + 1) (min N (2 * n))) by
    by_cases hc : j + 1 < min N (2 * n)
    · rw [if_pos (nI_lt hc (by omega)), Nat.max_eq_right (by omega)]
    · rw [if_neg (nI_nlt (by omega) (by omega)), Nat.max_eq_left (by omega)]]
  obtain ⟨k, hk⟩ : ∃ k, k = max (j + 1) (min N (2 * n)) := ⟨_, rfl⟩
  rw [← hk]
  have hk1 : n < k := by omega
  have hk2 : k < 2000000 := by omega
  have hk3 : k < 2 ^ 31 := by omega
  refine mi_callG (va_runS (As := [.ref b, .int (nI k)]) (rest := [.ref a]) ⟨hx, hb, hml, hown, hts⟩ (mi_c_copy3 l D cA b n s.heap.size f (nI k) (nI_pos hk3) (by rw [nI_clamp hk3]; exact hk1) (by rw [nI_clamp hk3]; exact hk2)) (va_cwS 2 hts (mi_goodS mi_wd_lkCo3 mi_wd_stCo3 mi_wd_iniArrays mi_wd_cdCo3) rfl rfl rfl ⟨by decide, by decide, by decide +kernel⟩ ⟨by show 1 + 1 ≤ 2; omega, by show 8 + (3 + 11) + 40 ≤ 70; omega⟩)
    ⟨fun a' U g' mk h => ⟨h.1, h.2.1, va_K.moved (u := U) (U := U.calling g' mk a') (Vm.Alike.refl U.vm) h.2.2.1, h.2.2.2⟩, fun U hU hW => ⟨rfl, by rw [hU]; exact hP.sub (ws' := [(b, .inl (cA.1, n, (.inl f)))]) [1] rfl, va_K.moved hW.alike hK, by rw [hU]⟩⟩ rfl rfl hl.1 rfl (lv_room (Nat.le_of_ble_eq_true rfl)) dX3_put_47 ⟨by show 0 + 1 ≤ 1; omega, by rw [nI_clamp hk3]; show 0 + k ≤ k; omega⟩) (fun vv st t L hst hQ hL hW => ?_)
  obtain ⟨q, hv, hq1, hq2, hq3, hq4⟩ := hQ
  cases hv
  rw [hst] at hq3
  rw [nI_clamp hk3] at hq4 ⊢
  rw [mi_cpy_all 0 f n hz] at hq4
  have hqa : a ≠ q := by omega
  have hP1 : va_P D vwCl [(a, .inr (3, [.int (nI N), .ref b])), (q, .inl (cA.1, k, (.inl f)))] t.heap := by
    intro x y hy
    have hx2 := (List.getElem?_eq_some_iff.mp hy).1
    simp at hx2
    rcases (show x = 0 ∨ x = 1 by omega) with rfl | rfl
    · cases hy
      exact (hP 0 _ rfl).kept (hq3 a hal)
    · cases hy
      exact hq4 0 _ rfl
  have hD1 : va_D (fun x : Nat => x = a ∨ x = b ∨ s.heap.size ≤ x) [(a, .inr (3, [.int (nI N), .ref b])), (q, .inl (cA.1, k, (.inl f)))] := mi_two_D (Or.inl rfl) (Or.inr (Or.inr hq1)) hqa
  have hS1 : va_S (fun x : Nat => x = a ∨ x = b ∨ s.heap.size ≤ x) s.heap t.heap ([] ++ L) := ⟨hq2, fun x h1 _ => hq3 x h1, fun x hx => by
    rcases hL x (by simpa using hx) with h | h
    · exact Or.inr (Or.inl h)
    · exact Or.inr (Or.inr h)⟩
  generalize ([] ++ L) = L1 at hS1 ⊢
  refine va_put (D := D) (cl := vwCl) (tys := mi_tys cA) (ci := 3) (v := .ref q) (C := RX3) (T := TX3) (N := 2) (ref := mi_RX 3) (Ts := mi_ws) hx hb hts (mi_inws 3 (by decide)) tyX3 tyX3_ok nmX3 hown hK hP1 hD1 hS1 0 rfl rfl 1 (by decide) (hts _ mi_wd_fc3) (fun _ h => h) rfl (ty := .array .int) (by decide +kernel) rfl rfl (Nat.le_of_ble_eq_true rfl) dX3_put_50 (fun H2 locs2 hP2 hD2 hS2 => ?_)
  have hP2 : va_P D vwCl [(a, .inr (3, [.int (nI N), .ref q])), (q, .inl (cA.1, k, (.inl f)))] H2 := hP2
  have hD2 : va_D (fun x : Nat => x = a ∨ x = b ∨ s.heap.size ≤ x) [(a, .inr (3, [.int (nI N), .ref q])), (q, .inl (cA.1, k, (.inl f)))] := hD2
  refine lv_aload_n hx hb dX3_put_53 rfl (lv_at hl 0 rfl) ?_
  refine va_get (D := D) (cl := vwCl) (tys := mi_tys cA) (ws := [(a, .inr (3, [.int (nI N), .ref q])), (q, .inl (cA.1, k, (.inl f)))]) (C := RX3) (T := TX3) (N := 2) (ref := mi_RX 3) (Ts := mi_ws) hx hb hts (mi_inws 3 (by decide)) hown hK hP2 0 rfl rfl 1 (by decide) (hts _ mi_wd_fc3) (fun _ h => h) rfl dX3_put_54 ?_
  refine lv_iload_n hx hb dX3_put_57 rfl (lv_at hl 1 rfl) ?_
  refine lv_iload_n hx hb dX3_put_58 rfl (lv_at hl 2 rfl) ?_
  refine va_iast (D := D) (cl := vwCl) hx hb hK hP2 hD2 hS2 1 0 rfl rfl (vp_in_nI (by omega) hk3) dX3_put_59 (fun H3 locs3 hP3 hD3 hS3 => ?_)
  refine W.widen (k := 1) (n := k) (by omega) (by omega) ?_
  refine W.vret hx hb hr (fun t2 ht hW2 => ⟨rfl, by rw [ht]; exact hS3.1, fun x h1 h2 h3 => by rw [ht]; exact hS3.2.1 x h1 (fun q => q.elim h2 (fun q => q.elim h3 (fun q => by omega))), q, hq1, ?_⟩) hS3.2.2 dX3_put_60
  rw [ht]
  rw [nI_clamp hj] at hP3
  exact hP3
set_option maxHeartbeats 4000000 in
set_option maxRecDepth 100000 in
theorem mi_c_init3 (l : Launch) (D : va_G) (cA : mi_cA) (a sz : Nat) (lim : Int32) : Met l yX3_init (.code yX3_init cX3_init 2 none :: mi_ws) { frames := 1, cells := 1, slots := 16, locals := 40 }
    (fun w U => w = ([.ref a, .int lim] : List Value).toArray ∧ va_P D vwCl [(a, .inr (3, [.int 0, .null]))] U.heap ∧ va_K D vwCl (mi_tys cA) U ∧ U.heap.size = sz)
    (fun _ st o t => o = .returned none ∧ sz ≤ t.heap.size ∧ (∀ q : Nat, q < sz → q ≠ a → t.heap[q]? = st.heap[q]?) ∧ ∃ q : Nat, sz ≤ q ∧ va_P D vwCl [(a, .inr (3, [.int lim, .ref q])), (q, .inl (cA.1, 16, (.inl (fun _ => 0))))] t.heap) 1 16 (fun x => x = a ∨ sz ≤ x) := by
  refine Met.ofW (cc := cX3_init) (maxL := 2) (ret := none) (by decide) rfl ?_
  intro p e s m args below meth c s₁ B hml hv
  have hx := B.exec
  have hb := B.bytes
  have hr := B.returns
  have hts0 := atoms_spec (ws := .code yX3_init cX3_init 2 none :: mi_ws) B.pre
  have hts : ∀ w ∈ mi_ws, w.before args s = true := fun w hw => hts0 w (List.mem_cons_of_mem _ hw)
  have hown : s.vm.findClass RX3 = some m.cls := findClass_of_methodNamed B.named
  have hlocks := B.notSynchronized
  obtain ⟨rfl, hP, hK, hsz⟩ := hv
  subst hsz
  have hal : a < s.heap.size := (hP 0 _ rfl).lt
  have hin : meth.name = "<init>" := (name_of_methodNamed B.named B.method).1
  have hD : va_D (fun x : Nat => x = a ∨ s.heap.size ≤ x) [(a, .inr (3, [.int 0, .null]))] := mi_one_D (Or.inl rfl)
  have hS : va_S (fun x : Nat => x = a ∨ s.heap.size ≤ x) s.heap s.heap [] := va_S.rf
  have hAA : ∀ q : Nat, s.heap.size ≤ q → (fun x : Nat => x = a ∨ s.heap.size ≤ x) q := fun q h => Or.inr h
  have hl := lv_entry ([.ref a, .int lim]) (n := 2) (Nat.le_of_ble_eq_true rfl)
  rw [lg_entry_eq]
  generalize (lg_sl ([.ref a, .int lim]) ++ List.replicate (2 - (lg_sl ([.ref a, .int lim])).length) Slot.unset).toArray = ls at hl ⊢
  have hl : lv_has ls 2 [(0, .ref a), (1, .int lim)] := hl
  refine lv_aload_n hx hb dX3_init_0 rfl (lv_at hl 0 rfl) ?_
  refine W.objInit hx hb hown (hts _ mi_wd_ob3) (hts _ mi_wd_inObj) (hts _ mi_wd_cdObj) rfl (by rw [hml]; exact hl.1) rfl dX3_init_1 (by show 1 ≤ 1; omega) (by show _ + 12 ≤ 40; simp) ?_
  refine W.eq (g2 := F0 m 4 ls []) rfl ?_
  refine lv_aload_n hx hb dX3_init_4 rfl (lv_at hl 0 rfl) ?_
  refine lv_iload_n hx hb dX3_init_5 rfl (lv_at hl 1 rfl) ?_
  refine va_putF (D := D) (cl := vwCl) (tys := mi_tys cA) (ci := 3) (v := .int lim) (own := RX3) (C := RX3) (T := TX3) (N := 2) (ref := mi_RX 3) (Ts := mi_ws) hx hb hts (mi_inws 3 (by decide)) tyX3 tyX3_ok nmX3 hown hK hP hD hS 0 rfl rfl 0 (by decide) (hts _ mi_wd_fl3) (fun _ h => h) rfl hin rfl (ty := .int) (by decide +kernel) rfl rfl (Nat.le_of_ble_eq_true rfl) dX3_init_6 (fun H1 locs1 hP1 hD1 hS1 => ?_)
  have hP1 : va_P D vwCl [(a, .inr (3, [.int lim, .null]))] H1 := hP1
  have hD1 : va_D (fun x : Nat => x = a ∨ s.heap.size ≤ x) [(a, .inr (3, [.int lim, .null]))] := hD1
  refine lv_aload_n hx hb dX3_init_9 rfl (lv_at hl 0 rfl) ?_
  refine lv_bipush (v := nI 16) hx hb dX3_init_10 (by decide) ?_
  refine va_newa (atype := .int) (D := D) (cl := vwCl) (a0 := (16, (.inl (fun _ => 0)))) hx hb (hts _ mi_word_ai) rfl hK hP1 hD1 hS1 hAA (fun _ => rfl) (by decide) (by decide) (by decide) (by show 0 + 1 ≤ 1; omega) (by show 0 + 16 ≤ 16; omega) dX3_init_12 (fun q c' H2 hK2 hP2 hD2 hS2 => ?_)
  have hP2 : va_P D vwCl [(a, .inr (3, [.int lim, .null])), (q, .inl (c', 16, (.inl (fun _ => 0))))] H2 := hP2
  have hD2 : va_D (fun x : Nat => x = a ∨ s.heap.size ≤ x) [(a, .inr (3, [.int lim, .null])), (q, .inl (c', 16, (.inl (fun _ => 0))))] := hD2
  have hcc : c' = cA.1 := by
    have e1 := (hK2.2 3 _ rfl).2
    have e2 := (hK.2 0 _ rfl).2
    exact Option.some.inj (e1.symm.trans e2)
  subst hcc
  have hqa : q ≠ a := fun e => by have h9 := hD2.1 1 0 _ _ rfl rfl e; omega
  have hq : s.heap.size ≤ q := by
    rcases hD2.2 1 _ rfl with h | h
    · exact absurd h hqa
    · exact h
  refine va_put (D := D) (cl := vwCl) (tys := mi_tys cA) (ci := 3) (v := .ref q) (C := RX3) (T := TX3) (N := 2) (ref := mi_RX 3) (Ts := mi_ws) hx hb hts (mi_inws 3 (by decide)) tyX3 tyX3_ok nmX3 hown hK hP2 hD2 hS2 0 rfl rfl 1 (by decide) (hts _ mi_wd_fc3) (fun _ h => h) rfl (ty := .array .int) (by decide +kernel) rfl rfl (Nat.le_of_ble_eq_true rfl) dX3_init_14 (fun H3 locs3 hP3 hD3 hS3 => ?_)
  exact W.vret hx hb hr (fun t ht hW => ⟨rfl, by rw [ht]; exact hS3.1, fun x h1 h2 => by rw [ht]; exact hS3.2.1 x h1 (fun q => q.elim h2 (fun q => by omega)), q, hq, by rw [ht]; exact hP3⟩) hS3.2.2 dX3_init_17
set_option maxHeartbeats 4000000 in
set_option maxRecDepth 100000 in
theorem mi_c_putA6 (l : Launch) (D : va_G) (cA : mi_cA) (a b N : Nat) (i : Int32) (v : Int64) (hN : N < 2 ^ 31) (h : i < 0 ∨ N ≤ i.toNatClampNeg) : Met l yX6_put (.code yX6_put cX6_put 4 none :: mi_ws) { frames := 0, cells := 0, slots := 0, locals := 0 }
    (fun w U => w = ([.ref a, .int i, .long v] : List Value).toArray ∧ va_P D vwCl [(a, .inr (6, [.int (nI N), .ref b]))] U.heap ∧ va_K D vwCl (mi_tys cA) U)
    (fun _ st o t => o = .returned none ∧ t.heap = st.heap) 0 0 (fun _ => False) := by
  refine Met.ofW (cc := cX6_put) (maxL := 4) (ret := none) (by decide) rfl ?_
  intro p e s m args below meth c s₁ B hml hv
  have hx := B.exec
  have hb := B.bytes
  have hr := B.returns
  have hts0 := atoms_spec (ws := .code yX6_put cX6_put 4 none :: mi_ws) B.pre
  have hts : ∀ w ∈ mi_ws, w.before args s = true := fun w hw => hts0 w (List.mem_cons_of_mem _ hw)
  have hown : s.vm.findClass RX6 = some m.cls := findClass_of_methodNamed B.named
  have hlocks := B.notSynchronized
  obtain ⟨rfl, hP, hK⟩ := hv
  have hl := lv_entry ([.ref a, .int i, .long v]) (n := 4) (Nat.le_of_ble_eq_true rfl)
  rw [lg_entry_eq]
  generalize (lg_sl ([.ref a, .int i, .long v]) ++ List.replicate (4 - (lg_sl ([.ref a, .int i, .long v])).length) Slot.unset).toArray = ls at hl ⊢
  have hl : lv_has ls 4 [(0, .ref a), (1, .int i), (2, .long v)] := hl
  refine lv_iload_n hx hb dX6_put_0 rfl (lv_at hl 1 rfl) ?_
  refine lv_if_lt (tgt := 12) hx hb dX6_put_1 (by decide) (fun h1 => ?_) (fun h1 => ?_)
  · exact W.vret hx hb hr (fun t ht hW => ⟨rfl, ht⟩) (fun q hq => by cases hq) dX6_put_12
  · refine lv_iload_n hx hb dX6_put_4 rfl (lv_at hl 1 rfl) ?_
    refine lv_aload_n hx hb dX6_put_5 rfl (lv_at hl 0 rfl) ?_
    refine va_get (D := D) (cl := vwCl) (tys := mi_tys cA) (ws := [(a, .inr (6, [.int (nI N), .ref b]))]) (C := RX6) (T := TX6) (N := 2) (ref := mi_RX 6) (Ts := mi_ws) hx hb hts (mi_inws 6 (by decide)) hown hK hP 0 rfl rfl 0 (by decide) (hts _ mi_wd_fl6) (fun _ h => h) rfl dX6_put_6 ?_
    refine lv_icmp_lt (tgt := 13) hx hb dX6_put_9 (by decide) (fun h2 => ?_) (fun h2 => ?_)
    · have h3 := (mi_lt h1 hN).mp h2
      rcases h with h | h
      · exact absurd h h1
      · omega
    · exact W.vret hx hb hr (fun t ht hW => ⟨rfl, ht⟩) (fun q hq => by cases hq) dX6_put_12
set_option maxHeartbeats 4000000 in
set_option maxRecDepth 100000 in
theorem mi_c_putB6 (l : Launch) (D : va_G) (cA : mi_cA) (a b n N : Nat) (f : Nat → Int64) (i : Int32) (v : Int64) (hN : N < 2 ^ 31) (hn : n < 2 ^ 31) (h0 : ¬ i < 0) (hiN : i.toNatClampNeg < N) (hin : i.toNatClampNeg < n) : Met l yX6_put (.code yX6_put cX6_put 4 none :: mi_ws) { frames := 0, cells := 0, slots := 0, locals := 0 }
    (fun w U => w = ([.ref a, .int i, .long v] : List Value).toArray ∧ va_P D vwCl [(a, .inr (6, [.int (nI N), .ref b])), (b, .inl (cA.2.1, n, (.inr (.inl f))))] U.heap ∧ va_K D vwCl (mi_tys cA) U)
    (fun _ st o t => o = .returned none ∧ t.heap.size = st.heap.size ∧ (∀ q : Nat, q ≠ b → t.heap[q]? = st.heap[q]?) ∧ va_at D vwCl (b, .inl (cA.2.1, n, (.inr (.inl (vp_updL f i.toNatClampNeg v))))) t.heap) 0 0 (fun x => x = b) := by
  refine Met.ofW (cc := cX6_put) (maxL := 4) (ret := none) (by decide) rfl ?_
  intro p e s m args below meth c s₁ B hml hv
  have hx := B.exec
  have hb := B.bytes
  have hr := B.returns
  have hts0 := atoms_spec (ws := .code yX6_put cX6_put 4 none :: mi_ws) B.pre
  have hts : ∀ w ∈ mi_ws, w.before args s = true := fun w hw => hts0 w (List.mem_cons_of_mem _ hw)
  have hown : s.vm.findClass RX6 = some m.cls := findClass_of_methodNamed B.named
  have hlocks := B.notSynchronized
  obtain ⟨rfl, hP, hK⟩ := hv
  have hl := lv_entry ([.ref a, .int i, .long v]) (n := 4) (Nat.le_of_ble_eq_true rfl)
  rw [lg_entry_eq]
  generalize (lg_sl ([.ref a, .int i, .long v]) ++ List.replicate (4 - (lg_sl ([.ref a, .int i, .long v])).length) Slot.unset).toArray = ls at hl ⊢
  have hl : lv_has ls 4 [(0, .ref a), (1, .int i), (2, .long v)] := hl
  refine lv_iload_n hx hb dX6_put_0 rfl (lv_at hl 1 rfl) ?_
  refine lv_if_lt (tgt := 12) hx hb dX6_put_1 (by decide) (fun h1 => absurd h1 h0) (fun h1 => ?_)
  refine lv_iload_n hx hb dX6_put_4 rfl (lv_at hl 1 rfl) ?_
  refine lv_aload_n hx hb dX6_put_5 rfl (lv_at hl 0 rfl) ?_
  refine va_get (D := D) (cl := vwCl) (tys := mi_tys cA) (ws := [(a, .inr (6, [.int (nI N), .ref b])), (b, .inl (cA.2.1, n, (.inr (.inl f))))]) (C := RX6) (T := TX6) (N := 2) (ref := mi_RX 6) (Ts := mi_ws) hx hb hts (mi_inws 6 (by decide)) hown hK hP 0 rfl rfl 0 (by decide) (hts _ mi_wd_fl6) (fun _ h => h) rfl dX6_put_6 ?_
  refine lv_icmp_lt (tgt := 13) hx hb dX6_put_9 (by decide) (fun h2 => ?_) (fun h2 => absurd ((mi_lt h0 hN).mpr hiN) h2)
  refine lv_iload_n hx hb dX6_put_13 rfl (lv_at hl 1 rfl) ?_
  refine lv_aload_n hx hb dX6_put_14 rfl (lv_at hl 0 rfl) ?_
  refine va_get (D := D) (cl := vwCl) (tys := mi_tys cA) (ws := [(a, .inr (6, [.int (nI N), .ref b])), (b, .inl (cA.2.1, n, (.inr (.inl f))))]) (C := RX6) (T := TX6) (N := 2) (ref := mi_RX 6) (Ts := mi_ws) hx hb hts (mi_inws 6 (by decide)) hown hK hP 0 rfl rfl 1 (by decide) (hts _ mi_wd_fc6) (fun _ h => h) rfl dX6_put_15 ?_
  refine va_alen (D := D) (cl := vwCl) (ws := [(a, .inr (6, [.int (nI N), .ref b])), (b, .inl (cA.2.1, n, (.inr (.inl f))))]) hx hb hK hP 1 1 rfl (ty := .long) rfl (v := nI n) rfl dX6_put_18 ?_
  refine lv_icmp_lt (tgt := 53) hx hb dX6_put_19 (by decide) (fun h3 => ?_) (fun h3 => absurd ((mi_lt h0 hn).mpr hin) h3)
  refine lv_aload_n hx hb dX6_put_53 rfl (lv_at hl 0 rfl) ?_
  refine va_get (D := D) (cl := vwCl) (tys := mi_tys cA) (ws := [(a, .inr (6, [.int (nI N), .ref b])), (b, .inl (cA.2.1, n, (.inr (.inl f))))]) (C := RX6) (T := TX6) (N := 2) (ref := mi_RX 6) (Ts := mi_ws) hx hb hts (mi_inws 6 (by decide)) hown hK hP 0 rfl rfl 1 (by decide) (hts _ mi_wd_fc6) (fun _ h => h) rfl dX6_put_54 ?_
  refine lv_iload_n hx hb dX6_put_57 rfl (lv_at hl 1 rfl) ?_
  refine lv_lload_n hx hb dX6_put_58 rfl (lv_at hl 2 rfl) ?_
  refine W.last hx hb (hP 1 _ rfl) ((hK.2 1 _ rfl).1 n (fun j => .long (f j))) (fun q => by cases q) (by show ¬ (i < 0 ∨ (arrV _ _ _).slots.size ≤ _); rw [arrV_size]; exact fun q => q.elim h0 (fun q => absurd q (Nat.not_le.mpr hin))) rfl rfl dX6_put_59 fun H1 e1 z oq => ?_
  refine W.vret hx hb hr (fun t ht hW => ⟨rfl, by rw [ht]; exact z, by rw [ht]; exact oq, ?_⟩) (fun q hq => by simp at hq; rw [hq]) dX6_put_60
  rw [ht]
  show H1[b]? = some (vp_cell _ _)
  rw [e1]
  rw [vp_cell_l, vp_cell_l, arrV_store]
  congr 2
  funext q
  by_cases hq : q = i.toNatClampNeg
  · subst hq
    simp [updV, vp_updL]
  · simp [updV, vp_updL, hq]
set_option maxHeartbeats 4000000 in
set_option maxRecDepth 100000 in
theorem mi_c_putC6 (l : Launch) (D : va_G) (cA : mi_cA) (a b n N sz : Nat) (f : Nat → Int64) (i : Int32) (v : Int64) (hN : N ≤ 1000000) (hn : n ≤ 1000001) (h0 : ¬ i < 0) (hiN : i.toNatClampNeg < N) (hin : n ≤ i.toNatClampNeg) (hz : ∀ j, n ≤ j → f j = 0) : Met l yX6_put (.code yX6_put cX6_put 4 none :: mi_ws) { frames := 2, cells := 1, slots := mi_grow N n i.toNatClampNeg, locals := 70 }
    (fun w U => w = ([.ref a, .int i, .long v] : List Value).toArray ∧ va_P D vwCl [(a, .inr (6, [.int (nI N), .ref b])), (b, .inl (cA.2.1, n, (.inr (.inl f))))] U.heap ∧ va_K D vwCl (mi_tys cA) U ∧ U.heap.size = sz ∧ a ≠ b)
    (fun _ st o t => o = .returned none ∧ sz ≤ t.heap.size ∧ (∀ q : Nat, q < sz → q ≠ a → q ≠ b → t.heap[q]? = st.heap[q]?) ∧ ∃ q : Nat, sz ≤ q ∧ va_P D vwCl [(a, .inr (6, [.int (nI N), .ref q])), (q, .inl (cA.2.1, mi_grow N n i.toNatClampNeg, (.inr (.inl (vp_updL f i.toNatClampNeg v)))))] t.heap) 1 (mi_grow N n i.toNatClampNeg) (fun x => x = a ∨ x = b ∨ sz ≤ x) := by
  refine Met.ofW (cc := cX6_put) (maxL := 4) (ret := none) (by decide) rfl ?_
  intro p e s m args below meth c s₁ B hml hv
  have hx := B.exec
  have hb := B.bytes
  have hr := B.returns
  have hts0 := atoms_spec (ws := .code yX6_put cX6_put 4 none :: mi_ws) B.pre
  have hts : ∀ w ∈ mi_ws, w.before args s = true := fun w hw => hts0 w (List.mem_cons_of_mem _ hw)
  have hown : s.vm.findClass RX6 = some m.cls := findClass_of_methodNamed B.named
  have hlocks := B.notSynchronized
  obtain ⟨rfl, hP, hK, hsz, hab⟩ := hv
  subst hsz
  have hal : a < s.heap.size := (hP 0 _ rfl).lt
  have hbl : b < s.heap.size := (hP 1 _ rfl).lt
  have hg : mi_grow N n i.toNatClampNeg = max (i.toNatClampNeg + 1) (min N (2 * n)) := by unfold mi_grow; rw [if_neg (by omega)]
  rw [hg]
  have hl := lv_entry ([.ref a, .int i, .long v]) (n := 4) (Nat.le_of_ble_eq_true rfl)
  rw [lg_entry_eq]
  generalize (lg_sl ([.ref a, .int i, .long v]) ++ List.replicate (4 - (lg_sl ([.ref a, .int i, .long v])).length) Slot.unset).toArray = ls at hl ⊢
  have hl : lv_has ls 4 [(0, .ref a), (1, .int i), (2, .long v)] := hl
  refine lv_iload_n hx hb dX6_put_0 rfl (lv_at hl 1 rfl) ?_
  refine lv_if_lt (tgt := 12) hx hb dX6_put_1 (by decide) (fun h1 => absurd h1 h0) (fun h1 => ?_)
  refine lv_iload_n hx hb dX6_put_4 rfl (lv_at hl 1 rfl) ?_
  refine lv_aload_n hx hb dX6_put_5 rfl (lv_at hl 0 rfl) ?_
  refine va_get (D := D) (cl := vwCl) (tys := mi_tys cA) (ws := [(a, .inr (6, [.int (nI N), .ref b])), (b, .inl (cA.2.1, n, (.inr (.inl f))))]) (C := RX6) (T := TX6) (N := 2) (ref := mi_RX 6) (Ts := mi_ws) hx hb hts (mi_inws 6 (by decide)) hown hK hP 0 rfl rfl 0 (by decide) (hts _ mi_wd_fl6) (fun _ h => h) rfl dX6_put_6 ?_
  refine lv_icmp_lt (tgt := 13) hx hb dX6_put_9 (by decide) (fun h2 => ?_) (fun h2 => absurd ((mi_lt h0 (by omega)).mpr hiN) h2)
  refine lv_iload_n hx hb dX6_put_13 rfl (lv_at hl 1 rfl) ?_
  refine lv_aload_n hx hb dX6_put_14 rfl (lv_at hl 0 rfl) ?_
  refine va_get (D := D) (cl := vwCl) (tys := mi_tys cA) (ws := [(a, .inr (6, [.int (nI N), .ref b])), (b, .inl (cA.2.1, n, (.inr (.inl f))))]) (C := RX6) (T := TX6) (N := 2) (ref := mi_RX 6) (Ts := mi_ws) hx hb hts (mi_inws 6 (by decide)) hown hK hP 0 rfl rfl 1 (by decide) (hts _ mi_wd_fc6) (fun _ h => h) rfl dX6_put_15 ?_
  refine va_alen (D := D) (cl := vwCl) (ws := [(a, .inr (6, [.int (nI N), .ref b])), (b, .inl (cA.2.1, n, (.inr (.inl f))))]) hx hb hK hP 1 1 rfl (ty := .long) rfl (v := nI n) rfl dX6_put_18 ?_
  refine lv_icmp_lt (tgt := 53) hx hb dX6_put_19 (by decide) (fun h3 => absurd ((mi_lt h0 (by omega)).mp h3) (by omega)) (fun h3 => ?_)
  refine lv_aload_n hx hb dX6_put_22 rfl (lv_at hl 0 rfl) ?_
  refine lv_aload_n hx hb dX6_put_23 rfl (lv_at hl 0 rfl) ?_
  refine va_get (D := D) (cl := vwCl) (tys := mi_tys cA) (ws := [(a, .inr (6, [.int (nI N), .ref b])), (b, .inl (cA.2.1, n, (.inr (.inl f))))]) (C := RX6) (T := TX6) (N := 2) (ref := mi_RX 6) (Ts := mi_ws) hx hb hts (mi_inws 6 (by decide)) hown hK hP 0 rfl rfl 1 (by decide) (hts _ mi_wd_fc6) (fun _ h => h) rfl dX6_put_24 ?_
  refine lv_iload_n hx hb dX6_put_27 rfl (lv_at hl 1 rfl) ?_
  refine lv_iconst (v := 1) hx hb dX6_put_28 (by decide) ?_
  refine lv_iadd hx hb dX6_put_29 ?_
  refine lv_aload_n hx hb dX6_put_30 rfl (lv_at hl 0 rfl) ?_
  refine va_get (D := D) (cl := vwCl) (tys := mi_tys cA) (ws := [(a, .inr (6, [.int (nI N), .ref b])), (b, .inl (cA.2.1, n, (.inr (.inl f))))]) (C := RX6) (T := TX6) (N := 2) (ref := mi_RX 6) (Ts := mi_ws) hx hb hts (mi_inws 6 (by decide)) hown hK hP 0 rfl rfl 0 (by decide) (hts _ mi_wd_fl6) (fun _ h => h) rfl dX6_put_31 ?_
  refine lv_iconst (v := nI 2) hx hb dX6_put_34 (by decide) ?_
  refine lv_aload_n hx hb dX6_put_35 rfl (lv_at hl 0 rfl) ?_
  refine va_get (D := D) (cl := vwCl) (tys := mi_tys cA) (ws := [(a, .inr (6, [.int (nI N), .ref b])), (b, .inl (cA.2.1, n, (.inr (.inl f))))]) (C := RX6) (T := TX6) (N := 2) (ref := mi_RX 6) (Ts := mi_ws) hx hb hts (mi_inws 6 (by decide)) hown hK hP 0 rfl rfl 1 (by decide) (hts _ mi_wd_fc6) (fun _ h => h) rfl dX6_put_36 ?_
  refine va_alen (D := D) (cl := vwCl) (ws := [(a, .inr (6, [.int (nI N), .ref b])), (b, .inl (cA.2.1, n, (.inr (.inl f))))]) hx hb hK hP 1 1 rfl (ty := .long) rfl (v := nI n) rfl dX6_put_39 ?_
  refine lv_imul hx hb dX6_put_40 ?_
  rw [pk_mul]
  refine va_mmin hx hb (hml.trans hl.1.symm) hown (hts _ mi_wd_mi6) (hts _ mi_wd_stMin) (hts _ mi_wd_iniMath) (hts _ mi_wd_cdMin) (by show 1 ≤ 2; omega) (by show _ + 13 ≤ 70; simp [Value.category]) (by show 0 ≤ 1; omega) (by show 0 ≤ _; omega) dX6_put_41 ?_
  rw [show (if nI (2 * n) < nI N then nI (2 * n) else nI N) = nI (min N (2 * n)) by
    by_cases hc : 2 * n < N
    · rw [if_pos (nI_lt hc (by omega)), Nat.min_eq_right (by omega)]
    · rw [if_neg (nI_nlt (by omega) (by omega)), Nat.min_eq_left (by omega)]]
  refine va_mmax hx hb (hml.trans hl.1.symm) hown (hts _ mi_wd_ma6) (hts _ mi_wd_stMax) (hts _ mi_wd_iniMath) (hts _ mi_wd_cdMax) (by show 1 ≤ 2; omega) (by show _ + 13 ≤ 70; simp [Value.category]) (by show 0 ≤ 1; omega) (by show 0 ≤ _; omega) dX6_put_44 ?_
  obtain ⟨j, hj, rfl⟩ := nI_of h0
  rw [nI_clamp hj] at hiN hin ⊢
  rw [nI_1, show (if nI (j + 1) < nI (min N (2 * n)) then nI (min N (2 * n)) else nI (j + 1)) = nI (max (j + 1) (min N (2 * n))) by
    by_cases hc : j + 1 < min N (2 * n)
    · rw [if_pos (nI_lt hc (by omega)), Nat.max_eq_right (by omega)]
    · rw [if_neg (nI_nlt (by omega) (by omega)), Nat.max_eq_left (by omega)]]
  obtain ⟨k, hk⟩ : ∃ k, k = max (j + 1) (min N (2 * n)) := ⟨_, rfl⟩
  rw [← hk]
  have hk1 : n < k := by omega
  have hk2 : k < 2000000 := by omega
  have hk3 : k < 2 ^ 31 := by omega
  refine mi_callG (va_runS (As := [.ref b, .int (nI k)]) (rest := [.ref a]) ⟨hx, hb, hml, hown, hts⟩ (mi_c_copy6 l D cA b n s.heap.size f (nI k) (nI_pos hk3) (by rw [nI_clamp hk3]; exact hk1) (by rw [nI_clamp hk3]; exact hk2)) (va_cwS 2 hts (mi_goodS mi_wd_lkCo6 mi_wd_stCo6 mi_wd_iniArrays mi_wd_cdCo6) rfl rfl rfl ⟨by decide, by decide, by decide +kernel⟩ ⟨by show 1 + 1 ≤ 2; omega, by show 8 + (3 + 11) + 40 ≤ 70; omega⟩)
    ⟨fun a' U g' mk h => ⟨h.1, h.2.1, va_K.moved (u := U) (U := U.calling g' mk a') (Vm.Alike.refl U.vm) h.2.2.1, h.2.2.2⟩, fun U hU hW => ⟨rfl, by rw [hU]; exact hP.sub (ws' := [(b, .inl (cA.2.1, n, (.inr (.inl f))))]) [1] rfl, va_K.moved hW.alike hK, by rw [hU]⟩⟩ rfl rfl hl.1 rfl (lv_room (Nat.le_of_ble_eq_true rfl)) dX6_put_47 ⟨by show 0 + 1 ≤ 1; omega, by rw [nI_clamp hk3]; show 0 + k ≤ k; omega⟩) (fun vv st t L hst hQ hL hW => ?_)
  obtain ⟨q, hv, hq1, hq2, hq3, hq4⟩ := hQ
  cases hv
  rw [hst] at hq3
  rw [nI_clamp hk3] at hq4 ⊢
  rw [mi_cpy_all 0 f n hz] at hq4
  have hqa : a ≠ q := by omega
  have hP1 : va_P D vwCl [(a, .inr (6, [.int (nI N), .ref b])), (q, .inl (cA.2.1, k, (.inr (.inl f))))] t.heap := by
    intro x y hy
    have hx2 := (List.getElem?_eq_some_iff.mp hy).1
    simp at hx2
    rcases (show x = 0 ∨ x = 1 by omega) with rfl | rfl
    · cases hy
      exact (hP 0 _ rfl).kept (hq3 a hal)
    · cases hy
      exact hq4 0 _ rfl
  have hD1 : va_D (fun x : Nat => x = a ∨ x = b ∨ s.heap.size ≤ x) [(a, .inr (6, [.int (nI N), .ref b])), (q, .inl (cA.2.1, k, (.inr (.inl f))))] := mi_two_D (Or.inl rfl) (Or.inr (Or.inr hq1)) hqa
  have hS1 : va_S (fun x : Nat => x = a ∨ x = b ∨ s.heap.size ≤ x) s.heap t.heap ([] ++ L) := ⟨hq2, fun x h1 _ => hq3 x h1, fun x hx => by
    rcases hL x (by simpa using hx) with h | h
    · exact Or.inr (Or.inl h)
    · exact Or.inr (Or.inr h)⟩
  generalize ([] ++ L) = L1 at hS1 ⊢
  refine va_put (D := D) (cl := vwCl) (tys := mi_tys cA) (ci := 6) (v := .ref q) (C := RX6) (T := TX6) (N := 2) (ref := mi_RX 6) (Ts := mi_ws) hx hb hts (mi_inws 6 (by decide)) tyX6 tyX6_ok nmX6 hown hK hP1 hD1 hS1 0 rfl rfl 1 (by decide) (hts _ mi_wd_fc6) (fun _ h => h) rfl (ty := .array .long) (by decide +kernel) rfl rfl (Nat.le_of_ble_eq_true rfl) dX6_put_50 (fun H2 locs2 hP2 hD2 hS2 => ?_)
  have hP2 : va_P D vwCl [(a, .inr (6, [.int (nI N), .ref q])), (q, .inl (cA.2.1, k, (.inr (.inl f))))] H2 := hP2
  have hD2 : va_D (fun x : Nat => x = a ∨ x = b ∨ s.heap.size ≤ x) [(a, .inr (6, [.int (nI N), .ref q])), (q, .inl (cA.2.1, k, (.inr (.inl f))))] := hD2
  refine lv_aload_n hx hb dX6_put_53 rfl (lv_at hl 0 rfl) ?_
  refine va_get (D := D) (cl := vwCl) (tys := mi_tys cA) (ws := [(a, .inr (6, [.int (nI N), .ref q])), (q, .inl (cA.2.1, k, (.inr (.inl f))))]) (C := RX6) (T := TX6) (N := 2) (ref := mi_RX 6) (Ts := mi_ws) hx hb hts (mi_inws 6 (by decide)) hown hK hP2 0 rfl rfl 1 (by decide) (hts _ mi_wd_fc6) (fun _ h => h) rfl dX6_put_54 ?_
  refine lv_iload_n hx hb dX6_put_57 rfl (lv_at hl 1 rfl) ?_
  refine lv_lload_n hx hb dX6_put_58 rfl (lv_at hl 2 rfl) ?_
  refine va_last (D := D) (cl := vwCl) hx hb hK hP2 hD2 hS2 1 1 rfl rfl (vp_in_nI (by omega) hk3) dX6_put_59 (fun H3 locs3 hP3 hD3 hS3 => ?_)
  refine W.widen (k := 1) (n := k) (by omega) (by omega) ?_
  refine W.vret hx hb hr (fun t2 ht hW2 => ⟨rfl, by rw [ht]; exact hS3.1, fun x h1 h2 h3 => by rw [ht]; exact hS3.2.1 x h1 (fun q => q.elim h2 (fun q => q.elim h3 (fun q => by omega))), q, hq1, ?_⟩) hS3.2.2 dX6_put_60
  rw [ht]
  rw [nI_clamp hj] at hP3
  exact hP3
set_option maxHeartbeats 4000000 in
set_option maxRecDepth 100000 in
theorem mi_c_init6 (l : Launch) (D : va_G) (cA : mi_cA) (a sz : Nat) (lim : Int32) : Met l yX6_init (.code yX6_init cX6_init 2 none :: mi_ws) { frames := 1, cells := 1, slots := 16, locals := 40 }
    (fun w U => w = ([.ref a, .int lim] : List Value).toArray ∧ va_P D vwCl [(a, .inr (6, [.int 0, .null]))] U.heap ∧ va_K D vwCl (mi_tys cA) U ∧ U.heap.size = sz)
    (fun _ st o t => o = .returned none ∧ sz ≤ t.heap.size ∧ (∀ q : Nat, q < sz → q ≠ a → t.heap[q]? = st.heap[q]?) ∧ ∃ q : Nat, sz ≤ q ∧ va_P D vwCl [(a, .inr (6, [.int lim, .ref q])), (q, .inl (cA.2.1, 16, (.inr (.inl (fun _ => 0)))))] t.heap) 1 16 (fun x => x = a ∨ sz ≤ x) := by
  refine Met.ofW (cc := cX6_init) (maxL := 2) (ret := none) (by decide) rfl ?_
  intro p e s m args below meth c s₁ B hml hv
  have hx := B.exec
  have hb := B.bytes
  have hr := B.returns
  have hts0 := atoms_spec (ws := .code yX6_init cX6_init 2 none :: mi_ws) B.pre
  have hts : ∀ w ∈ mi_ws, w.before args s = true := fun w hw => hts0 w (List.mem_cons_of_mem _ hw)
  have hown : s.vm.findClass RX6 = some m.cls := findClass_of_methodNamed B.named
  have hlocks := B.notSynchronized
  obtain ⟨rfl, hP, hK, hsz⟩ := hv
  subst hsz
  have hal : a < s.heap.size := (hP 0 _ rfl).lt
  have hin : meth.name = "<init>" := (name_of_methodNamed B.named B.method).1
  have hD : va_D (fun x : Nat => x = a ∨ s.heap.size ≤ x) [(a, .inr (6, [.int 0, .null]))] := mi_one_D (Or.inl rfl)
  have hS : va_S (fun x : Nat => x = a ∨ s.heap.size ≤ x) s.heap s.heap [] := va_S.rf
  have hAA : ∀ q : Nat, s.heap.size ≤ q → (fun x : Nat => x = a ∨ s.heap.size ≤ x) q := fun q h => Or.inr h
  have hl := lv_entry ([.ref a, .int lim]) (n := 2) (Nat.le_of_ble_eq_true rfl)
  rw [lg_entry_eq]
  generalize (lg_sl ([.ref a, .int lim]) ++ List.replicate (2 - (lg_sl ([.ref a, .int lim])).length) Slot.unset).toArray = ls at hl ⊢
  have hl : lv_has ls 2 [(0, .ref a), (1, .int lim)] := hl
  refine lv_aload_n hx hb dX6_init_0 rfl (lv_at hl 0 rfl) ?_
  refine W.objInit hx hb hown (hts _ mi_wd_ob6) (hts _ mi_wd_inObj) (hts _ mi_wd_cdObj) rfl (by rw [hml]; exact hl.1) rfl dX6_init_1 (by show 1 ≤ 1; omega) (by show _ + 12 ≤ 40; simp) ?_
  refine W.eq (g2 := F0 m 4 ls []) rfl ?_
  refine lv_aload_n hx hb dX6_init_4 rfl (lv_at hl 0 rfl) ?_
  refine lv_iload_n hx hb dX6_init_5 rfl (lv_at hl 1 rfl) ?_
  refine va_putF (D := D) (cl := vwCl) (tys := mi_tys cA) (ci := 6) (v := .int lim) (own := RX6) (C := RX6) (T := TX6) (N := 2) (ref := mi_RX 6) (Ts := mi_ws) hx hb hts (mi_inws 6 (by decide)) tyX6 tyX6_ok nmX6 hown hK hP hD hS 0 rfl rfl 0 (by decide) (hts _ mi_wd_fl6) (fun _ h => h) rfl hin rfl (ty := .int) (by decide +kernel) rfl rfl (Nat.le_of_ble_eq_true rfl) dX6_init_6 (fun H1 locs1 hP1 hD1 hS1 => ?_)
  have hP1 : va_P D vwCl [(a, .inr (6, [.int lim, .null]))] H1 := hP1
  have hD1 : va_D (fun x : Nat => x = a ∨ s.heap.size ≤ x) [(a, .inr (6, [.int lim, .null]))] := hD1
  refine lv_aload_n hx hb dX6_init_9 rfl (lv_at hl 0 rfl) ?_
  refine lv_bipush (v := nI 16) hx hb dX6_init_10 (by decide) ?_
  refine va_newa (atype := .long) (D := D) (cl := vwCl) (a0 := (16, (.inr (.inl (fun _ => 0))))) hx hb (hts _ mi_word_aj) rfl hK hP1 hD1 hS1 hAA (fun _ => rfl) (by decide) (by decide) (by decide) (by show 0 + 1 ≤ 1; omega) (by show 0 + 16 ≤ 16; omega) dX6_init_12 (fun q c' H2 hK2 hP2 hD2 hS2 => ?_)
  have hP2 : va_P D vwCl [(a, .inr (6, [.int lim, .null])), (q, .inl (c', 16, (.inr (.inl (fun _ => 0)))))] H2 := hP2
  have hD2 : va_D (fun x : Nat => x = a ∨ s.heap.size ≤ x) [(a, .inr (6, [.int lim, .null])), (q, .inl (c', 16, (.inr (.inl (fun _ => 0)))))] := hD2
  have hcc : c' = cA.2.1 := by
    have e1 := (hK2.2 3 _ rfl).2
    have e2 := (hK.2 1 _ rfl).2
    exact Option.some.inj (e1.symm.trans e2)
  subst hcc
  have hqa : q ≠ a := fun e => by have h9 := hD2.1 1 0 _ _ rfl rfl e; omega
  have hq : s.heap.size ≤ q := by
    rcases hD2.2 1 _ rfl with h | h
    · exact absurd h hqa
    · exact h
  refine va_put (D := D) (cl := vwCl) (tys := mi_tys cA) (ci := 6) (v := .ref q) (C := RX6) (T := TX6) (N := 2) (ref := mi_RX 6) (Ts := mi_ws) hx hb hts (mi_inws 6 (by decide)) tyX6 tyX6_ok nmX6 hown hK hP2 hD2 hS2 0 rfl rfl 1 (by decide) (hts _ mi_wd_fc6) (fun _ h => h) rfl (ty := .array .long) (by decide +kernel) rfl rfl (Nat.le_of_ble_eq_true rfl) dX6_init_14 (fun H3 locs3 hP3 hD3 hS3 => ?_)
  exact W.vret hx hb hr (fun t ht hW => ⟨rfl, by rw [ht]; exact hS3.1, fun x h1 h2 => by rw [ht]; exact hS3.2.1 x h1 (fun q => q.elim h2 (fun q => by omega)), q, hq, by rw [ht]; exact hP3⟩) hS3.2.2 dX6_init_17
theorem mi_fill_loop {p : Program} {l : Launch} {e : Env} {R : Room} {s : State} {m : MethodId} {args : Array Value} {below : List Frame} {meth : Method} {c : Code} {Q : State → Prop} {D : va_G} {cA : mi_cA} {b n : Nat} {f : Nat → Int64} {v : Int64} (hx : p.tables.exec = Jvm.exec) (hb : c.code = cJ7_fill_d0a16) (hK : va_K D vwCl (mi_tys cA) s) (hn : n < 2 ^ 31)
    (fin : ∀ (H : Heap) (locs : List Loc) (ls : Array Slot), H.size = s.heap.size → (∀ q : Nat, q ≠ b → H[q]? = s.heap[q]?) → va_at D vwCl (b, .inl (cA.2.1, n, .inr (.inl (fun j => if j < n then v else f j)))) H → (∀ z ∈ locs, z.base = b) → W p l e R s m args below meth c H locs 0 0 Q (F0 m 22 ls [])) :
    ∀ (r k : Nat), k + r = n → ∀ (H : Heap) (locs : List Loc) (ls : Array Slot), H.size = s.heap.size → (∀ q : Nat, q ≠ b → H[q]? = s.heap[q]?) → va_at D vwCl (b, .inl (cA.2.1, n, .inr (.inl (fun j => if j < k then v else f j)))) H → (∀ z ∈ locs, z.base = b) → lv_has ls 5 [(3, .int (nI k)), (4, .int (nI n)), (0, .ref b), (1, .long v)] → W p l e R s m args below meth c H locs 0 0 Q (F0 m 6 ls []) := by
  intro r
  induction r with
  | zero =>
    intro k hk H locs ls hz ho hc hlo hl
    have hk : k = n := by omega
    subst hk
    refine lv_iload_n hx hb dJ7_fill_d0a16_6 rfl (lv_at hl 0 rfl) ?_
    refine lv_iload hx hb dJ7_fill_d0a16_7 (lv_at hl 1 rfl) ?_
    refine lv_icmp_ge (tgt := 22) hx hb dJ7_fill_d0a16_9 (by decide) (fun _ => fin H locs ls hz ho hc hlo) (fun h => absurd (nI_le (Nat.le_refl k) hn) h)
  | succ r ih =>
    intro k hk H locs ls hz ho hc hlo hl
    have hkn : k < n := by omega
    refine lv_iload_n hx hb dJ7_fill_d0a16_6 rfl (lv_at hl 0 rfl) ?_
    refine lv_iload hx hb dJ7_fill_d0a16_7 (lv_at hl 1 rfl) ?_
    refine lv_icmp_ge (tgt := 22) hx hb dJ7_fill_d0a16_9 (by decide) (fun h => absurd h (nI_ge (by omega) hn)) (fun _ => ?_)
    refine lv_aload_n hx hb dJ7_fill_d0a16_12 rfl (lv_at hl 2 rfl) ?_
    refine lv_iload_n hx hb dJ7_fill_d0a16_13 rfl (lv_at hl 0 rfl) ?_
    refine lv_lload_n hx hb dJ7_fill_d0a16_14 rfl (lv_at hl 3 rfl) ?_
    refine W.last hx hb hc ((hK.2 1 _ rfl).1 n (fun j => .long (if j < k then v else f j))) (fun q => by cases q) (by show ¬ (nI k < 0 ∨ (arrV _ _ _).slots.size ≤ _); rw [arrV_size, nI_clamp (by omega)]; exact fun q => q.elim (nI_pos (by omega)) (fun q => absurd q (Nat.not_le.mpr hkn))) rfl rfl dJ7_fill_d0a16_15 fun H1 e1 z1 oq => ?_
    refine lv_iinc (v := nI (k + 1)) (lv' := [(3, .int (nI (k + 1))), (4, .int (nI n)), (0, .ref b), (1, .long v)]) hx hb dJ7_fill_d0a16_16 hl (k := 0) rfl (nI_1 k) (by decide) rfl (fun ls hl => ?_)
    refine lv_goto (pc := 19) (tgt := 6) hx hb dJ7_fill_d0a16_19 (by decide) ?_
    refine ih (k + 1) (by omega) H1 _ ls (z1.trans hz) (fun q hq => (oq q hq).trans (ho q hq)) ?_ (fun z hz => by
      rcases List.mem_append.mp hz with h | h
      · exact hlo z h
      · simp at h; rw [h]) hl
    show H1[b]? = some (vp_cell _ _)
    rw [e1]
    rw [vp_cell_l, vp_cell_l, arrV_store, nI_clamp (by omega)]
    congr 2
    funext q
    by_cases hq : q = k
    · subst hq
      simp [updV]
    · simp only [updV, hq, if_false]
      by_cases hqk : q < k
      · rw [if_pos hqk, if_pos (by omega)]
      · rw [if_neg hqk, if_neg (by omega)]
set_option maxHeartbeats 4000000 in
set_option maxRecDepth 100000 in
theorem mi_c_fill (l : Launch) (D : va_G) (cA : mi_cA) (b n : Nat) (f : Nat → Int64) (v : Int64) (hn : n < 2 ^ 31) : Met l yJ7_fill_d0a16 (.code yJ7_fill_d0a16 cJ7_fill_d0a16 5 none :: mi_ws) { frames := 0, cells := 0, slots := 0, locals := 0 }
    (fun w U => w = ([.ref b, .long v] : List Value).toArray ∧ va_P D vwCl [(b, .inl (cA.2.1, n, .inr (.inl f)))] U.heap ∧ va_K D vwCl (mi_tys cA) U)
    (fun _ st o t => o = .returned none ∧ t.heap.size = st.heap.size ∧ (∀ q : Nat, q ≠ b → t.heap[q]? = st.heap[q]?) ∧ va_at D vwCl (b, .inl (cA.2.1, n, .inr (.inl (fun j => if j < n then v else f j)))) t.heap) 0 0 (fun x => x = b) := by
  refine Met.ofW (cc := cJ7_fill_d0a16) (maxL := 5) (ret := none) (by decide) rfl ?_
  intro p e s m args below meth c s₁ B hml hv
  have hx := B.exec
  have hb := B.bytes
  have hr := B.returns
  have hts0 := atoms_spec (ws := .code yJ7_fill_d0a16 cJ7_fill_d0a16 5 none :: mi_ws) B.pre
  have hts : ∀ w ∈ mi_ws, w.before args s = true := fun w hw => hts0 w (List.mem_cons_of_mem _ hw)
  have hown : s.vm.findClass RJ7 = some m.cls := findClass_of_methodNamed B.named
  have hlocks := B.notSynchronized
  obtain ⟨rfl, hP, hK⟩ := hv
  have hl := lv_entry ([.ref b, .long v]) (n := 5) (Nat.le_of_ble_eq_true rfl)
  rw [lg_entry_eq]
  generalize (lg_sl ([.ref b, .long v]) ++ List.replicate (5 - (lg_sl ([.ref b, .long v])).length) Slot.unset).toArray = ls at hl ⊢
  have hl : lv_has ls 5 [(0, .ref b), (1, .long v)] := hl
  refine lv_iconst (v := nI 0) hx hb dJ7_fill_d0a16_0 (by decide) ?_
  refine lv_istore_n (lv' := [(3, .int (nI 0)), (0, .ref b), (1, .long v)]) hx hb dJ7_fill_d0a16_1 rfl hl (by decide) rfl (fun ls hl => ?_)
  refine lv_aload_n hx hb dJ7_fill_d0a16_2 rfl (lv_at hl 1 rfl) ?_
  refine va_alen (D := D) (cl := vwCl) hx hb hK hP 0 1 rfl (ty := .long) rfl (v := nI n) rfl dJ7_fill_d0a16_3 ?_
  refine lv_istore (lv' := [(4, .int (nI n)), (3, .int (nI 0)), (0, .ref b), (1, .long v)]) hx hb dJ7_fill_d0a16_4 hl (by decide) rfl (fun ls hl => ?_)
  exact mi_fill_loop (D := D) (cA := cA) (b := b) (n := n) (f := f) (v := v) hx hb hK hn (fun H locs ls hz ho hc hlo => W.vret hx hb hr (fun t ht hW => ⟨rfl, by rw [ht]; exact hz, by rw [ht]; exact ho, by rw [ht]; exact hc⟩) hlo dJ7_fill_d0a16_22) n 0 (by omega) s.heap [] ls rfl (fun _ _ => rfl) (by simpa using hP 0 _ rfl) (fun z hz => by cases hz) (lv_sub hl [1, 0, 2, 3] rfl)
set_option maxHeartbeats 4000000 in
set_option maxRecDepth 100000 in
theorem mi_c_clear (l : Launch) (D : va_G) (cA : mi_cA) (a b n : Nat) (lim : Int32) (f : Nat → Int64) (hn : n < 2 ^ 31) : Met l yX6_clear (.code yX6_clear cX6_clear 1 none :: mi_ws) { frames := 1, cells := 0, slots := 0, locals := 40 }
    (fun w U => w = ([.ref a] : List Value).toArray ∧ va_P D vwCl [(a, .inr (6, [.int lim, .ref b])), (b, .inl (cA.2.1, n, .inr (.inl f)))] U.heap ∧ va_K D vwCl (mi_tys cA) U)
    (fun _ st o t => o = .returned none ∧ t.heap.size = st.heap.size ∧ (∀ q : Nat, q ≠ b → t.heap[q]? = st.heap[q]?) ∧ va_at D vwCl (b, .inl (cA.2.1, n, .inr (.inl (fun j => if j < n then 0 else f j)))) t.heap) 0 0 (fun x => x = b) := by
  refine Met.ofW (cc := cX6_clear) (maxL := 1) (ret := none) (by decide) rfl ?_
  intro p e s m args below meth c s₁ B hml hv
  have hx := B.exec
  have hb := B.bytes
  have hr := B.returns
  have hts0 := atoms_spec (ws := .code yX6_clear cX6_clear 1 none :: mi_ws) B.pre
  have hts : ∀ w ∈ mi_ws, w.before args s = true := fun w hw => hts0 w (List.mem_cons_of_mem _ hw)
  have hown : s.vm.findClass RX6 = some m.cls := findClass_of_methodNamed B.named
  have hlocks := B.notSynchronized
  obtain ⟨rfl, hP, hK⟩ := hv
  have hl := lv_entry ([.ref a]) (n := 1) (Nat.le_of_ble_eq_true rfl)
  rw [lg_entry_eq]
  generalize (lg_sl ([.ref a]) ++ List.replicate (1 - (lg_sl ([.ref a])).length) Slot.unset).toArray = ls at hl ⊢
  have hl : lv_has ls 1 [(0, .ref a)] := hl
  refine lv_aload_n hx hb dX6_clear_0 rfl (lv_at hl 0 rfl) ?_
  refine va_get (D := D) (cl := vwCl) (tys := mi_tys cA) (ws := [(a, .inr (6, [.int lim, .ref b])), (b, .inl (cA.2.1, n, .inr (.inl f)))]) (C := RX6) (T := TX6) (N := 2) (ref := mi_RX 6) (Ts := mi_ws) hx hb hts (mi_inws 6 (by decide)) hown hK hP 0 rfl rfl 1 (by decide) (hts _ mi_wd_fc6) (fun _ h => h) rfl dX6_clear_1 ?_
  refine lv_lconst (v := 0) hx hb dX6_clear_4 (by decide) ?_
  refine mi_callG (va_runS (As := [.ref b, .long 0]) (rest := []) ⟨hx, hb, hml, hown, hts⟩ (mi_c_fill l D cA b n f 0 hn) (va_cwS 2 hts (mi_goodS mi_wd_lkFill mi_wd_stFill mi_wd_iniArrays mi_wd_cdFill) rfl rfl rfl ⟨by decide, by decide, by decide +kernel⟩ ⟨by show 0 + 1 ≤ 1; omega, by show 8 + (5 + 11) + 0 ≤ 40; omega⟩)
    ⟨fun a' U g' mk h => ⟨h.1, h.2.1, va_K.moved (u := U) (U := U.calling g' mk a') (Vm.Alike.refl U.vm) h.2.2⟩, fun U hU hW => ⟨rfl, by rw [hU]; exact hP.sub [1] rfl, va_K.moved hW.alike hK⟩⟩ rfl rfl hl.1 rfl (lv_room (Nat.le_of_ble_eq_true rfl)) dX6_clear_5 ⟨by show 0 + 0 ≤ 0; omega, by show 0 + 0 ≤ 0; omega⟩) (fun vv st t L hst hQ hL hW => ?_)
  obtain ⟨hv, hq1, hq2, hq3⟩ := hQ
  cases hv
  rw [hst] at hq1 hq2
  exact W.vret hx hb hr (fun t2 ht hW2 => ⟨rfl, by rw [ht]; exact hq1, by rw [ht]; exact hq2, by rw [ht]; exact hq3⟩) (fun z hz => hL z (by simpa using hz)) dX6_clear_8
