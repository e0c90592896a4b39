theorem mi_noQ6 {o i : Nat} (h : mi_Q o i = some 6) : False := by
  unfold mi_Q at h
  cases hf : mi_tQ.find? (fun e => e.1 == o && e.2.1 == i) with
  | none => rw [hf] at h; cases h
  | some e =>
    rw [hf] at h
    have h1 := (mi_find _ _ hf).1
    have h2 : ∀ e ∈ mi_tQ, e.2.2.1 ≠ 6 := by decide +kernel
    exact h2 e h1 (Option.some.inj h)
section MIRL
variable {D : va_G} {cA : mi_cA} {H0 H H1 : Heap} {tl : Nat} {ad ad2 : Nat → Nat} {g : mi_G} {δ : mi_D} {cp : Nat → Nat} {s : State} {a k sl : Nat} {locs : List Loc}
theorem mi_rs_lt (hR : mi_Rel D cA H0 tl ad ad2 g δ cp s H) {b : Nat} (hb : (mi_rs g a).getD sl 0 = b + 1) : b < g.length := by
  have h : (mi_rs g a).getD sl 0 ∈ mi_rs g a := by
    by_cases hs : sl < (mi_rs g a).length
    · rw [List.getD_eq_getElem?_getD, List.getElem?_eq_getElem hs]; exact List.getElem_mem hs
    · rw [List.getD_eq_getElem?_getD, List.getElem?_eq_none (by omega)] at hb; cases hb
  have := hR.2.2.2.2.2.2.2.2.1 a _ h
  omega
theorem mi_lo (hlo : ∀ z ∈ locs, H0.size ≤ z.base) (hR : mi_Rel D cA H0 tl ad ad2 g δ cp s H) (hv : mi_v1 g a) {z : Loc} (hz : z.base = ad a) : ∀ w ∈ locs ++ [z], H0.size ≤ w.base := by
  intro w hw
  rcases List.mem_append.mp hw with h | h
  · exact hlo w h
  · simp at h
    rw [h, hz]
    exact (hR.2.1 a hv).2
theorem mi_same {b : Nat} : (∀ j, δ.1 b j = δ.1 b j) ∧ δ.2.1 b = δ.2.1 b ∧ δ.2.2 b = δ.2.2 b := ⟨fun _ => rfl, rfl, rfl⟩
theorem mi_step1 {g' : mi_G} {δ' : mi_D} (hR : mi_Rel D cA H0 tl ad ad2 g δ cp s H) (hv : mi_v1 g a) (hnv : ¬ mi_v2 g' a) (z1 : H1.size = H.size) (o1 : ∀ q : Nat, q ≠ ad a → H1[q]? = H[q]?) (hl : g'.length = g.length) (hg : ∀ b, b ≠ a → g'[b]? = g[b]?) (hka : mi_k g' a = mi_k g a) (hra : ∀ r ∈ mi_rs g' a, r ≤ g.length)
    (hd : ∀ b, b ≠ a → (∀ j, δ'.1 b j = δ.1 b j) ∧ δ'.2.1 b = δ.2.1 b ∧ δ'.2.2 b = δ.2.2 b) (e1 : va_at D vwCl (ad a, mi_cell cA ad ad2 g' δ' a) H1) : mi_Rel D cA H0 tl ad ad2 g' δ' cp s H1 :=
  hR.step a hv (Nat.le_of_eq z1.symm) (fun q _ h _ => o1 q h) (fun _ _ => rfl) (Or.inr (Or.inr hnv)) hl hg hd (fun _ _ => rfl) hka hra e1 (fun h => absurd h hnv)
theorem mi_Rel_setI (hR : mi_Rel D cA H0 tl ad ad2 g δ cp s H) (hk : mi_k g a = k) (f2 : sl < mi_n k) (f3 : k < 13) (f5 : k ≠ 3) (f6 : k ≠ 6) {v : Int32} (hty : mi_Ty k sl = .int ∨ mi_Ty k sl = .boolean) (z1 : H1.size = H.size) (o1 : ∀ q : Nat, q ≠ ad a → H1[q]? = H[q]?) (a1 : va_at D vwCl (ad a, .inr (k, (mi_fs ad δ a k (mi_rs g a)).set sl (.int v))) H1) : mi_Rel D cA H0 tl ad ad2 g (mi_setI δ a sl v) cp s H1 := by
  refine mi_step1 hR (Or.inl (by omega)) (fun h => by rcases h.1 with h | h <;> omega) z1 o1 rfl (fun _ _ => rfl) rfl (fun r hr => hR.2.2.2.2.2.2.2.2.1 a r hr) (fun b hb => ⟨fun j => if_neg (fun q => hb q.1), rfl, rfl⟩) ?_
  rw [mi_cell_obj hk f3 f5 f6]
  rw [show mi_fs ad (mi_setI δ a sl v) a k (mi_rs g a) = (mi_fs ad δ a k (mi_rs g a)).set sl (.int v) by
    apply List.ext_getElem?
    intro j
    by_cases hj : j < mi_n k
    · rw [mi_fs_get hj]
      by_cases hjs : j = sl
      · subst hjs
        rw [List.getElem?_set_self (by rw [mi_fs_len]; exact hj)]
        congr 1
        have e : (mi_setI δ a j v).1 a j = v := if_pos ⟨rfl, rfl⟩
        unfold mi_fv
        rcases hty with h | h <;> rw [h] <;> dsimp only <;> rw [e]
      · rw [List.getElem?_set_ne (Ne.symm hjs), mi_fs_get hj]
        congr 1
        have e : (mi_setI δ a sl v).1 a j = δ.1 a j := if_neg (fun q => hjs q.2)
        unfold mi_fv
        rw [e]
    · rw [List.getElem?_eq_none (by rw [mi_fs_len]; omega), List.getElem?_eq_none (by rw [List.length_set, mi_fs_len]; omega)]]
  exact a1
theorem mi_Rel_setR (hR : mi_Rel D cA H0 tl ad ad2 g δ cp s H) (hk : mi_k g a = k) (f2 : sl < mi_n k) (f3 : k < 13) (f5 : k ≠ 3) (f6 : k ≠ 6) {b : Nat} (hty : (∃ n, mi_Ty k sl = .object n) ∨ (∃ n, mi_Ty k sl = .array n)) (hlen : sl < (mi_rs g a).length) (hbl : b < g.length) (z1 : H1.size = H.size) (o1 : ∀ q : Nat, q ≠ ad a → H1[q]? = H[q]?) (a1 : va_at D vwCl (ad a, .inr (k, (mi_fs ad δ a k (mi_rs g a)).set sl (.ref (ad b)))) H1) : mi_Rel D cA H0 tl ad ad2 (g.set a (k, mi_len g a, (mi_rs g a).set sl (b + 1))) δ cp s H1 := by
  have hag : a < g.length := mi_v1_lt (Or.inl (by omega))
  obtain ⟨k1, k2, k3⟩ := mi_setk (q := (k, mi_len g a, (mi_rs g a).set sl (b + 1))) hag
  dsimp only at k1 k2 k3
  refine mi_step1 hR (Or.inl (by omega)) (fun h => by rcases h.1 with h | h <;> omega) z1 o1 (by simp) (fun c hc => List.getElem?_set_ne (Ne.symm hc)) (by rw [k1, hk]) (fun r hr => ?_) (fun _ _ => mi_same) ?_
  · rw [k3] at hr
    rcases List.mem_or_eq_of_mem_set hr with h | h
    · exact hR.2.2.2.2.2.2.2.2.1 a r h
    · omega
  rw [mi_cell_obj k1 f3 f5 f6, k3]
  rw [show mi_fs ad δ a k ((mi_rs g a).set sl (b + 1)) = (mi_fs ad δ a k (mi_rs g a)).set sl (.ref (ad b)) by
    apply List.ext_getElem?
    intro j
    by_cases hj : j < mi_n k
    · rw [mi_fs_get hj]
      by_cases hjs : j = sl
      · subst hjs
        rw [List.getElem?_set_self (by rw [mi_fs_len]; exact hj)]
        congr 1
        have e : ((mi_rs g a).set j (b + 1)).getD j 0 = b + 1 := by rw [List.getD_eq_getElem?_getD, List.getElem?_set_self hlen]; rfl
        unfold mi_fv
        rcases hty with ⟨n, h⟩ | ⟨n, h⟩ <;> rw [h] <;> dsimp only <;> rw [e] <;> rfl
      · rw [List.getElem?_set_ne (Ne.symm hjs), mi_fs_get hj]
        congr 1
        have e : ((mi_rs g a).set sl (b + 1)).getD j 0 = (mi_rs g a).getD j 0 := by rw [List.getD_eq_getElem?_getD, List.getElem?_set_ne (Ne.symm hjs), ← List.getD_eq_getElem?_getD]
        unfold mi_fv
        rw [e]
    · rw [List.getElem?_eq_none (by rw [mi_fs_len]; omega), List.getElem?_eq_none (by rw [List.length_set, mi_fs_len]; omega)]]
  exact a1
theorem mi_Rel_setA20 (hR : mi_Rel D cA H0 tl ad ad2 g δ cp s H) (hk : mi_k g a = 20) {j : Nat} {v : Int32} (z1 : H1.size = H.size) (o1 : ∀ q : Nat, q ≠ ad a → H1[q]? = H[q]?) (a1 : va_at D vwCl (ad a, .inl (cA.1, mi_len g a, .inl (upd (δ.2.1 a) j v))) H1) : mi_Rel D cA H0 tl ad ad2 g (mi_setA δ a j v) cp s H1 := by
  refine mi_step1 hR (Or.inr (Or.inl hk)) (fun h => by rcases h.1 with h | h <;> omega) z1 o1 rfl (fun _ _ => rfl) rfl (fun r hr => hR.2.2.2.2.2.2.2.2.1 a r hr) (fun b hb => ⟨fun _ => rfl, funext fun x => if_neg (fun q => hb q.1), rfl⟩) ?_
  rw [mi_cell_20 hk, mi_updA]
  exact a1
theorem mi_Rel_setA22 (hR : mi_Rel D cA H0 tl ad ad2 g δ cp s H) (hk : mi_k g a = 22) {j : Nat} {v : Int32} (z1 : H1.size = H.size) (o1 : ∀ q : Nat, q ≠ ad a → H1[q]? = H[q]?) (a1 : va_at D vwCl (ad a, .inl (cA.2.2, mi_len g a, .inl (upd (δ.2.1 a) j v))) H1) : mi_Rel D cA H0 tl ad ad2 g (mi_setA δ a j v) cp s H1 := by
  refine mi_step1 hR (Or.inr (Or.inr (Or.inr hk))) (fun h => by rcases h.1 with h | h <;> omega) z1 o1 rfl (fun _ _ => rfl) rfl (fun r hr => hR.2.2.2.2.2.2.2.2.1 a r hr) (fun b hb => ⟨fun _ => rfl, funext fun x => if_neg (fun q => hb q.1), rfl⟩) ?_
  rw [mi_cell_22 hk, mi_updA]
  exact a1
theorem mi_Rel_setL21 (hR : mi_Rel D cA H0 tl ad ad2 g δ cp s H) (hk : mi_k g a = 21) {j : Nat} {v : Int64} (z1 : H1.size = H.size) (o1 : ∀ q : Nat, q ≠ ad a → H1[q]? = H[q]?) (a1 : va_at D vwCl (ad a, .inl (cA.2.1, mi_len g a, .inr (.inl (vp_updL (δ.2.2 a) j v)))) H1) : mi_Rel D cA H0 tl ad ad2 g (mi_setL δ a j v) cp s H1 := by
  refine mi_step1 hR (Or.inr (Or.inr (Or.inl hk))) (fun h => by rcases h.1 with h | h <;> omega) z1 o1 rfl (fun _ _ => rfl) rfl (fun r hr => hR.2.2.2.2.2.2.2.2.1 a r hr) (fun b hb => ⟨fun _ => rfl, rfl, funext fun x => if_neg (fun q => hb q.1)⟩) ?_
  rw [mi_cell_21 hk, mi_updL]
  exact a1
end MIRL
theorem mi_mono_set (g : mi_G) (a : Nat) (q : Nat × Nat × List Nat) : g.length ≤ (g.set a q).length := by simp
theorem mi_put_mono (h : mi_H) (n a j : Nat) : h.2.1 ≤ (mi_put h n a j).2.1 ∧ h.2.2 ≤ (mi_put h n a j).2.2 := by
  unfold mi_put
  split
  · exact ⟨Nat.le_refl _, Nat.le_refl _⟩
  · exact ⟨Nat.le_add_right _ _, Nat.le_add_right _ _⟩
/-- cells stay, counts grow -/
def mi_up (σ τ : mi_S) : Prop := σ.1.length ≤ τ.1.length ∧ σ.2.2.2.1 ≤ τ.2.2.2.1 ∧ σ.2.2.2.2 ≤ τ.2.2.2.2
theorem mi_up_rfl (σ : mi_S) : mi_up σ σ := ⟨Nat.le_refl _, Nat.le_refl _, Nat.le_refl _⟩
theorem mi_up_trans {a b c : mi_S} (h : mi_up a b) (h' : mi_up b c) : mi_up a c := ⟨Nat.le_trans h.1 h'.1, Nat.le_trans h.2.1 h'.2.1, Nat.le_trans h.2.2 h'.2.2⟩
set_option maxHeartbeats 2000000 in
theorem mi_prim_up {pk : Nat} {st st' : List Value} {σ σ' : mi_S} (h : mi_prim pk st σ = some (st', σ')) : mi_up σ σ' := by
  unfold mi_prim at h
  repeat' (first | (cases h; done) | split at h)
  all_goals cases h
  all_goals first
    | exact mi_up_rfl _
    | exact ⟨Nat.le_of_eq (by simp), Nat.le_add_right _ _, Nat.le_add_right _ _⟩
    | exact ⟨Nat.le_refl _, (mi_put_mono _ _ _ _).1, (mi_put_mono _ _ _ _).2⟩
    | exact ⟨Nat.le_refl _, Nat.le_refl _, Nat.le_refl _⟩
set_option maxHeartbeats 2000000 in
theorem mi_heap_up {own ini d len : Nat} {ins : Instr} {st st' : List Value} {σ σ' : mi_S} (h : mi_heap own ini d ins len st σ = some (st', σ')) : mi_up σ σ' := by
  unfold mi_heap at h
  repeat' (first | (cases h; done) | exact mi_prim_up h | split at h)
  all_goals cases h
  all_goals first
    | exact mi_up_rfl _
    | exact ⟨by simp, Nat.le_refl _, Nat.le_refl _⟩
    | exact ⟨by simp, Nat.le_add_right _ _, Nat.le_add_right _ _⟩
    | exact ⟨Nat.le_refl _, Nat.le_refl _, Nat.le_refl _⟩
theorem mi_bd_p {N : Nat} {v : Value} {r : List Value} (h : mi_bd N (v :: r)) : mi_bd N r := (mi_bd_cons.mp h).2
theorem mi_bd_i {N : Nat} {x : Int32} {r : List Value} (h : mi_bd N r) : mi_bd N (.int x :: r) := mi_bd_cons.mpr ⟨fun a e => (by cases e), h⟩
theorem mi_bd_l {N : Nat} {x : Int64} {r : List Value} (h : mi_bd N r) : mi_bd N (.long x :: r) := mi_bd_cons.mpr ⟨fun a e => (by cases e), h⟩
theorem mi_bd_r {N a : Nat} {r : List Value} (ha : a < N) (h : mi_bd N r) : mi_bd N (.ref a :: r) := mi_bd_cons.mpr ⟨fun b e => (by cases e; exact ha), h⟩
section MIHP
variable {p : Program} {l : Launch} {e : Env} {R : Room} {s : State} {m : MethodId} {args : Array Value} {below : List Frame} {meth : Method} {c : Code} {H : Heap} {locs : List Loc} {cells slots : Nat} {Q : State → Prop}
variable {y pc d len : Nat} {ins : Instr} {ls : Array Slot} {st st' : List Value} {D : va_G} {cA : mi_cA} {H0 : Heap} {tl : Nat} {ad ad2 : Nat → Nat} {g g' : mi_G} {δ δ' : mi_D} {h h' : mi_H}
/-- what an instruction on cells leaves -/
def mi_Kk (p : Program) (l : Launch) (e : Env) (R : Room) (s : State) (m : MethodId) (args : Array Value) (below : List Frame) (meth : Method) (c : Code) (cells slots : Nat) (Q : State → Prop) (pc : Nat) (ls : Array Slot) (st' : List Value) (D : va_G) (cA : mi_cA) (H0 : Heap) (tl : Nat) (ad : Nat → Nat) (N : Nat) (g' : mi_G) (δ' : mi_D) (h h' : mi_H) : Prop :=
  ∀ (ad' ad2' : Nat → Nat) (H1 : Heap) (locs1 : List Loc), (∀ b, b < N → ad' b = ad b) → mi_Rel D cA H0 tl ad' ad2' g' δ' h'.1 s H1 → (∀ z ∈ locs1, H0.size ≤ z.base) → mi_bd g'.length st' → W p l e R s m args below meth c H1 locs1 (cells + (h'.2.1 - h.2.1)) (slots + (h'.2.2 - h.2.2)) Q (F0 m pc ls (st'.map (mi_rv ad')))
theorem mi_cs0 {g : JFrame} {h : mi_H} (k : W p l e R s m args below meth c H locs (cells + (h.2.1 - h.2.1)) (slots + (h.2.2 - h.2.2)) Q g) : W p l e R s m args below meth c H locs cells slots Q g := W.cs (by omega) (by omega) k
set_option maxHeartbeats 4000000 in
theorem mi_sim_prim (C : mi_Cx p s m args meth c y D cA H0 tl) {i pk : Nat} (hq : mi_Q (mi_O y) i = some pk) (hp : mi_prim pk st (g, δ, h) = some (st', g', δ', h')) (hd : (decode (mi_B y) pc = .ok (.invokevirtual i, 3) ∧ ¬ (pk = 0 ∨ pk = 3 ∨ pk = 8 ∨ pk = 9 ∨ pk = 10 ∨ pk = 11)) ∨ (decode (mi_B y) pc = .ok (.invokespecial i, 3) ∧ (pk = 0 ∨ pk = 3 ∨ pk = 11)) ∨ (decode (mi_B y) pc = .ok (.invokestatic i, 3) ∧ (pk = 8 ∨ pk = 9 ∨ pk = 10)))
    (hsz : ls.size = mi_L y) (hcat : mi_cat st ≤ 8) (hs : mi_bd g.length st) (hR : mi_Rel D cA H0 tl ad ad2 g δ h.1 s H) (hlo : ∀ z ∈ locs, H0.size ≤ z.base) (hF : 5 ≤ R.frames ∧ 300 ≤ R.locals) (hc1 : cells + (h'.2.1 - h.2.1) ≤ R.cells) (hc2 : slots + (h'.2.2 - h.2.2) ≤ R.slots)
    (kk : mi_Kk p l e R s m args below meth c cells slots Q (pc + 3) ls st' D cA H0 tl ad g.length g' δ' h h') : W p l e R s m args below meth c H locs cells slots Q (F0 m pc ls (st.map (mi_rv ad))) := by
  have hup := mi_prim_up hp
  unfold mi_prim at hp
  dsimp only at hp
  split at hp
  · split at hp
    · next n a r =>
      split at hp
      · next hc =>
        obtain ⟨k1, k2, k3, k4⟩ := hc
        cases hp
        refine mi_r_init3 C (hd.elim (fun q => absurd q.2 (by decide)) (fun q => q.elim (fun q => q.1) (fun q => absurd q.2 (by decide)))) hq hsz hF (by rw [mi_cat_map]; simp only [mi_cat_cons] at hcat; omega) hlo k1 k2 hR k3 k4 (by have := hc1; dsimp only at this; omega) (by have := hc2; dsimp only at this; omega) (fun H1 locs1 ad2' hR1 hl1 => ?_)
        exact W.cs (by dsimp only; omega) (by dsimp only; omega) (kk ad ad2' H1 locs1 (fun _ _ => rfl) hR1 hl1 (mi_bd_mono (mi_bd_p (mi_bd_p hs)) hup.1))
      · cases hp
    · cases hp
  · split at hp
    · next n a r =>
      split at hp
      · next hc =>
        obtain ⟨k1, k2⟩ := hc
        cases hp
        exact mi_r_at3 C (hd.elim (fun q => q.1) (fun q => q.elim (fun q => absurd q.2 (by decide)) (fun q => absurd q.2 (by decide)))) hq hsz hF (by rw [mi_cat_map]; simp only [mi_cat_cons] at hcat; omega) (by omega) (by omega) k1 k2 hR (mi_cs0 (kk ad ad2 H locs (fun _ _ => rfl) hR hlo (mi_bd_i (mi_bd_p (mi_bd_p hs)))))
      · cases hp
    · cases hp
  · split at hp
    · next v n a r =>
      split at hp
      · next hc =>
        obtain ⟨k1, k2⟩ := hc
        split at hp
        · next hj =>
          cases hp
          exact mi_r_putA3 C (hd.elim (fun q => q.1) (fun q => q.elim (fun q => absurd q.2 (by decide)) (fun q => absurd q.2 (by decide)))) hq hsz hF (by rw [mi_cat_map]; simp only [mi_cat_cons] at hcat; omega) (by omega) (by omega) k1 k2 hR hj (mi_cs0 (kk ad ad2 H locs (fun _ _ => rfl) hR hlo (mi_bd_p (mi_bd_p (mi_bd_p hs)))))
        · next hj =>
          have hj0 : ¬ n < 0 := fun q => hj (Or.inl q)
          have hj1 : n.toNatClampNeg < mi_len g a - 1 := by
            have h9 : ¬ mi_len g a ≤ n.toNatClampNeg + 1 := fun q => hj (Or.inr q)
            omega
          cases hp
          by_cases hcp : n.toNatClampNeg < h.1 a
          · have hpe : mi_put h (mi_len g a - 1) a n.toNatClampNeg = h := by unfold mi_put; rw [if_pos hcp]
            rw [hpe] at kk hc1 hc2
            refine mi_r_putB3 C (hd.elim (fun q => q.1) (fun q => q.elim (fun q => absurd q.2 (by decide)) (fun q => absurd q.2 (by decide)))) hq hsz hF (by rw [mi_cat_map]; simp only [mi_cat_cons] at hcat; omega) (by omega) (by omega) hlo k1 k2 hR hj0 hj1 hcp (fun H1 locs1 hR1 hl1 => ?_)
            exact mi_cs0 (kk ad ad2 H1 locs1 (fun _ _ => rfl) hR1 hl1 (mi_bd_p (mi_bd_p (mi_bd_p hs))))
          · have hpe : mi_put h (mi_len g a - 1) a n.toNatClampNeg = (fun x => if x = a then mi_grow (mi_len g a - 1) (h.1 a) n.toNatClampNeg else h.1 x, h.2.1 + 1, h.2.2 + mi_grow (mi_len g a - 1) (h.1 a) n.toNatClampNeg) := by unfold mi_put; rw [if_neg hcp]
            rw [hpe] at kk hc1 hc2
            dsimp only at hc1 hc2
            refine mi_r_putC3 C (hd.elim (fun q => q.1) (fun q => q.elim (fun q => absurd q.2 (by decide)) (fun q => absurd q.2 (by decide)))) hq hsz hF (by rw [mi_cat_map]; simp only [mi_cat_cons] at hcat; omega) hlo k1 k2 hR hj0 hj1 (by omega) (by omega) (by omega) (fun H1 locs1 ad2' hR1 hl1 => ?_)
            exact W.cs (by dsimp only; omega) (by dsimp only; omega) (kk ad ad2' H1 locs1 (fun _ _ => rfl) hR1 hl1 (mi_bd_p (mi_bd_p (mi_bd_p hs))))
      · cases hp
    · cases hp
  · split at hp
    · next n a r =>
      split at hp
      · next hc =>
        obtain ⟨k1, k2, k3, k4⟩ := hc
        cases hp
        refine mi_r_init6 C (hd.elim (fun q => absurd q.2 (by decide)) (fun q => q.elim (fun q => q.1) (fun q => absurd q.2 (by decide)))) hq hsz hF (by rw [mi_cat_map]; simp only [mi_cat_cons] at hcat; omega) hlo k1 k2 hR k3 k4 (by have := hc1; dsimp only at this; omega) (by have := hc2; dsimp only at this; omega) (fun H1 locs1 ad2' hR1 hl1 => ?_)
        exact W.cs (by dsimp only; omega) (by dsimp only; omega) (kk ad ad2' H1 locs1 (fun _ _ => rfl) hR1 hl1 (mi_bd_mono (mi_bd_p (mi_bd_p hs)) hup.1))
      · cases hp
    · cases hp
  · split at hp
    · next n a r =>
      split at hp
      · next hc =>
        obtain ⟨k1, k2⟩ := hc
        cases hp
        exact mi_r_at6 C (hd.elim (fun q => q.1) (fun q => q.elim (fun q => absurd q.2 (by decide)) (fun q => absurd q.2 (by decide)))) hq hsz hF (by rw [mi_cat_map]; simp only [mi_cat_cons] at hcat; omega) (by omega) (by omega) k1 k2 hR (mi_cs0 (kk ad ad2 H locs (fun _ _ => rfl) hR hlo (mi_bd_l (mi_bd_p (mi_bd_p hs)))))
      · cases hp
    · cases hp
  · split at hp
    · next v n a r =>
      split at hp
      · next hc =>
        obtain ⟨k1, k2⟩ := hc
        split at hp
        · next hj =>
          cases hp
          exact mi_r_putA6 C (hd.elim (fun q => q.1) (fun q => q.elim (fun q => absurd q.2 (by decide)) (fun q => absurd q.2 (by decide)))) hq hsz hF (by rw [mi_cat_map]; simp only [mi_cat_cons] at hcat; omega) (by omega) (by omega) k1 k2 hR hj (mi_cs0 (kk ad ad2 H locs (fun _ _ => rfl) hR hlo (mi_bd_p (mi_bd_p (mi_bd_p hs)))))
        · next hj =>
          have hj0 : ¬ n < 0 := fun q => hj (Or.inl q)
          have hj1 : n.toNatClampNeg < mi_len g a - 1 := by
            have h9 : ¬ mi_len g a ≤ n.toNatClampNeg + 1 := fun q => hj (Or.inr q)
            omega
          cases hp
          by_cases hcp : n.toNatClampNeg < h.1 a
          · have hpe : mi_put h (mi_len g a - 1) a n.toNatClampNeg = h := by unfold mi_put; rw [if_pos hcp]
            rw [hpe] at kk hc1 hc2
            refine mi_r_putB6 C (hd.elim (fun q => q.1) (fun q => q.elim (fun q => absurd q.2 (by decide)) (fun q => absurd q.2 (by decide)))) hq hsz hF (by rw [mi_cat_map]; simp only [mi_cat_cons] at hcat; omega) (by omega) (by omega) hlo k1 k2 hR hj0 hj1 hcp (fun H1 locs1 hR1 hl1 => ?_)
            exact mi_cs0 (kk ad ad2 H1 locs1 (fun _ _ => rfl) hR1 hl1 (mi_bd_p (mi_bd_p (mi_bd_p hs))))
          · have hpe : mi_put h (mi_len g a - 1) a n.toNatClampNeg = (fun x => if x = a then mi_grow (mi_len g a - 1) (h.1 a) n.toNatClampNeg else h.1 x, h.2.1 + 1, h.2.2 + mi_grow (mi_len g a - 1) (h.1 a) n.toNatClampNeg) := by unfold mi_put; rw [if_neg hcp]
            rw [hpe] at kk hc1 hc2
            dsimp only at hc1 hc2
            refine mi_r_putC6 C (hd.elim (fun q => q.1) (fun q => q.elim (fun q => absurd q.2 (by decide)) (fun q => absurd q.2 (by decide)))) hq hsz hF (by rw [mi_cat_map]; simp only [mi_cat_cons] at hcat; omega) hlo k1 k2 hR hj0 hj1 (by omega) (by omega) (by omega) (fun H1 locs1 ad2' hR1 hl1 => ?_)
            exact W.cs (by dsimp only; omega) (by dsimp only; omega) (kk ad ad2' H1 locs1 (fun _ _ => rfl) hR1 hl1 (mi_bd_p (mi_bd_p (mi_bd_p hs))))
      · cases hp
    · cases hp
  · exfalso
    exact mi_noQ6 hq
  · split at hp
    · next a r =>
      split at hp
      · next hc =>
        obtain ⟨k1, k2⟩ := hc
        cases hp
        refine mi_r_clear C (hd.elim (fun q => q.1) (fun q => q.elim (fun q => absurd q.2 (by decide)) (fun q => absurd q.2 (by decide)))) hq hsz hF (by rw [mi_cat_map]; simp only [mi_cat_cons] at hcat; omega) (by omega) (by omega) hlo k1 k2 hR (fun H1 locs1 hR1 hl1 => ?_)
        exact mi_cs0 (kk ad ad2 H1 locs1 (fun _ _ => rfl) hR1 hl1 (mi_bd_p hs))
      · cases hp
    · cases hp
  · split at hp
    · next x r =>
      cases hp
      exact mi_r_abs C (hd.elim (fun q => absurd q.2 (by decide)) (fun q => q.elim (fun q => absurd q.2 (by decide)) (fun q => q.1))) hq hsz hF (by rw [mi_cat_map]; simp only [mi_cat_cons] at hcat; omega) (by omega) (by omega) (mi_cs0 (kk ad ad2 H locs (fun _ _ => rfl) hR hlo (mi_bd_l (mi_bd_p hs))))
    · cases hp
  · split at hp
    · next x r =>
      cases hp
      exact mi_r_min C (hd.elim (fun q => absurd q.2 (by decide)) (fun q => q.elim (fun q => absurd q.2 (by decide)) (fun q => q.1))) hq hsz hF (by rw [mi_cat_map]; simp only [mi_cat_cons] at hcat; omega) (by omega) (by omega) (mi_cs0 (kk ad ad2 H locs (fun _ _ => rfl) hR hlo (mi_bd_i (mi_bd_p (mi_bd_p hs)))))
    · cases hp
  · split at hp
    · next x r =>
      cases hp
      exact mi_r_max C (hd.elim (fun q => absurd q.2 (by decide)) (fun q => q.elim (fun q => absurd q.2 (by decide)) (fun q => q.1))) hq hsz hF (by rw [mi_cat_map]; simp only [mi_cat_cons] at hcat; omega) (by omega) (by omega) (mi_cs0 (kk ad ad2 H locs (fun _ _ => rfl) hR hlo (mi_bd_i (mi_bd_p (mi_bd_p hs)))))
    · cases hp
  · split at hp
    · next x r =>
      cases hp
      exact mi_r_obj C (hd.elim (fun q => absurd q.2 (by decide)) (fun q => q.elim (fun q => q.1) (fun q => absurd q.2 (by decide)))) hq hsz hF (by rw [mi_cat_map]; simp only [mi_cat_cons] at hcat; omega) (mi_cs0 (kk ad ad2 H locs (fun _ _ => rfl) hR hlo (mi_bd_p hs)))
    · cases hp
  · cases hp

set_option maxHeartbeats 4000000 in
theorem mi_sim_heap (C : mi_Cx p s m args meth c y D cA H0 tl) (hp : mi_heap (mi_O y) (mi_ini y) d ins len st (g, δ, h) = some (st', g', δ', h')) (hd : decode (mi_B y) pc = .ok (ins, len))
    (hsz : ls.size = mi_L y) (hs : mi_bd g.length st) (hR : mi_Rel D cA H0 tl ad ad2 g δ h.1 s H) (hlo : ∀ z ∈ locs, H0.size ≤ z.base) (hF : d ≤ R.frames ∧ 60 * d ≤ R.locals) (hc1 : cells + (h'.2.1 - h.2.1) ≤ R.cells) (hc2 : slots + (h'.2.2 - h.2.2) ≤ R.slots)
    (kk : mi_Kk p l e R s m args below meth c cells slots Q (pc + len) ls st' D cA H0 tl ad g.length g' δ' h h') : W p l e R s m args below meth c H locs cells slots Q (F0 m pc ls (st.map (mi_rv ad))) := by
  have hup := mi_heap_up hp
  cases ins with
  | getfield i =>
    simp only [mi_heap] at hp
    split at hp
    · next h1 =>
      subst h1
      split at hp
      · next k sl a r hF1 =>
        split at hp
        · next hk =>
          split at hp
          · next hty =>
            cases hp
            refine mi_r_get C hd hF1 hk hR ?_
            rw [show mi_fv ad δ a k (mi_rs g a) sl = .int (δ.1 a sl) by unfold mi_fv; rw [hty]]
            exact mi_cs0 (kk ad ad2 H locs (fun _ _ => rfl) hR hlo (mi_bd_i (mi_bd_p hs)))
          · next hty =>
            cases hp
            refine mi_r_get C hd hF1 hk hR ?_
            rw [show mi_fv ad δ a k (mi_rs g a) sl = .int (δ.1 a sl) by unfold mi_fv; rw [hty]]
            exact mi_cs0 (kk ad ad2 H locs (fun _ _ => rfl) hR hlo (mi_bd_i (mi_bd_p hs)))
          · next n hty =>
            split at hp
            · cases hp
            · next b hb =>
              cases hp
              refine mi_r_get C hd hF1 hk hR ?_
              rw [show mi_fv ad δ a k (mi_rs g a) sl = .ref (ad b) by unfold mi_fv; rw [hty]; dsimp only; rw [hb]; rfl]
              exact mi_cs0 (kk ad ad2 H locs (fun _ _ => rfl) hR hlo (mi_bd_r (mi_rs_lt hR hb) (mi_bd_p hs)))
          · next n hty =>
            split at hp
            · cases hp
            · next b hb =>
              cases hp
              refine mi_r_get C hd hF1 hk hR ?_
              rw [show mi_fv ad δ a k (mi_rs g a) sl = .ref (ad b) by unfold mi_fv; rw [hty]; dsimp only; rw [hb]; rfl]
              exact mi_cs0 (kk ad ad2 H locs (fun _ _ => rfl) hR hlo (mi_bd_r (mi_rs_lt hR hb) (mi_bd_p hs)))
          · cases hp
        · cases hp
      · cases hp
    · cases hp
  | putfield i =>
    simp only [mi_heap] at hp
    split at hp
    · next h1 =>
      subst h1
      split at hp
      · next k sl v a r hF1 =>
        split at hp
        · next hk =>
          obtain ⟨hk, hfin⟩ := hk
          obtain ⟨f1, f2, f3, f4, f5, f6⟩ := mi_F_spec hF1
          split at hp
          · next hty =>
            cases hp
            refine mi_r_put C hd hF1 hk hR (v := .int v) (Or.inl hfin) (by rw [hty]; rfl) (by rw [hty]; rfl) (fun H1 z1 o1 a1 z hz => ?_)
            exact mi_cs0 (kk ad ad2 H1 _ (fun _ _ => rfl) (mi_Rel_setI hR hk f2 f3 f5 f6 (Or.inl hty) z1 o1 a1) (mi_lo hlo hR (Or.inl (by omega)) hz) (mi_bd_p (mi_bd_p hs)))
          · next hty =>
            split at hp
            · next hv =>
              cases hp
              refine mi_r_put C hd hF1 hk hR (v := .int v) (Or.inl hfin) (by rw [hty]; rcases hv with rfl | rfl <;> rfl) (by rw [hty]; rcases hv with rfl | rfl <;> rfl) (fun H1 z1 o1 a1 z hz => ?_)
              exact mi_cs0 (kk ad ad2 H1 _ (fun _ _ => rfl) (mi_Rel_setI hR hk f2 f3 f5 f6 (Or.inr hty) z1 o1 a1) (mi_lo hlo hR (Or.inl (by omega)) hz) (mi_bd_p (mi_bd_p hs)))
            · cases hp
          · cases hp
        · cases hp
      · next k sl b a r hF1 =>
        split at hp
        · next hk =>
          obtain ⟨hk, hfin, hini, hown, hlen⟩ := hk
          obtain ⟨f1, f2, f3, f4, f5, f6⟩ := mi_F_spec hF1
          have hbl : b < g.length := hs b List.mem_cons_self
          have hX : mi_X y = true := by
            unfold mi_ini at hini
            split at hini
            · next hx => exact hx
            · omega
          split at hp
          · next n hty =>
            cases hp
            refine mi_r_put C hd hF1 hk hR (v := .ref (ad b)) (Or.inr ⟨hfin, hX, hown⟩) (by rw [hty]; rfl) (by rw [hty]; rfl) (fun H1 z1 o1 a1 z hz => ?_)
            exact mi_cs0 (kk ad ad2 H1 _ (fun _ _ => rfl) (mi_Rel_setR hR hk f2 f3 f5 f6 (Or.inl ⟨n, hty⟩) hlen hbl z1 o1 a1) (mi_lo hlo hR (Or.inl (by omega)) hz) (mi_bd_mono (mi_bd_p (mi_bd_p hs)) (mi_mono_set _ _ _)))
          · next n hty =>
            cases hp
            refine mi_r_put C hd hF1 hk hR (v := .ref (ad b)) (Or.inr ⟨hfin, hX, hown⟩) (by rw [hty]; rfl) (by rw [hty]; rfl) (fun H1 z1 o1 a1 z hz => ?_)
            exact mi_cs0 (kk ad ad2 H1 _ (fun _ _ => rfl) (mi_Rel_setR hR hk f2 f3 f5 f6 (Or.inr ⟨n, hty⟩) hlen hbl z1 o1 a1) (mi_lo hlo hR (Or.inl (by omega)) hz) (mi_bd_mono (mi_bd_p (mi_bd_p hs)) (mi_mono_set _ _ _)))
          · cases hp
        · cases hp
      · cases hp
    · cases hp
  | getstatic i =>
    simp only [mi_heap] at hp
    split at hp
    · next h1 =>
      obtain ⟨h1, h2, h3⟩ := h1
      subst h1
      cases hp
      exact mi_r_gets C hd h2 hR (mi_cs0 (kk ad ad2 H locs (fun _ _ => rfl) hR hlo (mi_bd_r (mi_k_lt (by rw [h3]; omega)) hs)))
    · cases hp
  | iaload =>
    simp only [mi_heap] at hp
    split at hp
    · next h1 =>
      subst h1
      split at hp
      · next j a r =>
        split at hp
        · next hk =>
          cases hp
          exact mi_r_iald C hd hk.1 hR hk.2 (mi_cs0 (kk ad ad2 H locs (fun _ _ => rfl) hR hlo (mi_bd_i (mi_bd_p (mi_bd_p hs)))))
        · cases hp
      · cases hp
    · cases hp
  | baload =>
    simp only [mi_heap] at hp
    split at hp
    · next h1 =>
      subst h1
      split at hp
      · next j a r =>
        split at hp
        · next hk =>
          cases hp
          exact mi_r_bald C hd hk.1 hR hk.2 (mi_cs0 (kk ad ad2 H locs (fun _ _ => rfl) hR hlo (mi_bd_i (mi_bd_p (mi_bd_p hs)))))
        · cases hp
      · cases hp
    · cases hp
  | caload =>
    simp only [mi_heap] at hp
    split at hp
    · next h1 =>
      subst h1
      split at hp
      · next j a r =>
        split at hp
        · next hk =>
          cases hp
          exact mi_r_cald C hd hk.1 hR hk.2 (mi_cs0 (kk ad ad2 H locs (fun _ _ => rfl) hR hlo (mi_bd_i (mi_bd_p (mi_bd_p hs)))))
        · cases hp
      · cases hp
    · cases hp
  | laload =>
    simp only [mi_heap] at hp
    split at hp
    · next h1 =>
      subst h1
      split at hp
      · next j a r =>
        split at hp
        · next hk =>
          cases hp
          exact mi_r_lald C hd hk.1 hR hk.2 (mi_cs0 (kk ad ad2 H locs (fun _ _ => rfl) hR hlo (mi_bd_l (mi_bd_p (mi_bd_p hs)))))
        · cases hp
      · cases hp
    · cases hp
  | iastore =>
    simp only [mi_heap] at hp
    split at hp
    · next h1 =>
      subst h1
      split at hp
      · next v j a r =>
        split at hp
        · next hk =>
          cases hp
          refine mi_r_iast C hd hk.1 hR hk.2 (fun H1 z1 o1 a1 z hz => ?_)
          exact mi_cs0 (kk ad ad2 H1 _ (fun _ _ => rfl) (mi_Rel_setA20 hR hk.1 z1 o1 a1) (mi_lo hlo hR (Or.inr (Or.inl hk.1)) hz) (mi_bd_p (mi_bd_p (mi_bd_p hs))))
        · cases hp
      · cases hp
    · cases hp
  | lastore =>
    simp only [mi_heap] at hp
    split at hp
    · next h1 =>
      subst h1
      split at hp
      · next v j a r =>
        split at hp
        · next hk =>
          cases hp
          refine mi_r_last C hd hk.1 hR hk.2 (fun H1 z1 o1 a1 z hz => ?_)
          exact mi_cs0 (kk ad ad2 H1 _ (fun _ _ => rfl) (mi_Rel_setL21 hR hk.1 z1 o1 a1) (mi_lo hlo hR (Or.inr (Or.inr (Or.inl hk.1))) hz) (mi_bd_p (mi_bd_p (mi_bd_p hs))))
        · cases hp
      · cases hp
    · cases hp
  | bastore =>
    simp only [mi_heap] at hp
    split at hp
    · next h1 =>
      subst h1
      split at hp
      · next v j a r =>
        split at hp
        · next hk =>
          cases hp
          refine mi_r_zast C hd hk.1 hR hk.2.1 hk.2.2 (fun H1 z1 o1 a1 z hz => ?_)
          exact mi_cs0 (kk ad ad2 H1 _ (fun _ _ => rfl) (mi_Rel_setA22 hR hk.1 z1 o1 a1) (mi_lo hlo hR (Or.inr (Or.inr (Or.inr hk.1))) hz) (mi_bd_p (mi_bd_p (mi_bd_p hs))))
        · cases hp
      · cases hp
    · cases hp
  | arraylength =>
    simp only [mi_heap] at hp
    split at hp
    · next h1 =>
      subst h1
      split at hp
      · next a r =>
        split at hp
        · next hk =>
          cases hp
          exact mi_r_alen C hd hk hR (mi_cs0 (kk ad ad2 H locs (fun _ _ => rfl) hR hlo (mi_bd_i (mi_bd_p hs))))
        · cases hp
      · cases hp
    · cases hp
  | new i =>
    simp only [mi_heap] at hp
    split at hp
    · next h1 =>
      subst h1
      split at hp
      · next k hW =>
        cases hp
        dsimp only at hc1 hc2
        refine mi_r_new C hd hW hR (by omega) (by omega) (fun H1 hR1 => ?_)
        have hads : ∀ b, b < g.length → mi_adn ad g.length H.size b = ad b := fun b hb => if_neg (by omega)
        have k0 := kk (mi_adn ad g.length H.size) ad2 H1 locs hads hR1 hlo (mi_bd_r (by simp) (mi_bd_mono hs (by simp)))
        rw [List.map_cons, mi_rv_map hs hads, show mi_rv (mi_adn ad g.length H.size) (.ref g.length) = .ref H.size by show Value.ref (if g.length = g.length then H.size else _) = _; rw [if_pos rfl]] at k0
        exact W.cs (by dsimp only; omega) (by dsimp only; omega) k0
      · cases hp
    · cases hp
  | newarray t =>
    simp only [mi_heap] at hp
    split at hp
    · next h1 =>
      subst h1
      split at hp
      · next n r =>
        split at hp
        · next hn =>
          have hr := mi_bd_p hs
          have hads : ∀ b, b < g.length → mi_adn ad g.length H.size b = ad b := fun b hb => if_neg (by omega)
          split at hp
          · cases hp
            dsimp only at hc1 hc2
            refine mi_r_newai C hd hR hn.1 hn.2 (by omega) (by omega) (fun H1 hR1 => ?_)
            have k0 := kk (mi_adn ad g.length H.size) ad2 H1 locs hads hR1 hlo (mi_bd_r (by simp) (mi_bd_mono hr (by simp)))
            rw [List.map_cons, mi_rv_map hr hads, show mi_rv (mi_adn ad g.length H.size) (.ref g.length) = .ref H.size by show Value.ref (if g.length = g.length then H.size else _) = _; rw [if_pos rfl]] at k0
            exact W.cs (by dsimp only; omega) (by dsimp only; omega) k0
          · cases hp
            dsimp only at hc1 hc2
            refine mi_r_newaj C hd hR hn.1 hn.2 (by omega) (by omega) (fun H1 hR1 => ?_)
            have k0 := kk (mi_adn ad g.length H.size) ad2 H1 locs hads hR1 hlo (mi_bd_r (by simp) (mi_bd_mono hr (by simp)))
            rw [List.map_cons, mi_rv_map hr hads, show mi_rv (mi_adn ad g.length H.size) (.ref g.length) = .ref H.size by show Value.ref (if g.length = g.length then H.size else _) = _; rw [if_pos rfl]] at k0
            exact W.cs (by dsimp only; omega) (by dsimp only; omega) k0
          · cases hp
            dsimp only at hc1 hc2
            refine mi_r_newaz C hd hR hn.1 hn.2 (by omega) (by omega) (fun H1 hR1 => ?_)
            have k0 := kk (mi_adn ad g.length H.size) ad2 H1 locs hads hR1 hlo (mi_bd_r (by simp) (mi_bd_mono hr (by simp)))
            rw [List.map_cons, mi_rv_map hr hads, show mi_rv (mi_adn ad g.length H.size) (.ref g.length) = .ref H.size by show Value.ref (if g.length = g.length then H.size else _) = _; rw [if_pos rfl]] at k0
            exact W.cs (by dsimp only; omega) (by dsimp only; omega) k0
          · cases hp
        · cases hp
      · cases hp
    · cases hp
  | invokevirtual i =>
    simp only [mi_heap] at hp
    split at hp
    · next h1 =>
      obtain ⟨h1, h2, h3⟩ := h1
      subst h1
      split at hp
      · next pk hq =>
        split at hp
        · cases hp
        · next hpk => exact mi_sim_prim C hq hp (Or.inl ⟨hd, hpk⟩) hsz h3 hs hR hlo (by omega) hc1 hc2 kk
      · cases hp
    · cases hp
  | invokespecial i =>
    simp only [mi_heap] at hp
    split at hp
    · next h1 =>
      obtain ⟨h1, h2, h3⟩ := h1
      subst h1
      split at hp
      · next pk hq =>
        split at hp
        · next hpk => exact mi_sim_prim C hq hp (Or.inr (Or.inl ⟨hd, hpk⟩)) hsz h3 hs hR hlo (by omega) hc1 hc2 kk
        · cases hp
      · cases hp
    · cases hp
  | invokestatic i =>
    simp only [mi_heap] at hp
    split at hp
    · next h1 =>
      obtain ⟨h1, h2, h3⟩ := h1
      subst h1
      split at hp
      · next pk hq =>
        split at hp
        · next hpk => exact mi_sim_prim C hq hp (Or.inr (Or.inr ⟨hd, hpk⟩)) hsz h3 hs hR hlo (by omega) hc1 hc2 kk
        · cases hp
      · cases hp
    · cases hp
  | _ => exact absurd (show (none : Option (List Value × mi_S)) = some _ from hp) (fun h => by cases h)
end MIHP
