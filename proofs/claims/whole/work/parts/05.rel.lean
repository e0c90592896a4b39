/-! THE SMALL MACHINE'S CELLS AND THE HEAP -/
def mi_rv (ad : Nat → Nat) (v : Value) : Value := match v with
  | .ref a => .ref (ad a)
  | v => v
theorem mi_rv_cat (ad : Nat → Nat) (v : Value) : (mi_rv ad v).category = v.category := by cases v <;> rfl
def mi_fv (ad : Nat → Nat) (δ : mi_D) (a k : Nat) (rs : List Nat) (j : Nat) : Value := match mi_Ty k j with
  | .object _ => mi_rv ad (mi_val (rs.getD j 0))
  | .array _ => mi_rv ad (mi_val (rs.getD j 0))
  | _ => .int (δ.1 a j)
abbrev mi_cA : Type := ClassId × ClassId × ClassId
def mi_cell (cA : mi_cA) (ad ad2 : Nat → Nat) (g : mi_G) (δ : mi_D) (a : Nat) : va_E :=
  if mi_k g a = 3 ∨ mi_k g a = 6 then .inr (mi_k g a, if mi_len g a = 0 then [.int 0, .null] else [.int (nI (mi_len g a - 1)), .ref (ad2 a)])
  else if mi_k g a < 13 then .inr (mi_k g a, (List.range (mi_n (mi_k g a))).map (mi_fv ad δ a (mi_k g a) (mi_rs g a)))
  else if mi_k g a = 20 then .inl (cA.1, mi_len g a, .inl (δ.2.1 a))
  else if mi_k g a = 21 then .inl (cA.2.1, mi_len g a, .inr (.inl (δ.2.2 a)))
  else .inl (cA.2.2, mi_len g a, .inl (δ.2.1 a))
def mi_cell2 (cA : mi_cA) (g : mi_G) (δ : mi_D) (cp : Nat → Nat) (a : Nat) : va_E :=
  if mi_k g a = 3 then .inl (cA.1, cp a, .inl (δ.2.1 a)) else .inl (cA.2.1, cp a, .inr (.inl (δ.2.2 a)))
def mi_v1 (g : mi_G) (a : Nat) : Prop := mi_k g a < 13 ∨ mi_k g a = 20 ∨ mi_k g a = 21 ∨ mi_k g a = 22
def mi_v2 (g : mi_G) (a : Nat) : Prop := (mi_k g a = 3 ∨ mi_k g a = 6) ∧ mi_len g a ≠ 0
def mi_ro (ty : FieldType) (U : State) (H : Heap) (q n : Nat) (f : Nat → Int32) : Prop :=
  ∃ scr : Cell, H[q]? = some scr ∧ U.isArrayOf scr ty ∧ scr.vm ≠ .unknown ∧ (n ≤ scr.slots.size ∧ scr.slots.size.toInt32 = nI n) ∧ ∀ j : Nat, j < n → scr.slots[j]? = some (.int (f j))
theorem mi_ro.moved {ty : FieldType} {u U : State} {H : Heap} {q n : Nat} {f : Nat → Int32} (hvm : u.vm.Alike U.vm) (h : mi_ro ty u H q n f) : mi_ro ty U H q n f := by
  obtain ⟨scr, h1, h2, h3⟩ := h
  exact ⟨scr, h1, State.isArrayOf_alike hvm h2, h3⟩
/-- the array behind an Ints or Longs: its length, and nothing behind it -/
def mi_capok (g : mi_G) (δ : mi_D) (cp : Nat → Nat) (a : Nat) : Prop := 16 ≤ cp a ∧ cp a ≤ max 16 (mi_len g a - 1) ∧ mi_len g a ≤ 1000001 ∧ (mi_k g a = 3 → ∀ j, cp a ≤ j → δ.2.1 a j = 0) ∧ (mi_k g a = 6 → ∀ j, cp a ≤ j → δ.2.2 a j = 0)
def mi_Rel (D : va_G) (cA : mi_cA) (H0 : Heap) (tl : Nat) (ad ad2 : Nat → Nat) (g : mi_G) (δ : mi_D) (cp : Nat → Nat) (U : State) (H : Heap) : Prop :=
  (H0.size ≤ H.size ∧ ∀ q : Nat, q < H0.size → H[q]? = H0[q]?)
  ∧ (∀ a, mi_v1 g a → va_at D vwCl (ad a, mi_cell cA ad ad2 g δ a) H ∧ H0.size ≤ ad a)
  ∧ (∀ a, mi_v2 g a → va_at D vwCl (ad2 a, mi_cell2 cA g δ cp a) H ∧ H0.size ≤ ad2 a ∧ mi_capok g δ cp a)
  ∧ (∀ a b, mi_v1 g a → mi_v1 g b → ad a = ad b → a = b)
  ∧ (∀ a b, mi_v1 g a → mi_v2 g b → ad a ≠ ad2 b)
  ∧ (∀ a b, mi_v2 g a → mi_v2 g b → ad2 a = ad2 b → a = b)
  ∧ (∀ a, mi_k g a = 24 → ad a < H0.size ∧ mi_ro .int U H0 (ad a) (mi_len g a) (δ.2.1 a))
  ∧ (∀ a, mi_k g a = 25 → ad a < H0.size ∧ mi_ro .char U H0 (ad a) (mi_len g a) (δ.2.1 a))
  ∧ (∀ a, ∀ r ∈ mi_rs g a, r ≤ g.length)
  ∧ (2 ≤ g.length ∧ ad 1 = tl)
theorem mi_Rel.moved {D : va_G} {cA : mi_cA} {H0 : Heap} {tl : Nat} {ad ad2 : Nat → Nat} {g : mi_G} {δ : mi_D} {cp : Nat → Nat} {u U : State} {H : Heap} (hvm : u.vm.Alike U.vm) (h : mi_Rel D cA H0 tl ad ad2 g δ cp u H) : mi_Rel D cA H0 tl ad ad2 g δ cp U H := by
  obtain ⟨h1, h2, h3, h4, h5, h6, h7, h8, h9, h10⟩ := h
  exact ⟨h1, h2, h3, h4, h5, h6, fun a k => ⟨(h7 a k).1, (h7 a k).2.moved hvm⟩, fun a k => ⟨(h8 a k).1, (h8 a k).2.moved hvm⟩, h9, h10⟩
theorem mi_k_eq {g g' : mi_G} {b : Nat} (h : g'[b]? = g[b]?) : mi_k g' b = mi_k g b ∧ mi_len g' b = mi_len g b ∧ mi_rs g' b = mi_rs g b := by
  unfold mi_k mi_len mi_rs
  rw [h]
  exact ⟨rfl, rfl, rfl⟩
theorem mi_k_lt {g : mi_G} {a : Nat} (h : mi_k g a ≠ 99) : a < g.length := by
  unfold mi_k at h
  cases hq : g[a]? with
  | none => rw [hq] at h; exact absurd rfl h
  | some q => exact (List.getElem?_eq_some_iff.mp hq).1
theorem mi_v1_lt {g : mi_G} {a : Nat} (h : mi_v1 g a) : a < g.length := mi_k_lt (by rcases h with h | h | h | h <;> omega)
theorem mi_v2_v1 {g : mi_G} {a : Nat} (h : mi_v2 g a) : mi_v1 g a := by
  rcases h.1 with h | h <;> exact Or.inl (by omega)
theorem mi_val_rv {ad ad' : Nat → Nat} {n N : Nat} (hn : n ≤ N) (h : ∀ b, b < N → ad' b = ad b) : mi_rv ad' (mi_val n) = mi_rv ad (mi_val n) := by
  cases n with
  | zero => rfl
  | succ m => show Value.ref (ad' m) = Value.ref (ad m); rw [h m (by omega)]
theorem mi_fv_eq {ad ad' : Nat → Nat} {δ δ' : mi_D} {a k N : Nat} {rs : List Nat} {j : Nat} (hr : ∀ r ∈ rs, r ≤ N) (had : ∀ b, b < N → ad' b = ad b) (hd : δ'.1 a j = δ.1 a j) : mi_fv ad' δ' a k rs j = mi_fv ad δ a k rs j := by
  have hv : rs.getD j 0 ≤ N := by
    by_cases hj : j < rs.length
    · rw [List.getD_eq_getElem?_getD, List.getElem?_eq_getElem hj]; exact hr _ (List.getElem_mem hj)
    · rw [List.getD_eq_getElem?_getD, List.getElem?_eq_none (by omega)]; exact Nat.zero_le _
  have e := mi_val_rv hv had
  unfold mi_fv
  split
  · exact e
  · exact e
  · rw [hd]
/-- cells that nothing touched are as they were -/
theorem mi_cell_eq {cA : mi_cA} {ad ad' ad2 ad2' : Nat → Nat} {g g' : mi_G} {δ δ' : mi_D} {b N : Nat} (hg : g'[b]? = g[b]?) (h2 : ad2' b = ad2 b) (hr : ∀ r ∈ mi_rs g b, r ≤ N) (had : ∀ x, x < N → ad' x = ad x) (hi : ∀ j, δ'.1 b j = δ.1 b j) (ha : δ'.2.1 b = δ.2.1 b) (hl : δ'.2.2 b = δ.2.2 b) : mi_cell cA ad' ad2' g' δ' b = mi_cell cA ad ad2 g δ b := by
  obtain ⟨e1, e2, e3⟩ := mi_k_eq hg
  unfold mi_cell
  rw [e1, e2, e3, h2, ha, hl]
  have e4 : (List.range (mi_n (mi_k g b))).map (mi_fv ad' δ' b (mi_k g b) (mi_rs g b)) = (List.range (mi_n (mi_k g b))).map (mi_fv ad δ b (mi_k g b) (mi_rs g b)) := by
    apply List.map_congr_left
    intro j _
    exact mi_fv_eq hr had (hi j)
  rw [e4]
theorem mi_cell2_eq {cA : mi_cA} {g g' : mi_G} {δ δ' : mi_D} {cp cp' : Nat → Nat} {b : Nat} (hg : g'[b]? = g[b]?) (ha : δ'.2.1 b = δ.2.1 b) (hl : δ'.2.2 b = δ.2.2 b) (hc : cp' b = cp b) : mi_cell2 cA g' δ' cp' b = mi_cell2 cA g δ cp b := by
  obtain ⟨e1, e2, e3⟩ := mi_k_eq hg
  unfold mi_cell2
  rw [e1, ha, hl, hc]
/-- one cell changes (with the array behind it) -/
theorem mi_Rel.step {D : va_G} {cA : mi_cA} {H0 : Heap} {tl : Nat} {ad ad2 ad2' : Nat → Nat} {g g' : mi_G} {δ δ' : mi_D} {cp cp' : Nat → Nat} {U : State} {H H1 : Heap} (hR : mi_Rel D cA H0 tl ad ad2 g δ cp U H) (a : Nat) (ha : mi_v1 g a)
    (hz : H.size ≤ H1.size) (hk : ∀ q : Nat, q < H.size → q ≠ ad a → (mi_v2 g a → q ≠ ad2 a) → H1[q]? = H[q]?)
    (h2 : ∀ b, b ≠ a → ad2' b = ad2 b) (h2a : (mi_v2 g a ∧ ad2' a = ad2 a) ∨ H.size ≤ ad2' a ∨ ¬ mi_v2 g' a) (hl : g'.length = g.length) (hg : ∀ b, b ≠ a → g'[b]? = g[b]?)
    (hd : ∀ b, b ≠ a → (∀ j, δ'.1 b j = δ.1 b j) ∧ δ'.2.1 b = δ.2.1 b ∧ δ'.2.2 b = δ.2.2 b) (hc : ∀ b, b ≠ a → cp' b = cp b)
    (hka : mi_k g' a = mi_k g a) (hra : ∀ r ∈ mi_rs g' a, r ≤ g.length)
    (e1 : va_at D vwCl (ad a, mi_cell cA ad ad2' g' δ' a) H1) (e2 : mi_v2 g' a → va_at D vwCl (ad2' a, mi_cell2 cA g' δ' cp' a) H1 ∧ H0.size ≤ ad2' a ∧ mi_capok g' δ' cp' a) : mi_Rel D cA H0 tl ad ad2' g' δ' cp' U H1 := by
  obtain ⟨r1, r2, r3, r4, r5, r6, r7, r8, r9, r10⟩ := hR
  have v1 : ∀ b, mi_v1 g' b → mi_v1 g b := by
    intro b hb
    by_cases hba : b = a
    · subst hba; exact ha
    · unfold mi_v1 at hb ⊢
      rw [(mi_k_eq (hg b hba)).1] at hb
      exact hb
  have v2 : ∀ b, b ≠ a → mi_v2 g' b → mi_v2 g b := by
    intro b hba hb
    unfold mi_v2 at hb ⊢
    rw [(mi_k_eq (hg b hba)).1, (mi_k_eq (hg b hba)).2.1] at hb
    exact hb
  have lt1 : ∀ b, mi_v1 g b → ad b < H.size := fun b hb => (r2 b hb).1.lt
  have lt2 : ∀ b, mi_v2 g b → ad2 b < H.size := fun b hb => (r3 b hb).1.lt
  refine ⟨⟨Nat.le_trans r1.1 hz, fun q hq => ?_⟩, fun b hb => ?_, fun b hb => ?_, fun b c hb hc' => r4 b c (v1 b hb) (v1 c hc'), fun b c hb hc' => ?_, fun b c hb hc' => ?_, fun b hb => ?_, fun b hb => ?_, fun b => ?_, by rw [hl]; exact r10⟩
  · rw [hk q (Nat.lt_of_lt_of_le hq r1.1) (fun e => by have := (r2 a ha).2; omega) (fun hv e => by have := (r3 a hv).2.1; omega)]
    exact r1.2 q hq
  · by_cases hba : b = a
    · subst hba
      exact ⟨e1, (r2 b ha).2⟩
    · have hb' := v1 b hb
      rw [mi_cell_eq (ad := ad) (ad2 := ad2) (hg b hba) (h2 b hba) (r9 b) (fun _ _ => rfl) (hd b hba).1 (hd b hba).2.1 (hd b hba).2.2]
      refine ⟨(r2 b hb').1.kept (hk _ (lt1 b hb') (fun e => hba (r4 b a hb' ha e)) (fun hv => r5 b a hb' hv)), (r2 b hb').2⟩
  · by_cases hba : b = a
    · subst hba
      exact e2 hb
    · have hb' := v2 b hba hb
      rw [mi_cell2_eq (hg b hba) (hd b hba).2.1 (hd b hba).2.2 (hc b hba), h2 b hba]
      obtain ⟨q1, q2, q3⟩ := r3 b hb'
      refine ⟨q1.kept (hk _ (lt2 b hb') (fun e => r5 a b ha hb' e.symm) (fun hv e => hba (r6 b a hb' hv e))), q2, ?_⟩
      unfold mi_capok at q3 ⊢
      rw [(mi_k_eq (hg b hba)).1, (mi_k_eq (hg b hba)).2.1, hc b hba, (hd b hba).2.1, (hd b hba).2.2]
      exact q3
  · have hb' := v1 b hb
    by_cases hca : c = a
    · subst hca
      rcases h2a with ⟨hv, h⟩ | h | h
      · rw [h]; exact r5 b c hb' hv
      · have := lt1 b hb'; omega
      · exact absurd hc' h
    · rw [h2 c hca]
      exact r5 b c hb' (v2 c hca hc')
  · by_cases hba : b = a
    · by_cases hca : c = a
      · rw [hba, hca]; exact fun _ => rfl
      · rw [h2 c hca]
        have hcv := v2 c hca hc'
        subst hba
        rcases h2a with ⟨hv, h⟩ | h | h
        · rw [h]; exact r6 b c hv hcv
        · have := lt2 c hcv; intro e; omega
        · exact absurd hb h
    · rw [h2 b hba]
      have hbv := v2 b hba hb
      by_cases hca : c = a
      · subst hca
        rcases h2a with ⟨hv, h⟩ | h | h
        · rw [h]; exact r6 b c hbv hv
        · have := lt2 b hbv; intro e; omega
        · exact absurd hc' h
      · rw [h2 c hca]; exact r6 b c hbv (v2 c hca hc')
  · by_cases hba : b = a
    · subst hba
      rw [hka] at hb
      rcases ha with z | z | z | z <;> omega
    · rw [(mi_k_eq (hg b hba)).1] at hb
      rw [(mi_k_eq (hg b hba)).2.1, (hd b hba).2.1]
      exact r7 b hb
  · by_cases hba : b = a
    · subst hba
      rw [hka] at hb
      rcases ha with z | z | z | z <;> omega
    · rw [(mi_k_eq (hg b hba)).1] at hb
      rw [(mi_k_eq (hg b hba)).2.1, (hd b hba).2.1]
      exact r8 b hb
  · by_cases hba : b = a
    · subst hba
      rw [hl]; exact hra
    · rw [(mi_k_eq (hg b hba)).2.2, hl]
      exact r9 b
theorem mi_getapp {g : mi_G} {q : Nat × Nat × List Nat} {b : Nat} (h : b ≠ g.length) : (g ++ [q])[b]? = g[b]? := by
  by_cases hb : b < g.length
  · rw [List.getElem?_append_left hb]
  · rw [List.getElem?_append_right (by omega), List.getElem?_eq_none (show [q].length ≤ b - g.length by simp; omega), List.getElem?_eq_none (by omega)]
theorem mi_getnew {g : mi_G} {q : Nat × Nat × List Nat} : (g ++ [q])[g.length]? = some q := by simp
/-- a cell comes -/
theorem mi_Rel.push {D : va_G} {cA : mi_cA} {H0 : Heap} {tl : Nat} {ad ad2 : Nat → Nat} {g : mi_G} {δ : mi_D} {cp : Nat → Nat} {U : State} {H H1 : Heap} (hR : mi_Rel D cA H0 tl ad ad2 g δ cp U H) (k n : Nat) (rs : List Nat)
    (hk' : k < 13 ∨ k = 20 ∨ k = 21 ∨ k = 22) (hn : k = 3 ∨ k = 6 → n = 0) (hrs : ∀ r ∈ rs, r = 0) (hz : H1.size = H.size + 1) (hk : ∀ q : Nat, q < H.size → H1[q]? = H[q]?)
    (e1 : va_at D vwCl (H.size, mi_cell cA (fun x => if x = g.length then H.size else ad x) ad2 (g ++ [(k, n, rs)]) (mi_zero δ g.length) g.length) H1) :
    mi_Rel D cA H0 tl (fun x => if x = g.length then H.size else ad x) ad2 (g ++ [(k, n, rs)]) (mi_zero δ g.length) cp U H1 := by
  obtain ⟨r1, r2, r3, r4, r5, r6, r7, r8, r9, r10⟩ := hR
  have had : ∀ b, b < g.length → (fun x => if x = g.length then H.size else ad x) b = ad b := fun b hb => if_neg (by omega)
  have hkn : mi_k (g ++ [(k, n, rs)]) g.length = k := by unfold mi_k; rw [mi_getnew]
  have hln : mi_len (g ++ [(k, n, rs)]) g.length = n := by unfold mi_len; rw [mi_getnew]
  have hrn : mi_rs (g ++ [(k, n, rs)]) g.length = rs := by unfold mi_rs; rw [mi_getnew]
  have hdz : ∀ b, b ≠ g.length → (∀ j, (mi_zero δ g.length).1 b j = δ.1 b j) ∧ (mi_zero δ g.length).2.1 b = δ.2.1 b ∧ (mi_zero δ g.length).2.2 b = δ.2.2 b := by
    intro b hb
    refine ⟨fun j => if_neg hb, ?_, ?_⟩
    · funext j; exact if_neg hb
    · funext j; exact if_neg hb
  have v1 : ∀ b, b ≠ g.length → mi_v1 (g ++ [(k, n, rs)]) b → mi_v1 g b := by
    intro b hb h
    unfold mi_v1 at h ⊢
    rw [(mi_k_eq (mi_getapp hb)).1] at h
    exact h
  have v2 : ∀ b, mi_v2 (g ++ [(k, n, rs)]) b → b ≠ g.length ∧ mi_v2 g b := by
    intro b h
    have hb : b ≠ g.length := by
      intro e
      subst e
      obtain ⟨h1, h2⟩ := h
      rw [hkn] at h1
      rw [hln] at h2
      exact h2 (hn h1)
    refine ⟨hb, ?_⟩
    unfold mi_v2 at h ⊢
    rw [(mi_k_eq (mi_getapp hb)).1, (mi_k_eq (mi_getapp hb)).2.1] at h
    exact h
  have lt1 : ∀ b, mi_v1 g b → ad b < H.size := fun b hb => (r2 b hb).1.lt
  have lt2 : ∀ b, mi_v2 g b → ad2 b < H.size := fun b hb => (r3 b hb).1.lt
  refine ⟨⟨by omega, fun q hq => by rw [hk q (Nat.lt_of_lt_of_le hq r1.1)]; exact r1.2 q hq⟩, fun b hb => ?_, fun b hb => ?_, fun b c hb hc => ?_, fun b c hb hc => ?_, fun b c hb hc => ?_, fun b hb => ?_, fun b hb => ?_, fun b r hr => ?_, by simp; omega, by have h1 := r10.1; simp only [if_neg (show ¬ 1 = g.length by omega)]; exact r10.2⟩
  · by_cases hbn : b = g.length
    · subst hbn
      simp only [if_true]
      exact ⟨e1, r1.1⟩
    · have hb' := v1 b hbn hb
      rw [mi_cell_eq (ad := ad) (mi_getapp hbn) rfl (r9 b) had (hdz b hbn).1 (hdz b hbn).2.1 (hdz b hbn).2.2]
      simp only [if_neg hbn]
      exact ⟨(r2 b hb').1.kept (hk _ (lt1 b hb')), (r2 b hb').2⟩
  · obtain ⟨hbn, hb'⟩ := v2 b hb
    rw [mi_cell2_eq (cp := cp) (mi_getapp hbn) (hdz b hbn).2.1 (hdz b hbn).2.2 rfl]
    obtain ⟨q1, q2, q3⟩ := r3 b hb'
    refine ⟨q1.kept (hk _ (lt2 b hb')), q2, ?_⟩
    unfold mi_capok at q3 ⊢
    rw [(mi_k_eq (mi_getapp hbn)).1, (mi_k_eq (mi_getapp hbn)).2.1, (hdz b hbn).2.1, (hdz b hbn).2.2]
    exact q3
  · by_cases hbn : b = g.length <;> by_cases hcn : c = g.length
    · rw [hbn, hcn]; exact fun _ => rfl
    · simp only [if_pos hbn, if_neg hcn]
      have := lt1 c (v1 c hcn hc); intro e; omega
    · simp only [if_neg hbn, if_pos hcn]
      have := lt1 b (v1 b hbn hb); intro e; omega
    · simp only [if_neg hbn, if_neg hcn]
      exact r4 b c (v1 b hbn hb) (v1 c hcn hc)
  · obtain ⟨hcn, hc'⟩ := v2 c hc
    by_cases hbn : b = g.length
    · simp only [if_pos hbn]
      have := lt2 c hc'; omega
    · simp only [if_neg hbn]
      exact r5 b c (v1 b hbn hb) hc'
  · exact r6 b c (v2 b hb).2 (v2 c hc).2
  · by_cases hbn : b = g.length
    · subst hbn; rw [hkn] at hb; omega
    · rw [(mi_k_eq (mi_getapp hbn)).1] at hb
      rw [(mi_k_eq (mi_getapp hbn)).2.1, (hdz b hbn).2.1]
      simp only [if_neg hbn]
      exact r7 b hb
  · by_cases hbn : b = g.length
    · subst hbn; rw [hkn] at hb; omega
    · rw [(mi_k_eq (mi_getapp hbn)).1] at hb
      rw [(mi_k_eq (mi_getapp hbn)).2.1, (hdz b hbn).2.1]
      simp only [if_neg hbn]
      exact r8 b hb
  · by_cases hbn : b = g.length
    · subst hbn
      rw [hrn] at hr
      rw [hrs r hr]; exact Nat.zero_le _
    · rw [(mi_k_eq (mi_getapp hbn)).2.2] at hr
      have := r9 b r hr
      simp; omega
