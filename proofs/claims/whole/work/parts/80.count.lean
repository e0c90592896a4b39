/-! how much is made: cells, slots -/
def tS (f : Nat → Nat) : Nat → Nat := itN (fun b t => t + f b) 0
theorem tS_s (f : Nat → Nat) (n : Nat) : tS f (n + 1) = tS f n + f n := rfl
theorem tS_congr {f f' : Nat → Nat} {n : Nat} (h : ∀ b, b < n → f' b = f b) : tS f' n = tS f n := itN_congr (fun b hb x => by rw [h b hb])
theorem tS_up {f f' : Nat → Nat} {a n : Nat} (ha : a < n) (h : ∀ b, b < n → ¬ b = a → f' b = f b) : tS f' n + f a = tS f n + f' a := by
  induction n with
  | zero => exact absurd ha (Nat.not_lt_zero a)
  | succ n ih =>
    rw [tS_s, tS_s]
    by_cases e : a = n
    · subst e
      rw [tS_congr (f := f) (f' := f') (fun b hb => h b (by omega) (by omega))]
      omega
    · have := ih (by omega) (fun b hb hne => h b (by omega) hne)
      rw [h n (by omega) (fun q => e q.symm)]
      omega
theorem tS_le {f f' : Nat → Nat} {n : Nat} (h : ∀ b, b < n → f b ≤ f' b) : tS f n ≤ tS f' n := by
  induction n with
  | zero => exact Nat.le_refl _
  | succ n ih =>
    rw [tS_s, tS_s]
    have := ih (fun b hb => h b (by omega))
    have := h n (by omega)
    omega
abbrev isI (k l : Nat) : Prop := (k = 3 ∨ k = 6) ∧ ¬ l = 0
def wC (k l c : Nat) : Nat := 2 + if isI k l then c else 0
def wS (k l c : Nat) : Nat := mi_n k + (if 20 ≤ k then l else 0) + if isI k l then 2 * c + (if l ≤ c + 1 then l else 0) else 0
def cI (g : mi_G) (h : mi_H) : Prop := h.2.1 ≤ tS (fun b => wC (mi_k g b) (mi_len g b) (h.1 b)) g.length ∧ h.2.2 ≤ tS (fun b => wS (mi_k g b) (mi_len g b) (h.1 b)) g.length
  ∧ ∀ a, a < g.length → isI (mi_k g a) (mi_len g a) → h.1 a ≤ max 16 (mi_len g a - 1)
theorem k_lt {g : mi_G} {a : Nat} (h : mi_k g a < 99) : a < g.length := by
  rcases Nat.lt_or_ge a g.length with q | q
  · exact q
  · unfold mi_k at h
    rw [List.getElem?_eq_none q] at h
    exact absurd h (by decide)
theorem k_set {g : mi_G} {a b k l : Nat} {r : List Nat} (ha : a < g.length) : mi_k (g.set a (k, l, r)) b = if b = a then k else mi_k g b := by
  unfold mi_k
  by_cases e : b = a
  · subst e
    rw [if_pos rfl, List.getElem?_set_self ha]
  · rw [if_neg e, List.getElem?_set_ne (fun q => e q.symm)]
theorem l_set {g : mi_G} {a b k l : Nat} {r : List Nat} (ha : a < g.length) : mi_len (g.set a (k, l, r)) b = if b = a then l else mi_len g b := by
  unfold mi_len
  by_cases e : b = a
  · subst e
    rw [if_pos rfl, List.getElem?_set_self ha]
  · rw [if_neg e, List.getElem?_set_ne (fun q => e q.symm)]
theorem k_app {g : mi_G} {b : Nat} {q : Nat × Nat × List Nat} : (b < g.length → mi_k (g ++ [q]) b = mi_k g b ∧ mi_len (g ++ [q]) b = mi_len g b) ∧ mi_k (g ++ [q]) g.length = q.1 ∧ mi_len (g ++ [q]) g.length = q.2.1 := by
  refine ⟨fun h => ?_, ?_, ?_⟩
  · unfold mi_k mi_len
    rw [List.getElem?_append_left h]
    exact ⟨rfl, rfl⟩
  · unfold mi_k
    rw [List.getElem?_append_right (Nat.le_refl _), Nat.sub_self]
    rfl
  · unfold mi_len
    rw [List.getElem?_append_right (Nat.le_refl _), Nat.sub_self]
    rfl
def mStp (σ σ' : mi_S) : Prop := (σ'.1 = σ.1 ∧ σ'.2.2 = σ.2.2)
  ∨ (∃ a k r, mi_k σ.1 a = k ∧ σ'.1 = σ.1.set a (k, mi_len σ.1 a, r) ∧ σ'.2.2 = σ.2.2)
  ∨ (∃ a i, (mi_k σ.1 a = 3 ∨ mi_k σ.1 a = 6) ∧ ¬ mi_len σ.1 a = 0 ∧ ¬ mi_len σ.1 a ≤ i + 1 ∧ σ'.1 = σ.1 ∧ σ'.2.2 = mi_put σ.2.2 (mi_len σ.1 a - 1) a i)
  ∨ (∃ k l r m, m ≤ mi_n k + (if 20 ≤ k then l else 0) ∧ ¬ isI k l ∧ σ'.1 = σ.1 ++ [(k, l, r)] ∧ σ'.2.2 = (σ.2.2.1, σ.2.2.2.1 + 1, σ.2.2.2.2 + m))
  ∨ (∃ a k n, (k = 3 ∨ k = 6) ∧ mi_k σ.1 a = k ∧ mi_len σ.1 a = 0 ∧ σ'.1 = σ.1.set a (k, n + 1, []) ∧ σ'.2.2 = (fun x => if x = a then 16 else σ.2.2.1 x, σ.2.2.2.1 + 1, σ.2.2.2.2 + 16))
theorem stp_cI {σ σ' : mi_S} (s : mStp σ σ') (I : cI σ.1 σ.2.2) : cI σ'.1 σ'.2.2 := by
  obtain ⟨i1, i2, i3⟩ := id I
  rcases s with ⟨e1, e2⟩ | ⟨a, k, r, hk, e1, e2⟩ | ⟨a, i, hk, hl, hi, e1, e2⟩ | ⟨k, l, r, m, hm, hn, e1, e2⟩ | ⟨a, k, n, hk, hka, hl, e1, e2⟩
  · rw [e1, e2]; exact I
  · rw [e1, e2]
    by_cases ha : a < σ.1.length
    · have ek : ∀ b, mi_k (σ.1.set a (k, mi_len σ.1 a, r)) b = mi_k σ.1 b := fun b => by
        rw [k_set ha]; split
        · next q => subst q; exact hk.symm
        · rfl
      have el : ∀ b, mi_len (σ.1.set a (k, mi_len σ.1 a, r)) b = mi_len σ.1 b := fun b => by
        rw [l_set ha]; split
        · next q => subst q; rfl
        · rfl
      unfold cI
      simp only [ek, el, List.length_set]
      exact I
    · rw [List.set_eq_of_length_le (by omega)]; exact I
  · rw [e1, e2]
    have ha : a < σ.1.length := k_lt (by rcases hk with q | q <;> rw [q] <;> decide)
    unfold mi_put
    by_cases hc : i < σ.2.2.1 a
    · rw [if_pos hc]; exact I
    · rw [if_neg hc]
      obtain ⟨c, ec⟩ : ∃ c, mi_grow (mi_len σ.1 a - 1) (σ.2.2.1 a) i = c := ⟨_, rfl⟩
      rw [ec]
      unfold mi_grow at ec
      rw [if_neg hc] at ec
      have hI : isI (mi_k σ.1 a) (mi_len σ.1 a) := ⟨hk, hl⟩
      have u1 := tS_up (f := fun b => wC (mi_k σ.1 b) (mi_len σ.1 b) (σ.2.2.1 b)) (f' := fun b => wC (mi_k σ.1 b) (mi_len σ.1 b) (if b = a then c else σ.2.2.1 b)) ha (fun b _ hb => by rw [if_neg hb])
      have u2 := tS_up (f := fun b => wS (mi_k σ.1 b) (mi_len σ.1 b) (σ.2.2.1 b)) (f' := fun b => wS (mi_k σ.1 b) (mi_len σ.1 b) (if b = a then c else σ.2.2.1 b)) ha (fun b _ hb => by rw [if_neg hb])
      rw [if_pos rfl] at u1 u2
      have v1 : wC (mi_k σ.1 a) (mi_len σ.1 a) (σ.2.2.1 a) = 2 + σ.2.2.1 a := by unfold wC; rw [if_pos hI]
      have v2 : wC (mi_k σ.1 a) (mi_len σ.1 a) c = 2 + c := by unfold wC; rw [if_pos hI]
      have v3 : wS (mi_k σ.1 a) (mi_len σ.1 a) (σ.2.2.1 a) + c ≤ wS (mi_k σ.1 a) (mi_len σ.1 a) c := by
        unfold wS
        rw [if_pos hI, if_pos hI, if_neg (show ¬ mi_len σ.1 a ≤ σ.2.2.1 a + 1 by omega)]
        by_cases hf : mi_len σ.1 a ≤ c + 1
        · rw [if_pos hf]; omega
        · rw [if_neg hf]; omega
      rw [v1, v2] at u1
      refine ⟨?_, ?_, fun b hb hbI => ?_⟩
      · show σ.2.2.2.1 + 1 ≤ tS (fun b => wC (mi_k σ.1 b) (mi_len σ.1 b) (if b = a then c else σ.2.2.1 b)) _
        omega
      · show σ.2.2.2.2 + c ≤ tS (fun b => wS (mi_k σ.1 b) (mi_len σ.1 b) (if b = a then c else σ.2.2.1 b)) _
        omega
      · show (if b = a then c else σ.2.2.1 b) ≤ _
        by_cases e : b = a
        · subst e; rw [if_pos rfl]; omega
        · rw [if_neg e]; exact i3 b hb hbI
  · rw [e1, e2]
    have ka := fun b => (k_app (g := σ.1) (b := b) (q := (k, l, r)))
    have c1 := tS_congr (f := fun b => wC (mi_k σ.1 b) (mi_len σ.1 b) (σ.2.2.1 b)) (f' := fun b => wC (mi_k (σ.1 ++ [(k, l, r)]) b) (mi_len (σ.1 ++ [(k, l, r)]) b) (σ.2.2.1 b)) (n := σ.1.length) (fun b hb => by rw [((ka b).1 hb).1, ((ka b).1 hb).2])
    have c2 := tS_congr (f := fun b => wS (mi_k σ.1 b) (mi_len σ.1 b) (σ.2.2.1 b)) (f' := fun b => wS (mi_k (σ.1 ++ [(k, l, r)]) b) (mi_len (σ.1 ++ [(k, l, r)]) b) (σ.2.2.1 b)) (n := σ.1.length) (fun b hb => by rw [((ka b).1 hb).1, ((ka b).1 hb).2])
    unfold cI
    rw [List.length_append, List.length_singleton]
    rw [tS_s, tS_s, c1, c2, (ka 0).2.1, (ka 0).2.2]
    refine ⟨?_, ?_, fun b hb hbI => ?_⟩
    · have : 2 ≤ wC k l (σ.2.2.1 σ.1.length) := by unfold wC; omega
      show σ.2.2.2.1 + 1 ≤ _ + wC k l (σ.2.2.1 σ.1.length)
      omega
    · show σ.2.2.2.2 + m ≤ _ + wS k l (σ.2.2.1 σ.1.length)
      have : m ≤ wS k l (σ.2.2.1 σ.1.length) := by unfold wS; omega
      omega
    · show σ.2.2.1 b ≤ _
      by_cases e : b < σ.1.length
      · rw [((ka b).1 e).1, ((ka b).1 e).2] at hbI
        rw [((ka b).1 e).2]
        exact i3 b e hbI
      · have e2 : b = σ.1.length := by omega
        subst e2
        rw [(ka 0).2.1, (ka 0).2.2] at hbI
        exact absurd hbI hn
  · rw [e1, e2]
    have ha : a < σ.1.length := k_lt (by rw [hka]; rcases hk with q | q <;> rw [q] <;> decide)
    have nI0 : ¬ isI (mi_k σ.1 a) (mi_len σ.1 a) := fun q => q.2 hl
    have yI : isI k (n + 1) := ⟨hk, by omega⟩
    have u1 := tS_up (f := fun b => wC (mi_k σ.1 b) (mi_len σ.1 b) (σ.2.2.1 b)) (f' := fun b => wC (mi_k (σ.1.set a (k, n + 1, [])) b) (mi_len (σ.1.set a (k, n + 1, [])) b) (if b = a then 16 else σ.2.2.1 b)) ha (fun b _ hb => by rw [if_neg hb, k_set ha, if_neg hb, l_set ha, if_neg hb])
    have u2 := tS_up (f := fun b => wS (mi_k σ.1 b) (mi_len σ.1 b) (σ.2.2.1 b)) (f' := fun b => wS (mi_k (σ.1.set a (k, n + 1, [])) b) (mi_len (σ.1.set a (k, n + 1, [])) b) (if b = a then 16 else σ.2.2.1 b)) ha (fun b _ hb => by rw [if_neg hb, k_set ha, if_neg hb, l_set ha, if_neg hb])
    rw [if_pos rfl, k_set ha, if_pos rfl, l_set ha, if_pos rfl] at u1 u2
    have v1 : wC (mi_k σ.1 a) (mi_len σ.1 a) (σ.2.2.1 a) = 2 := by unfold wC; rw [if_neg nI0]
    have v2 : wC k (n + 1) 16 = 18 := by unfold wC; rw [if_pos yI]
    have v3 : wS (mi_k σ.1 a) (mi_len σ.1 a) (σ.2.2.1 a) = mi_n k := by
      unfold wS; rw [if_neg nI0, hka, if_neg (show ¬ 20 ≤ k by omega)]; rfl
    have v4 : mi_n k + 32 ≤ wS k (n + 1) 16 := by unfold wS; rw [if_pos yI]; omega
    rw [v1, v2] at u1
    rw [v3] at u2
    refine ⟨?_, ?_, fun b hb hbI => ?_⟩
    · rw [List.length_set]
      show σ.2.2.2.1 + 1 ≤ tS (fun b => wC (mi_k (σ.1.set a (k, n + 1, [])) b) (mi_len (σ.1.set a (k, n + 1, [])) b) (if b = a then 16 else σ.2.2.1 b)) _
      omega
    · rw [List.length_set]
      show σ.2.2.2.2 + 16 ≤ tS (fun b => wS (mi_k (σ.1.set a (k, n + 1, [])) b) (mi_len (σ.1.set a (k, n + 1, [])) b) (if b = a then 16 else σ.2.2.1 b)) _
      omega
    · show (if b = a then 16 else σ.2.2.1 b) ≤ _
      by_cases e : b = a
      · rw [if_pos e]; omega
      · rw [k_set ha, if_neg e, l_set ha, if_neg e] at hbI
        rw [if_neg e, l_set ha, if_neg e]
        rw [List.length_set] at hb
        exact i3 b hb hbI
