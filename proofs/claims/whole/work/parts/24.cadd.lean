/-! insertion by codes -/
theorem ins_len (f : Nat → Int32) (x : Nat) (L : List Nat) : (ins f x L).length = L.length + 1 := by
  induction L with
  | nil => rfl
  | cons b L ih =>
    unfold ins
    split
    · rfl
    · rw [List.length_cons, ih, List.length_cons]
theorem ins_mem (f : Nat → Int32) (x : Nat) (L : List Nat) (y : Nat) : y ∈ ins f x L ↔ y = x ∨ y ∈ L := by
  induction L with
  | nil => unfold ins; simp
  | cons b L ih =>
    unfold ins
    split
    · simp
    · rw [List.mem_cons, ih, List.mem_cons]
      exact ⟨fun h => h.elim (fun q => Or.inr (Or.inl q)) (fun h => h.elim Or.inl (fun q => Or.inr (Or.inr q))), fun h => h.elim (fun q => Or.inr (Or.inl q)) (fun h => h.elim Or.inl (fun q => Or.inr (Or.inr q)))⟩
theorem ordN_len (f : Nat → Int32) (n : Nat) : (ordN f n).length = n := by
  induction n with
  | zero => rfl
  | succ n ih => unfold ordN; rw [ins_len, ih]
theorem ordN_mem (f : Nat → Int32) (n y : Nat) : y ∈ ordN f n ↔ y < n := by
  induction n with
  | zero => unfold ordN; simp
  | succ n ih => unfold ordN; rw [ins_mem, ih]; omega
theorem ins_srt (f : Nat → Int32) (x : Nat) (L : List Nat) (h : L.Pairwise (fun a b => ¬ f b < f a)) : (ins f x L).Pairwise (fun a b => ¬ f b < f a) := by
  induction L with
  | nil => unfold ins; simp
  | cons b L ih =>
    obtain ⟨h1, h2⟩ := List.pairwise_cons.mp h
    unfold ins
    split
    · next hx =>
      refine List.pairwise_cons.mpr ⟨fun y hy => ?_, h⟩
      rcases List.mem_cons.mp hy with e | e
      · subst e; rw [Int32.lt_iff_toInt_lt] at *; omega
      · have := h1 y e
        rw [Int32.lt_iff_toInt_lt] at *; omega
    · next hx =>
      refine List.pairwise_cons.mpr ⟨fun y hy => ?_, ih h2⟩
      rcases (ins_mem f x L y).mp hy with e | e
      · subst e; exact hx
      · exact h1 y e
theorem ordN_srt (f : Nat → Int32) (n : Nat) : (ordN f n).Pairwise (fun a b => ¬ f b < f a) := by
  induction n with
  | zero => unfold ordN; simp
  | succ n ih => unfold ordN; exact ins_srt f n _ ih
theorem ins_eq (f : Nat → Int32) (x : Nat) (L : List Nat) (p : Nat) (hp : p ≤ L.length) (h1 : ∀ i b, i < p → L[i]? = some b → ¬ f x < f b) (h2 : ∀ b, L[p]? = some b → f x < f b) : ins f x L = L.take p ++ x :: L.drop p := by
  induction L generalizing p with
  | nil => cases p with
    | zero => rfl
    | succ p => simp at hp
  | cons b L ih =>
    unfold ins
    cases p with
    | zero => rw [if_pos (h2 b rfl)]; rfl
    | succ p =>
      rw [if_neg (h1 0 b (by omega) rfl), ih p (by simpa using hp) (fun i c hi hc => h1 (i + 1) c (by omega) hc) (fun c hc => h2 c hc)]
      rfl
theorem ordN_congr {f g : Nat → Int32} {n : Nat} (h : ∀ i, i < n → f i = g i) : ordN f n = ordN g n := by
  have hI : ∀ (x : Nat) (L : List Nat), f x = g x → (∀ y ∈ L, f y = g y) → ins f x L = ins g x L := by
    intro x L hx hL
    induction L with
    | nil => rfl
    | cons b L ih =>
      unfold ins
      rw [hx, hL b (List.mem_cons_self), ih (fun y hy => hL y (List.mem_cons_of_mem _ hy))]
  induction n with
  | zero => rfl
  | succ n ih =>
    unfold ordN
    rw [ih (fun i hi => h i (by omega))]
    exact hI n _ (h n (by omega)) (fun y hy => h y (by have := (ordN_mem g n y).mp hy; omega))
/-! rows that were written -/
theorem rowA_A (δ : mi_D) (a : Nat) (f : Nat → Int32) : (rowA δ a f).2.1 a = f := if_pos rfl
theorem rowA_n (δ : mi_D) {a b : Nat} (f : Nat → Int32) (h : b ≠ a) : (rowA δ a f).2.1 b = δ.2.1 b := if_neg h
theorem rowL_L (δ : mi_D) (a : Nat) (f : Nat → Int64) : (rowL δ a f).2.2 a = f := if_pos rfl
theorem rowL_n (δ : mi_D) {a b : Nat} (f : Nat → Int64) (h : b ≠ a) : (rowL δ a f).2.2 b = δ.2.2 b := if_neg h
theorem rowA_rowA (δ : mi_D) (a : Nat) (f g : Nat → Int32) : rowA (rowA δ a f) a g = rowA δ a g := by
  unfold rowA
  refine Prod.ext rfl (Prod.ext (funext fun x => ?_) rfl)
  dsimp only
  by_cases h : x = a <;> simp [h]
theorem rowL_rowL (δ : mi_D) (a : Nat) (f g : Nat → Int64) : rowL (rowL δ a f) a g = rowL δ a g := by
  unfold rowL
  refine Prod.ext rfl (Prod.ext rfl (funext fun x => ?_))
  dsimp only
  by_cases h : x = a <;> simp [h]
theorem rowA_self (δ : mi_D) (a : Nat) : rowA δ a (δ.2.1 a) = δ := by
  unfold rowA
  refine Prod.ext rfl (Prod.ext (funext fun x => ?_) rfl)
  dsimp only
  by_cases h : x = a <;> simp [h]
theorem rowL_self (δ : mi_D) (a : Nat) : rowL δ a (δ.2.2 a) = δ := by
  unfold rowL
  refine Prod.ext rfl (Prod.ext rfl (funext fun x => ?_))
  dsimp only
  by_cases h : x = a <;> simp [h]
theorem pt_row (δ : mi_D) (a lim : Nat) {j : Nat} (v : Int32) (h : j < lim) (hl : lim < 2 ^ 31) : mi_pt δ a lim (nI j) v = rowA δ a (up1 (δ.2.1 a) j v) := by rw [mi_pt_nI δ a lim v h hl, setA_row]
theorem pl_row (δ : mi_D) (a lim : Nat) {j : Nat} (v : Int64) (h : j < lim) (hl : lim < 2 ^ 31) : mi_pl δ a lim (nI j) v = rowL δ a (up1 (δ.2.2 a) j v) := by rw [mi_pl_nI δ a lim v h hl, setL_row]
theorem up1_s {α : Type} (f : Nat → α) (k : Nat) (v : α) : up1 f k v k = v := if_pos rfl
theorem up1_n {α : Type} (f : Nat → α) {k j : Nat} (v : α) (h : j ≠ k) : up1 f k v j = f j := if_neg h
theorem nI_m1 (n : Nat) : nI (n + 1) + -1 = nI n := by
  rw [show nI (n + 1) = nI n + 1 from nI_succ n, Int32.add_assoc, show (1 : Int32) + -1 = 0 from by decide, Int32.add_zero]
theorem cc_putByCode {N d n : Nat} (hd : 5 ≤ d) {δ : mi_D} {Q : mi_D → Prop} (hn : n < 60) (hs : δ.1 4 9 = nI n) (hL : ∀ i b, (ordN (δ.2.1 5) n)[i]? = some b → δ.2.1 10 i = nI b)
    (k : ∀ g, (∀ i b, (ordN (δ.2.1 5) (n + 1))[i]? = some b → g i = nI b) → Q (rowA δ 10 g)) : mi_wV N d 9 0 [.ref 4, .int (nI n), .null] [] δ Q := by
  refine q0_putByCode_0 hd (fun x1 ex => ?_)
  rw [hs] at ex
  subst ex
  obtain ⟨L, eL⟩ : ∃ L, ordN (δ.2.1 5) n = L := ⟨_, rfl⟩
  have hlen : L.length = n := by rw [← eL]; exact ordN_len _ _
  have hmem : ∀ y, y ∈ L → y < n := fun y hy => by rw [← eL] at hy; exact (ordN_mem _ _ _).mp hy
  have hsrt := ordN_srt (δ.2.1 5) n
  have ek : ordN (δ.2.1 5) (n + 1) = ins (δ.2.1 5) n L := by rw [← eL]; rfl
  rw [eL] at hL hsrt
  rw [ek] at k
  suffices H : ∀ p, p ≤ n → ∀ h : Nat → Int32, (∀ i b, L[i]? = some b → (i < p → h i = nI b) ∧ (p ≤ i → h (i + 1) = nI b)) → (∀ i b, p ≤ i → L[i]? = some b → δ.2.1 5 n < δ.2.1 5 b) → mi_wV N d 9 5 [.ref 4, .int (nI n), .int (nI p)] [] (rowA δ 10 h) Q by
    have e := H n (by omega) (δ.2.1 10) (fun i b hb => ⟨fun _ => hL i b hb, fun q => by have := (List.getElem?_eq_some_iff.mp hb).1; omega⟩) (fun i b hi hb => by have := (List.getElem?_eq_some_iff.mp hb).1; omega)
    rwa [rowA_self] at e
  intro p
  have fin : ∀ p, p ≤ n → ∀ h : Nat → Int32, (∀ i b, L[i]? = some b → (i < p → h i = nI b) ∧ (p ≤ i → h (i + 1) = nI b)) → (∀ i b, p ≤ i → L[i]? = some b → δ.2.1 5 n < δ.2.1 5 b) → (∀ b, L[p - 1]? = some b → 0 < p → ¬ δ.2.1 5 n < δ.2.1 5 b) → mi_wV N d 9 61 [.ref 4, .int (nI n), .int (nI p)] [] (rowA δ 10 h) Q := by
    intro p hp h h1 h2 h3
    refine q0_putByCode_61 hd (fun δ1 e => ?_)
    rw [pt_row _ _ _ _ (by omega) (by omega), rowA_A, rowA_rowA] at e
    subst e
    refine k _ (fun i b hb => ?_)
    rw [ins_eq (δ.2.1 5) n L p (by omega) (fun i b hi hb => ?_) (fun b hb => h2 p b (by omega) hb)] at hb
    · by_cases e1 : i < p
      · rw [List.getElem?_append_left (by rw [List.length_take]; omega), List.getElem?_take_of_lt e1] at hb
        rw [up1_n _ _ (by omega)]
        exact (h1 i b hb).1 e1
      · rw [List.getElem?_append_right (by rw [List.length_take]; omega), List.length_take, Nat.min_eq_left (by omega)] at hb
        by_cases e2 : i = p
        · subst e2
          rw [Nat.sub_self] at hb
          injection hb with hb
          subst hb
          exact up1_s _ _ _
        · obtain ⟨q, rfl⟩ : ∃ q, i = q + 1 := ⟨i - 1, by omega⟩
          rw [show q + 1 - p = (q - p) + 1 from by omega, List.getElem?_cons_succ, List.getElem?_drop, show p + (q - p) = q from by omega] at hb
          rw [up1_n _ _ (by omega)]
          exact (h1 q b hb).2 (by omega)
    · by_cases e : i = p - 1
      · subst e; exact h3 b hb (by omega)
      · obtain ⟨hi1, hb1⟩ := List.getElem?_eq_some_iff.mp hb
        have hq : p - 1 < L.length := by omega
        have a1 := h3 L[p - 1] (List.getElem?_eq_getElem hq) (by omega)
        have a2 := List.pairwise_iff_getElem.mp hsrt i (p - 1) hi1 hq (by omega)
        rw [hb1] at a2
        rw [Int32.lt_iff_toInt_lt] at *
        omega
  induction p with
  | zero =>
    intro hp h h1 h2
    have e := fin 0 hp h h1 h2 (fun b _ q => by omega)
    rw [nI_0] at e ⊢
    exact q0_putByCode_5 hd ⟨fun q => absurd q (by decide), fun _ => e⟩
  | succ p ih =>
    intro hp h h1 h2
    have hq : p < L.length := by omega
    have hg : L[p]? = some L[p] := List.getElem?_eq_getElem hq
    have hm : L[p] < n := hmem _ (List.getElem_mem hq)
    refine q0_putByCode_5 hd ⟨fun _ => ?_, fun q => absurd (nI_0 ▸ nI_lt (a := 0) (b := p + 1) (by omega) (by omega)) q⟩
    rw [nI_pred, mi_at_nI _ _ (by omega), mi_at_nI _ 10 (by omega), rowA_A, rowA_n _ _ (by decide), (h1 p _ hg).1 (by omega), mi_at_nI _ _ (by omega), rowA_n _ _ (by decide)]
    refine ⟨fun q δ1 e => ?_, fun q => ?_⟩
    · rw [pt_row _ _ _ _ (by omega) (by omega), rowA_A, rowA_rowA] at e
      subst e
      rw [nI_m1]
      refine ih (by omega) _ (fun i b hb => ⟨fun hi => ?_, fun hi => ?_⟩) (fun i b hi hb => ?_)
      · rw [up1_n _ _ (by omega)]; exact (h1 i b hb).1 (by omega)
      · by_cases e : i = p
        · subst e; rw [up1_s, show b = L[i] from Option.some.inj (hb.symm.trans hg)]
        · rw [up1_n _ _ (by omega)]; exact (h1 i b hb).2 (by omega)
      · by_cases e : i = p
        · subst e; rw [show b = L[i] from Option.some.inj (hb.symm.trans hg)]; exact q
        · exact h2 i b (by omega) hb
    · exact fin (p + 1) hp h h1 h2 (fun b hb _ => by
        rw [show b = L[p] from Option.some.inj (hb.symm.trans hg)]; exact q)
