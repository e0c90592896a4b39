/-! numbers, frames -/
theorem zc_lt {x y : Int64} : lg_cmp x y < 0 ↔ x < y := by
  unfold lg_cmp
  by_cases h : x > y
  · rw [if_pos h]
    exact ⟨fun q => absurd q (by decide), fun q => absurd h (lg_lt_not q)⟩
  · rw [if_neg h]
    by_cases h2 : x = y
    · rw [if_pos h2]
      subst h2
      exact ⟨fun q => absurd q (by decide), fun q => absurd q h⟩
    · rw [if_neg h2]
      refine ⟨fun _ => ?_, fun _ => by decide⟩
      simp only [Int64.lt_iff_toInt_lt, gt_iff_lt] at *
      have : x.toInt ≠ y.toInt := fun q => h2 (Int64.toInt_inj.mp q)
      omega
theorem zc_gt {x y : Int64} : 0 < lg_cmp x y ↔ y < x := by
  unfold lg_cmp
  by_cases h : x > y
  · rw [if_pos h]
    exact ⟨fun _ => h, fun _ => by decide⟩
  · rw [if_neg h]
    by_cases h2 : x = y
    · rw [if_pos h2]
      exact ⟨fun q => absurd q (by decide), fun q => absurd q h⟩
    · rw [if_neg h2]
      exact ⟨fun q => absurd q (by decide), fun q => absurd q h⟩
theorem zc_eq {x y : Int64} : lg_cmp x y = 0 ↔ x = y := by
  unfold lg_cmp
  by_cases h : x > y
  · rw [if_pos h]
    refine ⟨fun q => absurd q (by decide), fun q => ?_⟩
    subst q
    exact absurd h (lg_lt_not h)
  · rw [if_neg h]
    by_cases h2 : x = y
    · rw [if_pos h2]
      exact ⟨fun _ => h2, fun _ => rfl⟩
    · rw [if_neg h2]
      exact ⟨fun q => absurd q (by decide), fun q => absurd q h2⟩
theorem nw_lt {a b : Int32} : Int32.toInt64 a < Int32.toInt64 b ↔ a < b := by
  rw [Int64.lt_iff_toInt_lt, Int32.lt_iff_toInt_lt, Int32.toInt_toInt64, Int32.toInt_toInt64]
theorem nw_eq {a b : Int32} : Int32.toInt64 a = Int32.toInt64 b ↔ a = b := by
  rw [← Int64.toInt_inj, ← Int32.toInt_inj, Int32.toInt_toInt64, Int32.toInt_toInt64]
theorem mi_ix_nI {j n : Nat} (h : j < n) (hn : n < 2 ^ 31) : mi_ix (nI j) n = true := by
  unfold mi_ix
  rw [nI_clamp (by omega)]
  simp only [Bool.and_eq_true, Bool.not_eq_true', decide_eq_false_iff_not, decide_eq_true_eq]
  exact ⟨nI_pos (by omega), h⟩
/-- an account's (entry's, period's) number, among n -/
def isN (n : Nat) (p : Int32) : Prop := ∃ j, j < n ∧ p = nI j
theorem isN_of {n : Nat} {p : Int32} (hn : n < 2 ^ 31) (h0 : ¬ p < 0) (h : p < nI n) : isN n p := by
  obtain ⟨j, hj, rfl⟩ := nI_of h0
  exact ⟨j, (nI_ltI hj hn).mp h, rfl⟩
theorem isN_pos {n : Nat} {p : Int32} (hn : n < 2 ^ 31) (h : isN n p) : ¬ p < 0 ∧ p < nI n := by
  obtain ⟨j, hj, rfl⟩ := h
  exact ⟨nI_pos (by omega), nI_lt hj hn⟩
theorem mi_at_nI (δ : mi_D) (a : Nat) {j : Nat} (h : j < 2 ^ 31) : mi_at δ a (nI j) = δ.2.1 a j := by
  unfold mi_at
  rw [if_neg (nI_pos h), nI_clamp h]
theorem mi_al_nI (δ : mi_D) (a : Nat) {j : Nat} (h : j < 2 ^ 31) : mi_al δ a (nI j) = δ.2.2 a j := by
  unfold mi_al
  rw [if_neg (nI_pos h), nI_clamp h]
theorem mi_pt_nI (δ : mi_D) (a lim : Nat) {j : Nat} (v : Int32) (h : j < lim) (hl : lim < 2 ^ 31) : mi_pt δ a lim (nI j) v = mi_setA δ a j v := by
  unfold mi_pt
  rw [nI_clamp (by omega), if_neg (fun q => q.elim (nI_pos (by omega)) (fun q => by omega))]
theorem mi_pl_nI (δ : mi_D) (a lim : Nat) {j : Nat} (v : Int64) (h : j < lim) (hl : lim < 2 ^ 31) : mi_pl δ a lim (nI j) v = mi_setL δ a j v := by
  unfold mi_pl
  rw [nI_clamp (by omega), if_neg (fun q => q.elim (nI_pos (by omega)) (fun q => by omega))]
/-- what a run may have changed: fields, int rows, long rows -/
def Fr (fs : List (Nat × Nat)) (as ls : List Nat) (δ δ' : mi_D) : Prop :=
  (∀ a k, (a, k) ∉ fs → δ'.1 a k = δ.1 a k) ∧ (∀ a, a ∉ as → δ'.2.1 a = δ.2.1 a) ∧ (∀ a, a ∉ ls → δ'.2.2 a = δ.2.2 a)
theorem Fr.rf (fs : List (Nat × Nat)) (as ls : List Nat) (δ : mi_D) : Fr fs as ls δ δ := ⟨fun _ _ _ => rfl, fun _ _ => rfl, fun _ _ => rfl⟩
theorem Fr.tr {fs : List (Nat × Nat)} {as ls : List Nat} {δ δ1 δ2 : mi_D} (h : Fr fs as ls δ δ1) (h' : Fr fs as ls δ1 δ2) : Fr fs as ls δ δ2 :=
  ⟨fun a k q => (h'.1 a k q).trans (h.1 a k q), fun a q => (h'.2.1 a q).trans (h.2.1 a q), fun a q => (h'.2.2 a q).trans (h.2.2 a q)⟩
theorem Fr.wk {fs fs' : List (Nat × Nat)} {as as' ls ls' : List Nat} {δ δ1 : mi_D} (h : Fr fs as ls δ δ1) (h1 : ∀ q ∈ fs, q ∈ fs') (h2 : ∀ q ∈ as, q ∈ as') (h3 : ∀ q ∈ ls, q ∈ ls') : Fr fs' as' ls' δ δ1 :=
  ⟨fun a k q => h.1 a k (fun z => q (h1 _ z)), fun a q => h.2.1 a (fun z => q (h2 _ z)), fun a q => h.2.2 a (fun z => q (h3 _ z))⟩
theorem Fr.setI {fs : List (Nat × Nat)} {as ls : List Nat} {δ : mi_D} {a k : Nat} {v : Int32} (h : (a, k) ∈ fs) : Fr fs as ls δ (mi_setI δ a k v) :=
  ⟨fun b j q => if_neg (fun z => q (by rw [z.1, z.2]; exact h)), fun _ _ => rfl, fun _ _ => rfl⟩
theorem Fr.setA {fs : List (Nat × Nat)} {as ls : List Nat} {δ : mi_D} {a k : Nat} {v : Int32} (h : a ∈ as) : Fr fs as ls δ (mi_setA δ a k v) :=
  ⟨fun _ _ _ => rfl, fun b q => funext fun j => if_neg (fun z => q (by rw [z.1]; exact h)), fun _ _ => rfl⟩
theorem Fr.setL {fs : List (Nat × Nat)} {as ls : List Nat} {δ : mi_D} {a k : Nat} {v : Int64} (h : a ∈ ls) : Fr fs as ls δ (mi_setL δ a k v) :=
  ⟨fun _ _ _ => rfl, fun _ _ => rfl, fun b q => funext fun j => if_neg (fun z => q (by rw [z.1]; exact h))⟩
theorem Fr.clrL {fs : List (Nat × Nat)} {as ls : List Nat} {δ : mi_D} {a : Nat} (h : a ∈ ls) : Fr fs as ls δ (mi_clrL δ a) :=
  ⟨fun _ _ _ => rfl, fun _ _ => rfl, fun b q => funext fun j => if_neg (fun z => q (by rw [z]; exact h))⟩
theorem Fr.pt {fs : List (Nat × Nat)} {as ls : List Nat} {δ : mi_D} {a lim : Nat} {i v : Int32} (h : a ∈ as) : Fr fs as ls δ (mi_pt δ a lim i v) := by
  unfold mi_pt
  split
  · exact Fr.rf _ _ _ _
  · exact Fr.setA h
theorem Fr.pl {fs : List (Nat × Nat)} {as ls : List Nat} {δ : mi_D} {a lim : Nat} {i : Int32} {v : Int64} (h : a ∈ ls) : Fr fs as ls δ (mi_pl δ a lim i v) := by
  unfold mi_pl
  split
  · exact Fr.rf _ _ _ _
  · exact Fr.setL h
theorem get_setI (δ : mi_D) (a k : Nat) (v : Int32) : (mi_setI δ a k v).1 a k = v := if_pos ⟨rfl, rfl⟩
theorem get_setA (δ : mi_D) (a k : Nat) (v : Int32) : (mi_setA δ a k v).2.1 a = fun j => if j = k then v else δ.2.1 a j := by
  funext j
  unfold mi_setA
  by_cases h : j = k <;> simp [h]
theorem get_setL (δ : mi_D) (a k : Nat) (v : Int64) : (mi_setL δ a k v).2.2 a = fun j => if j = k then v else δ.2.2 a j := by
  funext j
  unfold mi_setL
  by_cases h : j = k <;> simp [h]
/-! the model's in() -/
theorem c_in {N d : Nat} (hd : 5 ≤ d) {p0 p1 p2 : Int64} {δ : mi_D} {Q : Int32 → mi_D → Prop} (k1 : ¬ p0 < p1 → ¬ p2 < p0 → Q 1 δ) (k0 : p0 < p1 ∨ p2 < p0 → Q 0 δ) : mi_wI N d 148 0 [.long p0, .null, .long p1, .null, .long p2, .null] [] δ Q :=
  q12_in_0 hd ⟨fun h => k0 (Or.inl (zc_lt.mp h)), fun h => ⟨fun h2 => k0 (Or.inr (zc_gt.mp h2)), fun h2 => k1 (fun z => h (zc_lt.mpr z)) (fun z => h2 (zc_gt.mpr z))⟩⟩
theorem c_inI {N d : Nat} (hd : 5 ≤ d) {a lo hi : Int32} {p1 p2 : Int64} {δ : mi_D} {Q : Int32 → mi_D → Prop} (e1 : p1 = Int32.toInt64 lo) (e2 : p2 = Int32.toInt64 hi) (k1 : ¬ a < lo → ¬ hi < a → Q 1 δ) (k0 : a < lo ∨ hi < a → Q 0 δ) : mi_wI N d 148 0 [.long (Int32.toInt64 a), .null, .long p1, .null, .long p2, .null] [] δ Q := by
  subst e1
  subst e2
  exact c_in hd (fun h1 h2 => k1 (fun z => h1 (nw_lt.mpr z)) (fun z => h2 (nw_lt.mpr z))) (fun h => k0 (h.imp nw_lt.mp nw_lt.mp))
/-- in(p, 0, n - 1) -/
theorem c_inN {N d n : Nat} (hd : 5 ≤ d) {p : Int32} {δ : mi_D} {Q : Int32 → mi_D → Prop} (hn : n < 2 ^ 31) {x : Int32} (ex : x = nI n) (k1 : isN n p → Q 1 δ) (k0 : ¬ isN n p → Q 0 δ) : mi_wI N d 148 0 [.long (Int32.toInt64 p), .null, .long 0, .null, .long (Int32.toInt64 (x - 1)), .null] [] δ Q := by
  subst ex
  have e : (nI n - 1).toInt = (n : Int) - 1 := by
    cases n with
    | zero => rfl
    | succ n => rw [nI_pred, nI_toInt (by omega)]; omega
  refine c_inI (lo := 0) hd rfl rfl (fun h1 h2 => k1 (isN_of hn h1 ?_)) (fun h => k0 (fun q => ?_))
  · rw [Int32.lt_iff_toInt_lt] at h2 ⊢
    rw [e] at h2
    rw [nI_toInt hn]
    omega
  · obtain ⟨q1, q2⟩ := isN_pos hn q
    rcases h with h | h
    · exact q1 h
    · rw [Int32.lt_iff_toInt_lt] at h q2
      rw [e] at h
      rw [nI_toInt hn] at q2
      omega
