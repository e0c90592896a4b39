/-! the sheet: the tree, the model -/
def keyI (s : mi_D) (a : Nat) : Int32 := 10000 * s.2.1 50 a + s.2.1 49 a
theorem key_ok {s : mi_D} (W : WfA s) {a : Nat} (ha : a < nN s 2) : ∃ j c, j < 5 ∧ 1 ≤ c ∧ c ≤ 9999 ∧ s.2.1 50 a = nI j ∧ s.2.1 49 a = nI c ∧ keyI s a = nI (10000 * j + c) := by
  have w := W.2.1 a ha
  obtain ⟨j, hj, ej⟩ := isN_of (n := 5) (by omega) w.2.1.1 w.2.1.2
  have h0 : ¬ s.2.1 49 a < 0 := fun q => w.1.1 (by
    rw [Int32.lt_iff_toInt_lt] at *
    have e1 : (1 : Int32).toInt = 1 := by decide
    have e0 : (0 : Int32).toInt = 0 := by decide
    omega)
  obtain ⟨c, hc, ec⟩ := nI_of h0
  rw [ec] at w
  refine ⟨j, c, hj, ?_, ?_, ej, ec, ?_⟩
  · rcases Nat.eq_zero_or_pos c with z | z
    · subst z; exact absurd (by decide) w.1.1
    · exact z
  · rcases Nat.lt_or_ge 9999 c with z | z
    · exact absurd (nI_lt (a := 9999) z (by omega)) w.1.2
    · exact z
  · unfold keyI
    rw [ej, ec, show (10000 : Int32) = nI 10000 by decide, pk_mul, nI_add]
theorem key_lt {s : mi_D} (W : WfA s) {a b : Nat} (ha : a < nN s 2) (hb : b < nN s 2) : keyI s a < keyI s b ↔ s.2.1 50 a < s.2.1 50 b ∨ (s.2.1 50 a = s.2.1 50 b ∧ s.2.1 49 a < s.2.1 49 b) := by
  obtain ⟨j, c, h1, h2, h3, e1, e2, e3⟩ := key_ok W ha
  obtain ⟨j', c', h1', h2', h3', e1', e2', e3'⟩ := key_ok W hb
  rw [e1, e2, e3, e1', e2', e3', nI_ltI (by omega) (by omega), nI_ltI (by omega) (by omega), nI_ltI (by omega) (by omega), nI_eq (by omega) (by omega)]
  omega
theorem key_inj {s : mi_D} (W : WfA s) (a b : Nat) (ha : a < nN s 2) (hb : b < nN s 2) (h : keyI s a = keyI s b) : a = b := by
  obtain ⟨j, c, h1, h2, h3, e1, e2, e3⟩ := key_ok W ha
  obtain ⟨j', c', h1', h2', h3', e1', e2', e3'⟩ := key_ok W hb
  rw [e3, e3'] at h
  have := (nI_eq (by omega) (by omega)).mp h
  exact W.2.2.1 a b ha hb (by rw [e2, e2', show c = c' by omega])
theorem key_pos {s : mi_D} (W : WfA s) {a : Nat} (ha : a < nN s 2) : -1 < keyI s a := by
  obtain ⟨j, c, h1, h2, h3, e1, e2, e3⟩ := key_ok W ha
  rw [e3, Int32.lt_iff_toInt_lt, nI_toInt (by omega)]
  have : (-1 : Int32).toInt = -1 := by decide
  omega
def chK (s : mi_D) (p : Int32) : List Nat := (ordN (keyI s) (nN s 2)).filter (fun a => decide (s.2.1 51 a = p))
theorem chK_mem {s : mi_D} {p : Int32} {a : Nat} : a ∈ chK s p ↔ a < nN s 2 ∧ s.2.1 51 a = p := by
  unfold chK
  rw [List.mem_filter, ordN_mem]
  simp only [decide_eq_true_eq]
theorem chK_srt {s : mi_D} (W : WfA s) (p : Int32) : (chK s p).Pairwise (fun a b => keyI s a < keyI s b) := (ordN_lt (key_inj W)).filter _
theorem srt_eq {f : Nat → Int32} : ∀ (L M : List Nat), L.Pairwise (fun a b => f a < f b) → M.Pairwise (fun a b => f a < f b) → (∀ x, x ∈ L ↔ x ∈ M) → L = M := by
  intro L
  induction L with
  | nil =>
    intro M _ _ h
    cases M with
    | nil => rfl
    | cons b M => exact absurd ((h b).mpr List.mem_cons_self) List.not_mem_nil
  | cons a L ih =>
    intro M hL hM h
    cases M with
    | nil => exact absurd ((h a).mp List.mem_cons_self) List.not_mem_nil
    | cons b M =>
      obtain ⟨a1, a2⟩ := List.pairwise_cons.mp hL
      obtain ⟨b1, b2⟩ := List.pairwise_cons.mp hM
      have e : a = b := by
        rcases List.mem_cons.mp ((h a).mp List.mem_cons_self) with z | z
        · exact z
        · rcases List.mem_cons.mp ((h b).mpr List.mem_cons_self) with y | y
          · exact y.symm
          · have q1 := b1 a z
            have q2 := a1 b y
            rw [Int32.lt_iff_toInt_lt] at *
            omega
      subst e
      have nA : ∀ x, x ∈ L → ¬ x = a := fun x hx e => by have := a1 x hx; rw [e, Int32.lt_iff_toInt_lt] at this; omega
      have nB : ∀ x, x ∈ M → ¬ x = a := fun x hx e => by have := b1 x hx; rw [e, Int32.lt_iff_toInt_lt] at this; omega
      rw [ih M a2 b2 (fun x => ⟨fun hx => (List.mem_cons.mp ((h x).mp (List.mem_cons_of_mem _ hx))).resolve_left (nA x hx), fun hx => (List.mem_cons.mp ((h x).mpr (List.mem_cons_of_mem _ hx))).resolve_left (nB x hx)⟩)]
theorem chC_key {s : mi_D} (W : WfA s) (p k : Int32) : (chC s p k).Pairwise (fun a b => keyI s a < keyI s b) :=
  (chC_nodup W p k).imp_of_mem (fun {a b} ha hb h => by
    obtain ⟨a1, _, a3⟩ := chC_mem.mp ha
    obtain ⟨b1, _, b3⟩ := chC_mem.mp hb
    exact (key_lt W a1 b1).mpr (Or.inr ⟨a3.trans b3.symm, h⟩))
theorem chK_one {s : mi_D} (W : WfA s) {a : Nat} (ha : a < nN s 2) : chK s (nI a) = chC s (nI a) (s.2.1 50 a) := by
  have h60 := W.1.2
  refine srt_eq _ _ (chK_srt W _) (chC_key W _ _) (fun x => ?_)
  rw [chK_mem, chC_mem]
  refine ⟨fun h => ⟨h.1, h.2, ?_⟩, fun h => ⟨h.1, h.2.1⟩⟩
  rcases W.2.2.2 x h.1 with ⟨z, _⟩ | ⟨b, _, hb, eb, _, ek, _⟩
  · rw [z] at h; exact absurd h.2.symm (nI_ne1 (by omega))
  · rw [eb] at h
    have := (nI_eq (by omega) (by omega)).mp h.2
    subst this
    exact ek.symm
theorem chK_top {s : mi_D} (W : WfA s) : chK s (-1) = [0, 1, 2, 3, 4].flatMap (fun j => chC s (-1) (nI j)) := by
  refine srt_eq _ _ (chK_srt W _) ?_ (fun x => ?_)
  · rw [List.pairwise_flatMap]
    refine ⟨fun j _ => chC_key W _ _, ?_⟩
    have : [0, 1, 2, 3, 4].Pairwise (fun i j => i < j ∧ j < 5) := by decide
    refine this.imp (fun {i j} h x hx y hy => ?_)
    obtain ⟨x1, _, x3⟩ := chC_mem.mp hx
    obtain ⟨y1, _, y3⟩ := chC_mem.mp hy
    exact (key_lt W x1 y1).mpr (Or.inl (by rw [x3, y3]; exact nI_lt h.1 (by omega)))
  · rw [chK_mem, List.mem_flatMap]
    constructor
    · intro h
      obtain ⟨j, c, h1, _, _, e1, _⟩ := key_ok W h.1
      exact ⟨j, by simp; omega, chC_mem.mpr ⟨h.1, h.2, e1⟩⟩
    · intro ⟨j, _, h⟩
      have := chC_mem.mp h
      exact ⟨this.1, this.2.1⟩
def tU (s : mi_D) : Nat → Int32 → List Nat
  | 0, _ => []
  | f + 1, p => (chK s p).flatMap (fun a => a :: tU s f (nI a))
theorem tU_s (s : mi_D) (f : Nat) (p : Int32) : tU s (f + 1) p = (chK s p).flatMap (fun a => a :: tU s f (nI a)) := rfl
theorem fm_congr {g h : Nat → List Nat} : ∀ (L : List Nat), (∀ a, a ∈ L → g a = h a) → L.flatMap g = L.flatMap h := by
  intro L
  induction L with
  | nil => intro _; rfl
  | cons a L ih =>
    intro H
    rw [List.flatMap_cons, List.flatMap_cons, H a List.mem_cons_self, ih (fun b hb => H b (List.mem_cons_of_mem _ hb))]
theorem tU_dU {s : mi_D} (W : WfA s) : ∀ f a, a < nN s 2 → tU s f (nI a) = dU s (s.2.1 50 a) f (nI a) := by
  intro f
  induction f with
  | zero => intro a _; rfl
  | succ f ih =>
    intro a ha
    rw [tU_s, dU_s, chK_one W ha]
    refine fm_congr _ (fun b hb => ?_)
    obtain ⟨b1, _, b3⟩ := chC_mem.mp hb
    rw [ih b b1, b3]
theorem tU_top {s : mi_D} (W : WfA s) (f : Nat) : tU s (f + 1) (-1) = [0, 1, 2, 3, 4].flatMap (fun j => dU s (nI j) (f + 1) (-1)) := by
  rw [tU_s, chK_top W, List.flatMap_assoc]
  refine fm_congr _ (fun j _ => ?_)
  rw [dU_s]
  refine fm_congr _ (fun b hb => ?_)
  obtain ⟨b1, _, b3⟩ := chC_mem.mp hb
  rw [tU_dU W f b b1, b3]
def prevK (s : mi_D) (C : List Nat) : Nat → Int32
  | 0 => -1
  | j + 1 => match C[j]? with
    | some b => keyI s b
    | none => -1
theorem srt_next {s : mi_D} {C : List Nat} (hC : C.Pairwise (fun a b => keyI s a < keyI s b)) (hp : ∀ a, a ∈ C → -1 < keyI s a) {i : Nat} (hi : i ≤ C.length) : (∀ j, (h : j < C.length) → i ≤ j → prevK s C i < keyI s C[j]) ∧ (∀ j, (h : j < C.length) → j < i → ¬ prevK s C i < keyI s C[j]) := by
  have hget := List.pairwise_iff_getElem.mp hC
  cases i with
  | zero => exact ⟨fun j h _ => hp _ (List.getElem_mem h), fun j h q => absurd q (Nat.not_lt_zero _)⟩
  | succ i =>
    have e : prevK s C (i + 1) = keyI s C[i] := by
      show (match C[i]? with | some b => keyI s b | none => -1) = _
      rw [List.getElem?_eq_getElem (by omega)]
    rw [e]
    refine ⟨fun j h hij => hget i j (by omega) h (by omega), fun j h hij => ?_⟩
    rcases Nat.lt_or_eq_of_le (Nat.lt_succ_iff.mp hij) with q | q
    · have := hget j i h (by omega) q
      rw [Int32.lt_iff_toInt_lt] at *
      omega
    · subst q
      rw [Int32.lt_iff_toInt_lt]
      omega
