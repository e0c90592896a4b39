/-! the program: lines, judging -/
def Lx (δ : mi_D) (ln la lb : Nat) (l : Ln) : Prop := δ.1 ln 2 = nI l.1 ∧ (∀ i, i < l.1 → δ.2.1 la i = l.2.1 i) ∧ (∀ i, i < l.1 → δ.2.2 lb i = l.2.2 i)
theorem Lx.fr {fs : List (Nat × Nat)} {as ls : List Nat} {δ δ' : mi_D} {ln la lb : Nat} {l : Ln} (h : Lx δ ln la lb l) (f : Fr fs as ls δ δ') (h1 : (ln, 2) ∉ fs) (h2 : la ∉ as) (h3 : lb ∉ ls) : Lx δ' ln la lb l := by
  unfold Lx at *
  rw [f.1 _ _ h1, f.2.1 _ h2, f.2.2 _ h3]
  exact h
/-- lines of accounts that there are -/
def LnA (n : Nat) (l : Ln) : Prop := ∀ i, i < l.1 → ∃ a, a < n ∧ l.2.1 i = nI a
theorem cc_within {N d : Nat} (hd : 5 ≤ d) {δ : mi_D} {v m : Int64} {Q : Int32 → mi_D → Prop} (k : Q (bI (wtn v m)) δ) : mi_wI N d 146 0 [.long v, .null, .long m, .null] [] δ Q := by
  refine q11_isWithin_0 hd ⟨fun h => ?_, fun h => ⟨fun h2 => ?_, fun h2 => ?_⟩⟩
  · rwa [bI_0 (fun q => q.1 (zc_lt.mp h))] at k
  · rwa [bI_0 (fun q => q.2 (zc_gt.mp h2))] at k
  · rwa [bI_1 ⟨fun q => h (zc_lt.mpr q), fun q => h2 (zc_gt.mpr q)⟩] at k
theorem cc_isAmount {N d : Nat} (hd : 6 ≤ d) {δ : mi_D} {v : Int64} {Q : Int32 → mi_D → Prop} (k : Q (bI (¬ v = 0 ∧ wtn v 1000000000000000)) δ) : mi_wI N d 145 0 [.long v, .null] [] δ Q := by
  refine q11_isAmount_0 (by omega) ⟨fun h => ?_, fun h => cc_within (by omega) (bI_br (fun h2 => ?_) (fun h2 => ?_))⟩
  · rwa [bI_0 (fun q => q.1 (zc_eq.mp h))] at k
  · rwa [bI_0 (fun q => h2 q.2)] at k
  · rwa [bI_1 ⟨fun q => h (zc_eq.mpr q), h2⟩] at k
section CLN
variable {N d ln la lb lim : Nat} {δ s : mi_D} {l : Ln}
theorem cc_lclear (hd : 5 ≤ d) (hl : mi_Ls ln la lb lim) {Q : mi_D → Prop} (k : Q (mi_setI δ ln 2 0)) : mi_wV N d 62 0 [.ref ln] [] δ Q := q5_clear_0 hd hl (fun δ1 e => e ▸ k)
theorem mi_Ls.ne (hl : mi_Ls ln la lb lim) : lim < 100 ∧ 8 ≤ lim := by rcases hl with ⟨_, _, _, h⟩ | ⟨_, _, _, h⟩ | ⟨_, _, _, h⟩ <;> omega
theorem cc_ladd (hd : 5 ≤ d) (hl : mi_Ls ln la lb lim) (X : Lx δ ln la lb l) (hn : l.1 < lim) {a : Int32} {v : Int64} {Q : mi_D → Prop}
    (k : ∀ δ', Lx δ' ln la lb (addL l a v) → Fr [(ln, 2)] [la] [lb] δ δ' → Q δ') : mi_wV N d 63 0 [.ref ln, .int a, .long v, .null] [] δ Q := by
  have hm := hl.ne
  refine q5_add_0 hd hl (fun δ1 e1 δ2 e2 δ3 e3 => ?_)
  rw [X.1, pt_row _ _ _ _ hn (by omega)] at e1
  subst e1
  rw [rA_f, X.1, pl_row _ _ _ _ hn (by omega)] at e2
  subst e2
  subst e3
  refine k _ ⟨?_, fun i hi => ?_, fun i hi => ?_⟩ ((((Fr.rf _ _ _ _).xA (List.mem_singleton.mpr rfl)).xL (List.mem_singleton.mpr rfl)).xI (List.mem_singleton.mpr rfl))
  · simp only [pI_f, pI_a, pI_l, pA_f, pA_a, pA_l, pL_f, pL_a, pL_l, rA_f, rA_a, rA_l, rL_f, rL_a, rL_l, reduceIte, Nat.reduceEqDiff, and_self, and_true, true_and, and_false, false_and]
    rw [X.1, nI_1]; rfl
  · have hi' : i < l.1 + 1 := hi
    simp only [pI_f, pI_a, pI_l, pA_f, pA_a, pA_l, pL_f, pL_a, pL_l, rA_f, rA_a, rA_l, rL_f, rL_a, rL_l, reduceIte, Nat.reduceEqDiff, and_self, and_true, true_and, and_false, false_and]
    show up1 (δ.2.1 la) l.1 a i = up1 l.2.1 l.1 a i
    by_cases e : i = l.1
    · subst e; rw [up1_s, up1_s]
    · rw [up1_n _ _ e, up1_n _ _ e]; exact X.2.1 i (by omega)
  · have hi' : i < l.1 + 1 := hi
    simp only [pI_f, pI_a, pI_l, pA_f, pA_a, pA_l, pL_f, pL_a, pL_l, rA_f, rA_a, rA_l, rL_f, rL_a, rL_l, reduceIte, Nat.reduceEqDiff, and_self, and_true, true_and, and_false, false_and]
    show up1 (δ.2.2 lb) l.1 v i = up1 l.2.2 l.1 v i
    by_cases e : i = l.1
    · subst e; rw [up1_s, up1_s]
    · rw [up1_n _ _ e, up1_n _ _ e]; exact X.2.2 i (by omega)
theorem cc_ltotal (hd : 5 ≤ d) (hl : mi_Ls ln la lb lim) (X : Lx δ ln la lb l) (hn : l.1 ≤ 60) {Q : Int64 → mi_D → Prop} (k : Q (sumL l) δ) : mi_wL N d 64 0 [.ref ln, .null, .null, .null] [] δ Q := by
  refine q5_total_0 hd hl ?_
  suffices h : ∀ i, i ≤ l.1 → mi_wL N d 64 4 [.ref ln, .long (itN (fun i t => t + l.2.2 i) 0 i), .null, .int (nI i)] [] δ Q by
    have e := h 0 (by omega)
    rwa [nI_0] at e
  intro i hi
  refine up_ind (P := fun i => mi_wL N d 64 4 [.ref ln, .long (itN (fun i t => t + l.2.2 i) 0 i), .null, .int (nI i)] [] δ Q) ?_ ?_ hi
  · exact q5_total_4 hd hl (brF (by rw [X.1]; exact nI_nlt (by omega) (by omega)) k)
  · intro i hi ih
    refine q5_total_4 hd hl (brT (by rw [X.1]; exact nI_lt hi (by omega)) (fun x1 e => ?_))
    rw [mi_al_nI _ _ (by omega), X.2.2 i hi] at e
    subst e
    rw [nI_1]
    exact ih
theorem cc_hasShut (hd : 6 ≤ d) (hl : mi_Ls ln la lb lim) (A : AbA δ s) (X : Lx δ ln la lb l) (hn : l.1 ≤ 60) {Q : Int32 → mi_D → Prop} (k : Q (bI (∃ i, i < l.1 ∧ mi_at s 54 (l.2.1 i) = 1)) δ) : mi_wI N d 25 0 [.ref 3, .ref ln, .null] [] δ Q := by
  refine q1_hasShut_0 (by omega) hl ?_
  suffices h : ∀ i, i ≤ l.1 → (∀ j, j < i → ¬ mi_at s 54 (l.2.1 j) = 1) → mi_wI N d 25 2 [.ref 3, .ref ln, .int (nI i)] [] δ Q by
    have e := h 0 (by omega) (fun j hj => by omega)
    rwa [nI_0] at e
  intro i hi
  refine up_ind (P := fun i => (∀ j, j < i → ¬ mi_at s 54 (l.2.1 j) = 1) → mi_wI N d 25 2 [.ref 3, .ref ln, .int (nI i)] [] δ Q) ?_ ?_ hi
  · intro h
    refine q1_hasShut_2 (by omega) hl (brF (by rw [X.1]; exact nI_nlt (by omega) (by omega)) ?_)
    rwa [bI_0 (fun ⟨j, q1, q2⟩ => h j q1 q2)] at k
  · intro i hi ih h
    refine q1_hasShut_2 (by omega) hl (brT (by rw [X.1]; exact nI_lt hi (by omega)) ?_)
    rw [mi_at_nI _ _ (by omega), X.2.1 i hi]
    refine cc_isShut (by omega) A (bI_br (fun q => ?_) (fun q => ?_))
    · rw [nI_1]
      exact ih (fun j hj => by rcases Nat.lt_or_eq_of_le (Nat.lt_succ_iff.mp hj) with e | e; exact h j e; subst e; exact q)
    · rwa [bI_1 ⟨i, hi, q⟩] at k
end CLN
theorem add_row {δ δ1 : mi_D} {rw rlim j : Nat} (hj : j < rlim) (hr : rlim < 2 ^ 31) {v : Int64} (e : δ1 = mi_pl δ rw rlim (nI j) (mi_al δ rw (nI j) + v)) : δ1 = rowL δ rw (up1 (δ.2.2 rw) j (δ.2.2 rw j + v)) := by
  rwa [pl_row _ _ _ _ hj hr, mi_al_nI _ _ (by omega)] at e
/-- a balance with the first lines of a leaf -/
def bto (s : mi_D) (l : Ln) (a : Int32) : Nat → Int64 := itN (fun i t => if l.2.1 i = a then t + l.2.2 i else t) (mi_al s 55 a)
theorem bto_s (s : mi_D) (l : Ln) (a : Int32) (n : Nat) : bto s l a (n + 1) = if l.2.1 n = a then bto s l a n + l.2.2 n else bto s l a n := rfl
theorem bto_tot (s : mi_D) (l : Ln) (a : Int32) (n : Nat) : bto s l a n = mi_al s 55 a + itN (fun i t => if l.2.1 i = a then t + l.2.2 i else t) 0 n := by
  induction n with
  | zero => show mi_al s 55 a = mi_al s 55 a + 0; rw [Int64.add_zero]
  | succ n ih =>
    rw [bto_s, ih]
    show _ = mi_al s 55 a + (if l.2.1 n = a then _ + l.2.2 n else _)
    by_cases h : l.2.1 n = a
    · rw [if_pos h, if_pos h, Int64.add_assoc]
    · rw [if_neg h, if_neg h]
section CJD
variable {N d ln la lb lim : Nat} {δ s : mi_D} {l : Ln}
theorem cc_goesOver (hd : 6 ≤ d) (hl : mi_Ls ln la lb lim) (A : AbA δ s) (X : Lx δ ln la lb l) (hn : l.1 ≤ 60) {Q : Int32 → mi_D → Prop} (k : Q (bI (over s l)) δ) : mi_wI N d 26 0 [.ref 3, .ref ln, .null, .null, .null, .null, .null] [] δ Q := by
  refine q1_goesOver_0 (by omega) hl ?_
  suffices H : ∀ i, i ≤ l.1 → (∀ j, j < i → wtn (mi_al s 55 (l.2.1 j) + tot l (l.2.1 j)) 10000000000000000) → mi_wI N d 26 2 [.ref 3, .ref ln, .int (nI i), .null, .null, .null, .null] [] δ Q ∧ ∀ x y z, mi_wI N d 26 2 [.ref 3, .ref ln, .int (nI i), .int x, .long y, .null, .int z] [] δ Q by
    have e := (H 0 (by omega) (fun j hj => by omega)).1
    rwa [nI_0] at e
  intro i hi
  refine up_ind (P := fun i => (∀ j, j < i → wtn (mi_al s 55 (l.2.1 j) + tot l (l.2.1 j)) 10000000000000000) → mi_wI N d 26 2 [.ref 3, .ref ln, .int (nI i), .null, .null, .null, .null] [] δ Q ∧ ∀ x y z, mi_wI N d 26 2 [.ref 3, .ref ln, .int (nI i), .int x, .long y, .null, .int z] [] δ Q) ?_ ?_ hi
  · intro h
    rw [bI_0 (fun ⟨j, q1, q2⟩ => q2 (h j q1))] at k
    have hF : ¬ nI l.1 < δ.1 ln 2 := by rw [X.1]; exact nI_nlt (by omega) (by omega)
    exact ⟨q1_goesOver_2 (by omega) hl (brF hF k), fun x y z => q1_goesOver_2a (by omega) hl (brF hF k)⟩
  · intro i hi ih h
    have hT : nI i < δ.1 ln 2 := by rw [X.1]; exact nI_lt hi (by omega)
    have e2 : mi_al δ 11 (l.2.1 i) = mi_al s 55 (l.2.1 i) := al_c A.2.2.2.2.2.2.2.1
    have inner : ∀ j, j ≤ l.1 → mi_wI N d 26 35 [.ref 3, .ref ln, .int (nI i), .int (l.2.1 i), .long (bto s l (l.2.1 i) j), .null, .int (nI j)] [] δ Q := by
      intro j hj
      refine up_ind (P := fun j => mi_wI N d 26 35 [.ref 3, .ref ln, .int (nI i), .int (l.2.1 i), .long (bto s l (l.2.1 i) j), .null, .int (nI j)] [] δ Q) ?_ ?_ hj
      · refine q1_goesOver_35 (by omega) hl (brF (by rw [X.1]; exact nI_nlt (by omega) (by omega)) ?_)
        have e3 : bto s l (l.2.1 i) l.1 = mi_al s 55 (l.2.1 i) + tot l (l.2.1 i) := bto_tot s l (l.2.1 i) l.1
        rw [e3]
        refine cc_within (by omega) (bI_br (fun q => ?_) (fun q => ?_))
        · rwa [bI_1 ⟨i, hi, q⟩] at k
        · rw [nI_1]
          exact (ih (fun j hj => by rcases Nat.lt_or_eq_of_le (Nat.lt_succ_iff.mp hj) with e | e; exact h j e; subst e; exact q)).2 _ _ _
      · intro j hj ih2
        refine q1_goesOver_35 (by omega) hl (brT (by rw [X.1]; exact nI_lt hj (by omega)) ?_)
        rw [mi_at_nI _ _ (by omega), X.2.1 j hj, mi_al_nI _ _ (by omega), X.2.2 j hj, nI_1]
        refine ⟨fun q x4 e4 => ?_, fun q x3 e3 => ?_⟩
        · rw [bto_s, if_pos q, ← e4] at ih2
          exact ih2
        · rw [Int64.add_zero] at e3
          rw [bto_s, if_neg q, ← e3] at ih2
          exact ih2
    have st : ∀ x1 : Int32, x1 = mi_at δ la (nI i) → ∀ x2 : Int64, x2 = mi_al δ 11 x1 → mi_wI N d 26 35 [.ref 3, .ref ln, .int (nI i), .int x1, .long x2, .null, .int 0] [] δ Q := by
      intro x1 e1 x2 e3
      rw [mi_at_nI _ _ (by omega), X.2.1 i hi] at e1
      subst e1
      rw [e2] at e3
      subst e3
      have q := inner 0 (by omega)
      rwa [nI_0] at q
    exact ⟨q1_goesOver_2 (by omega) hl (brT hT st), fun x y z => q1_goesOver_2a (by omega) hl (brT hT st)⟩
end CJD
