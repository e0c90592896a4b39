/-! the program: lines, judging -/
def Lx (δ : mi_D) (ln la lb : Nat) (l : Ln) : Prop := δ.1 ln 2 = nI l.1 ∧ (∀ i, i < l.1 → δ.2.1 la i = l.2.1 i) ∧ (∀ i, i < l.1 → δ.2.2 lb i = l.2.2 i)
theorem Lx.fr {fs : List (Nat × Nat)} {as ls : List Nat} {δ δ' : mi_D} {ln la lb : Nat} {l : Ln} (h : Lx δ ln la lb l) (f : Fr fs as ls δ δ') (h1 : (ln, 2) ∉ fs) (h2 : la ∉ as) (h3 : lb ∉ ls) : Lx δ' ln la lb l := by
  unfold Lx at *
  rw [f.1 _ _ h1, f.2.1 _ h2, f.2.2 _ h3]
  exact h
/-- lines of accounts that there are -/
def LnA (n : Nat) (l : Ln) : Prop := ∀ i, i < l.1 → ∃ a, a < n ∧ l.2.1 i = nI a
theorem cc_within {N d : Nat} (hd : 5 ≤ d) {δ : mi_D} {v m : Int64} {Q : Int32 → mi_D → Prop} (k : Q (bI (wtn v m)) δ) : mi_wI N d 148 0 [.long v, .null, .long m, .null] [] δ Q := by
  refine q11_isWithin_0 hd ⟨fun h => ?_, fun h => ⟨fun h2 => ?_, fun h2 => ?_⟩⟩
  · rwa [bI_0 (fun q => q.1 (zc_lt.mp h))] at k
  · rwa [bI_0 (fun q => q.2 (zc_gt.mp h2))] at k
  · rwa [bI_1 ⟨fun q => h (zc_lt.mpr q), fun q => h2 (zc_gt.mpr q)⟩] at k
theorem cc_isAmount {N d : Nat} (hd : 6 ≤ d) {δ : mi_D} {v : Int64} {Q : Int32 → mi_D → Prop} (k : Q (bI (¬ v = 0 ∧ wtn v 1000000000000000)) δ) : mi_wI N d 147 0 [.long v, .null] [] δ Q := by
  refine q11_isAmount_0 (by omega) ⟨fun h => ?_, fun h => cc_within (by omega) (bI_br (fun h2 => ?_) (fun h2 => ?_))⟩
  · rwa [bI_0 (fun q => q.1 (zc_eq.mp h))] at k
  · rwa [bI_0 (fun q => h2 q.2)] at k
  · rwa [bI_1 ⟨fun q => h (zc_eq.mpr q), h2⟩] at k
section CLN
variable {N d ln la lb lim : Nat} {δ s : mi_D} {l : Ln}
theorem cc_lclear (hd : 5 ≤ d) (hl : mi_Ls ln la lb lim) {Q : mi_D → Prop} (k : Q (mi_setI δ ln 2 0)) : mi_wV N d 62 0 [.ref ln] [] δ Q := q5_clear_0 hd hl (fun δ1 e => e ▸ k)
theorem mi_Ls.ne (hl : mi_Ls ln la lb lim) : lim < 100 ∧ 8 ≤ lim := by rcases hl with ⟨_, _, _, h⟩ | ⟨_, _, _, h⟩ | ⟨_, _, _, h⟩ <;> omega
theorem cc_ladd (hd : 5 ≤ d) (hl : mi_Ls ln la lb lim) (X : Lx δ ln la lb l) (hn : l.1 < lim) {a : Int32} {v : Int64} {Q : mi_D → Prop}
    (k : ∀ δ', Lx δ' ln la lb (addL l a v) → Fr [(ln, 2)] [la] [lb] δ δ' → Q δ') : mi_wV N d 63 0 [.ref ln, .int a, .long v, .null] [] δ Q := by
  have hm := hl.ne
  refine q5_add_0 hd hl (fun δ1 e1 δ2 e2 δ3 e3 => ?_)
  rw [X.1, pt_row _ _ _ _ hn (by omega)] at e1
  subst e1
  rw [rA_f, X.1, pl_row _ _ _ _ hn (by omega)] at e2
  subst e2
  subst e3
  refine k _ ⟨?_, fun i hi => ?_, fun i hi => ?_⟩ ((((Fr.rf _ _ _ _).xA (List.mem_singleton.mpr rfl)).xL (List.mem_singleton.mpr rfl)).xI (List.mem_singleton.mpr rfl))
  · simp only [pI_f, pI_a, pI_l, pA_f, pA_a, pA_l, pL_f, pL_a, pL_l, rA_f, rA_a, rA_l, rL_f, rL_a, rL_l, reduceIte, Nat.reduceEqDiff, and_self, and_true, true_and, and_false, false_and]
    rw [X.1, nI_1]; rfl
  · have hi' : i < l.1 + 1 := hi
    simp only [pI_f, pI_a, pI_l, pA_f, pA_a, pA_l, pL_f, pL_a, pL_l, rA_f, rA_a, rA_l, rL_f, rL_a, rL_l, reduceIte, Nat.reduceEqDiff, and_self, and_true, true_and, and_false, false_and]
    show up1 (δ.2.1 la) l.1 a i = up1 l.2.1 l.1 a i
    by_cases e : i = l.1
    · subst e; rw [up1_s, up1_s]
    · rw [up1_n _ _ e, up1_n _ _ e]; exact X.2.1 i (by omega)
  · have hi' : i < l.1 + 1 := hi
    simp only [pI_f, pI_a, pI_l, pA_f, pA_a, pA_l, pL_f, pL_a, pL_l, rA_f, rA_a, rA_l, rL_f, rL_a, rL_l, reduceIte, Nat.reduceEqDiff, and_self, and_true, true_and, and_false, false_and]
    show up1 (δ.2.2 lb) l.1 v i = up1 l.2.2 l.1 v i
    by_cases e : i = l.1
    · subst e; rw [up1_s, up1_s]
    · rw [up1_n _ _ e, up1_n _ _ e]; exact X.2.2 i (by omega)
theorem cc_ltotal (hd : 5 ≤ d) (hl : mi_Ls ln la lb lim) (X : Lx δ ln la lb l) (hn : l.1 ≤ 60) {Q : Int64 → mi_D → Prop} (k : Q (sumL l) δ) : mi_wL N d 64 0 [.ref ln, .null, .null, .null] [] δ Q := by
  refine q5_total_0 hd hl ?_
  suffices h : ∀ i, i ≤ l.1 → mi_wL N d 64 4 [.ref ln, .long (itN (fun i t => t + l.2.2 i) 0 i), .null, .int (nI i)] [] δ Q by
    have e := h 0 (by omega)
    rwa [nI_0] at e
  intro i hi
  refine up_ind (P := fun i => mi_wL N d 64 4 [.ref ln, .long (itN (fun i t => t + l.2.2 i) 0 i), .null, .int (nI i)] [] δ Q) ?_ ?_ hi
  · exact q5_total_4 hd hl (brF (by rw [X.1]; exact nI_nlt (by omega) (by omega)) k)
  · intro i hi ih
    refine q5_total_4 hd hl (brT (by rw [X.1]; exact nI_lt hi (by omega)) (fun x1 e => ?_))
    rw [mi_al_nI _ _ (by omega), X.2.2 i hi] at e
    subst e
    rw [nI_1]
    exact ih
theorem cc_hasShut (hd : 6 ≤ d) (hl : mi_Ls ln la lb lim) (A : AbA δ s) (X : Lx δ ln la lb l) (hn : l.1 ≤ 60) {Q : Int32 → mi_D → Prop} (k : Q (bI (∃ i, i < l.1 ∧ mi_at s 54 (l.2.1 i) = 1)) δ) : mi_wI N d 25 0 [.ref 3, .ref ln, .null] [] δ Q := by
  refine q1_hasShut_0 (by omega) hl ?_
  suffices h : ∀ i, i ≤ l.1 → (∀ j, j < i → ¬ mi_at s 54 (l.2.1 j) = 1) → mi_wI N d 25 2 [.ref 3, .ref ln, .int (nI i)] [] δ Q by
    have e := h 0 (by omega) (fun j hj => by omega)
    rwa [nI_0] at e
  intro i hi
  refine up_ind (P := fun i => (∀ j, j < i → ¬ mi_at s 54 (l.2.1 j) = 1) → mi_wI N d 25 2 [.ref 3, .ref ln, .int (nI i)] [] δ Q) ?_ ?_ hi
  · intro h
    refine q1_hasShut_2 (by omega) hl (brF (by rw [X.1]; exact nI_nlt (by omega) (by omega)) ?_)
    rwa [bI_0 (fun ⟨j, q1, q2⟩ => h j q1 q2)] at k
  · intro i hi ih h
    refine q1_hasShut_2 (by omega) hl (brT (by rw [X.1]; exact nI_lt hi (by omega)) ?_)
    rw [mi_at_nI _ _ (by omega), X.2.1 i hi]
    refine cc_isShut (by omega) A (bI_br (fun q => ?_) (fun q => ?_))
    · rw [nI_1]
      exact ih (fun j hj => by rcases Nat.lt_or_eq_of_le (Nat.lt_succ_iff.mp hj) with e | e; exact h j e; subst e; exact q)
    · rwa [bI_1 ⟨i, hi, q⟩] at k
end CLN
/-- a row of sums for each account -/
def tly (l : Ln) : Nat → (Nat → Int64) := itN (fun i b => up1 b (l.2.1 i).toNatClampNeg (b (l.2.1 i).toNatClampNeg + l.2.2 i)) (fun _ => 0)
theorem tly_at {l : Ln} {m a : Nat} (h : LnA m l) (hm : m < 2 ^ 31) (ha : a < m) (i : Nat) (hi : i ≤ l.1) : tly l i a = itN (fun i t => if l.2.1 i = nI a then t + l.2.2 i else t) 0 i := by
  induction i with
  | zero => rfl
  | succ i ih =>
    obtain ⟨c, hc, ec⟩ := h i (by omega)
    show up1 (tly l i) (l.2.1 i).toNatClampNeg (tly l i (l.2.1 i).toNatClampNeg + l.2.2 i) a = if l.2.1 i = nI a then _ + l.2.2 i else _
    rw [ec, nI_clamp (by omega)]
    by_cases e : c = a
    · subst e; rw [up1_s, if_pos rfl, ih (by omega)]
    · rw [up1_n _ _ (fun q => e q.symm), if_neg (fun q => e ((nI_eq (by omega) (by omega)).mp q)), ih (by omega)]
theorem tly_tot {l : Ln} {m a : Nat} (h : LnA m l) (hm : m < 2 ^ 31) (ha : a < m) : tly l l.1 a = tot l (nI a) := tly_at h hm ha l.1 (by omega)
theorem cc_addTo {N d rw rlim : Nat} (hd : 5 ≤ d) (hk : mi_k (mi_GG N) rw = 6) (hl : mi_len (mi_GG N) rw = rlim + 1) {j : Nat} (hj : j < rlim) (hr : rlim < 2 ^ 31) {v : Int64} {δ : mi_D} {Q : mi_D → Prop} (k : Q (rowL δ rw (up1 (δ.2.2 rw) j (δ.2.2 rw j + v)))) : mi_wV N d 68 0 [.ref rw, .int (nI j), .long v, .null] [] δ Q := by
  refine q6_addTo_0 hd hk hl (fun δ1 e => ?_)
  rw [pl_row _ _ _ _ hj hr, mi_al_nI _ _ (by omega)] at e
  subst e
  exact k
section CJD
variable {N d ln la lb lim : Nat} {δ s : mi_D} {l : Ln}
theorem cc_goesOver (hd : 6 ≤ d) (hl : mi_Ls ln la lb lim) (A : AbA δ s) (X : Lx δ ln la lb l) (hn : l.1 ≤ 60) (hA : LnA 60 l) {Q : Int32 → mi_D → Prop} (k : ∀ δ', Fr [] [] [27] δ δ' → Q (bI (over s l)) δ') : mi_wI N d 26 0 [.ref 3, .ref ln, .null, .null] [] δ Q := by
  have hne : la ≠ 27 ∧ lb ≠ 27 := by rcases hl with ⟨_, h1, h2, _⟩ | ⟨_, h1, h2, _⟩ | ⟨_, h1, h2, _⟩ <;> omega
  refine q1_goesOver_0 (by omega) hl (fun δ1 e => ?_)
  have e0 : δ1 = rowL δ 27 (tly l 0) := by
    subst e
    unfold mi_clrL rowL
    refine Prod.ext rfl (Prod.ext rfl (funext fun x => funext fun j => ?_))
    dsimp only
    by_cases h : x = 27
    · rw [if_pos h, if_pos h]; rfl
    · rw [if_neg h, if_neg h]
  clear e
  subst e0
  have second : ∀ i, i ≤ l.1 → (∀ j, j < i → wtn (mi_al s 55 (l.2.1 j) + tot l (l.2.1 j)) 10000000000000000) → mi_wI N d 26 48 [.ref 3, .ref ln, .int (nI i), .null] [] (rowL δ 27 (tly l l.1)) Q ∧ ∀ x, mi_wI N d 26 48 [.ref 3, .ref ln, .int (nI i), .int x] [] (rowL δ 27 (tly l l.1)) Q := by
    intro i hi
    have kk := k (rowL δ 27 (tly l l.1)) (Fr.rwL (by decide))
    refine up_ind (P := fun i => (∀ j, j < i → wtn (mi_al s 55 (l.2.1 j) + tot l (l.2.1 j)) 10000000000000000) → mi_wI N d 26 48 [.ref 3, .ref ln, .int (nI i), .null] [] (rowL δ 27 (tly l l.1)) Q ∧ ∀ x, mi_wI N d 26 48 [.ref 3, .ref ln, .int (nI i), .int x] [] (rowL δ 27 (tly l l.1)) Q) ?_ ?_ hi
    · intro h
      rw [bI_0 (fun ⟨j, q1, q2⟩ => q2 (h j q1))] at kk
      have hF : ¬ nI l.1 < (rowL δ 27 (tly l l.1)).1 ln 2 := by rw [rL_f, X.1]; exact nI_nlt (by omega) (by omega)
      exact ⟨q1_goesOver_48 (by omega) hl (brF hF kk), fun x => q1_goesOver_48a (by omega) hl (brF hF kk)⟩
    · intro i hi ih h
      have hT : nI i < (rowL δ 27 (tly l l.1)).1 ln 2 := by rw [rL_f, X.1]; exact nI_lt hi (by omega)
      have st : ∀ x1, x1 = mi_at (rowL δ 27 (tly l l.1)) la (nI i) → mi_wI N (d - 1) 148 0 [.long (mi_al (rowL δ 27 (tly l l.1)) 11 x1 + mi_al (rowL δ 27 (tly l l.1)) 27 x1), .null, .long 10000000000000000, .null] [] (rowL δ 27 (tly l l.1)) (fun r3 δ2 => ((r3 = 0 → Q 1 δ2) ∧ (¬ r3 = 0 → mi_wI N d 26 48 [.ref 3, .ref ln, .int (nI i + 1), .int x1] [] δ2 Q))) := by
        intro x1 e1
        obtain ⟨a, ha, ea⟩ := hA i hi
        rw [mi_at_nI _ _ (by omega), rL_a, X.2.1 i hi] at e1
        subst e1
        have e2 : mi_al (rowL δ 27 (tly l l.1)) 11 (l.2.1 i) = mi_al s 55 (l.2.1 i) := al_c (by rw [rL_l, if_neg (by decide)]; exact A.2.2.2.2.2.2.2.1)
        have e3 : mi_al (rowL δ 27 (tly l l.1)) 27 (l.2.1 i) = tot l (l.2.1 i) := by
          rw [ea, mi_al_nI _ _ (by omega), rL_l, if_pos rfl]
          exact tly_tot hA (by omega) ha
        rw [e2, e3]
        refine cc_within (by omega) (bI_br (fun q => ?_) (fun q => ?_))
        · rwa [bI_1 ⟨i, hi, q⟩] at kk
        · rw [nI_1]
          exact (ih (fun j hj => by rcases Nat.lt_or_eq_of_le (Nat.lt_succ_iff.mp hj) with e | e; exact h j e; subst e; exact q)).2 _
      exact ⟨q1_goesOver_48 (by omega) hl (brT hT st), fun x => q1_goesOver_48a (by omega) hl (brT hT st)⟩
  suffices first : ∀ i, i ≤ l.1 → mi_wI N d 26 9 [.ref 3, .ref ln, .int (nI i), .null] [] (rowL δ 27 (tly l i)) Q by
    have e := first 0 (by omega)
    rwa [nI_0] at e
  intro i hi
  refine up_ind (P := fun i => mi_wI N d 26 9 [.ref 3, .ref ln, .int (nI i), .null] [] (rowL δ 27 (tly l i)) Q) ?_ ?_ hi
  · refine q1_goesOver_9 (by omega) hl (brF (by rw [rL_f, X.1]; exact nI_nlt (by omega) (by omega)) ?_)
    have e := (second 0 (by omega) (fun j hj => by omega)).1
    rwa [nI_0] at e
  · intro i hi ih
    obtain ⟨a, ha, ea⟩ := hA i hi
    refine q1_goesOver_9 (by omega) hl (brT (by rw [rL_f, X.1]; exact nI_lt hi (by omega)) ?_)
    rw [mi_at_nI _ _ (by omega), rL_a, X.2.1 i hi, mi_al_nI _ _ (by omega), rL_l, if_neg hne.2, X.2.2 i hi, ea]
    refine cc_addTo (by omega) (gk_27 N) (gl_27 N) ha (by omega) ?_
    rw [rowL_rowL, rL_l, if_pos rfl, nI_1]
    have e : tly l (i + 1) = up1 (tly l i) a (tly l i a + l.2.2 i) := by
      show up1 (tly l i) (l.2.1 i).toNatClampNeg (tly l i (l.2.1 i).toNatClampNeg + l.2.2 i) = _
      rw [ea, nI_clamp (by omega)]
    rw [← e]
    exact ih
end CJD
