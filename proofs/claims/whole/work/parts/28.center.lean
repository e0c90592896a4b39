/-! an entry is written down -/
def lnc (l : Ln) (a : Nat) : Nat → Nat := itN (fun i c => if l.2.1 i = nI a then c + 1 else c) 0
theorem lnc_le (l : Ln) (a i : Nat) : lnc l a i ≤ i := by
  induction i with
  | zero => exact Nat.le_refl _
  | succ i ih =>
    show (if l.2.1 i = nI a then lnc l a i + 1 else lnc l a i) ≤ i + 1
    split <;> omega
theorem cntL_wr {s s' : mi_D} {l : Ln} {f a : Nat} (h : s'.2.1 64 = wrN (s.2.1 64) f l.1 l.2.1) : ∀ i, i ≤ l.1 → cntL s' a (f + i) = cntL s a f + lnc l a i := by
  have h0 : cntL s' a f = cntL s a f := by
    unfold cntL
    refine itN_congr (fun i hi x => ?_)
    have e : s'.2.1 64 i = s.2.1 64 i := by
      rw [h]
      unfold wrN
      exact if_neg (by omega)
    rw [e]
  intro i hi
  induction i with
  | zero => exact h0
  | succ i ih =>
    show (if s'.2.1 64 (f + i) = nI a then cntL s' a (f + i) + 1 else cntL s' a (f + i)) = cntL s a f + (if l.2.1 i = nI a then lnc l a i + 1 else lnc l a i)
    have e : s'.2.1 64 (f + i) = l.2.1 i := by
      rw [h]
      unfold wrN
      rw [if_pos (by omega), show f + i - f = i from by omega]
    rw [e, ih (by omega)]
    split <;> omega
theorem fromN_le {s : mi_D} (W : WfE s) : ∀ e, e ≤ nN s 15 → fromN s e ≤ 60 * e := by
  intro e
  induction e with
  | zero => intro _; unfold fromN; rw [W.2.1]; decide
  | succ e ih => intro h; have := ih (by omega); have := (W.2.2.2.1 e (by omega)).2; omega
section CEN
variable {N d ln la lb lim : Nat} {δ s : mi_D} {l : Ln}
theorem cc_enterLine (hd : 6 ≤ d) {j : Nat} (hj : j < 60) {v : Int64} {Q : mi_D → Prop} (k : Q (rowA (rowL δ 11 (up1 (δ.2.2 11) j (δ.2.2 11 j + v))) 9 (up1 (δ.2.1 9) j (δ.2.1 9 j + 1)))) : mi_wV N d 10 0 [.ref 4, .int (nI j), .long v, .null] [] δ Q := by
  refine q0_enterLine_0 (by omega) (fun δ1 e1 δ2 e => ?_)
  have e1 := add_row hj (by omega) e1
  subst e1
  rw [pt_row _ _ _ _ hj (by omega), mi_at_nI _ _ (by omega)] at e
  subst e
  exact k
/-- the entry's own rows -/
theorem cc_eadd (hd : 5 ≤ d) (hl : mi_Ls ln la lb lim) {n f : Nat} (hn : n < 400) (E1 : δ.1 17 9 = nI n) (hf : f ≤ 60 * n) (E2 : δ.1 17 10 = nI f) (X : Lx δ ln la lb l) (hb : l.1 ≤ 60) {dy t so sr : Int32} {Q : Int32 → mi_D → Prop}
    (k : ∀ δ', δ' = mi_setI (mi_setI (rowL (rowA (rowA (rowA (rowA (rowA (rowA (rowA (rowA δ 18 (up1 (δ.2.1 18) n dy)) 19 (up1 (δ.2.1 19) n t)) 20 (up1 (δ.2.1 20) n so)) 22 (up1 (δ.2.1 22) n (-1))) 23 (up1 (δ.2.1 23) n sr)) 24 (up1 (δ.2.1 24) n (nI f))) 21 (up1 (δ.2.1 21) n (nI l.1)))
      25 (wrN (δ.2.1 25) f l.1 l.2.1)) 26 (wrN (δ.2.2 26) f l.1 l.2.2)) 17 10 (nI (f + l.1))) 17 9 (nI (n + 1)) → Q (nI n) δ') : mi_wI N d 40 0 [.ref 17, .ref ln, .int dy, .int t, .int so, .int sr, .null, .null] [] δ Q := by
  have hne : (ln ≠ 17) ∧ la ≠ 18 ∧ la ≠ 19 ∧ la ≠ 20 ∧ la ≠ 21 ∧ la ≠ 22 ∧ la ≠ 23 ∧ la ≠ 24 ∧ la ≠ 25 ∧ lb ≠ 26 := by rcases hl with ⟨_, _, _, _⟩ | ⟨_, _, _, _⟩ | ⟨_, _, _, _⟩ <;> omega
  obtain ⟨hln, h18, h19, h20, h21, h22, h23, h24, h25, h26⟩ := hne
  refine q2_add_0 hd hl (fun x1 e1 δ2 e2 δ3 e3 δ4 e4 δ5 e5 δ6 e6 δ7 e7 δ8 e8 => ?_)
  rw [E1] at e1
  subst e1
  rw [pt_row _ _ _ _ hn (by omega)] at e2 e3 e4 e5 e6 e7 e8
  have f7 : δ7.1 ln 2 = nI l.1 := by subst e7 e6 e5 e4 e3 e2; exact X.1
  have f6 : δ6.1 17 10 = nI f := by subst e6 e5 e4 e3 e2; exact E2
  rw [f7] at e8
  rw [f6] at e7
  have e8' : δ8 = rowA (rowA (rowA (rowA (rowA (rowA (rowA δ 18 (up1 (δ.2.1 18) n dy)) 19 (up1 (δ.2.1 19) n t)) 20 (up1 (δ.2.1 20) n so)) 22 (up1 (δ.2.1 22) n (-1))) 23 (up1 (δ.2.1 23) n sr)) 24 (up1 (δ.2.1 24) n (nI f))) 21 (up1 (δ.2.1 21) n (nI l.1)) := by
    subst e8 e7 e6 e5 e4 e3 e2
    simp only [pI_f, pI_a, pI_l, pA_f, pA_a, pA_l, pL_f, pL_a, pL_l, rA_f, rA_a, rA_l, rL_f, rL_a, rL_l, reduceIte, Nat.reduceEqDiff, and_self, and_true, true_and, and_false, false_and]
  clear e8
  have r25 : δ8.2.1 25 = δ.2.1 25 := by subst e8'; simp only [pI_f, pI_a, pI_l, pA_f, pA_a, pA_l, pL_f, pL_a, pL_l, rA_f, rA_a, rA_l, rL_f, rL_a, rL_l, reduceIte, Nat.reduceEqDiff, and_self, and_true, true_and, and_false, false_and]
  have r26 : δ8.2.2 26 = δ.2.2 26 := by subst e8'; simp only [pI_f, pI_a, pI_l, pA_f, pA_a, pA_l, pL_f, pL_a, pL_l, rA_f, rA_a, rA_l, rL_f, rL_a, rL_l, reduceIte, Nat.reduceEqDiff, and_self, and_true, true_and, and_false, false_and]
  have g9 : δ8.1 17 9 = nI n := by subst e8'; exact E1
  have g10 : δ8.1 17 10 = nI f := by subst e8'; exact E2
  have X8 : Lx δ8 ln la lb l := by
    subst e8'
    refine ⟨X.1, ?_, ?_⟩
    · simp only [rA_a, if_neg h18, if_neg h19, if_neg h20, if_neg h21, if_neg h22, if_neg h23, if_neg h24]
      exact X.2.1
    · exact X.2.2
  rw [← e8', ← r25, ← r26] at k
  clear e8'
  suffices H : ∀ i, i ≤ l.1 → mi_wI N d 40 87 [.ref 17, .ref ln, .int dy, .int t, .int so, .int sr, .int (nI n), .int (nI i)] [] (mi_setI (rowL (rowA δ8 25 (wrN (δ8.2.1 25) f i l.2.1)) 26 (wrN (δ8.2.2 26) f i l.2.2)) 17 10 (nI (f + i))) Q by
    have e := H 0 (by omega)
    rw [wrN_0, wrN_0, rowA_self, rowL_self, nI_0, Nat.add_zero, ← g10] at e
    have e2 : mi_setI δ8 17 10 (δ8.1 17 10) = δ8 := by
      unfold mi_setI
      refine Prod.ext (funext fun x => funext fun j => ?_) rfl
      dsimp only
      by_cases h : x = 17 ∧ j = 10
      · rw [if_pos h, h.1, h.2]
      · rw [if_neg h]
    rwa [e2] at e
  intro i hi
  have hsz : ∀ i, (mi_setI (rowL (rowA δ8 25 (wrN (δ8.2.1 25) f i l.2.1)) 26 (wrN (δ8.2.2 26) f i l.2.2)) 17 10 (nI (f + i))).1 ln 2 = nI l.1 := fun i => by
    rw [pI_f, if_neg (fun q => hln q.1)]; exact X8.1
  refine up_ind (P := fun i => mi_wI N d 40 87 [.ref 17, .ref ln, .int dy, .int t, .int so, .int sr, .int (nI n), .int (nI i)] [] (mi_setI (rowL (rowA δ8 25 (wrN (δ8.2.1 25) f i l.2.1)) 26 (wrN (δ8.2.2 26) f i l.2.2)) 17 10 (nI (f + i))) Q) ?_ ?_ hi
  · refine q2_add_87 hd hl (brF (by rw [hsz]; exact nI_nlt (by omega) (by omega)) (fun δ1 e => ?_))
    refine k _ ?_
    subst e
    simp only [pI_f, pI_a, pI_l, pA_f, pA_a, pA_l, pL_f, pL_a, pL_l, rA_f, rA_a, rA_l, rL_f, rL_a, rL_l, reduceIte, Nat.reduceEqDiff, and_self, and_true, true_and, and_false, false_and]
    rw [g9, nI_1]
  · intro i hi ih
    refine q2_add_87 hd hl (brT (by rw [hsz]; exact nI_lt hi (by omega)) (fun δ2 e2 δ3 e3 δ4 e4 => ?_))
    have t2 : δ2 = rowA (mi_setI (rowL (rowA δ8 25 (wrN (δ8.2.1 25) f i l.2.1)) 26 (wrN (δ8.2.2 26) f i l.2.2)) 17 10 (nI (f + i))) 25 (wrN (δ8.2.1 25) f (i + 1) l.2.1) := by
      rw [e2, pI_f, if_pos ⟨rfl, rfl⟩, pt_row _ _ _ _ (by omega) (by omega), mi_at_nI _ _ (by omega), pI_a, rL_a, rA_a, rA_a, if_neg h25, if_pos rfl, X8.2.1 i hi, wrN_s]
    have t3 : δ3 = rowL δ2 26 (wrN (δ8.2.2 26) f (i + 1) l.2.2) := by
      rw [e3, t2, rA_f, pI_f, if_pos ⟨rfl, rfl⟩, pl_row _ _ _ _ (by omega) (by omega), mi_al_nI _ _ (by omega), rA_l, pI_l, rL_l, rL_l, rA_l, if_neg h26, if_pos rfl, X8.2.2 i hi, wrN_s]
    have t4 : δ4 = mi_setI (rowL (rowA δ8 25 (wrN (δ8.2.1 25) f (i + 1) l.2.1)) 26 (wrN (δ8.2.2 26) f (i + 1) l.2.2)) 17 10 (nI (f + (i + 1))) := by
      rw [e4, t3, t2, rL_f, rA_f, pI_f, if_pos ⟨rfl, rfl⟩, nI_1, Nat.add_assoc]
      refine Prod.ext (funext fun x => funext fun j => ?_) (Prod.ext (funext fun x => ?_) (funext fun x => ?_))
      · simp only [pI_f, rL_f, rA_f]
        by_cases h : x = 17 ∧ j = 10
        · rw [if_pos h, if_pos h]
        · rw [if_neg h, if_neg h, if_neg h]
      · simp only [pI_a, rL_a, rA_a]
        by_cases h : x = 25
        · rw [if_pos h, if_pos h]
        · rw [if_neg h, if_neg h, if_neg h]
      · simp only [pI_l, rL_l, rA_l]
        by_cases h : x = 26
        · rw [if_pos h, if_pos h]
        · rw [if_neg h, if_neg h, if_neg h]
    rw [nI_1, t4]
    exact ih
end CEN
