section DEN
variable {s : mi_D} {l : Ln} {dy t so sr : Int32}
theorem den_n (W : WfE s) (hn : nN s 15 < 400) : nN (do_enter s l dy t so sr) 15 = nN s 15 + 1 := by
  refine nN_nI ?_ (by omega)
  unfold do_enter
  simp only [pI_f, pI_a, pI_l, pA_f, pA_a, pA_l, pL_f, pL_a, pL_l, rA_f, rA_a, rA_l, rL_f, rL_a, rL_l, reduceIte, Nat.reduceEqDiff, and_self, and_true, true_and, and_false, false_and]
  rw [W.1.1, nI_1]
theorem den_from (e : Nat) (he : e ≤ nN s 15) : fromN (do_enter s l dy t so sr) e = fromN s e := by
  unfold fromN do_enter
  simp only [pI_f, pI_a, pI_l, pA_f, pA_a, pA_l, pL_f, pL_a, pL_l, rA_f, rA_a, rA_l, rL_f, rL_a, rL_l, reduceIte, Nat.reduceEqDiff, and_self, and_true, true_and, and_false, false_and]
  rw [up1_n _ _ (by omega)]
theorem den_from1 (W : WfE s) (hn : nN s 15 < 400) (hb : l.1 ≤ 60) : fromN (do_enter s l dy t so sr) (nN s 15 + 1) = fromN s (nN s 15) + l.1 := by
  have h := fromN_le W _ (Nat.le_refl (nN s 15))
  have e : (do_enter s l dy t so sr).2.1 61 = up1 (s.2.1 61) (nN s 15 + 1) (nI (fromN s (nN s 15) + l.1)) := by
    unfold do_enter
    simp only [pI_f, pI_a, pI_l, pA_f, pA_a, pA_l, pL_f, pL_a, pL_l, rA_f, rA_a, rA_l, rL_f, rL_a, rL_l, reduceIte, Nat.reduceEqDiff, and_self, and_true, true_and, and_false, false_and]
  show ((do_enter s l dy t so sr).2.1 61 (nN s 15 + 1)).toNatClampNeg = _
  rw [e, up1_s, nI_clamp (by omega)]
theorem den_64 : (do_enter s l dy t so sr).2.1 64 = wrN (s.2.1 64) (fromN s (nN s 15)) l.1 l.2.1 := by
  unfold do_enter
  simp only [pI_f, pI_a, pI_l, pA_f, pA_a, pA_l, pL_f, pL_a, pL_l, rA_f, rA_a, rA_l, rL_f, rL_a, rL_l, reduceIte, Nat.reduceEqDiff, and_self, and_true, true_and, and_false, false_and]
end DEN
theorem cc_enter {N d ln la lb lim : Nat} {δ s : mi_D} {l : Ln} (hd : 7 ≤ d) (hl : mi_Ls ln la lb lim) (A : AbA δ s) (E : AbE δ s) (W : WfA s) (WE : WfE s) (hn : nN s 15 < 400) (X : Lx δ ln la lb l) (hb : l.1 ≤ 60) (hA : LnA (nN s 2) l) {dy t so sr : Int32} {Q : Int32 → mi_D → Prop}
    (k : ∀ δ', AbA δ' (do_enter s l dy t so sr) → AbE δ' (do_enter s l dy t so sr) → Fr [(17,9),(17,10)] [9,18,19,20,21,22,23,24,25] [11,26] δ δ' → Q (s.1 48 15) δ') : mi_wI N d 27 0 [.ref 3, .ref ln, .int dy, .int t, .int so, .int sr, .null] [] δ Q := by
  have hW := W.1.2
  have hf := fromN_le WE _ (Nat.le_refl (nN s 15))
  have hne : la ≠ 9 ∧ lb ≠ 11 := by rcases hl with ⟨_, _, _, _⟩ | ⟨_, _, _, _⟩ | ⟨_, _, _, _⟩ <;> omega
  obtain ⟨bal, hbal⟩ : ∃ bal, bal = itN (fun i (b : Nat → Int64) => up1 b (l.2.1 i).toNatClampNeg (b (l.2.1 i).toNatClampNeg + l.2.2 i)) (s.2.2 55) := ⟨_, rfl⟩
  obtain ⟨cn, hcn⟩ : ∃ cn, cn = itN (fun i (c : Nat → Int32) => up1 c (l.2.1 i).toNatClampNeg (c (l.2.1 i).toNatClampNeg + 1)) (δ.2.1 9) := ⟨_, rfl⟩
  have hcna : ∀ a, a < nN s 2 → ∀ i, i ≤ l.1 → cn i a = nI (cntL s a (fromN s (nN s 15)) + lnc l a i) := by
    intro a ha i hi
    induction i with
    | zero => rw [hcn]; exact E.2.2.2.2.2.2.2.2.2.2 a ha
    | succ i ih =>
      obtain ⟨b, hb2, eb⟩ := hA i (by omega)
      have e : cn (i + 1) = up1 (cn i) b (cn i b + 1) := by
        rw [hcn]
        show up1 _ (l.2.1 i).toNatClampNeg _ = _
        rw [eb, nI_clamp (by omega)]
      show cn (i + 1) a = nI (_ + (if l.2.1 i = nI a then lnc l a i + 1 else lnc l a i))
      rw [e, eb]
      by_cases h : b = a
      · subst h; rw [up1_s, if_pos rfl, ih (by omega), nI_1]; rfl
      · rw [up1_n _ _ (fun q => h q.symm), if_neg (fun q => h ((nI_eq (by omega) (by omega)).mp q)), ih (by omega)]
  refine q1_enter_0 (by omega) hl ?_
  suffices H : ∀ i, i ≤ l.1 → mi_wI N d 27 3 [.ref 3, .ref ln, .int dy, .int t, .int so, .int sr, .int (nI i)] [] (rowA (rowL δ 11 (bal i)) 9 (cn i)) Q by
    have e := H 0 (by omega)
    have e1 : bal 0 = δ.2.2 11 := by rw [hbal]; exact A.2.2.2.2.2.2.2.1.symm
    have e2 : cn 0 = (rowL δ 11 (bal 0)).2.1 9 := by rw [hcn]; rfl
    rwa [e2, rowA_self, e1, rowL_self, nI_0] at e
  intro i hi
  refine up_ind (P := fun i => mi_wI N d 27 3 [.ref 3, .ref ln, .int dy, .int t, .int so, .int sr, .int (nI i)] [] (rowA (rowL δ 11 (bal i)) 9 (cn i)) Q) ?_ ?_ hi
  · refine q1_enter_3 (by omega) hl (brF (by rw [rA_f, rL_f, X.1]; exact nI_nlt (by omega) (by omega)) ?_)
    have X' : Lx (rowA (rowL δ 11 (bal l.1)) 9 (cn l.1)) ln la lb l := by
      refine ⟨X.1, ?_, ?_⟩
      · rw [rA_a, if_neg hne.1]; exact X.2.1
      · rw [rA_l, rL_l, if_neg hne.2]; exact X.2.2
    refine cc_eadd (δ := rowA (rowL δ 11 (bal l.1)) 9 (cn l.1)) (by omega) hl hn (E.1.trans WE.1.1) hf E.2.2.2.2.2.2.2.2.1 X' hb (fun δ' e => ?_)
    rw [← WE.1.1]
    have hnn : nN (do_enter s l dy t so sr) 15 = nN s 15 + 1 := den_n WE hn
    have hn2 : nN (do_enter s l dy t so sr) 2 = nN s 2 := rfl
    have hfr : Fr [(17,9),(17,10)] [9,18,19,20,21,22,23,24,25] [11,26] δ δ' := by
      rw [e]
      exact ((((((((((((Fr.rwL (by decide)).xA (by decide)).xA (by decide)).xA (by decide)).xA (by decide)).xA (by decide)).xA (by decide)).xA (by decide)).xA (by decide)).xA (by decide)).xL (by decide)).xI (by decide)).xI (by decide)
    refine k δ' ?_ ?_ hfr
    · have A' : AbA (rowL δ 11 (δ.2.2 11)) s := by rw [rowL_self]; exact A
      unfold AbA
      rw [hn2]
      rw [hfr.1 _ _ (by decide), hfr.2.1 _ (by decide), hfr.2.1 _ (by decide), hfr.2.1 _ (by decide), hfr.2.1 _ (by decide), hfr.2.1 _ (by decide), hfr.2.1 _ (by decide), hfr.2.1 _ (by decide)]
      have e11 : δ'.2.2 11 = bal l.1 := by rw [e]; simp only [pI_f, pI_a, pI_l, pA_f, pA_a, pA_l, pL_f, pL_a, pL_l, rA_f, rA_a, rA_l, rL_f, rL_a, rL_l, reduceIte, Nat.reduceEqDiff, and_self, and_true, true_and, and_false, false_and]
      rw [e11, hbal]
      unfold do_enter
      simp only [pI_f, pI_a, pI_l, pA_f, pA_a, pA_l, pL_f, pL_a, pL_l, rA_f, rA_a, rA_l, rL_f, rL_a, rL_l, reduceIte, Nat.reduceEqDiff, and_self, and_true, true_and, and_false, false_and]
      exact ⟨A.1, A.2.1, A.2.2.1, A.2.2.2.1, A.2.2.2.2.1, A.2.2.2.2.2.1, A.2.2.2.2.2.2.1, A.2.2.2.2.2.2.2.2⟩
    · unfold AbE
      rw [hnn, hn2, den_from1 WE hn hb]
      have g : ∀ a, a < nN s 2 → cntL (do_enter s l dy t so sr) a (fromN s (nN s 15) + l.1) = cntL s a (fromN s (nN s 15)) + lnc l a l.1 := fun a ha => cntL_wr den_64 l.1 (Nat.le_refl _)
      refine ⟨?_, ?_, ?_, ?_, ?_, ?_, ?_, ?_, ?_, ?_, ?_⟩
      · rw [e]; unfold do_enter; simp only [pI_f, pI_a, pI_l, pA_f, pA_a, pA_l, pL_f, pL_a, pL_l, rA_f, rA_a, rA_l, rL_f, rL_a, rL_l, reduceIte, Nat.reduceEqDiff, and_self, and_true, true_and, and_false, false_and]; rw [WE.1.1, nI_1]
      · rw [e]; unfold do_enter; simp only [pI_f, pI_a, pI_l, pA_f, pA_a, pA_l, pL_f, pL_a, pL_l, rA_f, rA_a, rA_l, rL_f, rL_a, rL_l, reduceIte, Nat.reduceEqDiff, and_self, and_true, true_and, and_false, false_and]; rw [E.2.1]
      · rw [e]; unfold do_enter; simp only [pI_f, pI_a, pI_l, pA_f, pA_a, pA_l, pL_f, pL_a, pL_l, rA_f, rA_a, rA_l, rL_f, rL_a, rL_l, reduceIte, Nat.reduceEqDiff, and_self, and_true, true_and, and_false, false_and]; rw [E.2.2.1]
      · rw [e]; unfold do_enter; simp only [pI_f, pI_a, pI_l, pA_f, pA_a, pA_l, pL_f, pL_a, pL_l, rA_f, rA_a, rA_l, rL_f, rL_a, rL_l, reduceIte, Nat.reduceEqDiff, and_self, and_true, true_and, and_false, false_and]; rw [E.2.2.2.1]
      · rw [e]; unfold do_enter; simp only [pI_f, pI_a, pI_l, pA_f, pA_a, pA_l, pL_f, pL_a, pL_l, rA_f, rA_a, rA_l, rL_f, rL_a, rL_l, reduceIte, Nat.reduceEqDiff, and_self, and_true, true_and, and_false, false_and]; rw [E.2.2.2.2.1]
      · rw [e]; unfold do_enter; simp only [pI_f, pI_a, pI_l, pA_f, pA_a, pA_l, pL_f, pL_a, pL_l, rA_f, rA_a, rA_l, rL_f, rL_a, rL_l, reduceIte, Nat.reduceEqDiff, and_self, and_true, true_and, and_false, false_and]; rw [E.2.2.2.2.2.1]
      · rw [e]; unfold do_enter; simp only [pI_f, pI_a, pI_l, pA_f, pA_a, pA_l, pL_f, pL_a, pL_l, rA_f, rA_a, rA_l, rL_f, rL_a, rL_l, reduceIte, Nat.reduceEqDiff, and_self, and_true, true_and, and_false, false_and]; rw [E.2.2.2.2.2.2.1]
      · rw [e]; unfold do_enter; simp only [pI_f, pI_a, pI_l, pA_f, pA_a, pA_l, pL_f, pL_a, pL_l, rA_f, rA_a, rA_l, rL_f, rL_a, rL_l, reduceIte, Nat.reduceEqDiff, and_self, and_true, true_and, and_false, false_and]; rw [E.2.2.2.2.2.2.2.1]
      · rw [e]; simp only [pI_f, pI_a, pI_l, pA_f, pA_a, pA_l, pL_f, pL_a, pL_l, rA_f, rA_a, rA_l, rL_f, rL_a, rL_l, reduceIte, Nat.reduceEqDiff, and_self, and_true, true_and, and_false, false_and]
      · have e24 : δ'.2.1 24 = up1 (δ.2.1 24) (nN s 15) (nI (fromN s (nN s 15))) := by rw [e]; simp only [pI_f, pI_a, pI_l, pA_f, pA_a, pA_l, pL_f, pL_a, pL_l, rA_f, rA_a, rA_l, rL_f, rL_a, rL_l, reduceIte, Nat.reduceEqDiff, and_self, and_true, true_and, and_false, false_and]
        have e21 : δ'.2.1 21 = up1 (δ.2.1 21) (nN s 15) (nI l.1) := by rw [e]; simp only [pI_f, pI_a, pI_l, pA_f, pA_a, pA_l, pL_f, pL_a, pL_l, rA_f, rA_a, rA_l, rL_f, rL_a, rL_l, reduceIte, Nat.reduceEqDiff, and_self, and_true, true_and, and_false, false_and]
        intro q hq
        rw [e24, e21]
        by_cases h : q = nN s 15
        · subst h
          rw [up1_s, up1_s, den_from _ (Nat.le_refl _), den_from1 WE hn hb]
          exact ⟨rfl, by rw [Nat.add_sub_cancel_left]⟩
        · rw [up1_n _ _ h, up1_n _ _ h, den_from _ (by omega), den_from _ (by omega)]
          exact E.2.2.2.2.2.2.2.2.2.1 q (by omega)
      · have e9 : δ'.2.1 9 = cn l.1 := by rw [e]; simp only [pI_f, pI_a, pI_l, pA_f, pA_a, pA_l, pL_f, pL_a, pL_l, rA_f, rA_a, rA_l, rL_f, rL_a, rL_l, reduceIte, Nat.reduceEqDiff, and_self, and_true, true_and, and_false, false_and]
        intro a ha
        rw [e9, g a ha]
        exact hcna a ha l.1 (Nat.le_refl _)
  · intro i hi ih
    obtain ⟨a, ha, ea⟩ := hA i hi
    refine q1_enter_3 (by omega) hl (brT (by rw [rA_f, rL_f, X.1]; exact nI_lt hi (by omega)) ?_)
    rw [mi_at_nI _ _ (by omega), rA_a, if_neg hne.1, rL_a, X.2.1 i hi, mi_al_nI _ _ (by omega), rA_l, rL_l, if_neg hne.2, X.2.2 i hi, ea]
    refine cc_enterLine (by omega) (by omega) ?_
    have e1 : bal (i + 1) = up1 (bal i) a (bal i a + l.2.2 i) := by
      rw [hbal]
      show up1 _ (l.2.1 i).toNatClampNeg _ = _
      rw [ea, nI_clamp (by omega)]
    have e2 : cn (i + 1) = up1 (cn i) a (cn i a + 1) := by
      rw [hcn]
      show up1 _ (l.2.1 i).toNatClampNeg _ = _
      rw [ea, nI_clamp (by omega)]
    rw [nI_1]
    rw [e1, e2] at ih
    have e3 : rowA (rowL (rowA (rowL δ 11 (bal i)) 9 (cn i)) 11 (up1 ((rowA (rowL δ 11 (bal i)) 9 (cn i)).2.2 11) a ((rowA (rowL δ 11 (bal i)) 9 (cn i)).2.2 11 a + l.2.2 i))) 9 (up1 ((rowA (rowL δ 11 (bal i)) 9 (cn i)).2.1 9) a ((rowA (rowL δ 11 (bal i)) 9 (cn i)).2.1 9 a + 1)) = rowA (rowL δ 11 (up1 (bal i) a (bal i a + l.2.2 i))) 9 (up1 (cn i) a (cn i a + 1)) := by
      have c1 : (rowA (rowL δ 11 (bal i)) 9 (cn i)).2.2 11 = bal i := rowL_L δ 11 (bal i)
      have c2 : (rowA (rowL δ 11 (bal i)) 9 (cn i)).2.1 9 = cn i := rowA_A _ _ _
      rw [c1, c2]
      show rowA (rowA (rowL (rowL δ 11 (bal i)) 11 (up1 (bal i) a (bal i a + l.2.2 i))) 9 (cn i)) 9 (up1 (cn i) a (cn i a + 1)) = _
      rw [rowA_rowA, rowL_rowL]
    rw [e3]
    exact ih
