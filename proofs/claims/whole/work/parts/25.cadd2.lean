/-! what was written, read again -/
section PJ
variable (δ : mi_D) (a k b j : Nat) (v : Int32) (w : Int64) (f : Nat → Int32) (h : Nat → Int64)
theorem pI_f : (mi_setI δ a k v).1 b j = if b = a ∧ j = k then v else δ.1 b j := rfl
theorem pI_a : (mi_setI δ a k v).2.1 = δ.2.1 := rfl
theorem pI_l : (mi_setI δ a k v).2.2 = δ.2.2 := rfl
theorem pA_f : (mi_setA δ a k v).1 = δ.1 := rfl
theorem pA_a : (mi_setA δ a k v).2.1 b = if b = a then up1 (δ.2.1 a) k v else δ.2.1 b := by rw [setA_row]; rfl
theorem pA_l : (mi_setA δ a k v).2.2 = δ.2.2 := rfl
theorem pL_f : (mi_setL δ a k w).1 = δ.1 := rfl
theorem pL_a : (mi_setL δ a k w).2.1 = δ.2.1 := rfl
theorem pL_l : (mi_setL δ a k w).2.2 b = if b = a then up1 (δ.2.2 a) k w else δ.2.2 b := by rw [setL_row]; rfl
theorem rA_f : (rowA δ a f).1 = δ.1 := rfl
theorem rA_a : (rowA δ a f).2.1 b = if b = a then f else δ.2.1 b := rfl
theorem rA_l : (rowA δ a f).2.2 = δ.2.2 := rfl
theorem rL_f : (rowL δ a h).1 = δ.1 := rfl
theorem rL_a : (rowL δ a h).2.1 = δ.2.1 := rfl
theorem rL_l : (rowL δ a h).2.2 b = if b = a then h else δ.2.2 b := rfl
end PJ
section FRR
variable {fs : List (Nat × Nat)} {as ls : List Nat} {δ δ1 : mi_D}
theorem Fr.rwA {a : Nat} {f : Nat → Int32} (h : a ∈ as) : Fr fs as ls δ (rowA δ a f) := ⟨fun _ _ _ => rfl, fun b q => if_neg (show ¬ b = a from fun z => q (by rw [z]; exact h)), fun _ _ => rfl⟩
theorem Fr.rwL {a : Nat} {f : Nat → Int64} (h : a ∈ ls) : Fr fs as ls δ (rowL δ a f) := ⟨fun _ _ _ => rfl, fun _ _ => rfl, fun b q => if_neg (show ¬ b = a from fun z => q (by rw [z]; exact h))⟩
theorem Fr.xA {a : Nat} {f : Nat → Int32} (k : Fr fs as ls δ δ1) (h : a ∈ as) : Fr fs as ls δ (rowA δ1 a f) := k.tr (Fr.rwA h)
theorem Fr.xL {a : Nat} {f : Nat → Int64} (k : Fr fs as ls δ δ1) (h : a ∈ ls) : Fr fs as ls δ (rowL δ1 a f) := k.tr (Fr.rwL h)
theorem Fr.xI {a k : Nat} {v : Int32} (r : Fr fs as ls δ δ1) (h : (a, k) ∈ fs) : Fr fs as ls δ (mi_setI δ1 a k v) := r.tr (Fr.setI h)
theorem Fr.xsA {a k : Nat} {v : Int32} (r : Fr fs as ls δ δ1) (h : a ∈ as) : Fr fs as ls δ (mi_setA δ1 a k v) := r.tr (Fr.setA h)
theorem Fr.xsL {a k : Nat} {v : Int64} (r : Fr fs as ls δ δ1) (h : a ∈ ls) : Fr fs as ls δ (mi_setL δ1 a k v) := r.tr (Fr.setL h)
end FRR
theorem nN_nI {s : mi_D} {k n : Nat} (h : s.1 48 k = nI n) (hn : n < 2 ^ 31) : nN s k = n := by unfold nN; rw [h, nI_clamp hn]
theorem cc_add {N d : Nat} (hd : 6 ≤ d) {δ s : mi_D} (A : AbA δ s) (W : WfA s) (hn : nN s 2 < 60) {c k p g : Int32} {Q : Int32 → mi_D → Prop}
    (kk : ∀ δ', AbA δ' (do_account s c k p g) → Fr [(4,9)] [5,6,7,8,9,10,12,13] [11] δ δ' → δ'.2.1 9 = up1 (δ.2.1 9) (nN s 2) 0 → Q (s.1 48 2) δ') : mi_wI N d 8 0 [.ref 4, .int c, .int k, .int p, .int g, .null] [] δ Q := by
  obtain ⟨n, en⟩ : ∃ n, nN s 2 = n := ⟨_, rfl⟩
  have hs2 : s.1 48 2 = nI n := by rw [← en]; exact W.1.1
  have hl : δ.1 4 9 = nI n := A.1.trans hs2
  rw [en] at hn kk
  refine q0_add_0 (by omega) (fun x1 e1 δ2 e2 δ3 e3 δ4 e4 => ?_)
  rw [hl] at e1
  subst e1
  rw [pt_row _ _ _ _ hn (by omega)] at e2 e3 e4
  have h8 : δ4.2.1 8 = s.2.1 53 := by
    subst e4 e3 e2
    simp only [pI_f, pI_a, pI_l, pA_f, pA_a, pA_l, pL_f, pL_a, pL_l, rA_f, rA_a, rA_l, rL_f, rL_a, rL_l, reduceIte, Nat.reduceEqDiff, and_self, and_true, true_and, and_false, false_and]
    exact A.2.2.2.2.2.1
  have st3 : ∀ δ5 v, δ5 = rowA δ4 8 (up1 (δ4.2.1 8) n v) → v = (if p = -1 then 0 else mi_at s 53 p + 1) → ∀ gg, gg = bI (¬ g = 0) → mi_wI N d 8 80 [.ref 4, .int c, .int k, .int p, .int g, .int (nI n)] [.int gg, .int (nI n), .ref 12] δ5 Q := by
    intro δ5 v e5 hv gg hg
    refine q0_add_80 (by omega) (fun δ6 e6 δ7 e7 δ8 e8 δ9 e9 => ?_)
    rw [pt_row _ _ _ _ hn (by omega)] at e6 e7 e8
    rw [pl_row _ _ _ _ hn (by omega)] at e9
    have h5 : δ9.2.1 5 = up1 (s.2.1 49) n c := by
      subst e9 e8 e7 e6 e5 e4 e3 e2
      simp only [pI_f, pI_a, pI_l, pA_f, pA_a, pA_l, pL_f, pL_a, pL_l, rA_f, rA_a, rA_l, rL_f, rL_a, rL_l, reduceIte, Nat.reduceEqDiff, and_self, and_true, true_and, and_false, false_and]
      rw [A.2.1]
    refine cc_putByCode (by omega) hn ?_ ?_ (fun gr hgr δ10 e10 => ?_)
    · subst e9 e8 e7 e6 e5 e4 e3 e2
      exact hl
    · intro i b hb
      have e : δ9.2.1 10 = δ.2.1 10 := by
        subst e9 e8 e7 e6 e5 e4 e3 e2
        simp only [pI_f, pI_a, pI_l, pA_f, pA_a, pA_l, pL_f, pL_a, pL_l, rA_f, rA_a, rA_l, rL_f, rL_a, rL_l, reduceIte, Nat.reduceEqDiff, and_self, and_true, true_and, and_false, false_and]
      rw [e]
      refine A.2.2.2.2.2.2.2.2 i b ?_
      rw [en, ← hb, h5]
      exact congrArg (fun L => L[i]?) (ordN_congr (fun j hj => (up1_n _ _ (by omega)).symm))
    · rw [← hs2]
      rw [h5] at hgr
      refine kk δ10 ?_ ?_ ?_
      · subst e10 e9 e8 e7 e6 e5 e4 e3 e2
        have hN : nN (do_account s c k p g) 2 = n + 1 := nN_nI (by unfold do_account; simp only [pI_f, pI_a, pI_l, pA_f, pA_a, pA_l, pL_f, pL_a, pL_l, rA_f, rA_a, rA_l, rL_f, rL_a, rL_l, reduceIte, Nat.reduceEqDiff, and_self, and_true, true_and, and_false, false_and]; rw [hs2, nI_1]) (by omega)
        unfold AbA
        rw [hN]
        unfold do_account
        simp only [pI_f, pI_a, pI_l, pA_f, pA_a, pA_l, pL_f, pL_a, pL_l, rA_f, rA_a, rA_l, rL_f, rL_a, rL_l, reduceIte, Nat.reduceEqDiff, and_self, and_true, true_and, and_false, false_and]
        rw [en]
        refine ⟨by rw [A.1], by rw [A.2.1], by rw [A.2.2.1], by rw [A.2.2.2.1], by rw [A.2.2.2.2.1, hg], by rw [A.2.2.2.2.2.1, hv], by rw [A.2.2.2.2.2.2.1], by rw [A.2.2.2.2.2.2.2.1], hgr⟩
      · subst e10 e9 e8 e7 e6 e5 e4 e3 e2
        exact (((((((((Fr.rf _ _ _ _).xA (by decide)).xA (by decide)).xA (by decide)).xA (by decide)).xA (by decide)).xA (by decide)).xA (by decide)).xL (by decide)).xA (by decide) |>.xI (by decide)
      · subst e10 e9 e8 e7 e6 e5 e4 e3 e2
        simp only [pI_f, pI_a, pI_l, pA_f, pA_a, pA_l, pL_f, pL_a, pL_l, rA_f, rA_a, rA_l, rL_f, rL_a, rL_l, reduceIte, Nat.reduceEqDiff, and_self, and_true, true_and, and_false, false_and]
  have st2 : ∀ v, v = (if p = -1 then 0 else mi_at s 53 p + 1) → mi_wI N d 8 61 [.ref 4, .int c, .int k, .int p, .int g, .int (nI n)] [.int v, .int (nI n), .ref 8] δ4 Q := by
    intro v hv
    refine q0_add_61 (by omega) (fun δ5 e5 => ?_)
    rw [pt_row _ _ _ _ hn (by omega)] at e5
    exact ⟨fun h => st3 δ5 v e5 hv 0 (by rw [bI_0 (fun q => q h)]), fun h => st3 δ5 v e5 hv 1 (by rw [bI_1 h])⟩
  exact ⟨fun h => st2 0 (by rw [if_pos h]), fun h => st2 _ (by rw [if_neg h, at_c h8])⟩
