theorem fromN_mono {s : mi_D} (W : WfE s) {a b : Nat} (h : a ≤ b) (hb : b ≤ nN s 15) : fromN s a ≤ fromN s b := by
  induction h with
  | refl => exact Nat.le_refl _
  | @step m h ih => have := ih (by omega); have := (W.2.2.2.1 m (by omega)).1; show _ ≤ fromN s (m + 1); omega
theorem entL_A {s : mi_D} (W : WfE s) {e : Nat} (he : e < nN s 15) : LnA (nN s 2) (negL (entL s e)) := by
  intro i hi
  have h : i < fromN s (e + 1) - fromN s e := hi
  have := fromN_mono W (show e + 1 ≤ nN s 15 from he) (Nat.le_refl _)
  exact W.2.2.2.2 (fromN s e + i) (by omega)
theorem LnA.up {m n : Nat} {l : Ln} (h : LnA m l) (hm : m ≤ n) : LnA n l := fun i hi => by obtain ⟨a, ha, e⟩ := h i hi; exact ⟨a, by omega, e⟩
theorem AbE_22 {δ s : mi_D} {j : Nat} {v : Int32} (E : AbE δ s) : AbE (rowA δ 22 (up1 (δ.2.1 22) j v)) (mi_setA s 62 j v) := by
  have e1 : nN (mi_setA s 62 j v) 15 = nN s 15 := rfl
  have e2 : nN (mi_setA s 62 j v) 2 = nN s 2 := rfl
  have e3 : ∀ e, fromN (mi_setA s 62 j v) e = fromN s e := fun e => by unfold fromN; simp only [pI_f, pI_a, pI_l, pA_f, pA_a, pA_l, pL_f, pL_a, pL_l, rA_f, rA_a, rA_l, rL_f, rL_a, rL_l, reduceIte, Nat.reduceEqDiff, and_self, and_true, true_and, and_false, false_and]
  have e4 : ∀ a i, cntL (mi_setA s 62 j v) a i = cntL s a i := fun a i => by unfold cntL; simp only [pI_f, pI_a, pI_l, pA_f, pA_a, pA_l, pL_f, pL_a, pL_l, rA_f, rA_a, rA_l, rL_f, rL_a, rL_l, reduceIte, Nat.reduceEqDiff, and_self, and_true, true_and, and_false, false_and]
  unfold AbE
  simp only [pI_f, pI_a, pI_l, pA_f, pA_a, pA_l, pL_f, pL_a, pL_l, rA_f, rA_a, rA_l, rL_f, rL_a, rL_l, reduceIte, Nat.reduceEqDiff, and_self, and_true, true_and, and_false, false_and, e1, e2, e3, e4]
  exact ⟨E.1, E.2.1, E.2.2.1, E.2.2.2.1, by rw [E.2.2.2.2.1], E.2.2.2.2.2.1, E.2.2.2.2.2.2.1, E.2.2.2.2.2.2.2.1, E.2.2.2.2.2.2.2.2⟩
section CBK
variable {N d ln la lb lim : Nat} {δ s : mi_D}
theorem cc_ehas (hd : 5 ≤ d) (E : AbE δ s) {p : Int32} {Q : Int32 → mi_D → Prop} (k : Q (bI (inR p (s.1 48 15))) δ) : mi_wI N d 39 0 [.ref 17, .int p] [] δ Q := by
  refine q2_has_0 hd ⟨fun h => ?_, fun h => ?_⟩
  · rwa [bI_0 (fun q => q.1 h)] at k
  · rw [E.1]
    refine ⟨fun h2 => ?_, fun h2 => ?_⟩
    · rwa [bI_1 ⟨h, h2⟩] at k
    · rwa [bI_0 (fun q => h2 q.2)] at k
theorem cc_rfBack (hd : 9 ≤ d) (hl : mi_Ls ln la lb lim) (h60 : lim = 60) (A : AbA δ s) (P : AbP δ s) (E : AbE δ s) (W : Wf s) {e dy : Int32} {Q : Int32 → mi_D → Prop}
    (k : ∀ δ', Fr [(ln, 2)] [la] [lb, 27] δ δ' → (rf_back s e dy = 0 → Lx δ' ln la lb (negL (entL s e.toNatClampNeg))) → Q (rf_back s e dy) δ') : mi_wI N d 28 0 [.ref 3, .int e, .int dy, .ref ln] [] δ Q := by
  have k0 := k δ (Fr.rf _ _ _ _)
  unfold rf_back at k k0
  refine q1_refusesBack_0 (by omega) hl (cc_ehas (by omega) E (bI_br (fun h => ?_) (fun h => ?_)))
  · rw [if_pos h] at k0
    exact k0 (fun q => absurd q (by decide))
  · rw [if_neg (fun q => q h)] at k0
    rw [at_c E.2.2.2.1, at_c E.2.2.2.2.1]
    refine ⟨fun h2 => ⟨fun h3 => ?_, fun h3 => ?_⟩, fun h2 => ?_⟩
    · have h' := h
      rw [W.2.2.1.1.1] at h'
      have hn := W.2.2.1.1.2
      obtain ⟨j, hj, ej⟩ := (inR_nI (by omega)).mp h'
      rw [if_neg (fun q => q h), if_neg (fun q => q h2), if_neg (fun q => q h3)] at k
      rw [ej, nI_clamp (by omega)] at k
      rw [ej]
      have w := W.2.2.1.2.2.2.1 j hj
      have hA := entL_A W.2.2.1 hj
      have hb := W.1.1.2
      refine cc_turn (by omega) hl h60 E W.2.2.1 hj (fun δ1 X1 f1 => ?_)
      have f1' : Fr [(ln, 2)] [la] [lb, 27] δ δ1 := f1.wk (fun _ q => q) (fun _ q => q) (fun p q => List.mem_cons.mpr (Or.inl (List.mem_singleton.mp q)))
      refine cc_judge (by omega) hl (A.c (Ls_c hl f1 h60 (by decide) (by decide) (by decide))) (P.c (Ls_c hl f1 h60 (by decide) (by decide) (by decide))) W.2.1 ((E.c (Ls_c hl f1 h60 (by decide) (by decide) (by decide))).1) X1 (by show fromN s (j + 1) - fromN s j ≤ 60; omega) (hA.up hb) (fun δ2 f2 => k δ2 (f1'.tr (f2.wk (fun p q => absurd q List.not_mem_nil) (fun p q => absurd q List.not_mem_nil) (fun p q => List.mem_cons.mpr (Or.inr q)))) (fun _ => X1.fr f2 List.not_mem_nil List.not_mem_nil ?_))
      rcases hl with ⟨_, _, rfl, _⟩ | ⟨_, _, rfl, _⟩ | ⟨_, _, rfl, _⟩ <;> decide
    · rw [if_neg (fun q => q h2), if_pos h3] at k0
      exact k0 (fun q => absurd q (by decide))
    · rw [if_pos h2] at k0
      exact k0 (fun q => absurd q (by decide))
end CBK
