/-! what a record leaves alone -/
def pjF : List (Nat × Nat) := [(48,0),(48,1),(48,2),(48,10),(48,11),(48,12),(48,15),(48,24),(48,31),(48,36)]
def pjA : List Nat := [49,50,51,52,53,54,56,57,58,59,60,61,62,63,64,66,72]
section JOT
variable {δ s s' : mi_D} {w : Int32} {B : List Int32}
theorem jot_k : Kp pjF pjA pmL s (jot s w B) := by
  unfold jot
  split
  · exact ((Kp.setI (by decide)).tr (Kp.rowA (by decide))).tr (Kp.setI (by decide))
  · exact Kp.setI (by decide)
theorem jot_m (k : Kp [(48,1),(48,30),(48,31),(48,32)] [70] [] s s') : Kp [(48,30),(48,31),(48,32)] [70] [] (jot s w B) (jot s' w B) := by
  have e1 : s'.1 48 1 = s.1 48 1 := k.1 (48, 1) (by decide)
  have e30 : s'.1 48 30 = s.1 48 30 := k.1 (48, 30) (by decide)
  have e31 : s'.1 48 31 = s.1 48 31 := k.1 (48, 31) (by decide)
  have e32 : s'.1 48 32 = s.1 48 32 := k.1 (48, 32) (by decide)
  have e70 : s'.2.1 70 = s.2.1 70 := k.2.1 70 (by decide)
  unfold jot nN
  rw [e1, e30, e32, e70]
  by_cases h : s.1 48 1 = 0
  · rw [if_pos h, if_pos h]
    refine ⟨fun p hp => ?_, fun a ha => ?_, fun a ha => absurd ha List.not_mem_nil⟩
    · simp only [pI_f, rA_f]
      simp only [List.mem_cons, List.not_mem_nil, or_false] at hp
      rcases hp with h | h | h <;> subst h <;> simp [e31]
    · simp only [List.mem_cons, List.not_mem_nil, or_false] at ha
      subst ha
      simp only [pI_f, pI_a, pI_l, pA_f, pA_a, pA_l, pL_f, pL_a, pL_l, rA_f, rA_a, rA_l, rL_f, rL_a, rL_l, reduceIte, Nat.reduceEqDiff, and_self, and_true, true_and, and_false, false_and]
  · rw [if_neg h, if_neg h]
    refine ⟨fun p hp => ?_, fun a ha => ?_, fun a ha => absurd ha List.not_mem_nil⟩
    · simp only [pI_f, rA_f]
      simp only [List.mem_cons, List.not_mem_nil, or_false] at hp
      rcases hp with h | h | h <;> subst h <;> simp [e31, e30]
    · simp only [List.mem_cons, List.not_mem_nil, or_false] at ha
      subst ha
      exact e70
theorem abs_jot (A : AbA δ s') (P : AbP δ s') (E : AbE δ s') (J : AbJ δ (jot s w B)) (D : AbD δ s') (S : AbS δ s') (k : Kp [(48,1),(48,30),(48,31),(48,32)] [70] [] s s') : Abs δ (jot s' w B) :=
  ⟨A.m (jot_k.wk (by decide) (by decide) (by decide)), P.m (jot_k.wk (by decide) (by decide) (by decide)), E.m (jot_k.wk (by decide) (by decide) (by decide)), J.m (jot_m k), D.m (jot_k.wk (by decide) (by decide) (by decide)), S.m (jot_k.wk (by decide) (by decide) (by decide))⟩
end JOT
section RFA
variable {N d : Nat} {δ s : mi_D}
theorem cc_rfAccount (hd : 7 ≤ d) (A : AbA δ s) (W : WfA s) {c k p : Int32} {Q : Int32 → mi_D → Prop} (kk : Q (rf_account s c k p) δ) : mi_wI N d 17 0 [.ref 3, .int c, .int k, .int p] [] δ Q := by
  unfold rf_account at kk
  have st3 : (¬ (¬ p = -1 ∧ ¬ isAc s p)) → ¬ (c < 1 ∨ 9999 < c ∨ k < 0 ∨ ¬ k < 5) → ¬ (¬ p = -1 ∧ ¬ (mi_at s 52 p = 1 ∧ mi_at s 50 p = k ∧ mi_at s 53 p < 5)) → mi_wI N d 17 63 [.ref 3, .int c, .int k, .int p] [] δ Q := by
    intro h1 h2 h3
    rw [if_neg h1, if_neg h2, if_neg h3] at kk
    refine q1_refusesAccount_63 (by omega) (cc_hasCode (by omega) A W (bI_br (fun h4 => ?_) (fun h4 => ?_)))
    · rw [if_neg h4] at kk
      rw [A.1]
      exact ⟨fun h5 => by rwa [if_pos h5] at kk, fun h5 => by rwa [if_neg h5] at kk⟩
    · rwa [if_pos h4] at kk
  have st2 : (¬ (¬ p = -1 ∧ ¬ isAc s p)) → mi_wI N d 17 19 [.ref 3, .int c, .int k, .int p] [] δ Q := by
    intro h1
    rw [if_neg h1] at kk
    refine q1_refusesAccount_19 (by omega) ⟨fun h => ?_, fun ha => ⟨fun h => ?_, fun hb => ⟨fun h => ?_, fun hc => ⟨fun hk => ⟨fun h3 => ?_, fun h3 => ?_⟩, fun h => ?_⟩⟩⟩⟩
    · rwa [if_pos (Or.inl h)] at kk
    · rwa [if_pos (Or.inr (Or.inl h))] at kk
    · rwa [if_pos (Or.inr (Or.inr (Or.inl h)))] at kk
    · exact st3 h1 (fun q => q.elim ha (fun q => q.elim hb (fun q => q.elim hc (fun q => q hk)))) (fun q => q.1 h3)
    · refine cc_takesChild (by omega) A (bI_br (fun h4 => ?_) (fun h4 => ?_))
      · rwa [if_neg (fun q => q.elim ha (fun q => q.elim hb (fun q => q.elim hc (fun q => q hk)))), if_pos ⟨h3, h4⟩] at kk
      · exact st3 h1 (fun q => q.elim ha (fun q => q.elim hb (fun q => q.elim hc (fun q => q hk)))) (fun q => q.2 h4)
    · rwa [if_pos (Or.inr (Or.inr (Or.inr h)))] at kk
  refine q1_refusesAccount_0 (by omega) ⟨fun h => st2 (fun q => q.1 h), fun h => cc_has (by omega) A (bI_br (fun h2 => ?_) (fun h2 => st2 (fun q => q.2 h2)))⟩
  rwa [if_pos ⟨h, h2⟩] at kk
theorem cc_rfShut (hd : 7 ≤ d) (A : AbA δ s) {a on : Int32} {Q : Int32 → mi_D → Prop} (W : WfA s) (kk : Q (rf_shut s a on) δ) : mi_wI N d 18 0 [.ref 3, .int a, .int on] [] δ Q := by
  unfold rf_shut at kk
  refine q1_refusesShut_0 (by omega) (cc_has (by omega) A (bI_br (fun h => ?_) (fun h => cc_isLeaf (by omega) A (by omega) (bI_br (fun h2 => ?_) (fun h2 => cc_isShut (by omega) A ⟨fun h3 => ?_, fun h3 => ?_⟩)))))
  · rwa [if_pos h] at kk
  · rwa [if_neg (fun q => q h), if_pos (fun q => h2 ⟨h, q⟩)] at kk
  · rwa [if_neg (fun q => q h), if_neg (fun q => q h2.2), if_pos h3] at kk
  · rwa [if_neg (fun q => q h), if_neg (fun q => q h2.2), if_neg h3] at kk
theorem cc_firstDay (hd : 5 ≤ d) (P : AbP δ s) {p : Int32} {Q : Int32 → mi_D → Prop} (kk : Q (fday s p) δ) : mi_wI N d 73 0 [.ref 14, .int p] [] δ Q := by
  unfold fday at kk
  refine q7_firstDay_0 hd ⟨fun h => ?_, fun h => ?_⟩
  · rwa [if_pos h] at kk
  · rw [if_neg h] at kk
    rwa [at_c P.2.2.1]
theorem cc_rfPeriod (hd : 7 ≤ d) (P : AbP δ s) {dd : Int32} {Q : Int32 → mi_D → Prop} (kk : Q (rf_period s dd) δ) : mi_wI N d 19 0 [.ref 3, .int dd] [] δ Q := by
  unfold rf_period at kk
  refine q1_refusesPeriod_0 (by omega) (q7_firstFreeDay_0 (by omega) ?_)
  rw [P.1]
  refine cc_firstDay (by omega) P ⟨fun h => ?_, fun h => ⟨fun h2 => ?_, fun h2 => ⟨fun h3 => ?_, fun h3 => ?_⟩⟩⟩
  · rwa [if_pos (Or.inl h)] at kk
  · rwa [if_pos (Or.inr h2)] at kk
  · rwa [if_neg (fun q => q.elim h h2), if_pos (P.1 ▸ h3)] at kk
  · rwa [if_neg (fun q => q.elim h h2), if_neg (P.1 ▸ h3)] at kk
theorem cc_rfOwner (hd : 7 ≤ d) (A : AbA δ s) {a : Int32} {Q : Int32 → mi_D → Prop} (kk : Q (rf_owner s a) δ) : mi_wI N d 20 0 [.ref 3, .int a] [] δ Q := by
  unfold rf_owner at kk
  refine q1_refusesOwner_0 (by omega) (cc_has (by omega) A (bI_br (fun h => ?_) (fun h => cc_isLeaf (by omega) A (by omega) (bI_br (fun h2 => ?_) (fun h2 => ?_)))))
  · rwa [if_pos h] at kk
  · rwa [if_neg (fun q => q h), if_neg (fun q => h2 ⟨h, q.1⟩)] at kk
  · rw [if_neg (fun q => q h)] at kk
    rw [at_c A.2.2.1]
    exact ⟨fun h3 => by rwa [if_pos ⟨h2.2, h3⟩] at kk, fun h3 => by rwa [if_neg (fun q => h3 q.2)] at kk⟩
theorem cc_rfLine (hd : 8 ≤ d) (A : AbA δ s) {a : Int32} {v : Int64} {Q : Int32 → mi_D → Prop} (kk : Q (rf_line s a v) δ) : mi_wI N d 22 0 [.ref 3, .int a, .long v, .null] [] δ Q := by
  unfold rf_line at kk
  refine q1_refusesLine_0 (by omega) (cc_has (by omega) A (bI_br (fun h => ?_) (fun h => cc_isAmount (by omega) (bI_br (fun h2 => ?_) (fun h2 => cc_isLeaf (by omega) A (by omega) (bI_br (fun h3 => ?_) (fun h3 => ?_)))))))
  · rwa [if_pos h] at kk
  · rw [if_neg (fun q => q h)] at kk
    have : v = 0 ∨ ¬ wtn v 1000000000000000 := by
      by_cases e : v = 0
      · exact Or.inl e
      · exact Or.inr (fun q => h2 ⟨e, q⟩)
    rwa [if_pos this] at kk
  · rwa [if_neg (fun q => q h), if_neg (fun q => q.elim h2.1 (fun z => z h2.2)), if_neg (fun q => h3 ⟨h, q⟩)] at kk
  · rwa [if_neg (fun q => q h), if_neg (fun q => q.elim h2.1 (fun z => z h2.2)), if_pos h3.2] at kk
end RFA
