section CLP
variable {N d ln la lb lim : Nat} {δ s : mi_D}
theorem cc_closePeriod (hd : 8 ≤ d) (hl : mi_Ls ln la lb lim) (A : AbA δ s) (P : AbP δ s) (E : AbE δ s) (W : Wf s) (ho : ¬ s.1 48 10 = -1) (hc : nN s 12 < nN s 11) (hn : 0 < (cloL s (s.1 48 12)).1 → nN s 15 < 400) (X : Lx δ ln la lb (cloL s (s.1 48 12))) {Q : Int32 → mi_D → Prop}
    (k : ∀ δ', AbA δ' (do_close s) → AbP δ' (do_close s) → AbE δ' (do_close s) → Fr [(14,3),(17,9),(17,10)] [9,16,18,19,20,21,22,23,24,25] [11,26] δ δ' → Q (s.1 48 12) δ') : mi_wI N d 33 0 [.ref 3, .ref ln, .null, .null] [] δ Q := by
  have h24 := W.2.1.1.2
  have e12 : s.1 48 12 = nI (nN s 12) := W.2.1.2.1.1
  have hO := clo_ok W.1 W.2.1 ho (s.1 48 12)
  unfold do_close at k
  refine q1_closePeriod_0 (by omega) hl (fun x1 e1 => ?_)
  rw [P.2.1] at e1
  subst e1
  rw [X.1]
  refine ⟨fun h => q7_lastDay_0 (by omega) ?_, fun h => ?_⟩
  · have h0 : 0 < (cloL s (s.1 48 12)).1 := (nI_ltI (a := 0) (by omega) (by omega)).mp (nI_0.symm ▸ h)
    rw [if_pos h0] at k
    rw [at_c P.2.2.1]
    refine cc_enter (by omega) hl A E W.1 W.2.2.1 (hn h0) X hO.1 hO.2.1 (fun δ9 A9 E9 f9 => q1_closePeriod_34 (by omega) hl (q7_closeFirstOpen_0 (by omega) (fun δ10 e10 δ11 e11 => ?_)))
    have P9 : AbP δ9 (do_enter s (cloL s (s.1 48 12)) (mi_at s 56 (s.1 48 12)) 0 2 (s.1 48 12)) := (P.c (f9.kp (by decide) (by decide) (by decide))).m (den_k.wk (by decide) (by decide) (by decide))
    have g3 : δ9.1 14 3 = s.1 48 12 := (P.c (f9.kp (by decide) (by decide) (by decide))).2.1
    rw [g3, e12, pt_row _ _ _ _ (show nN s 12 < 24 by omega) (by omega)] at e10
    have g4 : δ10.1 14 3 = s.1 48 12 := by rw [e10]; exact g3
    rw [g4] at e11
    have F11 : Fr [(14, 3)] [16] [] δ9 δ11 := by rw [e11, e10]; exact (Fr.rwA (by decide)).xI (by decide)
    have ks : ∀ v w, Kp [(48,0),(48,1),(48,2),(48,10),(48,11),(48,15),(48,24),(48,30),(48,31),(48,32),(48,36)] [49,50,51,52,53,54,56,58,59,60,61,62,63,64,66,70,72] pmL (do_enter s (cloL s (s.1 48 12)) (mi_at s 56 (s.1 48 12)) 0 2 (s.1 48 12)) (mi_setI (mi_setA (do_enter s (cloL s (s.1 48 12)) (mi_at s 56 (s.1 48 12)) 0 2 (s.1 48 12)) 57 (nN s 12) v) 48 12 w) := fun v w => (Kp.setA (by decide)).tr (Kp.setI (by decide))
    refine k δ11 ((A9.c (F11.kp (by decide) (by decide) (by decide))).m ((ks _ _).wk (by decide) (by decide) (by decide))) ?_ ((E9.c (F11.kp (by decide) (by decide) (by decide))).m ((ks _ _).wk (by decide) (by decide) (by decide))) ((f9.wk (by decide) (by decide) (by decide)).tr (F11.wk (by decide) (by decide) (by decide)))
    subst e11 e10
    have d1 : (do_enter s (cloL s (s.1 48 12)) (mi_at s 56 (s.1 48 12)) 0 2 (s.1 48 12)).1 48 11 = s.1 48 11 := den_k.1 (48, 11) (by decide)
    unfold AbP at P9 ⊢
    simp only [pI_f, pI_a, pI_l, pA_f, pA_a, pA_l, pL_f, pL_a, pL_l, rA_f, rA_a, rA_l, rL_f, rL_a, rL_l, reduceIte, Nat.reduceEqDiff, and_self, and_true, true_and, and_false, false_and]
    exact ⟨P9.1, P9.2.2.1, by rw [P9.2.2.2.1], P9.2.2.2.2⟩
  · have h0 : ¬ 0 < (cloL s (s.1 48 12)).1 := fun q => h (nI_0 ▸ nI_lt q (by omega))
    rw [if_neg h0] at k
    refine q1_closePeriod_34 (by omega) hl (q7_closeFirstOpen_0 (by omega) (fun δ10 e10 δ11 e11 => ?_))
    have g3 : δ.1 14 3 = s.1 48 12 := P.2.1
    rw [g3, e12, pt_row _ _ _ _ (show nN s 12 < 24 by omega) (by omega)] at e10
    have g16 : up1 (δ.2.1 16) (nN s 12) (-1) = δ.2.1 16 := by
      funext j
      by_cases q : j = nN s 12
      · subst q
        rw [up1_s, P.2.2.2.1]
        rcases W.2.1.2.2.2.2.1 _ hc with z | z
        · exact z.symm
        · exact absurd z.1 (Nat.lt_irrefl _)
      · exact up1_n _ _ q
    rw [g16, rowA_self] at e10
    subst e10
    rw [g3] at e11
    subst e11
    have ks : Kp [(48,0),(48,1),(48,2),(48,10),(48,11),(48,15),(48,24),(48,30),(48,31),(48,32),(48,36)] pmA pmL s (mi_setI s 48 12 (s.1 48 12 + 1)) := Kp.setI (by decide)
    exact k _ ((A.c (Kp.setI (by decide))).m (ks.wk (by decide) (by decide) (by decide))) ⟨P.1, rfl, P.2.2.1, P.2.2.2.1, P.2.2.2.2⟩ ((E.c (Kp.setI (by decide))).m (ks.wk (by decide) (by decide) (by decide))) (Fr.setI (by decide))
theorem opn_ok {s : mi_D} (W : Wf s) (hc : 0 < nN s 12) : (mi_at s 57 (s.1 48 12 - 1) = s.2.1 57 (nN s 12 - 1)) ∧ ((s.2.1 57 (nN s 12 - 1) = -1 ∧ (opnL s).1 = 0) ∨ ∃ e, e < nN s 15 ∧ s.2.1 57 (nN s 12 - 1) = nI e ∧ opnL s = negL (entL s e) ∧ s.2.1 58 e = s.2.1 56 (nN s 12 - 1) ∧ s.2.1 59 e = 0 ∧ 0 < (opnL s).1 ∧ (opnL s).1 ≤ 60) := by
  have h24 := W.2.1.1.2
  have hle := W.2.1.2.2.1
  have hn := W.2.2.1.1.2
  have e12 : s.1 48 12 - 1 = nI (nN s 12 - 1) := by
    obtain ⟨m, em⟩ : ∃ m, nN s 12 = m + 1 := ⟨nN s 12 - 1, by omega⟩
    rw [W.2.1.2.1.1, em, nI_pred]
    rfl
  have ea : mi_at s 57 (s.1 48 12 - 1) = s.2.1 57 (nN s 12 - 1) := by rw [e12, mi_at_nI _ _ (by omega)]
  refine ⟨ea, ?_⟩
  unfold opnL
  rw [ea]
  rcases W.2.1.2.2.2.2.1 (nN s 12 - 1) (by omega) with z | ⟨_, e, he, z, z1, z2, z3⟩
  · exact Or.inl ⟨z, by rw [if_pos z]⟩
  · refine Or.inr ⟨e, he, z, ?_, z1, z2, ?_⟩
    · rw [z, if_neg (nI_ne1 (by omega)), nI_clamp (by omega)]
    · have w := W.2.2.1.2.2.2.1 e he
      rw [z, if_neg (nI_ne1 (by omega)), nI_clamp (by omega)]
      exact ⟨by show 0 < fromN s (e + 1) - fromN s e; omega, by show fromN s (e + 1) - fromN s e ≤ 60; omega⟩
theorem opn_A {s : mi_D} (W : Wf s) (hc : 0 < nN s 12) : (opnL s).1 ≤ 60 ∧ LnA (nN s 2) (opnL s) := by
  rcases (opn_ok W hc).2 with ⟨_, z⟩ | ⟨e, he, _, z, _, _, _, z2⟩
  · exact ⟨by omega, fun i hi => by omega⟩
  · exact ⟨z2, by rw [z]; exact entL_A W.2.2.1 he⟩
theorem cc_rfReopen (hd : 9 ≤ d) (hl : mi_Ls ln la lb lim) (h60 : lim = 60) (A : AbA δ s) (P : AbP δ s) (E : AbE δ s) (W : Wf s) {Q : Int32 → mi_D → Prop}
    (k : ∀ δ', Fr [(ln, 2)] [la] [lb, 27] δ δ' → (rf_reopen s = 0 → Lx δ' ln la lb (opnL s)) → Q (rf_reopen s) δ') : mi_wI N d 34 0 [.ref 3, .ref ln, .null] [] δ Q := by
  have k0 := k δ (Fr.rf _ _ _ _)
  unfold rf_reopen at k k0
  have h24 := W.2.1.1.2
  have hle := W.2.1.2.2.1
  have e12 : s.1 48 12 = nI (nN s 12) := W.2.1.2.1.1
  have hb := W.1.1.2
  have hlb : 27 ∉ [lb] ∧ lb ∉ [27] := by rcases hl with ⟨_, _, rfl, _⟩ | ⟨_, _, rfl, _⟩ | ⟨_, _, rfl, _⟩ <;> decide
  refine q1_refusesReopen_0 (by omega) hl ?_
  rw [P.2.1]
  refine ⟨fun h => cc_lclear (by omega) hl ?_, fun h => ?_⟩
  · have h0 : 0 < nN s 12 := (nI_ltI (a := 0) (by omega) (by omega)).mp (by rw [nI_0, ← e12]; exact h)
    have hz : ¬ s.1 48 12 = 0 := fun q => by rw [q] at h; exact absurd h (by decide)
    rw [if_neg hz] at k
    obtain ⟨ea, eo⟩ := opn_ok W h0
    have hA := opn_A W h0
    have f1 : Fr [(ln, 2)] [la] [lb] δ (mi_setI δ ln 2 0) := Fr.setI (List.mem_singleton.mpr rfl)
    have fin : ∀ δ1 x, Lx δ1 ln la lb (opnL s) → Fr [(ln, 2)] [la] [lb] δ δ1 → mi_wI N d 34 48 [.ref 3, .ref ln, .int x] [] δ1 Q := by
      intro δ1 x X1 f1
      refine q1_refusesReopen_48 (by omega) hl (cc_unj (by omega) hl (A.c (Ls_c hl f1 h60 (by decide) (by decide) (by decide))) ((E.c (Ls_c hl f1 h60 (by decide) (by decide) (by decide))).1) X1 hA.1 (hA.2.up hb) (fun δ2 f2 => ?_))
      exact k δ2 ((f1.wk (fun _ q => q) (fun _ q => q) (fun p q => List.mem_cons.mpr (Or.inl (List.mem_singleton.mp q)))).tr (f2.wk (fun p q => absurd q List.not_mem_nil) (fun p q => absurd q List.not_mem_nil) (fun p q => List.mem_cons.mpr (Or.inr q)))) (fun _ => X1.fr f2 List.not_mem_nil List.not_mem_nil hlb.2)
    have P1 := P.c (Ls_c hl f1 h60 (fs := [(14,2),(14,3),(3,3)]) (as := [15,16]) (ls := []) (by decide) (by decide) (by decide))
    have E1 := E.c (Ls_c hl f1 h60 (fs := [(17,9),(17,10)]) (as := [9,18,19,20,21,22,23,24,25]) (ls := [26]) (by decide) (by decide) (by decide))
    refine q7_closingOf_0 (by omega) ?_
    rw [P1.2.1, at_c P1.2.2.2.1, ea]
    rcases eo with ⟨z, z1⟩ | ⟨e, he, z, z1, _⟩
    · rw [z]
      refine ⟨fun _ => fin _ _ ⟨?_, fun i hi => by omega, fun i hi => by omega⟩ f1, fun q => absurd rfl q⟩
      rw [pI_f, if_pos ⟨rfl, rfl⟩, z1]
      exact nI_0.symm
    · have hn := W.2.2.1.1.2
      rw [z]
      refine ⟨fun q => absurd q (nI_ne1 (by omega)), fun _ => cc_turn (by omega) hl h60 E1 W.2.2.1 he (fun δ2 X2 f2 => fin δ2 _ (by rw [z1]; exact X2) (f1.tr f2))⟩
  · have hz : s.1 48 12 = 0 := by
      rcases Nat.eq_zero_or_pos (nN s 12) with q | q
      · rw [e12, q]; exact nI_0
      · exact absurd (by rw [e12]; exact nI_0 ▸ nI_lt q (by omega)) h
    rw [if_pos hz] at k0
    exact k0 (fun q => absurd q (by decide))
theorem cc_reopenPeriod (hd : 8 ≤ d) (hl : mi_Ls ln la lb lim) (A : AbA δ s) (P : AbP δ s) (E : AbE δ s) (W : Wf s) (hc : 0 < nN s 12) (hn : 0 < (opnL s).1 → nN s 15 < 400) (X : Lx δ ln la lb (opnL s)) {Q : Int32 → mi_D → Prop}
    (k : ∀ δ', AbA δ' (do_reopen s) → AbP δ' (do_reopen s) → AbE δ' (do_reopen s) → Fr [(14,3),(17,9),(17,10)] [9,16,18,19,20,21,22,23,24,25] [11,26] δ δ' → Q (s.1 48 12 - 1) δ') : mi_wI N d 35 0 [.ref 3, .ref ln, .null] [] δ Q := by
  have h24 := W.2.1.1.2
  have hle := W.2.1.2.2.1
  have hO := opn_A W hc
  obtain ⟨ea, eo⟩ := opn_ok W hc
  have e12 : s.1 48 12 - 1 = nI (nN s 12 - 1) := by
    obtain ⟨m, em⟩ : ∃ m, nN s 12 = m + 1 := ⟨nN s 12 - 1, by omega⟩
    rw [W.2.1.2.1.1, em, nI_pred]
    rfl
  unfold do_reopen at k
  refine q1_reopenPeriod_0 (by omega) hl (fun x1 e1 => ?_)
  rw [P.2.1] at e1
  subst e1
  rw [X.1]
  refine ⟨fun h => q7_lastDay_0 (by omega) ?_, fun h => ?_⟩
  · have h0 : 0 < (opnL s).1 := (nI_ltI (a := 0) (by omega) (by omega)).mp (nI_0.symm ▸ h)
    rw [if_pos h0] at k
    rw [at_c P.2.2.1]
    refine cc_enter (by omega) hl A E W.1 W.2.2.1 (hn h0) X hO.1 hO.2 (fun δ9 A9 E9 f9 => q1_reopenPeriod_34 (by omega) hl (q7_openLastClosed_0 (by omega) (fun δ10 e10 δ11 e11 => ?_)))
    have P9 : AbP δ9 (do_enter s (opnL s) (mi_at s 56 (s.1 48 12 - 1)) 0 3 (s.1 48 12 - 1)) := (P.c (f9.kp (by decide) (by decide) (by decide))).m (den_k.wk (by decide) (by decide) (by decide))
    have g3 : δ9.1 14 3 = s.1 48 12 := (P.c (f9.kp (by decide) (by decide) (by decide))).2.1
    rw [g3] at e10
    have g4 : δ10.1 14 3 = s.1 48 12 - 1 := by rw [e10, pI_f, if_pos ⟨rfl, rfl⟩]
    rw [g4, e12, pt_row _ _ _ _ (show nN s 12 - 1 < 24 by omega) (by omega)] at e11
    have F11 : Fr [(14, 3)] [16] [] δ9 δ11 := by rw [e11, e10]; exact (Fr.setI (by decide)).xA (by decide)
    have ks : ∀ v w, Kp [(48,0),(48,1),(48,2),(48,10),(48,11),(48,15),(48,24),(48,30),(48,31),(48,32),(48,36)] [49,50,51,52,53,54,56,58,59,60,61,62,63,64,66,70,72] pmL (do_enter s (opnL s) (mi_at s 56 (s.1 48 12 - 1)) 0 3 (s.1 48 12 - 1)) (mi_setI (mi_setA (do_enter s (opnL s) (mi_at s 56 (s.1 48 12 - 1)) 0 3 (s.1 48 12 - 1)) 57 (nN s 12 - 1) v) 48 12 w) := fun v w => (Kp.setA (by decide)).tr (Kp.setI (by decide))
    refine k δ11 ((A9.c (F11.kp (by decide) (by decide) (by decide))).m ((ks _ _).wk (by decide) (by decide) (by decide))) ?_ ((E9.c (F11.kp (by decide) (by decide) (by decide))).m ((ks _ _).wk (by decide) (by decide) (by decide))) ((f9.wk (by decide) (by decide) (by decide)).tr (F11.wk (by decide) (by decide) (by decide)))
    subst e11 e10
    unfold AbP at P9 ⊢
    simp only [pI_f, pI_a, pI_l, pA_f, pA_a, pA_l, pL_f, pL_a, pL_l, rA_f, rA_a, rA_l, rL_f, rL_a, rL_l, reduceIte, Nat.reduceEqDiff, and_self, and_true, true_and, and_false, false_and]
    exact ⟨P9.1, P9.2.2.1, by rw [P9.2.2.2.1], P9.2.2.2.2⟩
  · have h0 : ¬ 0 < (opnL s).1 := fun q => h (nI_0 ▸ nI_lt q (by omega))
    rw [if_neg h0] at k
    refine q1_reopenPeriod_34 (by omega) hl (q7_openLastClosed_0 (by omega) (fun δ10 e10 δ11 e11 => ?_))
    have g3 : δ.1 14 3 = s.1 48 12 := P.2.1
    rw [g3] at e10
    have g4 : δ10.1 14 3 = s.1 48 12 - 1 := by rw [e10, pI_f, if_pos ⟨rfl, rfl⟩]
    rw [g4, e12, pt_row _ _ _ _ (show nN s 12 - 1 < 24 by omega) (by omega)] at e11
    have g16 : up1 (δ10.2.1 16) (nN s 12 - 1) (-1) = δ10.2.1 16 := by
      have e16 : δ10.2.1 16 = s.2.1 57 := by rw [e10]; exact P.2.2.2.1
      rw [e16]
      funext j
      by_cases q : j = nN s 12 - 1
      · subst q
        rw [up1_s]
        rcases eo with ⟨z, _⟩ | ⟨e, _, _, _, _, _, z, _⟩
        · exact z.symm
        · exact absurd z h0
      · exact up1_n _ _ q
    rw [g16, rowA_self] at e11
    subst e11
    subst e10
    have ks : Kp [(48,0),(48,1),(48,2),(48,10),(48,11),(48,15),(48,24),(48,30),(48,31),(48,32),(48,36)] pmA pmL s (mi_setI s 48 12 (s.1 48 12 - 1)) := Kp.setI (by decide)
    exact k _ ((A.c (Kp.setI (by decide))).m (ks.wk (by decide) (by decide) (by decide))) ⟨P.1, rfl, P.2.2.1, P.2.2.2.1, P.2.2.2.2⟩ ((E.c (Kp.setI (by decide))).m (ks.wk (by decide) (by decide) (by decide))) (Fr.setI (by decide))
end CLP
section CPC
variable {N d : Nat} {δ s : mi_D}
theorem dcl_k {s : mi_D} : Kp [(48,0),(48,1),(48,2),(48,10),(48,11),(48,24),(48,30),(48,31),(48,32),(48,36)] [49,50,51,52,53,54,56,66,70,72] [67] s (do_close s) := by
  unfold do_close
  split
  · exact (den_k.wk (by decide) (by decide) (by decide)).tr ((Kp.setA (by decide)).tr (Kp.setI (by decide)))
  · exact Kp.setI (by decide)
theorem drp_k {s : mi_D} : Kp [(48,0),(48,1),(48,2),(48,10),(48,11),(48,24),(48,30),(48,31),(48,32),(48,36)] [49,50,51,52,53,54,56,66,70,72] [67] s (do_reopen s) := by
  unfold do_reopen
  split
  · exact (den_k.wk (by decide) (by decide) (by decide)).tr ((Kp.setA (by decide)).tr (Kp.setI (by decide)))
  · exact Kp.setI (by decide)
theorem rfc_0 {s : mi_D} (W : Wf s) (hr : rf_close s = 0) : ¬ s.1 48 10 = -1 ∧ nN s 12 < nN s 11 ∧ (0 < (cloL s (s.1 48 12)).1 → nN s 15 < 400) := by
  have h24 := W.2.1.1.2
  unfold rf_close at hr
  split at hr
  · exact absurd hr (by decide)
  · next q =>
    have q1 : s.1 48 12 < s.1 48 11 := Decidable.not_not.mp (fun z => q (Or.inl z))
    rw [W.2.1.1.1, W.2.1.2.1.1] at q1
    refine ⟨fun z => q (Or.inr z), (nI_ltI (by have := W.2.1.2.2.1; omega) (by omega)).mp q1, fun z => ?_⟩
    have q2 := (rf_unj_0 hr).2 z
    rw [W.2.2.1.1.1] at q2
    exact (nI_ltI (b := 400) (by have := W.2.2.1.1.2; omega) (by omega)).mp q2
theorem rfo_0 {s : mi_D} (W : Wf s) (hr : rf_reopen s = 0) : 0 < nN s 12 ∧ (0 < (opnL s).1 → nN s 15 < 400) := by
  unfold rf_reopen at hr
  split at hr
  · exact absurd hr (by decide)
  · next q =>
    refine ⟨?_, fun z => ?_⟩
    · rcases Nat.eq_zero_or_pos (nN s 12) with z | z
      · exact absurd (by rw [W.2.1.2.1.1, z]; exact nI_0) q
      · exact z
    · have q2 := (rf_unj_0 hr).2 z
      rw [W.2.2.1.1.1] at q2
      exact (nI_ltI (b := 400) (by have := W.2.2.1.1.2; omega) (by omega)).mp q2
theorem cp_close (hd : 11 ≤ d) (H : Abs δ s) (U : δ.1 2 7 = s.1 48 0) (h1 : s.1 48 1 = 0) (W : Wf s) {Q : Int32 → mi_D → Prop}
    (kk : ∀ δ', Abs δ' (A_close s).2 → KX δ δ' → Q (A_close s).1 δ') : mi_wI N d 121 0 [.ref 2, .null] [] δ Q := by
  unfold A_close at kk
  have hl : mi_Ls 38 39 40 60 := Or.inr (Or.inr ⟨rfl, rfl, rfl, rfl⟩)
  refine q11_close_0 (by omega) ⟨fun h => ?_, fun h => cc_rfClose (by omega) hl rfl H.1 H.2.1 H.2.2.1 W (fun δ1 f1 X1 => ⟨fun hr => ?_, fun hr => ?_⟩)⟩
  · rw [gate_down (U ▸ h)] at kk
    exact kk δ H Kp.rf
  · have hup : ¬ s.1 48 0 = 0 := fun q => h (U.trans q)
    have X1' := X1 hr
    obtain ⟨ho, hc, hn⟩ := rfc_0 W hr
    have H1 : Abs δ1 s := H.c (f1.kp (by decide) (by decide) (by decide))
    have K1 : KX δ δ1 := f1.kp (by decide) (by decide) (by decide)
    refine cc_begin (by omega) (fun δ3 X3 w3 f3 => ?_)
    have f15 : Fr [(28, 2), (28, 3)] [30] [] δ1 δ3 := f3.wk (by decide) (by decide) (by decide)
    refine cc_commitF (by omega) H1 W h1 f15 X3 (by show 0 ≤ 255; omega) (what := 7) w3 (fun hm δ8 A8 P8 E8 J8 D8 S8 K8 f8 => br1 ?_) (fun hm H5 K5 => br0 ?_)
    · rw [gate_ok hup hr hm] at kk
      have X8 : Lx δ8 38 39 40 (cloL s (s.1 48 12)) := (X1'.fr f15 (by decide) (by decide) (by decide)).fr f8 (by decide) (by decide) (by decide)
      refine cc_closePeriod (by omega) hl A8 P8 E8 W ho hc hn X8 (fun δ9 A9 P9 E9 f9 => ?_)
      exact kk δ9 (abs_jot A9 P9 E9 (J8.c (f9.kp (by decide) (by decide) (by decide))) ((D8.c (f9.kp (by decide) (by decide) (by decide))).m (dcl_k.wk (by decide) (by decide) (by decide))) ((S8.c (f9.kp (by decide) (by decide) (by decide))).m (dcl_k.wk (by decide) (by decide) (by decide))) (dcl_k.wk (by decide) (by decide) (by decide))) ((K1.tr K8).tr (f9.kp (by decide) (by decide) (by decide)))
    · rw [gate_full hup hr hm] at kk
      exact kk δ3 H5 (K1.tr K5)
  · rw [gate_ref (fun q => h (U.trans q)) hr] at kk
    exact kk δ1 (H.c (f1.kp (by decide) (by decide) (by decide))) (f1.kp (by decide) (by decide) (by decide))
theorem cp_reopen (hd : 11 ≤ d) (H : Abs δ s) (U : δ.1 2 7 = s.1 48 0) (h1 : s.1 48 1 = 0) (W : Wf s) {Q : Int32 → mi_D → Prop}
    (kk : ∀ δ', Abs δ' (A_reopen s).2 → KX δ δ' → Q (A_reopen s).1 δ') : mi_wI N d 122 0 [.ref 2, .null] [] δ Q := by
  unfold A_reopen at kk
  have hl : mi_Ls 38 39 40 60 := Or.inr (Or.inr ⟨rfl, rfl, rfl, rfl⟩)
  refine q11_reopen_0 (by omega) ⟨fun h => ?_, fun h => cc_rfReopen (by omega) hl rfl H.1 H.2.1 H.2.2.1 W (fun δ1 f1 X1 => ⟨fun hr => ?_, fun hr => ?_⟩)⟩
  · rw [gate_down (U ▸ h)] at kk
    exact kk δ H Kp.rf
  · have hup : ¬ s.1 48 0 = 0 := fun q => h (U.trans q)
    have X1' := X1 hr
    obtain ⟨hc, hn⟩ := rfo_0 W hr
    have H1 : Abs δ1 s := H.c (f1.kp (by decide) (by decide) (by decide))
    have K1 : KX δ δ1 := f1.kp (by decide) (by decide) (by decide)
    refine cc_begin (by omega) (fun δ3 X3 w3 f3 => ?_)
    have f15 : Fr [(28, 2), (28, 3)] [30] [] δ1 δ3 := f3.wk (by decide) (by decide) (by decide)
    refine cc_commitF (by omega) H1 W h1 f15 X3 (by show 0 ≤ 255; omega) (what := 8) w3 (fun hm δ8 A8 P8 E8 J8 D8 S8 K8 f8 => br1 ?_) (fun hm H5 K5 => br0 ?_)
    · rw [gate_ok hup hr hm] at kk
      have X8 : Lx δ8 38 39 40 (opnL s) := (X1'.fr f15 (by decide) (by decide) (by decide)).fr f8 (by decide) (by decide) (by decide)
      refine cc_reopenPeriod (by omega) hl A8 P8 E8 W hc hn X8 (fun δ9 A9 P9 E9 f9 => ?_)
      exact kk δ9 (abs_jot A9 P9 E9 (J8.c (f9.kp (by decide) (by decide) (by decide))) ((D8.c (f9.kp (by decide) (by decide) (by decide))).m (drp_k.wk (by decide) (by decide) (by decide))) ((S8.c (f9.kp (by decide) (by decide) (by decide))).m (drp_k.wk (by decide) (by decide) (by decide))) (drp_k.wk (by decide) (by decide) (by decide))) ((K1.tr K8).tr (f9.kp (by decide) (by decide) (by decide)))
    · rw [gate_full hup hr hm] at kk
      exact kk δ3 H5 (K1.tr K5)
  · rw [gate_ref (fun q => h (U.trans q)) hr] at kk
    exact kk δ1 (H.c (f1.kp (by decide) (by decide) (by decide))) (f1.kp (by decide) (by decide) (by decide))
end CPC
