/-! what the calls keep; the law's state between its steps -/
def kI (s s' : mi_D) : Prop := s'.1 48 0 = s.1 48 0 ∧ s'.1 48 1 = s.1 48 1 ∧ (s.1 48 0 = 0 → s' = s)
section KEEP
variable {s : mi_D}
theorem kI_rf : kI s s := ⟨rfl, rfl, fun _ => rfl⟩
theorem kI_gate {rf what ans : Int32} {B : List Int32} {s' : mi_D} (h0 : s'.1 48 0 = s.1 48 0) (h1 : s'.1 48 1 = s.1 48 1) : kI s (gate s rf what ans B s').2 := by
  unfold gate
  by_cases a : s.1 48 0 = 0
  · rw [if_pos a]; exact kI_rf
  · rw [if_neg a]
    split
    · exact kI_rf
    · split
      · refine ⟨?_, ?_, fun q => absurd q a⟩
        · unfold jot
          split
          · exact h0
          · exact h0
        · unfold jot
          split
          · exact h1
          · exact h1
      · exact kI_rf
theorem ke_0 (l : Ln) (d t so of : Int32) : (do_enter s l d t so of).1 48 0 = s.1 48 0 := rfl
theorem ke_1 (l : Ln) (d t so of : Int32) : (do_enter s l d t so of).1 48 1 = s.1 48 1 := rfl
theorem kI_account {c k p g : Int32} : kI s (A_account s c k p g).2 := kI_gate rfl rfl
theorem kI_shut {a on : Int32} : kI s (A_shut s a on).2 := kI_gate rfl rfl
theorem kI_period {a : Int32} : kI s (A_period s a).2 := kI_gate rfl rfl
theorem kI_owner {a : Int32} : kI s (A_owner s a).2 := kI_gate rfl rfl
theorem kI_posted {l : Ln} {d t : Int32} : kI s (A_posted s l d t).2 := kI_gate rfl rfl
theorem kI_post {d t : Int32} : kI s (A_post s d t).2 := by
  have h := kI_posted (s := s) (l := draftL s) (d := d) (t := t)
  unfold A_post undraft
  split
  · exact h
  · next hn =>
    refine ⟨h.1, h.2.1, fun q => ?_⟩
    refine absurd ?_ hn
    unfold A_posted gate
    rw [if_pos q]
    show (-6 : Int32) < 0
    decide
theorem kI_back {e d : Int32} : kI s (A_back s e d).2 := kI_gate rfl rfl
theorem kI_close : kI s (A_close s).2 := by
  refine kI_gate ?_ ?_
  · show (if 0 < (cloL s (s.1 48 12)).1 then mi_setA (do_enter s (cloL s (s.1 48 12)) (mi_at s 56 (s.1 48 12)) 0 2 (s.1 48 12)) 57 (nN s 12) (s.1 48 15) else s).1 48 0 = _
    split <;> rfl
  · show (if 0 < (cloL s (s.1 48 12)).1 then mi_setA (do_enter s (cloL s (s.1 48 12)) (mi_at s 56 (s.1 48 12)) 0 2 (s.1 48 12)) 57 (nN s 12) (s.1 48 15) else s).1 48 1 = _
    split <;> rfl
theorem kI_reopen : kI s (A_reopen s).2 := by
  refine kI_gate ?_ ?_
  · show (if 0 < (opnL s).1 then mi_setA (do_enter s (opnL s) (mi_at s 56 (s.1 48 12 - 1)) 0 3 (s.1 48 12 - 1)) 57 (nN s 12 - 1) (-1) else s).1 48 0 = _
    split <;> rfl
  · show (if 0 < (opnL s).1 then mi_setA (do_enter s (opnL s) (mi_at s 56 (s.1 48 12 - 1)) 0 3 (s.1 48 12 - 1)) 57 (nN s 12 - 1) (-1) else s).1 48 1 = _
    split <;> rfl
theorem kI_line {a : Int32} {v : Int64} : kI s (A_line s a v).2 := by
  unfold A_line
  by_cases h : s.1 48 0 = 0
  · rw [if_pos h]; exact kI_rf
  · rw [if_neg h]
    split
    · exact kI_rf
    · split
      · exact kI_rf
      · exact ⟨rfl, rfl, fun q => absurd q h⟩
theorem kI_drop : kI s (A_drop s).2 := by
  unfold A_drop
  by_cases h : s.1 48 0 = 0
  · rw [if_pos h]; exact kI_rf
  · rw [if_neg h]; exact ⟨rfl, rfl, fun q => absurd q h⟩
theorem kI_sync : kI s (A_sync s).2 := by
  unfold A_sync
  by_cases h : s.1 48 0 = 0
  · rw [if_pos h]; exact kI_rf
  · rw [if_neg h]; exact ⟨rfl, rfl, fun q => absurd q h⟩
theorem kI_sheet {w : Int32} : kI s (A_sheet s w).2 := by
  unfold A_sheet
  by_cases h : s.1 48 0 = 0
  · rw [if_pos h]; exact kI_rf
  · rw [if_neg h]
    split
    · exact kI_rf
    · split
      · exact ⟨rfl, rfl, fun q => absurd q h⟩
      · exact ⟨rfl, rfl, fun q => absurd q h⟩
theorem crash_ok {n b : Int32} (h1 : s.1 48 1 = 0) (hD : s.1 48 0 = 0 → s.1 48 24 = 0) : (A_crash s n b).2.1 48 1 = 0 ∧ ((A_crash s n b).2.1 48 0 = 0 → (A_crash s n b).2.1 48 24 = 0) := by
  unfold A_crash
  split
  · exact ⟨h1, hD⟩
  · refine ⟨?_, fun _ => rfl⟩
    show (tear s n b).1 48 1 = 0
    unfold tear
    split
    · exact h1
    · exact h1
theorem recover_ok (W : Wf s) (h1 : s.1 48 1 = 0) (hD : s.1 48 0 = 0 → s.1 48 24 = 0) : (A_recover s).2.1 48 1 = 0 ∧ ((A_recover s).2.1 48 0 = 0 → (A_recover s).2.1 48 24 = 0) := by
  unfold A_recover
  split
  · exact ⟨h1, hD⟩
  · have h := (rcv_ok (f := s.2.1 70) (n := nN s 30) 6001 (rec0 s) 0 (rs_0 W) (Nat.zero_le _)).1
    exact ⟨rfl, fun q => absurd q h.2.1⟩
end KEEP
def Jv (δ : mi_D) : Prop := Abs δ δ ∧ δ.1 2 7 = δ.1 48 0 ∧ Wf δ ∧ δ.1 48 1 = 0 ∧ (δ.1 48 0 = 0 → δ.1 48 24 = 0) ∧ LTR δ
abbrev KK (δ δ' : mi_D) : Prop := Kp pcF (0 :: 1 :: pcA) pcL δ δ'
theorem Abs.c0 {δ δ' s : mi_D} (h : Abs δ s) (k : KK δ δ') : Abs δ' s := ⟨h.1.c (k.wk (by decide) (by decide) (by decide)), h.2.1.c (k.wk (by decide) (by decide) (by decide)), h.2.2.1.c (k.wk (by decide) (by decide) (by decide)), h.2.2.2.1.c (k.wk (by decide) (by decide) (by decide)), h.2.2.2.2.1.c (k.wk (by decide) (by decide) (by decide)), h.2.2.2.2.2.c (k.wk (by decide) (by decide) (by decide))⟩
theorem wf_agr {s δ : mi_D} (W : Wf s) (G : Agr s δ) : Wf δ := ⟨W.1.m (G.wk (by decide) (by decide) (by decide)), W.2.1.m (G.wk (by decide) (by decide) (by decide)), W.2.2.1.m (G.wk (by decide) (by decide) (by decide)), W.2.2.2.1.m (G.wk (by decide) (by decide) (by decide)), W.2.2.2.2.1.m (G.wk (by decide) (by decide) (by decide)), W.2.2.2.2.2.m (G.wk (by decide) (by decide) (by decide))⟩
theorem jv_mk {s δ1 δ2 : mi_D} (A : Abs δ1 s) (U : δ1.1 2 7 = s.1 48 0) (LT : LTR δ1) (W : Wf s) (h1 : s.1 48 1 = 0) (hD : s.1 48 0 = 0 → s.1 48 24 = 0) (G : Agr s δ2) (K : KK δ1 δ2) : Jv δ2 :=
  ⟨(A.c0 K).m G, by rw [K.1 (2, 7) (by decide), U, G.1 (48, 0) (by decide)], wf_agr W G, by rw [G.1 (48, 1) (by decide)]; exact h1, by rw [G.1 (48, 0) (by decide), G.1 (48, 24) (by decide)]; exact hD, fun j hj => by rw [K.2.1 1 (by decide)]; exact LT j hj⟩
theorem jv_up {δ s δ1 δ2 : mi_D} (J : Jv δ) (k : kI δ s) (W : Wf s) (A : Abs δ1 s) (K1 : KX δ δ1) (G : Agr s δ2) (K : KC δ1 δ2) : Jv δ2 :=
  jv_mk A (by rw [K1.1 (2, 7) (by decide), J.2.1, k.1]) (fun j hj => by rw [K1.2.1 1 (by decide)]; exact J.2.2.2.2.2 j hj) W (k.2.1.trans J.2.2.2.1) (fun q => by
    have e := k.2.2 (k.1.symm.trans q)
    rw [e] at q ⊢
    exact J.2.2.2.2.1 q) G (K.wk (by decide) (by decide) (by decide))
