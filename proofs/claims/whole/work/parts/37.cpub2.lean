section CCM
variable {N d : Nat} {δ s : mi_D} {B : List Int32} {what : Int32}
theorem cc_commit {δ7 : mi_D} (hd : 6 ≤ d) (H : Abs δ s) (W : Wf s) (h1 : s.1 48 1 = 0) (f : Fr [(28, 2), (28, 3)] [30] [] δ δ7) (X : Bd δ7 B) (hB : B.length ≤ 255) (hw : δ7.1 28 3 = what) {Q : Int32 → mi_D → Prop}
    (k1 : room s B → ∀ δ', AbA δ' s → AbP δ' s → AbE δ' s → AbJ δ' (jot s what B) → AbD δ' s → AbS δ' s → KX δ δ' → Q 1 δ') (k0 : ¬ room s B → Abs δ7 s → KX δ δ7 → Q 0 δ7) : mi_wI N d 54 0 [.ref 28, .null, .null] [] δ7 Q := by
  have H7 : Abs δ7 s := H.c (f.kp (by decide) (by decide) (by decide))
  refine cc_write hd H7.2.2.2.1 W.2.2.2.2.1 h1 X hB hw (fun hm δ8 J8 f8 => k1 hm δ8 (H7.1.c (f8.kp (by decide) (by decide) (by decide))) (H7.2.1.c (f8.kp (by decide) (by decide) (by decide))) (H7.2.2.1.c (f8.kp (by decide) (by decide) (by decide))) J8 (H7.2.2.2.2.1.c (f8.kp (by decide) (by decide) (by decide))) (H7.2.2.2.2.2.c (f8.kp (by decide) (by decide) (by decide))) ((f.kp (by decide) (by decide) (by decide)).tr (f8.kp (by decide) (by decide) (by decide)))) (fun hm => k0 hm H7 (f.kp (by decide) (by decide) (by decide)))
end CCM
section CPUB
variable {N d : Nat} {δ s : mi_D}
theorem cp_owner (hd : 9 ≤ d) (H : Abs δ s) (U : δ.1 2 7 = s.1 48 0) (h1 : s.1 48 1 = 0) (W : Wf s) {a : Int32} {Q : Int32 → mi_D → Prop}
    (kk : ∀ δ', Abs δ' (A_owner s a).2 → KX δ δ' → Q (A_owner s a).1 δ') : mi_wI N d 116 0 [.ref 2, .int a, .null] [] δ Q := by
  unfold A_owner at kk
  refine q11_owner_0 (by omega) ⟨fun h => ?_, fun h => cc_rfOwner (by omega) H.1 ⟨fun hr => ?_, fun hr => ?_⟩⟩
  · rw [gate_down (U ▸ h)] at kk
    exact kk δ H Kp.rf
  · have hup : ¬ s.1 48 0 = 0 := fun q => h (U.trans q)
    refine cc_begin (by omega) (fun δ3 X3 w3 f3 => cc_number (by omega) X3 (by show 0 + 10 ≤ 255; omega) (fun δ4 X4 f4 => ?_))
    refine cc_commit (by omega) H W h1 ((f3.wk (by decide) (by decide) (by decide)).tr (f4.wk (by decide) (by decide) (by decide))) X4 (B := encI a) (by have := encI_len a; omega) (what := 4) (by rw [f4.1 _ _ (by decide)]; exact w3) (fun hm δ5 A5 P5 E5 J5 D5 S5 K5 => br1 (q1_changeOwner_0 (by omega) (fun x1 e1 δ6 e6 => ?_))) (fun hm H4 K4 => br0 ?_)
    · rw [gate_ok hup hr hm] at kk
      subst e6
      rw [e1, P5.2.2.2.2]
      have ks : Kp [(48,0),(48,1),(48,2),(48,11),(48,12),(48,15),(48,24),(48,30),(48,31),(48,32),(48,36)] pmA pmL s (mi_setI s 48 10 a) := Kp.setI (by decide)
      refine kk _ (abs_jot ((A5.c (Kp.setI (by decide))).m (ks.wk (by decide) (by decide) (by decide))) ⟨P5.1, P5.2.1, P5.2.2.1, P5.2.2.2.1, rfl⟩ ((E5.c (Kp.setI (by decide))).m (ks.wk (by decide) (by decide) (by decide))) (J5.c (Kp.setI (by decide))) ((D5.c (Kp.setI (by decide))).m (ks.wk (by decide) (by decide) (by decide))) ((S5.c (Kp.setI (by decide))).m (ks.wk (by decide) (by decide) (by decide))) (ks.wk (by decide) (by decide) (by decide))) (K5.tr (Kp.setI (by decide)))
    · rw [gate_full hup hr hm] at kk
      exact kk δ4 H4 K4
  · rw [gate_ref (fun q => h (U.trans q)) hr] at kk
    exact kk δ H Kp.rf
theorem cp_period (hd : 9 ≤ d) (H : Abs δ s) (U : δ.1 2 7 = s.1 48 0) (h1 : s.1 48 1 = 0) (W : Wf s) {a : Int32} {Q : Int32 → mi_D → Prop}
    (kk : ∀ δ', Abs δ' (A_period s a).2 → KX δ δ' → Q (A_period s a).1 δ') : mi_wI N d 115 0 [.ref 2, .int a, .null] [] δ Q := by
  unfold A_period at kk
  refine q11_period_0 (by omega) ⟨fun h => ?_, fun h => cc_rfPeriod (by omega) H.2.1 ⟨fun hr => ?_, fun hr => ?_⟩⟩
  · rw [gate_down (U ▸ h)] at kk
    exact kk δ H Kp.rf
  · have hup : ¬ s.1 48 0 = 0 := fun q => h (U.trans q)
    have hb := W.2.1.1.2
    have hn : nN s 11 < 24 := by
      unfold rf_period at hr
      split at hr
      · exact absurd hr (by decide)
      · split at hr
        · next h24 =>
          rw [W.2.1.1.1] at h24
          exact (nI_ltI (b := 24) (by omega) (by omega)).mp h24
        · exact absurd hr (by decide)
    refine cc_begin (by omega) (fun δ3 X3 w3 f3 => cc_number (by omega) X3 (by show 0 + 10 ≤ 255; omega) (fun δ4 X4 f4 => ?_))
    refine cc_commit (by omega) H W h1 ((f3.wk (by decide) (by decide) (by decide)).tr (f4.wk (by decide) (by decide) (by decide))) X4 (B := encI a) (by have := encI_len a; omega) (what := 3) (by rw [f4.1 _ _ (by decide)]; exact w3) (fun hm δ5 A5 P5 E5 J5 D5 S5 K5 => br1 (q7_add_0 (by omega) (fun x1 e1 δ6 e6 δ7 e7 δ8 e8 => ?_))) (fun hm H4 K4 => br0 ?_)
    · rw [gate_ok hup hr hm] at kk
      have e1' : x1 = nI (nN s 11) := by rw [e1, P5.1, W.2.1.1.1]
      have e11 : s.1 48 11 = nI (nN s 11) := W.2.1.1.1
      subst e1'
      rw [pt_row _ _ _ _ hn (by omega)] at e6 e7
      subst e8 e7 e6
      rw [← e11]
      have ks : Kp [(48,0),(48,1),(48,2),(48,10),(48,12),(48,15),(48,24),(48,30),(48,31),(48,32),(48,36)] [49,50,51,52,53,54,58,59,60,61,62,63,64,66,70,72] pmL s (do_period s a) := ((Kp.setA (by decide)).tr (Kp.setA (by decide))).tr (Kp.setI (by decide))
      have fr : ∀ v, Fr [(14, 2)] [15, 16] [] δ5 (mi_setI (rowA (rowA δ5 15 (up1 (δ5.2.1 15) (nN s 11) a)) 16 (up1 ((rowA δ5 15 (up1 (δ5.2.1 15) (nN s 11) a)).2.1 16) (nN s 11) (-1))) 14 2 v) := fun v => ((Fr.rwA (by decide)).xA (by decide)).xI (by decide)
      refine kk _ (abs_jot ((A5.c ((fr _).kp (by decide) (by decide) (by decide))).m (ks.wk (by decide) (by decide) (by decide))) ?_ ((E5.c ((fr _).kp (by decide) (by decide) (by decide))).m (ks.wk (by decide) (by decide) (by decide))) (J5.c ((fr _).kp (by decide) (by decide) (by decide))) ((D5.c ((fr _).kp (by decide) (by decide) (by decide))).m (ks.wk (by decide) (by decide) (by decide))) ((S5.c ((fr _).kp (by decide) (by decide) (by decide))).m (ks.wk (by decide) (by decide) (by decide))) (ks.wk (by decide) (by decide) (by decide))) (K5.tr ((fr _).kp (by decide) (by decide) (by decide)))
      unfold AbP do_period
      simp only [pI_f, pI_a, pI_l, pA_f, pA_a, pA_l, pL_f, pL_a, pL_l, rA_f, rA_a, rA_l, rL_f, rL_a, rL_l, reduceIte, Nat.reduceEqDiff, and_self, and_true, true_and, and_false, false_and]
      exact ⟨by rw [P5.1], P5.2.1, by rw [P5.2.2.1], by rw [P5.2.2.2.1], P5.2.2.2.2⟩
    · rw [gate_full hup hr hm] at kk
      exact kk δ4 H4 K4
  · rw [gate_ref (fun q => h (U.trans q)) hr] at kk
    exact kk δ H Kp.rf
end CPUB
