section CPUB
variable {N d : Nat} {δ s : mi_D}
theorem cp_shut (hd : 9 ≤ d) (H : Abs δ s) (U : δ.1 2 7 = s.1 48 0) (h1 : s.1 48 1 = 0) (W : Wf s) {a on : Int32} {Q : Int32 → mi_D → Prop}
    (kk : ∀ δ', Abs δ' (A_shut s a on).2 → KX δ δ' → Q (A_shut s a on).1 δ') : mi_wI N d 114 0 [.ref 2, .int a, .int on, .null] [] δ Q := by
  unfold A_shut at kk
  refine q11_shut_0 (by omega) ⟨fun h => ?_, fun h => cc_rfShut (by omega) H.1 W.1 ⟨fun hr => ?_, fun hr => ?_⟩⟩
  · rw [gate_down (U ▸ h)] at kk
    exact kk δ H Kp.rf
  · have hup : ¬ s.1 48 0 = 0 := fun q => h (U.trans q)
    have hb := W.1.1.2
    have ha : isAc s a := by
      unfold rf_shut at hr
      split at hr
      · exact absurd hr (by decide)
      · next q => exact Decidable.not_not.mp q
    have ha2 := ha
    unfold isAc at ha2
    rw [W.1.1.1] at ha2
    obtain ⟨j, hj, ej⟩ := (inR_nI (by omega)).mp ha2
    have fin : ∀ δ4 gg x, Bd δ4 (encI a) → δ4.1 28 3 = 2 → Fr [(28, 2), (28, 3)] [30] [] δ δ4 → gg = Int32.toInt64 (bI (¬ on = 0)) → mi_wI N d 114 56 [.ref 2, .int a, .int on, .int x] [.long gg, .ref 28] δ4 Q := by
      intro δ4 gg x X4 w4 f4 eg
      subst eg
      have la := encI_len a
      refine q11_shut_56 (by omega) (cc_number (by omega) X4 (by omega) (fun δ5 X5 f5 => ?_))
      have X5' : Bd δ5 (encI a ++ encI (bI (¬ on = 0))) := X5
      refine cc_commit (by omega) H W h1 (f4.tr (f5.wk (by decide) (by decide) (by decide))) X5' (by have := encI_len (bI (¬ on = 0)); rw [List.length_append]; omega) (what := 2) (by rw [f5.1 _ _ (by decide)]; exact w4) (fun hm δ6 A6 P6 E6 J6 D6 S6 K6 => br1 ?_) (fun hm H5 K5 => br0 ?_)
      · rw [gate_ok hup hr hm] at kk
        rw [ej]
        refine cc_setShut (by omega) (by omega) ?_
        have ks : Kp pmF [49,50,51,52,53,56,57,58,59,60,61,62,63,64,66,70,72] pmL s (do_shut s a on) := Kp.setA (by decide)
        have key := kk (mi_setA δ6 13 j (bI (¬ on = 0))) (abs_jot ?_ ((P6.c (Kp.setA (by decide))).m (ks.wk (by decide) (by decide) (by decide))) ((E6.c (Kp.setA (by decide))).m (ks.wk (by decide) (by decide) (by decide))) (J6.c (Kp.setA (by decide))) ((D6.c (Kp.setA (by decide))).m (ks.wk (by decide) (by decide) (by decide))) ((S6.c (Kp.setA (by decide))).m (ks.wk (by decide) (by decide) (by decide))) (ks.wk (by decide) (by decide) (by decide))) (K6.tr (Kp.setA (by decide)))
        · exact ⟨fun q => by rwa [bI_1 q] at key, fun q => by rwa [bI_0 q] at key⟩
        · unfold AbA do_shut nN
          rw [ej, nI_clamp (by omega)]
          simp only [pI_f, pI_a, pI_l, pA_f, pA_a, pA_l, pL_f, pL_a, pL_l, rA_f, rA_a, rA_l, rL_f, rL_a, rL_l, reduceIte, Nat.reduceEqDiff, and_self, and_true, true_and, and_false, false_and]
          exact ⟨A6.1, A6.2.1, A6.2.2.1, A6.2.2.2.1, A6.2.2.2.2.1, A6.2.2.2.2.2.1, by rw [A6.2.2.2.2.2.2.1], A6.2.2.2.2.2.2.2.1, A6.2.2.2.2.2.2.2.2⟩
      · rw [gate_full hup hr hm] at kk
        exact kk δ5 H5 K5
    refine cc_begin (by omega) (fun δ3 X3 w3 f3 => cc_number (by omega) X3 (by show 0 + 10 ≤ 255; omega) (fun δ4 X4 f4 => ?_))
    have w4 : δ4.1 28 3 = 2 := by rw [f4.1 _ _ (by decide)]; exact w3
    have ff : Fr [(28, 2), (28, 3)] [30] [] δ δ4 := (f3.wk (by decide) (by decide) (by decide)).tr (f4.wk (by decide) (by decide) (by decide))
    exact ⟨fun hg => fin δ4 0 _ X4 w4 ff (by rw [bI_0 (fun q => q hg)]; rfl), fun hg => fin δ4 1 _ X4 w4 ff (by rw [bI_1 hg]; rfl)⟩
  · rw [gate_ref (fun q => h (U.trans q)) hr] at kk
    exact kk δ H Kp.rf
theorem cp_drop (hd : 9 ≤ d) (H : Abs δ s) (U : δ.1 2 7 = s.1 48 0) {Q : Int32 → mi_D → Prop}
    (kk : ∀ δ', Abs δ' (A_drop s).2 → KX δ δ' → Q (A_drop s).1 δ') : mi_wI N d 118 0 [.ref 2, .null] [] δ Q := by
  unfold A_drop at kk
  refine q11_drop_0 (by omega) ⟨fun h => ?_, fun h x1 e1 => cc_lclear (by omega) (Or.inr (Or.inl ⟨rfl, rfl, rfl, rfl⟩)) ?_⟩
  · rw [if_pos (U ▸ h)] at kk
    exact kk δ H Kp.rf
  · rw [if_neg (fun q => h (U.trans q))] at kk
    rw [e1, H.2.2.2.2.1.1]
    have ks : Kp [(48,0),(48,1),(48,2),(48,10),(48,11),(48,12),(48,15),(48,30),(48,31),(48,32),(48,36)] pmA pmL s (mi_setI s 48 24 0) := Kp.setI (by decide)
    exact kk _ ⟨(H.1.c (Kp.setI (by decide))).m (ks.wk (by decide) (by decide) (by decide)), (H.2.1.c (Kp.setI (by decide))).m (ks.wk (by decide) (by decide) (by decide)), (H.2.2.1.c (Kp.setI (by decide))).m (ks.wk (by decide) (by decide) (by decide)), (H.2.2.2.1.c (Kp.setI (by decide))).m (ks.wk (by decide) (by decide) (by decide)), ⟨rfl, H.2.2.2.2.1.2.1, H.2.2.2.2.1.2.2⟩, (H.2.2.2.2.2.c (Kp.setI (by decide))).m (ks.wk (by decide) (by decide) (by decide))⟩ (Kp.setI (by decide))
end CPUB
