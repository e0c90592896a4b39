section CPUB
variable {N d : Nat} {δ s : mi_D}
theorem cp_line (hd : 10 ≤ d) (H : Abs δ s) (U : δ.1 2 7 = s.1 48 0) (W : Wf s) {a : Int32} {v : Int64} {Q : Int32 → mi_D → Prop}
    (kk : ∀ δ', Abs δ' (A_line s a v).2 → KX δ δ' → Q (A_line s a v).1 δ') : mi_wI N d 117 0 [.ref 2, .int a, .long v, .null, .null] [] δ Q := by
  unfold A_line at kk
  have hb := W.2.2.2.1.1.2
  have e24 := W.2.2.2.1.1.1
  refine q11_line_0 (by omega) ⟨fun h => ?_, fun h => cc_rfLine (by omega) H.1 ⟨fun hr => ⟨fun h8 => ?_, fun h8 => ?_⟩, fun hr => ?_⟩⟩
  · rw [if_pos (U ▸ h)] at kk
    exact kk δ H Kp.rf
  · have hup : ¬ s.1 48 0 = 0 := fun q => h (U.trans q)
    rw [H.2.2.2.2.1.1] at h8
    rw [if_neg hup, if_neg (fun q => q hr), if_neg (fun q => q h8)] at kk
    rw [e24] at h8
    have hn : nN s 24 < 8 := (nI_ltI (b := 8) (by omega) (by omega)).mp h8
    refine q5_add_0 (by omega) (Or.inr (Or.inl ⟨rfl, rfl, rfl, rfl⟩)) (fun δ1 e1 δ2 e2 δ3 e3 => ?_)
    have e35 : δ.1 35 2 = nI (nN s 24) := H.2.2.2.2.1.1.trans e24
    rw [e35, pt_row _ _ _ _ hn (by omega)] at e1
    have f1 : δ1.1 35 2 = nI (nN s 24) := by rw [e1]; exact e35
    rw [f1, pl_row _ _ _ _ hn (by omega)] at e2
    subst e3 e2 e1
    have fr : ∀ w, Fr [(35, 2)] [36] [37] δ (mi_setI (rowL (rowA δ 36 (up1 (δ.2.1 36) (nN s 24) a)) 37 (up1 ((rowA δ 36 (up1 (δ.2.1 36) (nN s 24) a)).2.2 37) (nN s 24) v)) 35 2 w) := fun w => ((Fr.rwA (by decide)).xL (by decide)).xI (by decide)
    have ks : Kp [(48,0),(48,1),(48,2),(48,10),(48,11),(48,12),(48,15),(48,30),(48,31),(48,32),(48,36)] [49,50,51,52,53,54,56,57,58,59,60,61,62,63,64,70,72] [55,65] s (mi_setI (mi_setL (mi_setA s 66 (nN s 24) a) 67 (nN s 24) v) 48 24 (s.1 48 24 + 1)) := ((Kp.setA (by decide)).tr (Kp.setL (by decide))).tr (Kp.setI (by decide))
    have key := kk _ ⟨(H.1.c ((fr _).kp (by decide) (by decide) (by decide))).m (ks.wk (by decide) (by decide) (by decide)), (H.2.1.c ((fr _).kp (by decide) (by decide) (by decide))).m (ks.wk (by decide) (by decide) (by decide)), (H.2.2.1.c ((fr _).kp (by decide) (by decide) (by decide))).m (ks.wk (by decide) (by decide) (by decide)), (H.2.2.2.1.c ((fr _).kp (by decide) (by decide) (by decide))).m (ks.wk (by decide) (by decide) (by decide)), ⟨by rw [pI_f, if_pos ⟨rfl, rfl⟩, pI_f, if_pos ⟨rfl, rfl⟩], by simp only [pI_f, pI_a, pI_l, pA_f, pA_a, pA_l, pL_f, pL_a, pL_l, rA_f, rA_a, rA_l, rL_f, rL_a, rL_l, reduceIte, Nat.reduceEqDiff, and_self, and_true, true_and, and_false, false_and]; rw [H.2.2.2.2.1.2.1], by simp only [pI_f, pI_a, pI_l, pA_f, pA_a, pA_l, pL_f, pL_a, pL_l, rA_f, rA_a, rA_l, rL_f, rL_a, rL_l, reduceIte, Nat.reduceEqDiff, and_self, and_true, true_and, and_false, false_and]; rw [H.2.2.2.2.1.2.2]⟩, (H.2.2.2.2.2.c ((fr _).kp (by decide) (by decide) (by decide))).m (ks.wk (by decide) (by decide) (by decide))⟩ ((fr _).kp (by decide) (by decide) (by decide))
    have e10 : (rowL (rowA δ 36 (up1 (δ.2.1 36) (nN s 24) a)) 37 (up1 ((rowA δ 36 (up1 (δ.2.1 36) (nN s 24) a)).2.2 37) (nN s 24) v)).1 35 2 = s.1 48 24 := H.2.2.2.2.1.1
    rw [e10, pI_f, if_pos ⟨rfl, rfl⟩]
    exact key
  · have hup : ¬ s.1 48 0 = 0 := fun q => h (U.trans q)
    rw [H.2.2.2.2.1.1] at h8
    rw [if_neg hup, if_neg (fun q => q hr), if_pos h8] at kk
    exact kk δ H Kp.rf
  · rw [if_neg (fun q => h (U.trans q)), if_pos hr] at kk
    exact kk δ H Kp.rf
end CPUB
