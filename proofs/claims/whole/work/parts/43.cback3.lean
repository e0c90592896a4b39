section CBK
variable {N d ln la lb lim : Nat} {δ s : mi_D}
theorem cc_turnBack (hd : 8 ≤ d) (hl : mi_Ls ln la lb lim) (A : AbA δ s) (E : AbE δ s) (W : Wf s) {e : Nat} (he : e < nN s 15) {dy : Int32} (hn : nN s 15 < 400) (X : Lx δ ln la lb (negL (entL s e))) {Q : Int32 → mi_D → Prop}
    (k : ∀ δ', AbA δ' (do_back s (nI e) dy) → AbE δ' (do_back s (nI e) dy) → Fr [(17,9),(17,10)] [9,18,19,20,21,22,23,24,25] [11,26] δ δ' → Q (s.1 48 15) δ') : mi_wI N d 29 0 [.ref 3, .int (nI e), .int dy, .ref ln, .null] [] δ Q := by
  have w := W.2.2.1.2.2.2.1 e he
  have hA := entL_A W.2.2.1 he
  refine q1_turnBack_0 (by omega) hl ?_
  rw [at_c E.2.2.1]
  refine cc_enter (by omega) hl A E W.1 W.2.2.1 hn X (by show fromN s (e + 1) - fromN s e ≤ 60; omega) hA (fun δ9 A9 E9 f9 δ10 e10 => ?_)
  rw [pt_row _ _ _ _ (show e < 400 by omega) (by omega)] at e10
  have hdo : do_back s (nI e) dy = mi_setA (do_enter s (negL (entL s e)) dy (mi_at s 59 (nI e)) 1 (nI e)) 62 e (s.1 48 15) := by
    unfold do_back
    rw [nI_clamp (by omega)]
  rw [hdo] at k
  subst e10
  exact k _ ((A9.c (Kp.rowA (by decide))).m (Kp.setA (by decide))) (AbE_22 E9) (f9.tr (Fr.rwA (by decide)))
theorem dbk_k {s : mi_D} {e dy : Int32} : Kp [(48,0),(48,1),(48,2),(48,10),(48,11),(48,12),(48,24),(48,30),(48,31),(48,32),(48,36)] [49,50,51,52,53,54,56,57,66,70,72] [67] s (do_back s e dy) := by
  unfold do_back
  exact den_k.tr (Kp.setA (by decide))
theorem cp_back (hd : 11 ≤ d) (H : Abs δ s) (U : δ.1 2 7 = s.1 48 0) (h1 : s.1 48 1 = 0) (W : Wf s) {e dy : Int32} {Q : Int32 → mi_D → Prop}
    (kk : ∀ δ', Abs δ' (A_back s e dy).2 → KX δ δ' → Q (A_back s e dy).1 δ') : mi_wI N d 120 0 [.ref 2, .int e, .int dy, .null] [] δ Q := by
  unfold A_back at kk
  have hl : mi_Ls 38 39 40 60 := Or.inr (Or.inr ⟨rfl, rfl, rfl, rfl⟩)
  refine q11_back_0 (by omega) ⟨fun h => ?_, fun h => cc_rfBack (by omega) hl rfl H.1 H.2.1 H.2.2.1 W (fun δ1 f1 X1 => ⟨fun hr => ?_, fun hr => ?_⟩)⟩
  · rw [gate_down (U ▸ h)] at kk
    exact kk δ H Kp.rf
  · have hup : ¬ s.1 48 0 = 0 := fun q => h (U.trans q)
    have X1' := X1 hr
    have he : ∃ j, j < nN s 15 ∧ e = nI j := by
      unfold rf_back at hr
      split at hr
      · exact absurd hr (by decide)
      · next q =>
        have q := Decidable.not_not.mp q
        rw [W.2.2.1.1.1] at q
        exact (inR_nI (by have := W.2.2.1.1.2; omega)).mp q
    have hn : nN s 15 < 400 := by
      have hj : rf_judge s (negL (entL s e.toNatClampNeg)) dy = 0 := by
        unfold rf_back at hr
        split at hr
        · exact absurd hr (by decide)
        · split at hr
          · exact absurd hr (by decide)
          · split at hr
            · exact absurd hr (by decide)
            · exact hr
      have q := (rf_judge_0 hj).2
      rw [W.2.2.1.1.1] at q
      exact (nI_ltI (b := 400) (by have := W.2.2.1.1.2; omega) (by omega)).mp q
    obtain ⟨j, hj, ej⟩ := he
    have hj4 : j < 2 ^ 31 := by omega
    subst ej
    rw [nI_clamp hj4] at X1'
    have H1 : Abs δ1 s := H.c (f1.kp (by decide) (by decide) (by decide))
    have K1 : KX δ δ1 := f1.kp (by decide) (by decide) (by decide)
    refine cc_begin (by omega) (fun δ3 X3 w3 f3 => cc_number (by omega) X3 (by show 0 + 10 ≤ 255; omega) (fun δ4 X4 f4 => cc_number (by omega) X4 (by have := enc_len (Int32.toInt64 (nI j)); rw [List.length_append]; show 0 + _ + 10 ≤ 255; omega) (fun δ5 X5 f5 => ?_)))
    have f15 : Fr [(28, 2), (28, 3)] [30] [] δ1 δ5 := (f3.wk (by decide) (by decide) (by decide)).tr ((f4.wk (by decide) (by decide) (by decide)).tr (f5.wk (by decide) (by decide) (by decide)))
    have X5' : Bd δ5 (encI (nI j) ++ encI dy) := X5
    refine cc_commitF (by omega) H1 W h1 f15 X5' (by have := encI_len (nI j); have := encI_len dy; rw [List.length_append]; omega) (what := 6) (by rw [f5.1 _ _ (by decide), f4.1 _ _ (by decide)]; exact w3) (fun hm δ8 A8 P8 E8 J8 D8 S8 K8 f8 => br1 ?_) (fun hm H5 K5 => br0 ?_)
    · rw [gate_ok hup hr hm] at kk
      have X8 : Lx δ8 38 39 40 (negL (entL s j)) := (X1'.fr f15 (by decide) (by decide) (by decide)).fr f8 (by decide) (by decide) (by decide)
      refine cc_turnBack (by omega) hl A8 E8 W hj hn X8 (fun δ9 A9 E9 f9 => ?_)
      exact kk δ9 (abs_jot A9 ((P8.c (f9.kp (by decide) (by decide) (by decide))).m (dbk_k.wk (by decide) (by decide) (by decide))) E9 (J8.c (f9.kp (by decide) (by decide) (by decide))) ((D8.c (f9.kp (by decide) (by decide) (by decide))).m (dbk_k.wk (by decide) (by decide) (by decide))) ((S8.c (f9.kp (by decide) (by decide) (by decide))).m (dbk_k.wk (by decide) (by decide) (by decide))) (dbk_k.wk (by decide) (by decide) (by decide))) ((K1.tr K8).tr (f9.kp (by decide) (by decide) (by decide)))
    · rw [gate_full hup hr hm] at kk
      exact kk δ5 H5 (K1.tr K5)
  · rw [gate_ref (fun q => h (U.trans q)) hr] at kk
    exact kk δ1 (H.c (f1.kp (by decide) (by decide) (by decide))) (f1.kp (by decide) (by decide) (by decide))
end CBK
