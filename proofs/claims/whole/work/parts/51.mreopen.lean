def do_reopen0 (s : mi_D) : mi_D := if 0 < (opnL s).1 then mi_setA (do_enter s (opnL s) (mi_at s 56 (s.1 48 12 - 1)) 0 3 (s.1 48 12 - 1)) 57 (nN s 12 - 1) (-1) else s
theorem drp0_k {s : mi_D} : Kp [(48,0),(48,1),(48,2),(48,10),(48,11),(48,12),(48,24),(48,30),(48,31),(48,32),(48,36)] [49,50,51,52,53,54,56,66,70,72] [67] s (do_reopen0 s) := by
  unfold do_reopen0
  split
  · exact (den_k.wk (by decide) (by decide) (by decide)).tr (Kp.setA (by decide))
  · exact Kp.rf
theorem drp_0 (s : mi_D) : do_reopen s = mi_setI (do_reopen0 s) 48 12 (s.1 48 12 - 1) := rfl
section MRO
variable {N d : Nat} {δ s : mi_D}
theorem cm_reopen (hd : 9 ≤ d) (G : Agr s δ) (W : Wf s) {Q : Int32 → mi_D → Prop}
    (kk : ∀ δ', Agr (A_reopen s).2 δ' → KC δ δ' → Q (A_reopen s).1 δ') : mi_wI N d 177 0 [.ref 48, .null, .null] [] δ Q := by
  have h24 := W.2.1.1.2
  have hle := W.2.1.2.2.1
  have h60 := W.1.1.2
  have hn := W.2.2.1.1.2
  have e12 : s.1 48 12 = nI (nN s 12) := W.2.1.2.1.1
  have e15 : s.1 48 15 = nI (nN s 15) := W.2.2.1.1.1
  unfold A_reopen at kk
  have e0 : δ.1 48 0 = s.1 48 0 := G.1 (48, 0) (by decide)
  have d12 : δ.1 48 12 = s.1 48 12 := G.1 (48, 12) (by decide)
  refine q12_reopen_0 (by omega) ?_
  rw [e0, d12]
  refine ⟨fun h => ?_, fun hup => ⟨fun h => ?_, fun h x1 e1 δ2 e2 => ?_⟩⟩
  · rw [gate_down h] at kk
    exact kk δ G Kp.rf
  · have hr : rf_reopen s = -6 := by unfold rf_reopen; rw [if_pos h]
    rw [gate_ref hup (by rw [hr]; decide), hr] at kk
    exact kk δ G Kp.rf
  have hrf : rf_reopen s = rf_unj s (opnL s) := by unfold rf_reopen; rw [if_neg h]
  have hc : 0 < nN s 12 := by
    rcases Nat.eq_zero_or_pos (nN s 12) with z | z
    · exact absurd (by rw [e12, z]; exact nI_0) h
    · exact z
  obtain ⟨hO1, hO2⟩ := opn_A W hc
  obtain ⟨ea, eo⟩ := opn_ok W hc
  have ep : s.1 48 12 - 1 = nI (nN s 12 - 1) := by
    obtain ⟨m, em⟩ : ∃ m, nN s 12 = m + 1 := ⟨nN s 12 - 1, by omega⟩
    rw [e12, em, nI_pred]
    rfl
  obtain ⟨p, eqp⟩ : ∃ p, nN s 12 - 1 = p := ⟨_, rfl⟩
  have hp : p < 24 := by omega
  rw [eqp] at ep
  rw [ep] at e1
  subst e1
  have hx : mi_ix (nI p) 24 = true := mi_ix_nI hp (by omega)
  have f2 : Fr [(48, 27)] [68] [69] δ δ2 := by rw [e2]; exact Fr.setI (by decide)
  have G2 : Agr s δ2 := G.fr f2 (by decide) (by decide) (by decide)
  have tail83 : ∀ δ', Lm δ' (opnL s) → Fr [(48, 27), (48, 34)] [68, 71] [69] δ δ' → Bm δ' [] → ¬ over s (opnL s) → (0 < (opnL s).1 → s.1 48 15 < 400) → mi_wI N d 177 83 [.ref 48, .int (nI p), .null] [] δ' Q := by
    intro δ' X' f' B' hno h400
    have G' : Agr s δ' := G.fr f' (by decide) (by decide) (by decide)
    have K' : KC δ δ' := f'.kp (by decide) (by decide) (by decide)
    have hr : rf_reopen s = 0 := by
      rw [hrf]
      unfold rf_unj
      rw [if_neg hno, if_neg (fun z => z.2 (h400 z.1))]
    have last : ∀ δ5, Agr (do_reopen0 s) δ5 → KC δ δ5 → Bm δ5 [] → room s [] → (∀ δ1 : mi_D, δ1 = mi_setI δ5 48 12 ((δ5.1 48 12) - 1) → (mi_wV N (d - 1) 155 0 [.ref 48, .int 8, .null, .null] [] δ1 (fun δ2 => Q (nI p) δ2))) := by
      intro δ5 G5 K5 B5 hm δ6 e6
      rw [gate_ok hup hr hm] at kk
      have s12 : δ5.1 48 12 = s.1 48 12 := (G5.1 (48, 12) (by decide)).trans (drp0_k.1 (48, 12) (by decide))
      rw [s12] at e6
      have G6 : Agr (do_reopen s) δ6 := by
        rw [e6, drp_0]
        exact G5.sI _ _ _
      have F6 : Fr [(48, 12)] [] [] δ5 δ6 := by rw [e6]; exact Fr.setI (by decide)
      rw [← ep]
      exact cm_write (by omega) G6 (W.2.2.2.2.1.m (drp_k.wk (by decide) (by decide) (by decide))) (B5.fr F6 (by decide) (by decide)) (by show 0 ≤ 255; omega) (room_m (drp_k.wk (by decide) (by decide) (by decide)) hm) (fun δ7 G7 F7 => kk δ7 G7 ((K5.tr (F6.kp (by decide) (by decide) (by decide))).tr (F7.kp (by decide) (by decide) (by decide))))
    refine q12_reopen_83 (by omega) (cm_hasRoom (by omega) G' W.2.2.2.2.1 B' (by show 0 ≤ 300; omega) (bI_br (fun hm => ?_) (fun hm => ?_)))
    · rw [gate_full hup hr hm] at kk
      exact kk _ G' K'
    · rw [X'.1]
      refine ⟨fun h0 => ⟨hx, ?_⟩, fun h0 => ?_⟩
      · have h0' : 0 < (opnL s).1 := (nI_ltI (a := 0) (by omega) (by omega)).mp (nI_0.symm ▸ h0)
        obtain ⟨e, he, z, z1, z2, z3, z4, z5⟩ := eo.resolve_left (fun q => by omega)
        have hn4 : nN s 15 < 400 := by
          have q2 := h400 h0'
          rw [e15] at q2
          exact (nI_ltI (b := 400) (by omega) (by omega)).mp q2
        rw [eqp] at z z2
        have e57 : δ'.2.1 57 (nI p).toNatClampNeg = nI e := by rw [nI_clamp (by omega), G'.2.1 57 (by decide), z]
        rw [e57, nI_clamp (show e < 2 ^ 31 by omega), G'.2.1 58 (by decide), G'.2.1 59 (by decide), z2, z3]
        have hx4 : mi_ix (nI e) 400 = true := mi_ix_nI (by omega) (by omega)
        have e56 : mi_at s 56 (s.1 48 12 - 1) = s.2.1 56 p := by rw [ep, mi_at_nI _ _ (by omega)]
        refine ⟨hx4, hx, hx4, ?_⟩
        rw [← e56, ← ep]
        refine cm_enter (by omega) G' W.1 W.2.2.1 hn4 X' hO1 hO2 (fun δ3 G3 f3 => ⟨by rw [ep]; exact hx, fun δ5 e5 => q12_reopen_136a (by omega) ?_⟩)
        rw [ep, nI_clamp (by omega)] at e5
        have F5 : Fr [] [57] [] δ3 δ5 := by rw [e5]; exact Fr.setA (by decide)
        rw [ep]
        refine last δ5 ?_ ((K'.tr (f3.kp (by decide) (by decide) (by decide))).tr (F5.kp (by decide) (by decide) (by decide))) ((B'.fr f3 (by decide) (by decide)).fr F5 (by decide) (by decide)) hm
        unfold do_reopen0
        rw [if_pos h0', e5, eqp]
        exact G3.sA _ _ _
      · have h0' : ¬ 0 < (opnL s).1 := fun q => h0 (nI_0 ▸ nI_lt q (by omega))
        refine q12_reopen_136 (by omega) (last _ ?_ K' B' hm)
        unfold do_reopen0
        rw [if_neg h0']
        exact G'
  have tail52 : ∀ δ', Lm δ' (opnL s) → Fr [(48, 27)] [68] [69] δ δ' → mi_wI N d 177 52 [.ref 48, .int (nI p), .null] [] δ' Q := by
    intro δ' X' f'
    have G' : Agr s δ' := G.fr f' (by decide) (by decide) (by decide)
    refine q12_reopen_52 (by omega) (cm_isOver (by omega) G' W.1 X' hO1 hO2 (bI_br (fun hno => cm_begin (by omega) (fun δ3 B3 f3 => ?_)) (fun hov => ?_)))
    · have X3 := X'.fr f3 (by decide) (by decide) (by decide)
      have F3 : Fr [(48, 27), (48, 34)] [68, 71] [69] δ δ3 := (f'.wk (by decide) (by decide) (by decide)).tr (f3.wk (by decide) (by decide) (by decide))
      have d15 : δ3.1 48 15 = nI (nN s 15) := ((G.fr F3 (by decide) (by decide) (by decide)).1 (48, 15) (by decide)).trans e15
      have hlt : nI (nN s 15) = 400 ↔ ¬ s.1 48 15 < 400 := by rw [e15]; exact nI_eqv (m := 400) hn (by omega)
      rw [X3.1, d15]
      refine ⟨fun h0 => ⟨fun q => ?_, fun q => tail83 δ3 X3 F3 B3 hno (fun _ => Decidable.not_not.mp (fun z => q (hlt.mpr z)))⟩, fun h0 => tail83 δ3 X3 F3 B3 hno (fun z => absurd (nI_0 ▸ nI_lt z (by omega)) h0)⟩
      have h0' : 0 < (opnL s).1 := (nI_ltI (a := 0) (by omega) (by omega)).mp (nI_0.symm ▸ h0)
      have hr : rf_reopen s = -13 := by
        rw [hrf]
        unfold rf_unj
        rw [if_neg hno, if_pos ⟨h0', hlt.mp q⟩]
      rw [gate_ref hup (by rw [hr]; decide), hr] at kk
      exact kk δ3 (G.fr F3 (by decide) (by decide) (by decide)) (F3.kp (by decide) (by decide) (by decide))
    · have hr : rf_reopen s = -12 := by
        rw [hrf]
        unfold rf_unj
        rw [if_pos hov]
      rw [gate_ref hup (by rw [hr]; decide), hr] at kk
      exact kk δ' G' (f'.kp (by decide) (by decide) (by decide))
  refine ⟨hx, ?_⟩
  rw [nI_clamp (by omega), G2.2.1 57 (by decide)]
  rw [eqp] at eo
  rcases eo with ⟨z, z1⟩ | ⟨e, he, z, z1, _⟩
  · refine ⟨fun _ => tail52 δ2 ⟨by rw [e2, pI_f, if_pos ⟨rfl, rfl⟩, z1]; exact nI_0.symm, fun i hi => by omega, fun i hi => by omega⟩ f2, fun q => absurd z q⟩
  · rw [z]
    refine ⟨fun q => absurd q (nI_ne1 (by omega)), fun _ => ⟨hx, cm_turned (by omega) G2 W.2.2.1 he (fun δ3 X3 f3 => tail52 δ3 (by rw [z1]; exact X3) (f2.tr f3))⟩⟩
end MRO
