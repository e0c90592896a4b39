/-! the law's loop -/
theorem kI_share {s : mi_D} {a d t : Int32} {v : Int64} : kI s (A_share s a v d t).2 := by
  unfold A_share
  by_cases h : s.1 48 0 = 0
  · rw [if_pos h]; exact kI_rf
  · rw [if_neg h]
    split
    · exact kI_rf
    · have k := kI_posted (s := s) (l := shL s a v) (d := d) (t := t)
      unfold undraft
      split
      · exact k
      · exact ⟨k.1, k.2.1, fun q => absurd q h⟩
theorem brQ {P A B : Prop} (h : P → A) (h' : ¬ P → B) : (P → A) ∧ (¬ P → B) := ⟨h, h'⟩
section LAW
variable {N d : Nat}
theorem law_step (hd : 21 ≤ d) (hN : N < 2 ^ 30) {Q : Int32 → mi_D → Prop} {i : Nat} (hi : i + 8 ≤ N) (nx : ∀ δ, Jv δ → mi_wI N d 210 18 [.ref 0, .ref 2, .ref 48, .int (nI i + 8)] [] δ Q) {δ : mi_D} (J : Jv δ) : mi_wI N d 210 18 [.ref 0, .ref 2, .ref 48, .int (nI i)] [] δ Q := by
  obtain ⟨H, U, W, h1, hD, LT⟩ := id J
  have I0 : mi_ix (nI i) N = true := mi_ix_nI (by omega) (by omega)
  have I1 : mi_ix (nI i + 1) N = true := by rw [show (1 : Int32) = nI 1 by decide, nI_add]; exact mi_ix_nI (by omega) (by omega)
  have I2 : mi_ix (nI i + 2) N = true := by rw [show (2 : Int32) = nI 2 by decide, nI_add]; exact mi_ix_nI (by omega) (by omega)
  have I3 : mi_ix (nI i + 3) N = true := by rw [show (3 : Int32) = nI 3 by decide, nI_add]; exact mi_ix_nI (by omega) (by omega)
  have I4 : mi_ix (nI i + 4) N = true := by rw [show (4 : Int32) = nI 4 by decide, nI_add]; exact mi_ix_nI (by omega) (by omega)
  have I5 : mi_ix (nI i + 5) N = true := by rw [show (5 : Int32) = nI 5 by decide, nI_add]; exact mi_ix_nI (by omega) (by omega)
  have I6 : mi_ix (nI i + 6) N = true := by rw [show (6 : Int32) = nI 6 by decide, nI_add]; exact mi_ix_nI (by omega) (by omega)
  have I7 : mi_ix (nI i + 7) N = true := by rw [show (7 : Int32) = nI 7 by decide, nI_add]; exact mi_ix_nI (by omega) (by omega)
  have G0 : ∀ {δ1 : mi_D}, KX δ δ1 → Agr δ δ1 := fun K => K.wk (by decide) (by decide) (by decide)
  have G : Agr δ δ := Kp.rf
  have exit : ¬ nI N - 8 < nI i := by
    rw [show (8 : Int32) = nI 8 by decide, pk_sub (show 8 ≤ N by omega)]
    exact nI_nlt (by omega) (by omega)
  refine qL_law_18 (by omega) (brF exit ⟨I0, ?_⟩)
  have cs_account : ∀ w : Int32, ((w = 0 ∧ δ.2.1 0 (Int32.toNatClampNeg (nI i + 4)) = 0) ∨ (w = 1 ∧ ¬ δ.2.1 0 (Int32.toNatClampNeg (nI i + 4)) = 0)) → mi_wI N d 210 181 [.ref 0, .ref 2, .ref 48, .int (nI i)] [.int w, .int (δ.2.1 0 (Int32.toNatClampNeg (nI i + 3))), .int (δ.2.1 0 (Int32.toNatClampNeg (nI i + 2))), .int (δ.2.1 0 (Int32.toNatClampNeg (nI i + 1))), .ref 2] δ Q := by
    intro w hw
    refine qL_law_181 (by omega) (cp_account (by omega) H U h1 W (fun δ1 A1 K1 => ⟨I1, I2, I3, I4, ?_⟩))
    have e0 : δ1.2.1 0 = δ.2.1 0 := K1.2.1 0 (by decide)
    rw [e0]
    have fin : mi_wI N d 210 213 [.ref 0, .ref 2, .ref 48, .int (nI i)] [.int w, .int (δ.2.1 0 (Int32.toNatClampNeg (nI i + 3))), .int (δ.2.1 0 (Int32.toNatClampNeg (nI i + 2))), .int (δ.2.1 0 (Int32.toNatClampNeg (nI i + 1))), .ref 48, .int _] δ1 Q := qL_law_213 (by omega) (cm_account (by omega) (G0 K1) W (hw.imp (fun q => q.1) (fun q => q.1)) (fun δ2 G2 K2 => brT rfl (nx δ2 (jv_up J kI_account (wf_account W) A1 K1 G2 K2))))
    rcases hw with ⟨rfl, z⟩ | ⟨rfl, z⟩
    · exact brT z fin
    · exact brF z fin
  have cs_shut : ∀ w : Int32, ((w = 0 ∧ δ.2.1 0 (Int32.toNatClampNeg (nI i + 2)) = 0) ∨ (w = 1 ∧ ¬ δ.2.1 0 (Int32.toNatClampNeg (nI i + 2)) = 0)) → mi_wI N d 210 240 [.ref 0, .ref 2, .ref 48, .int (nI i)] [.int w, .int (δ.2.1 0 (Int32.toNatClampNeg (nI i + 1))), .ref 2] δ Q := by
    intro w hw
    refine qL_law_240 (by omega) (cp_shut (by omega) H U h1 W (fun δ1 A1 K1 => ⟨I1, I2, ?_⟩))
    have e0 : δ1.2.1 0 = δ.2.1 0 := K1.2.1 0 (by decide)
    rw [e0]
    have fin : mi_wI N d 210 262 [.ref 0, .ref 2, .ref 48, .int (nI i)] [.int w, .int (δ.2.1 0 (Int32.toNatClampNeg (nI i + 1))), .ref 48, .int _] δ1 Q := qL_law_262 (by omega) (cm_shut (by omega) (G0 K1) W (hw.imp (fun q => q.1) (fun q => q.1)) (fun δ2 G2 K2 => brT rfl (nx δ2 (jv_up J kI_shut (wf_shut W) A1 K1 G2 K2))))
    rcases hw with ⟨rfl, z⟩ | ⟨rfl, z⟩
    · exact brT z fin
    · exact brF z fin
  refine ⟨fun z => ⟨I1, I2, I3, I4, brQ (fun q => cs_account 0 (Or.inl ⟨rfl, q⟩)) (fun q => cs_account 1 (Or.inr ⟨rfl, q⟩))⟩, ?_⟩
  refine ⟨fun z => ⟨I1, I2, brQ (fun q => cs_shut 0 (Or.inl ⟨rfl, q⟩)) (fun q => cs_shut 1 (Or.inr ⟨rfl, q⟩))⟩, ?_⟩
  refine ⟨fun _ => ⟨I1, cp_period (by omega) H U h1 W (fun δ1 A1 K1 => ?c2)⟩, ?_⟩
  case c2 =>
    have e0 : δ1.2.1 0 = δ.2.1 0 := K1.2.1 0 (by decide)
    rw [e0]
    exact ⟨I1, cm_period (by omega) (G0 K1) W (fun δ2 G2 K2 => brT rfl (nx δ2 (jv_up J kI_period (wf_period W) A1 K1 G2 K2)))⟩
  refine ⟨fun _ => ⟨I1, cp_owner (by omega) H U h1 W (fun δ1 A1 K1 => ?c3)⟩, ?_⟩
  case c3 =>
    have e0 : δ1.2.1 0 = δ.2.1 0 := K1.2.1 0 (by decide)
    rw [e0]
    exact ⟨I1, cm_owner (by omega) (G0 K1) W (fun δ2 G2 K2 => brT rfl (nx δ2 (jv_up J kI_owner (wf_owner W) A1 K1 G2 K2)))⟩
  refine ⟨fun _ => ⟨I1, I2, I3, cp_line (by omega) H U W (fun δ1 A1 K1 => ?c4)⟩, ?_⟩
  case c4 =>
    have e0 : δ1.2.1 0 = δ.2.1 0 := K1.2.1 0 (by decide)
    rw [e0]
    exact ⟨I1, I2, I3, cm_line (by omega) (G0 K1) W (fun δ2 G2 K2 => brT rfl (nx δ2 (jv_up J kI_line (wf_line W) A1 K1 G2 K2)))⟩
  refine ⟨fun _ => cp_drop (by omega) H U (fun δ1 A1 K1 => ?c5), ?_⟩
  case c5 =>
    have e0 : δ1.2.1 0 = δ.2.1 0 := K1.2.1 0 (by decide)
    exact cm_drop (by omega) (G0 K1) (fun δ2 G2 K2 => brT rfl (nx δ2 (jv_up J kI_drop (wf_drop W) A1 K1 G2 K2)))
  refine ⟨fun _ => ⟨I1, I2, cp_post (by omega) H U h1 W (fun δ1 A1 K1 => ?c6)⟩, ?_⟩
  case c6 =>
    have e0 : δ1.2.1 0 = δ.2.1 0 := K1.2.1 0 (by decide)
    rw [e0]
    exact ⟨I1, I2, cm_post (by omega) (G0 K1) W (fun δ2 G2 K2 => brT rfl (nx δ2 (jv_up J kI_post (wf_post W) A1 K1 G2 K2)))⟩
  refine ⟨fun _ => ⟨I1, I2, cp_back (by omega) H U h1 W (fun δ1 A1 K1 => ?c7)⟩, ?_⟩
  case c7 =>
    have e0 : δ1.2.1 0 = δ.2.1 0 := K1.2.1 0 (by decide)
    rw [e0]
    exact ⟨I1, I2, cm_back (by omega) (G0 K1) W (fun δ2 G2 K2 => brT rfl (nx δ2 (jv_up J kI_back (wf_back W) A1 K1 G2 K2)))⟩
  refine ⟨fun _ => cp_close (by omega) H U h1 W (fun δ1 A1 K1 => ?c8), ?_⟩
  case c8 =>
    have e0 : δ1.2.1 0 = δ.2.1 0 := K1.2.1 0 (by decide)
    exact cm_close (by omega) (G0 K1) W (fun δ2 G2 K2 => brT rfl (nx δ2 (jv_up J kI_close (wf_close W) A1 K1 G2 K2)))
  refine ⟨fun _ => cp_reopen (by omega) H U h1 W (fun δ1 A1 K1 => ?c9), ?_⟩
  case c9 =>
    have e0 : δ1.2.1 0 = δ.2.1 0 := K1.2.1 0 (by decide)
    exact cm_reopen (by omega) (G0 K1) W (fun δ2 G2 K2 => brT rfl (nx δ2 (jv_up J kI_reopen (wf_reopen W) A1 K1 G2 K2)))
  refine ⟨fun _ => ⟨I1, I2, I3, I4, I5, cp_share (by omega) H U h1 W (fun δ1 A1 K1 => ?c10)⟩, ?_⟩
  case c10 =>
    have e0 : δ1.2.1 0 = δ.2.1 0 := K1.2.1 0 (by decide)
    rw [e0]
    exact ⟨I1, I2, I3, I4, I5, cm_share (by omega) (G0 K1) W (fun δ2 G2 K2 => brT rfl (nx δ2 (jv_up J kI_share (wf_share W) A1 K1 G2 K2)))⟩
  refine ⟨fun _ => cp_sync (by omega) H U (fun δ1 A1 K1 => ?c11), ?_⟩
  case c11 =>
    have e0 : δ1.2.1 0 = δ.2.1 0 := K1.2.1 0 (by decide)
    exact cm_sync (by omega) (G0 K1) (fun δ2 G2 K2 => brT rfl (nx δ2 (jv_up J kI_sync (wf_sync W) A1 K1 G2 K2)))
  refine ⟨fun _ => ⟨I1, I2, cp_crash (by omega) H U W (fun δ1 A1 U1 K1 => ?c12)⟩, ?_⟩
  case c12 =>
    have e0 : δ1.2.1 0 = δ.2.1 0 := K1.2.1 0 (by decide)
    rw [e0]
    have ok := crash_ok (n := δ.2.1 0 (Int32.toNatClampNeg (nI i + 1))) (b := δ.2.1 0 (Int32.toNatClampNeg (nI i + 2))) h1 hD
    exact ⟨I1, I2, cm_crash (by omega) (K1.wk (by decide) (by decide) (by decide)) W (fun δ2 G2 K2 => brT rfl (nx δ2 (jv_mk A1 U1 (fun j hj => by rw [K1.2.1 1 (by decide)]; exact LT j hj) (wf_crash W) ok.1 ok.2 G2 (K2.wk (by decide) (by decide) (by decide)))))⟩
  refine ⟨fun _ => cp_recover (by omega) H U W hD (fun δ1 A1 U1 K1 => ?c13), ?_⟩
  case c13 =>
    have e0 : δ1.2.1 0 = δ.2.1 0 := K1.2.1 0 (by decide)
    have ok := recover_ok W h1 hD
    exact cm_recover (by omega) (K1.wk (by decide) (by decide) (by decide)) W (fun δ2 G2 K2 => brT rfl (nx δ2 (jv_mk A1 U1 (fun j hj => by rw [K1.2.1 1 (by decide)]; exact LT j hj) (wf_recover W) ok.1 ok.2 G2 K2)))
  refine ⟨fun _ => ⟨I1, cp_byteAt (by omega) H (⟨I1, cm_byteAt (by omega) G W.2.2.2.2.1 (brT rfl (nx δ J))⟩)⟩, ?_⟩
  refine ⟨fun _ => ⟨I1, I2, cp_of (by omega) H U W (⟨I1, I2, cm_of (by omega) G W (brT rfl (nx δ J))⟩)⟩, ?_⟩
  refine ⟨fun _ => ⟨I1, cp_balance (by omega) H U W (⟨I1, cm_balance (by omega) G W (brT (zc_eq.mpr rfl) (nx δ J))⟩)⟩, ?_⟩
  refine ⟨fun _ => ⟨I1, I2, I3, cp_sum (by omega) H U W (fun δ1 A1 K1 => ?c17)⟩, ?_⟩
  case c17 =>
    have e0 : δ1.2.1 0 = δ.2.1 0 := K1.2.1 0 (by decide)
    rw [e0]
    exact ⟨I1, I2, I3, cm_sum (by omega) (G0 K1) W (brT (zc_eq.mpr rfl) (nx δ1 (jv_up J kI_rf W A1 K1 (G0 K1) Kp.rf)))⟩
  refine ⟨fun _ => ⟨I1, I2, cp_entry (by omega) H U W.2.2.1 (⟨I1, I2, cm_entry (by omega) G W.2.2.1 (brT rfl (nx δ J))⟩)⟩, ?_⟩
  refine ⟨fun _ => ⟨I1, I2, I3, cp_lineOf (by omega) H U W.2.2.1 (⟨I1, I2, I3, cm_lineOf (by omega) G W.2.2.1 (brT (zc_eq.mpr rfl) (nx δ J))⟩)⟩, ?_⟩
  refine ⟨fun _ => ⟨I1, I2, I3, cp_ledger (by omega) H U W (⟨I1, I2, I3, cm_ledger (by omega) G W (brT (zc_eq.mpr rfl) (nx δ J))⟩)⟩, ?_⟩
  refine ⟨fun _ => ⟨I1, I2, cp_periodOf (by omega) H U (⟨I1, I2, cm_periodOf (by omega) G W.2.1 (brT rfl (nx δ J))⟩)⟩, ?_⟩
  refine ⟨fun _ => ⟨I1, cp_sheet (by omega) H U W LT (fun δ1 A1 K1 => ?c22)⟩, ?_⟩
  case c22 =>
    have e0 : δ1.2.1 0 = δ.2.1 0 := K1.2.1 0 (by decide)
    rw [e0]
    exact ⟨I1, cm_sheet (by omega) (G0 K1) W (fun δ2 G2 K2 => brT rfl (nx δ2 (jv_up J kI_sheet (wf_sheet W _) A1 K1 G2 K2)))⟩
  refine ⟨fun _ => ⟨I1, cp_shown (by omega) H U (⟨I1, cm_shown (by omega) G W.2.2.2.2.2 (brT rfl (nx δ J))⟩)⟩, ?_⟩
  refine ⟨fun _ => ⟨I1, I2, I3, I4, I5, I6, I7, cp_part (by omega) H (fun δ1 A1 K1 => ?c24)⟩, ?_⟩
  case c24 =>
    have e0 : δ1.2.1 0 = δ.2.1 0 := K1.2.1 0 (by decide)
    rw [e0]
    exact ⟨I1, I2, I3, I4, I5, I6, I7, cm_part (by omega) (G0 K1) (fun δ2 G2 K2 => brT (zc_eq.mpr rfl) (nx δ2 (jv_up J kI_rf W A1 K1 G2 K2)))⟩
  refine ⟨fun _ => ⟨I1, cp_count (by omega) H U (⟨I1, cm_count (by omega) G (brT rfl (nx δ J))⟩)⟩, ?_⟩
  exact fun _ _ _ _ _ _ _ _ _ _ _ _ _ _ _ _ _ _ _ _ _ _ _ _ _ _ => nx δ J
end LAW
