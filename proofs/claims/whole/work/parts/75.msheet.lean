/-! the sheet: the model's call; well-formed after it -/
theorem nxt_GA {s δ : mi_D} (G : GA s δ) {u r : Int32} (h : nxt δ u r) : nxt s u r := by
  unfold nxt nN at *
  rw [G.1 (48, 2) (by decide), G.2.1 49 (by decide)] at h
  exact h
section MSHEET
variable {N d : Nat} {δ s : mi_D}
theorem cm_next (hd : 5 ≤ d) (G : GA s δ) (W : WfA s) {u : Int32} {Q : Int32 → mi_D → Prop} (k : ∀ r, nxt s u r → Q r δ) : mi_wI N d 175 0 [.ref 48, .int u, .null, .null] [] δ Q :=
  cm_nextCode hd (s := δ) Kp.rf (W.m (G.wk (by decide) (by decide) (by decide))) (fun r h => k r (nxt_GA G h))
theorem cm_sheet (hd : 20 ≤ d) (G : Agr s δ) (W : Wf s) {way : Int32} {Q : Int32 → mi_D → Prop} (kk : ∀ δ', Agr (A_sheet s way).2 δ' → KC δ δ' → Q (A_sheet s way).1 δ') : mi_wI N d 207 0 [.ref 48, .int way, .null] [] δ Q := by
  have W1 := W.1
  have h60 := W1.1.2
  unfold A_sheet at kk
  refine q12_sheet_0 (by omega) ?_
  rw [G.1 (48, 0) (by decide)]
  refine ⟨fun h => ?_, fun h => ?_⟩
  · rw [if_pos h] at kk
    exact kk δ G Kp.rf
  rw [if_neg h] at kk
  have eq23 : ¬ (2 : Int32) < way ↔ way < 3 := by
    have e2 : (2 : Int32).toInt = 2 := by decide
    have e3 : (3 : Int32).toInt = 3 := by decide
    rw [Int32.lt_iff_toInt_lt, Int32.lt_iff_toInt_lt, e2, e3]
    omega
  refine c_inI (lo := 0) (hi := 2) (by omega) rfl rfl (fun a1 a2 => brN (by decide) (fun δ3 e3 => ?_)) (fun a => br0 (by
    rw [if_pos (fun q => a.elim q.1 (fun z => eq23.mpr q.2 z))] at kk
    exact kk δ G Kp.rf))
  rw [if_neg (fun q => q ⟨a1, eq23.mp a2⟩)] at kk
  obtain ⟨B, eB⟩ : ∃ B, shB s way = B := ⟨_, rfl⟩
  have hBl := shB_len W1 way
  rw [eB] at kk hBl
  have fin : ∀ δ' v, δ'.1 48 36 = v → δ'.2.1 72 = sbr (s.2.1 72) B → tfr δ δ' → Agr (shS s B v) δ' ∧ KC δ δ' := by
    intro δ' v hv hr F
    have km : Kp [(48,0),(48,1),(48,2),(48,10),(48,11),(48,12),(48,15),(48,24),(48,30),(48,31),(48,32)] [49,50,51,52,53,54,56,57,58,59,60,61,62,63,64,66,70] pmL s (shS s B v) := Kp.tr (Kp.rowA (by decide)) (Kp.setI (by decide))
    have k1 : Kp [(48,0),(48,1),(48,2),(48,10),(48,11),(48,12),(48,15),(48,24),(48,30),(48,31),(48,32)] [49,50,51,52,53,54,56,57,58,59,60,61,62,63,64,66,70] pmL (shS s B v) δ' :=
      km.sy.tr ((G.wk (by decide) (by decide) (by decide)).tr (F.kp (by decide) (by decide) (by decide)))
    have g36 : δ'.1 48 36 = (shS s B v).1 48 36 := by unfold shS; rw [pI_f, if_pos ⟨rfl, rfl⟩, hv]
    have g72 : δ'.2.1 72 = (shS s B v).2.1 72 := by unfold shS; rw [pI_a, rA_a, if_pos rfl, hr]
    refine ⟨⟨fun p hp => ?_, fun a ha => ?_, k1.2.2⟩, F.kp (by decide) (by decide) (by decide)⟩
    · by_cases z : p = (48, 36)
      · subst z; exact g36
      · exact k1.1 p (by revert hp z; unfold pmF; simp only [List.mem_cons, List.not_mem_nil, or_false]; intro hp z; rcases hp with h | h | h | h | h | h | h | h | h | h | h | h <;> first | exact absurd h z | (subst h; decide))
    · by_cases z : a = 72
      · subst z; exact g72
      · exact k1.2.1 a (by revert ha z; unfold pmA; simp only [List.mem_cons, List.not_mem_nil, or_false]; omega)
  have F3 : tfr δ δ3 := by subst e3; exact Fr.setI (by decide)
  have G0 : GA s δ := G.wk (by decide) (by decide) (by decide)
  have G' : ∀ {δ'}, tfr δ δ' → GA s δ' := fun F => G0.fr F (by decide) (by decide) (by decide)
  have X3 : Sm δ3 (s.2.1 72) [] := ⟨by rw [e3, pI_f, if_pos ⟨rfl, rfl⟩]; exact nI_0.symm, by rw [e3, pI_a, sbr_nil]; exact G.2.1 72 (by decide)⟩
  have w2 : ∀ {δ1 δ2 : mi_D}, Fr [(48, 36)] [72, 73] [] δ1 δ2 → tfr δ1 δ2 := fun h => h.wk (by decide) (by decide) (by decide)
  have endw : ∀ δ', Sm δ' (s.2.1 72) B → tfr δ δ' → ((4000 < (δ'.1 48 36) → (∀ δ1 : mi_D, δ1 = mi_setI δ' 48 36 0 → Q (-13) δ1)) ∧ (¬ 4000 < (δ'.1 48 36) → Q (δ'.1 48 36) δ')) := by
    intro δ' X F
    have h40 : 4000 < δ'.1 48 36 ↔ 4000 < B.length := by rw [X.1]; exact nI_ltI (a := 4000) (by omega) (by omega)
    refine ⟨fun h δ1 e1 => ?_, fun h => ?_⟩
    · rw [if_pos (h40.mp h)] at kk
      have := fin δ1 0 (by rw [e1, pI_f, if_pos ⟨rfl, rfl⟩]) (by rw [e1]; exact X.2) (F.tr (by subst e1; exact Fr.setI (by decide)))
      exact kk δ1 this.1 this.2
    · rw [if_neg (fun q => h (h40.mpr q))] at kk
      rw [X.1]
      have := fin δ' _ X.1 X.2 F
      exact kk δ' this.1 this.2
  unfold shB at eB
  refine ⟨fun w0 => ?_, fun w0 => ⟨fun w1 => ?_, fun w1 => ?_⟩⟩
  · rw [if_pos w0] at eB
    obtain ⟨L, eL⟩ : ∃ L, ordN (s.2.1 49) (nN s 2) = L := ⟨_, rfl⟩
    have hlen : L.length = nN s 2 := by rw [← eL]; exact ordN_len _ _
    have hmem : ∀ y, y ∈ L → y < nN s 2 := fun y hy => by rw [← eL] at hy; exact (ordN_mem _ _ _).mp hy
    rw [eL] at eB
    have hl : ∀ i, i ≤ nN s 2 → ((L.take i).flatMap (lvF s)).length ≤ 3600 := fun i hi => by
      have := fm_len (g := lvF s) (m := 60) (L.take i) (fun a ha => lvF_len W1 (hmem a (List.mem_of_mem_take ha)))
      rw [List.length_take] at this
      have q : 60 * min i L.length ≤ 60 * 60 := Nat.mul_le_mul_left _ (by omega)
      omega
    refine cm_next (by omega) (G' F3) W1 (fun r hr => ?_)
    have hr' := nxt_idx W1 (i := 0) (Nat.zero_le _) hr
    subst hr'
    suffices H : ∀ i, i ≤ nN s 2 → ∀ δ4, Sm δ4 (s.2.1 72) ((L.take i).flatMap (lvF s)) → tfr δ δ4 → mi_wI N d 207 40 [.ref 48, .int way, .int (idx s i)] [] δ4 Q by
      exact H 0 (by omega) δ3 X3 F3
    intro i hi
    refine up_ind (P := fun i => ∀ δ4, Sm δ4 (s.2.1 72) ((L.take i).flatMap (lvF s)) → tfr δ δ4 → mi_wI N d 207 40 [.ref 48, .int way, .int (idx s i)] [] δ4 Q) ?_ ?_ hi
    · intro δ4 X4 F4
      have e : idx s (nN s 2) = -1 := by
        unfold idx
        rw [eL, List.getElem?_eq_none (by omega)]
      rw [List.take_of_length_le (by omega), eB] at X4
      refine q12_sheet_40 (by omega) (brT e (q12_sheet_141a (by omega) (endw δ4 X4 F4)))
    · intro i hi ih δ4 X4 F4
      have hq : i < L.length := by omega
      have hm : L[i] < nN s 2 := hmem _ (List.getElem_mem hq)
      have e : idx s i = nI L[i] := by
        unfold idx
        rw [eL, List.getElem?_eq_getElem hq]
      have es := fm_take (g := lvF s) hq
      have hx : mi_ix (nI L[i]) 60 = true := mi_ix_nI (by omega) (by omega)
      have hc : (nI L[i]).toNatClampNeg = L[i] := nI_clamp (by omega)
      rw [e]
      have nx : ∀ δ5, Sm δ5 (s.2.1 72) ((L.take (i + 1)).flatMap (lvF s)) → tfr δ δ5 → mi_wI N d 207 70 [.ref 48, .int way, .int (nI L[i])] [] δ5 Q := by
        intro δ5 X5 F5
        refine q12_sheet_70 (by omega) ⟨hx, ?_⟩
        rw [hc, (G' F5).2.1 49 (by decide)]
        refine cm_next (by omega) (G' F5) W1 (fun r hr => ?_)
        have ea : s.2.1 49 L[i] = ahd s (i + 1) := by
          rw [ahd_s, eL, List.getElem?_eq_getElem hq]
        rw [ea] at hr
        have := nxt_idx W1 (i := i + 1) hi hr
        subst this
        exact ih δ5 X5 F5
      have skip : lvF s L[i] = [] → mi_wI N d 207 70 [.ref 48, .int way, .int (nI L[i])] [] δ4 Q := fun h => nx δ4 (by rw [es, h, List.append_nil]; exact X4) F4
      refine q12_sheet_40 (by omega) (brF (nI_ne1 (by omega)) ⟨hx, ?_⟩)
      rw [hc, (G' F4).2.1 52 (by decide), (G' F4).2.2 55 (by decide)]
      refine ⟨fun h => ⟨hx, fun h2 => skip (if_neg (fun q => q.2 (zc_eq.mp h2))), fun h2 => ?_⟩, fun h => skip (if_neg (fun q => h q.1))⟩
      have e2 : lvF s L[i] = rB s L[i] := if_pos ⟨h, fun q => h2 (zc_eq.mpr q)⟩
      exact cm_row (by omega) (G' F4) W1 hm X4 (by have := hl i (by omega); omega) (fun δ5 X5 f5 => nx δ5 (by rw [es, e2]; exact X5) (F4.tr (w2 f5)))
  · rw [if_neg w0, if_pos w1] at eB
    have et := K5_tU W1
    refine cm_tree (by omega) (G' F3) W1 X3 ?_ (fun δ4 X4 F4 => q12_sheet_141 (by omega) ?_)
    · have := K5_len (s := s) W1 5
      rw [K5_all (s := s)] at this
      rw [et, List.length_nil]
      omega
    · rw [et, eB, List.nil_append] at X4
      exact endw δ4 X4 (F3.tr F4)
  · rw [if_neg w0, if_neg w1] at eB
    have ek : ∀ i, kbs s (i + 1) = kbs s i ++ tB (ltr i) (tk s i (nN s 2)) := fun _ => rfl
    have hl : ∀ i, i ≤ 5 → (kbs s i).length + 120 < 2 ^ 30 := fun i hi => by have := kbs_len s i; omega
    have st : ∀ (i : Nat) (w c : Int32), i < 5 → ltr i = w → c = nI i → ∀ δ4, Sm δ4 (s.2.1 72) (kbs s i) → tfr δ δ4 → ∀ Q2 : mi_D → Prop, (∀ δ5, Sm δ5 (s.2.1 72) (kbs s (i + 1)) → tfr δ δ5 → Q2 δ5) → mi_wV N (d - 1) 206 0 [.ref 48, .int w, .int c] [] δ4 Q2 := by
      intro i w c hi ew ec δ4 X4 F4 Q2 k2
      subst ew
      exact cm_stotal (by omega) (G' F4) W1 X4 (hl i (by omega)) (Or.inl ⟨i, hi, ec, rfl⟩) (fun δ5 X5 f5 => k2 δ5 X5 (F4.tr (w2 f5)))
    refine st 0 65 0 (by omega) rfl rfl δ3 X3 F3 _ (fun δ4 X4 F4 => ?_)
    refine st 1 68 1 (by omega) rfl rfl δ4 X4 F4 _ (fun δ5 X5 F5 => ?_)
    refine st 2 79 2 (by omega) rfl rfl δ5 X5 F5 _ (fun δ6 X6 F6 => ?_)
    refine st 3 73 3 (by omega) rfl rfl δ6 X6 F6 _ (fun δ7 X7 F7 => ?_)
    refine st 4 67 4 (by omega) rfl rfl δ7 X7 F7 _ (fun δ8 X8 F8 => ?_)
    refine cm_stotal (by omega) (G' F8) W1 X8 (hl 5 (by omega)) (Or.inr ⟨rfl, rfl⟩) (fun δ9 X9 f9 => q12_sheet_141 (by omega) ?_)
    have X9' : Sm δ9 (s.2.1 72) (kbs s 5 ++ tB 61 (tall s (nN s 2))) := X9
    rw [eB] at X9'
    exact endw δ9 X9' (F8.tr (w2 f9))
theorem wf_sheet (W : Wf s) (way : Int32) : Wf (A_sheet s way).2 := by
  unfold A_sheet
  split
  · exact W
  · split
    · exact W
    · have km : ∀ v, Kp [(48,0),(48,1),(48,2),(48,10),(48,11),(48,12),(48,15),(48,24),(48,30),(48,31),(48,32)] [49,50,51,52,53,54,56,57,58,59,60,61,62,63,64,66,70] pmL s (shS s (shB s way) v) := fun v => Kp.tr (Kp.rowA (by decide)) (Kp.setI (by decide))
      have mk : ∀ v, WfS (shS s (shB s way) v) → Wf (shS s (shB s way) v) := fun v h => ⟨W.1.m ((km v).wk (by decide) (by decide) (by decide)), W.2.1.m ((km v).wk (by decide) (by decide) (by decide)), W.2.2.1.m ((km v).wk (by decide) (by decide) (by decide)), W.2.2.2.1.m ((km v).wk (by decide) (by decide) (by decide)), W.2.2.2.2.1.m ((km v).wk (by decide) (by decide) (by decide)), h⟩
      have w : ∀ n, n ≤ 4000 → WfS (shS s (shB s way) (nI n)) := fun n hn => by
        have e : (shS s (shB s way) (nI n)).1 48 36 = nI n := by unfold shS; rw [pI_f, if_pos ⟨rfl, rfl⟩]
        unfold WfS wfn nN
        rw [e, nI_clamp (by omega)]
        exact ⟨rfl, hn⟩
      split
      · exact mk 0 (w 0 (by omega))
      · next h => exact mk _ (w _ (by omega))
end MSHEET
