/-! recover: what it is, the model, the program -/
def rec0 (s : mi_D) : mi_D := mi_setI (mi_setI (mi_setI (mi_setI (mi_setI (mi_setI (mi_setI (mi_setI (mi_setI s 48 2 0) 48 10 (-1)) 48 11 0) 48 12 0) 48 15 0) 48 32 0) 48 24 0) 48 0 1) 48 1 1
def rcv (f : Nat → Int32) (n : Nat) : Nat → mi_D → Nat → mi_D × Nat
  | 0, s, p => (s, p)
  | m + 1, s, p => if rlen f n p = 0 then (s, p) else match rdo s f (p + 2) (p + rlen f n p - 2) (f (p + 1)) with
    | none => (s, p)
    | some s' => rcv f n m s' (p + rlen f n p)
theorem rcv_s (f : Nat → Int32) (n m : Nat) (s : mi_D) (p : Nat) : rcv f n (m + 1) s p = if rlen f n p = 0 then (s, p) else match rdo s f (p + 2) (p + rlen f n p - 2) (f (p + 1)) with
    | none => (s, p)
    | some s' => rcv f n m s' (p + rlen f n p) := rfl
def recR (s : mi_D) : mi_D × Nat := rcv (s.2.1 70) (nN s 30) 6001 (rec0 s) 0
def recF (x : mi_D × Nat) : mi_D := mi_setI (mi_setI (mi_setI x.1 48 1 0) 48 30 (nI x.2)) 48 31 (nI x.2)
def A_recover (s : mi_D) : Int32 × mi_D := if ¬ s.1 48 0 = 0 then (-6, s) else ((recR s).1.1 48 32, recF (recR s))
theorem rec0_k (s : mi_D) : Kp [(48,30),(48,31),(48,36)] pmA pmL s (rec0 s) := by
  unfold rec0
  exact ((((((((Kp.setI (by decide)).tr (Kp.setI (by decide))).tr (Kp.setI (by decide))).tr (Kp.setI (by decide))).tr (Kp.setI (by decide))).tr (Kp.setI (by decide))).tr (Kp.setI (by decide))).tr (Kp.setI (by decide))).tr (Kp.setI (by decide))
/-- books that are being made anew -/
def RS (s0 s : mi_D) : Prop := Wf s ∧ ¬ s.1 48 0 = 0 ∧ ¬ s.1 48 1 = 0 ∧ Kp [(48,30),(48,31),(48,36)] [66,70,72] [67] s0 s ∧ s.1 48 0 = 1 ∧ s.1 48 24 = 0
theorem rs_0 {s : mi_D} (W : Wf s) : RS s (rec0 s) := by
  have k := rec0_k s
  have n2 : nN (rec0 s) 2 = 0 := rfl
  have n11 : nN (rec0 s) 11 = 0 := rfl
  have n12 : nN (rec0 s) 12 = 0 := rfl
  have n15 : nN (rec0 s) 15 = 0 := rfl
  have n24 : nN (rec0 s) 24 = 0 := rfl
  have f0 : fromN (rec0 s) 0 = 0 := by
    unfold fromN
    rw [k.2.1 61 (by decide), W.2.2.1.2.1]
    rfl
  refine ⟨⟨?_, ?_, ?_, ?_, W.2.2.2.2.1.m (k.wk (by decide) (by decide) (by decide)), W.2.2.2.2.2.m (k.wk (by decide) (by decide) (by decide))⟩, by show ¬ (1 : Int32) = 0; decide, by show ¬ (1 : Int32) = 0; decide, k.wk (by decide) (by decide) (by decide), rfl, rfl⟩
  · exact ⟨⟨by rw [n2]; rfl, by rw [n2]; omega⟩, fun a ha => absurd (n2 ▸ ha) (Nat.not_lt_zero a), fun a b ha => absurd (n2 ▸ ha) (Nat.not_lt_zero a), fun a ha => absurd (n2 ▸ ha) (Nat.not_lt_zero a)⟩
  · exact ⟨⟨by rw [n11]; rfl, by rw [n11]; omega⟩, ⟨by rw [n12]; rfl, by rw [n12]; omega⟩, by rw [n12, n11]; exact Nat.le_refl _, fun a ha => absurd (n11 ▸ ha) (Nat.not_lt_zero a), fun a ha => absurd (n11 ▸ ha) (Nat.not_lt_zero a), Or.inl rfl⟩
  · refine ⟨⟨by rw [n15]; rfl, by rw [n15]; omega⟩, ?_, fun e he => ?_, fun a ha => absurd (n15 ▸ ha) (Nat.not_lt_zero a), fun i hi => ?_⟩
    · rw [k.2.1 61 (by decide)]; exact W.2.2.1.2.1
    · rw [n15] at he
      have he : e = 0 := by omega
      subst he
      rw [f0, k.2.1 61 (by decide), W.2.2.1.2.1]
      rfl
    · rw [n15, f0] at hi
      exact absurd hi (Nat.not_lt_zero i)
  · exact ⟨⟨by rw [n24]; rfl, by rw [n24]; omega⟩, fun a ha => absurd (n24 ▸ ha) (Nat.not_lt_zero a)⟩
theorem rs_s {s0 s s' : mi_D} (h : RS s0 s) {f : Nat → Int32} {p e : Nat} {w : Int32} (hs : rdo s f p e w = some s') : RS s0 s' := by
  obtain ⟨W, hU, hR, k, u1, d0⟩ := h
  obtain ⟨W', k', _⟩ := rdo_inv W hU hR hs
  exact ⟨W', by rw [k'.1 (48, 0) (by decide)]; exact hU, by rw [k'.1 (48, 1) (by decide)]; exact hR, k.tr (k'.wk (by decide) (by decide) (by decide)), (k'.1 (48, 0) (by decide)).trans u1, (k'.1 (48, 24) (by decide)).trans d0⟩
theorem rcv_ok {s0 : mi_D} {f : Nat → Int32} {n : Nat} : ∀ m s p, RS s0 s → p ≤ n → RS s0 (rcv f n m s p).1 ∧ (rcv f n m s p).2 ≤ n := by
  intro m
  induction m with
  | zero => intro s p h hp; exact ⟨h, hp⟩
  | succ m ih =>
    intro s p h hp
    rw [rcv_s]
    by_cases q : rlen f n p = 0
    · rw [if_pos q]; exact ⟨h, hp⟩
    · rw [if_neg q]
      cases hs : rdo s f (p + 2) (p + rlen f n p - 2) (f (p + 1)) with
      | none => exact ⟨h, hp⟩
      | some s' => exact ih s' _ (rs_s h hs) (rlen_ok q).2
theorem wf_recover {s : mi_D} (W : Wf s) : Wf (A_recover s).2 := by
  unfold A_recover
  split
  · exact W
  · obtain ⟨⟨W', _, _, k, _, _⟩, hp⟩ := rcv_ok (f := s.2.1 70) (n := nN s 30) 6001 (rec0 s) 0 (rs_0 W) (Nat.zero_le _)
    have h6 := W.2.2.2.2.1.1.2
    obtain ⟨x, ex⟩ : ∃ x, rcv (s.2.1 70) (nN s 30) 6001 (rec0 s) 0 = x := ⟨_, rfl⟩
    have ex2 : recR s = x := ex
    rw [ex] at W' k hp
    show Wf (recF (recR s))
    rw [ex2]
    have ks : Kp [(48,0),(48,2),(48,10),(48,11),(48,12),(48,15),(48,24),(48,32),(48,36)] pmA pmL x.1 (recF x) := by
      unfold recF
      exact ((Kp.setI (by decide)).tr (Kp.setI (by decide))).tr (Kp.setI (by decide))
    have f30 : (recF x).1 48 30 = nI x.2 := by
      unfold recF
      rw [pI_f, if_neg (by decide), pI_f, if_pos ⟨rfl, rfl⟩]
    have f31 : (recF x).1 48 31 = nI x.2 := by
      unfold recF
      rw [pI_f, if_pos ⟨rfl, rfl⟩]
    have n30 : nN (recF x) 30 = x.2 := nN_nI f30 (by omega)
    have n31 : nN (recF x) 31 = x.2 := nN_nI f31 (by omega)
    refine ⟨W'.1.m (ks.wk (by decide) (by decide) (by decide)), W'.2.1.m (ks.wk (by decide) (by decide) (by decide)), W'.2.2.1.m (ks.wk (by decide) (by decide) (by decide)), W'.2.2.2.1.m (ks.wk (by decide) (by decide) (by decide)), ⟨⟨by rw [n30, f30], by rw [n30]; omega⟩, ⟨by rw [n31, f31], by rw [n31]; omega⟩, by rw [n30, n31]; exact Nat.le_refl _, fun i => ?_⟩, W'.2.2.2.2.2.m (ks.wk (by decide) (by decide) (by decide))⟩
    rw [ks.2.1 70 (by decide)]
    exact W'.2.2.2.2.1.2.2.2 i
section MRV
variable {N d : Nat} {δ s : mi_D}
theorem cm_recover (hd : 15 ≤ d) (G : Agr s δ) (W : Wf s) {Q : Int32 → mi_D → Prop}
    (kk : ∀ δ', Agr (A_recover s).2 δ' → KCr δ δ' → Q (A_recover s).1 δ') : mi_wI N d 190 0 [.ref 48, .null] [] δ Q := by
  unfold A_recover at kk
  refine q12_recover_0 (by omega) ?_
  rw [G.1 (48, 0) (by decide)]
  refine ⟨fun h0 δ1 e1 δ2 e2 δ3 e3 δ4 e4 δ5 e5 δ6 e6 δ7 e7 δ8 e8 δ9 e9 δ10 e10 => ?_, fun h0 => ?_⟩
  · rw [if_neg (fun q => q h0)] at kk
    have G9 : Agr (rec0 s) δ9 := by
      rw [e9, e8, e7, e6, e5, e4, e3, e2, e1]
      exact ((((((((G.sI _ _ _).sI _ _ _).sI _ _ _).sI _ _ _).sI _ _ _).sI _ _ _).sI _ _ _).sI _ _ _).sI _ _ _
    have K10 : KCr δ δ10 := by
      rw [e10, e9, e8, e7, e6, e5, e4, e3, e2, e1]
      exact (((((((((Kp.setI (by decide)).tr (Kp.setI (by decide))).tr (Kp.setI (by decide))).tr (Kp.setI (by decide))).tr (Kp.setI (by decide))).tr (Kp.setI (by decide))).tr (Kp.setI (by decide))).tr (Kp.setI (by decide))).tr (Kp.setI (by decide))).tr (Kp.setI (by decide))
    have G10 : Agr (rec0 s) δ10 := by rw [e10]; exact G9.fr (Fr.setI (fs := [(48, 46)]) (as := []) (ls := []) (List.mem_singleton.mpr rfl)) (by decide) (by decide) (by decide)
    have p10 : δ10.1 48 46 = nI 0 := by rw [e10, pI_f, if_pos ⟨rfl, rfl⟩]; rfl
    have h6 := W.2.2.2.2.1.1.2
    suffices H : ∀ m s1 p, RS s s1 → p ≤ nN s 30 → nN s 30 < p + m → rcv (s.2.1 70) (nN s 30) m s1 p = recR s → ∀ δ', Agr s1 δ' → KCr δ δ' → δ'.1 48 46 = nI p → mi_wI N d 190 62 [.ref 48, .int 1] [] δ' Q by
      exact H 6001 (rec0 s) 0 (rs_0 W) (Nat.zero_le _) (by omega) rfl δ10 G10 K10 p10
    intro m
    induction m with
    | zero => intro s1 p _ h1 h2; omega
    | succ m ih =>
      intro s1 p hS hp hm hr δ' G' K' p'
      obtain ⟨W1, hU, hR, k1, _, _⟩ := id hS
      have e70 : s1.2.1 70 = s.2.1 70 := k1.2.1 70 (by decide)
      have e30 : nN s1 30 = nN s 30 := by unfold nN; rw [k1.1 (48, 30) (by decide)]
      rw [rcv_s] at hr
      refine q12_recover_62 (by omega) (brF (by decide) (cm_isNext (by omega) G' W1 hU hR p' (by rw [e30]; exact hp) (fun hno δ2 G2 K2 p2 => ?_) (fun hl s2 hs δ2 G2 K2 p2 => ?_)))
      · rw [e70, e30] at hno
        have hr' : (s1, p) = recR s := by
          rw [← hr]
          rcases hno with z | z
          · rw [if_pos z]
          · by_cases q : rlen (s.2.1 70) (nN s 30) p = 0
            · rw [if_pos q]
            · rw [if_neg q, z]
        refine q12_recover_62 (by omega) (brT rfl (fun δ3 e3 δ4 e4 δ5 e5 => ?_))
        have G5 : Agr (recF (s1, p)) δ5 := by
          have f4 : δ3.1 48 46 = nI p := by rw [e3]; exact p2
          rw [f4] at e4
          have f5 : δ4.1 48 30 = nI p := by rw [e4, pI_f, if_pos ⟨rfl, rfl⟩]
          rw [f5] at e5
          rw [e5, e4, e3]
          exact ((G2.sI _ _ _).sI _ _ _).sI _ _ _
        have K5 : KCr δ δ5 := by
          rw [e5, e4, e3]
          exact (K'.tr K2).tr (((Kp.setI (by decide)).tr (Kp.setI (by decide))).tr (Kp.setI (by decide)))
        have key := kk δ5 (by rw [← hr']; exact G5) K5
        rw [← hr'] at key
        have f32 : δ5.1 48 32 = s1.1 48 32 := by
          rw [G5.1 (48, 32) (by decide)]
          rfl
        rw [f32]
        exact key
      · rw [e70, e30] at hl hs p2
        rw [if_neg hl, hs] at hr
        exact ih s2 _ (rs_s hS hs) (rlen_ok hl).2 (by have := (rlen_ok hl).1; omega) hr δ2 G2 (K'.tr K2) p2
  · rw [if_pos h0] at kk
    exact kk δ G Kp.rf
theorem cc_redo (hd : 12 ≤ d) {n p : Nat} {f : Nat → Int32} (hl : ¬ rlen f n p = 0) (hn : n ≤ 6000) (hf : δ.2.1 29 = f) (H : RB δ s) (W : Wf s) (hU : ¬ s.1 48 0 = 0) (hR : ¬ s.1 48 1 = 0) {Q : Int32 → mi_D → Prop}
    (k1 : ∀ s', rdo s f (p + 2) (p + rlen f n p - 2) (f (p + 1)) = some s' → ∀ δ', RB δ' s' → KR δ δ' → Q 1 δ') (k0 : rdo s f (p + 2) (p + rlen f n p - 2) (f (p + 1)) = none → ∀ δ', RB δ' s → KR δ δ' → Q 0 δ') : mi_wI N d 82 0 [.ref 31, .int (nI p), .int (nI (rlen f n p))] [] δ Q := by
  obtain ⟨h4, hle⟩ := rlen_ok hl
  have ep2 : nI p + 2 = nI (p + 2) := nI_add p 2
  have ep1 : nI p + 1 = nI (p + 1) := nI_1 p
  have ee : nI p + nI (rlen f n p) - 2 = nI (p + rlen f n p - 2) := by
    rw [nI_add]
    have z := nI_add (p + rlen f n p - 2) 2
    rw [show p + rlen f n p - 2 + 2 = p + rlen f n p by omega] at z
    rw [← z]
    show nI (p + rlen f n p - 2) + 2 - 2 = _
    rw [Int32.add_sub_cancel]
  refine q8_redo_0 (by omega) (fun δ1 e1 δ2 e2 δ3 e3 => ?_)
  rw [ep2] at e1
  rw [ee] at e2
  have F3 : Fr [(31, 3), (31, 4), (31, 5)] [] [] δ δ3 := by
    rw [e3, e2, e1]
    exact ((Fr.setI (by decide)).xI (by decide)).xI (by decide)
  have f3 : δ3.1 31 3 = nI (p + 2) := by rw [e3, pI_f, if_neg (by decide), e2, pI_f, if_neg (by decide), e1, pI_f, if_pos ⟨rfl, rfl⟩]
  have f4 : δ3.1 31 4 = nI (p + rlen f n p - 2) := by rw [e3, pI_f, if_neg (by decide), e2, pI_f, if_pos ⟨rfl, rfl⟩]
  have f5 : δ3.1 31 5 = 0 := by rw [e3, pI_f, if_pos ⟨rfl, rfl⟩]
  have R3 : RC (p + rlen f n p - 2) δ3 δ3 (some (p + 2)) := ⟨Fr.rf _ _ _ _, f5, f3, by omega⟩
  have g29 : δ3.2.1 29 = f := (F3.2.1 29 List.not_mem_nil).trans hf
  have b3 : RB δ3 s := H.c (F3.kp (by decide) (by decide) (by decide))
  have K3 : KR δ δ3 := F3.kp (by decide) (by decide) (by decide)
  have he : p + rlen f n p - 2 ≤ 6000 := by omega
  rw [ep1, mi_at_nI _ _ (by omega), g29]
  have a1 : ∀ w, f (p + 1) = w → ∀ s', rdo s f (p + 2) (p + rlen f n p - 2) w = some s' → ∀ δ', RB δ' s' → KR δ3 δ' → ((1 : Int32) = 0 ∨ (1 : Int32) = 1) ∧ Q 1 δ' := fun w ew s' h δ' B' K' => ⟨Or.inr rfl, k1 s' (by rw [ew]; exact h) δ' B' (K3.tr K')⟩
  have a0 : ∀ w, f (p + 1) = w → rdo s f (p + 2) (p + rlen f n p - 2) w = none → ∀ δ', RB δ' s → KR δ3 δ' → ((0 : Int32) = 0 ∨ (0 : Int32) = 1) ∧ Q 0 δ' := fun w ew h δ' B' K' => ⟨Or.inl rfl, k0 (by rw [ew]; exact h) δ' B' (K3.tr K')⟩
  refine ⟨fun q => ?_, fun q => ?_, fun q => ?_, fun q => ?_, fun q => ?_, fun q => ?_, fun q => ?_, fun q => ?_, fun b1 b2 b3' b4 b5 b6 b7 b8 => ?_⟩
  · exact cc_redo1 (by omega) f4 g29 he R3 b3 W hU hR (a1 1 q) (a0 1 q)
  · exact cc_redo2 (by omega) f4 g29 he R3 b3 W hU hR (a1 2 q) (a0 2 q)
  · exact cc_redo3 (by omega) f4 g29 he R3 b3 W hU hR (a1 3 q) (a0 3 q)
  · exact cc_redo4 (by omega) f4 g29 he R3 b3 W hU hR (a1 4 q) (a0 4 q)
  · exact cc_redo5 (by omega) f4 g29 he R3 b3 W hU hR (a1 5 q) (a0 5 q)
  · exact cc_redo6 (by omega) f4 g29 he R3 b3 W hU hR (a1 6 q) (a0 6 q)
  · exact cc_redo7 (by omega) f4 he R3 b3 W hU hR (a1 7 q) (a0 7 q)
  · exact cc_redo8 (by omega) f4 he R3 b3 W hU hR (a1 8 q) (a0 8 q)
  · refine k0 ?_ δ3 b3 K3
    unfold rdo
    rw [if_neg b1, if_neg b2, if_neg b3', if_neg b4, if_neg b5, if_neg b6, if_neg b7, if_neg b8]
theorem cp_recover (hd : 14 ≤ d) (H : Abs δ s) (U : δ.1 2 7 = s.1 48 0) (W : Wf s) (hD : s.1 48 0 = 0 → s.1 48 24 = 0) {Q : Int32 → mi_D → Prop}
    (kk : ∀ δ', Abs δ' (A_recover s).2 → δ'.1 2 7 = (A_recover s).2.1 48 0 → Kp pmF (0 :: 1 :: pmA) pmL δ δ' → Q (A_recover s).1 δ') : mi_wI N d 126 0 [.ref 2, .null, .null, .null] [] δ Q := by
  unfold A_recover at kk
  refine q11_recover_0 (by omega) ⟨fun h => ?_, fun h => ?_⟩
  · have h0 : s.1 48 0 = 0 := U ▸ h
    rw [if_neg (fun q => q h0)] at kk
    have J := H.2.2.2.1
    have h6 := W.2.2.2.2.1.1.2
    refine q1_clear_0 (by omega) (q0_clear_0 (by omega) (fun δ1 e1 => q7_clear_0 (by omega) (fun δ2 e2 δ3 e3 => q2_clear_0 (by omega) (fun δ4 e4 δ5 e5 δ6 e6 => ?_))))
    have F6 : Fr [(4, 9), (14, 2), (14, 3), (17, 9), (17, 10), (3, 3)] [] [] δ δ6 := by
      rw [e6, e5, e4, e3, e2, e1]
      exact (((((Fr.setI (by decide)).xI (by decide)).xI (by decide)).xI (by decide)).xI (by decide)).xI (by decide)
    have k0 := rec0_k s
    have b6 : RB δ6 (rec0 s) := by
      have n2 : nN (rec0 s) 2 = 0 := rfl
      have n15 : nN (rec0 s) 15 = 0 := rfl
      have f0 : fromN (rec0 s) 0 = 0 := by
        unfold fromN
        rw [k0.2.1 61 (by decide), W.2.2.1.2.1]
        rfl
      refine ⟨?_, ?_, ?_⟩
      · have A := H.1
        unfold AbA
        rw [n2, F6.2.1 5 List.not_mem_nil, F6.2.1 6 List.not_mem_nil, F6.2.1 7 List.not_mem_nil, F6.2.1 12 List.not_mem_nil, F6.2.1 8 List.not_mem_nil, F6.2.1 13 List.not_mem_nil, F6.2.2 11 List.not_mem_nil, k0.2.1 49 (by decide), k0.2.1 50 (by decide), k0.2.1 51 (by decide), k0.2.1 52 (by decide), k0.2.1 53 (by decide), k0.2.1 54 (by decide), k0.2.2 55 (by decide)]
        refine ⟨?_, A.2.1, A.2.2.1, A.2.2.2.1, A.2.2.2.2.1, A.2.2.2.2.2.1, A.2.2.2.2.2.2.1, A.2.2.2.2.2.2.2.1, fun i b h => ?_⟩
        · rw [e6, e5, e4, e3, e2, e1]; rfl
        · exact absurd h (by unfold ordN; simp)
      · have P := H.2.1
        unfold AbP
        rw [F6.2.1 15 List.not_mem_nil, F6.2.1 16 List.not_mem_nil, k0.2.1 56 (by decide), k0.2.1 57 (by decide)]
        refine ⟨?_, ?_, P.2.2.1, P.2.2.2.1, ?_⟩ <;> rw [e6, e5, e4, e3, e2, e1] <;> rfl
      · have E := H.2.2.1
        unfold AbE
        rw [n15, n2, f0, F6.2.1 18 List.not_mem_nil, F6.2.1 19 List.not_mem_nil, F6.2.1 20 List.not_mem_nil, F6.2.1 22 List.not_mem_nil, F6.2.1 23 List.not_mem_nil, F6.2.1 25 List.not_mem_nil, F6.2.2 26 List.not_mem_nil, k0.2.1 58 (by decide), k0.2.1 59 (by decide), k0.2.1 60 (by decide), k0.2.1 62 (by decide), k0.2.1 63 (by decide), k0.2.1 64 (by decide), k0.2.2 65 (by decide)]
        refine ⟨?_, E.2.1, E.2.2.1, E.2.2.2.1, E.2.2.2.2.1, E.2.2.2.2.2.1, E.2.2.2.2.2.2.1, E.2.2.2.2.2.2.2.1, ?_, fun e he => absurd he (Nat.not_lt_zero e), fun a ha => absurd ha (Nat.not_lt_zero a)⟩
        · rw [e6, e5, e4, e3, e2, e1]; rfl
        · rw [e6, e5, e4, e3, e2, e1]; rfl
    have K6 : KR δ δ6 := F6.kp (by decide) (by decide) (by decide)
    have g28 : ∀ δ', KR δ δ' → δ'.1 28 4 = nI (nN s 30) := fun δ' K => (K.1 (28, 4) (by decide)).trans (J.1.trans W.2.2.2.2.1.1.1)
    have g29 : ∀ δ', KR δ δ' → δ'.2.1 29 = s.2.1 70 := fun δ' K => (K.2.1 29 (by decide)).trans J.2.2.2
    have hb : ∀ i, by256 (s.2.1 70 i) := W.2.2.2.2.1.2.2.2
    have H0 : ∀ m s1 p, RS s s1 → p ≤ nN s 30 → nN s 30 < p + m → rcv (s.2.1 70) (nN s 30) m s1 p = recR s → ∀ δ', RB δ' s1 → KR δ δ' → mi_wI N d 126 30 [.ref 2, .int (nI p), .int (s1.1 48 32), .int (nI (rlen (s.2.1 70) (nN s 30) p))] [] δ' Q := by
      intro m
      induction m with
      | zero => intro s1 p _ h1 h2; omega
      | succ m ih =>
        intro s1 p hS hp hm hr δ' B' K'
        obtain ⟨W1, hU, hR, k1, u1, d1⟩ := id hS
        rw [rcv_s] at hr
        -- the end
        have stop : ∀ δ2, RB δ2 s1 → KR δ δ2 → (s1, p) = recR s → mi_wI N d 126 72 [.ref 2, .int (nI p), .int (s1.1 48 32), .int (nI (rlen (s.2.1 70) (nN s 30) p))] [] δ2 Q := by
          intro δ2 B2 K2 hr'
          refine q11_recover_72 (by omega) (q4_cut_0 (by omega) (fun δ3 e3 δ4 e4 δ5 e5 δ7 e7 => ?_))
          have F7 : Fr [(28, 4), (28, 5), (28, 6), (2, 7)] [] [] δ2 δ7 := by
            rw [e7, e5, e4, e3]
            exact (((Fr.setI (by decide)).xI (by decide)).xI (by decide)).xI (by decide)
          have kf : Kp [(48,0),(48,2),(48,10),(48,11),(48,12),(48,15),(48,24),(48,32),(48,36)] pmA pmL s1 (recF (s1, p)) := by
            unfold recF
            exact ((Kp.setI (by decide)).tr (Kp.setI (by decide))).tr (Kp.setI (by decide))
          have b7 : RB δ7 s1 := B2.c (F7.kp (by decide) (by decide) (by decide))
          have KK : KR δ δ2 := K2
          have HA : Abs δ7 (recF (s1, p)) := by
            refine ⟨b7.1.m (kf.wk (by decide) (by decide) (by decide)), b7.2.1.m (kf.wk (by decide) (by decide) (by decide)), b7.2.2.m (kf.wk (by decide) (by decide) (by decide)), ?_, ?_, ?_⟩
            · have r29 : δ7.2.1 29 = s.2.1 70 := (F7.2.1 29 List.not_mem_nil).trans (g29 δ2 K2)
              have r70 : (recF (s1, p)).2.1 70 = s.2.1 70 := (kf.2.1 70 (by decide)).trans (k1.2.1 70 (by decide))
              refine ⟨?_, ?_, ?_, r29.trans r70.symm⟩
              · rw [e7, e5, e4, e3]; rfl
              · rw [e7, e5, e4, e3]; rfl
              · rw [e7, e5, e4, e3]; rfl
            · have D := H.2.2.2.2.1
              refine ⟨?_, ?_, ?_⟩
              · rw [F7.1 _ _ (by decide), K2.1 (35, 2) (by decide), kf.1 (48, 24) (by decide), d1]
                exact D.1.trans (hD h0)
              · rw [F7.2.1 36 List.not_mem_nil, K2.2.1 36 (by decide), kf.2.1 66 (by decide), k1.2.1 66 (by decide)]
                exact D.2.1
              · rw [F7.2.2 37 List.not_mem_nil, K2.2.2 37 (by decide), kf.2.2 67 (by decide), k1.2.2 67 (by decide)]
                exact D.2.2
            · have S := H.2.2.2.2.2
              refine ⟨?_, ?_⟩
              · rw [F7.1 _ _ (by decide), K2.1 (45, 3) (by decide), kf.1 (48, 36) (by decide), k1.1 (48, 36) (by decide)]
                exact S.1
              · rw [F7.2.1 46 List.not_mem_nil, K2.2.1 46 (by decide), kf.2.1 72 (by decide), k1.2.1 72 (by decide)]
                exact S.2
          have key := kk δ7 (by rw [← hr']; exact HA) (by rw [← hr']; rw [e7]; exact u1.symm) ((K2.wk (by decide) (by decide) (by decide)).tr (F7.kp (by decide) (by decide) (by decide)))
          rw [← hr'] at key
          exact key
        refine q11_recover_30 (by omega) ⟨fun hz => ⟨fun hz2 => ?_, fun hz2 => ?_⟩, fun hz => ?_⟩
        · have hl : ¬ rlen (s.2.1 70) (nN s 30) p = 0 := fun q => by rw [q] at hz; exact absurd hz (by decide)
          obtain ⟨l4, lle⟩ := rlen_ok hl
          rw [if_neg hl] at hr
          refine cc_redo (by omega) hl h6 (g29 δ' K') B' W1 hU hR (fun s2 hs δ2 B2 K2 => brN (by decide) (fun x3 e3 => ?_)) (fun hs δ2 B2 K2 => br0 ?_)
          · rw [hs] at hr
            rw [nI_add] at e3
            subst e3
            have K2' : KR δ δ2 := K'.tr K2
            refine cc_recordAt (by omega) h6 (by omega) (g28 δ2 K2') (g29 δ2 K2') hb ?_
            have e32 : s1.1 48 32 + 1 = s2.1 48 32 := (rdo_inv W1 hU hR hs).2.2.symm
            rw [e32]
            exact ih s2 _ (rs_s hS hs) lle (by omega) hr δ2 B2 K2'
          · rw [hs] at hr
            exact stop δ2 B2 (K'.tr K2) hr
        · exact absurd (nI_lt (b := 6000) (by
            have hl : ¬ rlen (s.2.1 70) (nN s 30) p = 0 := fun q => by rw [q] at hz; exact absurd hz (by decide)
            have := rlen_ok hl
            omega) (by omega)) hz2
        · have hl : rlen (s.2.1 70) (nN s 30) p = 0 := by
            rcases Nat.eq_zero_or_pos (rlen (s.2.1 70) (nN s 30) p) with z | z
            · exact z
            · refine absurd (nI_0 ▸ nI_lt z ?_) hz
              have := (rlen_ok (f := s.2.1 70) (n := nN s 30) (p := p) (by omega)).2
              omega
          rw [if_pos hl] at hr
          exact stop δ' B' K' hr
    refine cc_recordAt (by omega) h6 (p := 0) (by omega) (g28 δ6 K6) (g29 δ6 K6) hb ?_
    have z := H0 6001 (rec0 s) 0 (rs_0 W) (Nat.zero_le _) (by omega) rfl δ6 b6 K6
    have e32 : (rec0 s).1 48 32 = 0 := rfl
    rw [e32, nI_0] at z
    exact z
  · rw [if_pos (fun q => h (U.trans q))] at kk
    exact kk δ H U Kp.rf
end MRV
