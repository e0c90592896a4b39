/-! part -/
def w4 (w0 w1 w2 w3 : Int32) : Nat → Int64 := fun j => if j = 0 then Int32.toInt64 w0 else if j = 1 then Int32.toInt64 w1 else if j = 2 then Int32.toInt64 w2 else Int32.toInt64 w3
abbrev pwt (w : Int32) : Prop := ¬ w < 0 ∧ ¬ 1000 < w
def B_part (v : Int64) (w0 w1 w2 w3 i : Int32) : Int64 :=
  if ¬ (inR i 4 ∧ wtn v 1000000000000000 ∧ pwt w0 ∧ pwt w1 ∧ pwt w2 ∧ pwt w3) then LST else if sumW (w4 w0 w1 w2 w3) 4 = 0 then LST else shr 4 (w4 w0 w1 w2 w3) v i.toNatClampNeg
theorem w4_ok {v : Int64} {w0 w1 w2 w3 : Int32} (hv : wtn v 1000000000000000) (h0 : pwt w0) (h1 : pwt w1) (h2 : pwt w2) (h3 : pwt w3) : shOK 4 (w4 w0 w1 w2 w3) v := by
  have key : ∀ w, pwt w → ¬ Int32.toInt64 w < 0 ∧ ¬ (1000 : Int64) < Int32.toInt64 w := fun w h => ⟨fun q => h.1 (nw_lt.mp q), fun q => h.2 (nw_lt.mp q)⟩
  refine ⟨by omega, fun i hi => ?_, hv⟩
  unfold w4
  split
  · exact key _ h0
  · split
    · exact key _ h1
    · split
      · exact key _ h2
      · exact key _ h3
theorem pwt_nI {w : Int32} (h : pwt w) : ∃ a, a ≤ 1000 ∧ w = nI a := by
  obtain ⟨a, ha, e⟩ := nI_of h.1
  refine ⟨a, ?_, e⟩
  rcases Nat.lt_or_ge 1000 a with z | z
  · exact absurd (by rw [e]; exact nI_lt (a := 1000) z ha) h.2
  · exact z
theorem w4_sum {w0 w1 w2 w3 : Int32} (h0 : pwt w0) (h1 : pwt w1) (h2 : pwt w2) (h3 : pwt w3) : sumW (w4 w0 w1 w2 w3) 4 = 0 ↔ w0 + w1 + w2 + w3 = 0 := by
  obtain ⟨a, ha, rfl⟩ := pwt_nI h0
  obtain ⟨b, hb, rfl⟩ := pwt_nI h1
  obtain ⟨c, hc, rfl⟩ := pwt_nI h2
  obtain ⟨e, he, rfl⟩ := pwt_nI h3
  have es : sumW (w4 (nI a) (nI b) (nI c) (nI e)) 4 = 0 + Int32.toInt64 (nI a) + Int32.toInt64 (nI b) + Int32.toInt64 (nI c) + Int32.toInt64 (nI e) := rfl
  rw [es, nI_l (by omega), nI_l (by omega), nI_l (by omega), nI_l (by omega), Int64.zero_add, lN_add, lN_add, lN_add, nI_add, nI_add, nI_add]
  have z1 := lN_eq (a := a + b + c + e) (b := 0) (by omega) (by omega)
  have z2 := nI_eq (a := a + b + c + e) (b := 0) (by omega) (by omega)
  exact ⟨fun q => z2.mpr (z1.mp q), fun q => z1.mpr (z2.mp q)⟩
section CPT
variable {N d : Nat} {δ s : mi_D}
theorem cc_isPartWeight (hd : 5 ≤ d) {w : Int32} {Q : Int32 → mi_D → Prop} (k : Q (bI (pwt w)) δ) : mi_wI N d 144 0 [.int w] [] δ Q := by
  refine q11_isPartWeight_0 hd ⟨fun h => ?_, fun h => ⟨fun h2 => ?_, fun h2 => ?_⟩⟩
  · rwa [bI_0 (fun q => q.1 h)] at k
  · rwa [bI_0 (fun q => q.2 h2)] at k
  · rwa [bI_1 ⟨h, h2⟩] at k
theorem cc_wadd (hd : 5 ≤ d) {n : Nat} (hn : n < 7) (hs : δ.1 41 3 = nI n) {w : Int32} {Q : mi_D → Prop} (k : ∀ δ', δ'.1 41 3 = nI (n + 1) → δ'.2.1 43 = up1 (δ.2.1 43) n w → Fr [(41, 3)] [43] [] δ δ' → Q δ') : mi_wV N d 98 0 [.ref 41, .int w] [] δ Q := by
  refine q9_add_0 hd (fun δ1 e1 δ2 e2 => ?_)
  rw [hs, pt_row _ _ _ _ hn (by omega)] at e1
  have h1 : δ1.1 41 3 = nI n := by rw [e1]; exact hs
  rw [h1, nI_1] at e2
  refine k δ2 (by rw [e2, pI_f, if_pos ⟨rfl, rfl⟩]) (by rw [e2, pI_a, e1, rA_a, if_pos rfl]) (by rw [e2, e1]; exact (Fr.rwA (by decide)).xI (by decide))
theorem cp_part (hd : 9 ≤ d) (H : Abs δ s) {v : Int64} {w0 w1 w2 w3 i : Int32} {Q : Int64 → mi_D → Prop} (k : ∀ δ', Abs δ' s → KX δ δ' → Q (B_part v w0 w1 w2 w3 i) δ') : mi_wL N d 137 0 [.ref 2, .long v, .null, .int w0, .int w1, .int w2, .int w3, .int i] [] δ Q := by
  unfold B_part at k
  have no : ¬ (inR i 4 ∧ wtn v 1000000000000000 ∧ pwt w0 ∧ pwt w1 ∧ pwt w2 ∧ pwt w3) → Q LST δ := fun h => by
    have k := k δ H Kp.rf
    rwa [if_pos h] at k
  refine q11_part_0 (by omega) ⟨fun h => no (fun q => q.1.1 h), fun h => ⟨fun h2 => cc_within (by omega) (bI_br (fun hv => no (fun q => hv q.2.1)) (fun hv => cc_isPartWeight (by omega) (bI_br (fun a0 => no (fun q => a0 q.2.2.1)) (fun a0 => cc_isPartWeight (by omega) (bI_br (fun a1 => no (fun q => a1 q.2.2.2.1)) (fun a1 => cc_isPartWeight (by omega) (bI_br (fun a2 => no (fun q => a2 q.2.2.2.2.1)) (fun a2 => cc_isPartWeight (by omega) (bI_br (fun a3 => no (fun q => a3 q.2.2.2.2.2)) (fun a3 => ?_)))))))))), fun h2 => no (fun q => h2 q.1.2)⟩⟩
  rw [if_neg (fun q => q ⟨⟨h, h2⟩, hv, a0, a1, a2, a3⟩)] at k
  refine q9_clear_0 (by omega) (fun δ1 e1 => cc_wadd (by omega) (n := 0) (by omega) (by rw [e1, pI_f, if_pos ⟨rfl, rfl⟩]; exact nI_0.symm) (fun δ2 s2 r2 f2 => cc_wadd (by omega) (by omega) s2 (fun δ3 s3 r3 f3 => cc_wadd (by omega) (by omega) s3 (fun δ4 s4 r4 f4 => cc_wadd (by omega) (by omega) s4 (fun δ5 s5 r5 f5 => ?_)))))
  have f1 : Fr [(41, 3)] [43] [] δ δ1 := by rw [e1]; exact Fr.setI (by decide)
  have F5 := f1.tr (f2.tr (f3.tr (f4.tr f5)))
  have K5 : KX δ δ5 := F5.kp (by decide) (by decide) (by decide)
  have H5 : Abs δ5 s := H.c (F5.kp (by decide) (by decide) (by decide))
  have h43 : ∀ j, j < 4 → Int32.toInt64 (δ5.2.1 43 j) = w4 w0 w1 w2 w3 j := by
    intro j hj
    rw [r5, r4, r3, r2]
    rcases (show j = 0 ∨ j = 1 ∨ j = 2 ∨ j = 3 by omega) with z | z | z | z <;> subst z
    · rw [up1_n _ _ (by omega), up1_n _ _ (by omega), up1_n _ _ (by omega), up1_s]; rfl
    · rw [up1_n _ _ (by omega), up1_n _ _ (by omega), up1_s]; rfl
    · rw [up1_n _ _ (by omega), up1_s]; rfl
    · rw [up1_s]; rfl
  obtain ⟨j, hj, ej⟩ := isN_of (n := 4) (by omega) h h2
  refine cc_divide (by omega) (n := 4) (by omega) s5 h43 (w4_ok hv a0 a1 a2 a3) (fun z => br0 ?_) (fun z δ6 g6 f6 => brN (by decide) ?_)
  · rw [if_pos z] at k
    exact k δ5 H5 K5
  · rw [if_neg z, ej, nI_clamp (by omega)] at k
    rw [ej, mi_al_nI _ _ (by omega), g6 j hj]
    exact k δ6 (H5.c (f6.kp (by decide) (by decide) (by decide))) (K5.tr (f6.kp (by decide) (by decide) (by decide)))
theorem cm_part (hd : 7 ≤ d) (G : Agr s δ) {v : Int64} {w0 w1 w2 w3 i : Int32} {Q : Int64 → mi_D → Prop} (k : ∀ δ', Agr s δ' → KC δ δ' → Q (B_part v w0 w1 w2 w3 i) δ') : mi_wL N d 180 0 [.ref 48, .long v, .null, .int w0, .int w1, .int w2, .int w3, .int i] [] δ Q := by
  unfold B_part at k
  have no : ¬ (inR i 4 ∧ wtn v 1000000000000000 ∧ pwt w0 ∧ pwt w1 ∧ pwt w2 ∧ pwt w3) → Q LST δ := fun h => by
    have k := k δ G Kp.rf
    rwa [if_pos h] at k
  have i34 : ¬ (3 : Int32) < i → ¬ i < 0 → i < 4 := fun h1 h2 => by
    obtain ⟨z, hz, ez⟩ := nI_of h2
    rw [ez] at h1 ⊢
    rcases Nat.lt_or_ge z 4 with y | y
    · exact nI_lt (b := 4) y (by omega)
    · exact absurd (nI_lt (a := 3) (by omega) hz) h1
  refine q12_part_0 (by omega) (c_inI (lo := 0) (hi := 3) (by omega) rfl rfl (fun b1 b2 => brN (by decide) (c_inW (by omega) (by decide) (bI_br (fun hv => no (fun q => hv q.2.1)) (fun hv => ?_)))) (fun b => br0 (no (fun q => b.elim q.1.1 (fun z => by
    obtain ⟨y, hy, ey⟩ := isN_of (n := 4) (by omega) q.1.1 q.1.2
    rw [ey] at z
    have := (nI_ltI (a := 3) (by omega) (by omega)).mp z
    omega)))))
  refine c_inI (lo := 0) (hi := 1000) (by omega) rfl rfl (fun c1 c2 => brN (by decide) ?_) (fun c => br0 (no (fun q => c.elim q.2.2.1.1 q.2.2.1.2)))
  refine c_inI (lo := 0) (hi := 1000) (by omega) rfl rfl (fun c3 c4 => brN (by decide) ?_) (fun c => br0 (no (fun q => c.elim q.2.2.2.1.1 q.2.2.2.1.2)))
  refine c_inI (lo := 0) (hi := 1000) (by omega) rfl rfl (fun c5 c6 => brN (by decide) ?_) (fun c => br0 (no (fun q => c.elim q.2.2.2.2.1.1 q.2.2.2.2.1.2)))
  refine c_inI (lo := 0) (hi := 1000) (by omega) rfl rfl (fun c7 c8 => brN (by decide) ?_) (fun c => br0 (no (fun q => c.elim q.2.2.2.2.2.1 q.2.2.2.2.2.2)))
  have b3 := i34 b2 b1
  rw [if_neg (fun q => q ⟨⟨b1, b3⟩, hv, ⟨c1, c2⟩, ⟨c3, c4⟩, ⟨c5, c6⟩, c7, c8⟩)] at k
  have hsum := w4_sum (w0 := w0) (w1 := w1) (w2 := w2) (w3 := w3) ⟨c1, c2⟩ ⟨c3, c4⟩ ⟨c5, c6⟩ ⟨c7, c8⟩
  refine ⟨fun z => ?_, fun z δ13 e13 => ?_⟩
  · have k := k δ G Kp.rf
    rwa [if_pos (hsum.mpr z)] at k
  · have hS : ¬ sumW (w4 w0 w1 w2 w3) 4 = 0 := fun q => z (hsum.mp q)
    rw [if_neg hS] at k
    refine ⟨by decide, fun δ14 e14 => ⟨by decide, fun δ15 e15 => ⟨by decide, fun δ16 e16 => ⟨by decide, fun δ17 e17 => ?_⟩⟩⟩⟩
    have F17 : Fr [(48, 41)] [79] [76, 77, 78] δ δ17 := by
      rw [e17, e16, e15, e14, e13]
      exact (((((Fr.setI (by decide)).tr (Fr.setL (by decide))).tr (Fr.setL (by decide))).tr (Fr.setL (by decide))).tr (Fr.setL (by decide)))
    have s17 : δ17.1 48 41 = nI 4 := by rw [e17, e16, e15, e14, e13, pL_f, pL_f, pL_f, pL_f, pI_f, if_pos ⟨rfl, rfl⟩]; rfl
    have r17 : δ17.2.2 76 = up1 (up1 (up1 (up1 (δ.2.2 76) 0 (Int32.toInt64 w0)) 1 (Int32.toInt64 w1)) 2 (Int32.toInt64 w2)) 3 (Int32.toInt64 w3) := by
      rw [e17, e16, e15, e14, e13, pL_l, if_pos rfl, pL_l, if_pos rfl, pL_l, if_pos rfl, pL_l, if_pos rfl, pI_l]
      rfl
    have h76 : ∀ j, j < 4 → δ17.2.2 76 j = w4 w0 w1 w2 w3 j := by
      intro j hj
      rw [r17]
      rcases (show j = 0 ∨ j = 1 ∨ j = 2 ∨ j = 3 by omega) with z | z | z | z <;> subst z
      · rw [up1_n _ _ (by omega), up1_n _ _ (by omega), up1_n _ _ (by omega), up1_s]; rfl
      · rw [up1_n _ _ (by omega), up1_n _ _ (by omega), up1_s]; rfl
      · rw [up1_n _ _ (by omega), up1_s]; rfl
      · rw [up1_s]; rfl
    obtain ⟨j, hj, ej⟩ := isN_of (n := 4) (by omega) b1 b3
    refine cm_shares (by omega) s17 h76 (w4_ok hv ⟨c1, c2⟩ ⟨c3, c4⟩ ⟨c5, c6⟩ ⟨c7, c8⟩) hS (fun δ18 g18 f18 => ?_)
    have F18 := F17.tr (f18.wk (by decide) (by decide) (by decide))
    rw [ej, nI_clamp (by omega)] at k
    rw [ej, nI_clamp (by omega), g18 j hj]
    exact ⟨mi_ix_nI (by omega) (by omega), k δ18 (G.fr F18 (by decide) (by decide) (by decide)) (F18.kp (by decide) (by decide) (by decide))⟩
end CPT
