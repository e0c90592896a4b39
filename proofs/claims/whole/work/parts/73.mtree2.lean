/-! the sheet: the model's way through the tree -/
def T16 (N d : Nat) (l : Int32) (δ : mi_D) (Q : mi_D → Prop) : Prop := mi_wV N d 204 16 [.ref 48, .int l, .null, .null, .null] [] δ Q ∧ (∀ x y, mi_wV N d 204 16 [.ref 48, .int l, .int x, .int y, .null] [] δ Q) ∧ ∀ x y z, mi_wV N d 204 16 [.ref 48, .int l, .int x, .int y, .int z] [] δ Q
def T24 (N d : Nat) (l r i : Int32) (δ : mi_D) (Q : mi_D → Prop) : Prop := mi_wV N d 204 24 [.ref 48, .int l, .int r, .int i, .null] [] δ Q ∧ ∀ z, mi_wV N d 204 24 [.ref 48, .int l, .int r, .int i, .int z] [] δ Q
theorem T16_of {N d : Nat} (hd : 5 ≤ d) {l : Int32} {δ : mi_D} {Q : mi_D → Prop} (h0 : l < 0 → Q δ) (h1 : ¬ l < 0 → T24 N d l (-1) 0 δ Q) : T16 N d l δ Q :=
  ⟨q12_tree_16 hd ⟨h0, fun h => (h1 h).1⟩, fun _ _ => q12_tree_16a hd ⟨h0, fun h => (h1 h).1⟩, fun _ _ z => q12_tree_16b hd ⟨h0, fun h => (h1 h).2 z⟩⟩
abbrev tfr (δ δ' : mi_D) : Prop := Fr [(48, 36)] [72, 73, 74, 75] [] δ δ'
section SCAN
variable {N d : Nat} {δ s : mi_D} {g : Nat → Int32} {B : List Int32}
theorem cm_scan (hd : 10 ≤ d) (G : GA s δ) (W : WfA s) (X : Sm δ g B) (hB : B.length + 120 < 2 ^ 30) {l i : Nat} (hl : l ≤ 6) {p : Int32} (hi : i ≤ (chK s p).length) (h74 : δ.2.1 74 l = p) (h75 : δ.2.1 75 l = prevK s (chK s p) i) {Q : mi_D → Prop}
    (k0 : i = (chK s p).length → T16 N d (nI l - 1) δ Q)
    (k1 : ∀ h : i < (chK s p).length, ∀ δ', Sm δ' g (B ++ rB s (chK s p)[i]) → δ'.2.1 75 l = keyI s (chK s p)[i] → δ'.2.1 74 (l + 1) = nI (chK s p)[i] → δ'.2.1 75 (l + 1) = -1 → (∀ j, j ≤ l → δ'.2.1 74 j = δ.2.1 74 j) → (∀ j, j < l → δ'.2.1 75 j = δ.2.1 75 j) → tfr δ δ' → T16 N d (nI (l + 1)) δ' Q) : T16 N d (nI l) δ Q := by
  have h60 := W.1.2
  have d2 : δ.1 48 2 = nI (nN s 2) := (G.1 (48, 2) (by decide)).trans W.1.1
  have e49 : δ.2.1 49 = s.2.1 49 := G.2.1 49 (by decide)
  have e50 : δ.2.1 50 = s.2.1 50 := G.2.1 50 (by decide)
  have e51 : δ.2.1 51 = s.2.1 51 := G.2.1 51 (by decide)
  obtain ⟨C, eC⟩ : ∃ C, chK s p = C := ⟨_, rfl⟩
  have hmem : ∀ a, a ∈ C ↔ a < nN s 2 ∧ s.2.1 51 a = p := fun a => by rw [← eC]; exact chK_mem
  have hsn := srt_next (s := s) (C := C) (by rw [← eC]; exact chK_srt W p) (fun a ha => key_pos W ((hmem a).mp ha).1) (i := i) (by rw [← eC]; exact hi)
  simp only [eC] at hi h75 k0 k1
  obtain ⟨u, eu⟩ : ∃ u, prevK s C i = u := ⟨_, rfl⟩
  rw [eu] at hsn h75
  have hxl : mi_ix (nI l) 8 = true := mi_ix_nI (by omega) (by omega)
  have hcl : (nI l).toNatClampNeg = l := nI_clamp (by omega)
  refine T16_of (by omega) (fun h => absurd h (nI_pos (by omega))) (fun _ => ?_)
  suffices H : ∀ m, m ≤ nN s 2 → ∀ r, ((r = -1 ∧ ∀ a, a < m → s.2.1 51 a = p → ¬ u < keyI s a) ∨ ∃ b, b < m ∧ r = nI b ∧ s.2.1 51 b = p ∧ u < keyI s b ∧ ∀ a, a < m → s.2.1 51 a = p → u < keyI s a → ¬ keyI s a < keyI s b) → T24 N d (nI l) r (nI m) δ Q by
    have q := H 0 (by omega) (-1) (Or.inl ⟨rfl, fun a ha => absurd ha (Nat.not_lt_zero a)⟩)
    rwa [nI_0] at q
  intro m hm
  refine up_ind (P := fun m => ∀ r, ((r = -1 ∧ ∀ a, a < m → s.2.1 51 a = p → ¬ u < keyI s a) ∨ ∃ b, b < m ∧ r = nI b ∧ s.2.1 51 b = p ∧ u < keyI s b ∧ ∀ a, a < m → s.2.1 51 a = p → u < keyI s a → ¬ keyI s a < keyI s b) → T24 N d (nI l) r (nI m) δ Q) ?_ ?_ hm
  · intro r hr
    have hF : ¬ nI (nN s 2) < δ.1 48 2 := by rw [d2]; exact nI_nlt (by omega) (by omega)
    have em : nI l + -1 = nI l - 1 := by rw [Int32.sub_eq_add_neg]
    rcases hr with ⟨er, hn⟩ | ⟨b, hb, er, hbp, hub, hbl⟩
    · have hi' : i = C.length := by
        rcases Nat.lt_or_ge i C.length with q | q
        · have hq := (hmem C[i]).mp (List.getElem_mem q)
          exact absurd (hsn.1 i q (Nat.le_refl _)) (hn _ hq.1 hq.2)
        · omega
      have K := k0 hi'
      subst er
      refine ⟨q12_tree_24 (by omega) (brF hF (brT (by decide) ?_)), fun z => q12_tree_24a (by omega) (brF hF (brT (by decide) ?_))⟩
      · rw [em]; exact K.2.1 _ _
      · rw [em]; exact K.2.2 _ _ _
    · obtain ⟨j, hj, ej⟩ := List.getElem_of_mem ((hmem b).mpr ⟨hb, hbp⟩)
      have hji : j = i := by
        rcases Nat.lt_trichotomy j i with q | q | q
        · exact absurd (by rw [ej]; exact hub) (hsn.2 j hj q)
        · exact q
        · have hq := (hmem C[i]).mp (List.getElem_mem (show i < C.length by omega))
          have hget := List.pairwise_iff_getElem.mp (show C.Pairwise (fun a b => keyI s a < keyI s b) by rw [← eC]; exact chK_srt W p)
          have q2 := hget i j (by omega) hj q
          rw [ej] at q2
          exact absurd q2 (hbl _ hq.1 hq.2 (hsn.1 i (by omega) (Nat.le_refl _)))
      subst hji
      subst er
      have hxb : mi_ix (nI b) 60 = true := mi_ix_nI (by omega) (by omega)
      have hcb : (nI b).toNatClampNeg = b := nI_clamp (by omega)
      have hxl1 : mi_ix (nI l + 1) 8 = true := by rw [nI_1]; exact mi_ix_nI (by omega) (by omega)
      have step : ∀ δ1, Sm δ1 g (B ++ rB s b) → Fr [(48, 36)] [72, 73] [] δ δ1 → ∀ δ2 δ3 δ4 : mi_D, δ2 = mi_setA δ1 75 (Int32.toNatClampNeg (nI l)) ((10000 * (δ1.2.1 50 (Int32.toNatClampNeg (nI b)))) + (δ1.2.1 49 (Int32.toNatClampNeg (nI b)))) → δ3 = mi_setA δ2 74 (Int32.toNatClampNeg (nI l + 1)) (nI b) → δ4 = mi_setA δ3 75 (Int32.toNatClampNeg (nI l + 1)) (-1) → T16 N d (nI (l + 1)) δ4 Q := by
        intro δ1 X1 f1 δ2 δ3 δ4 e2 e3 e4
        rw [nI_1, nI_clamp (by omega)] at e3 e4
        rw [hcl, hcb, f1.2.1 50 (by decide), f1.2.1 49 (by decide), e50, e49] at e2
        have F4 : Fr [] [74, 75] [] δ1 δ4 := by
          subst e4 e3 e2
          exact ((Fr.setA (by decide)).tr (Fr.setA (by decide))).tr (Fr.setA (by decide))
        have r75 : δ4.2.1 75 = up1 (up1 (δ1.2.1 75) l (keyI s b)) (l + 1) (-1) := by
          rw [e4, pA_a, if_pos rfl, e3, pA_a, if_neg (by decide), e2, pA_a, if_pos rfl]
          rfl
        have r74 : δ4.2.1 74 = up1 (δ1.2.1 74) (l + 1) (nI b) := by
          rw [e4, pA_a, if_neg (by decide), e3, pA_a, if_pos rfl, e2, pA_a, if_neg (by decide)]
        refine k1 hj δ4 ?_ ?_ ?_ ?_ ?_ ?_ ?_
        · rw [ej]; exact X1.fr F4 (by decide) (by decide)
        · rw [r75, up1_n _ _ (by omega), up1_s, ej]
        · rw [r74, up1_s, ej]
        · rw [r75, up1_s]
        · intro j hj
          rw [r74, up1_n _ _ (by omega), f1.2.1 74 (by decide)]
        · intro j hj
          rw [r75, up1_n _ _ (by omega), up1_n _ _ (by omega), f1.2.1 75 (by decide)]
        · exact (f1.wk (by decide) (by decide) (by decide)).tr (F4.wk (by decide) (by decide) (by decide))
      have hbn : b < nN s 2 := hb
      refine ⟨q12_tree_24 (by omega) (brF hF (brF (nI_pos (by omega)) (cm_row (by omega) G W hbn X hB (fun δ1 X1 f1 => ⟨hxb, hxb, hxl, fun δ2 e2 => ⟨hxl1, fun δ3 e3 => ⟨hxl1, fun δ4 e4 => ?_⟩⟩⟩)))), fun z => q12_tree_24a (by omega) (brF hF (brF (nI_pos (by omega)) (cm_row (by omega) G W hbn X hB (fun δ1 X1 f1 => ⟨hxb, hxb, hxl, fun δ2 e2 => ⟨hxl1, fun δ3 e3 => ⟨hxl1, fun δ4 e4 => ?_⟩⟩⟩))))⟩
      · rw [nI_1]; exact (step δ1 X1 f1 δ2 δ3 δ4 e2 e3 e4).2.1 _ _
      · rw [nI_1]; exact (step δ1 X1 f1 δ2 δ3 δ4 e2 e3 e4).2.2 _ _ _
  · intro m hm ih r hr
    have hT : nI m < δ.1 48 2 := by rw [d2]; exact nI_lt hm (by omega)
    have hxm : mi_ix (nI m) 60 = true := mi_ix_nI (by omega) (by omega)
    have hcm : (nI m).toNatClampNeg = m := nI_clamp (by omega)
    have skip : ¬ (s.2.1 51 m = p ∧ u < keyI s m) → ∀ z, mi_wV N d 204 24 [.ref 48, .int (nI l), .int r, .int (nI (m + 1)), .int z] [] δ Q := by
      intro h
      refine (ih r ?_).2
      rcases hr with ⟨er, hn⟩ | ⟨b, hb, er, hbp, hub, hbl⟩
      · refine Or.inl ⟨er, fun a ha hap hu => ?_⟩
        rcases Nat.lt_or_eq_of_le (Nat.lt_succ_iff.mp ha) with q | q
        · exact hn a q hap hu
        · subst q; exact h ⟨hap, hu⟩
      · refine Or.inr ⟨b, by omega, er, hbp, hub, fun a ha hap hu => ?_⟩
        rcases Nat.lt_or_eq_of_le (Nat.lt_succ_iff.mp ha) with q | q
        · exact hbl a q hap hu
        · subst q; exact absurd ⟨hap, hu⟩ h
    have body : ∀ x5 : Int32, x5 = ((10000 * (δ.2.1 50 (Int32.toNatClampNeg (nI m)))) + (δ.2.1 49 (Int32.toNatClampNeg (nI m)))) → (mi_ix (nI m) 60 = true ∧ (mi_ix (nI l) 8 = true ∧ (((δ.2.1 51 (Int32.toNatClampNeg (nI m))) = (δ.2.1 74 (Int32.toNatClampNeg (nI l))) → (mi_ix (nI l) 8 = true ∧ (((δ.2.1 75 (Int32.toNatClampNeg (nI l))) < x5 → ((r < 0 → mi_wV N d 204 24 [.ref 48, .int (nI l), .int (nI m), .int (nI m + 1), .int x5] [] δ Q) ∧ (¬ r < 0 → (mi_ix r 60 = true ∧ (mi_ix r 60 = true ∧ ((x5 < ((10000 * (δ.2.1 50 (Int32.toNatClampNeg r))) + (δ.2.1 49 (Int32.toNatClampNeg r))) → mi_wV N d 204 24 [.ref 48, .int (nI l), .int (nI m), .int (nI m + 1), .int x5] [] δ Q) ∧ (¬ x5 < ((10000 * (δ.2.1 50 (Int32.toNatClampNeg r))) + (δ.2.1 49 (Int32.toNatClampNeg r))) → mi_wV N d 204 24 [.ref 48, .int (nI l), .int r, .int (nI m + 1), .int x5] [] δ Q))))))) ∧ (¬ (δ.2.1 75 (Int32.toNatClampNeg (nI l))) < x5 → mi_wV N d 204 24 [.ref 48, .int (nI l), .int r, .int (nI m + 1), .int x5] [] δ Q)))) ∧ (¬ (δ.2.1 51 (Int32.toNatClampNeg (nI m))) = (δ.2.1 74 (Int32.toNatClampNeg (nI l))) → mi_wV N d 204 24 [.ref 48, .int (nI l), .int r, .int (nI m + 1), .int x5] [] δ Q)))) := by
      intro x5 e5
      rw [hcm, e50, e49] at e5
      have e5' : x5 = keyI s m := e5
      subst e5'
      rw [hcm, hcl, e51, h74, h75, nI_1]
      refine ⟨hxm, hxl, fun h1 => ⟨hxl, fun h2 => ?_, fun h2 => skip (fun q => h2 q.2) _⟩, fun h1 => skip (fun q => h1 q.1) _⟩
      rcases hr with ⟨er, hn⟩ | ⟨b, hb, er, hbp, hub, hbl⟩
      · subst er
        refine brT (by decide) ((ih (nI m) (Or.inr ⟨m, by omega, rfl, h1, h2, fun a ha hap hu => ?_⟩)).2 _)
        rcases Nat.lt_or_eq_of_le (Nat.lt_succ_iff.mp ha) with q | q
        · exact absurd hu (hn a q hap)
        · subst q; rw [Int32.lt_iff_toInt_lt]; omega
      · subst er
        have hxb : mi_ix (nI b) 60 = true := mi_ix_nI (by omega) (by omega)
        refine brF (nI_pos (by omega)) ⟨hxb, hxb, ?_⟩
        rw [nI_clamp (show b < 2 ^ 31 by omega), e50, e49]
        refine ⟨fun h3 => (ih (nI m) (Or.inr ⟨m, by omega, rfl, h1, h2, fun a ha hap hu => ?_⟩)).2 _, fun h3 => (ih (nI b) (Or.inr ⟨b, by omega, rfl, hbp, hub, fun a ha hap hu => ?_⟩)).2 _⟩
        · have h3' : keyI s m < keyI s b := h3
          rcases Nat.lt_or_eq_of_le (Nat.lt_succ_iff.mp ha) with q | q
          · have := hbl a q hap hu
            rw [Int32.lt_iff_toInt_lt] at *
            omega
          · subst q; rw [Int32.lt_iff_toInt_lt]; omega
        · rcases Nat.lt_or_eq_of_le (Nat.lt_succ_iff.mp ha) with q | q
          · exact hbl a q hap hu
          · subst q; exact h3
    exact ⟨q12_tree_24 (by omega) (brT hT ⟨hxm, hxm, body⟩), fun z => q12_tree_24a (by omega) (brT hT ⟨hxm, hxm, body⟩)⟩
abbrev dcd (s : mi_D) (l : Nat) (p : Int32) : Prop := (l = 0 ∧ p = -1) ∨ ∃ a e, a < nN s 2 ∧ p = nI a ∧ s.2.1 53 a = nI e ∧ e ≤ 5 ∧ l = e + 1
theorem dcd_child {s : mi_D} (W : WfA s) {l : Nat} {p : Int32} (h : dcd s l p) {b : Nat} (hb : b ∈ chK s p) : s.2.1 53 b = nI l ∧ l ≤ 5 := by
  have h60 := W.1.2
  obtain ⟨b1, b2⟩ := chK_mem.mp hb
  rcases W.2.2.2 b b1 with ⟨z, z2⟩ | ⟨c, dd, hc, ec, _, _, hdd, ed, ed2⟩
  · rcases h with ⟨e, ep⟩ | ⟨a, e, ha, ep, _⟩
    · rw [e, z2]; exact ⟨nI_0.symm, by omega⟩
    · rw [z, ep] at b2; exact absurd b2.symm (nI_ne1 (by omega))
  · rcases h with ⟨e, ep⟩ | ⟨a, e, ha, ep, ea, he, el⟩
    · rw [ec, ep] at b2; exact absurd b2 (nI_ne1 (by omega))
    · rw [ec, ep] at b2
      have := (nI_eq (by omega) (by omega)).mp b2
      subst this
      have h1 := (nI_eq (a := dd) (b := e) (by omega) (by omega)).mp (ed.symm.trans ea)
      subst h1
      subst el
      exact ⟨ed2, by omega⟩
theorem dcd_tU {s : mi_D} (W : WfA s) {l f : Nat} {p : Int32} (hf : l + f = 6) (h : dcd s l p) : (chK s p).flatMap (fun a => a :: tU s (f - 1) (nI a)) = tU s f p := by
  cases f with
  | zero =>
    have : chK s p = [] := by
      rcases hC : chK s p with _ | ⟨b, C⟩
      · rfl
      · have := (dcd_child W h (b := b) (by rw [hC]; exact List.mem_cons_self)).2
        omega
    rw [this]
    rfl
  | succ f => rfl
theorem cm_level (hd : 10 ≤ d) (W : WfA s) (f : Nat) : ∀ (l : Nat) (p : Int32) (Q : mi_D → Prop), l + f = 6 → dcd s l p → ∀ i, i ≤ (chK s p).length → ∀ (δ : mi_D) (B : List Int32), GA s δ → Sm δ g B → B.length + (rws s (((chK s p).drop i).flatMap (fun a => a :: tU s (f - 1) (nI a)))).length + 200 < 2 ^ 30 → δ.2.1 74 l = p → δ.2.1 75 l = prevK s (chK s p) i →
    (∀ δ', Sm δ' g (B ++ rws s (((chK s p).drop i).flatMap (fun a => a :: tU s (f - 1) (nI a)))) → (∀ j, j ≤ l → δ'.2.1 74 j = δ.2.1 74 j) → (∀ j, j < l → δ'.2.1 75 j = δ.2.1 75 j) → tfr δ δ' → T16 N d (nI l - 1) δ' Q) → T16 N d (nI l) δ Q := by
  have h60 := W.1.2
  induction f with
  | zero =>
    intro l p Q hl hp i hi δ B G X hB h74 h75 k
    have hC : chK s p = [] := by
      rcases hC : chK s p with _ | ⟨b, C⟩
      · rfl
      · have := (dcd_child W hp (b := b) (by rw [hC]; exact List.mem_cons_self)).2
        omega
    have hL : (chK s p).length = 0 := by rw [hC]; rfl
    refine cm_scan hd G W X (by omega) (by omega) hi h74 h75 (fun _ => k δ ?_ (fun j _ => rfl) (fun j _ => rfl) (Fr.rf _ _ _ _)) (fun h => by omega)
    have e : (chK s p).drop i = [] := List.drop_eq_nil_of_le (by omega)
    rw [e]
    show Sm δ g (B ++ [])
    rw [List.append_nil]
    exact X
  | succ f ih =>
    intro l p Q hl hp i hi
    refine up_ind (P := fun i => ∀ (δ : mi_D) (B : List Int32), GA s δ → Sm δ g B → B.length + (rws s (((chK s p).drop i).flatMap (fun a => a :: tU s (f + 1 - 1) (nI a)))).length + 200 < 2 ^ 30 → δ.2.1 74 l = p → δ.2.1 75 l = prevK s (chK s p) i →
    (∀ δ', Sm δ' g (B ++ rws s (((chK s p).drop i).flatMap (fun a => a :: tU s (f + 1 - 1) (nI a)))) → (∀ j, j ≤ l → δ'.2.1 74 j = δ.2.1 74 j) → (∀ j, j < l → δ'.2.1 75 j = δ.2.1 75 j) → tfr δ δ' → T16 N d (nI l - 1) δ' Q) → T16 N d (nI l) δ Q) ?_ ?_ hi
    · intro δ B G X hB h74 h75 k
      refine cm_scan hd G W X (by omega) (by omega) (Nat.le_refl _) h74 h75 (fun _ => k δ ?_ (fun j _ => rfl) (fun j _ => rfl) (Fr.rf _ _ _ _)) (fun h => absurd h (Nat.lt_irrefl _))
      rw [List.drop_length]
      show Sm δ g (B ++ [])
      rw [List.append_nil]
      exact X
    · intro i hi ih2 δ B G X hB h74 h75 k
      obtain ⟨C, eC⟩ : ∃ C, chK s p = C := ⟨_, rfl⟩
      have hbm : (chK s p)[i] ∈ chK s p := List.getElem_mem hi
      obtain ⟨eb, hl5⟩ := dcd_child W hp hbm
      have hb1 := (chK_mem.mp hbm).1
      have hp' : dcd s (l + 1) (nI (chK s p)[i]) := Or.inr ⟨_, l, hb1, rfl, eb, hl5, rfl⟩
      have hl' : l + 1 + f = 6 := by omega
      have eT := dcd_tU W hl' hp'
      have ed : rws s (((chK s p).drop i).flatMap (fun a => a :: tU s (f + 1 - 1) (nI a))) = rB s (chK s p)[i] ++ (rws s (tU s f (nI (chK s p)[i])) ++ rws s (((chK s p).drop (i + 1)).flatMap (fun a => a :: tU s (f + 1 - 1) (nI a)))) := by
        rw [List.drop_eq_getElem_cons hi, List.flatMap_cons, rws_app]
        show (rB s (chK s p)[i] ++ rws s (tU s f (nI (chK s p)[i]))) ++ _ = _
        rw [List.append_assoc]
      rw [ed] at hB k
      rw [List.length_append, List.length_append] at hB
      refine cm_scan hd G W X (by omega) (by omega) (by omega) h74 h75 (fun h => by omega) (fun h δ1 X1 a75 a74 b75 k74 k75 F1 => ?_)
      refine ih (l + 1) (nI (chK s p)[i]) Q hl' hp' 0 (Nat.zero_le _) δ1 _ (G.fr F1 (by decide) (by decide) (by decide)) X1 ?_ a74 b75 (fun δ2 X2 m74 m75 F2 => ?_)
      · rw [List.drop_zero, eT, List.length_append]
        omega
      · rw [List.drop_zero, eT] at X2
        rw [nI_pred]
        have F12 := F1.tr F2
        refine ih2 δ2 _ (G.fr F12 (by decide) (by decide) (by decide)) X2 ?_ ?_ ?_ (fun δ3 X3 n74 n75 F3 => ?_)
        · rw [List.length_append, List.length_append]; omega
        · rw [m74 l (by omega), k74 l (Nat.le_refl _), h74]
        · rw [m75 l (by omega), a75]
          show _ = (match (chK s p)[i]? with | some b => keyI s b | none => -1)
          rw [List.getElem?_eq_getElem hi]
        · refine k δ3 ?_ (fun j hj => ?_) (fun j hj => ?_) (F12.tr F3)
          · rw [← List.append_assoc, ← List.append_assoc]; exact X3
          · rw [n74 j hj, m74 j (by omega), k74 j hj]
          · rw [n75 j hj, m75 j (by omega), k75 j hj]
theorem cm_tree (hd : 11 ≤ d) (G : GA s δ) (W : WfA s) (X : Sm δ g B) (hB : B.length + (rws s (tU s 6 (-1))).length + 200 < 2 ^ 30) {Q : mi_D → Prop} (k : ∀ δ', Sm δ' g (B ++ rws s (tU s 6 (-1))) → tfr δ δ' → Q δ') : mi_wV N d 204 0 [.ref 48, .null, .null, .null, .null] [] δ Q := by
  refine q12_tree_0 (by omega) ⟨by decide, fun δ1 e1 => ⟨by decide, fun δ2 e2 => ?_⟩⟩
  have c0 : (0 : Int32).toNatClampNeg = 0 := by decide
  rw [c0] at e1 e2
  have F2 : Fr [] [74, 75] [] δ δ2 := by subst e2 e1; exact (Fr.setA (by decide)).tr (Fr.setA (by decide))
  have F2' : tfr δ δ2 := F2.wk (by decide) (by decide) (by decide)
  have hp : dcd s 0 (-1) := Or.inl ⟨rfl, rfl⟩
  have eT := dcd_tU W (l := 0) (f := 6) rfl hp
  have q := cm_level (N := N) (d := d) (g := g) (by omega) W 6 0 (-1) Q rfl hp 0 (Nat.zero_le _) δ2 B (G.fr F2 (by decide) (by decide) (by decide)) (X.fr F2 (by decide) (by decide)) (by rw [List.drop_zero, eT]; exact hB)
    (by rw [e2, pA_a, if_neg (by decide), e1, pA_a, if_pos rfl, up1_s]) (by rw [e2, pA_a, if_pos rfl, up1_s]; rfl) (fun δ3 X3 _ _ F3 => T16_of (by omega) (fun _ => k δ3 (by rw [List.drop_zero, eT] at X3; exact X3) (F2'.tr F3)) (fun h => absurd (by decide) h))
  have q1 := q.1
  rwa [nI_0] at q1
end SCAN
