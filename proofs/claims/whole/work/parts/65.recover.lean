/-! RECOVERY: the records one behind another -/
theorem cm_fin {δ0 δ' s : mi_D} {f : Nat → Int32} {p e : Nat} {w lo : Int32} {x : Int32 × mi_D} {Q : Int32 → mi_D → Prop} (er : rdo s f p e w = acc0 lo x) (hn : x.1 < lo → x.2 = s) (G : Agr x.2 δ') (K : KC δ0 δ')
    (k1 : ∀ s', rdo s f p e w = some s' → ∀ δ', Agr s' δ' → KC δ0 δ' → Q 1 δ') (k0 : rdo s f p e w = none → ∀ δ', Agr s δ' → KC δ0 δ' → Q 0 δ') : (x.1 < lo → Q 0 δ') ∧ (¬ x.1 < lo → Q 1 δ') := by
  unfold acc0 at er
  refine ⟨fun q => ?_, fun q => ?_⟩
  · rw [if_pos q] at er
    rw [hn q] at G
    exact k0 er δ' G K
  · rw [if_neg q] at er
    exact k1 _ er δ' G K
theorem gate_neg {s s' : mi_D} {rf what ans lo : Int32} {B : List Int32} (hU : ¬ s.1 48 0 = 0) (hR : ¬ s.1 48 1 = 0) (ha : rf = 0 → ¬ ans < lo) (h : (gate s rf what ans B s').1 < lo) : (gate s rf what ans B s').2 = s := by
  by_cases q : rf = 0
  · rw [gate_ok hU q (Or.inl hR)] at h
    exact absurd h (ha q)
  · rw [gate_ref hU q]
section ANS
variable {s : mi_D}
theorem an_2 (W : Wf s) : ¬ s.1 48 2 < 0 := by rw [W.1.1.1]; exact nI_pos (by have := W.1.1.2; omega)
theorem an_11 (W : Wf s) : ¬ s.1 48 11 < 0 := by rw [W.2.1.1.1]; exact nI_pos (by have := W.2.1.1.2; omega)
theorem an_12 (W : Wf s) : ¬ s.1 48 12 < 0 := by rw [W.2.1.2.1.1]; exact nI_pos (by have := W.2.1.2.1.2; omega)
theorem an_15 (W : Wf s) : ¬ s.1 48 15 < 0 := by rw [W.2.2.1.1.1]; exact nI_pos (by have := W.2.2.1.1.2; omega)
theorem an_10 (W : Wf s) : ¬ s.1 48 10 < -1 := by
  rcases W.2.1.2.2.2.2.2 with z | ⟨a, ha, z, _⟩
  · rw [z]; decide
  · have h60 := W.1.1.2
    rw [z]
    intro q
    have e1 : (nI a).toInt = a := nI_toInt (by omega)
    have em : (-1 : Int32).toInt = -1 := by decide
    rw [Int32.lt_iff_toInt_lt] at q
    omega
theorem an_re (W : Wf s) (h : rf_reopen s = 0) : ¬ s.1 48 12 - 1 < 0 := by
  obtain ⟨hc, _⟩ := rfo_0 W h
  obtain ⟨m, em⟩ : ∃ m, nN s 12 = m + 1 := ⟨nN s 12 - 1, by omega⟩
  have := W.2.1.2.1.2
  rw [W.2.1.2.1.1, em, nI_pred]
  exact nI_pos (by omega)
theorem an_bI (P : Prop) [Decidable P] : ¬ bI P < 0 := by rcases @bI_01 P _ with z | z <;> rw [z] <;> decide
end ANS
section MDN
variable {N d e p : Nat} {δ0 s : mi_D} {f : Nat → Int32}
theorem cm_isDone (hd : 13 ≤ d) (h4 : δ0.1 48 47 = nI e) (hf : δ0.2.1 70 = f) (he : e ≤ 6000) (R : RM e δ0 δ0 (some p)) (G : Agr s δ0) (W : Wf s) (hU : ¬ s.1 48 0 = 0) (hR : ¬ s.1 48 1 = 0) {w : Int32} {Q : Int32 → mi_D → Prop}
    (k1 : ∀ s', rdo s f p e w = some s' → ∀ δ', Agr s' δ' → KC δ0 δ' → Q 1 δ') (k0 : rdo s f p e w = none → ∀ δ', Agr s δ' → KC δ0 δ' → Q 0 δ') : mi_wI N d 187 0 [.ref 48, .int w, .null, .null, .null, .null, .null, .null, .null, .null, .null, .null] [] δ0 Q := by
  have gG : ∀ δ', Fr [(48, 46), (48, 48)] [] [] δ0 δ' → Agr s δ' := fun δ' F => G.fr F (by decide) (by decide) (by decide)
  have gK : ∀ δ', Fr [(48, 46), (48, 48)] [] [] δ0 δ' → KC δ0 δ' := fun δ' F => F.kp (by decide) (by decide) (by decide)
  refine q12_isDone_0 (by omega) ⟨fun q => ?_, fun q => ?_, fun q => ?_, fun q => ?_, fun q => ?_, fun q => ?_, fun q => ?_, fun q => ?_, fun b1 b2 b3 b4 b5 b6 b7 b8 => ?_⟩
  · subst q
    refine cm_whole (by omega) h4 hf he R (fun v1 δ1 r1 => cm_whole (by omega) h4 hf he r1.st (fun v2 δ2 r2 => cm_whole (by omega) h4 hf he r2.st (fun v3 δ3 r3 => cm_truth (by omega) h4 hf he r3.st (fun v4 δ4 hv r4 => cm_isEnded (by omega) (((r4.st.1).1 _ _ (by decide)).trans h4) he r4.st.self (bI_br (fun hn => ?_) (fun hy => ?_))))))
    · refine k0 ?_ δ4 (gG _ r4.st.1) (gK _ r4.st.1)
      unfold rdo
      rw [if_pos rfl]
      unfold rdo1
      exact if_neg hn
    · have n4 : ¬ stO (rdF f e (stO (rdI f e (stO (rdI f e (stO (rdI f e (some p)))))))) = none := fun q => by rw [hy] at q; cases q
      have n3 := rdF_n n4
      have n2 := rdI_n n3
      have n1 := rdI_n n2
      have w1 := r1.v n1 0
      have w2 := r2.v n2 0
      have w3 := r3.v n3 0
      have w4 := r4.v n4 0
      have er : rdo s f p e 1 = acc0 0 (A_account s v1 v2 v3 v4) := by
        unfold rdo
        rw [if_pos rfl]
        unfold rdo1
        rw [if_pos hy, w1, w2, w3, w4]
      exact cm_account (by omega) (gG _ r4.st.1) W hv (fun δ5 G5 K5 => cm_fin er (gate_neg hU hR (fun _ => an_2 W)) G5 ((gK _ r4.st.1).tr K5) k1 k0)
  · subst q
    refine cm_whole (by omega) h4 hf he R (fun v1 δ1 r1 => cm_truth (by omega) h4 hf he r1.st (fun v2 δ2 hv r2 => cm_isEnded (by omega) (((r2.st.1).1 _ _ (by decide)).trans h4) he r2.st.self (bI_br (fun hn => ?_) (fun hy => ?_))))
    · refine k0 ?_ δ2 (gG _ r2.st.1) (gK _ r2.st.1)
      unfold rdo
      rw [if_neg (by decide), if_pos rfl]
      unfold rdo2
      exact if_neg hn
    · have n2 : ¬ stO (rdF f e (stO (rdI f e (some p)))) = none := fun q => by rw [hy] at q; cases q
      have n1 := rdF_n n2
      have w1 := r1.v n1 0
      have w2 := r2.v n2 0
      have er : rdo s f p e 2 = acc0 0 (A_shut s v1 v2) := by
        unfold rdo
        rw [if_neg (by decide), if_pos rfl]
        unfold rdo2
        rw [if_pos hy, w1, w2]
      exact cm_shut (by omega) (gG _ r2.st.1) W hv (fun δ5 G5 K5 => cm_fin er (gate_neg hU hR (fun _ => an_bI _)) G5 ((gK _ r2.st.1).tr K5) k1 k0)
  · subst q
    refine cm_whole (by omega) h4 hf he R (fun v1 δ1 r1 => cm_isEnded (by omega) (((r1.st.1).1 _ _ (by decide)).trans h4) he r1.st.self (bI_br (fun hn => ?_) (fun hy => ?_)))
    · refine k0 ?_ δ1 (gG _ r1.st.1) (gK _ r1.st.1)
      unfold rdo
      rw [if_neg (by decide), if_neg (by decide), if_pos rfl]
      unfold rdo3
      exact if_neg hn
    · have n1 : ¬ stO (rdI f e (some p)) = none := fun q => by rw [hy] at q; cases q
      have w1 := r1.v n1 0
      have er : rdo s f p e 3 = acc0 0 (A_period s v1) := by
        unfold rdo
        rw [if_neg (by decide), if_neg (by decide), if_pos rfl]
        unfold rdo3
        rw [if_pos hy, w1]
      exact cm_period (by omega) (gG _ r1.st.1) W (fun δ5 G5 K5 => cm_fin er (gate_neg hU hR (fun _ => an_11 W)) G5 ((gK _ r1.st.1).tr K5) k1 k0)
  · subst q
    refine cm_whole (by omega) h4 hf he R (fun v1 δ1 r1 => cm_isEnded (by omega) (((r1.st.1).1 _ _ (by decide)).trans h4) he r1.st.self (bI_br (fun hn => ?_) (fun hy => ?_)))
    · refine k0 ?_ δ1 (gG _ r1.st.1) (gK _ r1.st.1)
      unfold rdo
      rw [if_neg (by decide), if_neg (by decide), if_neg (by decide), if_pos rfl]
      unfold rdo4
      exact if_neg hn
    · have n1 : ¬ stO (rdI f e (some p)) = none := fun q => by rw [hy] at q; cases q
      have w1 := r1.v n1 0
      have er : rdo s f p e 4 = acc0 (-1) (A_owner s v1) := by
        unfold rdo
        rw [if_neg (by decide), if_neg (by decide), if_neg (by decide), if_pos rfl]
        unfold rdo4
        rw [if_pos hy, w1]
      exact cm_owner (by omega) (gG _ r1.st.1) W (fun δ5 G5 K5 => cm_fin er (gate_neg hU hR (fun _ => an_10 W)) G5 ((gK _ r1.st.1).tr K5) k1 k0)
  · subst q
    exact cm_isPosted (by omega) h4 hf he R G W hU hR (fun s' h δ' G' K' => ⟨Or.inr rfl, k1 s' h δ' G' K'⟩) (fun h δ' G' K' => ⟨Or.inl rfl, k0 h δ' G' K'⟩)
  · subst q
    refine cm_whole (by omega) h4 hf he R (fun v1 δ1 r1 => cm_whole (by omega) h4 hf he r1.st (fun v2 δ2 r2 => cm_isEnded (by omega) (((r2.st.1).1 _ _ (by decide)).trans h4) he r2.st.self (bI_br (fun hn => ?_) (fun hy => ?_))))
    · refine k0 ?_ δ2 (gG _ r2.st.1) (gK _ r2.st.1)
      unfold rdo
      rw [if_neg (by decide), if_neg (by decide), if_neg (by decide), if_neg (by decide), if_neg (by decide), if_pos rfl]
      unfold rdo6
      exact if_neg hn
    · have n2 : ¬ stO (rdI f e (stO (rdI f e (some p)))) = none := fun q => by rw [hy] at q; cases q
      have n1 := rdI_n n2
      have w1 := r1.v n1 0
      have w2 := r2.v n2 0
      have er : rdo s f p e 6 = acc0 0 (A_back s v1 v2) := by
        unfold rdo
        rw [if_neg (by decide), if_neg (by decide), if_neg (by decide), if_neg (by decide), if_neg (by decide), if_pos rfl]
        unfold rdo6
        rw [if_pos hy, w1, w2]
      exact cm_back (by omega) (gG _ r2.st.1) W (fun δ5 G5 K5 => cm_fin er (gate_neg hU hR (fun _ => an_15 W)) G5 ((gK _ r2.st.1).tr K5) k1 k0)
  · subst q
    have e0 : rdo s f p e 7 = if p = e then acc0 0 (A_close s) else none := by
      unfold rdo
      rw [if_neg (by decide), if_neg (by decide), if_neg (by decide), if_neg (by decide), if_neg (by decide), if_neg (by decide), if_pos rfl]
    refine cm_isEnded (by omega) h4 he R (bI_br (fun hn => ?_) (fun hy => ?_))
    · rw [if_neg (fun q => hn (by rw [q]))] at e0
      exact k0 e0 δ0 G Kp.rf
    · rw [if_pos (Option.some.inj hy)] at e0
      exact cm_close (by omega) G W (fun δ5 G5 K5 => cm_fin e0 (gate_neg hU hR (fun _ => an_12 W)) G5 K5 k1 k0)
  · subst q
    have e0 : rdo s f p e 8 = if p = e then acc0 0 (A_reopen s) else none := by
      unfold rdo
      rw [if_neg (by decide), if_neg (by decide), if_neg (by decide), if_neg (by decide), if_neg (by decide), if_neg (by decide), if_neg (by decide), if_pos rfl]
    refine cm_isEnded (by omega) h4 he R (bI_br (fun hn => ?_) (fun hy => ?_))
    · rw [if_neg (fun q => hn (by rw [q]))] at e0
      exact k0 e0 δ0 G Kp.rf
    · rw [if_pos (Option.some.inj hy)] at e0
      exact cm_reopen (by omega) G W (fun δ5 G5 K5 => cm_fin e0 (gate_neg hU hR (fun h => an_re W h)) G5 K5 k1 k0)
  · refine k0 ?_ δ0 G Kp.rf
    unfold rdo
    rw [if_neg b1, if_neg b2, if_neg b3, if_neg b4, if_neg b5, if_neg b6, if_neg b7, if_neg b8]
end MDN
/-! what a record that was done leaves -/
def rFs : List (Nat × Nat) := [(48,0),(48,1),(48,24),(48,30),(48,31),(48,36)]
theorem acc_some {s s1 s' : mi_D} {rf what ans lo : Int32} {B : List Int32} (hU : ¬ s.1 48 0 = 0) (hR : ¬ s.1 48 1 = 0) (hn : ¬ rf = 0 → rf < lo) (k : Kp [(48,0),(48,1),(48,24),(48,30),(48,31),(48,32),(48,36)] [66,70,72] [67] s s1) (h : acc0 lo (gate s rf what ans B s1) = some s') (W : Wf (gate s rf what ans B s1).2) :
    Wf s' ∧ Kp [(48,0),(48,1),(48,24),(48,30),(48,31),(48,36)] [66,70,72] [67] s s' ∧ s'.1 48 32 = s.1 48 32 + 1 := by
  unfold acc0 at h
  by_cases q : rf = 0
  · have eg : gate s rf what ans B s1 = (ans, jot s1 what B) := gate_ok hU q (Or.inl hR)
    rw [eg] at h W
    split at h
    · cases h
    · have h : jot s1 what B = s' := Option.some.inj h
      subst h
      have h1 : ¬ s1.1 48 1 = 0 := by rw [k.1 (48, 1) (by decide)]; exact hR
      have ej : jot s1 what B = mi_setI s1 48 32 (s1.1 48 32 + 1) := by
        unfold jot
        rw [if_neg h1]
      refine ⟨W, ?_, ?_⟩
      · rw [ej]
        exact (k.wk (by decide) (by decide) (by decide)).tr (Kp.setI (by decide))
      · rw [ej, pI_f, if_pos ⟨rfl, rfl⟩, k.1 (48, 32) (by decide)]
  · rw [gate_ref hU q] at h
    split at h
    · cases h
    · next z => exact absurd (hn q) z
theorem rdo_inv {s s' : mi_D} {f : Nat → Int32} {p e : Nat} {w : Int32} (W : Wf s) (hU : ¬ s.1 48 0 = 0) (hR : ¬ s.1 48 1 = 0) (h : rdo s f p e w = some s') : Wf s' ∧ Kp [(48,0),(48,1),(48,24),(48,30),(48,31),(48,36)] [66,70,72] [67] s s' ∧ s'.1 48 32 = s.1 48 32 + 1 := by
  unfold rdo at h
  split at h
  · unfold rdo1 at h
    split at h
    · refine acc_some hU hR rfn_account ?_ h (wf_account W)
      unfold do_account
      exact (((((((Kp.setA (by decide)).tr (Kp.setA (by decide))).tr (Kp.setA (by decide))).tr (Kp.setA (by decide))).tr (Kp.setA (by decide))).tr (Kp.setA (by decide))).tr (Kp.setL (by decide))).tr (Kp.setI (by decide))
    · cases h
  · split at h
    · unfold rdo2 at h
      split at h
      · exact acc_some hU hR rfn_shut (Kp.setA (by decide)) h (wf_shut W)
      · cases h
    · split at h
      · unfold rdo3 at h
        split at h
        · exact acc_some hU hR rfn_period (((Kp.setA (by decide)).tr (Kp.setA (by decide))).tr (Kp.setI (by decide))) h (wf_period W)
        · cases h
      · split at h
        · unfold rdo4 at h
          split at h
          · exact acc_some hU hR rfn_owner (Kp.setI (by decide)) h (wf_owner W)
          · cases h
        · split at h
          · rw [rdoPost_eq] at h
            split at h
            · cases h
            · next l hl =>
              split at h
              · have hx : LnA (nN s 2) l.1 ∧ l.1.1 ≤ 8 := by
                  unfold rdLs at hl
                  split at hl
                  · cases hl
                  · split at hl
                    · cases hl
                    · next n hno =>
                      obtain ⟨m, hm, em⟩ := n8_of hno
                      rw [em, nI_clamp (by omega)] at hl
                      obtain ⟨h1, h2⟩ := rdL_ok W.1 m _ L0 l hl (fun i hi => absurd hi (Nat.not_lt_zero i))
                      have h2 : l.1.1 = 0 + m := h2
                      exact ⟨h1, by omega⟩
                exact acc_some hU hR (fun q => i32_ltn (rf_judge_n q)) (den_k.wk (by decide) (by decide) (by decide)) h (wf_posted W hx.2 hx.1)
              · cases h
          · split at h
            · unfold rdo6 at h
              split at h
              · exact acc_some hU hR rfn_back (dbk_k.wk (by decide) (by decide) (by decide)) h (wf_back W)
              · cases h
            · split at h
              · split at h
                · exact acc_some hU hR rfn_close (dcl_k.wk (by decide) (by decide) (by decide)) h (wf_close W)
                · cases h
              · split at h
                · split at h
                  · exact acc_some hU hR rfn_reopen (drp_k.wk (by decide) (by decide) (by decide)) h (wf_reopen W)
                  · cases h
                · cases h
/-! whether a record stands there -/
def byl (f : Nat → Int32) (p : Nat) : Nat → List Int32
  | 0 => []
  | m + 1 => byl f p m ++ [f (p + m)]
theorem byl_len (f : Nat → Int32) (p m : Nat) : (byl f p m).length = m := by
  induction m with
  | zero => rfl
  | succ m ih => unfold byl; rw [List.length_append, ih]; rfl
theorem byl_at (f : Nat → Int32) (p m : Nat) : ∀ i b, (byl f p m)[i]? = some b → f (p + i) = b := by
  induction m with
  | zero => intro i b h; exact absurd h (by unfold byl; simp)
  | succ m ih =>
    intro i b h
    unfold byl at h
    by_cases q : i < m
    · rw [List.getElem?_append_left (by rw [byl_len]; exact q)] at h
      exact ih i b h
    · have hlt := (List.getElem?_eq_some_iff.mp h).1
      rw [List.length_append, byl_len, List.length_singleton] at hlt
      have hi : i = m := by omega
      subst hi
      rw [List.getElem?_append_right (by rw [byl_len]; exact Nat.le_refl _), byl_len, Nat.sub_self] at h
      exact Option.some.inj h
abbrev rck (f : Nat → Int32) (p L : Nat) : Prop := f (p + L + 2) = chkL 65535 (byl f p (L + 2)) >>> (8 &&& 31) ∧ f (p + L + 3) = chkL 65535 (byl f p (L + 2)) &&& 255
def rlen (f : Nat → Int32) (n p : Nat) : Nat :=
  if n < p + 4 then 0 else if n < p + 4 + (f p).toNatClampNeg then 0 else if rck f p (f p).toNatClampNeg then (f p).toNatClampNeg + 4 else 0
theorem rlen_ok {f : Nat → Int32} {n p : Nat} (h : ¬ rlen f n p = 0) : 4 ≤ rlen f n p ∧ p + rlen f n p ≤ n := by
  unfold rlen at *
  split
  · next q => rw [if_pos q] at h; exact absurd rfl h
  · next q =>
    rw [if_neg q] at h
    split
    · next q2 => rw [if_pos q2] at h; exact absurd rfl h
    · next q2 =>
      rw [if_neg q2] at h
      split
      · omega
      · next q3 => rw [if_neg q3] at h; exact absurd rfl h
theorem two_by {b1 b2 : Int32} {m : Nat} (h1 : by256 b1) (h2 : by256 b2) (hm : m < 65536) : (b1 <<< (8 &&& 31)) + b2 = nI m ↔ b1 = nI m >>> (8 &&& 31) ∧ b2 = nI m &&& 255 := by
  obtain ⟨x, hx, rfl⟩ := h1
  obtain ⟨y, hy, rfl⟩ := h2
  have e8 : nI m >>> (8 &&& 31) = nI (m / 2 ^ 8) := pk_shrN (by omega) _ 8 (by decide)
  have e255 : nI m &&& 255 = nI (m % 2 ^ 8) := pk_andN (by omega) 8 (by decide)
  have es : nI x <<< (8 &&& 31) = nI (x * 2 ^ 8) := pk_shlN _ 8 (by decide) (by omega)
  rw [e8, e255, es, nI_add, nI_eq (by omega) (by omega), nI_eq (by omega) (by omega), nI_eq (by omega) (by omega)]
  omega
section RAT
variable {N d n p : Nat} {δ s : mi_D} {f : Nat → Int32}
theorem cc_recordAt (hd : 6 ≤ d) (hn : n ≤ 6000) (hp : p ≤ 6000) (h4 : δ.1 28 4 = nI n) (hf : δ.2.1 29 = f) (hb : ∀ i, by256 (f i)) {Q : Int32 → mi_D → Prop} (k : Q (nI (rlen f n p)) δ) : mi_wI N d 57 0 [.ref 28, .int (nI p), .null, .null, .null] [] δ Q := by
  obtain ⟨L, hL, eL⟩ := hb p
  have ec : (f p).toNatClampNeg = L := by rw [eL, nI_clamp (by omega)]
  unfold rlen at k
  rw [ec] at k
  have e4 : nI p + 4 = nI (p + 4) := nI_add p 4
  have eL4 : mi_at δ 29 (nI p) + 4 = nI (L + 4) := by rw [mi_at_nI _ _ (by omega), hf, eL]; exact nI_add L 4
  refine q4_recordAt_0 (by omega) ?_
  rw [e4, h4, eL4]
  refine ⟨fun q => ?_, fun q x1 e1 => ?_⟩
  · have := (nI_ltI (by omega) (by omega)).mp q
    rwa [if_pos this] at k
  · have q : ¬ n < p + 4 := fun z => q (nI_lt z (by omega))
    rw [if_neg q] at k
    subst e1
    rw [nI_add]
    refine ⟨fun q2 => ?_, fun q2 x2 e2 x3 e3 => ?_⟩
    · have := (nI_ltI (by omega) (by omega)).mp q2
      rwa [if_pos (by omega)] at k
    · have q2 : ¬ n < p + 4 + L := fun z => q2 (nI_lt (by omega) (by omega))
      rw [if_neg q2] at k
      have e2' : x2 = nI (p + L + 2) := by
        rw [e2, show p + (L + 4) = p + L + 2 + 2 by omega]
        have z := nI_add (p + L + 2) 2
        rw [← z]
        show nI (p + L + 2) + 2 - 2 = _
        rw [Int32.add_sub_cancel]
      subst e2'
      rw [mi_at_nI _ _ (by omega), nI_1, mi_at_nI _ _ (by omega), hf] at e3
      obtain ⟨m, hm, em⟩ := chkL_ok 65535 ⟨65535, by omega, rfl⟩ (byl f p (L + 2))
      refine cc_checkOf (by omega) (by omega) (l := byl f p (L + 2)) (by rw [byl_len]; omega) (fun i b h => by rw [hf]; exact byl_at f p _ i b h) ?_
      have key : x3 = chkL 65535 (byl f p (L + 2)) ↔ rck f p L := by
        rw [e3]
        unfold rck
        rw [em]
        exact two_by (hb _) (hb _) hm
      refine ⟨fun z => ?_, fun z => ?_⟩
      · rwa [if_pos (key.mp z)] at k
      · rwa [if_neg (fun y => z (key.mpr y))] at k
/-- what the model keeps of the program -/
abbrev KCr (δ δ' : mi_D) : Prop := Kp pcF (0 :: 1 :: pcA) pcL δ δ'
theorem cm_isNext (hd : 14 ≤ d) (G : Agr s δ) (W : Wf s) (hU : ¬ s.1 48 0 = 0) (hR : ¬ s.1 48 1 = 0) (hp : δ.1 48 46 = nI p) (hpn : p ≤ nN s 30) {Q : Int32 → mi_D → Prop}
    (k0 : (rlen (s.2.1 70) (nN s 30) p = 0 ∨ rdo s (s.2.1 70) (p + 2) (p + rlen (s.2.1 70) (nN s 30) p - 2) (s.2.1 70 (p + 1)) = none) → ∀ δ', Agr s δ' → KCr δ δ' → δ'.1 48 46 = nI p → Q 0 δ')
    (k1 : ¬ rlen (s.2.1 70) (nN s 30) p = 0 → ∀ s', rdo s (s.2.1 70) (p + 2) (p + rlen (s.2.1 70) (nN s 30) p - 2) (s.2.1 70 (p + 1)) = some s' → ∀ δ', Agr s' δ' → KCr δ δ' → δ'.1 48 46 = nI (p + rlen (s.2.1 70) (nN s 30) p) → Q 1 δ') : mi_wI N d 189 0 [.ref 48, .null, .null, .null, .null] [] δ Q := by
  have hn := W.2.2.2.2.1.1.2
  have e30 : δ.1 48 30 = nI (nN s 30) := (G.1 (48, 30) (by decide)).trans W.2.2.2.2.1.1.1
  obtain ⟨n, en⟩ : ∃ n, nN s 30 = n := ⟨_, rfl⟩
  rw [en] at hn e30 k0 k1 hpn
  obtain ⟨f, ef⟩ : ∃ f, s.2.1 70 = f := ⟨_, rfl⟩
  have hb : ∀ i, by256 (f i) := by rw [← ef]; exact W.2.2.2.2.1.2.2.2
  have e70 : δ.2.1 70 = f := (G.2.1 70 (by decide)).trans ef
  rw [ef] at k0 k1
  obtain ⟨L, hL, eL⟩ := hb p
  have ec : (f p).toNatClampNeg = L := by rw [eL, nI_clamp (by omega)]
  have er : rlen f n p = if n < p + 4 then 0 else if n < p + 4 + L then 0 else if rck f p L then L + 4 else 0 := by unfold rlen; rw [ec]
  have e4 : nI p + 4 = nI (p + 4) := nI_add p 4
  refine q12_isNext_0 (by omega) ?_
  rw [hp, e4, e30, nI_clamp (by omega), e70, eL, nI_add]
  refine ⟨fun q => ?_, fun q => ⟨mi_ix_nI (by
    rcases Nat.lt_or_ge p 6000 with z | z
    · exact z
    · exact absurd (nI_lt (a := n) (b := p + 4) (by omega) (by omega)) q) (by omega), fun q2 => ?_, fun q2 x1 e1 => ?_⟩⟩
  · have := (nI_ltI (by omega) (by omega)).mp q
    rw [if_pos this] at er
    exact k0 (Or.inl er) δ G Kp.rf hp
  · have q : ¬ n < p + 4 := fun z => q (nI_lt z (by omega))
    have := (nI_ltI (by omega) (by omega)).mp q2
    rw [if_neg q, if_pos this] at er
    exact k0 (Or.inl er) δ G Kp.rf hp
  have q : ¬ n < p + 4 := fun z => q (nI_lt z (by omega))
  have q2 : ¬ n < p + 4 + L := fun z => q2 (nI_lt (by omega) (by omega))
  rw [if_neg q, if_neg q2] at er
  subst e1
  refine ⟨mi_ix_nI (by omega) (by omega), fun x2 e2 => ?_⟩
  rw [nI_clamp (by omega), eL] at e2
  subst e2
  suffices H : ∀ i, i ≤ L + 2 → mi_wI N d 189 56 [.ref 48, .int (nI p), .int (nI L), .int (chkL 65535 (byl f p i)), .int (nI i)] [] δ Q by
    have z := H 0 (by omega)
    rwa [nI_0] at z
  intro i hi
  have eL2 : nI L + 2 = nI (L + 2) := nI_add L 2
  refine up_ind (P := fun i => mi_wI N d 189 56 [.ref 48, .int (nI p), .int (nI L), .int (chkL 65535 (byl f p i)), .int (nI i)] [] δ Q) ?_ ?_ hi
  · have ea : nI p + nI L + 2 = nI (p + L + 2) := by rw [nI_add]; exact nI_add (p + L) 2
    have eb : nI p + nI L + 3 = nI (p + L + 3) := by rw [nI_add]; exact nI_add (p + L) 3
    refine q12_isNext_56 (by omega) ?_
    rw [eL2, ea, eb, nI_clamp (show p + L + 2 < 2 ^ 31 by omega), nI_clamp (show p + L + 3 < 2 ^ 31 by omega), e70]
    refine brF (nI_nlt (Nat.le_refl _) (by omega)) ⟨mi_ix_nI (by omega) (by omega), fun c1 => ⟨mi_ix_nI (by omega) (by omega), fun c2 δ1 e1 δ2 e2 δ3 e3 => ?_, fun c2 => ?_⟩, fun c1 => ?_⟩
    · have hck : rck f p L := ⟨c1, c2⟩
      rw [if_pos hck] at er
      have ep2 : nI p + 2 = nI (p + 2) := nI_add p 2
      have ep1 : nI p + 1 = nI (p + 1) := nI_1 p
      rw [ep2, nI_add] at e1
      rw [ep2] at e2
      have F3 : Fr [(48, 47), (48, 46), (48, 48)] [] [] δ δ3 := by
        rw [e3, e2, e1]
        exact ((Fr.setI (by decide)).xI (by decide)).xI (by decide)
      have G3 : Agr s δ3 := G.fr F3 (by decide) (by decide) (by decide)
      have f47 : δ3.1 48 47 = nI (p + rlen f n p - 2) := by
        rw [e3, pI_f, if_neg (by decide), e2, pI_f, if_neg (by decide), e1, pI_f, if_pos ⟨rfl, rfl⟩, er]
        exact congrArg nI (by omega)
      have f46 : δ3.1 48 46 = nI (p + 2) := by rw [e3, pI_f, if_neg (by decide), e2, pI_f, if_pos ⟨rfl, rfl⟩]
      have f48 : δ3.1 48 48 = 0 := by rw [e3, pI_f, if_pos ⟨rfl, rfl⟩]
      have R3 : RM (p + rlen f n p - 2) δ3 δ3 (some (p + 2)) := ⟨Fr.rf _ _ _ _, f48, f46, by rw [er]; omega⟩
      have K3 : KCr δ δ3 := F3.kp (by decide) (by decide) (by decide)
      have g70 : δ3.2.1 70 = f := (F3.2.1 70 List.not_mem_nil).trans e70
      rw [ep1, nI_clamp (show p + 1 < 2 ^ 31 by omega), g70]
      refine ⟨mi_ix_nI (by omega) (by omega), cm_isDone (by omega) f47 g70 (by rw [er]; omega) R3 G3 W hU hR (fun s' hs δ4 G4 K4 => brN (by decide) ?_) (fun hs δ4 G4 K4 => br0 ?_)⟩
      · have k47 : δ4.1 48 47 = nI (p + rlen f n p - 2) := (K4.1 (48, 47) (by decide)).trans f47
        have e2' : δ4.1 48 47 + 2 = nI (p + rlen f n p) := by
          rw [k47]
          have z := nI_add (p + rlen f n p - 2) 2
          rw [show p + rlen f n p - 2 + 2 = p + rlen f n p by rw [er]; omega] at z
          exact z
        rw [e2']
        refine q12_isNext_172 (by omega) (fun δ5 e5 => ⟨Or.inr rfl, k1 (by rw [er]; omega) s' hs δ5 ?_ ?_ (by rw [e5, pI_f, if_pos ⟨rfl, rfl⟩])⟩)
        · rw [e5]; exact G4.fr (Fr.setI (fs := [(48, 46)]) (as := []) (ls := []) (List.mem_singleton.mpr rfl)) (by decide) (by decide) (by decide)
        · rw [e5]; exact (K3.tr (K4.wk (by decide) (by decide) (by decide))).tr (Kp.setI (by decide))
      · refine q12_isNext_172 (by omega) (fun δ5 e5 => ⟨Or.inl rfl, k0 (Or.inr hs) δ5 ?_ ?_ (by rw [e5, pI_f, if_pos ⟨rfl, rfl⟩])⟩)
        · rw [e5]; exact G4.fr (Fr.setI (fs := [(48, 46)]) (as := []) (ls := []) (List.mem_singleton.mpr rfl)) (by decide) (by decide) (by decide)
        · rw [e5]; exact (K3.tr (K4.wk (by decide) (by decide) (by decide))).tr (Kp.setI (by decide))
    · rw [if_neg (fun z => c2 z.2)] at er
      exact k0 (Or.inl er) δ G Kp.rf hp
    · rw [if_neg (fun z => c1 z.1)] at er
      exact k0 (Or.inl er) δ G Kp.rf hp
  · intro i hi ih
    refine q12_isNext_56 (by omega) ?_
    rw [eL2]
    refine brT (nI_lt hi (by omega)) ?_
    rw [nI_add, nI_clamp (by omega), e70, nI_1]
    refine ⟨mi_ix_nI (by omega) (by omega), cm_checked (by omega) ?_⟩
    have es : chkL 65535 (byl f p (i + 1)) = chk (chkL 65535 (byl f p i)) (f (p + i)) := by
      show chkL 65535 (byl f p i ++ [f (p + i)]) = _
      rw [chkL_snoc]
    rw [← es]
    exact ih
end RAT
