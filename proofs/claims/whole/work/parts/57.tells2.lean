/-! what is told: entries, accounts, counts -/
section CTE
variable {N d : Nat} {δ s : mi_D}
theorem cp_entry (hd : 8 ≤ d) (H : Abs δ s) (U : δ.1 2 7 = s.1 48 0) (W : WfE s) {p w : Int32} {Q : Int32 → mi_D → Prop} (k : Q (B_entry s p w) δ) : mi_wI N d 131 0 [.ref 2, .int p, .int w] [] δ Q := by
  have E := H.2.2.1
  have hn := W.1.2
  unfold B_entry at k
  refine q11_entry_0 (by omega) ⟨fun h => by rwa [if_pos (U ▸ h)] at k, fun h => cc_ehas (by omega) E (bI_br (fun h2 => ?_) (fun h2 => q2_told_0 (by omega) ?_))⟩
  · rwa [if_neg (fun q => h (U.trans q)), if_pos h2] at k
  · rw [if_neg (fun q => h (U.trans q)), if_neg (fun q => q h2)] at k
    rw [at_c E.2.1, at_c E.2.2.1, at_c E.2.2.2.1, at_c E.2.2.2.2.1, at_c E.2.2.2.2.2.1]
    refine ⟨fun q => by rwa [if_pos q] at k, fun q => ?_, fun q => ?_, fun q => ?_, fun q => ?_, fun q => ?_, fun q0 q1 q2 q3 q4 q5 => by rwa [if_neg q0, if_neg q1, if_neg q2, if_neg q3, if_neg q4, if_neg q5] at k⟩
    · subst q; rwa [if_neg (by decide), if_pos rfl] at k
    · subst q; rwa [if_neg (by decide), if_neg (by decide), if_pos rfl] at k
    · subst q
      rw [if_neg (by decide), if_neg (by decide), if_neg (by decide), if_pos rfl] at k
      rw [W.1.1] at h2
      obtain ⟨j, hj, ej⟩ := (inR_nI (by omega)).mp h2
      rw [ej, nI_clamp (by omega)] at k
      rw [ej, mi_at_nI _ _ (by omega), (E.2.2.2.2.2.2.2.2.2.1 j hj).2]
      exact k
    · subst q; rwa [if_neg (by decide), if_neg (by decide), if_neg (by decide), if_neg (by decide), if_pos rfl] at k
    · subst q; rwa [if_neg (by decide), if_neg (by decide), if_neg (by decide), if_neg (by decide), if_neg (by decide), if_pos rfl] at k
theorem cm_entry (hd : 6 ≤ d) (G : Agr s δ) (W : WfE s) {p w : Int32} {Q : Int32 → mi_D → Prop} (k : Q (B_entry s p w) δ) : mi_wI N d 197 0 [.ref 48, .int p, .int w] [] δ Q := by
  have hn := W.1.2
  unfold B_entry at k
  rw [W.1.1] at k
  refine q12_entry_0 (by omega) ?_
  rw [G.1 (48, 0) (by decide)]
  refine ⟨fun h => by rwa [if_pos h] at k, fun h => ?_⟩
  rw [if_neg h] at k
  refine c_inN (by omega) (n := nN s 15) (by omega) ((G.1 (48, 15) (by decide)).trans W.1.1) (fun h => brN (by decide) ?_) (fun h => br0 (by rwa [if_pos (fun q => h ((inR_nI (by omega)).mp q))] at k))
  rw [if_neg (fun q => q ((inR_nI (by omega)).mpr h))] at k
  obtain ⟨j, hj, ej⟩ := h
  subst ej
  have hx : mi_ix (nI j) 400 = true := mi_ix_nI (by omega) (by omega)
  have hx1 : mi_ix (nI j) 401 = true := mi_ix_nI (by omega) (by omega)
  have hw := W.2.2.2.1 j hj
  rw [mi_at_nI _ _ (by omega), mi_at_nI _ _ (by omega), mi_at_nI _ _ (by omega), mi_at_nI _ _ (by omega), mi_at_nI _ _ (by omega), nI_clamp (by omega)] at k
  rw [nI_1, nI_clamp (show j < 2 ^ 31 by omega), nI_clamp (show j + 1 < 2 ^ 31 by omega), G.2.1 58 (by decide), G.2.1 59 (by decide), G.2.1 60 (by decide), G.2.1 61 (by decide), G.2.1 62 (by decide), G.2.1 63 (by decide), W.2.2.1 j (by omega), W.2.2.1 (j + 1) (by omega), pk_sub hw.1]
  refine ⟨fun q => ⟨hx, by rwa [if_pos q] at k⟩, fun q => ⟨hx, ?_⟩, fun q => ⟨hx, ?_⟩, fun q => ⟨mi_ix_nI (by omega) (by omega), hx1, ?_⟩, fun q => ⟨hx, ?_⟩, fun q => ⟨hx, ?_⟩, fun q0 q1 q2 q3 q4 q5 => by rwa [if_neg q0, if_neg q1, if_neg q2, if_neg q3, if_neg q4, if_neg q5] at k⟩
  · subst q; rwa [if_neg (by decide), if_pos rfl] at k
  · subst q; rwa [if_neg (by decide), if_neg (by decide), if_pos rfl] at k
  · subst q; rwa [if_neg (by decide), if_neg (by decide), if_neg (by decide), if_pos rfl] at k
  · subst q; rwa [if_neg (by decide), if_neg (by decide), if_neg (by decide), if_neg (by decide), if_pos rfl] at k
  · subst q; rwa [if_neg (by decide), if_neg (by decide), if_neg (by decide), if_neg (by decide), if_neg (by decide), if_pos rfl] at k
theorem cp_lineOf (hd : 8 ≤ d) (H : Abs δ s) (U : δ.1 2 7 = s.1 48 0) (W : WfE s) {p i w : Int32} {Q : Int64 → mi_D → Prop} (k : Q (B_lineOf s p i w) δ) : mi_wL N d 132 0 [.ref 2, .int p, .int i, .int w] [] δ Q := by
  have E := H.2.2.1
  have hn := W.1.2
  unfold B_lineOf at k
  refine q11_lineOf_0 (by omega) ⟨fun h => by rwa [if_pos (Or.inl (U ▸ h))] at k, fun h => cc_ehas (by omega) E (bI_br (fun h2 => by rwa [if_pos (Or.inr h2)] at k) (fun h2 => ?_))⟩
  rw [if_neg (fun q => q.elim (fun q => h (U.trans q)) (fun q => q h2))] at k
  rw [W.1.1] at h2
  obtain ⟨j, hj, ej⟩ := (inR_nI (by omega)).mp h2
  subst ej
  rw [nI_clamp (show j < 2 ^ 31 by omega)] at k
  have hw := W.2.2.2.1 j hj
  have hf := fromN_le W (j + 1) (by omega)
  have EE := E.2.2.2.2.2.2.2.2.2.1 j hj
  rw [mi_at_nI _ _ (by omega), EE.2]
  have no : ¬ inR i (nI (entL s j).1) → Q LST δ := fun q => by rwa [if_pos q] at k
  refine ⟨fun h3 => no (fun q => q.1 h3), fun h3 => ⟨fun h4 => ?_, fun h4 => no (fun q => h4 q.2)⟩⟩
  rw [if_neg (fun q => q ⟨h3, h4⟩)] at k
  obtain ⟨m, hm, em⟩ := (inR_nI (show (entL s j).1 < 2 ^ 31 by show fromN s (j + 1) - fromN s j < _; omega)).mp ⟨h3, h4⟩
  have hm : m < fromN s (j + 1) - fromN s j := hm
  subst em
  rw [nI_clamp (by omega)] at k
  refine ⟨fun q => q2_accountOf_0 (by omega) ?_, fun q => q2_amountOf_0 (by omega) ?_, fun q0 q1 => by rwa [if_neg q0, if_neg q1] at k⟩
  · subst q
    rw [mi_at_nI _ 24 (by omega), EE.1, nI_add, mi_at_nI _ _ (by omega), E.2.2.2.2.2.2.1]
    rwa [if_pos rfl] at k
  · subst q
    rw [mi_at_nI _ 24 (by omega), EE.1, nI_add, mi_al_nI _ _ (by omega), E.2.2.2.2.2.2.2.1]
    rwa [if_neg (by decide), if_pos rfl] at k
theorem cm_lineOf (hd : 6 ≤ d) (G : Agr s δ) (W : WfE s) {p i w : Int32} {Q : Int64 → mi_D → Prop} (k : Q (B_lineOf s p i w) δ) : mi_wL N d 198 0 [.ref 48, .int p, .int i, .int w] [] δ Q := by
  have hn := W.1.2
  unfold B_lineOf at k
  rw [W.1.1] at k
  refine q12_lineOf_0 (by omega) ?_
  rw [G.1 (48, 0) (by decide)]
  refine ⟨fun h => by rwa [if_pos (Or.inl h)] at k, fun h => ?_⟩
  refine c_inN (by omega) (n := nN s 15) (by omega) ((G.1 (48, 15) (by decide)).trans W.1.1) (fun h2 => brN (by decide) ?_) (fun h2 => br0 (by rwa [if_pos (Or.inr (fun q => h2 ((inR_nI (by omega)).mp q)))] at k))
  rw [if_neg (fun q => q.elim h (fun q => q ((inR_nI (by omega)).mpr h2)))] at k
  obtain ⟨j, hj, ej⟩ := h2
  subst ej
  have hx1 : mi_ix (nI j) 401 = true := mi_ix_nI (by omega) (by omega)
  have hw := W.2.2.2.1 j hj
  have hf := fromN_le W (j + 1) (by omega)
  have e61 : δ.2.1 61 j = nI (fromN s j) := by rw [G.2.1 61 (by decide), W.2.2.1 j (by omega)]
  have e611 : δ.2.1 61 (j + 1) = nI (fromN s (j + 1)) := by rw [G.2.1 61 (by decide), W.2.2.1 (j + 1) (by omega)]
  rw [nI_clamp (show j < 2 ^ 31 by omega)] at k
  rw [nI_1, nI_clamp (show j < 2 ^ 31 by omega), nI_clamp (show j + 1 < 2 ^ 31 by omega), e61, e611, pk_sub hw.1]
  have hlen : (entL s j).1 = fromN s (j + 1) - fromN s j := rfl
  rw [hlen] at k
  refine ⟨mi_ix_nI (by omega) (by omega), hx1, c_inN (by omega) (n := fromN s (j + 1) - fromN s j) (by omega) rfl (fun h3 => brN (by decide) ?_) (fun h3 => br0 (by rwa [if_pos (fun q => h3 ((inR_nI (by omega)).mp q))] at k))⟩
  rw [if_neg (fun q => q ((inR_nI (by omega)).mpr h3))] at k
  obtain ⟨m, hm, em⟩ := h3
  subst em
  rw [nI_clamp (by omega)] at k
  have hx2 : mi_ix (nI (fromN s j + m)) 24800 = true := mi_ix_nI (by omega) (by omega)
  refine c_inI (lo := 0) (hi := 1) (by omega) rfl rfl (fun a1 a2 => brN (by decide) ?_) (fun a => br0 ?_)
  · rw [e61, nI_add, nI_clamp (show fromN s j + m < 2 ^ 31 by omega), G.2.1 64 (by decide), G.2.2 65 (by decide)]
    refine ⟨fun q => ⟨hx1, hx2, by rwa [if_pos q] at k⟩, fun q => ⟨hx1, hx2, ?_⟩⟩
    rwa [if_neg q, if_pos ?_] at k
    have e1 : (1 : Int32).toInt = 1 := by decide
    have e0 : (0 : Int32).toInt = 0 := by decide
    apply Int32.toInt_inj.mp
    have q' : ¬ w.toInt = 0 := fun z => q (Int32.toInt_inj.mp (z.trans e0.symm))
    rw [Int32.lt_iff_toInt_lt] at a1 a2
    omega
  · rwa [if_neg (fun q => by subst q; exact absurd a (by decide)), if_neg (fun q => by subst q; exact absurd a (by decide))] at k
theorem cp_of (hd : 8 ≤ d) (H : Abs δ s) (U : δ.1 2 7 = s.1 48 0) (W : Wf s) {p w : Int32} {Q : Int32 → mi_D → Prop} (k : Q (B_of s p w) δ) : mi_wI N d 128 0 [.ref 2, .int p, .int w] [] δ Q := by
  have A := H.1
  have h60 := W.1.1.2
  unfold B_of at k
  refine q11_of_0 (by omega) ⟨fun h => by rwa [if_pos (U ▸ h)] at k, fun h => cc_has (by omega) A (bI_br (fun h2 => ?_) (fun h2 => q0_told_0 (by omega) ?_))⟩
  · rwa [if_neg (fun q => h (U.trans q)), if_pos h2] at k
  · rw [if_neg (fun q => h (U.trans q)), if_neg (fun q => q h2)] at k
    rw [at_c A.2.1, at_c A.2.2.1, at_c A.2.2.2.1, at_c A.2.2.2.2.1, at_c A.2.2.2.2.2.2.1, at_c A.2.2.2.2.2.1]
    refine ⟨fun q => by rwa [if_pos q] at k, fun q => ?_, fun q => ?_, fun q => ?_, fun q => ?_, fun q => ?_, fun q => ?_, fun q0 q1 q2 q3 q4 q5 q6 => by rwa [if_neg q0, if_neg q1, if_neg q2, if_neg q3, if_neg q4, if_neg q5, if_neg q6] at k⟩
    · subst q; rwa [if_neg (by decide), if_pos rfl] at k
    · subst q; rwa [if_neg (by decide), if_neg (by decide), if_pos rfl] at k
    · subst q; rwa [if_neg (by decide), if_neg (by decide), if_neg (by decide), if_pos rfl] at k
    · subst q; rwa [if_neg (by decide), if_neg (by decide), if_neg (by decide), if_neg (by decide), if_pos rfl] at k
    · subst q; rwa [if_neg (by decide), if_neg (by decide), if_neg (by decide), if_neg (by decide), if_neg (by decide), if_pos rfl] at k
    · subst q
      rw [if_neg (by decide), if_neg (by decide), if_neg (by decide), if_neg (by decide), if_neg (by decide), if_neg (by decide), if_pos rfl] at k
      obtain ⟨j, hj, ej, ec, _, _⟩ := at_ac W.1 h2
      rw [ec] at k
      rw [ej, mi_at_nI _ _ (by omega), H.2.2.1.2.2.2.2.2.2.2.2.2.2 j hj]
      exact k
theorem cntL_le (s : mi_D) (a m : Nat) : cntL s a m ≤ m := by
  unfold cntL
  induction m with
  | zero => exact Nat.le_refl _
  | succ m ih =>
    show (if s.2.1 64 m = nI a then _ + 1 else _) ≤ m + 1
    split <;> omega
theorem cm_of (hd : 7 ≤ d) (G : Agr s δ) (W : Wf s) {p w : Int32} {Q : Int32 → mi_D → Prop} (k : Q (B_of s p w) δ) : mi_wI N d 192 0 [.ref 48, .int p, .int w, .null, .null] [] δ Q := by
  have h60 := W.1.1.2
  have hn := W.2.2.1.1.2
  unfold B_of at k
  refine q12_of_0 (by omega) ?_
  rw [G.1 (48, 0) (by decide)]
  refine ⟨fun h => by rwa [if_pos h] at k, fun h => cm_isAccount (by omega) G W.1 (bI_br (fun h2 => by rwa [if_neg h, if_pos h2] at k) (fun h2 => ?_))⟩
  rw [if_neg h, if_neg (fun q => q h2)] at k
  obtain ⟨j, hj, ej, ec, hx, hat⟩ := at_ac W.1 h2
  have hw := W.1.2.1 j hj
  rw [hat, hat, hat, hat, hat, hat, ec] at k
  rw [ec, G.2.1 49 (by decide), G.2.1 50 (by decide), G.2.1 51 (by decide), G.2.1 52 (by decide), G.2.1 53 (by decide), G.2.1 54 (by decide)]
  refine ⟨fun q => ⟨hx, by rwa [if_pos q] at k⟩, fun q => ⟨hx, ?_⟩, fun q => ⟨hx, ?_⟩, fun q => ⟨hx, ?_⟩, fun q => ⟨hx, ?_⟩, fun q => ⟨hx, ?_⟩, fun q => ?_, fun q0 q1 q2 q3 q4 q5 q6 => by rwa [if_neg q0, if_neg q1, if_neg q2, if_neg q3, if_neg q4, if_neg q5, if_neg q6] at k⟩
  · subst q; rwa [if_neg (by decide), if_pos rfl] at k
  · subst q; rwa [if_neg (by decide), if_neg (by decide), if_pos rfl] at k
  · subst q
    rw [if_neg (by decide), if_neg (by decide), if_neg (by decide), if_pos rfl] at k
    exact ⟨fun z => by rwa [z] at k, fun z => by rwa [hw.2.2.1.resolve_left z] at k⟩
  · subst q
    rw [if_neg (by decide), if_neg (by decide), if_neg (by decide), if_neg (by decide), if_pos rfl] at k
    exact ⟨fun z => by rwa [z] at k, fun z => by rwa [hw.2.2.2.resolve_left z] at k⟩
  · subst q; rwa [if_neg (by decide), if_neg (by decide), if_neg (by decide), if_neg (by decide), if_neg (by decide), if_pos rfl] at k
  · subst q
    rw [if_neg (by decide), if_neg (by decide), if_neg (by decide), if_neg (by decide), if_neg (by decide), if_neg (by decide), if_pos rfl] at k
    have hf := fromN_le W.2.2.1 _ (Nat.le_refl (nN s 15))
    have d15 : δ.1 48 15 = nI (nN s 15) := (G.1 (48, 15) (by decide)).trans W.2.2.1.1.1
    have t61 : δ.2.1 61 (δ.1 48 15).toNatClampNeg = nI (fromN s (nN s 15)) := by rw [d15, nI_clamp (by omega), G.2.1 61 (by decide), W.2.2.1.2.2.1 _ (Nat.le_refl _)]
    suffices H : ∀ i, i ≤ fromN s (nN s 15) → mi_wI N d 192 127 [.ref 48, .int p, .int 6, .int (nI (cntL s j i)), .int (nI i)] [] δ Q by
      have z := H 0 (Nat.zero_le _)
      have e : nI (cntL s j 0) = 0 := nI_0
      rwa [e, nI_0] at z
    intro i hi
    refine up_ind (P := fun i => mi_wI N d 192 127 [.ref 48, .int p, .int 6, .int (nI (cntL s j i)), .int (nI i)] [] δ Q) ?_ ?_ hi
    · refine q12_of_127 (by omega) ?_
      rw [t61]
      exact ⟨by rw [d15]; exact mi_ix_nI (by omega) (by omega), brF (nI_nlt (Nat.le_refl _) (by omega)) k⟩
    · intro i hi ih
      refine q12_of_127 (by omega) ?_
      rw [t61]
      refine ⟨by rw [d15]; exact mi_ix_nI (by omega) (by omega), brT (nI_lt hi (by omega)) ⟨mi_ix_nI (by omega) (by omega), ?_⟩⟩
      rw [nI_clamp (by omega), G.2.1 64 (by decide), ej, nI_1]
      rw [ej] at ih
      have es : cntL s j (i + 1) = if s.2.1 64 i = nI j then cntL s j i + 1 else cntL s j i := rfl
      refine ⟨fun q x ex => ?_, fun q x ex => ?_⟩
      · rw [if_pos q] at es
        rw [es] at ih
        rw [ex, nI_1]
        exact ih
      · rw [if_neg q] at es
        rw [es] at ih
        rw [ex, Int32.add_zero, nI_1]
        exact ih
theorem i32_cases {w : Int32} (h : ¬ (w < 0 ∨ 10 < w)) : ∃ j, j < 11 ∧ w = nI j := by
  obtain ⟨j, hj, e⟩ := nI_of (fun q => h (Or.inl q))
  refine ⟨j, ?_, e⟩
  rcases Nat.lt_or_ge j 11 with z | z
  · exact z
  · exact absurd (by rw [e]; exact nI_lt (a := 10) (by omega) hj) (fun q => h (Or.inr q))
theorem cp_count (hd : 6 ≤ d) (H : Abs δ s) (U : δ.1 2 7 = s.1 48 0) {w : Int32} {Q : Int32 → mi_D → Prop} (k : Q (B_count s w) δ) : mi_wI N d 138 0 [.ref 2, .int w] [] δ Q := by
  unfold B_count at k
  -- of the books alone
  have bk : ¬ w = 5 → ¬ w = 6 → ¬ w = 7 → ¬ w = 9 → ¬ w = 10 → mi_wI N (d - 1) 139 0 [.ref 2, .int w] [] δ (fun r δ1 => Q r δ1) := by
    intro a5 a6 a7 a9 a10
    rw [if_neg a5, if_neg a6, if_neg a7, if_neg a9, if_neg a10] at k
    refine q11_countOfBooks_0 (by omega) ?_
    rw [U, H.1.1, H.2.1.1, H.2.1.2.1, H.2.2.1.1, H.2.2.2.2.1.1, H.2.1.2.2.2.2]
    refine ⟨fun q => ⟨fun z => ?_, fun z => ?_⟩, fun q => ⟨fun z => ?_, fun z => ?_⟩, fun q => ⟨fun z => ?_, fun z => ?_⟩, fun q => ⟨fun z => ?_, fun z => ?_⟩, fun q => ⟨fun z => ?_, fun z => ?_⟩, fun q => absurd q a5, fun q => absurd q a6, fun q => absurd q a7, fun q => ⟨fun z => ?_, fun z => ?_⟩, fun b0 b1 b2 b3 b4 b5 b6 b7 b8 => ?_⟩
    · subst q; rwa [if_neg (by decide), if_pos z] at k
    · subst q; rwa [if_neg (by decide), if_neg z, if_pos rfl] at k
    · subst q; rwa [if_neg (by decide), if_pos z] at k
    · subst q; rwa [if_neg (by decide), if_neg z, if_neg (by decide), if_pos rfl] at k
    · subst q; rwa [if_neg (by decide), if_pos z] at k
    · subst q; rwa [if_neg (by decide), if_neg z, if_neg (by decide), if_neg (by decide), if_pos rfl] at k
    · subst q; rwa [if_neg (by decide), if_pos z] at k
    · subst q; rwa [if_neg (by decide), if_neg z, if_neg (by decide), if_neg (by decide), if_neg (by decide), if_pos rfl] at k
    · subst q; rwa [if_neg (by decide), if_pos z] at k
    · subst q; rwa [if_neg (by decide), if_neg z, if_neg (by decide), if_neg (by decide), if_neg (by decide), if_neg (by decide), if_pos rfl] at k
    · subst q; rwa [if_neg (by decide), if_pos z] at k
    · subst q; rwa [if_neg (by decide), if_neg z, if_neg (by decide), if_neg (by decide), if_neg (by decide), if_neg (by decide), if_neg (by decide)] at k
    · have : w < 0 ∨ 10 < w := Decidable.not_not.mp (fun h => by
        obtain ⟨j, hj, e⟩ := i32_cases h
        rcases (show j = 0 ∨ j = 1 ∨ j = 2 ∨ j = 3 ∨ j = 4 ∨ j = 5 ∨ j = 6 ∨ j = 7 ∨ j = 8 ∨ j = 9 ∨ j = 10 by omega) with z | z | z | z | z | z | z | z | z | z | z <;> subst z
        · exact b0 e
        · exact b1 e
        · exact b2 e
        · exact b3 e
        · exact b4 e
        · exact b5 e
        · exact b6 e
        · exact b7 e
        · exact b8 e
        · exact a9 e
        · exact a10 e)
      rwa [if_pos this] at k
  refine q11_count_0 (by omega) ?_
  rw [H.2.2.2.1.1, H.2.2.2.1.2.1, H.2.2.2.1.2.2.1, H.2.2.2.2.2.1, U]
  refine ⟨fun q => by rwa [if_pos q] at k, fun q => ?_, fun q => ?_, fun q => ?_, fun q => ?_, fun q => ?_, fun a5 a6 a7 a8 a9 a10 => bk a5 a6 a7 a9 a10⟩
  · subst q; rwa [if_neg (by decide), if_pos rfl] at k
  · subst q; rwa [if_neg (by decide), if_neg (by decide), if_pos rfl] at k
  · subst q; exact bk (by decide) (by decide) (by decide) (by decide) (by decide)
  · subst q; rwa [if_neg (by decide), if_neg (by decide), if_neg (by decide), if_pos rfl] at k
  · subst q
    rw [if_neg (by decide), if_neg (by decide), if_neg (by decide), if_neg (by decide), if_pos rfl] at k
    exact ⟨fun z => by rwa [bI_0 (fun y => y z)] at k, fun z => by rwa [bI_1 z] at k⟩
theorem cm_count (hd : 6 ≤ d) (G : Agr s δ) {w : Int32} {Q : Int32 → mi_D → Prop} (k : Q (B_count s w) δ) : mi_wI N d 209 0 [.ref 48, .int w, .null] [] δ Q := by
  have e0 : δ.1 48 0 = s.1 48 0 := G.1 (48, 0) (by decide)
  -- one of them, told
  have t63 : (∃ j, j < 11 ∧ w = nI j) → (s.1 48 0 = 0 → w = 5 ∨ w = 6 ∨ w = 7 ∨ w = 9 ∨ w = 10) → ∀ x, mi_wI N d 209 63 [.ref 48, .int w, .int x] [] δ Q := by
    intro ⟨j, hj, ej⟩ hup x
    have hin : ¬ (w < 0 ∨ 10 < w) := by
      rw [ej]
      exact fun q => q.elim (nI_pos (by omega)) (fun q => by have := (nI_ltI (a := 10) (by omega) (by omega)).mp q; omega)
    unfold B_count at k
    refine q12_count_63 (by omega) ?_
    rw [G.1 (48, 2) (by decide), G.1 (48, 11) (by decide), G.1 (48, 12) (by decide), G.1 (48, 15) (by decide), G.1 (48, 24) (by decide), G.1 (48, 30) (by decide), G.1 (48, 31) (by decide), G.1 (48, 32) (by decide), G.1 (48, 10) (by decide), G.1 (48, 36) (by decide), e0]
    have up : ¬ (w = 5 ∨ w = 6 ∨ w = 7 ∨ w = 9 ∨ w = 10) → ¬ s.1 48 0 = 0 := fun h z => h (hup z)
    refine ⟨fun q => ?_, fun q => ?_, fun q => ?_, fun q => ?_, fun q => ?_, fun q => ?_, fun q => ?_, fun q => ?_, fun q => ?_, fun q => ?_, fun b0 b1 b2 b3 b4 b5 b6 b7 b8 b9 => ?_⟩
    · have := up (by rw [q]; decide)
      rw [q] at k
      rwa [if_neg (by decide), if_neg (by decide), if_neg (by decide), if_neg (by decide), if_neg (by decide), if_neg (by decide), if_neg this, if_pos rfl] at k
    · have := up (by rw [q]; decide)
      rw [q] at k
      rwa [if_neg (by decide), if_neg (by decide), if_neg (by decide), if_neg (by decide), if_neg (by decide), if_neg (by decide), if_neg this, if_neg (by decide), if_pos rfl] at k
    · have := up (by rw [q]; decide)
      rw [q] at k
      rwa [if_neg (by decide), if_neg (by decide), if_neg (by decide), if_neg (by decide), if_neg (by decide), if_neg (by decide), if_neg this, if_neg (by decide), if_neg (by decide), if_pos rfl] at k
    · have := up (by rw [q]; decide)
      rw [q] at k
      rwa [if_neg (by decide), if_neg (by decide), if_neg (by decide), if_neg (by decide), if_neg (by decide), if_neg (by decide), if_neg this, if_neg (by decide), if_neg (by decide), if_neg (by decide), if_pos rfl] at k
    · have := up (by rw [q]; decide)
      rw [q] at k
      rwa [if_neg (by decide), if_neg (by decide), if_neg (by decide), if_neg (by decide), if_neg (by decide), if_neg (by decide), if_neg this, if_neg (by decide), if_neg (by decide), if_neg (by decide), if_neg (by decide), if_pos rfl] at k
    · rwa [if_pos q] at k
    · rw [q] at k
      rwa [if_neg (by decide), if_pos rfl] at k
    · rw [q] at k
      rwa [if_neg (by decide), if_neg (by decide), if_pos rfl] at k
    · have := up (by rw [q]; decide)
      rw [q] at k
      rwa [if_neg (by decide), if_neg (by decide), if_neg (by decide), if_neg (by decide), if_neg (by decide), if_neg (by decide), if_neg this, if_neg (by decide), if_neg (by decide), if_neg (by decide), if_neg (by decide), if_neg (by decide)] at k
    · rw [q] at k
      rwa [if_neg (by decide), if_neg (by decide), if_neg (by decide), if_pos rfl] at k
    · have e10 : w = 10 := by
        rcases (show j = 0 ∨ j = 1 ∨ j = 2 ∨ j = 3 ∨ j = 4 ∨ j = 5 ∨ j = 6 ∨ j = 7 ∨ j = 8 ∨ j = 9 ∨ j = 10 by omega) with z | z | z | z | z | z | z | z | z | z | z <;> subst z
        · exact absurd ej b0
        · exact absurd ej b1
        · exact absurd ej b2
        · exact absurd ej b3
        · exact absurd ej b4
        · exact absurd ej b5
        · exact absurd ej b6
        · exact absurd ej b7
        · exact absurd ej b8
        · exact absurd ej b9
        · exact ej
      rw [if_neg b5, if_neg b6, if_neg b7, if_neg b9, if_pos e10] at k
      exact ⟨fun z => by rwa [bI_0 (fun y => y z)] at k, fun z => by rwa [bI_1 z] at k⟩
  have rng : ∀ lo hi : Nat, hi < 11 ∧ lo < 11 → ¬ w < nI lo → ¬ nI hi < w → ∃ j, lo ≤ j ∧ j ≤ hi ∧ w = nI j := by
    intro lo hi hh h1 h2
    have hl : lo < 2 ^ 31 := by omega
    have h0 : ¬ w < 0 := fun q => h1 (by
      have e := nI_toInt hl
      have e0 : (0 : Int32).toInt = 0 := by decide
      rw [Int32.lt_iff_toInt_lt] at q ⊢
      omega)
    obtain ⟨j, hj, ej⟩ := nI_of h0
    rw [ej] at h1 h2
    refine ⟨j, ?_, ?_, ej⟩
    · rcases Nat.lt_or_ge j lo with z | z
      · exact absurd (nI_lt z hl) h1
      · exact z
    · rcases Nat.lt_or_ge hi j with z | z
      · exact absurd (nI_lt z hj) h2
      · exact z
  -- behind whether it is always told
  have t33 : ∀ x : Int32, (x = 0 → ¬ (w = 5 ∨ w = 6 ∨ w = 7 ∨ w = 9 ∨ w = 10)) → (¬ x = 0 → w = 5 ∨ w = 6 ∨ w = 7 ∨ w = 9 ∨ w = 10) → mi_wI N d 209 33 [.ref 48, .int w, .null] [.int x] δ Q := by
    intro x hx0 hx1
    refine q12_count_33 (by omega) (c_inI (lo := 0) (hi := 10) (by omega) rfl rfl (fun a1 a2 => brN (by decide) ?_) (fun a => br0 ?_))
    · have hj : ∃ j, j < 11 ∧ w = nI j := by
        obtain ⟨j, _, hj, ej⟩ := rng 0 10 ⟨by omega, by omega⟩ a1 a2
        exact ⟨j, by omega, ej⟩
      rw [e0]
      refine ⟨fun z => ⟨fun y => ?_, fun y => t63 hj (fun _ => hx1 y) x⟩, fun z => t63 hj (fun q => absurd q z) x⟩
      have hno := hx0 y
      unfold B_count at k
      rwa [if_neg (fun q => hno (Or.inl q)), if_neg (fun q => hno (Or.inr (Or.inl q))), if_neg (fun q => hno (Or.inr (Or.inr (Or.inl q)))), if_neg (fun q => hno (Or.inr (Or.inr (Or.inr (Or.inl q))))), if_neg (fun q => hno (Or.inr (Or.inr (Or.inr (Or.inr q))))), if_neg (fun q => q.elim a1 a2), if_pos z] at k
    · have no : ∀ j, j < 11 → ¬ w = nI j := fun j hj q => by
        rw [q] at a
        exact a.elim (nI_pos (by omega)) (fun q => by have := (nI_ltI (a := 10) (by omega) (by omega)).mp q; omega)
      unfold B_count at k
      rwa [if_neg (show ¬ w = 5 from no 5 (by omega)), if_neg (show ¬ w = 6 from no 6 (by omega)), if_neg (show ¬ w = 7 from no 7 (by omega)), if_neg (show ¬ w = 9 from no 9 (by omega)), if_neg (show ¬ w = 10 from no 10 (by omega)), if_pos a] at k
  refine q12_count_0 (by omega) (c_inI (lo := 5) (hi := 7) (by omega) rfl rfl (fun a1 a2 => brN (by decide) (q12_count_28 (by omega) (t33 1 (fun q => absurd q (by decide)) (fun _ => ?_)))) (fun a => br0 (c_inI (lo := 9) (hi := 10) (by omega) rfl rfl (fun a1 a2 => brN (by decide) (q12_count_28 (by omega) (t33 1 (fun q => absurd q (by decide)) (fun _ => ?_)))) (fun b => br0 (t33 0 (fun _ q => ?_) (fun q => absurd rfl q))))))
  · obtain ⟨j, h1, h2, ej⟩ := rng 5 7 ⟨by omega, by omega⟩ a1 a2
    rcases (show j = 5 ∨ j = 6 ∨ j = 7 by omega) with z | z | z <;> subst z
    · exact Or.inl ej
    · exact Or.inr (Or.inl ej)
    · exact Or.inr (Or.inr (Or.inl ej))
  · obtain ⟨j, h1, h2, ej⟩ := rng 9 10 ⟨by omega, by omega⟩ a1 a2
    rcases (show j = 9 ∨ j = 10 by omega) with z | z <;> subst z
    · exact Or.inr (Or.inr (Or.inr (Or.inl ej)))
    · exact Or.inr (Or.inr (Or.inr (Or.inr ej)))
  · rcases q with q | q | q | q | q <;> subst q
    · exact absurd a (by decide)
    · exact absurd a (by decide)
    · exact absurd a (by decide)
    · exact absurd b (by decide)
    · exact absurd b (by decide)
end CTE
