/-! the law from its start to its end -/
section LOOP
variable {N d : Nat}
theorem law_run (hd : 21 ≤ d) (hN : N < 2 ^ 30) {Q : Int32 → mi_D → Prop} (k : ∀ δ, Q 1 δ) : ∀ m i, N < i + m → i < 2 ^ 30 → ∀ δ, Jv δ → mi_wI N d 210 18 [.ref 0, .ref 2, .ref 48, .int (nI i)] [] δ Q := by
  intro m
  have e8 : (8 : Int32) = nI 8 := by decide
  have out : ∀ i, ¬ i + 8 ≤ N → i < 2 ^ 30 → ∀ δ, mi_wI N d 210 18 [.ref 0, .ref 2, .ref 48, .int (nI i)] [] δ Q := by
    intro i h hi δ
    refine qL_law_18 (by omega) (brT ?_ (k δ))
    rw [e8, Int32.lt_iff_toInt_lt, pk_sub_toInt hN (by omega), nI_toInt (by omega)]
    omega
  induction m with
  | zero =>
    intro i h hi δ J
    exact out i (by omega) hi δ
  | succ m ih =>
    intro i h hi δ J
    by_cases q : i + 8 ≤ N
    · refine law_step hd hN q (fun δ' J' => ?_) J
      rw [e8, nI_add]
      exact ih (i + 8) (by omega) (by omega) δ' J'
    · exact out i q hi δ
end LOOP
section BOOTED
variable (xs : Nat → Int32)
theorem db_a {a : Nat} (h : 2 ≤ a) : (mi_db xs).2.1 a = fun _ => 0 := by
  funext j
  have h0 : (mi_d0 xs).2.1 a j = 0 := ((fz_0 xs) a h).2.1 j
  unfold mi_db
  rw [pA_a]
  split
  · next e =>
    subst e
    show (if j = Int32.toNatClampNeg 0 then 0 else (mi_d0 xs).2.1 61 j) = 0
    split
    · rfl
    · exact h0
  · exact h0
theorem db_l (a : Nat) : (mi_db xs).2.2 a = fun _ => 0 := rfl
theorem db_n {k : Nat} (h : (mi_db xs).1 48 k = 0) : nN (mi_db xs) k = 0 := by unfold nN; rw [h]; rfl
theorem db_w {k m : Nat} (h : (mi_db xs).1 48 k = 0) : wfn (mi_db xs) k m := ⟨by rw [db_n xs h, h]; exact nI_0.symm, by rw [db_n xs h]; exact Nat.zero_le _⟩
theorem db_jv : Jv (mi_db xs) := by
  have n2 : nN (mi_db xs) 2 = 0 := db_n xs rfl
  have n11 : nN (mi_db xs) 11 = 0 := db_n xs rfl
  have n12 : nN (mi_db xs) 12 = 0 := db_n xs rfl
  have n15 : nN (mi_db xs) 15 = 0 := db_n xs rfl
  have n24 : nN (mi_db xs) 24 = 0 := db_n xs rfl
  have n30 : nN (mi_db xs) 30 = 0 := db_n xs rfl
  have n31 : nN (mi_db xs) 31 = 0 := db_n xs rfl
  have r61 : (mi_db xs).2.1 61 0 = 0 := by rw [db_a xs (by omega)]
  have f0 : fromN (mi_db xs) 0 = 0 := by unfold fromN; rw [r61]; rfl
  have row : ∀ a b, 2 ≤ a → 2 ≤ b → (mi_db xs).2.1 a = (mi_db xs).2.1 b := fun a b ha hb => by rw [db_a xs ha, db_a xs hb]
  have rw2 : ∀ a b, (mi_db xs).2.2 a = (mi_db xs).2.2 b := fun a b => rfl
  refine ⟨⟨⟨rfl, row _ _ (by omega) (by omega), row _ _ (by omega) (by omega), row _ _ (by omega) (by omega), row _ _ (by omega) (by omega), row _ _ (by omega) (by omega), row _ _ (by omega) (by omega), rw2 _ _, fun i b h => ?_⟩,
    ⟨rfl, rfl, row _ _ (by omega) (by omega), row _ _ (by omega) (by omega), rfl⟩,
    ⟨rfl, row _ _ (by omega) (by omega), row _ _ (by omega) (by omega), row _ _ (by omega) (by omega), row _ _ (by omega) (by omega), row _ _ (by omega) (by omega), row _ _ (by omega) (by omega), rw2 _ _, ?_, fun e he => absurd (n15 ▸ he) (Nat.not_lt_zero e), fun a ha => absurd (n2 ▸ ha) (Nat.not_lt_zero a)⟩,
    ⟨rfl, rfl, rfl, row _ _ (by omega) (by omega)⟩, ⟨rfl, row _ _ (by omega) (by omega), rw2 _ _⟩, ⟨rfl, row _ _ (by omega) (by omega)⟩⟩,
    rfl, ⟨?_, ?_, ?_, ?_, ?_, ?_⟩, rfl, fun _ => rfl, fun j hj => ?_⟩
  · rw [n2] at h
    exact absurd h (by unfold ordN; simp)
  · rw [n15, f0]; exact nI_0.symm
  · exact ⟨db_w xs rfl, fun a ha => absurd (n2 ▸ ha) (Nat.not_lt_zero a), fun a b ha => absurd (n2 ▸ ha) (Nat.not_lt_zero a), fun a ha => absurd (n2 ▸ ha) (Nat.not_lt_zero a)⟩
  · exact ⟨db_w xs rfl, db_w xs rfl, by rw [n12, n11]; exact Nat.le_refl _, fun p hp => absurd (n11 ▸ hp) (Nat.not_lt_zero p), fun p hp => absurd (n11 ▸ hp) (Nat.not_lt_zero p), Or.inl rfl⟩
  · refine ⟨db_w xs rfl, r61, fun e he => ?_, fun e he => absurd (n15 ▸ he) (Nat.not_lt_zero e), fun i hi => ?_⟩
    · rw [n15] at he
      have he : e = 0 := by omega
      subst he
      rw [f0, r61]
      exact nI_0.symm
    · rw [n15, f0] at hi
      exact absurd hi (Nat.not_lt_zero i)
  · exact ⟨db_w xs rfl, fun i hi => absurd (n24 ▸ hi) (Nat.not_lt_zero i)⟩
  · exact ⟨db_w xs rfl, db_w xs rfl, by rw [n31, n30]; exact Nat.le_refl _, fun i => ⟨0, by omega, by rw [db_a xs (by omega)]; exact nI_0.symm⟩⟩
  · exact db_w xs rfl
  · rcases (show j = 0 ∨ j = 1 ∨ j = 2 ∨ j = 3 ∨ j = 4 by omega) with rfl | rfl | rfl | rfl | rfl <;> rfl
end BOOTED
/-! the bounds -/
def bC (k l : Nat) : Nat := 2 + if isI k l then max 16 (l - 1) else 0
def bS (k l : Nat) : Nat := mi_n k + (if 20 ≤ k then l else 0) + if isI k l then 2 * max 16 (l - 1) + l else 0
theorem gg_len (L : Nat) : (mi_GG L).length = 80 := rfl
theorem gg_same (L b : Nat) : mi_k (mi_GG L) b = mi_k (mi_GG 4096) b ∧ (¬ b = 0 → mi_len (mi_GG L) b = mi_len (mi_GG 4096) b) := by
  cases b with
  | zero => exact ⟨rfl, fun h => absurd rfl h⟩
  | succ b => exact ⟨rfl, fun _ => rfl⟩
theorem gg_bound {L : Nat} (hL : L ≤ 4096) {h : mi_H} (I : cI (mi_GG L) h) : h.2.1 ≤ 600000 ∧ h.2.2 ≤ 7000000 := by
  obtain ⟨i1, i2, i3⟩ := I
  rw [gg_len] at i1 i2 i3
  have t1 : tS (fun b => bC (mi_k (mi_GG 4096) b) (mi_len (mi_GG 4096) b)) 80 ≤ 600000 := by decide +kernel
  have t2 : tS (fun b => bS (mi_k (mi_GG 4096) b) (mi_len (mi_GG 4096) b)) 80 ≤ 7000000 := by decide +kernel
  have c1 : ∀ b, b < 80 → wC (mi_k (mi_GG L) b) (mi_len (mi_GG L) b) (h.1 b) ≤ bC (mi_k (mi_GG 4096) b) (mi_len (mi_GG 4096) b) := by
    intro b hb
    have hi := i3 b hb
    rw [(gg_same L b).1] at hi ⊢
    by_cases z : b = 0
    · subst z
      unfold wC bC
      rw [if_neg (fun q => absurd q.1 (by decide)), if_neg (fun q => absurd q.1 (by decide))]
      exact Nat.le_refl _
    · rw [(gg_same L b).2 z] at hi ⊢
      unfold wC bC
      by_cases q : isI (mi_k (mi_GG 4096) b) (mi_len (mi_GG 4096) b)
      · rw [if_pos q, if_pos q]; have := hi q; omega
      · rw [if_neg q, if_neg q]; exact Nat.le_refl _
  have c2 : ∀ b, b < 80 → wS (mi_k (mi_GG L) b) (mi_len (mi_GG L) b) (h.1 b) ≤ bS (mi_k (mi_GG 4096) b) (mi_len (mi_GG 4096) b) := by
    intro b hb
    have hi := i3 b hb
    rw [(gg_same L b).1] at hi ⊢
    by_cases z : b = 0
    · subst z
      have n24 : ∀ l, ¬ isI 24 l := fun l q => absurd q.1 (by decide)
      show wS 24 L (h.1 0) ≤ bS 24 4096
      unfold wS bS
      rw [if_neg (n24 L), if_neg (n24 4096), if_pos (show 20 ≤ 24 by omega), if_pos (show 20 ≤ 24 by omega)]
      omega
    · rw [(gg_same L b).2 z] at hi ⊢
      unfold wS bS
      by_cases q : isI (mi_k (mi_GG 4096) b) (mi_len (mi_GG 4096) b)
      · rw [if_pos q, if_pos q]
        have := hi q
        by_cases hf : mi_len (mi_GG 4096) b ≤ h.1 b + 1
        · rw [if_pos hf]; omega
        · rw [if_neg hf]; omega
      · rw [if_neg q, if_neg q]; exact Nat.le_refl _
  have s1 := tS_le (n := 80) c1
  have s2 := tS_le (n := 80) c2
  exact ⟨by omega, by omega⟩
theorem g0_cI (L : Nat) : cI (mi_g0 L) mi_h0 := by
  refine ⟨Nat.zero_le _, Nat.zero_le _, fun a _ h => ?_⟩
  have := h.1
  rw [mi_k0] at this
  split at this
  · omega
  · split at this <;> omega
theorem mi_goal {L : Nat} (hL : L ≤ 4096) (xs : Nat → Int32) : ∃ (n : Nat) (g' : mi_G) (δ' : mi_D) (h' : mi_H), mi_run n 60 mi_law 0 (mi_entry [.ref 0] 4) [] (mi_g0 L, mi_d0 xs, mi_h0) = some (some (.int 1), (g', δ', h')) ∧ h'.2.1 ≤ 600000 ∧ h'.2.2 ≤ 7000000 := by
  have k16 : mi_wI L 60 210 16 [.ref 0, .ref 2, .ref 48, .null] [] (mi_db xs) (fun x _ => x = 1) := by
    refine qL_law_16 (by decide) ?_
    have q := law_run (N := L) (d := 60) (by decide) (by omega) (Q := fun x _ => x = 1) (fun _ => rfl) (L + 1) 0 (by omega) (by omega) (mi_db xs) (db_jv xs)
    rwa [nI_0] at q
  obtain ⟨n, v, g', δ', h', e, x, ev, eg, ex⟩ := law_boot k16 mi_h0
  subst ev eg ex
  have I := run_cI _ _ _ _ _ _ _ _ _ e (g0_cI L)
  have b := gg_bound hL I
  exact ⟨n, _, δ', h', e, b.1, b.2⟩
