/-! SHARES: the model -/
section MSH
variable {N d n : Nat} {w : Nat → Int64} {a : Int64}
theorem cm_shares (hd : 5 ≤ d) {δ : mi_D} (hs : δ.1 48 41 = nI n) (h76 : ∀ i, i < n → δ.2.2 76 i = w i) (h : shOK n w a) (hS : ¬ sumW w n = 0) {Q : mi_D → Prop}
    (k : ∀ δ', (∀ i, i < n → δ'.2.2 77 i = shr n w a i) → Fr [] [79] [77, 78] δ δ' → Q δ') : mi_wV N d 178 0 [.ref 48, .long a, .null, .null, .null, .null, .null, .null, .null, .null] [] δ Q := by
  have h8 := h.1
  obtain ⟨S, eS⟩ : ∃ S, sumW w n = S := ⟨_, rfl⟩
  obtain ⟨R, eR⟩ : ∃ R, rstN a S w n = R := ⟨_, rfl⟩
  have hRn := rst_le h hS
  rw [eS, eR] at hRn
  obtain ⟨m, em⟩ : ∃ m, R.toInt.natAbs = m := ⟨_, rfl⟩
  rw [em] at hRn
  have eshr : ∀ i, shr n w a i = (shI n (rmd a S w) (sg1 R) (quo a S w) m).1 i := fun i => by unfold shr; rw [eS, eR, em]
  rw [eS] at hS
  have e0 : (0 : Int64).toInt = 0 := by decide
  have em1 : (-1 : Int64).toInt = -1 := by decide
  have e1 : (1 : Int64).toInt = 1 := by decide
  -- the rest is given
  have give : ∀ t, t ≤ m → ∀ l5 : Int64, (l5.toInt = if R.toInt < 0 then R.toInt + t else R.toInt - t) → ∀ δ', (∀ i, i < n → δ'.2.2 77 i = (shI n (rmd a S w) (sg1 R) (quo a S w) t).1 i) → (∀ i, i < n → δ'.2.2 78 i = rmd a S w i) → (∀ i, i < n → δ'.2.1 79 i = (shI n (rmd a S w) (sg1 R) (quo a S w) t).2 i) → Fr [] [79] [77, 78] δ δ' →
      ((lg_cmp l5 0) = 0 → Q δ') ∧ (¬ (lg_cmp l5 0) = 0 → mi_wV N d 178 137 [.ref 48, .long a, .null, .long S, .null, .long l5, .null, .int (-1), .int 0, .null] [] δ' Q) := by
    intro t ht
    refine up_ind (P := fun t => ∀ l5 : Int64, (l5.toInt = if R.toInt < 0 then R.toInt + t else R.toInt - t) → ∀ δ', (∀ i, i < n → δ'.2.2 77 i = (shI n (rmd a S w) (sg1 R) (quo a S w) t).1 i) → (∀ i, i < n → δ'.2.2 78 i = rmd a S w i) → (∀ i, i < n → δ'.2.1 79 i = (shI n (rmd a S w) (sg1 R) (quo a S w) t).2 i) → Fr [] [79] [77, 78] δ δ' →
      ((lg_cmp l5 0) = 0 → Q δ') ∧ (¬ (lg_cmp l5 0) = 0 → mi_wV N d 178 137 [.ref 48, .long a, .null, .long S, .null, .long l5, .null, .int (-1), .int 0, .null] [] δ' Q)) ?_ ?_ ht
    · intro l5 hl5 δ' g77 g78 g79 f'
      rw [zc_eq]
      refine ⟨fun _ => k δ' (fun i hi => by rw [eshr]; exact g77 i hi) f', fun z => absurd ?_ z⟩
      apply Int64.toInt_inj.mp
      rw [hl5, e0]
      split <;> omega
    · intro t ht ih l5 hl5 δ' g77 g78 g79 f'
      have hl0 : ¬ l5.toInt = 0 := by rw [hl5]; split <;> omega
      rw [zc_eq]
      refine ⟨fun z => absurd (by rw [z]; exact e0) hl0, fun _ => ?_⟩
      obtain ⟨b, hb, eb, ub⟩ := (shI_ok n h8 (rmd a S w) (sg1 R) (quo a S w) t (by omega)).2 (by omega)
      have hs' : δ'.1 48 41 = nI n := (f'.1 _ _ List.not_mem_nil).trans hs
      obtain ⟨u, eu⟩ : ∃ u, (shI n (rmd a S w) (sg1 R) (quo a S w) t).2 = u := ⟨_, rfl⟩
      rw [eu] at g79 eb ub
      suffices H : ∀ i, i ≤ n → mi_wV N d 178 137 [.ref 48, .long a, .null, .long S, .null, .long l5, .null, .int (pck (rmd a S w) u i), .int (nI i), .null] [] δ' Q by
        have z := H 0 (by omega)
        rwa [nI_0] at z
      intro i hi
      refine up_ind (P := fun i => mi_wV N d 178 137 [.ref 48, .long a, .null, .long S, .null, .long l5, .null, .int (pck (rmd a S w) u i), .int (nI i), .null] [] δ' Q) ?_ ?_ hi
      · refine q12_shares_137 hd (brF (by rw [hs']; exact nI_nlt (Nat.le_refl _) (by omega)) ?_)
        rw [eb, nI_clamp (by omega)]
        have hx : mi_ix (nI b) 8 = true := mi_ix_nI (by omega) (by omega)
        have es1 : (shI n (rmd a S w) (sg1 R) (quo a S w) (t + 1)).1 = up1 (shI n (rmd a S w) (sg1 R) (quo a S w) t).1 b ((shI n (rmd a S w) (sg1 R) (quo a S w) t).1 b + sg1 R) := by
          rw [shI_s]; unfold shF; rw [eu, eb, nI_clamp (by omega)]
        have es2 : (shI n (rmd a S w) (sg1 R) (quo a S w) (t + 1)).2 = up1 u b 1 := by
          rw [shI_s]; unfold shF; rw [eu, eb, nI_clamp (by omega)]
        have esg : l5 < 0 ↔ R < 0 := by
          rw [Int64.lt_iff_toInt_lt, Int64.lt_iff_toInt_lt, hl5, e0]
          split <;> omega
        have st224 : ∀ δ1, δ1 = mi_setA δ' 79 b 1 → ∀ s3, s3 = sg1 R → mi_wV N d 178 224 [.ref 48, .long a, .null, .long S, .null, .long l5, .null, .int (nI b), .int (nI n), .null] [.long s3, .long (δ1.2.2 77 b), .int (nI b), .ref 77] δ1 Q := by
          intro δ1 ed1 s3 e3
          refine q12_shares_224 hd ⟨hx, fun δ2 ed2 => ?_⟩
          rw [nI_clamp (by omega)] at ed2
          have G77 : ∀ j, j < n → δ2.2.2 77 j = (shI n (rmd a S w) (sg1 R) (quo a S w) (t + 1)).1 j := fun j hj => by
            rw [es1, ed2, pL_l, if_pos rfl, ed1, pA_l, e3]
            by_cases y : j = b
            · subst y; rw [up1_s, up1_s, g77 j hj]
            · rw [up1_n _ _ y, up1_n _ _ y, g77 j hj]
          have G78 : ∀ j, j < n → δ2.2.2 78 j = rmd a S w j := fun j hj => by
            rw [ed2, pL_l, if_neg (by decide), ed1]
            exact g78 j hj
          have G79 : ∀ j, j < n → δ2.2.1 79 j = (shI n (rmd a S w) (sg1 R) (quo a S w) (t + 1)).2 j := fun j hj => by
            rw [es2, ed2, pL_a, ed1, pA_a, if_pos rfl]
            by_cases y : j = b
            · subst y; rw [up1_s, up1_s]
            · rw [up1_n _ _ y, up1_n _ _ y, g79 j hj]
          have F2 : Fr [] [79] [77, 78] δ δ2 := by
            rw [ed2, ed1]
            exact (f'.tr (Fr.setA (by decide))).tr (Fr.setL (by decide))
          refine ⟨fun z x ex => q12_shares_124b hd (ih x ?_ δ2 G77 G78 G79 F2), fun z x ex => q12_shares_124b hd (ih x ?_ δ2 G77 G78 G79 F2)⟩
          · have z := zc_lt.mp z
            have zr := esg.mp z
            rw [Int64.lt_iff_toInt_lt, e0] at zr
            rw [if_pos zr] at hl5 ⊢
            rw [ex, i64_sub (by omega) (by omega), em1]
            omega
          · have z : ¬ l5 < 0 := fun y => z (zc_lt.mpr y)
            have zr : ¬ R.toInt < 0 := fun y => z (esg.mpr (by rw [Int64.lt_iff_toInt_lt, e0]; exact y))
            rw [if_neg zr] at hl5 ⊢
            rw [ex, i64_sub (by omega) (by omega), e1]
            omega
        refine ⟨hx, fun δ1 ed1 => ⟨hx, fun z => st224 δ1 ed1 _ ?_, fun z => st224 δ1 ed1 _ ?_⟩⟩
        · exact (if_pos (esg.mp (zc_lt.mp z))).symm
        · exact (if_neg (fun y => z (zc_lt.mpr (esg.mpr y)))).symm
      · intro i hi ih2
        refine q12_shares_137 hd (brT (by rw [hs']; exact nI_lt hi (by omega)) ⟨mi_ix_nI (by omega) (by omega), ?_⟩)
        rw [nI_clamp (by omega), g79 i hi, nI_1, g78 i hi, zc_gt]
        have e : pck (rmd a S w) u (i + 1) = if u i = 0 ∧ (pck (rmd a S w) u i < 0 ∨ rmd a S w (pck (rmd a S w) u i).toNatClampNeg < rmd a S w i) then nI i else pck (rmd a S w) u i := rfl
        refine ⟨fun z => ⟨fun y => ?_, fun y => ?_⟩, fun z => ?_⟩
        · rw [if_pos ⟨z, Or.inl y⟩] at e
          rw [e] at ih2
          exact ih2
        · obtain ⟨c, hc, ec, _⟩ : ∃ c, c < i ∧ pck (rmd a S w) u i = nI c ∧ u c = 0 := by
            rcases pck_sp (rmd a S w) u i (by omega) with ⟨x, _⟩ | x
            · rw [x] at y; exact absurd (by decide) y
            · exact x
          have ecl : (pck (rmd a S w) u i).toNatClampNeg = c := by rw [ec, nI_clamp (by omega)]
          rw [ecl] at e ⊢
          refine ⟨mi_ix_nI (by omega) (by omega), by rw [ec]; exact mi_ix_nI (by omega) (by omega), ?_⟩
          rw [g78 c (by omega)]
          refine ⟨fun x => ?_, fun x => ?_⟩
          · rw [if_pos ⟨z, Or.inr x⟩] at e
            rw [e] at ih2
            exact ih2
          · rw [if_neg (fun v => v.2.elim y x)] at e
            rw [e] at ih2
            exact ih2
        · rw [if_neg (fun v => z v.1)] at e
          rw [e] at ih2
          exact ih2
  -- each share
  have each : ∀ i, i ≤ n → ∀ δ', (∀ j, j < i → δ'.2.2 77 j = quo a S w j) → (∀ j, j < i → δ'.2.2 78 j = rmd a S w j) → (∀ j, j < i → δ'.2.1 79 j = 0) → Fr [] [79] [77, 78] δ δ' → mi_wV N d 178 36 [.ref 48, .long a, .null, .long S, .null, .long (rstN a S w i), .null, .int (nI i), .null, .null] [] δ' Q ∧ ∀ x, mi_wV N d 178 36 [.ref 48, .long a, .null, .long S, .null, .long (rstN a S w i), .null, .int (nI i), .long x, .null] [] δ' Q := by
    intro i hi
    refine up_ind (P := fun i => ∀ δ', (∀ j, j < i → δ'.2.2 77 j = quo a S w j) → (∀ j, j < i → δ'.2.2 78 j = rmd a S w j) → (∀ j, j < i → δ'.2.1 79 j = 0) → Fr [] [79] [77, 78] δ δ' → mi_wV N d 178 36 [.ref 48, .long a, .null, .long S, .null, .long (rstN a S w i), .null, .int (nI i), .null, .null] [] δ' Q ∧ ∀ x, mi_wV N d 178 36 [.ref 48, .long a, .null, .long S, .null, .long (rstN a S w i), .null, .int (nI i), .long x, .null] [] δ' Q) ?_ ?_ hi
    · intro δ' g77 g78 g79 f'
      have hs' : δ'.1 48 41 = nI n := (f'.1 _ _ List.not_mem_nil).trans hs
      have hF : ¬ nI n < δ'.1 48 41 := by rw [hs']; exact nI_nlt (Nat.le_refl _) (by omega)
      have g := give 0 (by omega) R (by split <;> omega) δ' g77 g78 (fun i hi => by rw [g79 i hi]; rfl) f'
      rw [eR]
      exact ⟨q12_shares_36 hd (brF hF (q12_shares_124 hd g)), fun x => q12_shares_36a hd (brF hF (q12_shares_124a hd g))⟩
    · intro i hi ih δ' g77 g78 g79 f'
      have hs' : δ'.1 48 41 = nI n := (f'.1 _ _ List.not_mem_nil).trans hs
      have hT : nI i < δ'.1 48 41 := by rw [hs']; exact nI_lt hi (by omega)
      have hx : mi_ix (nI i) 8 = true := mi_ix_nI (by omega) (by omega)
      have g76 : ∀ δ1 : mi_D, Fr [] [79] [77, 78] δ δ1 → δ1.2.2 76 i = w i := fun δ1 f1 => by rw [f1.2.2 76 (by decide)]; exact h76 i hi
      have st97 : ∀ δ1, δ1 = mi_setL δ' 77 i (quo a S w i) → ∀ x2 s2, s2 = rmd a S w i → mi_wV N d 178 97 [.ref 48, .long a, .null, .long S, .null, .long (rstN a S w i), .null, .int (nI i), .long x2, .null] [.long s2, .int (nI i), .ref 78] δ1 Q := by
        intro δ1 ed1 x2 s2 e2
        refine q12_shares_97 hd ⟨hx, fun δ2 ed2 => ⟨hx, fun δ3 ed3 => ⟨hx, fun x3 e3 => ?_⟩⟩⟩
        rw [nI_clamp (by omega)] at ed2 ed3 e3
        have r77 : δ3.2.2 77 = up1 (δ'.2.2 77) i (quo a S w i) := by rw [ed3, pA_l, ed2, pL_l, if_neg (by decide), ed1, pL_l, if_pos rfl]
        have r78 : δ3.2.2 78 = up1 (δ'.2.2 78) i (rmd a S w i) := by rw [ed3, pA_l, ed2, pL_l, if_pos rfl, ed1, pL_l, if_neg (by decide), e2]
        have r79 : δ3.2.1 79 = up1 (δ'.2.1 79) i 0 := by rw [ed3, pA_a, if_pos rfl, ed2, pL_a, ed1, pL_a]
        rw [r77, up1_s] at e3
        have e3' : x3 = rstN a S w (i + 1) := e3
        rw [e3', nI_1]
        refine (ih δ3 (fun j hj => ?_) (fun j hj => ?_) (fun j hj => ?_) ?_).2 x2
        · rw [r77]
          by_cases y : j = i
          · subst y; exact up1_s _ _ _
          · rw [up1_n _ _ y]; exact g77 j (by omega)
        · rw [r78]
          by_cases y : j = i
          · subst y; exact up1_s _ _ _
          · rw [up1_n _ _ y]; exact g78 j (by omega)
        · rw [r79]
          by_cases y : j = i
          · subst y; exact up1_s _ _ _
          · rw [up1_n _ _ y]; exact g79 j (by omega)
        · rw [ed3, ed2, ed1]
          exact ((f'.tr (Fr.setL (by decide))).tr (Fr.setL (by decide))).tr (Fr.setA (by decide))
      have body : mi_ix (nI i) 8 = true ∧ (¬ S = 0 ∧ (mi_ix (nI i) 8 = true ∧ (∀ δ1 : mi_D, δ1 = mi_setL δ' 77 (Int32.toNatClampNeg (nI i)) ((a * (δ'.2.2 76 (Int32.toNatClampNeg (nI i)))) / S) → (mi_ix (nI i) 8 = true ∧ (¬ S = 0 ∧ (∀ x2 : Int64, x2 = ((a * (δ1.2.2 76 (Int32.toNatClampNeg (nI i)))) - (a * (δ1.2.2 76 (Int32.toNatClampNeg (nI i)))) / S * S) → (((lg_cmp x2 0) < 0 → mi_wV N d 178 97 [.ref 48, .long a, .null, .long S, .null, .long (rstN a S w i), .null, .int (nI i), .long x2, .null] [.long (-x2), .int (nI i), .ref 78] δ1 Q) ∧ (¬ (lg_cmp x2 0) < 0 → mi_wV N d 178 97 [.ref 48, .long a, .null, .long S, .null, .long (rstN a S w i), .null, .int (nI i), .long x2, .null] [.long x2, .int (nI i), .ref 78] δ1 Q)))))))) := by
        rw [nI_clamp (by omega), g76 δ' f']
        refine ⟨hx, hS, hx, fun δ1 ed1 => ⟨hx, hS, fun x2 e2 => ?_⟩⟩
        have f1 : Fr [] [79] [77, 78] δ δ1 := by rw [ed1]; exact f'.tr (Fr.setL (by decide))
        rw [g76 δ1 f1] at e2
        have er : rmd a S w i = if x2 < 0 then -x2 else x2 := by unfold rmd ab64; rw [← e2]
        refine ⟨fun z => st97 δ1 ed1 x2 _ ?_, fun z => st97 δ1 ed1 x2 _ ?_⟩
        · rw [er, if_pos (zc_lt.mp z)]
        · rw [er, if_neg (fun y => z (zc_lt.mpr y))]
      exact ⟨q12_shares_36 hd (brT hT body), fun x => q12_shares_36a hd (brT hT body)⟩
  refine q12_shares_0 hd ?_
  suffices H : ∀ i, i ≤ n → mi_wV N d 178 5 [.ref 48, .long a, .null, .long (sumW w i), .null, .int (nI i), .null, .null, .null, .null] [] δ Q by
    have z := H 0 (by omega)
    rwa [nI_0] at z
  intro i hi
  refine up_ind (P := fun i => mi_wV N d 178 5 [.ref 48, .long a, .null, .long (sumW w i), .null, .int (nI i), .null, .null, .null, .null] [] δ Q) ?_ ?_ hi
  · refine q12_shares_5 hd (brF (by rw [hs]; exact nI_nlt (Nat.le_refl _) (by omega)) ?_)
    rw [eS]
    have z := (each 0 (by omega) δ (fun j hj => absurd hj (Nat.not_lt_zero j)) (fun j hj => absurd hj (Nat.not_lt_zero j)) (fun j hj => absurd hj (Nat.not_lt_zero j)) (Fr.rf _ _ _ _)).1
    rwa [nI_0] at z
  · intro i hi ih
    refine q12_shares_5 hd (brT (by rw [hs]; exact nI_lt hi (by omega)) ⟨mi_ix_nI (by omega) (by omega), fun x1 ex => ?_⟩)
    rw [nI_clamp (by omega), h76 i hi] at ex
    have ex' : x1 = sumW w (i + 1) := ex
    rw [ex', nI_1]
    exact ih
end MSH
