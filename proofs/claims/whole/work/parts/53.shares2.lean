/-! SHARES: the program -/
section CSH
variable {N d n : Nat} {w : Nat → Int64} {a : Int64}
theorem cc_greatest (hd : 5 ≤ d) {r : Nat → Int64} {u : Nat → Int32} {δ : mi_D} (hn : n ≤ 8) (hs : δ.1 41 3 = nI n) (h44 : ∀ i, i < n → δ.2.2 44 i = if u i = 0 then r i else -1) (hr : ∀ i, i < n → (-1 : Int64) < r i) (hf : ∃ b, b < n ∧ pck r u n = nI b ∧ u b = 0) {Q : Int32 → mi_D → Prop} (k : Q (pck r u n) δ) : mi_wI N d 101 0 [.ref 41, .null, .null] [] δ Q := by
  obtain ⟨b0, hb0, eb0, ub0⟩ := hf
  refine q9_withGreatestRemainder_0 hd ?_
  suffices H : ∀ i, i ≤ n → 1 ≤ i → mi_wI N d 101 4 [.ref 41, .int (if pck r u i < 0 then 0 else pck r u i), .int (nI i)] [] δ Q by
    have q := H 1 (by omega) (by omega)
    have e1 : (if pck r u 1 < 0 then 0 else pck r u 1) = 0 := by
      rcases pck_sp r u 1 (by omega) with ⟨z, _⟩ | ⟨b, hb, z, _⟩
      · rw [z]; decide
      · rw [z, show b = 0 by omega]; decide
    rw [e1] at q
    exact q
  intro i hi
  refine up_ind (P := fun i => 1 ≤ i → mi_wI N d 101 4 [.ref 41, .int (if pck r u i < 0 then 0 else pck r u i), .int (nI i)] [] δ Q) ?_ ?_ hi
  · intro _
    refine q9_withGreatestRemainder_4 hd (brF (by rw [hs]; exact nI_nlt (Nat.le_refl _) (by omega)) ?_)
    rw [eb0, if_neg (nI_pos (by omega)), ← eb0]
    exact k
  · intro i hi ih h1
    have ih := ih (by omega)
    refine q9_withGreatestRemainder_4 hd (brT (by rw [hs]; exact nI_lt hi (by omega)) ?_)
    rw [nI_1, zc_gt]
    have e : pck r u (i + 1) = if u i = 0 ∧ (pck r u i < 0 ∨ r (pck r u i).toNatClampNeg < r i) then nI i else pck r u i := rfl
    have hri := hr i hi
    have ni : ¬ nI i < 0 := nI_pos (by omega)
    rcases pck_sp r u i (by omega) with ⟨z, z2⟩ | ⟨b, hb, z, z2⟩
    · have zn : pck r u i < 0 := by rw [z]; decide
      have u0 : ¬ u 0 = 0 := z2 0 (by omega)
      have e44 : mi_al δ 44 (if pck r u i < 0 then 0 else pck r u i) = -1 := by
        rw [if_pos zn, ← nI_0, mi_al_nI _ _ (by omega), h44 0 (by omega), if_neg u0]
      rw [e44, mi_al_nI _ _ (by omega), h44 i hi]
      refine ⟨fun q => ?_, fun q => ?_⟩
      · have ui : u i = 0 := Decidable.not_not.mp (fun y => by rw [if_neg y] at q; exact absurd q (by decide))
        rw [if_pos ⟨ui, Or.inl zn⟩] at e
        rw [e, if_neg ni] at ih
        exact ih
      · have ui : ¬ u i = 0 := fun y => by rw [if_pos y] at q; exact q hri
        rw [if_neg (fun y => ui y.1)] at e
        rw [e] at ih
        exact ih
    · have zn : ¬ pck r u i < 0 := by rw [z]; exact nI_pos (by omega)
      have e44 : mi_al δ 44 (if pck r u i < 0 then 0 else pck r u i) = r b := by
        rw [if_neg zn, z, mi_al_nI _ _ (by omega), h44 b (by omega), if_pos z2]
      have hrb := hr b (by omega)
      have ecl : (pck r u i).toNatClampNeg = b := by rw [z, nI_clamp (by omega)]
      rw [ecl] at e
      rw [e44, mi_al_nI _ _ (by omega), h44 i hi]
      refine ⟨fun q => ?_, fun q => ?_⟩
      · have ui : u i = 0 := Decidable.not_not.mp (fun y => by
          rw [if_neg y] at q
          rw [Int64.lt_iff_toInt_lt] at q hrb
          omega)
        rw [if_pos ui] at q
        rw [if_pos ⟨ui, Or.inr q⟩] at e
        rw [e, if_neg ni] at ih
        exact ih
      · have hno : ¬ (u i = 0 ∧ (pck r u i < 0 ∨ r b < r i)) := fun y => by
          rw [if_pos y.1] at q
          exact y.2.elim zn q
        rw [if_neg hno] at e
        rw [e] at ih
        exact ih
theorem ab_toInt {x : Int64} (h : -1000000000000000000 ≤ x.toInt ∧ x.toInt ≤ 1000000000000000000) : (ab64 x).toInt = x.toInt.natAbs := by
  unfold ab64
  have e0 : (0 : Int64).toInt = 0 := by decide
  by_cases q : x < 0
  · rw [if_pos q, i64_neg (by omega)]
    rw [Int64.lt_iff_toInt_lt] at q
    omega
  · rw [if_neg q]
    rw [Int64.lt_iff_toInt_lt] at q
    omega
theorem cc_giveRest (hd : 6 ≤ d) {r q : Nat → Int64} {R : Int64} {δ : mi_D} (hn : n ≤ 7) (hs : δ.1 41 3 = nI n) (h42 : ∀ i, i < n → δ.2.2 42 i = q i) (h44 : ∀ i, i < n → δ.2.2 44 i = r i) (hr : ∀ i, i < n → (-1 : Int64) < r i) (hR : R.toInt.natAbs ≤ n) {Q : mi_D → Prop}
    (k : ∀ δ', (∀ i, i < n → δ'.2.2 42 i = (shI n r (sg1 R) q R.toInt.natAbs).1 i) → Fr [] [] [42, 44] δ δ' → Q δ') : mi_wV N d 100 0 [.ref 41, .long R, .null, .null, .null, .null, .null, .null, .null] [] δ Q := by
  obtain ⟨m, em⟩ : ∃ m, R.toInt.natAbs = m := ⟨_, rfl⟩
  rw [em] at hR k
  have eab : (ab64 R).toInt = m := by rw [ab_toInt (by omega), em]
  have main : mi_wV N d 100 23 [.ref 41, .long R, .null, .long (sg1 R), .null, .long (ab64 R), .null, .int 0, .null] [] δ Q := by
    suffices H : ∀ t, t ≤ m → ∀ δ', (∀ i, i < n → δ'.2.2 42 i = (shI n r (sg1 R) q t).1 i) → (∀ i, i < n → δ'.2.2 44 i = if (shI n r (sg1 R) q t).2 i = 0 then r i else -1) → Fr [] [] [42, 44] δ δ' → mi_wV N d 100 23 [.ref 41, .long R, .null, .long (sg1 R), .null, .long (ab64 R), .null, .int (nI t), .null] [] δ' Q ∧ ∀ x, mi_wV N d 100 23 [.ref 41, .long R, .null, .long (sg1 R), .null, .long (ab64 R), .null, .int (nI t), .int x] [] δ' Q by
      have z := (H 0 (by omega) δ h42 (fun i hi => by rw [h44 i hi]; exact (if_pos rfl).symm) (Fr.rf _ _ _ _)).1
      rwa [nI_0] at z
    intro t ht
    have e64 : ∀ t, t ≤ 8 → (Int32.toInt64 (nI t)).toInt = (t : Int) := fun t h => by rw [Int32.toInt_toInt64, nI_toInt (by omega)]
    refine up_ind (P := fun t => ∀ δ', (∀ i, i < n → δ'.2.2 42 i = (shI n r (sg1 R) q t).1 i) → (∀ i, i < n → δ'.2.2 44 i = if (shI n r (sg1 R) q t).2 i = 0 then r i else -1) → Fr [] [] [42, 44] δ δ' → mi_wV N d 100 23 [.ref 41, .long R, .null, .long (sg1 R), .null, .long (ab64 R), .null, .int (nI t), .null] [] δ' Q ∧ ∀ x, mi_wV N d 100 23 [.ref 41, .long R, .null, .long (sg1 R), .null, .long (ab64 R), .null, .int (nI t), .int x] [] δ' Q) ?_ ?_ ht
    · intro δ' g42 g44 f'
      have hF : ¬ lg_cmp (Int32.toInt64 (nI m)) (ab64 R) < 0 := fun z => by
        have z := zc_lt.mp z
        rw [Int64.lt_iff_toInt_lt, e64 m (by omega), eab] at z
        omega
      have fin : (nI m < (δ'.1 41 3) → ((lg_cmp (Int32.toInt64 (nI m)) (ab64 R) < 0 → (mi_wI N (d - 1) 101 0 [.ref 41, .null, .null] [] δ' (fun r2 δ1 => (∀ δ3 : mi_D, δ3 = mi_pl δ1 42 7 r2 ((mi_al δ1 42 r2) + (sg1 R)) → (∀ δ4 : mi_D, δ4 = mi_pl δ3 44 7 r2 (-1) → mi_wV N d 100 23 [.ref 41, .long R, .null, .long (sg1 R), .null, .long (ab64 R), .null, .int (nI m + 1), .int r2] [] δ4 Q))))) ∧ (¬ lg_cmp (Int32.toInt64 (nI m)) (ab64 R) < 0 → Q δ'))) ∧ (¬ nI m < (δ'.1 41 3) → Q δ') :=
        ⟨fun _ => ⟨fun z => absurd z hF, fun _ => k δ' g42 f'⟩, fun _ => k δ' g42 f'⟩
      exact ⟨q9_giveRest_23 (by omega) fin, fun x => q9_giveRest_23a (by omega) fin⟩
    · intro t ht ih δ' g42 g44 f'
      have hs' : δ'.1 41 3 = nI n := (f'.1 _ _ List.not_mem_nil).trans hs
      have hT : nI t < δ'.1 41 3 := by rw [hs']; exact nI_lt (by omega) (by omega)
      have hT2 : lg_cmp (Int32.toInt64 (nI t)) (ab64 R) < 0 := by
        rw [zc_lt, Int64.lt_iff_toInt_lt, e64 t (by omega), eab]
        omega
      obtain ⟨b, hb, eb, ub⟩ := (shI_ok n (by omega) r (sg1 R) q t (by omega)).2 (by omega)
      have body : mi_wI N (d - 1) 101 0 [.ref 41, .null, .null] [] δ' (fun r2 δ1 => (∀ δ3 : mi_D, δ3 = mi_pl δ1 42 7 r2 ((mi_al δ1 42 r2) + (sg1 R)) → (∀ δ4 : mi_D, δ4 = mi_pl δ3 44 7 r2 (-1) → mi_wV N d 100 23 [.ref 41, .long R, .null, .long (sg1 R), .null, .long (ab64 R), .null, .int (nI t + 1), .int r2] [] δ4 Q))) := by
        refine cc_greatest (by omega) (by omega) hs' g44 hr ⟨b, hb, eb, ub⟩ ?_
        rw [eb]
        intro δ3 e3 δ4 e4
        have e3 := add_row (show b < 7 by omega) (by omega) e3
        subst e3
        rw [pl_row _ _ _ _ (show b < 7 by omega) (by omega)] at e4
        rw [nI_1]
        have ecl : (pck r (shI n r (sg1 R) q t).2 n).toNatClampNeg = b := by rw [eb, nI_clamp (by omega)]
        have es1 : (shI n r (sg1 R) q (t + 1)).1 = up1 (shI n r (sg1 R) q t).1 b ((shI n r (sg1 R) q t).1 b + sg1 R) := by
          rw [shI_s]; unfold shF; rw [ecl]
        have es2 : (shI n r (sg1 R) q (t + 1)).2 = up1 (shI n r (sg1 R) q t).2 b 1 := by
          rw [shI_s]; unfold shF; rw [ecl]
        refine (ih δ4 (fun i hi => ?_) (fun i hi => ?_) ?_).2 _
        · rw [es1, e4, rL_l, if_neg (by decide), rL_l, if_pos rfl]
          by_cases z : i = b
          · subst z; rw [up1_s, up1_s, g42 i hi]
          · rw [up1_n _ _ z, up1_n _ _ z, g42 i hi]
        · rw [es2, e4, rL_l, if_pos rfl]
          by_cases z : i = b
          · subst z; rw [up1_s, up1_s]; exact (if_neg (by decide)).symm
          · rw [up1_n _ _ z, up1_n _ _ z, rL_l, if_neg (by decide), g44 i hi]
        · rw [e4]
          exact (f'.xL (by decide)).xL (by decide)
      exact ⟨q9_giveRest_23 (by omega) (brT hT (brT hT2 body)), fun x => q9_giveRest_23a (by omega) (brT hT (brT hT2 body))⟩
  have e0 : (0 : Int64).toInt = 0 := by decide
  refine q9_giveRest_0 (by omega) ⟨fun z => q9_giveRest_13 (by omega) (fun x1 e1 => ?_), fun z => q9_giveRest_13 (by omega) (fun x1 e1 => ?_)⟩
  · rw [ab_pos] at e1
    have e : sg1 R = -1 := if_pos (zc_lt.mp z)
    rw [e] at main
    subst e1
    exact main
  · rw [ab_pos] at e1
    have e : sg1 R = 1 := if_neg (fun y => z (zc_lt.mpr y))
    rw [e] at main
    subst e1
    exact main
theorem cc_divide (hd : 8 ≤ d) {δ : mi_D} (hn : n ≤ 7) (hs : δ.1 41 3 = nI n) (h43 : ∀ i, i < n → Int32.toInt64 (δ.2.1 43 i) = w i) (h : shOK n w a) {Q : Int32 → mi_D → Prop}
    (k0 : sumW w n = 0 → Q 0 δ) (k1 : ¬ sumW w n = 0 → ∀ δ', (∀ i, i < n → δ'.2.2 42 i = shr n w a i) → Fr [] [] [42, 44] δ δ' → Q 1 δ') : mi_wI N d 99 0 [.ref 41, .long a, .null, .null, .null, .null, .null, .null, .null, .null] [] δ Q := by
  refine q9_divide_0 (by omega) ?_
  suffices H : ∀ i, i ≤ n → mi_wI N d 99 5 [.ref 41, .long a, .null, .long (sumW w i), .null, .int (nI i), .null, .null, .null, .null] [] δ Q by
    have z := H 0 (by omega)
    rwa [nI_0] at z
  intro i hi
  refine up_ind (P := fun i => mi_wI N d 99 5 [.ref 41, .long a, .null, .long (sumW w i), .null, .int (nI i), .null, .null, .null, .null] [] δ Q) ?_ ?_ hi
  · refine q9_divide_5 (by omega) (brF (by rw [hs]; exact nI_nlt (Nat.le_refl _) (by omega)) ?_)
    rw [zc_gt]
    obtain ⟨s1, s2, _⟩ := sh_S h n (Nat.le_refl _)
    have e0 : (0 : Int64).toInt = 0 := by decide
    refine ⟨fun z => ?_, fun z => k0 ?_⟩
    · have hS : ¬ sumW w n = 0 := fun y => by rw [y] at z; exact absurd z (by decide)
      have k1 := k1 hS
      suffices H : ∀ i, i ≤ n → ∀ δ', (∀ j, j < i → δ'.2.2 42 j = quo a (sumW w n) w j) → (∀ j, j < i → δ'.2.2 44 j = rmd a (sumW w n) w j) → Fr [] [] [42, 44] δ δ' → mi_wI N d 99 47 [.ref 41, .long a, .null, .long (sumW w n), .null, .long (rstN a (sumW w n) w i), .null, .int (nI i), .null, .null] [] δ' Q ∧ ∀ x, mi_wI N d 99 47 [.ref 41, .long a, .null, .long (sumW w n), .null, .long (rstN a (sumW w n) w i), .null, .int (nI i), .long x, .null] [] δ' Q by
        have z := (H 0 (by omega) δ (fun j hj => absurd hj (Nat.not_lt_zero j)) (fun j hj => absurd hj (Nat.not_lt_zero j)) (Fr.rf _ _ _ _)).1
        rwa [nI_0] at z
      intro i hi
      refine up_ind (P := fun i => ∀ δ', (∀ j, j < i → δ'.2.2 42 j = quo a (sumW w n) w j) → (∀ j, j < i → δ'.2.2 44 j = rmd a (sumW w n) w j) → Fr [] [] [42, 44] δ δ' → mi_wI N d 99 47 [.ref 41, .long a, .null, .long (sumW w n), .null, .long (rstN a (sumW w n) w i), .null, .int (nI i), .null, .null] [] δ' Q ∧ ∀ x, mi_wI N d 99 47 [.ref 41, .long a, .null, .long (sumW w n), .null, .long (rstN a (sumW w n) w i), .null, .int (nI i), .long x, .null] [] δ' Q) ?_ ?_ hi
      · intro δ' g42 g44 f'
        have hs' : δ'.1 41 3 = nI n := (f'.1 _ _ List.not_mem_nil).trans hs
        have hF : ¬ nI n < δ'.1 41 3 := by rw [hs']; exact nI_nlt (Nat.le_refl _) (by omega)
        have body : mi_wV N (d - 1) 100 0 [.ref 41, .long (rstN a (sumW w n) w n), .null, .null, .null, .null, .null, .null, .null] [] δ' (fun δ1 => Q 1 δ1) :=
          cc_giveRest (by omega) hn hs' g42 g44 (fun i hi => rmd_nn h hS hi) (rst_le h hS) (fun δ'' g f'' => k1 δ'' g (f'.tr f''))
        exact ⟨q9_divide_47 (by omega) (brF hF body), fun x => q9_divide_47a (by omega) (brF hF body)⟩
      · intro i hi ih δ' g42 g44 f'
        have hs' : δ'.1 41 3 = nI n := (f'.1 _ _ List.not_mem_nil).trans hs
        have hT : nI i < δ'.1 41 3 := by rw [hs']; exact nI_lt hi (by omega)
        have body : ∀ x2 : Int64, x2 = (a * (Int32.toInt64 (mi_at δ' 43 (nI i)))) → (¬ sumW w n = 0 ∧ (∀ δ3 : mi_D, δ3 = mi_pl δ' 42 7 (nI i) (x2 / sumW w n) → (¬ sumW w n = 0 ∧ (∀ δ4 : mi_D, δ4 = mi_pl δ3 44 7 (nI i) (if 0 < (x2 - x2 / sumW w n * sumW w n) then (x2 - x2 / sumW w n * sumW w n) else -(x2 - x2 / sumW w n * sumW w n)) → (∀ x5 : Int64, x5 = (rstN a (sumW w n) w i - (mi_al δ4 42 (nI i))) → mi_wI N d 99 47 [.ref 41, .long a, .null, .long (sumW w n), .null, .long x5, .null, .int (nI i + 1), .long x2, .null] [] δ4 Q))))) := by
          intro x2 e2
          rw [mi_at_nI _ _ (by omega), f'.2.1 43 List.not_mem_nil, h43 i hi] at e2
          refine ⟨hS, fun δ3 e3 => ⟨hS, fun δ4 e4 x5 e5 => ?_⟩⟩
          rw [pl_row _ _ _ _ (show i < 7 by omega) (by omega)] at e3 e4
          rw [ab_pos] at e4
          have r42 : δ4.2.2 42 = up1 (δ'.2.2 42) i (quo a (sumW w n) w i) := by rw [e4, rL_l, if_neg (by decide), e3, rL_l, if_pos rfl, e2]; rfl
          have r44 : δ4.2.2 44 = up1 (δ'.2.2 44) i (rmd a (sumW w n) w i) := by rw [e4, rL_l, if_pos rfl, e3, rL_l, if_neg (by decide), e2]; rfl
          rw [mi_al_nI _ _ (by omega), r42, up1_s] at e5
          have e5' : x5 = rstN a (sumW w n) w (i + 1) := e5
          rw [e5', nI_1]
          refine (ih δ4 (fun j hj => ?_) (fun j hj => ?_) ?_).2 x2
          · rw [r42]
            by_cases y : j = i
            · subst y; exact up1_s _ _ _
            · rw [up1_n _ _ y]; exact g42 j (by omega)
          · rw [r44]
            by_cases y : j = i
            · subst y; exact up1_s _ _ _
            · rw [up1_n _ _ y]; exact g44 j (by omega)
          · rw [e4, e3]
            exact (f'.xL (by decide)).xL (by decide)
        exact ⟨q9_divide_47 (by omega) (brT hT body), fun x => q9_divide_47a (by omega) (brT hT body)⟩
    · apply Int64.toInt_inj.mp
      rw [Int64.lt_iff_toInt_lt] at z
      omega
  · intro i hi ih
    refine q9_divide_5 (by omega) (brT (by rw [hs]; exact nI_lt hi (by omega)) (fun x1 e1 => ?_))
    rw [mi_at_nI _ _ (by omega), h43 i hi] at e1
    have e1' : x1 = sumW w (i + 1) := e1
    rw [e1', nI_1]
    exact ih
end CSH
