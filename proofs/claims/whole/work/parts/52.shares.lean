/-! SHARES: what they come to -/
def ab64 (r : Int64) : Int64 := if r < 0 then -r else r
theorem ab_pos (r : Int64) : (if 0 < r then r else -r) = ab64 r := by
  unfold ab64
  have e0 : (0 : Int64).toInt = 0 := by decide
  by_cases h : r < 0
  · rw [if_pos h, if_neg (fun q => by rw [Int64.lt_iff_toInt_lt] at *; omega)]
  · rw [if_neg h]
    by_cases h2 : 0 < r
    · rw [if_pos h2]
    · rw [if_neg h2]
      have hz : r = 0 := by
        apply Int64.toInt_inj.mp
        rw [Int64.lt_iff_toInt_lt] at h h2
        omega
      rw [hz]
      decide
def sumW (w : Nat → Int64) : Nat → Int64 := itN (fun i t => t + w i) 0
def quo (a S : Int64) (w : Nat → Int64) (i : Nat) : Int64 := a * w i / S
def rmd (a S : Int64) (w : Nat → Int64) (i : Nat) : Int64 := ab64 (a * w i - a * w i / S * S)
def rstN (a S : Int64) (w : Nat → Int64) : Nat → Int64 := itN (fun i t => t - quo a S w i) a
def pck (r : Nat → Int64) (u : Nat → Int32) : Nat → Int32
  | 0 => -1
  | n + 1 => if u n = 0 ∧ (pck r u n < 0 ∨ r (pck r u n).toNatClampNeg < r n) then nI n else pck r u n
def shF (n : Nat) (r : Nat → Int64) (one : Int64) (x : (Nat → Int64) × (Nat → Int32)) : (Nat → Int64) × (Nat → Int32) :=
  (up1 x.1 (pck r x.2 n).toNatClampNeg (x.1 (pck r x.2 n).toNatClampNeg + one), up1 x.2 (pck r x.2 n).toNatClampNeg 1)
def shI (n : Nat) (r : Nat → Int64) (one : Int64) (q : Nat → Int64) : Nat → (Nat → Int64) × (Nat → Int32) := itN (fun _ x => shF n r one x) (q, fun _ => 0)
def sg1 (x : Int64) : Int64 := if x < 0 then -1 else 1
def shr (n : Nat) (w : Nat → Int64) (a : Int64) : Nat → Int64 :=
  (shI n (rmd a (sumW w n) w) (sg1 (rstN a (sumW w n) w n)) (quo a (sumW w n) w) (rstN a (sumW w n) w n).toInt.natAbs).1
def shOK (n : Nat) (w : Nat → Int64) (a : Int64) : Prop := n ≤ 8 ∧ (∀ i, i < n → ¬ w i < 0 ∧ ¬ 1000 < w i) ∧ wtn a 1000000000000000
theorem i64_bm {x : Int} (h1 : -9223372036854775808 ≤ x) (h2 : x < 9223372036854775808) : x.bmod (2 ^ 64) = x := Int.bmod_eq_of_le (by show -((18446744073709551616 : Nat) / 2 : Int) ≤ x; omega) (by show x < ((18446744073709551616 : Nat) + 1 : Int) / 2; omega)
theorem i64_add {x y : Int64} (h1 : -9223372036854775808 ≤ x.toInt + y.toInt) (h2 : x.toInt + y.toInt < 9223372036854775808) : (x + y).toInt = x.toInt + y.toInt := by rw [Int64.toInt_add, i64_bm h1 h2]
theorem i64_sub {x y : Int64} (h1 : -9223372036854775808 ≤ x.toInt - y.toInt) (h2 : x.toInt - y.toInt < 9223372036854775808) : (x - y).toInt = x.toInt - y.toInt := by rw [Int64.toInt_sub, i64_bm h1 h2]
theorem i64_mul {x y : Int64} (h1 : -9223372036854775808 ≤ x.toInt * y.toInt) (h2 : x.toInt * y.toInt < 9223372036854775808) : (x * y).toInt = x.toInt * y.toInt := by rw [Int64.toInt_mul, i64_bm h1 h2]
theorem i64_neg {x : Int64} (h : -9223372036854775808 < x.toInt) : (-x).toInt = -x.toInt := by
  rw [Int64.toInt_neg, i64_bm]
  · have := Int64.toInt_lt x; omega
  · omega
section SHM
variable {n : Nat} {w : Nat → Int64} {a : Int64}
theorem sh_A (h : shOK n w a) : -1000000000000000 ≤ a.toInt ∧ a.toInt ≤ 1000000000000000 := by
  obtain ⟨h1, h2⟩ := h.2.2
  rw [Int64.lt_iff_toInt_lt] at h1 h2
  have e1 : (-1000000000000000 : Int64).toInt = -1000000000000000 := by decide
  have e2 : (1000000000000000 : Int64).toInt = 1000000000000000 := by decide
  omega
theorem sh_W (h : shOK n w a) {i : Nat} (hi : i < n) : 0 ≤ (w i).toInt ∧ (w i).toInt ≤ 1000 := by
  obtain ⟨h1, h2⟩ := h.2.1 i hi
  rw [Int64.lt_iff_toInt_lt] at h1 h2
  have e1 : (0 : Int64).toInt = 0 := by decide
  have e2 : (1000 : Int64).toInt = 1000 := by decide
  omega
theorem sh_S (h : shOK n w a) : ∀ j, j ≤ n → 0 ≤ (sumW w j).toInt ∧ (sumW w j).toInt ≤ 1000 * j ∧ (j < n → (sumW w (j + 1)).toInt = (sumW w j).toInt + (w j).toInt) := by
  intro j
  have h8 := h.1
  induction j with
  | zero =>
    intro hj
    have e0 : (sumW w 0).toInt = 0 := by show (0 : Int64).toInt = 0; decide
    refine ⟨by omega, by omega, fun hn => ?_⟩
    have := sh_W h hn
    show (sumW w 0 + w 0).toInt = _
    exact i64_add (by omega) (by omega)
  | succ j ih =>
    intro hj
    obtain ⟨i1, i2, i3⟩ := ih (by omega)
    have e := i3 (by omega)
    have := sh_W h (show j < n by omega)
    refine ⟨by omega, by omega, fun hn => ?_⟩
    have := sh_W h hn
    show (sumW w (j + 1) + w (j + 1)).toInt = _
    exact i64_add (by omega) (by omega)
theorem sh_x (h : shOK n w a) {i : Nat} (hi : i < n) : (a * w i).toInt = a.toInt * (w i).toInt ∧ -1000000000000000000 ≤ a.toInt * (w i).toInt ∧ a.toInt * (w i).toInt ≤ 1000000000000000000 := by
  have hA := sh_A h
  have hW := sh_W h hi
  have u1 := Int.mul_le_mul_of_nonneg_right hA.2 hW.1
  have u2 := Int.mul_le_mul_of_nonneg_right hA.1 hW.1
  have b : -1000000000000000000 ≤ a.toInt * (w i).toInt ∧ a.toInt * (w i).toInt ≤ 1000000000000000000 := by omega
  exact ⟨i64_mul (by omega) (by omega), b⟩
theorem sh_q (h : shOK n w a) (hS : ¬ sumW w n = 0) {i : Nat} (hi : i < n) : ∃ q m : Int, (quo a (sumW w n) w i).toInt = q ∧ (sumW w n).toInt * q + m = a.toInt * (w i).toInt ∧ -(sumW w n).toInt < m ∧ m < (sumW w n).toInt ∧ -1000000000000000000 ≤ q ∧ q ≤ 1000000000000000000 ∧ (a * w i - a * w i / sumW w n * sumW w n).toInt = m := by
  obtain ⟨x1, x2, x3⟩ := sh_x h hi
  obtain ⟨s1, s2, _⟩ := sh_S h n (Nat.le_refl _)
  have h8 := h.1
  have s3 : 0 < (sumW w n).toInt := by
    rcases Int.lt_or_eq_of_le s1 with z | z
    · exact z
    · exact absurd (Int64.toInt_inj.mp (z.symm.trans (by decide : (0 : Int) = (0 : Int64).toInt))) hS
  have hne : sumW w n ≠ -1 := fun q => by
    rw [q] at s3
    exact absurd s3 (by decide)
  have eq : (quo a (sumW w n) w i).toInt = (a.toInt * (w i).toInt).tdiv (sumW w n).toInt := by
    unfold quo
    rw [Int64.toInt_div_of_ne_right _ _ hne, x1]
  have t1 := Int.mul_tdiv_add_tmod (a.toInt * (w i).toInt) (sumW w n).toInt
  have t2 := Int.tmod_lt_of_pos (a.toInt * (w i).toInt) s3
  have t3 := Int.lt_tmod_of_pos (a.toInt * (w i).toInt) s3
  have t4 := Int.natAbs_tdiv_le_natAbs (a.toInt * (w i).toInt) (sumW w n).toInt
  refine ⟨_, _, eq, t1, t3, t2, by omega, by omega, ?_⟩
  have e2 : (a * w i / sumW w n * sumW w n).toInt = a.toInt * (w i).toInt - (a.toInt * (w i).toInt).tmod (sumW w n).toInt := by
    have eq' : (a * w i / sumW w n).toInt = (a.toInt * (w i).toInt).tdiv (sumW w n).toInt := eq
    have em : (a.toInt * (w i).toInt).tdiv (sumW w n).toInt * (sumW w n).toInt = (sumW w n).toInt * (a.toInt * (w i).toInt).tdiv (sumW w n).toInt := Int.mul_comm _ _
    rw [i64_mul (by rw [eq']; omega) (by rw [eq']; omega), eq']
    omega
  rw [i64_sub (by rw [e2, x1]; omega) (by rw [e2, x1]; omega), e2, x1]
  omega
theorem rmd_nn (h : shOK n w a) (hS : ¬ sumW w n = 0) {i : Nat} (hi : i < n) : (-1 : Int64) < rmd a (sumW w n) w i := by
  obtain ⟨q, m, _, _, h1, h2, _, _, e⟩ := sh_q h hS hi
  obtain ⟨s1, s2, _⟩ := sh_S h n (Nat.le_refl _)
  have h8 := h.1
  have e0 : (0 : Int64).toInt = 0 := by decide
  have e1 : (-1 : Int64).toInt = -1 := by decide
  unfold rmd ab64
  rw [Int64.lt_iff_toInt_lt]
  by_cases hz : a * w i - a * w i / sumW w n * sumW w n < 0
  · have en := i64_neg (x := a * w i - a * w i / sumW w n * sumW w n) (by rw [e]; omega)
    rw [if_pos hz, en, e]
    rw [Int64.lt_iff_toInt_lt, e] at hz
    omega
  · rw [if_neg hz, e]
    rw [Int64.lt_iff_toInt_lt, e] at hz
    omega
theorem rst_le (h : shOK n w a) (hS : ¬ sumW w n = 0) : (rstN a (sumW w n) w n).toInt.natAbs ≤ n := by
  obtain ⟨s1, s2, _⟩ := sh_S h n (Nat.le_refl _)
  have h8 := h.1
  have hA := sh_A h
  have s3 : 0 < (sumW w n).toInt := by
    rcases Int.lt_or_eq_of_le s1 with z | z
    · exact z
    · exact absurd (Int64.toInt_inj.mp (z.symm.trans (by decide : (0 : Int) = (0 : Int64).toInt))) hS
  obtain ⟨S, eS⟩ : ∃ S, (sumW w n).toInt = S := ⟨_, rfl⟩
  have key : ∀ j : Nat, j ≤ n → -(1000000000000000 + 1000000000000000000 * j) ≤ (rstN a (sumW w n) w j).toInt ∧ (rstN a (sumW w n) w j).toInt ≤ 1000000000000000 + 1000000000000000000 * j ∧ -(S * j) ≤ S * (rstN a (sumW w n) w j).toInt - (a.toInt * S - a.toInt * (sumW w j).toInt) ∧ S * (rstN a (sumW w n) w j).toInt - (a.toInt * S - a.toInt * (sumW w j).toInt) ≤ S * j := by
    intro j
    induction j with
    | zero =>
      intro _
      have e0 : (sumW w 0).toInt = 0 := by show (0 : Int64).toInt = 0; decide
      have e1 : (rstN a (sumW w n) w 0).toInt = a.toInt := rfl
      rw [e0, e1, Int.mul_comm S a.toInt]
      refine ⟨by omega, by omega, ?_, ?_⟩ <;> simp
    | succ j ih =>
      intro hj
      obtain ⟨i1, i2, i3, i4⟩ := ih (by omega)
      obtain ⟨q, m, e1, e2, e3, e4, e5, e6, _⟩ := sh_q h hS (show j < n by omega)
      have e7 := (sh_S h j (by omega)).2.2 (by omega)
      have er : (rstN a (sumW w n) w (j + 1)).toInt = (rstN a (sumW w n) w j).toInt - q := by
        show (rstN a (sumW w n) w j - quo a (sumW w n) w j).toInt = _
        rw [i64_sub (by omega) (by omega), e1]
      rw [er, e7, Int.mul_sub, Int.mul_add]
      rw [eS] at e2 e3 e4
      have ej : S * ((j + 1 : Nat) : Int) = S * (j : Int) + S := by rw [Int.natCast_add, Int.mul_add]; simp
      rw [ej]
      refine ⟨by omega, by omega, by omega, by omega⟩
  obtain ⟨_, _, k3, k4⟩ := key n (Nat.le_refl _)
  rw [eS] at k3 k4 s3
  obtain ⟨R, eR⟩ : ∃ R, (rstN a (sumW w n) w n).toInt = R := ⟨_, rfl⟩
  rw [eR] at k3 k4 ⊢
  rcases Int.lt_or_le (n : Int) R with z | z
  · have := Int.mul_le_mul_of_nonneg_left (show (n : Int) + 1 ≤ R by omega) (Int.le_of_lt s3)
    rw [Int.mul_add] at this
    omega
  · rcases Int.lt_or_le R (-(n : Int)) with y | y
    · have := Int.mul_le_mul_of_nonneg_left (show R + 1 ≤ -(n : Int) by omega) (Int.le_of_lt s3)
      rw [Int.mul_add, Int.mul_neg] at this
      omega
    · omega
end SHM
theorem pck_sp (r : Nat → Int64) (u : Nat → Int32) (j : Nat) (hj : j < 2 ^ 31) : (pck r u j = -1 ∧ ∀ i, i < j → ¬ u i = 0) ∨ ∃ b, b < j ∧ pck r u j = nI b ∧ u b = 0 := by
  induction j with
  | zero => exact Or.inl ⟨rfl, fun i hi => absurd hi (Nat.not_lt_zero i)⟩
  | succ j ih =>
    have e : pck r u (j + 1) = if u j = 0 ∧ (pck r u j < 0 ∨ r (pck r u j).toNatClampNeg < r j) then nI j else pck r u j := rfl
    by_cases h : u j = 0 ∧ (pck r u j < 0 ∨ r (pck r u j).toNatClampNeg < r j)
    · rw [if_pos h] at e
      exact Or.inr ⟨j, by omega, e, h.1⟩
    · rw [if_neg h] at e
      rcases ih (by omega) with ⟨z, z2⟩ | ⟨b, hb, z, z2⟩
      · refine Or.inl ⟨e.trans z, fun i hi => ?_⟩
        rcases Nat.lt_or_eq_of_le (Nat.lt_succ_iff.mp hi) with q | q
        · exact z2 i q
        · subst q
          exact fun y => h ⟨y, Or.inl (by rw [z]; decide)⟩
      · exact Or.inr ⟨b, by omega, e.trans z, z2⟩
/-- how many are used -/
def cu (u : Nat → Int32) : Nat → Nat
  | 0 => 0
  | n + 1 => if u n = 0 then cu u n else cu u n + 1
theorem cu_free (u : Nat → Int32) (n : Nat) (h : cu u n < n) : ∃ i, i < n ∧ u i = 0 := by
  induction n with
  | zero => exact absurd h (Nat.not_lt_zero _)
  | succ n ih =>
    by_cases q : u n = 0
    · exact ⟨n, by omega, q⟩
    · have e : cu u (n + 1) = cu u n + 1 := if_neg q
      obtain ⟨i, hi, z⟩ := ih (by omega)
      exact ⟨i, by omega, z⟩
theorem cu_up (u : Nat → Int32) (n b : Nat) (hu : u b = 0) : cu (up1 u b 1) n = if b < n then cu u n + 1 else cu u n := by
  induction n with
  | zero => rfl
  | succ n ih =>
    have e : cu u (n + 1) = if u n = 0 then cu u n else cu u n + 1 := rfl
    have e2 : cu (up1 u b 1) (n + 1) = if up1 u b 1 n = 0 then cu (up1 u b 1) n else cu (up1 u b 1) n + 1 := rfl
    by_cases q : n = b
    · subst q
      rw [up1_s, if_neg (by decide), ih, if_neg (Nat.lt_irrefl _)] at e2
      rw [if_pos hu] at e
      rw [e2, if_pos (Nat.lt_succ_self _), e]
    · rw [up1_n _ _ q, ih] at e2
      rw [e2, e]
      by_cases z : u n = 0
      · rw [if_pos z, if_pos z]
        by_cases y : b < n
        · rw [if_pos y, if_pos (by omega)]
        · rw [if_neg y, if_neg (by omega)]
      · rw [if_neg z, if_neg z]
        by_cases y : b < n
        · rw [if_pos y, if_pos (by omega)]
        · rw [if_neg y, if_neg (by omega)]
theorem shI_s (n : Nat) (r : Nat → Int64) (one : Int64) (q : Nat → Int64) (t : Nat) : shI n r one q (t + 1) = shF n r one (shI n r one q t) := rfl
theorem shI_ok (n : Nat) (hn : n ≤ 8) (r : Nat → Int64) (one : Int64) (q : Nat → Int64) : ∀ t, t ≤ n → cu (shI n r one q t).2 n = t ∧ (t < n → ∃ b, b < n ∧ pck r (shI n r one q t).2 n = nI b ∧ (shI n r one q t).2 b = 0) := by
  intro t
  have fr : ∀ u : Nat → Int32, cu u n < n → ∃ b, b < n ∧ pck r u n = nI b ∧ u b = 0 := by
    intro u h
    obtain ⟨i, hi, z⟩ := cu_free u n h
    rcases pck_sp r u n (by omega) with ⟨_, y⟩ | y
    · exact absurd z (y i hi)
    · exact y
  induction t with
  | zero =>
    intro _
    have e : cu (shI n r one q 0).2 n = 0 := by
      show cu (fun _ => 0) n = 0
      clear fr hn
      induction n with
      | zero => rfl
      | succ n ih => show (if (0 : Int32) = 0 then cu (fun _ => 0) n else _) = 0; rw [if_pos rfl]; exact ih (Nat.zero_le _)
    exact ⟨e, fun h => fr _ (by omega)⟩
  | succ t ih =>
    intro ht
    obtain ⟨i1, i2⟩ := ih (by omega)
    obtain ⟨b, hb, e1, e2⟩ := i2 (by omega)
    have e : cu (shI n r one q (t + 1)).2 n = t + 1 := by
      rw [shI_s]
      show cu (up1 (shI n r one q t).2 (pck r (shI n r one q t).2 n).toNatClampNeg 1) n = _
      rw [e1, nI_clamp (by omega), cu_up _ _ _ e2, if_pos hb, i1]
    exact ⟨e, fun h => fr _ (by omega)⟩
