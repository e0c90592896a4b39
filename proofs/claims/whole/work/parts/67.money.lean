/-! the sheet: bytes, money -/
/-- a row with bytes written from its start, as far as it goes -/
def sbr (f : Nat → Int32) (B : List Int32) : Nat → Int32 := fun j => if j < 4000 then B.getD j (f j) else f j
theorem sbr_nil (f : Nat → Int32) : sbr f [] = f := funext fun j => by
  unfold sbr
  split
  · rfl
  · rfl
theorem sbr_s (f : Nat → Int32) (B : List Int32) (v : Int32) : sbr f (B ++ [v]) = if B.length < 4000 then up1 (sbr f B) B.length v else sbr f B := by
  by_cases h : B.length < 4000
  · rw [if_pos h]
    funext j
    unfold sbr up1
    by_cases e : j = B.length
    · subst e
      rw [if_pos h, if_pos rfl, List.getD_eq_getElem?_getD, List.getElem?_append_right (Nat.le_refl _), Nat.sub_self]
      rfl
    · rw [if_neg e]
      show (if j < 4000 then (B ++ [v]).getD j (f j) else f j) = (if j < 4000 then B.getD j (f j) else f j)
      rw [List.getD_eq_getElem?_getD, List.getD_eq_getElem?_getD]
      rcases Nat.lt_or_ge j B.length with q | q
      · rw [List.getElem?_append_left q]
      · rw [List.getElem?_append_right q, List.getElem?_eq_none (show B.length ≤ j from q), List.getElem?_eq_none (show [v].length ≤ j - B.length by rw [List.length_singleton]; omega)]
  · rw [if_neg h]
    funext j
    unfold sbr
    by_cases e : j < 4000
    · rw [if_pos e, if_pos e, List.getD_eq_getElem?_getD, List.getD_eq_getElem?_getD, List.getElem?_append_left (by omega)]
    · rw [if_neg e, if_neg e]
/-- the bytes so far: in the program, in the model -/
def Sp (δ : mi_D) (f : Nat → Int32) (B : List Int32) : Prop := δ.1 45 3 = nI B.length ∧ δ.2.1 46 = sbr f B
def Sm (δ : mi_D) (f : Nat → Int32) (B : List Int32) : Prop := δ.1 48 36 = nI B.length ∧ δ.2.1 72 = sbr f B
theorem Sp.fr {fs : List (Nat × Nat)} {as ls : List Nat} {δ δ' : mi_D} {f : Nat → Int32} {B : List Int32} (h : Sp δ f B) (k : Fr fs as ls δ δ') (h1 : (45, 3) ∉ fs) (h2 : 46 ∉ as) : Sp δ' f B := ⟨(k.1 _ _ h1).trans h.1, (k.2.1 _ h2).trans h.2⟩
theorem Sm.fr {fs : List (Nat × Nat)} {as ls : List Nat} {δ δ' : mi_D} {f : Nat → Int32} {B : List Int32} (h : Sm δ f B) (k : Fr fs as ls δ δ') (h1 : (48, 36) ∉ fs) (h2 : 72 ∉ as) : Sm δ' f B := ⟨(k.1 _ _ h1).trans h.1, (k.2.1 _ h2).trans h.2⟩
section SPUT
variable {N d : Nat} {δ : mi_D} {f : Nat → Int32} {B : List Int32}
theorem cc_sput (hd : 5 ≤ d) (X : Sp δ f B) (hB : B.length < 2 ^ 30) {v : Int32} {Q : mi_D → Prop} (k : ∀ δ', Sp δ' f (B ++ [v]) → Fr [(45, 3)] [46] [] δ δ' → Q δ') : mi_wV N d 111 0 [.ref 45, .int v] [] δ Q := by
  refine q10_put_0 hd (fun δ1 e1 δ2 e2 => ?_)
  rw [X.1] at e1
  have f1 : δ1.1 45 3 = nI B.length := by rw [e1]; unfold mi_pt; split <;> exact X.1
  have r1 : δ1.2.1 46 = sbr f (B ++ [v]) := by
    rw [sbr_s, e1]
    by_cases h : B.length < 4000
    · rw [if_pos h, pt_row _ _ _ _ h (by omega), rA_a, if_pos rfl, X.2]
    · rw [if_neg h]
      unfold mi_pt
      rw [if_pos (Or.inr (by rw [nI_clamp (by omega)]; omega))]
      exact X.2
  refine k δ2 ⟨?_, ?_⟩ ?_
  · rw [e2, pI_f, if_pos ⟨rfl, rfl⟩, f1, List.length_append, List.length_singleton, nI_1]
  · rw [e2, pI_a]; exact r1
  · subst e2 e1
    exact (Fr.pt (by decide)).tr (Fr.setI (by decide))
theorem cm_sput (hd : 5 ≤ d) (X : Sm δ f B) (hB : B.length < 2 ^ 30) {v : Int32} {Q : mi_D → Prop} (k : ∀ δ', Sm δ' f (B ++ [v]) → Fr [(48, 36)] [72] [] δ δ' → Q δ') : mi_wV N d 201 0 [.ref 48, .int v] [] δ Q := by
  have fin : ∀ δ1, δ1.1 48 36 = nI B.length → δ1.2.1 72 = sbr f (B ++ [v]) → Fr [(48, 36)] [72] [] δ δ1 → mi_wV N d 201 20 [.ref 48, .int v] [] δ1 Q := by
    intro δ1 f1 r1 F1
    refine q12_put_20 hd (fun δ2 e2 => k δ2 ⟨?_, ?_⟩ ?_)
    · rw [e2, pI_f, if_pos ⟨rfl, rfl⟩, f1, List.length_append, List.length_singleton, nI_1]
    · rw [e2, pI_a]; exact r1
    · subst e2
      exact F1.tr (Fr.setI (by decide))
  refine q12_put_0 hd ?_
  rw [X.1]
  have hh : nI B.length < 4000 ↔ B.length < 4000 := nI_ltI (b := 4000) (by omega) (by omega)
  refine ⟨fun h => ?_, fun h => ?_⟩
  · have h' := hh.mp h
    rw [nI_clamp (by omega)]
    refine ⟨mi_ix_nI h' (by omega), fun δ1 e1 => fin δ1 ?_ ?_ ?_⟩
    · rw [e1]; exact X.1
    · rw [sbr_s, if_pos h', e1, pA_a, if_pos rfl, X.2]
    · subst e1; exact Fr.setA (by decide)
  · have h' : ¬ B.length < 4000 := fun q => h (hh.mpr q)
    exact fin δ X.1 (by rw [sbr_s, if_neg h']; exact X.2) (Fr.rf _ _ _ _)
end SPUT
/-! money -/
def lft (v : Int64) : Nat → Int64
  | 0 => ab64 v
  | n + 1 => lft v n / 10
def dgt (v : Int64) (n : Nat) : Int32 := Int64.toInt32 (lft v n - lft v n / 10 * 10)
abbrev more (v : Int64) (n : Nat) : Prop := n < 3 ∨ 0 < lft v n
def ndx (v : Int64) : Nat → Nat → Nat
  | 0, n => n
  | k + 1, n => if more v n then ndx v k (n + 1) else n
def ndg (v : Int64) : Nat := ndx v 19 0
theorem lft_le (v : Int64) (n : Nat) : (lft v n).toInt ≤ 9223372036854775807 / (10 : Int) ^ n := by
  induction n with
  | zero =>
    have := Int64.toInt_lt (lft v 0)
    rw [Int.pow_zero, Int.ediv_one]
    omega
  | succ n ih =>
    have hne : (10 : Int64) ≠ -1 := by decide
    have e10 : (10 : Int64).toInt = 10 := by decide
    show (lft v n / 10).toInt ≤ _
    rw [Int64.toInt_div_of_ne_right _ _ hne, e10, Int.pow_succ, ← Int.ediv_ediv_of_nonneg (Int.le_of_lt (Int.pow_pos (by omega)))]
    obtain ⟨x, ex⟩ : ∃ x, (9223372036854775807 : Int) / 10 ^ n = x := ⟨_, rfl⟩
    obtain ⟨y, ey⟩ : ∃ y, (lft v n).toInt = y := ⟨_, rfl⟩
    have hx : 0 ≤ x := by rw [← ex]; exact Int.ediv_nonneg (by omega) (Int.le_of_lt (Int.pow_pos (by omega)))
    rw [ex, ey] at ih
    rw [ex, ey]
    rcases Int.le_total 0 y with q | q
    · rw [Int.tdiv_eq_ediv_of_nonneg q]
      omega
    · have : y.tdiv 10 = -((-y).tdiv 10) := by rw [Int.neg_tdiv, Int.neg_neg]
      rw [this, Int.tdiv_eq_ediv_of_nonneg (by omega)]
      omega
theorem lft_19 (v : Int64) {n : Nat} (hn : 19 ≤ n) : ¬ 0 < lft v n := by
  intro h
  have h1 := lft_le v 19
  have h2 : (9223372036854775807 : Int) / 10 ^ 19 = 0 := by decide
  rw [h2] at h1
  have h3 : ∀ m, (lft v (19 + m)).toInt ≤ 0 := by
    intro m
    have h1 := lft_le v (19 + m)
    rw [Int.pow_add, ← Int.ediv_ediv_of_nonneg (Int.le_of_lt (Int.pow_pos (by omega))), h2, Int.zero_ediv] at h1
    exact h1
  have := h3 (n - 19)
  rw [show 19 + (n - 19) = n by omega] at this
  rw [Int64.lt_iff_toInt_lt] at h
  have e0 : (0 : Int64).toInt = 0 := by decide
  omega
theorem ndx_ok (v : Int64) : ∀ k n, n ≤ ndx v k n ∧ ndx v k n ≤ n + k ∧ (∀ i, n ≤ i → i < ndx v k n → more v i) ∧ (ndx v k n < n + k → ¬ more v (ndx v k n)) := by
  intro k
  induction k with
  | zero => intro n; exact ⟨Nat.le_refl _, Nat.le_refl _, fun i h1 h2 => absurd h2 (Nat.not_lt.mpr h1), fun h => absurd h (Nat.lt_irrefl _)⟩
  | succ k ih =>
    intro n
    obtain ⟨i1, i2, i3, i4⟩ := ih (n + 1)
    by_cases h : more v n
    · have e : ndx v (k + 1) n = ndx v k (n + 1) := if_pos h
      rw [e]
      refine ⟨by omega, by omega, fun i h1 h2 => ?_, fun q => i4 (by omega)⟩
      by_cases z : i = n
      · subst z; exact h
      · exact i3 i (by omega) h2
    · have e : ndx v (k + 1) n = n := if_neg h
      rw [e]
      exact ⟨Nat.le_refl _, by omega, fun i h1 h2 => absurd h2 (Nat.not_lt.mpr h1), fun _ => h⟩
theorem ndg_ok (v : Int64) : 3 ≤ ndg v ∧ ndg v ≤ 19 ∧ (∀ i, i < ndg v → more v i) ∧ ¬ 0 < lft v (ndg v) := by
  obtain ⟨h1, h2, h3, h4⟩ := ndx_ok v 19 0
  have e : ndx v 19 0 = ndg v := rfl
  rw [e] at h1 h2 h3 h4
  have hh : ¬ more v (ndg v) := by
    by_cases z : ndg v < 0 + 19
    · exact h4 z
    · have z' : ndg v = 19 := by omega
      rw [z']
      exact fun q => q.elim (fun y => by omega) (lft_19 v (Nat.le_refl _))
  refine ⟨?_, by omega, fun i hi => h3 i (Nat.zero_le _) hi, fun q => hh (Or.inr q)⟩
  rcases Nat.lt_or_ge (ndg v) 3 with q | q
  · exact absurd (Or.inl q) hh
  · exact q
abbrev cma (i : Nat) : Prop := (nI i - 2) - (nI i - 2) / 3 * 3 = 0
/-- the figures from the place below i on -/
def mb (v : Int64) : Nat → List Int32
  | 0 => []
  | i + 1 => (48 + dgt v i) :: (if i = 2 then 46 :: mb v i else if 2 < i ∧ cma i then 44 :: mb v i else mb v i)
def mnB (v : Int64) : List Int32 := if v < 0 then 45 :: mb v (ndg v) else mb v (ndg v)
theorem mb_len (v : Int64) (i : Nat) : (mb v i).length ≤ 2 * i := by
  induction i with
  | zero => exact Nat.le_refl _
  | succ i ih =>
    unfold mb
    split
    · simp only [List.length_cons]; omega
    · split
      · simp only [List.length_cons]; omega
      · simp only [List.length_cons]; omega
theorem mnB_len (v : Int64) : (mnB v).length ≤ 39 := by
  have h := mb_len v (ndg v)
  have h2 := (ndg_ok v).2.1
  unfold mnB
  split
  · rw [List.length_cons]; omega
  · omega
section MONEY
variable {N d : Nat} {δ : mi_D} {f : Nat → Int32} {B : List Int32}
theorem app_c (B : List Int32) (v : Int32) (L : List Int32) : B ++ (v :: L) = (B ++ [v]) ++ L := by rw [List.append_assoc]; rfl
theorem cc_putMoney (hd : 6 ≤ d) (X : Sp δ f B) (hB : B.length + 39 < 2 ^ 30) {v : Int64} {Q : mi_D → Prop} (k : ∀ δ', Sp δ' f (B ++ mnB v) → Fr [(45, 3)] [46, 47] [] δ δ' → Q δ') : mi_wV N d 110 0 [.ref 45, .long v, .null, .null, .null, .null, .null] [] δ Q := by
  obtain ⟨m3, m19, mM, mE⟩ := ndg_ok v
  suffices H : ∀ δ1 B1, Sp δ1 f B1 → B1.length + 38 < 2 ^ 30 → (∀ δ', Sp δ' f (B1 ++ mb v (ndg v)) → Fr [(45, 3)] [46, 47] [] δ1 δ' → Q δ') → mi_wV N d 110 12 [.ref 45, .long v, .null, .null, .null, .null, .null] [] δ1 Q by
    unfold mnB at k
    refine q10_putMoney_0 (by omega) ⟨fun h => ?_, fun h => ?_⟩
    · rw [if_pos (zc_lt.mp h)] at k
      refine cc_sput (by omega) X (by omega) (fun δ1 X1 f1 => H δ1 _ X1 (by rw [List.length_append, List.length_singleton]; omega) (fun δ' X' f' => k δ' ?_ ?_))
      · rw [app_c]; exact X'
      · exact (f1.wk (by decide) (by decide) (by decide)).tr f'
    · rw [if_neg (fun q => h (zc_lt.mpr q))] at k
      exact H δ B X (by omega) k
  intro δ1 B1 X1 hB1 k1
  refine q10_putMoney_12 (by omega) (fun x1 e1 => ?_)
  rw [ab_pos] at e1
  have e1' : x1 = lft v 0 := e1
  subst e1'
  -- the figures out
  have outp : ∀ δ2, Sp δ2 f B1 → (∀ i, i < ndg v → δ2.2.1 47 i = dgt v i) → Fr [(45, 3)] [46, 47] [] δ1 δ2 → ∀ a b, mi_wV N d 110 72 [.ref 45, .long v, .null, .long a, .null, .int b, .int (nI (ndg v) - 1)] [] δ2 Q := by
    intro δ2 X2 h47 F2 a b
    suffices HO : ∀ i, i ≤ ndg v → ∀ δ3 B3, Sp δ3 f B3 → (∀ j, j < ndg v → δ3.2.1 47 j = dgt v j) → B3.length + 2 * i < 2 ^ 30 → (∀ δ', Sp δ' f (B3 ++ mb v i) → Fr [(45, 3)] [46, 47] [] δ3 δ' → Q δ') → mi_wV N d 110 72 [.ref 45, .long v, .null, .long a, .null, .int b, .int (nI i - 1)] [] δ3 Q by
      exact HO _ (Nat.le_refl _) δ2 B1 X2 h47 (by omega) (fun δ' X' F' => k1 δ' X' (F2.tr F'))
    intro i
    induction i with
    | zero =>
      intro _ δ3 B3 X3 h47 hB3 k3
      rw [nI_0]
      refine q10_putMoney_72 (by omega) (brT (by decide) (k3 δ3 ?_ (Fr.rf _ _ _ _)))
      show Sp δ3 f (B3 ++ [])
      rw [List.append_nil]
      exact X3
    | succ i ih =>
      intro hi δ3 B3 X3 h47 hB3 k3
      rw [nI_pred]
      have em : nI i + -1 = nI i - 1 := by rw [Int32.sub_eq_add_neg]
      refine q10_putMoney_72 (by omega) (brF (nI_pos (by omega)) ?_)
      rw [mi_at_nI _ _ (by omega), h47 i (by omega), em]
      have h2 : nI i = 2 ↔ i = 2 := nI_eq (b := 2) (by omega) (by omega)
      have h2l : 2 < nI i ↔ 2 < i := nI_ltI (a := 2) (by omega) (by omega)
      refine cc_sput (by omega) X3 (by omega) (fun δ4 X4 f4 => ?_)
      have h47' : ∀ j, j < ndg v → δ4.2.1 47 j = dgt v j := fun j hj => by rw [f4.2.1 47 (by decide)]; exact h47 j hj
      have F4 : Fr [(45, 3)] [46, 47] [] δ3 δ4 := f4.wk (by decide) (by decide) (by decide)
      have two : ∀ w, mb v (i + 1) = (48 + dgt v i) :: w :: mb v i → mi_wV N (d - 1) 111 0 [.ref 45, .int w] [] δ4 (fun δ2 => mi_wV N d 110 72 [.ref 45, .long v, .null, .long a, .null, .int b, .int (nI i - 1)] [] δ2 Q) := by
        intro w ew
        rw [ew, app_c, app_c] at k3
        refine cc_sput (by omega) X4 (by rw [List.length_append, List.length_singleton]; omega) (fun δ5 X5 f5 => ih (by omega) δ5 _ X5 (fun j hj => by rw [f5.2.1 47 (by decide)]; exact h47' j hj) (by simp only [List.length_append, List.length_singleton]; omega) (fun δ' X' F' => k3 δ' X' (F4.tr ((f5.wk (by decide) (by decide) (by decide)).tr F'))))
      have one : mb v (i + 1) = (48 + dgt v i) :: mb v i → mi_wV N d 110 72 [.ref 45, .long v, .null, .long a, .null, .int b, .int (nI i - 1)] [] δ4 Q := by
        intro ew
        rw [ew, app_c] at k3
        exact ih (by omega) δ4 _ X4 h47' (by simp only [List.length_append, List.length_singleton]; omega) (fun δ' X' F' => k3 δ' X' (F4.tr F'))
      have eb : mb v (i + 1) = (48 + dgt v i) :: (if i = 2 then 46 :: mb v i else if 2 < i ∧ cma i then 44 :: mb v i else mb v i) := rfl
      refine ⟨fun h => two 46 (by rw [eb, if_pos (h2.mp h)]), fun h => ⟨fun h' => ⟨fun h'' => two 44 (by rw [eb, if_neg (fun q => h (h2.mpr q)), if_pos ⟨h2l.mp h', h''⟩]), fun h'' => one (by rw [eb, if_neg (fun q => h (h2.mpr q)), if_neg (fun q => h'' q.2)])⟩, fun h' => one (by rw [eb, if_neg (fun q => h (h2.mpr q)), if_neg (fun q => h' (h2l.mpr q.1))])⟩⟩
  -- the figures in
  suffices HI : ∀ i, i ≤ ndg v → ∀ δ2, Sp δ2 f B1 → (∀ j, j < i → δ2.2.1 47 j = dgt v j) → Fr [(45, 3)] [46, 47] [] δ1 δ2 → mi_wV N d 110 20 [.ref 45, .long v, .null, .long (lft v i), .null, .int (nI i), .null] [] δ2 Q by
    have q := HI 0 (by omega) δ1 X1 (fun j hj => absurd hj (Nat.not_lt_zero j)) (Fr.rf _ _ _ _)
    rwa [nI_0] at q
  intro i hi
  refine up_ind (P := fun i => ∀ δ2, Sp δ2 f B1 → (∀ j, j < i → δ2.2.1 47 j = dgt v j) → Fr [(45, 3)] [46, 47] [] δ1 δ2 → mi_wV N d 110 20 [.ref 45, .long v, .null, .long (lft v i), .null, .int (nI i), .null] [] δ2 Q) ?_ ?_ hi
  · intro δ2 X2 h47 F2
    have h3 : ¬ nI (ndg v) < 3 := fun q => by
      have := (nI_ltI (b := 3) (by omega) (by omega)).mp q
      omega
    refine q10_putMoney_20 (by omega) (brT (nI_lt (b := 20) (by omega) (by omega)) (brF h3 (brF (fun q => mE (zc_gt.mp q)) (fun x2 e2 => ?_))))
    subst e2
    exact outp δ2 X2 h47 F2 _ _
  · intro i hi ih δ2 X2 h47 F2
    have step : mi_wV N d 110 39 [.ref 45, .long v, .null, .long (lft v i), .null, .int (nI i), .null] [] δ2 Q := by
      refine q10_putMoney_39 (by omega) (fun δ3 e3 x2 e2 => ?_)
      rw [nI_1]
      subst e2
      refine ih δ3 (X2.fr (fs := []) (as := [47]) (ls := []) (by subst e3; exact Fr.pt (by decide)) (by decide) (by decide)) (fun j hj => ?_) (F2.tr (by subst e3; exact Fr.pt (by decide)))
      rw [e3, pt_row _ _ _ _ (by omega) (by omega), rA_a, if_pos rfl]
      by_cases z : j = i
      · subst z; rw [up1_s]; rfl
      · rw [up1_n _ _ z]; exact h47 j (by omega)
    refine q10_putMoney_20 (by omega) (brT (nI_lt (b := 20) (by omega) (by omega)) ⟨fun _ => step, fun h => ⟨fun _ => step, fun h' => ?_⟩⟩)
    rcases mM i hi with q | q
    · exact absurd ((nI_ltI (b := 3) (by omega) (by omega)).mpr q) h
    · exact absurd (zc_gt.mpr q) h'
end MONEY
