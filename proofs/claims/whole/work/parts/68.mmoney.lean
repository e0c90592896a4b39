/-! the sheet: money, the model -/
def mbt (v : Int64) (i : Nat) (R : List Int32) : List Int32 := (48 + dgt v i) :: (if 2 < i ∧ cma i then 44 :: R else R)
def mb2 (v : Int64) : Nat → List Int32
  | 0 => []
  | i + 1 => if i = 1 then 46 :: mbt v i (mb2 v i) else mbt v i (mb2 v i)
theorem mb2_mb (v : Int64) {i : Nat} (h : 3 ≤ i) : mb2 v i = mb v i := by
  induction h with
  | refl => rfl
  | @step m hm ih =>
    have hm' : 3 ≤ m := hm
    show (if m = 1 then 46 :: mbt v m (mb2 v m) else mbt v m (mb2 v m)) = (48 + dgt v m) :: (if m = 2 then 46 :: mb v m else if 2 < m ∧ cma m then 44 :: mb v m else mb v m)
    rw [if_neg (by omega), if_neg (by omega), ih]
    rfl
section MMONEY
variable {N d : Nat} {δ : mi_D} {f : Nat → Int32} {B : List Int32}
theorem cm_money (hd : 6 ≤ d) (X : Sm δ f B) (hB : B.length + 60 < 2 ^ 30) {v : Int64} {Q : mi_D → Prop} (k : ∀ δ', Sm δ' f (B ++ mnB v) → Fr [(48, 36)] [72, 73] [] δ δ' → Q δ') : mi_wV N d 202 0 [.ref 48, .long v, .null, .null, .null, .null, .null] [] δ Q := by
  obtain ⟨m3, m19, mM, mE⟩ := ndg_ok v
  suffices H : ∀ δ1 B1, Sm δ1 f B1 → B1.length + 58 < 2 ^ 30 → (∀ δ', Sm δ' f (B1 ++ mb v (ndg v)) → Fr [(48, 36)] [72, 73] [] δ1 δ' → Q δ') → mi_wV N d 202 12 [.ref 48, .long v, .null, .null, .null, .null, .null] [] δ1 Q by
    unfold mnB at k
    refine q12_money_0 (by omega) ⟨fun h => ?_, fun h => ?_⟩
    · rw [if_pos (zc_lt.mp h)] at k
      refine cm_sput (by omega) X (by omega) (fun δ1 X1 f1 => H δ1 _ X1 (by rw [List.length_append, List.length_singleton]; omega) (fun δ' X' f' => k δ' ?_ ?_))
      · rw [app_c]; exact X'
      · exact (f1.wk (by decide) (by decide) (by decide)).tr f'
    · rw [if_neg (fun q => h (zc_lt.mpr q))] at k
      exact H δ B X (by omega) k
  intro δ1 B1 X1 hB1 k1
  rw [← mb2_mb v m3] at k1
  -- the figures out
  have outp : ∀ δ2, Sm δ2 f B1 → (∀ i, i < ndg v → δ2.2.1 73 i = dgt v i) → Fr [(48, 36)] [72, 73] [] δ1 δ2 → ∀ a b, mi_wV N d 202 71 [.ref 48, .long v, .null, .long a, .null, .int b, .int (nI (ndg v) - 1)] [] δ2 Q := by
    intro δ2 X2 h47 F2 a b
    have hl : ∀ i, (mb2 v (i + 1)).length ≤ (mb2 v i).length + 2 + (if i = 1 then 1 else 0) := by
      intro i
      show (if i = 1 then 46 :: mbt v i (mb2 v i) else mbt v i (mb2 v i)).length ≤ _
      have : (mbt v i (mb2 v i)).length ≤ (mb2 v i).length + 2 := by
        unfold mbt
        split <;> simp only [List.length_cons] <;> omega
      split
      · rw [List.length_cons]; omega
      · omega
    suffices HO : ∀ i, i ≤ ndg v → ∀ δ3 B3, Sm δ3 f B3 → (∀ j, j < ndg v → δ3.2.1 73 j = dgt v j) → B3.length + 3 * i < 2 ^ 30 → (∀ δ', Sm δ' f (B3 ++ mb2 v i) → Fr [(48, 36)] [72, 73] [] δ3 δ' → Q δ') → mi_wV N d 202 71 [.ref 48, .long v, .null, .long a, .null, .int b, .int (nI i - 1)] [] δ3 Q by
      exact HO _ (Nat.le_refl _) δ2 B1 X2 h47 (by omega) (fun δ' X' F' => k1 δ' X' (F2.tr F'))
    intro i
    induction i with
    | zero =>
      intro _ δ3 B3 X3 h47 hB3 k3
      rw [nI_0]
      refine q12_money_71 (by omega) (brT (by decide) (k3 δ3 ?_ (Fr.rf _ _ _ _)))
      show Sm δ3 f (B3 ++ [])
      rw [List.append_nil]
      exact X3
    | succ i ih =>
      intro hi δ3 B3 X3 h47 hB3 k3
      rw [nI_pred]
      have em : nI i + -1 = nI i - 1 := by rw [Int32.sub_eq_add_neg]
      have h1 : nI i = 1 ↔ i = 1 := nI_eq (b := 1) (by omega) (by omega)
      have h2l : 2 < nI i ↔ 2 < i := nI_ltI (a := 2) (by omega) (by omega)
      -- at the figure
      have fig : ∀ δ4 B4, Sm δ4 f B4 → (∀ j, j < ndg v → δ4.2.1 73 j = dgt v j) → B4.length + 3 * i + 2 < 2 ^ 30 → (∀ δ', Sm δ' f (B4 ++ mbt v i (mb2 v i)) → Fr [(48, 36)] [72, 73] [] δ4 δ' → Q δ') → mi_wV N d 202 88 [.ref 48, .long v, .null, .long a, .null, .int b, .int (nI i)] [] δ4 Q := by
        intro δ4 B4 X4 h47 hB4 k4
        refine q12_money_88 (by omega) ⟨mi_ix_nI (by omega) (by omega), ?_⟩
        rw [nI_clamp (by omega), h47 i (by omega), em]
        refine cm_sput (by omega) X4 (by omega) (fun δ5 X5 f5 => ?_)
        have h47' : ∀ j, j < ndg v → δ5.2.1 73 j = dgt v j := fun j hj => by rw [f5.2.1 73 (by decide)]; exact h47 j hj
        have F5 : Fr [(48, 36)] [72, 73] [] δ4 δ5 := f5.wk (by decide) (by decide) (by decide)
        have eb : mbt v i (mb2 v i) = (48 + dgt v i) :: (if 2 < i ∧ cma i then 44 :: mb2 v i else mb2 v i) := rfl
        rw [eb, app_c] at k4
        have one : ¬ (2 < i ∧ cma i) → mi_wV N d 202 71 [.ref 48, .long v, .null, .long a, .null, .int b, .int (nI i - 1)] [] δ5 Q := by
          intro hn
          rw [if_neg hn] at k4
          exact ih (by omega) δ5 _ X5 h47' (by simp only [List.length_append, List.length_singleton]; omega) (fun δ' X' F' => k4 δ' X' (F5.tr F'))
        refine ⟨fun h' => ⟨fun h'' => ?_, fun h'' => one (fun q => h'' q.2)⟩, fun h' => one (fun q => h' (h2l.mpr q.1))⟩
        rw [if_pos ⟨h2l.mp h', h''⟩, app_c] at k4
        exact cm_sput (by omega) X5 (by rw [List.length_append, List.length_singleton]; omega) (fun δ6 X6 f6 => ih (by omega) δ6 _ X6 (fun j hj => by rw [f6.2.1 73 (by decide)]; exact h47' j hj) (by simp only [List.length_append, List.length_singleton]; omega) (fun δ' X' F' => k4 δ' X' (F5.tr ((f6.wk (by decide) (by decide) (by decide)).tr F'))))
      have eb : mb2 v (i + 1) = if i = 1 then 46 :: mbt v i (mb2 v i) else mbt v i (mb2 v i) := rfl
      rw [eb] at k3
      refine q12_money_71 (by omega) (brF (nI_pos (by omega)) ⟨fun h => ?_, fun h => ?_⟩)
      · rw [if_pos (h1.mp h), app_c] at k3
        refine cm_sput (by omega) X3 (by omega) (fun δ4 X4 f4 => fig δ4 _ X4 (fun j hj => by rw [f4.2.1 73 (by decide)]; exact h47 j hj) (by rw [List.length_append, List.length_singleton]; omega) (fun δ' X' F' => k3 δ' X' ((f4.wk (by decide) (by decide) (by decide)).tr F')))
      · rw [if_neg (fun q => h (h1.mpr q))] at k3
        exact fig δ3 B3 X3 h47 (by omega) k3
  -- the figures in
  have inp : mi_wV N d 202 28 [.ref 48, .long v, .null, .long (lft v 0), .null, .int 0, .null] [] δ1 Q := by
    suffices HI : ∀ i, i ≤ ndg v → ∀ δ2, Sm δ2 f B1 → (∀ j, j < i → δ2.2.1 73 j = dgt v j) → Fr [(48, 36)] [72, 73] [] δ1 δ2 → mi_wV N d 202 28 [.ref 48, .long v, .null, .long (lft v i), .null, .int (nI i), .null] [] δ2 Q by
      have q := HI 0 (by omega) δ1 X1 (fun j hj => absurd hj (Nat.not_lt_zero j)) (Fr.rf _ _ _ _)
      rwa [nI_0] at q
    intro i hi
    refine up_ind (P := fun i => ∀ δ2, Sm δ2 f B1 → (∀ j, j < i → δ2.2.1 73 j = dgt v j) → Fr [(48, 36)] [72, 73] [] δ1 δ2 → mi_wV N d 202 28 [.ref 48, .long v, .null, .long (lft v i), .null, .int (nI i), .null] [] δ2 Q) ?_ ?_ hi
    · intro δ2 X2 h47 F2
      have h3 : ¬ nI (ndg v) < 3 := fun q => by
        have := (nI_ltI (b := 3) (by omega) (by omega)).mp q
        omega
      refine q12_money_28 (by omega) (brF (fun q => mE (zc_gt.mp q)) (brF h3 (fun x2 e2 => ?_)))
      subst e2
      exact outp δ2 X2 h47 F2 _ _
    · intro i hi ih δ2 X2 h47 F2
      have step : mi_wV N d 202 40 [.ref 48, .long v, .null, .long (lft v i), .null, .int (nI i), .null] [] δ2 Q := by
        refine q12_money_40 (by omega) ⟨mi_ix_nI (by omega) (by omega), fun δ3 e3 x2 e2 => ?_⟩
        rw [nI_clamp (by omega)] at e3
        rw [nI_1]
        subst e2
        refine ih δ3 (X2.fr (fs := []) (as := [73]) (ls := []) (by subst e3; exact Fr.setA (by decide)) (by decide) (by decide)) (fun j hj => ?_) (F2.tr (by subst e3; exact Fr.setA (by decide)))
        rw [e3, pA_a, if_pos rfl]
        by_cases z : j = i
        · subst z; rw [up1_s]; rfl
        · rw [up1_n _ _ z]; exact h47 j (by omega)
      refine q12_money_28 (by omega) ⟨fun _ => step, fun h => ⟨fun _ => step, fun h' => ?_⟩⟩
      rcases mM i hi with q | q
      · exact absurd ((nI_ltI (b := 3) (by omega) (by omega)).mpr q) h'
      · exact absurd (zc_gt.mpr q) h
  have e0 : lft v 0 = if v < 0 then -v else v := rfl
  rw [e0] at inp
  refine q12_money_12 (by omega) ⟨fun h x1 e1 => ?_, fun h => ?_⟩
  · rw [if_pos (zc_lt.mp h)] at inp
    subst e1
    exact inp
  · rwa [if_neg (fun q => h (zc_lt.mpr q))] at inp
end MMONEY
