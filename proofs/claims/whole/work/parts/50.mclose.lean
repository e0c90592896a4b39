/-! the model: closing, opening -/
theorem ordN_lt {f : Nat → Int32} {n : Nat} (h : ∀ a b, a < n → b < n → f a = f b → a = b) : (ordN f n).Pairwise (fun a b => f a < f b) := by
  have hI : ∀ (x : Nat) (L : List Nat), (∀ y, y ∈ L → ¬ f y = f x) → L.Pairwise (fun a b => f a < f b) → (ins f x L).Pairwise (fun a b => f a < f b) := by
    intro x L
    induction L with
    | nil => intro _ _; unfold ins; simp
    | cons b L ih =>
      intro hx hL
      obtain ⟨h1, h2⟩ := List.pairwise_cons.mp hL
      unfold ins
      split
      · next hb =>
        refine List.pairwise_cons.mpr ⟨fun y hy => ?_, hL⟩
        rcases List.mem_cons.mp hy with e | e
        · subst e; exact hb
        · have := h1 y e
          rw [Int32.lt_iff_toInt_lt] at *
          omega
      · next hb =>
        refine List.pairwise_cons.mpr ⟨fun y hy => ?_, ih (fun y hy => hx y (List.mem_cons_of_mem _ hy)) h2⟩
        rcases (ins_mem f x L y).mp hy with e | e
        · subst e
          have hne := hx b List.mem_cons_self
          have hne2 : ¬ (f b).toInt = (f y).toInt := fun q => hne (Int32.toInt_inj.mp q)
          rw [Int32.lt_iff_toInt_lt] at *
          omega
        · exact h1 y e
  induction n with
  | zero => unfold ordN; simp
  | succ n ih =>
    unfold ordN
    refine hI n _ (fun y hy q => ?_) (ih (fun a b ha hb q => h a b (by omega) (by omega) q))
    have hy' := (ordN_mem f n y).mp hy
    have := h y n (by omega) (by omega) q
    omega
/-- the next one by codes, above a code -/
def nxt (s : mi_D) (u r : Int32) : Prop := (r = -1 ∧ ∀ a, a < nN s 2 → ¬ u < s.2.1 49 a) ∨ ∃ b, b < nN s 2 ∧ r = nI b ∧ u < s.2.1 49 b ∧ ∀ a, a < nN s 2 → u < s.2.1 49 a → ¬ s.2.1 49 a < s.2.1 49 b
/-- the code ahead of place i of the order, and the account at it -/
def ahd (s : mi_D) (i : Nat) : Int32 := match i with
  | 0 => 0
  | j + 1 => match (ordN (s.2.1 49) (nN s 2))[j]? with
    | some b => s.2.1 49 b
    | none => 0
def idx (s : mi_D) (i : Nat) : Int32 := match (ordN (s.2.1 49) (nN s 2))[i]? with
  | some b => nI b
  | none => -1
theorem ahd_s (s : mi_D) (i : Nat) : ahd s (i + 1) = match (ordN (s.2.1 49) (nN s 2))[i]? with
    | some b => s.2.1 49 b
    | none => 0 := rfl
theorem nxt_idx {s : mi_D} (W : WfA s) {i : Nat} (hi : i ≤ nN s 2) {r : Int32} (h : nxt s (ahd s i) r) : r = idx s i := by
  obtain ⟨L, eL⟩ : ∃ L, ordN (s.2.1 49) (nN s 2) = L := ⟨_, rfl⟩
  have hlt : L.Pairwise (fun a b => s.2.1 49 a < s.2.1 49 b) := by rw [← eL]; exact ordN_lt W.2.2.1
  have hlen : L.length = nN s 2 := by rw [← eL]; exact ordN_len _ _
  have hmem : ∀ y, y ∈ L ↔ y < nN s 2 := fun y => by rw [← eL]; exact ordN_mem _ _ _
  have hget := List.pairwise_iff_getElem.mp hlt
  -- the code ahead is below that at the place, and not below those before it
  have hA : ∀ j, (hj : j < L.length) → i ≤ j → ahd s i < s.2.1 49 L[j] := by
    intro j hj hij
    cases i with
    | zero =>
      have hw := (W.2.1 L[j] ((hmem _).mp (List.getElem_mem hj))).1.1
      show (0 : Int32) < _
      have e1 : (1 : Int32).toInt = 1 := by decide
      have e0 : (0 : Int32).toInt = 0 := by decide
      rw [Int32.lt_iff_toInt_lt] at *
      omega
    | succ i =>
      have e : ahd s (i + 1) = s.2.1 49 L[i] := by
        rw [ahd_s, eL, List.getElem?_eq_getElem (by omega)]
      rw [e]
      exact hget i j (by omega) hj (by omega)
  have hB : ∀ j, (hj : j < L.length) → j < i → ¬ ahd s i < s.2.1 49 L[j] := by
    intro j hj hij
    cases i with
    | zero => omega
    | succ i =>
      have e : ahd s (i + 1) = s.2.1 49 L[i] := by
        rw [ahd_s, eL, List.getElem?_eq_getElem (by omega)]
      rw [e]
      rcases Nat.lt_or_eq_of_le (Nat.lt_succ_iff.mp hij) with q | q
      · have := hget j i hj (by omega) q
        rw [Int32.lt_iff_toInt_lt] at *
        omega
      · subst q
        rw [Int32.lt_iff_toInt_lt]
        omega
  unfold idx
  rw [eL]
  rcases h with ⟨e, h⟩ | ⟨b, hb, e, h1, h2⟩
  · have : L[i]? = none := by
      rcases Nat.lt_or_ge i L.length with q | q
      · exact absurd (hA i q (Nat.le_refl _)) (h _ ((hmem _).mp (List.getElem_mem q)))
      · exact List.getElem?_eq_none q
    rw [this, e]
  · obtain ⟨j, hj, ej⟩ := List.getElem_of_mem ((hmem b).mpr hb)
    have hij : j = i := by
      rcases Nat.lt_trichotomy j i with q | q | q
      · exact absurd (by rw [ej]; exact h1) (hB j hj q)
      · exact q
      · have q1 := hA i (by omega) (Nat.le_refl _)
        have q2 := hget i j (by omega) hj q
        rw [ej] at q2
        exact absurd q2 (h2 _ ((hmem _).mp (List.getElem_mem _)) q1)
    subst hij
    rw [List.getElem?_eq_getElem hj, e, ej]
section MCL
variable {N d : Nat} {δ s : mi_D} {l : Ln}
theorem cm_sumOf (hd : 6 ≤ d) (G : Agr s δ) (W : WfE s) {a : Nat} {d1 d2 : Int32} {Q : Int64 → mi_D → Prop} (k : Q (sumD s (nI a) d1 d2) δ) : mi_wL N d 174 0 [.ref 48, .int (nI a), .int d1, .int d2, .null, .null, .null, .null] [] δ Q := by
  have hn := W.1.2
  have hf := fromN_le W _ (Nat.le_refl (nN s 15))
  have d15 : δ.1 48 15 = nI (nN s 15) := (G.1 (48, 15) (by decide)).trans W.1.1
  have e61 : δ.2.1 61 = s.2.1 61 := G.2.1 61 (by decide)
  have e58 : δ.2.1 58 = s.2.1 58 := G.2.1 58 (by decide)
  have e64 : δ.2.1 64 = s.2.1 64 := G.2.1 64 (by decide)
  have e65 : δ.2.2 65 = s.2.2 65 := G.2.2 65 (by decide)
  refine q12_sumOf_0 (by omega) ?_
  suffices H : ∀ e, e ≤ nN s 15 → mi_wL N d 174 6 [.ref 48, .int (nI a), .int d1, .int d2, .long (sumE s (nI a) d1 d2 e), .null, .int (nI e), .null] [] δ Q ∧ ∀ x, mi_wL N d 174 6 [.ref 48, .int (nI a), .int d1, .int d2, .long (sumE s (nI a) d1 d2 e), .null, .int (nI e), .int x] [] δ Q by
    have q := (H 0 (by omega)).1
    rwa [nI_0] at q
  intro e he
  refine up_ind (P := fun e => mi_wL N d 174 6 [.ref 48, .int (nI a), .int d1, .int d2, .long (sumE s (nI a) d1 d2 e), .null, .int (nI e), .null] [] δ Q ∧ ∀ x, mi_wL N d 174 6 [.ref 48, .int (nI a), .int d1, .int d2, .long (sumE s (nI a) d1 d2 e), .null, .int (nI e), .int x] [] δ Q) ?_ ?_ he
  · have hF : ¬ nI (nN s 15) < δ.1 48 15 := by rw [d15]; exact nI_nlt (by omega) (by omega)
    exact ⟨q12_sumOf_6 (by omega) (brF hF k), fun x => q12_sumOf_6a (by omega) (brF hF k)⟩
  · intro e he ih
    have hT : nI e < δ.1 48 15 := by rw [d15]; exact nI_lt he (by omega)
    have w := W.2.2.2.1 e he
    have wm := fromN_mono W (show e + 1 ≤ nN s 15 from he) (Nat.le_refl _)
    have t61 : δ.2.1 61 (nI (e + 1)).toNatClampNeg = nI (fromN s (e + 1)) := by rw [nI_clamp (by omega), e61, W.2.2.1 (e + 1) (by omega)]
    have es := sumE_s s (nI a) d1 d2 e
    -- nothing to sum: no lines, or other days
    have inner : ∀ i, i ≤ fromN s (e + 1) - fromN s e → (0 < i → ¬ s.2.1 58 e < d1 ∧ ¬ d2 < s.2.1 58 e) → mi_wL N d 174 24 [.ref 48, .int (nI a), .int d1, .int d2, .long (totI (entL s e) (nI a) (sumE s (nI a) d1 d2 e) i), .null, .int (nI e), .int (nI (fromN s e + i))] [] δ Q := by
      intro i hi
      refine up_ind (P := fun i => (0 < i → ¬ s.2.1 58 e < d1 ∧ ¬ d2 < s.2.1 58 e) → mi_wL N d 174 24 [.ref 48, .int (nI a), .int d1, .int d2, .long (totI (entL s e) (nI a) (sumE s (nI a) d1 d2 e) i), .null, .int (nI e), .int (nI (fromN s e + i))] [] δ Q) ?_ ?_ hi
      · intro hc
        refine q12_sumOf_24 (by omega) ?_
        rw [nI_1, t61]
        refine ⟨mi_ix_nI (by omega) (by omega), brF (nI_nlt (by omega) (by omega)) ?_⟩
        have ez : totI (entL s e) (nI a) (sumE s (nI a) d1 d2 e) (fromN s (e + 1) - fromN s e) = sumE s (nI a) d1 d2 (e + 1) := by
          rw [es]
          by_cases h : ¬ s.2.1 58 e < d1 ∧ ¬ d2 < s.2.1 58 e
          · rw [if_pos h, totI_from]
            rfl
          · rw [if_neg h]
            have z : fromN s (e + 1) - fromN s e = 0 := Decidable.not_not.mp (fun z => h (hc (by omega)))
            rw [z]
            rfl
        rw [ez]
        exact ih.2 _
      · intro i hi ih2 hc
        refine q12_sumOf_24 (by omega) ?_
        rw [nI_1, t61]
        refine ⟨mi_ix_nI (by omega) (by omega), brT (nI_lt (by omega) (by omega)) ⟨mi_ix_nI (by omega) (by omega), ?_⟩⟩
        rw [nI_clamp (by omega), e58]
        refine c_inI (by omega) rfl rfl (fun a1 a2 => brN (by decide) ⟨mi_ix_nI (by omega) (by omega), ?_⟩) (fun hn => br0 ?_)
        · rw [nI_clamp (by omega), e64, e65, nI_1]
          have ts := totI_s (entL s e) (nI a) (sumE s (nI a) d1 d2 e) i
          have ec : (entL s e).2.1 i = s.2.1 64 (fromN s e + i) := rfl
          have ev : (entL s e).2.2 i = s.2.2 65 (fromN s e + i) := rfl
          have ih3 := ih2 (fun _ => ⟨a1, a2⟩)
          rw [ec, ev] at ts
          refine ⟨fun q => ⟨mi_ix_nI (by omega) (by omega), fun x ex => ?_⟩, fun q x ex => ?_⟩
          · rw [if_pos q] at ts
            rw [ex, ← ts]
            exact ih3
          · rw [if_neg q] at ts
            rw [ex, Int64.add_zero, ← ts]
            exact ih3
        · have hz : i = 0 := Decidable.not_not.mp (fun z => hn.elim (hc (by omega)).1 (hc (by omega)).2)
          have hno : ¬ (¬ s.2.1 58 e < d1 ∧ ¬ d2 < s.2.1 58 e) := fun z => hn.elim z.1 z.2
          rw [if_neg hno] at es
          subst hz
          have ez : totI (entL s e) (nI a) (sumE s (nI a) d1 d2 e) 0 = sumE s (nI a) d1 d2 (e + 1) := es.symm
          rw [ez]
          exact ih.2 _
    have st : mi_ix (nI e) 401 = true ∧ (∀ x1 : Int32, x1 = (δ.2.1 61 (nI e).toNatClampNeg) → mi_wL N d 174 24 [.ref 48, .int (nI a), .int d1, .int d2, .long (sumE s (nI a) d1 d2 e), .null, .int (nI e), .int x1] [] δ Q) := by
      rw [nI_clamp (by omega), e61, W.2.2.1 e (by omega)]
      refine ⟨mi_ix_nI (by omega) (by omega), fun x ex => ?_⟩
      subst ex
      exact inner 0 (by omega) (fun q => by omega)
    exact ⟨q12_sumOf_6 (by omega) (brT hT st), fun x => q12_sumOf_6a (by omega) (brT hT st)⟩
theorem cm_nextCode (hd : 5 ≤ d) (G : Agr s δ) (W : WfA s) {u : Int32} {Q : Int32 → mi_D → Prop} (k : ∀ r, nxt s u r → Q r δ) : mi_wI N d 175 0 [.ref 48, .int u, .null, .null] [] δ Q := by
  have h60 := W.1.2
  have d2 : δ.1 48 2 = nI (nN s 2) := (G.1 (48, 2) (by decide)).trans W.1.1
  have e49 : δ.2.1 49 = s.2.1 49 := G.2.1 49 (by decide)
  refine q12_nextCode_0 hd ?_
  suffices H : ∀ i, i ≤ nN s 2 → ∀ r, ((r = -1 ∧ ∀ a, a < i → ¬ u < s.2.1 49 a) ∨ ∃ b, b < i ∧ r = nI b ∧ u < s.2.1 49 b ∧ ∀ a, a < i → u < s.2.1 49 a → ¬ s.2.1 49 a < s.2.1 49 b) → mi_wI N d 175 4 [.ref 48, .int u, .int r, .int (nI i)] [] δ Q by
    have q := H 0 (by omega) (-1) (Or.inl ⟨rfl, fun a ha => absurd ha (Nat.not_lt_zero a)⟩)
    rwa [nI_0] at q
  intro i hi
  refine up_ind (P := fun i => ∀ r, ((r = -1 ∧ ∀ a, a < i → ¬ u < s.2.1 49 a) ∨ ∃ b, b < i ∧ r = nI b ∧ u < s.2.1 49 b ∧ ∀ a, a < i → u < s.2.1 49 a → ¬ s.2.1 49 a < s.2.1 49 b) → mi_wI N d 175 4 [.ref 48, .int u, .int r, .int (nI i)] [] δ Q) ?_ ?_ hi
  · intro r hr
    exact q12_nextCode_4 hd (brF (by rw [d2]; exact nI_nlt (by omega) (by omega)) (k r hr))
  · intro i hi ih r hr
    refine q12_nextCode_4 hd (brT (by rw [d2]; exact nI_lt hi (by omega)) ⟨mi_ix_nI (by omega) (by omega), ?_⟩)
    rw [nI_clamp (by omega), e49, nI_1]
    refine ⟨fun h => ⟨fun h2 => ?_, fun h2 => ?_⟩, fun h => ?_⟩
    · have hn : r = -1 ∧ ∀ a, a < i → ¬ u < s.2.1 49 a := by
        rcases hr with q | ⟨b, hb, e, _⟩
        · exact q
        · rw [e] at h2; exact absurd h2 (nI_pos (by omega))
      refine ih _ (Or.inr ⟨i, by omega, rfl, h, fun a ha hu => ?_⟩)
      rcases Nat.lt_or_eq_of_le (Nat.lt_succ_iff.mp ha) with q | q
      · exact absurd hu (hn.2 a q)
      · subst q; rw [Int32.lt_iff_toInt_lt]; omega
    · obtain ⟨b, hb, e, h3, h4⟩ : ∃ b, b < i ∧ r = nI b ∧ u < s.2.1 49 b ∧ ∀ a, a < i → u < s.2.1 49 a → ¬ s.2.1 49 a < s.2.1 49 b := by
        rcases hr with ⟨q, _⟩ | q
        · rw [q] at h2; exact absurd (by decide) h2
        · exact q
      subst e
      rw [nI_clamp (by omega)]
      refine ⟨mi_ix_nI (by omega) (by omega), mi_ix_nI (by omega) (by omega), fun q => ?_, fun q => ?_⟩
      · refine ih _ (Or.inr ⟨i, by omega, rfl, h, fun a ha hu => ?_⟩)
        rcases Nat.lt_or_eq_of_le (Nat.lt_succ_iff.mp ha) with z | z
        · have := h4 a z hu
          rw [Int32.lt_iff_toInt_lt] at *
          omega
        · subst z; rw [Int32.lt_iff_toInt_lt]; omega
      · refine ih _ (Or.inr ⟨b, by omega, rfl, h3, fun a ha hu => ?_⟩)
        rcases Nat.lt_or_eq_of_le (Nat.lt_succ_iff.mp ha) with z | z
        · exact h4 a z hu
        · subst z; exact q
    · refine ih r ?_
      rcases hr with ⟨q, h3⟩ | ⟨b, hb, e, h3, h4⟩
      · refine Or.inl ⟨q, fun a ha => ?_⟩
        rcases Nat.lt_or_eq_of_le (Nat.lt_succ_iff.mp ha) with z | z
        · exact h3 a z
        · subst z; exact h
      · refine Or.inr ⟨b, by omega, e, h3, fun a ha hu => ?_⟩
        rcases Nat.lt_or_eq_of_le (Nat.lt_succ_iff.mp ha) with z | z
        · exact h4 a z hu
        · subst z; exact absurd hu h
theorem sumL_add (l : Ln) (a : Int32) (v : Int64) : sumL (addL l a v) = sumL l + v := by
  show itN (fun i t => t + up1 l.2.2 l.1 v i) 0 l.1 + up1 l.2.2 l.1 v l.1 = _
  rw [up1_s]
  refine congrArg (fun t => t + v) (itN_congr (fun i hi x => ?_))
  rw [up1_n _ _ (by omega)]
/-- behind the lines of a closing, an opening: asked, said, entered -/
theorem unj_or {s : mi_D} {l : Ln} : (over s l ∧ rf_unj s l = -12) ∨ (¬ over s l ∧ 0 < l.1 ∧ ¬ s.1 48 15 < 400 ∧ rf_unj s l = -13) ∨ (¬ over s l ∧ (0 < l.1 → s.1 48 15 < 400) ∧ rf_unj s l = 0) := by
  unfold rf_unj
  by_cases h : over s l
  · exact Or.inl ⟨h, if_pos h⟩
  · rw [if_neg h]
    by_cases h2 : 0 < l.1 ∧ ¬ s.1 48 15 < 400
    · exact Or.inr (Or.inl ⟨h, h2.1, h2.2, if_pos h2⟩)
    · exact Or.inr (Or.inr ⟨h, fun z => Decidable.not_not.mp (fun y => h2 ⟨z, y⟩), if_neg h2⟩)
def do_close0 (s : mi_D) : mi_D := if 0 < (cloL s (s.1 48 12)).1 then mi_setA (do_enter s (cloL s (s.1 48 12)) (mi_at s 56 (s.1 48 12)) 0 2 (s.1 48 12)) 57 (nN s 12) (s.1 48 15) else s
theorem dcl0_k {s : mi_D} : Kp [(48,0),(48,1),(48,2),(48,10),(48,11),(48,12),(48,24),(48,30),(48,31),(48,32),(48,36)] [49,50,51,52,53,54,56,66,70,72] [67] s (do_close0 s) := by
  unfold do_close0
  split
  · exact (den_k.wk (by decide) (by decide) (by decide)).tr (Kp.setA (by decide))
  · exact Kp.rf
theorem dcl_0 (s : mi_D) : do_close s = mi_setI (do_close0 s) 48 12 (s.1 48 12 + 1) := rfl
theorem cm_close (hd : 9 ≤ d) (G : Agr s δ) (W : Wf s) {Q : Int32 → mi_D → Prop}
    (kk : ∀ δ', Agr (A_close s).2 δ' → KC δ δ' → Q (A_close s).1 δ') : mi_wI N d 176 0 [.ref 48, .null, .null, .null, .null, .null, .null] [] δ Q := by
  have h24 := W.2.1.1.2
  have hle := W.2.1.2.2.1
  have h60 := W.1.1.2
  have hn := W.2.2.1.1.2
  have e12 : s.1 48 12 = nI (nN s 12) := W.2.1.2.1.1
  have e11 : s.1 48 11 = nI (nN s 11) := W.2.1.1.1
  have e15 : s.1 48 15 = nI (nN s 15) := W.2.2.1.1.1
  unfold A_close at kk
  have e0 : δ.1 48 0 = s.1 48 0 := G.1 (48, 0) (by decide)
  have d12 : δ.1 48 12 = s.1 48 12 := G.1 (48, 12) (by decide)
  have d11 : δ.1 48 11 = s.1 48 11 := G.1 (48, 11) (by decide)
  have d10 : δ.1 48 10 = s.1 48 10 := G.1 (48, 10) (by decide)
  have heq : s.1 48 12 = s.1 48 11 ↔ ¬ s.1 48 12 < s.1 48 11 := by rw [e12, e11]; exact nI_eqv hle (by omega)
  refine q12_close_0 (by omega) ?_
  rw [e0, d12, d11, d10]
  refine ⟨fun h => ?_, fun hup => ⟨fun h => ?_, fun h => ⟨fun ho => ?_, fun ho x1 e1 δ2 e2 => ?_⟩⟩⟩
  · rw [gate_down h] at kk
    exact kk δ G Kp.rf
  · have hr : rf_close s = -6 := by unfold rf_close; rw [if_pos (Or.inl (heq.mp h))]
    rw [gate_ref hup (by rw [hr]; decide), hr] at kk
    exact kk δ G Kp.rf
  · have hr : rf_close s = -6 := by unfold rf_close; rw [if_pos (Or.inr ho)]
    rw [gate_ref hup (by rw [hr]; decide), hr] at kk
    exact kk δ G Kp.rf
  have hrf : rf_close s = rf_unj s (cloL s (s.1 48 12)) := by unfold rf_close; rw [if_neg (fun z => z.elim (fun z => h (heq.mpr z)) ho)]
  have hc : nN s 12 < nN s 11 := by
    rcases Nat.lt_or_eq_of_le hle with z | z
    · exact z
    · exact absurd (by rw [e12, e11, z]) h
  obtain ⟨hO1, hO2, hO3⟩ := clo_ok W.1 W.2.1 ho (s.1 48 12)
  subst e1
  rw [e12]
  -- behind the lines
  have tail181 : ∀ δ', Lm δ' (cloL s (s.1 48 12)) → Fr [(48, 27), (48, 34)] [68, 71] [69] δ δ' → Bm δ' [] → ¬ over s (cloL s (s.1 48 12)) → (0 < (cloL s (s.1 48 12)).1 → s.1 48 15 < 400) → ∀ y z, mi_wI N d 176 181 [.ref 48, .int (nI (nN s 12)), .long y, .null, .int z, .null, .null] [] δ' Q ∧ ∀ w, mi_wI N d 176 181 [.ref 48, .int (nI (nN s 12)), .long y, .null, .int z, .long w, .null] [] δ' Q := by
    intro δ' X' f' B' hno h400 y z
    have G' : Agr s δ' := G.fr f' (by decide) (by decide) (by decide)
    have K' : KC δ δ' := f'.kp (by decide) (by decide) (by decide)
    have hr : rf_close s = 0 := by
      rw [hrf]
      unfold rf_unj
      rw [if_neg hno, if_neg (fun z => z.2 (h400 z.1))]
    have last : ∀ δ5, Agr (do_close0 s) δ5 → KC δ δ5 → Bm δ5 [] → room s [] → (∀ δ1 : mi_D, δ1 = mi_setI δ5 48 12 ((δ5.1 48 12) + 1) → (mi_wV N (d - 1) 155 0 [.ref 48, .int 7, .null, .null] [] δ1 (fun δ2 => Q (nI (nN s 12)) δ2))) := by
      intro δ5 G5 K5 B5 hm δ6 e6
      rw [gate_ok hup hr hm] at kk
      have s12 : δ5.1 48 12 = s.1 48 12 := (G5.1 (48, 12) (by decide)).trans (dcl0_k.1 (48, 12) (by decide))
      rw [s12] at e6
      have G6 : Agr (do_close s) δ6 := by
        rw [e6, dcl_0]
        exact G5.sI _ _ _
      have F6 : Fr [(48, 12)] [] [] δ5 δ6 := by rw [e6]; exact Fr.setI (by decide)
      rw [← e12]
      exact cm_write (by omega) G6 (W.2.2.2.2.1.m (dcl_k.wk (by decide) (by decide) (by decide))) (B5.fr F6 (by decide) (by decide)) (by show 0 ≤ 255; omega) (room_m (dcl_k.wk (by decide) (by decide) (by decide)) hm) (fun δ7 G7 F7 => kk δ7 G7 ((K5.tr (F6.kp (by decide) (by decide) (by decide))).tr (F7.kp (by decide) (by decide) (by decide))))
    have body : ∀ r3 δ1, (r3 = bI (room s [])) → δ1 = δ' → ∀ R : mi_D → Prop, (∀ δ5, (∀ δ1 : mi_D, δ1 = mi_setI δ5 48 12 ((δ5.1 48 12) + 1) → (mi_wV N (d - 1) 155 0 [.ref 48, .int 7, .null, .null] [] δ1 (fun δ2 => Q (nI (nN s 12)) δ2))) → R δ5) → ((r3 = 0 → Q (-13) δ1) ∧ (¬ r3 = 0 → ((0 < (δ1.1 48 27) → (mi_ix (nI (nN s 12)) 24 = true ∧ (mi_wI N (d - 1) 168 0 [.ref 48, .int (δ1.2.1 56 (Int32.toNatClampNeg (nI (nN s 12)))), .int 0, .int 2, .int (nI (nN s 12)), .null, .null] [] δ1 (fun r4 δ3 => (mi_ix (nI (nN s 12)) 24 = true ∧ (∀ δ5 : mi_D, δ5 = mi_setA δ3 57 (Int32.toNatClampNeg (nI (nN s 12))) r4 → R δ5)))))) ∧ (¬ 0 < (δ1.1 48 27) → R δ1)))) := by
      intro r3 δ1 e3 ed R hR
      subst ed e3
      refine bI_br (fun hm => ?_) (fun hm => ?_)
      · rw [gate_full hup hr hm] at kk
        exact kk _ G' K'
      · rw [X'.1]
        refine ⟨fun h0 => ⟨mi_ix_nI (by omega) (by omega), ?_⟩, fun h0 => ?_⟩
        · have h0' : 0 < (cloL s (s.1 48 12)).1 := (nI_ltI (a := 0) (by omega) (by omega)).mp (nI_0.symm ▸ h0)
          have hn4 : nN s 15 < 400 := by
            have q2 := h400 h0'
            rw [e15] at q2
            exact (nI_ltI (b := 400) (by omega) (by omega)).mp q2
          have e56 : δ1.2.1 56 (nI (nN s 12)).toNatClampNeg = mi_at s 56 (s.1 48 12) := by rw [nI_clamp (by omega), G'.2.1 56 (by decide), e12, mi_at_nI _ _ (by omega)]
          rw [e56, nI_clamp (show nN s 12 < 2 ^ 31 by omega), ← e12]
          refine cm_enter (by omega) G' W.1 W.2.2.1 hn4 X' hO1 hO2 (fun δ3 G3 f3 => ⟨by rw [e12]; exact mi_ix_nI (by omega) (by omega), fun δ5 e5 => hR δ5 ?_⟩)
          have F5 : Fr [] [57] [] δ3 δ5 := by rw [e5]; exact Fr.setA (by decide)
          refine last δ5 ?_ ((K'.tr (f3.kp (by decide) (by decide) (by decide))).tr (F5.kp (by decide) (by decide) (by decide))) ((B'.fr f3 (by decide) (by decide)).fr F5 (by decide) (by decide)) hm
          unfold do_close0
          rw [if_pos h0', e5]
          exact G3.sA _ _ _
        · have h0' : ¬ 0 < (cloL s (s.1 48 12)).1 := fun q => h0 (nI_0 ▸ nI_lt q (by omega))
          refine hR _ (last _ ?_ K' B' hm)
          unfold do_close0
          rw [if_neg h0']
          exact G'
    refine ⟨q12_close_181 (by omega) (cm_hasRoom (by omega) G' W.2.2.2.2.1 B' (by show 0 ≤ 300; omega) (body _ _ rfl rfl _ (fun δ5 h5 => q12_close_217 (by omega) h5))), fun w => q12_close_181a (by omega) (cm_hasRoom (by omega) G' W.2.2.2.2.1 B' (by show 0 ≤ 300; omega) (body _ _ rfl rfl _ (fun δ5 h5 => q12_close_217a (by omega) h5)))⟩
  have tail150 : ∀ δ', Lm δ' (cloL s (s.1 48 12)) → Fr [(48, 27)] [68] [69] δ δ' → ∀ y z, mi_wI N d 176 150 [.ref 48, .int (nI (nN s 12)), .long y, .null, .int z, .null, .null] [] δ' Q ∧ ∀ w, mi_wI N d 176 150 [.ref 48, .int (nI (nN s 12)), .long y, .null, .int z, .long w, .null] [] δ' Q := by
    intro δ' X' f' y z
    have G' : Agr s δ' := G.fr f' (by decide) (by decide) (by decide)
    have body : ∀ R : mi_D → Prop, (∀ δ3, Lm δ3 (cloL s (s.1 48 12)) → Fr [(48, 27), (48, 34)] [68, 71] [69] δ δ3 → Bm δ3 [] → ¬ over s (cloL s (s.1 48 12)) → (0 < (cloL s (s.1 48 12)).1 → s.1 48 15 < 400) → R δ3) → mi_wI N (d - 1) 166 0 [.ref 48, .null, .null, .null, .null] [] δ' (fun r2 δ1 => ((r2 = 0 → (mi_wV N (d - 1) 150 0 [.ref 48] [] δ1 (fun δ3 => ((0 < (δ3.1 48 27) → (((δ3.1 48 15) = 400 → Q (-13) δ3) ∧ (¬ (δ3.1 48 15) = 400 → R δ3))) ∧ (¬ 0 < (δ3.1 48 27) → R δ3))))) ∧ (¬ r2 = 0 → Q (-12) δ1))) := by
      intro R hR
      refine cm_isOver (by omega) G' W.1 X' hO1 hO2 (bI_br (fun hno => cm_begin (by omega) (fun δ3 B3 f3 => ?_)) (fun hov => ?_))
      · have X3 := X'.fr f3 (by decide) (by decide) (by decide)
        have F3 : Fr [(48, 27), (48, 34)] [68, 71] [69] δ δ3 := (f'.wk (by decide) (by decide) (by decide)).tr (f3.wk (by decide) (by decide) (by decide))
        have d15 : δ3.1 48 15 = nI (nN s 15) := ((G.fr F3 (by decide) (by decide) (by decide)).1 (48, 15) (by decide)).trans e15
        have hlt : nI (nN s 15) = 400 ↔ ¬ s.1 48 15 < 400 := by rw [e15]; exact nI_eqv (m := 400) hn (by omega)
        rw [X3.1, d15]
        refine ⟨fun h0 => ⟨fun q => ?_, fun q => hR δ3 X3 F3 B3 hno (fun _ => Decidable.not_not.mp (fun z => q (hlt.mpr z)))⟩, fun h0 => hR δ3 X3 F3 B3 hno (fun z => absurd (nI_0 ▸ nI_lt z (by omega)) h0)⟩
        have h0' : 0 < (cloL s (s.1 48 12)).1 := (nI_ltI (a := 0) (by omega) (by omega)).mp (nI_0.symm ▸ h0)
        have hr : rf_close s = -13 := by
          rw [hrf]
          unfold rf_unj
          rw [if_neg hno, if_pos ⟨h0', hlt.mp q⟩]
        rw [gate_ref hup (by rw [hr]; decide), hr] at kk
        exact kk δ3 (G.fr F3 (by decide) (by decide) (by decide)) (F3.kp (by decide) (by decide) (by decide))
      · have hr : rf_close s = -12 := by
          rw [hrf]
          unfold rf_unj
          rw [if_pos hov]
        rw [gate_ref hup (by rw [hr]; decide), hr] at kk
        exact kk δ' G' (f'.kp (by decide) (by decide) (by decide))
    exact ⟨q12_close_150 (by omega) (body _ (fun δ3 a b c e f => (tail181 δ3 a b c e f y z).1)), fun w => q12_close_150a (by omega) (body _ (fun δ3 a b c e f => (tail181 δ3 a b c e f y z).2 w))⟩
  -- the lines
  obtain ⟨L, eL⟩ : ∃ L, ordN (s.2.1 49) (nN s 2) = L := ⟨_, rfl⟩
  have hlen : L.length = nN s 2 := by rw [← eL]; exact ordN_len _ _
  have hmem : ∀ y, y ∈ L → y < nN s 2 := fun y hy => by rw [← eL] at hy; exact (ordN_mem _ _ _).mp hy
  have eclo : cloL s (s.1 48 12) = if sumL (clsL s (fday s (s.1 48 12)) (mi_at s 56 (s.1 48 12)) L) = 0 then clsL s (fday s (s.1 48 12)) (mi_at s 56 (s.1 48 12)) L else addL (clsL s (fday s (s.1 48 12)) (mi_at s 56 (s.1 48 12)) L) (s.1 48 10) (- sumL (clsL s (fday s (s.1 48 12)) (mi_at s 56 (s.1 48 12)) L)) := by
    rw [← eL]
    rfl
  rw [eL] at hO3
  have ef : fday s (s.1 48 12) = fday s (nI (nN s 12)) := by rw [e12]
  have e56 : mi_at s 56 (s.1 48 12) = s.2.1 56 (nN s 12) := by rw [e12, mi_at_nI _ _ (by omega)]
  rw [ef, e56] at eclo hO3
  obtain ⟨d1, ed1⟩ : ∃ d1, d1 = fday s (nI (nN s 12)) := ⟨_, rfl⟩
  obtain ⟨d2, ed2⟩ : ∃ d2, d2 = s.2.1 56 (nN s 12) := ⟨_, rfl⟩
  rw [← ed1, ← ed2] at eclo hO3
  have hcl : ∀ i, i ≤ nN s 2 → (clsL s d1 d2 (L.take i)).1 ≤ i := fun i hi => by
    have := (cls_len s d1 d2 (L.take i) (0, fun _ => 0, fun _ => 0)).1
    rw [← cls_def, List.length_take] at this
    have h6 : (clsL s d1 d2 (L.take i)).1 ≤ 0 + min i L.length := this
    omega
  have f2 : Fr [(48, 27)] [68] [69] δ δ2 := by rw [e2]; exact Fr.setI (by decide)
  have X2 : Lm δ2 (clsL s d1 d2 (L.take 0)) := ⟨by rw [e2, pI_f, if_pos ⟨rfl, rfl⟩]; exact nI_0.symm, fun i hi => absurd hi (Nat.not_lt_zero i), fun i hi => absurd hi (Nat.not_lt_zero i)⟩
  have H : ∀ i, i ≤ nN s 2 → ∀ δ', Lm δ' (clsL s d1 d2 (L.take i)) → Fr [(48, 27)] [68] [69] δ δ' → mi_wI N d 176 51 [.ref 48, .int (nI (nN s 12)), .long (sumL (clsL s d1 d2 (L.take i))), .null, .int (idx s i), .null, .null] [] δ' Q ∧ ∀ w, mi_wI N d 176 51 [.ref 48, .int (nI (nN s 12)), .long (sumL (clsL s d1 d2 (L.take i))), .null, .int (idx s i), .long w, .null] [] δ' Q := by
    intro i hi
    refine up_ind (P := fun i => ∀ δ', Lm δ' (clsL s d1 d2 (L.take i)) → Fr [(48, 27)] [68] [69] δ δ' → mi_wI N d 176 51 [.ref 48, .int (nI (nN s 12)), .long (sumL (clsL s d1 d2 (L.take i))), .null, .int (idx s i), .null, .null] [] δ' Q ∧ ∀ w, mi_wI N d 176 51 [.ref 48, .int (nI (nN s 12)), .long (sumL (clsL s d1 d2 (L.take i))), .null, .int (idx s i), .long w, .null] [] δ' Q) ?_ ?_ hi
    · intro δ' X' f'
      rw [List.take_of_length_le (by omega)] at X' ⊢
      have ei : idx s (nN s 2) = -1 := by
        unfold idx
        rw [eL, List.getElem?_eq_none (by omega)]
      have o10 : δ'.1 48 10 = s.1 48 10 := (f'.1 _ _ (by decide)).trans d10
      rw [ei]
      have body : ∀ R : mi_D → Prop, (∀ δ3, Lm δ3 (cloL s (s.1 48 12)) → Fr [(48, 27)] [68] [69] δ δ3 → R δ3) → (((lg_cmp (sumL (clsL s d1 d2 L)) 0) = 0 → R δ') ∧ (¬ (lg_cmp (sumL (clsL s d1 d2 L)) 0) = 0 → (mi_wV N (d - 1) 164 0 [.ref 48, .int (δ'.1 48 10), .long (-(sumL (clsL s d1 d2 L))), .null] [] δ' (fun δ1 => R δ1)))) := by
        intro R hR
        rw [zc_eq, o10]
        refine ⟨fun q => ?_, fun q => ?_⟩
        · rw [if_pos q] at eclo
          exact hR δ' (by rw [eclo]; exact X') f'
        · rw [if_neg q] at eclo
          exact cm_hand (by omega) X' (by omega) (fun δ3 X3 f3 => hR δ3 (by rw [eclo]; exact X3) (f'.tr f3))
      exact ⟨q12_close_51 (by omega) (brT rfl (body _ (fun δ3 a b => (tail150 δ3 a b _ _).1))), fun w => q12_close_51a (by omega) (brT rfl (body _ (fun δ3 a b => (tail150 δ3 a b _ _).2 w)))⟩
    · intro i hi ih δ' X' f'
      have hq : i < L.length := by omega
      have hm : L[i] < nN s 2 := hmem _ (List.getElem_mem hq)
      have ei : idx s i = nI L[i] := by
        unfold idx
        rw [eL, List.getElem?_eq_getElem hq]
      have ea : ahd s (i + 1) = s.2.1 49 L[i] := by
        rw [ahd_s, eL, List.getElem?_eq_getElem hq]
      have es : clsL s d1 d2 (L.take (i + 1)) = clsF s d1 d2 (clsL s d1 d2 (L.take i)) L[i] := by rw [← take_sn hq, cls_s]
      have hc := hcl i (by omega)
      have G' : ∀ δ', Fr [(48, 27)] [68] [69] δ δ' → Agr s δ' := fun δ' f' => G.fr f' (by decide) (by decide) (by decide)
      have hx : mi_ix (nI L[i]) 60 = true := mi_ix_nI (by omega) (by omega)
      -- on to the next
      have nx : ∀ δ3, Lm δ3 (clsL s d1 d2 (L.take (i + 1))) → Fr [(48, 27)] [68] [69] δ δ3 → ∀ y, y = sumL (clsL s d1 d2 (L.take (i + 1))) → mi_wI N d 176 118 [.ref 48, .int (nI (nN s 12)), .long y, .null, .int (nI L[i]), .null, .null] [] δ3 Q ∧ ∀ w, mi_wI N d 176 118 [.ref 48, .int (nI (nN s 12)), .long y, .null, .int (nI L[i]), .long w, .null] [] δ3 Q := by
        intro δ3 X3 f3 y ey
        subst ey
        have e49 : δ3.2.1 49 (nI L[i]).toNatClampNeg = ahd s (i + 1) := by rw [nI_clamp (by omega), ea, (G' δ3 f3).2.1 49 (by decide)]
        refine ⟨q12_close_118 (by omega) ⟨hx, ?_⟩, fun w => q12_close_118a (by omega) ⟨hx, ?_⟩⟩
        · rw [e49]
          exact cm_nextCode (by omega) (G' δ3 f3) W.1 (fun r hr => by rw [nxt_idx W.1 (by omega) hr]; exact (ih δ3 X3 f3).1)
        · rw [e49]
          exact cm_nextCode (by omega) (G' δ3 f3) W.1 (fun r hr => by rw [nxt_idx W.1 (by omega) hr]; exact (ih δ3 X3 f3).2 w)
      have skip : ¬ (s.2.1 52 L[i] = 0 ∧ ¬ s.2.1 50 L[i] < 3 ∧ ¬ sumD s (nI L[i]) d1 d2 = 0) → clsL s d1 d2 (L.take (i + 1)) = clsL s d1 d2 (L.take i) := fun q => by
        rw [es]
        unfold clsF
        exact if_neg q
      have take : (s.2.1 52 L[i] = 0 ∧ ¬ s.2.1 50 L[i] < 3 ∧ ¬ sumD s (nI L[i]) d1 d2 = 0) → clsL s d1 d2 (L.take (i + 1)) = addL (clsL s d1 d2 (L.take i)) (nI L[i]) (- sumD s (nI L[i]) d1 d2) := fun q => by
        rw [es]
        unfold clsF
        exact if_pos q
      have k3 : ∀ x : Int32, (¬ x < 0 ∧ x < 5) → (2 < x ↔ ¬ x < 3) := fun x hx => by
        obtain ⟨j, hj, rfl⟩ := isN_of (n := 5) (by omega) hx.1 hx.2
        rcases (show j = 0 ∨ j = 1 ∨ j = 2 ∨ j = 3 ∨ j = 4 by omega) with rfl | rfl | rfl | rfl | rfl <;> decide
      have hk := k3 _ (W.1.2.1 _ hm).2.1
      have body : ∀ R : Int64 → mi_D → Prop, ∀ R1 : mi_D → Prop, (∀ δ3, Lm δ3 (clsL s d1 d2 (L.take (i + 1))) → Fr [(48, 27)] [68] [69] δ δ3 → sumL (clsL s d1 d2 (L.take i)) = sumL (clsL s d1 d2 (L.take (i + 1))) → R1 δ3) → (∀ δ3, Lm δ3 (clsL s d1 d2 (L.take (i + 1))) → Fr [(48, 27)] [68] [69] δ δ3 → ∀ y w, y = sumL (clsL s d1 d2 (L.take (i + 1))) → mi_wI N d 176 118 [.ref 48, .int (nI (nN s 12)), .long y, .null, .int (nI L[i]), .long w, .null] [] δ3 Q) →
          (mi_ix (nI L[i]) 60 = true ∧ (((δ'.2.1 52 (Int32.toNatClampNeg (nI L[i]))) = 0 → (mi_ix (nI L[i]) 60 = true ∧ ((2 < (δ'.2.1 50 (Int32.toNatClampNeg (nI L[i]))) → (mi_wI N (d - 1) 159 0 [.ref 48, .int (nI (nN s 12))] [] δ' (fun r3 δ2 => (mi_ix (nI (nN s 12)) 24 = true ∧ (mi_wL N (d - 1) 174 0 [.ref 48, .int (nI L[i]), .int r3, .int (δ2.2.1 56 (Int32.toNatClampNeg (nI (nN s 12)))), .null, .null, .null, .null] [] δ2 (fun r5 δ4 => (((lg_cmp r5 0) = 0 → mi_wI N d 176 118 [.ref 48, .int (nI (nN s 12)), .long (sumL (clsL s d1 d2 (L.take i))), .null, .int (nI L[i]), .long r5, .null] [] δ4 Q) ∧ (¬ (lg_cmp r5 0) = 0 → (mi_wV N (d - 1) 164 0 [.ref 48, .int (nI L[i]), .long (-r5), .null] [] δ4 (fun δ6 => (∀ x7 : Int64, x7 = ((sumL (clsL s d1 d2 (L.take i))) - r5) → mi_wI N d 176 118 [.ref 48, .int (nI (nN s 12)), .long x7, .null, .int (nI L[i]), .long r5, .null] [] δ6 Q))))))))))) ∧ (¬ 2 < (δ'.2.1 50 (Int32.toNatClampNeg (nI L[i]))) → R1 δ')))) ∧ (¬ (δ'.2.1 52 (Int32.toNatClampNeg (nI L[i]))) = 0 → R1 δ'))) := by
        intro R R1 h1 h2
        rw [nI_clamp (by omega), (G' δ' f').2.1 52 (by decide), (G' δ' f').2.1 50 (by decide)]
        refine ⟨hx, fun q => ⟨hx, fun q2 => cm_firstDay (by omega) (G' δ' f') (by omega) ⟨mi_ix_nI (by omega) (by omega), ?_⟩, fun q2 => ?_⟩, fun q => ?_⟩
        · rw [nI_clamp (by omega), (G' δ' f').2.1 56 (by decide), ← ed1, ← ed2]
          refine cm_sumOf (by omega) (G' δ' f') W.2.2.1 ⟨fun q3 => ?_, fun q3 => ?_⟩
          · have e := skip (fun z => z.2.2 (zc_eq.mp q3))
            exact h2 δ' (by rw [e]; exact X') f' _ _ (by rw [e])
          · have e := take ⟨q, hk.mp q2, fun z => q3 (zc_eq.mpr z)⟩
            refine cm_hand (by omega) X' (by omega) (fun δ3 X3 f3 x7 e7 => h2 δ3 (by rw [e]; exact X3) (f'.tr f3) _ _ ?_)
            rw [e7, e, sumL_add, Int64.sub_eq_add_neg]
        · have e := skip (fun z => q2 (hk.mpr z.2.1))
          exact h1 δ' (by rw [e]; exact X') f' (by rw [e])
        · have e := skip (fun z => q z.1)
          exact h1 δ' (by rw [e]; exact X') f' (by rw [e])
      have hne : ¬ idx s i = -1 := by rw [ei]; exact nI_ne1 (by omega)
      rw [ei] at hne ⊢
      exact ⟨q12_close_51 (by omega) (brF hne (body (fun _ _ => True) _ (fun δ3 a b c => (nx δ3 a b _ c).1) (fun δ3 a b y w c => (nx δ3 a b y c).2 w))), fun w => q12_close_51a (by omega) (brF hne (body (fun _ _ => True) _ (fun δ3 a b c => (nx δ3 a b _ c).2 w) (fun δ3 a b y w c => (nx δ3 a b y c).2 w)))⟩
  have G2 : Agr s δ2 := G.fr f2 (by decide) (by decide) (by decide)
  exact cm_nextCode (by omega) G2 W.1 (fun r hr => by
    rw [nxt_idx W.1 (i := 0) (by omega) hr]
    exact (H 0 (by omega) δ2 X2 f2).1)
end MCL
