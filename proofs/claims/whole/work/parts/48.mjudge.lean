/-! the model: lines at hand, judging -/
def Lm (δ : mi_D) (l : Ln) : Prop := δ.1 48 27 = nI l.1 ∧ (∀ i, i < l.1 → δ.2.1 68 i = l.2.1 i) ∧ (∀ i, i < l.1 → δ.2.2 69 i = l.2.2 i)
theorem Lm.fr {fs : List (Nat × Nat)} {as ls : List Nat} {δ δ' : mi_D} {l : Ln} (h : Lm δ l) (f : Fr fs as ls δ δ') (h1 : (48, 27) ∉ fs) (h2 : 68 ∉ as) (h3 : 69 ∉ ls) : Lm δ' l := by
  unfold Lm at *
  rw [f.1 _ _ h1, f.2.1 _ h2, f.2.2 _ h3]
  exact h
theorem addL_at {la : Nat → Int32} {lb : Nat → Int64} {l : Ln} (h1 : ∀ i, i < l.1 → la i = l.2.1 i) (h2 : ∀ i, i < l.1 → lb i = l.2.2 i) (a : Int32) (v : Int64) : (∀ i, i < (addL l a v).1 → up1 la l.1 a i = (addL l a v).2.1 i) ∧ (∀ i, i < (addL l a v).1 → up1 lb l.1 v i = (addL l a v).2.2 i) := by
  refine ⟨fun i hi => ?_, fun i hi => ?_⟩
  · have hi' : i < l.1 + 1 := hi
    show up1 la l.1 a i = up1 l.2.1 l.1 a i
    by_cases e : i = l.1
    · subst e; rw [up1_s, up1_s]
    · rw [up1_n _ _ e, up1_n _ _ e]; exact h1 i (by omega)
  · have hi' : i < l.1 + 1 := hi
    show up1 lb l.1 v i = up1 l.2.2 l.1 v i
    by_cases e : i = l.1
    · subst e; rw [up1_s, up1_s]
    · rw [up1_n _ _ e, up1_n _ _ e]; exact h2 i (by omega)
/-! which period has a day -/
theorem pAt_neg {s : mi_D} {dy : Int32} {n : Nat} (h : ∀ q, q < n → dy < 0 ∨ s.2.1 56 q < dy) : pAt s dy n = -1 := by
  induction n with
  | zero => rfl
  | succ n ih =>
    have e := ih (fun q hq => h q (by omega))
    show (if ¬ pAt s dy n = -1 then pAt s dy n else if ¬ dy < 0 ∧ ¬ s.2.1 56 n < dy then nI n else -1) = -1
    rw [if_neg (fun q => q e), if_neg (fun q => (h n (by omega)).elim q.1 q.2)]
theorem pAt_sp {s : mi_D} {dy : Int32} (n : Nat) (hn : n < 2 ^ 31) : (pAt s dy n = -1 ∧ ∀ q, q < n → dy < 0 ∨ s.2.1 56 q < dy) ∨ ∃ p, p < n ∧ pAt s dy n = nI p ∧ ¬ dy < 0 ∧ ¬ s.2.1 56 p < dy ∧ ∀ q, q < p → dy < 0 ∨ s.2.1 56 q < dy := by
  induction n with
  | zero => exact Or.inl ⟨rfl, fun q h => by omega⟩
  | succ n ih =>
    have ed : pAt s dy (n + 1) = if ¬ pAt s dy n = -1 then pAt s dy n else if ¬ dy < 0 ∧ ¬ s.2.1 56 n < dy then nI n else -1 := rfl
    rcases ih (by omega) with ⟨z, hq⟩ | ⟨p, hp, e, z1, z2, z3⟩
    · rw [if_neg (fun q => q z)] at ed
      by_cases h2 : ¬ dy < 0 ∧ ¬ s.2.1 56 n < dy
      · rw [if_pos h2] at ed
        exact Or.inr ⟨n, by omega, ed, h2.1, h2.2, hq⟩
      · rw [if_neg h2] at ed
        refine Or.inl ⟨ed, fun q hq2 => ?_⟩
        rcases Nat.lt_or_eq_of_le (Nat.lt_succ_iff.mp hq2) with z | z
        · exact hq q z
        · subst z
          by_cases w : dy < 0
          · exact Or.inl w
          · exact Or.inr (Decidable.not_not.mp (fun y => h2 ⟨w, y⟩))
    · rw [if_pos (by rw [e]; exact nI_ne1 (by omega))] at ed
      exact Or.inr ⟨p, by omega, by rw [ed, e], z1, z2, z3⟩
/-- the days of a period, as the model has them -/
theorem pAt_in {s : mi_D} (W : WfP s) {dy : Int32} {p : Nat} (hp : p < nN s 11) : (¬ dy < fday s (nI p) ∧ ¬ s.2.1 56 p < dy) ↔ pAt s dy (nN s 11) = nI p := by
  have h24 := W.1.2
  have hd : ∀ q, q < nN s 11 → ∃ dd, dd ≤ 9999 ∧ s.2.1 56 q = nI dd ∧ (∀ r, r < q → s.2.1 56 r < s.2.1 56 q) := W.2.2.2.1
  have key : ¬ dy < fday s (nI p) ↔ ¬ dy < 0 ∧ ∀ q, q < p → s.2.1 56 q < dy := by
    rcases Nat.eq_zero_or_pos p with z | z
    · subst z
      have : fday s (nI 0) = 0 := if_pos nI_0
      rw [this]
      exact ⟨fun h => ⟨h, fun q hq => absurd hq (Nat.not_lt_zero q)⟩, fun h => h.1⟩
    · obtain ⟨m, rfl⟩ : ∃ m, p = m + 1 := ⟨p - 1, by omega⟩
      obtain ⟨dd, hdd, edd, hmono⟩ := hd m (by omega)
      have ef : fday s (nI (m + 1)) = nI (dd + 1) := by
        unfold fday
        rw [if_neg (fun q => by have := (nI_eq (a := m + 1) (b := 0) (by omega) (by omega)).mp (q.trans nI_0.symm); omega), nI_pred, mi_at_nI _ _ (by omega), edd, nI_1]
      rw [ef]
      have ed1 : (nI (dd + 1)).toInt = dd + 1 := by rw [nI_toInt (by omega)]; omega
      have ed0 : (nI dd).toInt = dd := nI_toInt (by omega)
      have e0 : (0 : Int32).toInt = 0 := by decide
      constructor
      · intro h
        rw [Int32.lt_iff_toInt_lt, ed1] at h
        refine ⟨fun q => ?_, fun q hq => ?_⟩
        · rw [Int32.lt_iff_toInt_lt, e0] at q
          omega
        · have hm : s.2.1 56 m < dy := by
            rw [edd, Int32.lt_iff_toInt_lt, ed0]
            omega
          rcases Nat.lt_or_eq_of_le (Nat.lt_succ_iff.mp hq) with w | w
          · have := hmono q w
            rw [Int32.lt_iff_toInt_lt] at *
            omega
          · subst w; exact hm
      · intro h q
        have hm := h.2 m (by omega)
        rw [edd, Int32.lt_iff_toInt_lt, ed0] at hm
        rw [Int32.lt_iff_toInt_lt, ed1] at q
        omega
  rw [key]
  constructor
  · intro ⟨⟨h1, h2⟩, h3⟩
    have e : pAt s dy (p + 1) = nI p := by
      show (if ¬ pAt s dy p = -1 then pAt s dy p else if ¬ dy < 0 ∧ ¬ s.2.1 56 p < dy then nI p else -1) = nI p
      rw [pAt_neg (fun q hq => Or.inr (h2 q hq)), if_neg (fun q => q rfl), if_pos ⟨h1, h3⟩]
    rw [pAt_le (n := p + 1) hp (by rw [e]; exact nI_ne1 (by omega)), e]
  · intro h
    rcases pAt_sp (s := s) (dy := dy) (nN s 11) (by omega) with ⟨z, _⟩ | ⟨q, hq, e, z1, z2, z3⟩
    · rw [h] at z
      exact absurd z (nI_ne1 (by omega))
    · rw [h] at e
      have := (nI_eq (by omega) (by omega)).mp e
      subst this
      exact ⟨⟨z1, fun r hr => (z3 r hr).resolve_left z1⟩, z2⟩
section MJD
variable {N d : Nat} {δ s : mi_D} {l : Ln}
theorem cm_hand (hd : 5 ≤ d) (X : Lm δ l) (hn : l.1 < 64) {a : Int32} {v : Int64} {Q : mi_D → Prop} (k : ∀ δ', Lm δ' (addL l a v) → Fr [(48, 27)] [68] [69] δ δ' → Q δ') : mi_wV N d 164 0 [.ref 48, .int a, .long v, .null] [] δ Q := by
  refine q12_hand_0 hd ?_
  rw [X.1]
  refine ⟨mi_ix_nI hn (by omega), fun δ1 e1 => ?_⟩
  rw [nI_clamp (by omega)] at e1
  have d1 : δ1.1 48 27 = nI l.1 := by rw [e1]; exact X.1
  rw [d1]
  refine ⟨mi_ix_nI hn (by omega), fun δ2 e2 δ3 e3 => ?_⟩
  rw [nI_clamp (by omega)] at e2
  have d2 : δ2.1 48 27 = nI l.1 := by rw [e2]; exact d1
  rw [d2, nI_1] at e3
  have h := addL_at X.2.1 X.2.2 a v
  refine k δ3 ⟨by rw [e3, pI_f, if_pos ⟨rfl, rfl⟩]; rfl, ?_, ?_⟩ ?_
  · have e : δ3.2.1 68 = up1 (δ.2.1 68) l.1 a := by rw [e3, pI_a, e2, pL_a, e1, pA_a, if_pos rfl]
    rw [e]
    exact h.1
  · have e : δ3.2.2 69 = up1 (δ.2.2 69) l.1 v := by rw [e3, pI_l, e2, pL_l, if_pos rfl, e1, pA_l]
    rw [e]
    exact h.2
  · subst e3 e2 e1
    exact ((Fr.setA (by decide)).tr (Fr.setL (by decide))).xI (by decide)
theorem cm_periodAt (hd : 6 ≤ d) (G : Agr s δ) (W : WfP s) {dy : Int32} {Q : Int32 → mi_D → Prop} (k : Q (pAt s dy (nN s 11)) δ) : mi_wI N d 165 0 [.ref 48, .int dy, .null, .null] [] δ Q := by
  have h24 := W.1.2
  have d11 : δ.1 48 11 = nI (nN s 11) := (G.1 (48, 11) (by decide)).trans W.1.1
  have e56 : δ.2.1 56 = s.2.1 56 := G.2.1 56 (by decide)
  obtain ⟨t, et⟩ : ∃ t, pAt s dy (nN s 11) = t := ⟨_, rfl⟩
  refine q12_periodAt_0 (by omega) (fun x1 e1 => ?_)
  rw [d11] at e1
  subst e1
  suffices H : ∀ i, i ≤ nN s 11 → ∀ c, (∀ p, p < nN s 11 → t = nI p → i ≤ p → c = t) → ((t = -1 ∨ ∃ p, p < i ∧ t = nI p) → c = -1) → mi_wI N d 165 9 [.ref 48, .int dy, .int c, .int (nI i - 1)] [] δ Q by
    exact H _ (Nat.le_refl _) (-1) (fun p hp _ h => by omega) (fun _ => rfl)
  intro i
  induction i with
  | zero =>
    intro _ c h1 h2
    rw [nI_0]
    refine q12_periodAt_9 (by omega) (brT (by decide) ?_)
    have : c = t := by
      rcases pAt_or s dy (nN s 11) with z | ⟨p, hp, z⟩
      · rw [et] at z
        rw [h2 (Or.inl z), z]
      · rw [et] at z
        exact h1 p hp z (Nat.zero_le _)
    rw [this, ← et]
    exact k
  | succ i ih =>
    intro hi c h1 h2
    rw [nI_pred]
    refine q12_periodAt_9 (by omega) (brF (nI_pos (by omega)) (cm_firstDay (by omega) G (by omega) ⟨mi_ix_nI (by omega) (by omega), ?_⟩))
    rw [nI_clamp (by omega), e56]
    have hin := pAt_in W (dy := dy) (p := i) (by omega)
    rw [et] at hin
    have em : nI i + -1 = nI i - 1 := by rw [Int32.sub_eq_add_neg]
    rw [em]
    refine c_inI (by omega) rfl rfl (fun a1 a2 => brN (by decide) ?_) (fun a => br0 ?_)
    · have e := hin.mp ⟨a1, a2⟩
      refine ih (by omega) _ (fun p hp ep _ => e.symm) (fun z => ?_)
      rcases z with z | ⟨p, hp, z⟩
      · rw [e] at z; exact absurd z (nI_ne1 (by omega))
      · rw [e] at z
        have := (nI_eq (by omega) (by omega)).mp z
        omega
    · have e : ¬ t = nI i := fun z => by
        have := hin.mpr z
        exact a.elim this.1 this.2
      refine ih (by omega) c (fun p hp ep hip => ?_) (fun z => ?_)
      · rcases Nat.lt_or_eq_of_le hip with w | w
        · exact h1 p hp ep w
        · subst w; exact absurd ep e
      · rcases z with z | ⟨p, hp, z⟩
        · exact h2 (Or.inl z)
        · exact h2 (Or.inr ⟨p, by omega, z⟩)
theorem cm_isOver (hd : 6 ≤ d) (G : Agr s δ) (W : WfA s) (X : Lm δ l) (hn : l.1 ≤ 60) (hA : LnA (nN s 2) l) {Q : Int32 → mi_D → Prop} (k : Q (bI (over s l)) δ) : mi_wI N d 166 0 [.ref 48, .null, .null, .null, .null] [] δ Q := by
  have h60 := W.1.2
  have e55 : δ.2.2 55 = s.2.2 55 := G.2.2 55 (by decide)
  refine q12_isOver_0 (by omega) ?_
  suffices H : ∀ i, i ≤ l.1 → (∀ j, j < i → wtn (mi_al s 55 (l.2.1 j) + tot l (l.2.1 j)) 10000000000000000) → mi_wI N d 166 2 [.ref 48, .int (nI i), .null, .null, .null] [] δ Q ∧ ∀ x y, mi_wI N d 166 2 [.ref 48, .int (nI i), .long x, .null, .int y] [] δ Q by
    have q := (H 0 (by omega) (fun j hj => absurd hj (Nat.not_lt_zero j))).1
    rwa [nI_0] at q
  intro i hi
  refine up_ind (P := fun i => (∀ j, j < i → wtn (mi_al s 55 (l.2.1 j) + tot l (l.2.1 j)) 10000000000000000) → mi_wI N d 166 2 [.ref 48, .int (nI i), .null, .null, .null] [] δ Q ∧ ∀ x y, mi_wI N d 166 2 [.ref 48, .int (nI i), .long x, .null, .int y] [] δ Q) ?_ ?_ hi
  · intro h
    rw [bI_0 (fun ⟨j, q1, q2⟩ => q2 (h j q1))] at k
    have hF : ¬ nI l.1 < δ.1 48 27 := by rw [X.1]; exact nI_nlt (by omega) (by omega)
    exact ⟨q12_isOver_2 (by omega) (brF hF k), fun x y => q12_isOver_2a (by omega) (brF hF k)⟩
  · intro i hi ih h
    obtain ⟨a, ha, ea⟩ := hA i hi
    have hT : nI i < δ.1 48 27 := by rw [X.1]; exact nI_lt hi (by omega)
    have eal : mi_al s 55 (l.2.1 i) = s.2.2 55 a := by rw [ea, mi_al_nI _ _ (by omega)]
    have inner : ∀ j, j ≤ l.1 → mi_wI N d 166 25 [.ref 48, .int (nI i), .long (s.2.2 55 a + totI l (nI a) 0 j), .null, .int (nI j)] [] δ Q := by
      intro j hj
      refine up_ind (P := fun j => mi_wI N d 166 25 [.ref 48, .int (nI i), .long (s.2.2 55 a + totI l (nI a) 0 j), .null, .int (nI j)] [] δ Q) ?_ ?_ hj
      · refine q12_isOver_25 (by omega) (brF (by rw [X.1]; exact nI_nlt (by omega) (by omega)) ?_)
        have et : s.2.2 55 a + totI l (nI a) 0 l.1 = mi_al s 55 (l.2.1 i) + tot l (l.2.1 i) := by rw [eal, ea]; rfl
        rw [et]
        refine c_inW (by omega) (by decide) (bI_br (fun hw => ?_) (fun hw => ?_))
        · rwa [bI_1 ⟨i, hi, hw⟩] at k
        · rw [nI_1]
          exact (ih (fun j hj => by rcases Nat.lt_or_eq_of_le (Nat.lt_succ_iff.mp hj) with e | e; exact h j e; subst e; exact hw)).2 _ _
      · intro j hj ih2
        obtain ⟨b, hb, eb⟩ := hA j hj
        refine q12_isOver_25 (by omega) (brT (by rw [X.1]; exact nI_lt hj (by omega)) ⟨mi_ix_nI (by omega) (by omega), mi_ix_nI (by omega) (by omega), ?_⟩)
        rw [nI_clamp (by omega), nI_clamp (by omega), X.2.1 i hi, X.2.1 j hj, ea, X.2.2 j hj, nI_1]
        have es := totI_s l (nI a) 0 j
        refine ⟨fun q => ⟨mi_ix_nI (by omega) (by omega), fun x e => ?_⟩, fun q x e => ?_⟩
        · rw [if_pos q] at es
          rw [e, Int64.add_assoc, ← es]
          exact ih2
        · rw [if_neg q] at es
          rw [e, Int64.add_zero, ← es]
          exact ih2
    have st : mi_ix (nI i) 64 = true ∧ (mi_ix (δ.2.1 68 (nI i).toNatClampNeg) 60 = true ∧ (∀ x1 : Int64, x1 = (δ.2.2 55 (Int32.toNatClampNeg (δ.2.1 68 (nI i).toNatClampNeg))) → mi_wI N d 166 25 [.ref 48, .int (nI i), .long x1, .null, .int 0] [] δ Q)) := by
      rw [nI_clamp (by omega), X.2.1 i hi, ea, nI_clamp (by omega), e55]
      refine ⟨mi_ix_nI (by omega) (by omega), mi_ix_nI (by omega) (by omega), fun x e => ?_⟩
      have q := inner 0 (by omega)
      rw [nI_0] at q
      have ez : totI l (nI a) 0 0 = 0 := rfl
      rw [ez, Int64.add_zero] at q
      rw [e]
      exact q
    exact ⟨q12_isOver_2 (by omega) (brT hT st), fun x y => q12_isOver_2a (by omega) (brT hT st)⟩
theorem cm_judged (hd : 8 ≤ d) (G : Agr s δ) (W : Wf s) (X : Lm δ l) (hn : l.1 ≤ 60) (hA : LnA (nN s 2) l) {B : List Int32} (XB : Bm δ B) (hB : B.length ≤ 300) {dy : Int32} {Q : Int32 → mi_D → Prop}
    (k : Q (if ¬ rf_judge s l dy = 0 then rf_judge s l dy else if room s B then 0 else -13) δ) : mi_wI N d 167 0 [.ref 48, .int dy, .null, .null, .null, .null] [] δ Q := by
  have h60 := W.1.1.2
  have e54 : δ.2.1 54 = s.2.1 54 := G.2.1 54 (by decide)
  have e12 : δ.1 48 12 = s.1 48 12 := G.1 (48, 12) (by decide)
  have e15 : δ.1 48 15 = nI (nN s 15) := (G.1 (48, 15) (by decide)).trans W.2.2.1.1.1
  have ref : ∀ r, rf_judge s l dy = r → ¬ r = 0 → Q r δ := fun r er hr => by
    subst er
    rwa [if_pos hr] at k
  unfold rf_judge at ref
  refine q12_judged_0 (by omega) ?_
  rw [X.1]
  refine ⟨fun h => ref _ (by rw [if_pos ((nI_ltI (b := 2) (by omega) (by omega)).mp h)]) (by decide), fun h => ?_⟩
  have h' : ¬ l.1 < 2 := fun q => h ((nI_ltI (b := 2) (by omega) (by omega)).mpr q)
  rw [if_neg h'] at ref
  suffices H : ∀ i, i ≤ l.1 → mi_wI N d 167 19 [.ref 48, .int dy, .long (itN (fun i t => t + l.2.2 i) 0 i), .null, .int (bI (∃ j, j < i ∧ mi_at s 54 (l.2.1 j) = 1)), .int (nI i)] [] δ Q by
    have q := H 0 (by omega)
    rwa [nI_0, bI_0 (fun ⟨j, h, _⟩ => Nat.not_lt_zero j h)] at q
  intro i hi
  refine up_ind (P := fun i => mi_wI N d 167 19 [.ref 48, .int dy, .long (itN (fun i t => t + l.2.2 i) 0 i), .null, .int (bI (∃ j, j < i ∧ mi_at s 54 (l.2.1 j) = 1)), .int (nI i)] [] δ Q) ?_ ?_ hi
  · refine q12_judged_19 (by omega) (brF (by rw [X.1]; exact nI_nlt (by omega) (by omega)) ?_)
    have es : itN (fun i t => t + l.2.2 i) 0 l.1 = sumL l := rfl
    rw [es, zc_eq]
    refine ⟨fun hz => cm_periodAt (by omega) G W.2.1 ⟨fun hp => ?_, fun hp => ?_⟩, fun hz => ref _ (by rw [if_pos hz]) (by decide)⟩
    · exact ref _ (by rw [if_neg (fun q => q hz), if_pos hp]) (by decide)
    · rw [e12]
      refine ⟨fun hc => ref _ (by rw [if_neg (fun q => q hz), if_neg hp, if_pos hc]) (by decide), fun hc => bI_br (fun hs => ?_) (fun hs => ref _ (by rw [if_neg (fun q => q hz), if_neg hp, if_neg hc, if_pos hs]) (by decide))⟩
      refine cm_isOver (by omega) G W.1 X hn hA (bI_br (fun ho => ?_) (fun ho => ?_))
      · rw [e15]
        have hu : rf_judge s l dy = rf_unj s l := by
          unfold rf_judge
          rw [if_neg h', if_neg (fun q => q hz), if_neg hp, if_neg hc, if_neg hs]
        have h400 := W.2.2.1.1.2
        have hlt : nI (nN s 15) = 400 ↔ ¬ s.1 48 15 < 400 := by rw [W.2.2.1.1.1]; exact nI_eqv (m := 400) h400 (by omega)
        refine ⟨fun q => ?_, fun q => cm_hasRoom (by omega) G W.2.2.2.2.1 XB hB ?_⟩
        · exact ref _ (by rw [if_neg (fun q => q hz), if_neg hp, if_neg hc, if_neg hs]; unfold rf_unj; rw [if_neg ho, if_pos ⟨by omega, hlt.mp q⟩]) (by decide)
        · have h0 : rf_judge s l dy = 0 := by rw [hu]; unfold rf_unj; rw [if_neg ho, if_neg (fun z => q (hlt.mpr z.2))]
          rw [if_neg (fun z => z h0)] at k
          exact bI_br (fun hm => by rwa [if_neg hm] at k) (fun hm => by rwa [if_pos hm] at k)
      · exact ref _ (by rw [if_neg (fun q => q hz), if_neg hp, if_neg hc, if_neg hs]; unfold rf_unj; rw [if_pos ho]) (by decide)
  · intro i hi ih
    obtain ⟨a, ha, ea⟩ := hA i hi
    have hw := (W.1.2.1 a ha).2.2.2
    refine q12_judged_19 (by omega) (brT (by rw [X.1]; exact nI_lt hi (by omega)) ⟨mi_ix_nI (by omega) (by omega), fun x7 e7 => ?_⟩)
    rw [nI_clamp (by omega), X.2.2 i hi] at e7
    have e7' : x7 = itN (fun i t => t + l.2.2 i) 0 (i + 1) := e7
    rw [← e7'] at ih
    rw [nI_1]
    have eat : mi_at s 54 (l.2.1 i) = s.2.1 54 a := by rw [ea, mi_at_nI _ _ (by omega)]
    have up : (∃ j, j < i ∧ mi_at s 54 (l.2.1 j) = 1) → mi_wI N d 167 19 [.ref 48, .int dy, .long x7, .null, .int 1, .int (nI (i + 1))] [] δ Q := fun ⟨j, q1, q2⟩ => by
      rwa [bI_1 ⟨j, by omega, q2⟩] at ih
    refine bI_br (fun h => ⟨mi_ix_nI (by omega) (by omega), ?_⟩) up
    rw [nI_clamp (by omega), X.2.1 i hi, ea, nI_clamp (by omega), e54]
    refine ⟨mi_ix_nI (by omega) (by omega), fun q => ?_, fun q => ?_⟩
    · rwa [bI_0 (fun ⟨j, q1, q2⟩ => by
        rcases Nat.lt_or_eq_of_le (Nat.lt_succ_iff.mp q1) with z | z
        · exact h ⟨j, z, q2⟩
        · subst z; rw [eat, q] at q2; exact absurd q2 (by decide))] at ih
    · rwa [bI_1 ⟨i, by omega, by rw [eat]; exact hw.resolve_left q⟩] at ih
end MJD
