/-! the sheet: rows -/
def cdB (x : Int32) : List Int32 := [48 + ((x / 1000) - (x / 1000) / 10 * 10), 48 + ((x / 100) - (x / 100) / 10 * 10), 48 + ((x / 10) - (x / 10) / 10 * 10), 48 + (x - x / 10 * 10), 32]
def rB (s : mi_D) (a : Nat) : List Int32 := List.replicate (2 * (s.2.1 53 a).toNatClampNeg) 32 ++ (cdB (s.2.1 49 a) ++ (mnB (tu s (s.2.2 55) (nI a) (nN s 2)) ++ [10]))
def tB (c : Int32) (v : Int64) : List Int32 := c :: 32 :: (mnB v ++ [10])
theorem cd_first {x : Int32} (h1 : ¬ x < 1) (h2 : ¬ 9999 < x) : (x / 1000) - (x / 1000) / 10 * 10 = x / 1000 := by
  have h0 : ¬ x < 0 := fun q => h1 (by
    rw [Int32.lt_iff_toInt_lt] at *
    have e1 : (1 : Int32).toInt = 1 := by decide
    have e0 : (0 : Int32).toInt = 0 := by decide
    omega)
  obtain ⟨c, hc, rfl⟩ := nI_of h0
  have hc9 : ¬ 9999 < c := fun q => h2 (nI_lt (a := 9999) q (by omega))
  have e1 : nI c / 1000 = nI (c / 1000) := pk_div (d := 1000) hc (by omega) (by omega)
  have e2 : nI (c / 1000) / 10 = nI (c / 1000 / 10) := pk_div (d := 10) (by omega) (by omega) (by omega)
  rw [e1, e2, show c / 1000 / 10 = 0 by omega, nI_0]
  have e3 : (0 : Int32) * 10 = 0 := by decide
  rw [e3, Int32.sub_zero]
theorem rB_len {s : mi_D} (W : WfA s) {a : Nat} (ha : a < nN s 2) : (rB s a).length ≤ 60 := by
  obtain ⟨e, he, ee⟩ := dep5 W ha
  have h := mnB_len (tu s (s.2.2 55) (nI a) (nN s 2))
  have hc : (cdB (s.2.1 49 a)).length = 5 := rfl
  unfold rB
  rw [ee, nI_clamp (by omega), List.length_append, List.length_append, List.length_append, List.length_replicate, List.length_singleton, hc]
  omega
theorem tB_len (c : Int32) (v : Int64) : (tB c v).length ≤ 60 := by
  have h := mnB_len v
  unfold tB
  rw [List.length_cons, List.length_cons, List.length_append, List.length_singleton]
  omega
section SROW
variable {N d : Nat} {δ s : mi_D} {f : Nat → Int32} {B : List Int32}
theorem cc_writeTotal (hd : 7 ≤ d) (X : Sp δ f B) (hB : B.length + 60 < 2 ^ 30) {c : Int32} {v : Int64} {Q : mi_D → Prop} (k : ∀ δ', Sp δ' f (B ++ tB c v) → Fr [(45, 3)] [46, 47] [] δ δ' → Q δ') : mi_wV N d 108 0 [.ref 45, .int c, .long v, .null] [] δ Q := by
  unfold tB at k
  rw [app_c, app_c, ← List.append_assoc] at k
  have h39 := mnB_len v
  refine q10_writeTotal_0 (by omega) (cc_sput (by omega) X (by omega) (fun δ1 X1 f1 => cc_sput (by omega) X1 (by simp only [List.length_append, List.length_singleton]; omega) (fun δ2 X2 f2 => cc_putMoney (by omega) X2 (by simp only [List.length_append, List.length_singleton]; omega) (fun δ3 X3 f3 => cc_sput (by omega) X3 (by simp only [List.length_append, List.length_singleton]; omega) (fun δ4 X4 f4 => k δ4 X4 ?_)))))
  exact (f1.wk (by decide) (by decide) (by decide)).tr ((f2.wk (by decide) (by decide) (by decide)).tr (f3.tr (f4.wk (by decide) (by decide) (by decide))))
theorem cc_writeRow (hd : 9 ≤ d) (A : AbA δ s) (W : WfA s) {a : Nat} (ha : a < nN s 2) (X : Sp δ f B) (hB : B.length + 60 < 2 ^ 30) {Q : mi_D → Prop} (k : ∀ δ', Sp δ' f (B ++ rB s a) → Fr [(45, 3)] [46, 47] [] δ δ' → Q δ') : mi_wV N d 109 0 [.ref 45, .int (nI a), .null] [] δ Q := by
  have h60 := W.1.2
  obtain ⟨e, he, ee⟩ := dep5 W ha
  have h39 := mnB_len (tu s (s.2.2 55) (nI a) (nN s 2))
  unfold rB at k
  rw [ee, nI_clamp (by omega)] at k
  refine q10_writeRow_0 (by omega) ?_
  suffices H : ∀ i, i ≤ e → ∀ δ1, Sp δ1 f (B ++ List.replicate (2 * i) 32) → Fr [(45, 3)] [46, 47] [] δ δ1 → mi_wV N d 109 2 [.ref 45, .int (nI a), .int (nI i)] [] δ1 Q by
    have q := H 0 (by omega) δ (by rw [Nat.mul_zero, List.replicate_zero, List.append_nil]; exact X) (Fr.rf _ _ _ _)
    rwa [nI_0] at q
  intro i hi
  have A' : ∀ δ1, Fr [(45, 3)] [46, 47] [] δ δ1 → AbA δ1 s := fun δ1 f1 => A.c (f1.kp (by decide) (by decide) (by decide))
  have at8 : ∀ δ1, Fr [(45, 3)] [46, 47] [] δ δ1 → mi_at δ1 8 (nI a) = nI e := fun δ1 f1 => by rw [mi_at_nI _ _ (by omega), (A' δ1 f1).2.2.2.2.2.1, ee]
  refine up_ind (P := fun i => ∀ δ1, Sp δ1 f (B ++ List.replicate (2 * i) 32) → Fr [(45, 3)] [46, 47] [] δ δ1 → mi_wV N d 109 2 [.ref 45, .int (nI a), .int (nI i)] [] δ1 Q) ?_ ?_ hi
  · intro δ1 X1 F1
    refine q10_writeRow_2 (by omega) ?_
    rw [at8 δ1 F1]
    refine brF (nI_nlt (Nat.le_refl _) (by omega)) (fun x1 e1 => ?_)
    have ex : x1 = s.2.1 49 a := by rw [e1, mi_at_nI _ _ (by omega), (A' δ1 F1).2.1]
    rw [← ex] at k
    obtain ⟨B1, eB1⟩ : ∃ B1, B1 = B ++ List.replicate (2 * e) 32 := ⟨_, rfl⟩
    have hB1 : B1.length = B.length + 2 * e := by rw [eB1, List.length_append, List.length_replicate]
    rw [← eB1] at X1
    unfold cdB at k
    rw [← List.append_assoc, ← eB1, List.cons_append, List.cons_append, List.cons_append, List.cons_append, List.cons_append, List.nil_append, app_c, app_c, app_c, app_c, app_c, ← List.append_assoc] at k
    have w : ∀ {δ1 δ2 : mi_D}, Fr [(45, 3)] [46] [] δ1 δ2 → Fr [(45, 3)] [46, 47] [] δ1 δ2 := fun h => h.wk (by decide) (by decide) (by decide)
    refine cc_sput (by omega) X1 (by omega) (fun δ2 X2 f2 => cc_sput (by omega) X2 (by simp only [List.length_append, List.length_singleton]; omega) (fun δ3 X3 f3 => cc_sput (by omega) X3 (by simp only [List.length_append, List.length_singleton]; omega) (fun δ4 X4 f4 => cc_sput (by omega) X4 (by simp only [List.length_append, List.length_singleton]; omega) (fun δ5 X5 f5 => cc_sput (by omega) X5 (by simp only [List.length_append, List.length_singleton]; omega) (fun δ6 X6 f6 => ?_)))))
    have F6 := F1.tr ((w f2).tr ((w f3).tr ((w f4).tr ((w f5).tr (w f6)))))
    refine cc_totalUnder (by omega) (gk_11 N) (gl_11 N) (A' δ6 F6) W (fun b _ => by rw [(A' δ6 F6).2.2.2.2.2.2.2.1]) (show isAc s (nI a) by unfold isAc; rw [W.1.1]; exact inR_j ha (by omega)) ?_
    refine cc_putMoney (by omega) X6 (by simp only [List.length_append, List.length_singleton]; omega) (fun δ7 X7 f7 => cc_sput (by omega) X7 (by simp only [List.length_append, List.length_singleton]; omega) (fun δ8 X8 f8 => k δ8 X8 (F6.tr (f7.tr (w f8)))))
  · intro i hi ih δ1 X1 F1
    refine q10_writeRow_2 (by omega) ?_
    rw [at8 δ1 F1, nI_1]
    have hl : (B ++ List.replicate (2 * i) (32 : Int32)).length = B.length + 2 * i := by rw [List.length_append, List.length_replicate]
    refine brT (nI_lt hi (by omega)) (cc_sput (by omega) X1 (by omega) (fun δ2 X2 f2 => cc_sput (by omega) X2 (by rw [List.length_append, List.length_singleton]; omega) (fun δ3 X3 f3 => ih δ3 ?_ (F1.tr ((f2.tr f3).wk (by decide) (by decide) (by decide))))))
    rw [show 2 * (i + 1) = 2 * i + 1 + 1 by omega, List.replicate_succ', List.replicate_succ', ← List.append_assoc, ← List.append_assoc]
    exact X3
abbrev GA (s δ : mi_D) : Prop := Kp [(48, 2)] [49, 50, 51, 52, 53, 54] [55] s δ
theorem GA.fr {s δ δ' : mi_D} {fs : List (Nat × Nat)} {as ls : List Nat} (G : GA s δ) (F : Fr fs as ls δ δ') (h1 : (48, 2) ∉ fs) (h2 : ∀ a, a ∈ [49, 50, 51, 52, 53, 54] → a ∉ as) (h3 : 55 ∉ ls) : GA s δ' :=
  G.tr (F.kp (fun p hp => by rw [List.mem_singleton.mp hp]; exact h1) h2 (fun p hp => by rw [List.mem_singleton.mp hp]; exact h3))
theorem tu_GA {s δ : mi_D} (G : GA s δ) (g : Int32) : tu δ (δ.2.2 55) g (nN δ 2) = tu s (s.2.2 55) g (nN s 2) := by
  have e51 : δ.2.1 51 = s.2.1 51 := G.2.1 51 (by decide)
  have e52 : δ.2.1 52 = s.2.1 52 := G.2.1 52 (by decide)
  have e55 : δ.2.2 55 = s.2.2 55 := G.2.2 55 (by decide)
  have en : nN δ 2 = nN s 2 := by unfold nN; rw [G.1 (48, 2) (by decide)]
  have ea : ∀ a n, anc δ a n = anc s a n := by
    intro a n
    induction n with
    | zero => rfl
    | succ n ih => rw [anc_s, anc_s, ih]; unfold mi_at; rw [e51]
  rw [en, e55]
  unfold tu
  refine itN_congr (fun a ha x => ?_)
  have hu : und δ a g ↔ und s a g := ⟨fun ⟨n, h1, h2⟩ => ⟨n, h1, by rw [← ea]; exact h2⟩, fun ⟨n, h1, h2⟩ => ⟨n, h1, by rw [ea]; exact h2⟩⟩
  by_cases z : s.2.1 52 a = 0 ∧ und s a g
  · rw [if_pos z, if_pos ⟨by rw [e52]; exact z.1, hu.mpr z.2⟩]
  · rw [if_neg z, if_neg (fun q => z ⟨by rw [← e52]; exact q.1, hu.mp q.2⟩)]
theorem cm_total (hd : 6 ≤ d) (G : GA s δ) (W : WfA s) {a : Nat} (ha : a < nN s 2) {Q : Int64 → mi_D → Prop} (k : Q (tu s (s.2.2 55) (nI a) (nN s 2)) δ) : mi_wL N d 194 0 [.ref 48, .int (nI a), .null, .null, .null] [] δ Q := by
  have h60 := W.1.2
  refine cm_balanceOf hd (s := δ) Kp.rf (W.m (G.wk (by decide) (by decide) (by decide))) (nI_ne1 (by omega)) ?_
  rw [tu_GA G]
  exact k
theorem cm_row (hd : 8 ≤ d) (G : GA s δ) (W : WfA s) {a : Nat} (ha : a < nN s 2) (X : Sm δ f B) (hB : B.length + 120 < 2 ^ 30) {Q : mi_D → Prop} (k : ∀ δ', Sm δ' f (B ++ rB s a) → Fr [(48, 36)] [72, 73] [] δ δ' → Q δ') : mi_wV N d 203 0 [.ref 48, .int (nI a), .null] [] δ Q := by
  have h60 := W.1.2
  obtain ⟨e, he, ee⟩ := dep5 W ha
  have h39 := mnB_len (tu s (s.2.2 55) (nI a) (nN s 2))
  have hx : mi_ix (nI a) 60 = true := mi_ix_nI (by omega) (by omega)
  have hca : (nI a).toNatClampNeg = a := nI_clamp (by omega)
  have w1 := (W.2.1 a ha).1
  unfold rB at k
  rw [ee, nI_clamp (by omega)] at k
  have G' : ∀ δ1, Fr [(48, 36)] [72, 73] [] δ δ1 → GA s δ1 := fun δ1 f1 => G.fr f1 (by decide) (by decide) (by decide)
  refine q12_row_0 (by omega) ?_
  suffices H : ∀ i, i ≤ 2 * e → ∀ δ1, Sm δ1 f (B ++ List.replicate i 32) → Fr [(48, 36)] [72, 73] [] δ δ1 → mi_wV N d 203 2 [.ref 48, .int (nI a), .int (nI i)] [] δ1 Q by
    have q := H 0 (by omega) δ (by rw [List.replicate_zero, List.append_nil]; exact X) (Fr.rf _ _ _ _)
    rwa [nI_0] at q
  intro i hi
  have m2 : ∀ δ1, Fr [(48, 36)] [72, 73] [] δ δ1 → 2 * δ1.2.1 53 (nI a).toNatClampNeg = nI (2 * e) := fun δ1 f1 => by rw [hca, (G' δ1 f1).2.1 53 (by decide), ee]; exact pk_mul 2 e
  refine up_ind (P := fun i => ∀ δ1, Sm δ1 f (B ++ List.replicate i 32) → Fr [(48, 36)] [72, 73] [] δ δ1 → mi_wV N d 203 2 [.ref 48, .int (nI a), .int (nI i)] [] δ1 Q) ?_ ?_ hi
  · intro δ1 X1 F1
    refine q12_row_2 (by omega) ⟨hx, ?_⟩
    rw [m2 δ1 F1]
    refine brF (nI_nlt (Nat.le_refl _) (by omega)) ⟨hx, ?_⟩
    have e49 : ∀ δ1, Fr [(48, 36)] [72, 73] [] δ δ1 → δ1.2.1 49 (nI a).toNatClampNeg = s.2.1 49 a := fun δ1 f1 => by rw [hca, (G' δ1 f1).2.1 49 (by decide)]
    rw [e49 δ1 F1]
    obtain ⟨x1, ex⟩ : ∃ x1, x1 = s.2.1 49 a := ⟨_, rfl⟩
    rw [← ex] at e49 k w1 ⊢
    obtain ⟨B1, eB1⟩ : ∃ B1, B1 = B ++ List.replicate (2 * e) 32 := ⟨_, rfl⟩
    have hB1 : B1.length = B.length + 2 * e := by rw [eB1, List.length_append, List.length_replicate]
    rw [← eB1] at X1
    unfold cdB at k
    rw [cd_first w1.1 w1.2, ← List.append_assoc, ← eB1, List.cons_append, List.cons_append, List.cons_append, List.cons_append, List.cons_append, List.nil_append, app_c, app_c, app_c, app_c, app_c, ← List.append_assoc] at k
    have w : ∀ {δ1 δ2 : mi_D}, Fr [(48, 36)] [72] [] δ1 δ2 → Fr [(48, 36)] [72, 73] [] δ1 δ2 := fun h => h.wk (by decide) (by decide) (by decide)
    refine cm_sput (by omega) X1 (by omega) (fun δ2 X2 f2 => ⟨hx, ?_⟩)
    have F2 := F1.tr (w f2)
    rw [e49 δ2 F2]
    refine cm_sput (by omega) X2 (by simp only [List.length_append, List.length_singleton]; omega) (fun δ3 X3 f3 => ⟨hx, ?_⟩)
    have F3 := F2.tr (w f3)
    rw [e49 δ3 F3]
    refine cm_sput (by omega) X3 (by simp only [List.length_append, List.length_singleton]; omega) (fun δ4 X4 f4 => ⟨hx, ?_⟩)
    have F4 := F3.tr (w f4)
    rw [e49 δ4 F4]
    refine cm_sput (by omega) X4 (by simp only [List.length_append, List.length_singleton]; omega) (fun δ5 X5 f5 => cm_sput (by omega) X5 (by simp only [List.length_append, List.length_singleton]; omega) (fun δ6 X6 f6 => ?_))
    have F6 := F4.tr ((w f5).tr (w f6))
    refine cm_total (by omega) (G' δ6 F6) W ha ?_
    refine cm_money (by omega) X6 (by simp only [List.length_append, List.length_singleton]; omega) (fun δ7 X7 f7 => cm_sput (by omega) X7 (by simp only [List.length_append, List.length_singleton]; omega) (fun δ8 X8 f8 => k δ8 X8 (F6.tr (f7.tr (w f8)))))
  · intro i hi ih δ1 X1 F1
    refine q12_row_2 (by omega) ⟨hx, ?_⟩
    rw [m2 δ1 F1, nI_1]
    have hl : (B ++ List.replicate i (32 : Int32)).length = B.length + i := by rw [List.length_append, List.length_replicate]
    refine brT (nI_lt hi (by omega)) (cm_sput (by omega) X1 (by omega) (fun δ2 X2 f2 => ih δ2 ?_ (F1.tr (f2.wk (by decide) (by decide) (by decide)))))
    rw [List.replicate_succ', ← List.append_assoc]
    exact X2
end SROW
