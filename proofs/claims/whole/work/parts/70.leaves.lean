/-! the sheet: leaves, kinds -/
def lvF (s : mi_D) (a : Nat) : List Int32 := if s.2.1 52 a = 0 ∧ ¬ s.2.2 55 a = 0 then rB s a else []
theorem fm_len {g : Nat → List Int32} {m : Nat} : ∀ (L : List Nat), (∀ a, a ∈ L → (g a).length ≤ m) → (L.flatMap g).length ≤ m * L.length := by
  intro L
  induction L with
  | nil => intro _; exact Nat.zero_le _
  | cons a L ih =>
    intro h
    rw [List.flatMap_cons, List.length_append, List.length_cons]
    have h1 := h a List.mem_cons_self
    have h2 := ih (fun b hb => h b (List.mem_cons_of_mem _ hb))
    rw [Nat.mul_succ]
    omega
theorem fm_take {g : Nat → List Int32} {L : List Nat} {i : Nat} (h : i < L.length) : (L.take (i + 1)).flatMap g = (L.take i).flatMap g ++ g L[i] := by
  rw [← take_sn h, List.flatMap_append, List.flatMap_cons, List.flatMap_nil, List.append_nil]
theorem lvF_len {s : mi_D} (W : WfA s) {a : Nat} (ha : a < nN s 2) : (lvF s a).length ≤ 60 := by
  unfold lvF
  split
  · exact rB_len W ha
  · exact Nat.zero_le _
/-- of one kind, of all -/
def tk (s : mi_D) (k : Nat) : Nat → Int64 := itN (fun a t => if s.2.1 52 a = 0 ∧ s.2.1 50 a = nI k then t + s.2.2 55 a else t) 0
def tall (s : mi_D) : Nat → Int64 := itN (fun a t => if s.2.1 52 a = 0 then t + s.2.2 55 a else t) 0
theorem tk_s (s : mi_D) (k n : Nat) : tk s k (n + 1) = if s.2.1 52 n = 0 ∧ s.2.1 50 n = nI k then tk s k n + s.2.2 55 n else tk s k n := rfl
theorem tall_s (s : mi_D) (n : Nat) : tall s (n + 1) = if s.2.1 52 n = 0 then tall s n + s.2.2 55 n else tall s n := rfl
theorem tk_all {s : mi_D} (W : WfA s) : ∀ n, n ≤ nN s 2 → 0 + tk s 0 n + tk s 1 n + tk s 2 n + tk s 3 n + tk s 4 n = tall s n := by
  intro n
  induction n with
  | zero => intro _; rfl
  | succ n ih =>
    intro h
    have e := ih (by omega)
    obtain ⟨j, hj, ej⟩ := isN_of (n := 5) (by omega) (W.2.1 n (by omega)).2.1.1 (W.2.1 n (by omega)).2.1.2
    have q : ∀ k, k < 5 → (s.2.1 50 n = nI k ↔ j = k) := fun k hk => by rw [ej]; exact nI_eq (by omega) (by omega)
    rw [tall_s, tk_s, tk_s, tk_s, tk_s, tk_s, ← e]
    by_cases z : s.2.1 52 n = 0
    · obtain ⟨x, ex⟩ : ∃ x, s.2.2 55 n = x := ⟨_, rfl⟩
      rw [if_pos z, ex]
      have c : ∀ k, k < 5 → (if s.2.1 52 n = 0 ∧ s.2.1 50 n = nI k then tk s k n + x else tk s k n) = if j = k then tk s k n + x else tk s k n := fun k hk => by
        by_cases w : j = k
        · rw [if_pos w, if_pos ⟨z, (q k hk).mpr w⟩]
        · rw [if_neg w, if_neg (fun y => w ((q k hk).mp y.2))]
      rw [c 0 (by omega), c 1 (by omega), c 2 (by omega), c 3 (by omega), c 4 (by omega)]
      have ac : ∀ p q r : Int64, p + q + r = p + r + q := fun p q r => by rw [Int64.add_assoc, Int64.add_comm q r, ← Int64.add_assoc]
      rcases (show j = 0 ∨ j = 1 ∨ j = 2 ∨ j = 3 ∨ j = 4 by omega) with rfl | rfl | rfl | rfl | rfl
      · rw [if_pos rfl, if_neg (by decide), if_neg (by decide), if_neg (by decide), if_neg (by decide), ← Int64.add_assoc, ac _ x, ac _ x, ac _ x, ac _ x]
      · rw [if_pos rfl, if_neg (by decide), if_neg (by decide), if_neg (by decide), if_neg (by decide), ← Int64.add_assoc, ac _ x, ac _ x, ac _ x]
      · rw [if_pos rfl, if_neg (by decide), if_neg (by decide), if_neg (by decide), if_neg (by decide), ← Int64.add_assoc, ac _ x, ac _ x]
      · rw [if_pos rfl, if_neg (by decide), if_neg (by decide), if_neg (by decide), if_neg (by decide), ← Int64.add_assoc, ac _ x]
      · rw [if_pos rfl, if_neg (by decide), if_neg (by decide), if_neg (by decide), if_neg (by decide), ← Int64.add_assoc]
    · rw [if_neg z, if_neg (fun w => z w.1), if_neg (fun w => z w.1), if_neg (fun w => z w.1), if_neg (fun w => z w.1), if_neg (fun w => z w.1)]
def ltr : Nat → Int32
  | 0 => 65
  | 1 => 68
  | 2 => 79
  | 3 => 73
  | _ => 67
def kbs (s : mi_D) : Nat → List Int32
  | 0 => []
  | i + 1 => kbs s i ++ tB (ltr i) (tk s i (nN s 2))
def ksm (s : mi_D) : Nat → Int64
  | 0 => 0
  | i + 1 => ksm s i + tk s i (nN s 2)
theorem kbs_len (s : mi_D) (i : Nat) : (kbs s i).length ≤ 60 * i := by
  induction i with
  | zero => exact Nat.zero_le _
  | succ i ih =>
    have := tB_len (ltr i) (tk s i (nN s 2))
    show (kbs s i ++ _).length ≤ _
    rw [List.length_append]
    omega
section SLV
variable {N d : Nat} {δ s : mi_D} {f : Nat → Int32} {B : List Int32}
theorem cc_writeLeaves (hd : 10 ≤ d) (A : AbA δ s) (W : WfA s) (X : Sp δ f B) (hB : B.length + 4000 < 2 ^ 30) {Q : mi_D → Prop} (k : ∀ δ', Sp δ' f (B ++ (ordN (s.2.1 49) (nN s 2)).flatMap (lvF s)) → Fr [(45, 3)] [46, 47] [] δ δ' → Q δ') : mi_wV N d 105 0 [.ref 45, .null, .null] [] δ Q := by
  have h60 := W.1.2
  obtain ⟨L, eL⟩ : ∃ L, ordN (s.2.1 49) (nN s 2) = L := ⟨_, rfl⟩
  have hlen : L.length = nN s 2 := by rw [← eL]; exact ordN_len _ _
  have hmem : ∀ y, y ∈ L → y < nN s 2 := fun y hy => by rw [← eL] at hy; exact (ordN_mem _ _ _).mp hy
  rw [eL] at k
  have A' : ∀ δ1, Fr [(45, 3)] [46, 47] [] δ δ1 → AbA δ1 s := fun δ1 f1 => A.c (f1.kp (by decide) (by decide) (by decide))
  have hl : ∀ i, i ≤ nN s 2 → (B ++ (L.take i).flatMap (lvF s)).length + 60 < 2 ^ 30 := fun i hi => by
    have := fm_len (g := lvF s) (m := 60) (L.take i) (fun a ha => lvF_len W (hmem a (List.mem_of_mem_take ha)))
    rw [List.length_take] at this
    rw [List.length_append]
    have q : 60 * min i L.length ≤ 60 * 60 := Nat.mul_le_mul_left _ (by omega)
    omega
  refine q10_writeLeaves_0 (by omega) ?_
  suffices H : ∀ i, i ≤ nN s 2 → ∀ δ1, Sp δ1 f (B ++ (L.take i).flatMap (lvF s)) → Fr [(45, 3)] [46, 47] [] δ δ1 → mi_wV N d 105 2 [.ref 45, .int (nI i), .null] [] δ1 Q ∧ ∀ x, mi_wV N d 105 2 [.ref 45, .int (nI i), .int x] [] δ1 Q by
    have q := (H 0 (by omega) δ (by rw [List.take_zero, List.flatMap_nil, List.append_nil]; exact X) (Fr.rf _ _ _ _)).1
    rwa [nI_0] at q
  intro i hi
  refine up_ind (P := fun i => ∀ δ1, Sp δ1 f (B ++ (L.take i).flatMap (lvF s)) → Fr [(45, 3)] [46, 47] [] δ δ1 → mi_wV N d 105 2 [.ref 45, .int (nI i), .null] [] δ1 Q ∧ ∀ x, mi_wV N d 105 2 [.ref 45, .int (nI i), .int x] [] δ1 Q) ?_ ?_ hi
  · intro δ1 X1 F1
    rw [List.take_of_length_le (by omega)] at X1
    have hF : ¬ nI (nN s 2) < δ1.1 4 9 := by rw [(A' δ1 F1).1, W.1.1]; exact nI_nlt (by omega) (by omega)
    exact ⟨q10_writeLeaves_2 (by omega) (brF hF (k δ1 X1 F1)), fun x => q10_writeLeaves_2a (by omega) (brF hF (k δ1 X1 F1))⟩
  · intro i hi ih δ1 X1 F1
    have hT : nI i < δ1.1 4 9 := by rw [(A' δ1 F1).1, W.1.1]; exact nI_lt hi (by omega)
    have hq : i < L.length := by omega
    have hm : L[i] < nN s 2 := hmem _ (List.getElem_mem hq)
    have e10 : mi_at δ1 10 (nI i) = nI L[i] := by
      rw [mi_at_nI _ _ (by omega)]
      exact (A' δ1 F1).2.2.2.2.2.2.2.2 i _ (by rw [eL]; exact List.getElem?_eq_getElem hq)
    have es := fm_take (g := lvF s) hq
    have G : ∀ x1, x1 = mi_at δ1 10 (nI i) → mi_wI N (d - 1) 3 0 [.ref 4, .int x1] [] δ1 (fun r3 δ2 => ((r3 = 0 → mi_wV N d 105 2 [.ref 45, .int (nI i + 1), .int x1] [] δ2 Q) ∧ (¬ r3 = 0 → (((lg_cmp (mi_al δ2 11 x1) 0) = 0 → mi_wV N d 105 2 [.ref 45, .int (nI i + 1), .int x1] [] δ2 Q) ∧ (¬ (lg_cmp (mi_al δ2 11 x1) 0) = 0 → (mi_wV N (d - 1) 109 0 [.ref 45, .int x1, .null] [] δ2 (fun δ4 => mi_wV N d 105 2 [.ref 45, .int (nI i + 1), .int x1] [] δ4 Q))))))) := by
      intro x1 e1
      rw [e10] at e1
      subst e1
      rw [nI_1]
      have e11 : mi_al δ1 11 (nI L[i]) = s.2.2 55 L[i] := by rw [mi_al_nI _ _ (by omega), (A' δ1 F1).2.2.2.2.2.2.2.1]
      have skip : lvF s L[i] = [] → mi_wV N d 105 2 [.ref 45, .int (nI (i + 1)), .int (nI L[i])] [] δ1 Q := fun h => (ih δ1 (by rw [es, h, List.append_nil]; exact X1) F1).2 _
      refine cc_isLeaf (by omega) (A' δ1 F1) (by omega) (bI_br (fun h => ?_) (fun h => ?_))
      · rw [isLf_nI W hm] at h
        exact skip (if_neg (fun q => h q.1))
      · rw [isLf_nI W hm] at h
        rw [e11]
        refine ⟨fun h2 => skip (if_neg (fun q => q.2 (zc_eq.mp h2))), fun h2 => ?_⟩
        have e2 : lvF s L[i] = rB s L[i] := if_pos ⟨h, fun q => h2 (zc_eq.mpr q)⟩
        exact cc_writeRow (by omega) (A' δ1 F1) W hm X1 (hl i (by omega)) (fun δ2 X2 f2 => (ih δ2 (by rw [es, e2, ← List.append_assoc]; exact X2) (F1.tr f2)).2 _)
    exact ⟨q10_writeLeaves_2 (by omega) (brT hT G), fun x => q10_writeLeaves_2a (by omega) (brT hT G)⟩
theorem cc_totalOfKind (hd : 7 ≤ d) (A : AbA δ s) (W : WfA s) {j : Nat} (hj : j < 5) {Q : Int64 → mi_D → Prop} (k : Q (tk s j (nN s 2)) δ) : mi_wL N d 13 0 [.ref 4, .int (nI j), .null, .null, .null] [] δ Q := by
  have h60 := W.1.2
  refine q0_totalOfKind_0 (by omega) ?_
  suffices H : ∀ i, i ≤ nN s 2 → mi_wL N d 13 5 [.ref 4, .int (nI j), .long (tk s j i), .null, .int (nI i)] [] δ Q by
    have q := H 0 (by omega)
    rwa [nI_0] at q
  intro i hi
  refine up_ind (P := fun i => mi_wL N d 13 5 [.ref 4, .int (nI j), .long (tk s j i), .null, .int (nI i)] [] δ Q) ?_ ?_ hi
  · exact q0_totalOfKind_5 (by omega) (brF (by rw [A.1, W.1.1]; exact nI_nlt (by omega) (by omega)) k)
  · intro i hi ih
    rw [tk_s] at ih
    refine q0_totalOfKind_5 (by omega) (brT (by rw [A.1, W.1.1]; exact nI_lt hi (by omega)) (cc_isLeaf (by omega) A (by omega) (bI_br (fun h => ?_) (fun h => ?_))))
    · rw [isLf_nI W hi] at h
      rw [if_neg (fun q => h q.1)] at ih
      rw [nI_1]
      exact ih
    · rw [isLf_nI W hi] at h
      rw [nI_1, mi_at_nI _ _ (by omega), mi_al_nI _ _ (by omega), A.2.2.1, A.2.2.2.2.2.2.2.1]
      refine ⟨fun h2 x e => ?_, fun h2 => ?_⟩
      · rw [if_pos ⟨h, h2⟩] at ih
        rw [e]
        exact ih
      · rw [if_neg (fun q => h2 q.2)] at ih
        exact ih
theorem cc_writeKinds (hd : 10 ≤ d) (A : AbA δ s) (W : WfA s) (LT : ∀ j, j < 5 → δ.2.1 1 j = ltr j) (X : Sp δ f B) (hB : B.length + 4000 < 2 ^ 30) {Q : mi_D → Prop} (k : ∀ δ', Sp δ' f (B ++ (kbs s 5 ++ tB 61 (tall s (nN s 2)))) → Fr [(45, 3)] [46, 47] [] δ δ' → Q δ') : mi_wV N d 107 0 [.ref 45, .null, .null, .null, .null, .null] [] δ Q := by
  have A' : ∀ δ1, Fr [(45, 3)] [46, 47] [] δ δ1 → AbA δ1 s := fun δ1 f1 => A.c (f1.kp (by decide) (by decide) (by decide))
  have e5 : ksm s 5 = tall s (nN s 2) := tk_all W _ (Nat.le_refl _)
  refine q10_writeKinds_0 (by omega) ?_
  suffices H : ∀ i, i ≤ 5 → ∀ δ1, Sp δ1 f (B ++ kbs s i) → Fr [(45, 3)] [46, 47] [] δ δ1 → mi_wV N d 107 4 [.ref 45, .long (ksm s i), .null, .int (nI i), .null, .null] [] δ1 Q ∧ ∀ x, mi_wV N d 107 4 [.ref 45, .long (ksm s i), .null, .int (nI i), .long x, .null] [] δ1 Q by
    have q := (H 0 (by omega) δ (by show Sp δ f (B ++ []); rw [List.append_nil]; exact X) (Fr.rf _ _ _ _)).1
    rwa [nI_0] at q
  intro i hi
  refine up_ind (P := fun i => ∀ δ1, Sp δ1 f (B ++ kbs s i) → Fr [(45, 3)] [46, 47] [] δ δ1 → mi_wV N d 107 4 [.ref 45, .long (ksm s i), .null, .int (nI i), .null, .null] [] δ1 Q ∧ ∀ x, mi_wV N d 107 4 [.ref 45, .long (ksm s i), .null, .int (nI i), .long x, .null] [] δ1 Q) ?_ ?_ hi
  · intro δ1 X1 F1
    have hl := kbs_len s 5
    have hF : ¬ nI 5 < 5 := by decide
    have G : mi_wV N (d - 1) 108 0 [.ref 45, .int 61, .long (ksm s 5), .null] [] δ1 (fun δ1 => Q δ1) := by
      rw [e5]
      exact cc_writeTotal (by omega) X1 (by rw [List.length_append]; omega) (fun δ2 X2 f2 => k δ2 (by rw [← List.append_assoc]; exact X2) (F1.tr f2))
    exact ⟨q10_writeKinds_4 (by omega) (brF hF G), fun x => q10_writeKinds_4a (by omega) (brF hF G)⟩
  · intro i hi ih δ1 X1 F1
    have hl := kbs_len s i
    have hT : nI i < 5 := nI_lt (b := 5) hi (by omega)
    have G : mi_wL N (d - 1) 13 0 [.ref 4, .int (nI i), .null, .null, .null] [] δ1 (fun r3 δ2 => (∀ x4 : Int64, x4 = (ksm s i + r3) → ((nI i < (nI 5) → (mi_ix (nI i) 5 = true ∧ mi_wV N d 107 43 [.ref 45, .long x4, .null, .int (nI i), .long r3, .null] [.int (δ2.2.1 1 (Int32.toNatClampNeg (nI i))), .ref 45] δ2 Q)) ∧ (¬ nI i < (nI 5) → mi_wV N d 107 43 [.ref 45, .long x4, .null, .int (nI i), .long r3, .null] [.int 32, .ref 45] δ2 Q)))) := by
      refine cc_totalOfKind (by omega) (A' δ1 F1) W hi (fun x4 e4 => brT (nI_lt hi (by omega)) ⟨mi_ix_nI hi (by omega), ?_⟩)
      rw [nI_clamp (by omega), F1.2.1 1 (by decide), LT i hi]
      refine q10_writeKinds_43 (by omega) (cc_writeTotal (by omega) X1 (by rw [List.length_append]; omega) (fun δ2 X2 f2 => ?_))
      rw [nI_1, e4]
      exact (ih δ2 (by show Sp δ2 f (B ++ (kbs s i ++ tB (ltr i) (tk s i (nN s 2)))); rw [← List.append_assoc]; exact X2) (F1.tr f2)).2 _
    exact ⟨q10_writeKinds_4 (by omega) (brT hT G), fun x => q10_writeKinds_4a (by omega) (brT hT G)⟩
theorem cm_ofKind (hd : 6 ≤ d) (G : GA s δ) (W : WfA s) {c : Int32} {v : Int64} (hv : (∃ j, j < 5 ∧ c = nI j ∧ v = tk s j (nN s 2)) ∨ (c = -1 ∧ v = tall s (nN s 2))) {Q : Int64 → mi_D → Prop} (k : Q v δ) : mi_wL N d 205 0 [.ref 48, .int c, .null, .null, .null] [] δ Q := by
  have h60 := W.1.2
  have d2 : δ.1 48 2 = nI (nN s 2) := (G.1 (48, 2) (by decide)).trans W.1.1
  have e52 : δ.2.1 52 = s.2.1 52 := G.2.1 52 (by decide)
  have e50 : δ.2.1 50 = s.2.1 50 := G.2.1 50 (by decide)
  have e55 : δ.2.2 55 = s.2.2 55 := G.2.2 55 (by decide)
  obtain ⟨g, g0, gn, gs⟩ : ∃ g : Nat → Int64, g 0 = 0 ∧ g (nN s 2) = v ∧ ∀ i, i < nN s 2 → g (i + 1) = if s.2.1 52 i = 0 ∧ (c < 0 ∨ s.2.1 50 i = c) then g i + s.2.2 55 i else g i := by
    rcases hv with ⟨j, hj, ec, ev⟩ | ⟨ec, ev⟩
    · refine ⟨tk s j, rfl, ev.symm, fun i _ => ?_⟩
      rw [tk_s, ec]
      have hn : ¬ nI j < 0 := nI_pos (by omega)
      by_cases z : s.2.1 52 i = 0 ∧ s.2.1 50 i = nI j
      · rw [if_pos z, if_pos ⟨z.1, Or.inr z.2⟩]
      · rw [if_neg z, if_neg (fun q => z ⟨q.1, q.2.resolve_left hn⟩)]
    · refine ⟨tall s, rfl, ev.symm, fun i _ => ?_⟩
      rw [tall_s, ec]
      by_cases z : s.2.1 52 i = 0
      · rw [if_pos z, if_pos ⟨z, Or.inl (by decide)⟩]
      · rw [if_neg z, if_neg (fun q => z q.1)]
  rw [← gn] at k
  refine q12_ofKind_0 (by omega) ?_
  suffices H : ∀ i, i ≤ nN s 2 → mi_wL N d 205 5 [.ref 48, .int c, .long (g i), .null, .int (nI i)] [] δ Q by
    have q := H 0 (by omega)
    rwa [nI_0, g0] at q
  intro i hi
  refine up_ind (P := fun i => mi_wL N d 205 5 [.ref 48, .int c, .long (g i), .null, .int (nI i)] [] δ Q) ?_ ?_ hi
  · exact q12_ofKind_5 (by omega) (brF (by rw [d2]; exact nI_nlt (by omega) (by omega)) k)
  · intro i hi ih
    have hx : mi_ix (nI i) 60 = true := mi_ix_nI (by omega) (by omega)
    rw [gs i hi] at ih
    have add : s.2.1 52 i = 0 ∧ (c < 0 ∨ s.2.1 50 i = c) → mi_wL N d 205 40 [.ref 48, .int c, .long (g i), .null, .int (nI i)] [.long (g i)] δ Q := fun h => by
      rw [if_pos h] at ih
      refine q12_ofKind_40 (by omega) ⟨hx, fun x e => ?_⟩
      rw [nI_clamp (by omega), e55] at e
      rw [e, nI_1]
      exact ih
    have non : ¬ (s.2.1 52 i = 0 ∧ (c < 0 ∨ s.2.1 50 i = c)) → ∀ x, x = g i + 0 → mi_wL N d 205 5 [.ref 48, .int c, .long x, .null, .int (nI i + 1)] [] δ Q := fun h x e => by
      rw [if_neg h] at ih
      rw [e, nI_1, Int64.add_zero]
      exact ih
    refine q12_ofKind_5 (by omega) (brT (by rw [d2]; exact nI_lt hi (by omega)) ⟨hx, ?_⟩)
    rw [nI_clamp (by omega), e52, e50]
    exact ⟨fun h => ⟨fun h2 => add ⟨h, Or.inl h2⟩, fun h2 => ⟨hx, fun h3 => add ⟨h, Or.inr h3⟩, fun h3 => non (fun q => q.2.elim h2 h3)⟩⟩, fun h => non (fun q => h q.1)⟩
theorem cm_stotal (hd : 7 ≤ d) (G : GA s δ) (W : WfA s) (X : Sm δ f B) (hB : B.length + 120 < 2 ^ 30) {c w : Int32} {v : Int64} (hv : (∃ j, j < 5 ∧ c = nI j ∧ v = tk s j (nN s 2)) ∨ (c = -1 ∧ v = tall s (nN s 2))) {Q : mi_D → Prop} (k : ∀ δ', Sm δ' f (B ++ tB w v) → Fr [(48, 36)] [72, 73] [] δ δ' → Q δ') : mi_wV N d 206 0 [.ref 48, .int w, .int c] [] δ Q := by
  unfold tB at k
  rw [app_c, app_c, ← List.append_assoc] at k
  have h39 := mnB_len v
  refine q12_total_0 (by omega) (cm_sput (by omega) X (by omega) (fun δ1 X1 f1 => cm_sput (by omega) X1 (by simp only [List.length_append, List.length_singleton]; omega) (fun δ2 X2 f2 => ?_)))
  have F2 : Fr [(48, 36)] [72, 73] [] δ δ2 := (f1.tr f2).wk (by decide) (by decide) (by decide)
  refine cm_ofKind (by omega) (G.fr F2 (by decide) (by decide) (by decide)) W hv (cm_money (by omega) X2 (by simp only [List.length_append, List.length_singleton]; omega) (fun δ3 X3 f3 => cm_sput (by omega) X3 (by simp only [List.length_append, List.length_singleton]; omega) (fun δ4 X4 f4 => k δ4 X4 (F2.tr (f3.tr (f4.wk (by decide) (by decide) (by decide)))))))
end SLV
