/-! share: what it is, the program, the model -/
abbrev areW (s : mi_D) : Prop := (∀ i, i < nN s 24 → ¬ s.2.2 67 i < 1 ∧ ¬ 1000 < s.2.2 67 i) ∧ nN s 24 ≤ 7
def rf_share (s : mi_D) (a : Int32) (v : Int64) : Int32 :=
  if ¬ isAc s a then -2 else if ¬ ((¬ v = 0 ∧ wtn v 1000000000000000) ∧ areW s) then -3 else if ¬ mi_at s 52 a = 0 then -4 else if s.1 48 24 = 0 then -6 else 0
def shLi (s : mi_D) (a : Int32) (v : Int64) : Nat → Ln := itN (fun i l => if shr (nN s 24) (s.2.2 67) v i = 0 then l else addL l (s.2.1 66 i) (shr (nN s 24) (s.2.2 67) v i)) (addL (0, fun _ => 0, fun _ => 0) a (-v))
def shL (s : mi_D) (a : Int32) (v : Int64) : Ln := shLi s a v (nN s 24)
def A_share (s : mi_D) (a : Int32) (v : Int64) (d t : Int32) : Int32 × mi_D :=
  if s.1 48 0 = 0 then (-6, s) else if ¬ rf_share s a v = 0 then (rf_share s a v, s) else undraft (A_posted s (shL s a v) d t)
theorem shLi_s (s : mi_D) (a : Int32) (v : Int64) (i : Nat) : shLi s a v (i + 1) = if shr (nN s 24) (s.2.2 67) v i = 0 then shLi s a v i else addL (shLi s a v i) (s.2.1 66 i) (shr (nN s 24) (s.2.2 67) v i) := rfl
theorem shLi_len (s : mi_D) (a : Int32) (v : Int64) (i : Nat) : (shLi s a v i).1 ≤ i + 1 := by
  induction i with
  | zero => exact Nat.le_refl _
  | succ i ih =>
    rw [shLi_s]
    split
    · omega
    · show (shLi s a v i).1 + 1 ≤ _; omega
theorem shLi_A {s : mi_D} (W : WfD s) {j : Nat} (hj : j < nN s 2) {v : Int64} : ∀ i, i ≤ nN s 24 → LnA (nN s 2) (shLi s (nI j) v i) := by
  intro i
  induction i with
  | zero => intro _; exact addL_A (fun i hi => absurd hi (Nat.not_lt_zero i)) hj
  | succ i ih =>
    intro hi
    rw [shLi_s]
    split
    · exact ih (by omega)
    · obtain ⟨b, hb, eb⟩ := W.2 i (by omega)
      rw [eb]
      exact addL_A (ih (by omega)) hb
theorem rf_share_0 {s : mi_D} {a : Int32} {v : Int64} (h : rf_share s a v = 0) : isAc s a ∧ (¬ v = 0 ∧ wtn v 1000000000000000) ∧ areW s ∧ mi_at s 52 a = 0 ∧ ¬ s.1 48 24 = 0 := by
  unfold rf_share at h
  split at h
  · exact absurd h (by decide)
  · next h1 =>
    split at h
    · exact absurd h (by decide)
    · next h2 =>
      split at h
      · exact absurd h (by decide)
      · next h3 =>
        split at h
        · exact absurd h (by decide)
        · next h4 =>
          have h2 := Decidable.not_not.mp h2
          exact ⟨Decidable.not_not.mp h1, h2.1, h2.2, Decidable.not_not.mp h3, h4⟩
theorem lt1_0 {x : Int64} (h : ¬ x < 1) : ¬ x < 0 := fun q => h (by
  have e0 : (0 : Int64).toInt = 0 := by decide
  have e1 : (1 : Int64).toInt = 1 := by decide
  rw [Int64.lt_iff_toInt_lt] at *
  omega)
theorem share_ok {s : mi_D} {v : Int64} (hw : wtn v 1000000000000000) (hW : areW s) : shOK (nN s 24) (s.2.2 67) v := ⟨by have := hW.2; omega, fun i hi => ⟨lt1_0 (hW.1 i hi).1, (hW.1 i hi).2⟩, hw⟩
theorem share_S {s : mi_D} {v : Int64} (hw : wtn v 1000000000000000) (hW : areW s) (hn : 0 < nN s 24) : ¬ sumW (s.2.2 67) (nN s 24) = 0 := by
  obtain ⟨m, em⟩ : ∃ m, nN s 24 = m + 1 := ⟨nN s 24 - 1, by omega⟩
  have h := share_ok hw hW
  obtain ⟨s1, _, s3⟩ := sh_S h m (by omega)
  have s3 := s3 (by omega)
  have e1 : (1 : Int64).toInt = 1 := by decide
  have e0 : (0 : Int64).toInt = 0 := by decide
  have hm := (hW.1 m (by omega)).1
  rw [Int64.lt_iff_toInt_lt, e1] at hm
  intro q
  rw [em] at q
  rw [q, e0] at s3
  omega
theorem i64_32 {x : Int64} (h : ¬ x < 1 ∧ ¬ 1000 < x) : Int32.toInt64 (Int64.toInt32 x) = x := by
  have e1 : (1 : Int64).toInt = 1 := by decide
  have e2 : (1000 : Int64).toInt = 1000 := by decide
  obtain ⟨h1, h2⟩ := h
  rw [Int64.lt_iff_toInt_lt] at h1 h2
  apply Int64.toInt_inj.mp
  rw [Int32.toInt_toInt64, Int64.toInt_toInt32]
  exact Int.bmod_eq_of_le (by show -((4294967296 : Nat) / 2 : Int) ≤ _; omega) (by show _ < ((4294967296 : Nat) + 1 : Int) / 2; omega)
section CSA
variable {N d : Nat} {δ s : mi_D}
theorem cc_areWeights (hd : 5 ≤ d) (D : AbD δ s) (W : WfD s) {Q : Int32 → mi_D → Prop} (k : Q (bI (areW s)) δ) : mi_wI N d 143 0 [.ref 35, .null, .null, .null] [] δ Q := by
  have hl : mi_Ls 35 36 37 8 := Or.inr (Or.inl ⟨rfl, rfl, rfl, rfl⟩)
  have h8 := W.1.2
  have e35 : δ.1 35 2 = nI (nN s 24) := D.1.trans W.1.1
  refine q11_areWeights_0 hd hl ?_
  suffices H : ∀ i, i ≤ nN s 24 → (∀ j, j < i → ¬ s.2.2 67 j < 1 ∧ ¬ 1000 < s.2.2 67 j) → mi_wI N d 143 2 [.ref 35, .int (nI i), .null, .null] [] δ Q ∧ ∀ x, mi_wI N d 143 2 [.ref 35, .int (nI i), .long x, .null] [] δ Q by
    have q := (H 0 (by omega) (fun j hj => absurd hj (Nat.not_lt_zero j))).1
    rwa [nI_0] at q
  intro i hi
  refine up_ind (P := fun i => (∀ j, j < i → ¬ s.2.2 67 j < 1 ∧ ¬ 1000 < s.2.2 67 j) → mi_wI N d 143 2 [.ref 35, .int (nI i), .null, .null] [] δ Q ∧ ∀ x, mi_wI N d 143 2 [.ref 35, .int (nI i), .long x, .null] [] δ Q) ?_ ?_ hi
  · intro h
    have hF : ¬ nI (nN s 24) < δ.1 35 2 := by rw [e35]; exact nI_nlt (Nat.le_refl _) (by omega)
    have fin : (7 < (δ.1 35 2) → Q 0 δ) ∧ (¬ 7 < (δ.1 35 2) → Q 1 δ) := by
      rw [e35]
      refine ⟨fun q => ?_, fun q => ?_⟩
      · have := (nI_ltI (a := 7) (by omega) (by omega)).mp q
        rwa [bI_0 (fun z => by have := z.2; omega)] at k
      · rwa [bI_1 ⟨h, by
          rcases Nat.lt_or_ge 7 (nN s 24) with z | z
          · exact absurd (nI_lt (a := 7) z (by omega)) q
          · exact z⟩] at k
    exact ⟨q11_areWeights_2 hd hl (brF hF fin), fun x => q11_areWeights_2a hd hl (brF hF fin)⟩
  · intro i hi ih h
    have hT : nI i < δ.1 35 2 := by rw [e35]; exact nI_lt hi (by omega)
    have body : ∀ x1 : Int64, x1 = (mi_al δ 37 (nI i)) → (((lg_cmp x1 1) < 0 → Q 0 δ) ∧ (¬ (lg_cmp x1 1) < 0 → ((0 < (lg_cmp x1 1000) → Q 0 δ) ∧ (¬ 0 < (lg_cmp x1 1000) → mi_wI N d 143 2 [.ref 35, .int (nI i + 1), .long x1, .null] [] δ Q)))) := by
      intro x1 e1
      rw [mi_al_nI _ _ (by omega), D.2.2] at e1
      rw [zc_lt, zc_gt, nI_1]
      refine ⟨fun q => ?_, fun q => ⟨fun q2 => ?_, fun q2 => ?_⟩⟩
      · rw [e1] at q
        rwa [bI_0 (fun z => (z.1 i hi).1 q)] at k
      · rw [e1] at q2
        rwa [bI_0 (fun z => (z.1 i hi).2 q2)] at k
      · refine (ih (fun j hj => ?_)).2 x1
        rcases Nat.lt_or_eq_of_le (Nat.lt_succ_iff.mp hj) with z | z
        · exact h j z
        · subst z; rw [e1] at q q2; exact ⟨q, q2⟩
    exact ⟨q11_areWeights_2 hd hl (brT hT body), fun x => q11_areWeights_2a hd hl (brT hT body)⟩
theorem cc_rfShare (hd : 8 ≤ d) (A : AbA δ s) (D : AbD δ s) (W : WfD s) {a : Int32} {v : Int64} {Q : Int32 → mi_D → Prop} (k : Q (rf_share s a v) δ) : mi_wI N d 141 0 [.ref 2, .int a, .long v, .null] [] δ Q := by
  unfold rf_share at k
  refine q11_refusesShare_0 (by omega) (cc_has (by omega) A (bI_br (fun h => ?_) (fun h => cc_isAmount (by omega) (bI_br (fun h2 => ?_) (fun h2 => cc_areWeights (by omega) D W (bI_br (fun h3 => ?_) (fun h3 => cc_isLeaf (by omega) A (by omega) (bI_br (fun h4 => ?_) (fun h4 => ?_)))))))))
  · rwa [if_pos h] at k
  · rwa [if_neg (fun q => q h), if_pos (fun q => h2 q.1)] at k
  · rwa [if_neg (fun q => q h), if_pos (fun q => h3 q.2)] at k
  · rwa [if_neg (fun q => q h), if_neg (fun q => q ⟨h2, h3⟩), if_pos (fun q => h4 ⟨h, q⟩)] at k
  · rw [if_neg (fun q => q h), if_neg (fun q => q ⟨h2, h3⟩), if_neg (fun q => q h4.2)] at k
    rw [D.1]
    exact ⟨fun q => by rwa [if_pos q] at k, fun q => by rwa [if_neg q] at k⟩
theorem cc_shareOut (hd : 9 ≤ d) (D : AbD δ s) (W : WfD s) {a : Int32} {v : Int64} (hw : wtn v 1000000000000000) (hW : areW s) (hn : 0 < nN s 24) {Q : mi_D → Prop}
    (k : ∀ δ', Lx δ' 38 39 40 (shL s a v) → Fr [(41, 3), (38, 2)] [43, 39] [42, 44, 40] δ δ' → Q δ') : mi_wV N d 142 0 [.ref 2, .int a, .long v, .null, .null] [] δ Q := by
  have h8 := W.1.2
  have e24 : s.1 48 24 = nI (nN s 24) := W.1.1
  have h7 := hW.2
  have hok := share_ok hw hW
  have hS := share_S hw hW hn
  have hl : mi_Ls 38 39 40 60 := Or.inr (Or.inr ⟨rfl, rfl, rfl, rfl⟩)
  -- the draft's lines
  have last : ∀ i, i ≤ nN s 24 → ∀ δ', Lx δ' 38 39 40 (shLi s a v i) → Fr [(41, 3), (38, 2)] [43, 39] [42, 44, 40] δ δ' → (∀ j, j < nN s 24 → δ'.2.2 42 j = shr (nN s 24) (s.2.2 67) v j) → mi_wV N d 142 77 [.ref 2, .int a, .long v, .null, .int (nI i)] [] δ' Q := by
    intro i hi
    refine up_ind (P := fun i => ∀ δ', Lx δ' 38 39 40 (shLi s a v i) → Fr [(41, 3), (38, 2)] [43, 39] [42, 44, 40] δ δ' → (∀ j, j < nN s 24 → δ'.2.2 42 j = shr (nN s 24) (s.2.2 67) v j) → mi_wV N d 142 77 [.ref 2, .int a, .long v, .null, .int (nI i)] [] δ' Q) ?_ ?_ hi
    · intro δ' X' f' g'
      have D' := D.c (f'.kp (fs' := [(35,2)]) (as' := [36]) (ls' := [37]) (by decide) (by decide) (by decide))
      exact q11_shareOut_77 (by omega) (brF (by rw [D'.1, e24]; exact nI_nlt (Nat.le_refl _) (by omega)) (k δ' X' f'))
    · intro i hi ih δ' X' f' g'
      have D' := D.c (f'.kp (fs' := [(35,2)]) (as' := [36]) (ls' := [37]) (by decide) (by decide) (by decide))
      have es := shLi_s s a v i
      have hlen := shLi_len s a v i
      refine q11_shareOut_77 (by omega) (brT (by rw [D'.1, e24]; exact nI_lt hi (by omega)) ?_)
      rw [mi_al_nI _ _ (by omega), g' i hi, mi_at_nI _ _ (by omega), D'.2.1, nI_1, zc_eq]
      refine ⟨fun q => ?_, fun q => ?_⟩
      · rw [if_pos q] at es
        exact ih δ' (by rw [es]; exact X') f' g'
      · rw [if_neg q] at es
        refine cc_ladd (by omega) hl X' (by omega) (fun δ'' X'' f'' => ih δ'' (by rw [es]; exact X'') (f'.tr (f''.wk (by decide) (by decide) (by decide))) (fun j hj => ?_))
        rw [f''.2.2 42 (by decide)]
        exact g' j hj
  refine q11_shareOut_0 (by omega) (q9_clear_0 (by omega) (fun δ1 e1 => ?_))
  suffices H : ∀ i, i ≤ nN s 24 → ∀ δ', δ'.1 41 3 = nI i → (∀ j, j < i → δ'.2.1 43 j = Int64.toInt32 (s.2.2 67 j)) → Fr [(41, 3)] [43] [] δ δ' → mi_wV N d 142 10 [.ref 2, .int a, .long v, .null, .int (nI i)] [] δ' Q by
    have z := H 0 (by omega) δ1 (by rw [e1, pI_f, if_pos ⟨rfl, rfl⟩]; exact nI_0.symm) (fun j hj => absurd hj (Nat.not_lt_zero j)) (by rw [e1]; exact Fr.setI (by decide))
    rwa [nI_0] at z
  intro i hi
  refine up_ind (P := fun i => ∀ δ', δ'.1 41 3 = nI i → (∀ j, j < i → δ'.2.1 43 j = Int64.toInt32 (s.2.2 67 j)) → Fr [(41, 3)] [43] [] δ δ' → mi_wV N d 142 10 [.ref 2, .int a, .long v, .null, .int (nI i)] [] δ' Q) ?_ ?_ hi
  · intro δ' hs' g43 f'
    have D' := D.c (f'.kp (fs' := [(35,2)]) (as' := [36]) (ls' := [37]) (by decide) (by decide) (by decide))
    refine q11_shareOut_10 (by omega) (brF (by rw [D'.1, e24]; exact nI_nlt (Nat.le_refl _) (by omega)) ?_)
    refine cc_divide (by omega) h7 hs' (fun j hj => by rw [g43 j hj]; exact i64_32 (hW.1 j hj)) hok (fun z => absurd z hS) (fun _ δ2 g42 f2 => cc_lclear (by omega) hl ?_)
    have X3 : Lx (mi_setI δ2 38 2 0) 38 39 40 (0, fun _ => 0, fun _ => 0) := ⟨by rw [pI_f, if_pos ⟨rfl, rfl⟩]; exact nI_0.symm, fun i hi => absurd hi (Nat.not_lt_zero i), fun i hi => absurd hi (Nat.not_lt_zero i)⟩
    refine cc_ladd (by omega) hl X3 (by show 0 < 60; omega) (fun δ4 X4 f4 => ?_)
    have z := last 0 (by omega) δ4 X4 (((f'.wk (by decide) (by decide) (by decide)).tr ((f2.wk (by decide) (by decide) (by decide)).xI (by decide))).tr (f4.wk (by decide) (by decide) (by decide))) (fun j hj => by rw [f4.2.2 42 (by decide)]; exact g42 j hj)
    rwa [nI_0] at z
  · intro i hi ih δ' hs' g43 f'
    have D' := D.c (f'.kp (fs' := [(35,2)]) (as' := [36]) (ls' := [37]) (by decide) (by decide) (by decide))
    refine q11_shareOut_10 (by omega) (brT (by rw [D'.1, e24]; exact nI_lt hi (by omega)) (q9_add_0 (by omega) (fun δ2 e2 δ3 e3 => ?_)))
    rw [mi_al_nI _ _ (by omega), D'.2.2, hs', pt_row _ _ _ _ (show i < 7 by omega) (by omega)] at e2
    have h2 : δ2.1 41 3 = nI i := by rw [e2]; exact hs'
    rw [h2, nI_1] at e3
    rw [nI_1]
    refine ih δ3 (by rw [e3, pI_f, if_pos ⟨rfl, rfl⟩]) (fun j hj => ?_) ?_
    · rw [e3, pI_a, e2, rA_a, if_pos rfl]
      by_cases y : j = i
      · subst y; exact up1_s _ _ _
      · rw [up1_n _ _ y]; exact g43 j (by omega)
    · rw [e3, e2]
      exact (f'.xA (by decide)).xI (by decide)
theorem cp_share (hd : 11 ≤ d) (H : Abs δ s) (U : δ.1 2 7 = s.1 48 0) (h1 : s.1 48 1 = 0) (W : Wf s) {a dy t : Int32} {v : Int64} {Q : Int32 → mi_D → Prop}
    (kk : ∀ δ', Abs δ' (A_share s a v dy t).2 → KX δ δ' → Q (A_share s a v dy t).1 δ') : mi_wI N d 123 0 [.ref 2, .int a, .long v, .null, .int dy, .int t, .null] [] δ Q := by
  unfold A_share at kk
  refine q11_share_0 (by omega) ⟨fun h => ?_, fun h => cc_rfShare (by omega) H.1 H.2.2.2.2.1 W.2.2.2.1 ⟨fun hr => ?_, fun hr => ?_⟩⟩
  · rw [if_pos (U ▸ h)] at kk
    exact kk δ H Kp.rf
  · have hup : ¬ s.1 48 0 = 0 := fun q => h (U.trans q)
    rw [if_neg hup, if_neg (fun q => q hr)] at kk
    obtain ⟨r1, r2, r3, r4, r5⟩ := rf_share_0 hr
    have h8 := W.2.2.2.1.1.2
    have hn : 0 < nN s 24 := by
      rcases Nat.eq_zero_or_pos (nN s 24) with z | z
      · exact absurd (by rw [W.2.2.2.1.1.1, z]; exact nI_0) r5
      · exact z
    obtain ⟨j, hj, ej, _⟩ := at_ac W.1 r1
    refine cc_shareOut (by omega) H.2.2.2.2.1 W.2.2.2.1 r2.2 r3 hn (fun δ1 X1 f1 => ?_)
    have H1 : Abs δ1 s := H.c (f1.kp (by decide) (by decide) (by decide))
    have K1 : KX δ δ1 := f1.kp (by decide) (by decide) (by decide)
    have hlen := shLi_len s a v (nN s 24)
    have h7 := r3.2
    refine cp_writePlain (by omega) (Or.inr (Or.inr ⟨rfl, rfl, rfl, rfl⟩)) H1 h1 hup W X1 (by show (shLi s a v (nN s 24)).1 ≤ 8; omega) ?_ (fun δ2 H2 K2 => kk δ2 H2 (K1.tr K2))
    unfold shL
    rw [ej]
    exact shLi_A W.2.2.2.1 hj _ (Nat.le_refl _)
  · rw [if_neg (fun q => h (U.trans q)), if_pos hr] at kk
    exact kk δ H Kp.rf
theorem cm_share (hd : 10 ≤ d) (G : Agr s δ) (W : Wf s) {a dy t : Int32} {v : Int64} {Q : Int32 → mi_D → Prop}
    (kk : ∀ δ', Agr (A_share s a v dy t).2 δ' → KC δ δ' → Q (A_share s a v dy t).1 δ') : mi_wI N d 179 0 [.ref 48, .int a, .long v, .null, .int dy, .int t, .null, .null] [] δ Q := by
  have h8 := W.2.2.2.1.1.2
  have e24 : s.1 48 24 = nI (nN s 24) := W.2.2.2.1.1.1
  have d24 : δ.1 48 24 = nI (nN s 24) := (G.1 (48, 24) (by decide)).trans e24
  have e67 : δ.2.2 67 = s.2.2 67 := G.2.2 67 (by decide)
  have e52 : δ.2.1 52 = s.2.1 52 := G.2.1 52 (by decide)
  unfold A_share at kk
  have e0 : δ.1 48 0 = s.1 48 0 := G.1 (48, 0) (by decide)
  refine q12_share_0 (by omega) ?_
  rw [e0]
  refine ⟨fun h => ?_, fun hup => cm_isAccount (by omega) G W.1 (bI_br (fun h => ?_) (fun h => ?_))⟩
  · rw [if_pos h] at kk
    exact kk δ G Kp.rf
  · have hr : rf_share s a v = -2 := by unfold rf_share; rw [if_pos h]
    rw [if_neg hup, if_pos (by rw [hr]; decide), hr] at kk
    exact kk δ G Kp.rf
  rw [if_neg hup] at kk
  obtain ⟨j, hj, ej, ec, hx, hat⟩ := at_ac W.1 h
  -- behind what is refused
  have main : ¬ s.1 48 24 = 0 → rf_share s a v = 0 → ∀ y, (∀ δ1 : mi_D, δ1 = mi_setI δ 48 41 (δ.1 48 24) → mi_wI N d 179 144 [.ref 48, .int a, .long v, .null, .int dy, .int t, .int y, .int 0] [] δ1 Q) := by
    intro hn0 hr y δ1 ed1
    rw [if_neg (fun q => q hr)] at kk
    obtain ⟨r1, r2, r3, r4, r5⟩ := rf_share_0 hr
    have h7 := r3.2
    have hok := share_ok r2.2 r3
    have hn : 0 < nN s 24 := by
      rcases Nat.eq_zero_or_pos (nN s 24) with z | z
      · exact absurd (by rw [e24, z]; exact nI_0) r5
      · exact z
    have hS := share_S r2.2 r3 hn
    have lst : ∀ i, i ≤ nN s 24 → ∀ δ', Lm δ' (shLi s a v i) → Fr [(48, 41), (48, 27)] [79, 68] [76, 77, 78, 69] δ δ' → (∀ j, j < nN s 24 → δ'.2.2 77 j = shr (nN s 24) (s.2.2 67) v j) → mi_wI N d 179 193 [.ref 48, .int a, .long v, .null, .int dy, .int t, .int y, .int (nI i)] [] δ' Q := by
      intro i hi
      refine up_ind (P := fun i => ∀ δ', Lm δ' (shLi s a v i) → Fr [(48, 41), (48, 27)] [79, 68] [76, 77, 78, 69] δ δ' → (∀ j, j < nN s 24 → δ'.2.2 77 j = shr (nN s 24) (s.2.2 67) v j) → mi_wI N d 179 193 [.ref 48, .int a, .long v, .null, .int dy, .int t, .int y, .int (nI i)] [] δ' Q) ?_ ?_ hi
      · intro δ' X' f' g'
        have G' : Agr s δ' := G.fr f' (by decide) (by decide) (by decide)
        have q24 : δ'.1 48 24 = nI (nN s 24) := (f'.1 _ _ (by decide)).trans d24
        have hlen := shLi_len s a v (nN s 24)
        have hA : LnA (nN s 2) (shL s a v) := by
          unfold shL
          rw [ej]
          exact shLi_A W.2.2.2.1 hj _ (Nat.le_refl _)
        have X'' : Lm δ' (shL s a v) := X'
        refine q12_share_193 (by omega) (brF (by rw [q24]; exact nI_nlt (Nat.le_refl _) (by omega)) (cm_posted (by omega) G' hup W X'' (by show (shLi s a v (nN s 24)).1 ≤ 8; omega) hA (fun δ2 G2 K2 => ?_)))
        have key := undraft_k (Q := Q) G2 rfl (fun δ3 G3 K3 => kk δ3 G3 ((f'.kp (by decide) (by decide) (by decide)).tr (K2.tr K3)))
        refine ⟨fun h => q12_share_262 (by omega) (fun δ4 e4 => ?_), fun h => q12_share_262 (by omega) (fun δ4 e4 => ?_)⟩
        · subst e4; exact key.1 h
        · subst e4; exact key.2 h
      · intro i hi ih δ' X' f' g'
        have q24 : δ'.1 48 24 = nI (nN s 24) := (f'.1 _ _ (by decide)).trans d24
        have es := shLi_s s a v i
        have hlen := shLi_len s a v i
        have hix : mi_ix (nI i) 8 = true := mi_ix_nI (by omega) (by omega)
        have r66 : δ'.2.1 66 i = s.2.1 66 i := by rw [f'.2.1 66 (by decide), G.2.1 66 (by decide)]
        refine q12_share_193 (by omega) (brT (by rw [q24]; exact nI_lt hi (by omega)) ⟨hix, ?_⟩)
        rw [nI_clamp (by omega), g' i hi, nI_1, zc_eq, r66]
        refine ⟨fun q => ?_, fun q => ⟨hix, hix, ?_⟩⟩
        · rw [if_pos q] at es
          exact ih δ' (by rw [es]; exact X') f' g'
        · rw [if_neg q] at es
          refine cm_hand (by omega) X' (by omega) (fun δ'' X'' f'' => ih δ'' (by rw [es]; exact X'') (f'.tr (f''.wk (by decide) (by decide) (by decide))) (fun j hj => ?_))
          rw [f''.2.2 77 (by decide)]
          exact g' j hj
    have f1 : Fr [(48, 41)] [] [76] δ δ1 := by rw [ed1]; exact Fr.setI (by decide)
    have s1 : δ1.1 48 41 = nI (nN s 24) := by rw [ed1, pI_f, if_pos ⟨rfl, rfl⟩, d24]
    suffices Hw : ∀ i, i ≤ nN s 24 → ∀ δ', δ'.1 48 41 = nI (nN s 24) → (∀ j, j < i → δ'.2.2 76 j = s.2.2 67 j) → Fr [(48, 41)] [] [76] δ δ' → mi_wI N d 179 144 [.ref 48, .int a, .long v, .null, .int dy, .int t, .int y, .int (nI i)] [] δ' Q by
      have z := Hw 0 (by omega) δ1 s1 (fun j hj => absurd hj (Nat.not_lt_zero j)) f1
      rwa [nI_0] at z
    intro i hi
    refine up_ind (P := fun i => ∀ δ', δ'.1 48 41 = nI (nN s 24) → (∀ j, j < i → δ'.2.2 76 j = s.2.2 67 j) → Fr [(48, 41)] [] [76] δ δ' → mi_wI N d 179 144 [.ref 48, .int a, .long v, .null, .int dy, .int t, .int y, .int (nI i)] [] δ' Q) ?_ ?_ hi
    · intro δ' hs' g76 f'
      have q24 : δ'.1 48 24 = nI (nN s 24) := (f'.1 _ _ (by decide)).trans d24
      refine q12_share_144 (by omega) (brF (by rw [q24]; exact nI_nlt (Nat.le_refl _) (by omega)) (cm_shares (by omega) hs' g76 hok hS (fun δ2 g77 f2 δ3 ed3 => ?_)))
      have X3 : Lm δ3 (0, fun _ => 0, fun _ => 0) := ⟨by rw [ed3, pI_f, if_pos ⟨rfl, rfl⟩]; exact nI_0.symm, fun i hi => absurd hi (Nat.not_lt_zero i), fun i hi => absurd hi (Nat.not_lt_zero i)⟩
      have f3 : Fr [(48, 41), (48, 27)] [79, 68] [76, 77, 78, 69] δ δ3 := by
        rw [ed3]
        exact ((f'.wk (by decide) (by decide) (by decide)).tr (f2.wk (by decide) (by decide) (by decide))).xI (by decide)
      refine cm_hand (by omega) X3 (by show 0 < 64; omega) (fun δ4 X4 f4 => ?_)
      have z := lst 0 (by omega) δ4 X4 (f3.tr (f4.wk (by decide) (by decide) (by decide))) (fun j hj => by rw [f4.2.2 77 (by decide), ed3]; exact g77 j hj)
      rwa [nI_0] at z
    · intro i hi ih δ' hs' g76 f'
      have q24 : δ'.1 48 24 = nI (nN s 24) := (f'.1 _ _ (by decide)).trans d24
      have hix : mi_ix (nI i) 8 = true := mi_ix_nI (by omega) (by omega)
      refine q12_share_144 (by omega) (brT (by rw [q24]; exact nI_lt hi (by omega)) ⟨hix, hix, fun δ4 e4 => ?_⟩)
      rw [nI_clamp (by omega), f'.2.2 67 (by decide), e67] at e4
      rw [nI_1]
      refine ih δ4 (by rw [e4]; exact hs') (fun j hj => ?_) (by rw [e4]; exact f'.tr (Fr.setL (by decide)))
      rw [e4, pL_l, if_pos rfl]
      by_cases z : j = i
      · subst z; exact up1_s _ _ _
      · rw [up1_n _ _ z]; exact g76 j (by omega)
  -- whether all is good
  have good : ∀ i, i ≤ nN s 24 → mi_wI N d 179 59 [.ref 48, .int a, .long v, .null, .int dy, .int t, .int (bI (((¬ v = 0 ∧ wtn v 1000000000000000) ∧ nN s 24 < 8) ∧ ∀ j, j < i → ¬ s.2.2 67 j < 1 ∧ ¬ 1000 < s.2.2 67 j)), .int (nI i)] [] δ Q := by
    intro i hi
    refine up_ind (P := fun i => mi_wI N d 179 59 [.ref 48, .int a, .long v, .null, .int dy, .int t, .int (bI (((¬ v = 0 ∧ wtn v 1000000000000000) ∧ nN s 24 < 8) ∧ ∀ j, j < i → ¬ s.2.2 67 j < 1 ∧ ¬ 1000 < s.2.2 67 j)), .int (nI i)] [] δ Q) ?_ ?_ hi
    · refine q12_share_59 (by omega) (brF (by rw [d24]; exact nI_nlt (Nat.le_refl _) (by omega)) (bI_br (fun hg => ?_) (fun hg => ⟨hx, ?_⟩)))
      · have hr : rf_share s a v = -3 := by
          unfold rf_share
          rw [if_neg (fun q => q h), if_pos (fun q => hg ⟨⟨q.1, by have := q.2.2; omega⟩, q.2.1⟩)]
        rw [if_pos (by rw [hr]; decide), hr] at kk
        exact kk δ G Kp.rf
      · have hg2 : (¬ v = 0 ∧ wtn v 1000000000000000) ∧ areW s := ⟨hg.1.1, hg.2, by have := hg.1.2; omega⟩
        rw [ec, e52]
        refine ⟨fun q => ⟨fun q2 => ?_, fun q2 => ?_⟩, fun q => ?_⟩
        · rw [d24, ← e24] at q2
          have hr : rf_share s a v = -6 := by
            unfold rf_share
            rw [if_neg (fun q => q h), if_neg (fun z => z hg2), hat, if_neg (fun z => z q), if_pos q2]
          rw [if_pos (by rw [hr]; decide), hr] at kk
          exact kk δ G Kp.rf
        · rw [d24, ← e24] at q2
          have hr : rf_share s a v = 0 := by
            unfold rf_share
            rw [if_neg (fun q => q h), if_neg (fun z => z hg2), hat, if_neg (fun z => z q), if_neg q2]
          exact main q2 hr _
        · have hr : rf_share s a v = -4 := by
            unfold rf_share
            rw [if_neg (fun q => q h), if_neg (fun z => z hg2), hat, if_pos q]
          rw [if_pos (by rw [hr]; decide), hr] at kk
          exact kk δ G Kp.rf
    · intro i hi ih
      refine q12_share_59 (by omega) (brT (by rw [d24]; exact nI_lt hi (by omega)) (bI_br (fun hg => ?_) (fun hg => ⟨mi_ix_nI (by omega) (by omega), ?_⟩)))
      · rw [bI_0 (fun q => hg ⟨q.1, fun j hj => q.2 j (by omega)⟩)] at ih
        rw [nI_1]
        exact ih
      · rw [nI_clamp (by omega), e67, nI_1]
        refine c_in (by omega) (fun a1 a2 => brN (by decide) ?_) (fun a => br0 ?_)
        · rwa [bI_1 ⟨hg.1, fun j hj => by
            rcases Nat.lt_or_eq_of_le (Nat.lt_succ_iff.mp hj) with z | z
            · exact hg.2 j z
            · subst z; exact ⟨a1, a2⟩⟩] at ih
        · rwa [bI_0 (fun q => a.elim (q.2 i (by omega)).1 (q.2 i (by omega)).2)] at ih
  have g0 := good 0 (by omega)
  rw [nI_0] at g0
  rw [zc_eq]
  refine ⟨fun hz => ?_, fun hz => c_inW (by omega) (by decide) (bI_br (fun hw => ?_) (fun hw => ⟨fun q => ?_, fun q => ?_⟩))⟩
  · rwa [bI_0 (fun q => q.1.1.1 hz)] at g0
  · rwa [bI_0 (fun q => hw q.1.1.2)] at g0
  · rw [d24] at q
    rwa [bI_1 ⟨⟨⟨hz, hw⟩, (nI_ltI (b := 8) (by omega) (by omega)).mp q⟩, fun j hj => absurd hj (Nat.not_lt_zero j)⟩] at g0
  · rw [d24] at q
    rwa [bI_0 (fun z => q (nI_lt (b := 8) z.1.2 (by omega)))] at g0
end CSA
