/-! RECOVERY: a post done anew -/
theorem RP.self {c x e w : Nat} {δ0 δ : mi_D} {st : Option Nat} (h : RP c x e w δ0 δ st) : RP c x e w δ δ st := ⟨Fr.rf _ _ _ _, h.2⟩
theorem RP.other {c x e w : Nat} {δ δ' : mi_D} {st : Option Nat} (h : RP c x e w δ δ st) (h1 : δ'.1 c x = δ.1 c x) (h2 : δ'.1 c w = δ.1 c w) : RP c x e w δ' δ' st := by
  refine ⟨Fr.rf _ _ _ _, ?_⟩
  cases st with
  | none => exact fun q => h.2 (h2.symm.trans q)
  | some p => exact ⟨h2.trans h.2.1, h1.trans h.2.2.1, h.2.2.2⟩
theorem rdL_s (s : mi_D) (f : Nat → Int32) (e m p : Nat) (l : Ln) : rdL s f e (m + 1) p l = match rdI f e (some p) with
    | none => none
    | some x => match rdS f e (some x.2) with
      | none => none
      | some y => if rf_line s x.1 y.1 = 0 then rdL s f e m y.2 (addL l x.1 y.1) else none := rfl
theorem rf_line_0 {s : mi_D} {a : Int32} {v : Int64} : rf_line s a v = 0 ↔ isAc s a ∧ ¬ v = 0 ∧ wtn v 1000000000000000 ∧ mi_at s 52 a = 0 := by
  unfold rf_line
  by_cases h1 : isAc s a
  · rw [if_neg (fun q => q h1)]
    by_cases h2 : v = 0 ∨ ¬ wtn v 1000000000000000
    · rw [if_pos h2]
      exact ⟨fun q => absurd q (by decide), fun q => h2.elim (fun z => absurd z q.2.1) (fun z => absurd q.2.2.1 z)⟩
    · rw [if_neg h2]
      by_cases h3 : mi_at s 52 a = 0
      · rw [if_pos h3]
        exact ⟨fun _ => ⟨h1, fun z => h2 (Or.inl z), Decidable.not_not.mp (fun z => h2 (Or.inr z)), h3⟩, fun _ => rfl⟩
      · rw [if_neg h3]
        exact ⟨fun q => absurd q (by decide), fun q => absurd q.2.2.2 h3⟩
  · rw [if_pos h1]
    exact ⟨fun q => absurd q (by decide), fun q => absurd q.1 h1⟩
theorem rdL_ok {s : mi_D} (W : WfA s) {f : Nat → Int32} {e : Nat} : ∀ m p l x, rdL s f e m p l = some x → LnA (nN s 2) l → LnA (nN s 2) x.1 ∧ x.1.1 = l.1 + m := by
  intro m
  induction m with
  | zero =>
    intro p l x h hA
    have h : some (l, p) = some x := h
    cases h
    exact ⟨hA, rfl⟩
  | succ m ih =>
    intro p l x h hA
    rw [rdL_s] at h
    split at h
    · cases h
    · split at h
      · cases h
      · next y hy z hz =>
        split at h
        · next hr =>
          obtain ⟨j, hj, ej, _⟩ := at_ac W (rf_line_0.mp hr).1
          have h2 := ih _ _ x h (by rw [ej]; exact addL_A hA hj)
          refine ⟨h2.1, h2.2.trans ?_⟩
          show l.1 + 1 + m = _
          omega
        · cases h
/-- the lines of a record, if they can be read -/
def rdLs (s : mi_D) (f : Nat → Int32) (e : Nat) (x3 : Option (Int32 × Nat)) : Option (Ln × Nat) := match x3 with
  | none => none
  | some n => if n.1 < 0 ∨ 8 < n.1 then none else rdL s f e n.1.toNatClampNeg n.2 L0
theorem rdoPost_eq (s : mi_D) (f : Nat → Int32) (e : Nat) (x1 x2 x3 : Option (Int32 × Nat)) : rdoPost s f e x1 x2 x3 = match rdLs s f e x3 with
    | none => none
    | some l => if l.2 = e then acc0 0 (A_posted s l.1 (vO x1 0) (vO x2 0)) else none := by
  unfold rdoPost rdLs
  cases x3 with
  | none => rfl
  | some n =>
    dsimp only
    by_cases h : n.1 < 0 ∨ 8 < n.1
    · rw [if_pos h, if_pos h]
    · rw [if_neg h, if_neg h]
      cases rdL s f e n.1.toNatClampNeg n.2 L0 <;> rfl
section RDL
variable {N d e : Nat} {δ0 δ s : mi_D} {f : Nat → Int32} {st : Option Nat}
theorem n8_of {n : Int32} (h : ¬ (n < 0 ∨ 8 < n)) : ∃ j, j ≤ 8 ∧ n = nI j := by
  obtain ⟨j, hj, ej⟩ := nI_of (fun q => h (Or.inl q))
  refine ⟨j, ?_, ej⟩
  rcases Nat.lt_or_ge 8 j with z | z
  · exact absurd (by rw [ej]; exact nI_lt (a := 8) z hj) (fun q => h (Or.inr q))
  · exact z
theorem cc_readLines (hd : 9 ≤ d) (h4 : δ0.1 31 4 = nI e) (hf : δ0.2.1 29 = f) (he : e ≤ 6000) (F0 : Fr [(31, 3), (31, 5), (32, 2)] [33] [34] δ0 δ) (R : RC e δ δ st) (A : AbA δ0 s) {Q : Int32 → mi_D → Prop}
    (k : ∀ r δ', Fr [(31, 3), (31, 5), (32, 2)] [33] [34] δ0 δ' → ((r = 0 ∧ rdLs s f e (rdI f e st) = none) ∨ (r = 1 ∧ rdLs s f e (rdI f e st) = none ∧ RC e δ' δ' none) ∨ (∃ x, r = 1 ∧ rdLs s f e (rdI f e st) = some x ∧ Lx δ' 32 33 34 x.1 ∧ RC e δ' δ' (some x.2))) → Q r δ') : mi_wI N d 88 0 [.ref 31, .null, .null, .null, .null, .null] [] δ Q := by
  have hl : mi_Ls 32 33 34 60 := Or.inl ⟨rfl, rfl, rfl, rfl⟩
  have g4 : ∀ δ', Fr [(31, 3), (31, 5), (32, 2)] [33] [34] δ0 δ' → δ'.1 31 4 = nI e := fun δ' F => (F.1 _ _ (by decide)).trans h4
  have gf : ∀ δ', Fr [(31, 3), (31, 5), (32, 2)] [33] [34] δ0 δ' → δ'.2.1 29 = f := fun δ' F => (F.2.1 29 (by decide)).trans hf
  have gA : ∀ δ', Fr [(31, 3), (31, 5), (32, 2)] [33] [34] δ0 δ' → AbA δ' s := fun δ' F => A.c (F.kp (by decide) (by decide) (by decide))
  refine q8_readLines_0 (by omega) (cc_nextInt (by omega) (g4 δ F0) (gf δ F0) he R (fun v δ1 r1 => cc_lclear (by omega) hl ?_))
  have F1 : Fr [(31, 3), (31, 5), (32, 2)] [33] [34] δ0 δ1 := F0.tr (r1.st.1.wk (by decide) (by decide) (by decide))
  have F2 : Fr [(31, 3), (31, 5), (32, 2)] [33] [34] δ0 (mi_setI δ1 32 2 0) := F1.xI (by decide)
  have R2 : RC e (mi_setI δ1 32 2 0) (mi_setI δ1 32 2 0) (stO (rdI f e st)) := RP.other r1.st.self rfl rfl
  have X2 : Lx (mi_setI δ1 32 2 0) 32 33 34 L0 := ⟨by rw [pI_f, if_pos ⟨rfl, rfl⟩]; exact nI_0.symm, fun i hi => absurd hi (Nat.not_lt_zero i), fun i hi => absurd hi (Nat.not_lt_zero i)⟩
  -- nothing to read, as it is wrong
  have wrong : ∀ δ' l1 l2, Fr [(31, 3), (31, 5), (32, 2)] [33] [34] δ0 δ' → RC e δ' δ' none → rdLs s f e (rdI f e st) = none → ((l2 < l1 → (mi_wI N (d - 1) 94 0 [.ref 31, .null, .null] [] δ' (fun r2 δ1 => (mi_wL N (d - 1) 95 0 [.ref 31, .null, .null, .null, .null] [] δ1 (fun r4 δ3 => (((δ3.1 31 5) = 0 → (mi_wI N (d - 1) 22 0 [.ref 3, .int r2, .long r4, .null] [] δ3 (fun r6 δ5 => ((r6 = 0 → (mi_wV N (d - 1) 63 0 [.ref 32, .int r2, .long r4, .null] [] δ5 (fun δ7 => mi_wI N d 88 26 [.ref 31, .int l1, .int (l2 + 1), .int r2, .long r4, .null] [] δ7 Q))) ∧ (¬ r6 = 0 → Q 0 δ5))))) ∧ (¬ (δ3.1 31 5) = 0 → Q 0 δ3))))))) ∧ (¬ l2 < l1 → Q 1 δ')) := by
    intro δ' l1 l2 F' R' hn
    refine ⟨fun _ => cc_nextInt (by omega) (g4 δ' F') (gf δ' F') he R' (fun v2 δ3 r3 => ?_), fun _ => k 1 δ' F' (Or.inr (Or.inl ⟨rfl, hn, R'⟩))⟩
    have F3 : Fr [(31, 3), (31, 5), (32, 2)] [33] [34] δ0 δ3 := F'.tr (r3.st.1.wk (by decide) (by decide) (by decide))
    have R3 : RC e δ3 δ3 none := r3.st.self
    refine cc_nextNumber (by omega) (g4 δ3 F3) (gf δ3 F3) he R3 (fun v4 δ4 r4 => ?_)
    have F4 : Fr [(31, 3), (31, 5), (32, 2)] [33] [34] δ0 δ4 := F3.tr (r4.st.1.wk (by decide) (by decide) (by decide))
    exact brF r4.st.2 (k 0 δ4 F4 (Or.inl ⟨rfl, hn⟩))
  cases hx : rdI f e st with
  | none =>
    rw [hx] at R2
    have hn : rdLs s f e (rdI f e st) = none := by rw [hx]; rfl
    refine ⟨fun _ => k 0 _ F2 (Or.inl ⟨rfl, hn⟩), fun _ => ⟨fun _ => k 0 _ F2 (Or.inl ⟨rfl, hn⟩), fun _ => ?_⟩⟩
    exact q8_readLines_26 (by omega) (wrong _ v 0 F2 R2 hn)
  | some n =>
    rw [hx] at R2
    have ev : v = n.1 := by
      have h := r1
      rw [hx] at h
      exact h.1
    have el : rdLs s f e (rdI f e st) = if n.1 < 0 ∨ 8 < n.1 then none else rdL s f e n.1.toNatClampNeg n.2 L0 := by rw [hx]; rfl
    rw [ev]
    refine ⟨fun q => k 0 _ F2 (Or.inl ⟨rfl, by rw [el, if_pos (Or.inl q)]⟩), fun q => ⟨fun q2 => k 0 _ F2 (Or.inl ⟨rfl, by rw [el, if_pos (Or.inr q2)]⟩), fun q2 => ?_⟩⟩
    have hno : ¬ (n.1 < 0 ∨ 8 < n.1) := fun z => z.elim q q2
    rw [if_neg hno] at el
    obtain ⟨m, hm, em⟩ := n8_of hno
    rw [em, nI_clamp (by omega)] at el
    rw [em]
    suffices H : ∀ i, i ≤ m → ∀ δ' p l, Fr [(31, 3), (31, 5), (32, 2)] [33] [34] δ0 δ' → RC e δ' δ' (some p) → Lx δ' 32 33 34 l → l.1 = i → rdL s f e m n.2 L0 = rdL s f e (m - i) p l → mi_wI N d 88 26 [.ref 31, .int (nI m), .int (nI i), .null, .null, .null] [] δ' Q ∧ ∀ x y, mi_wI N d 88 26 [.ref 31, .int (nI m), .int (nI i), .int x, .long y, .null] [] δ' Q by
      have h := (H 0 (by omega) _ n.2 L0 F2 R2 X2 rfl rfl).1
      rwa [nI_0] at h
    intro i hi
    refine up_ind (P := fun i => ∀ δ' p l, Fr [(31, 3), (31, 5), (32, 2)] [33] [34] δ0 δ' → RC e δ' δ' (some p) → Lx δ' 32 33 34 l → l.1 = i → rdL s f e m n.2 L0 = rdL s f e (m - i) p l → mi_wI N d 88 26 [.ref 31, .int (nI m), .int (nI i), .null, .null, .null] [] δ' Q ∧ ∀ x y, mi_wI N d 88 26 [.ref 31, .int (nI m), .int (nI i), .int x, .long y, .null] [] δ' Q) ?_ ?_ hi
    · intro δ' p l F' R' X' el1 er
      have hF : ¬ nI m < nI m := nI_nlt (Nat.le_refl _) (by omega)
      rw [Nat.sub_self] at er
      have er : rdL s f e m n.2 L0 = some (l, p) := er
      have fin := k 1 δ' F' (Or.inr (Or.inr ⟨(l, p), rfl, el.trans er, X', R'⟩))
      exact ⟨q8_readLines_26 (by omega) (brF hF fin), fun x y => q8_readLines_26a (by omega) (brF hF fin)⟩
    · intro i hi ih δ' p l F' R' X' el1 er
      have hT : nI i < nI m := nI_lt hi (by omega)
      rw [show m - i = (m - (i + 1)) + 1 by omega, rdL_s] at er
      have body : mi_wI N (d - 1) 94 0 [.ref 31, .null, .null] [] δ' (fun r2 δ1 => (mi_wL N (d - 1) 95 0 [.ref 31, .null, .null, .null, .null] [] δ1 (fun r4 δ3 => (((δ3.1 31 5) = 0 → (mi_wI N (d - 1) 22 0 [.ref 3, .int r2, .long r4, .null] [] δ3 (fun r6 δ5 => ((r6 = 0 → (mi_wV N (d - 1) 63 0 [.ref 32, .int r2, .long r4, .null] [] δ5 (fun δ7 => mi_wI N d 88 26 [.ref 31, .int (nI m), .int (nI i + 1), .int r2, .long r4, .null] [] δ7 Q))) ∧ (¬ r6 = 0 → Q 0 δ5))))) ∧ (¬ (δ3.1 31 5) = 0 → Q 0 δ3))))) := by
        refine cc_nextInt (by omega) (g4 δ' F') (gf δ' F') he R' (fun v2 δ3 r3 => ?_)
        have F3 : Fr [(31, 3), (31, 5), (32, 2)] [33] [34] δ0 δ3 := F'.tr (r3.st.1.wk (by decide) (by decide) (by decide))
        have X3 : Lx δ3 32 33 34 l := X'.fr r3.st.1 (by decide) (by decide) (by decide)
        cases hy : rdI f e (some p) with
        | none =>
          rw [hy] at er r3
          refine cc_nextNumber (by omega) (g4 δ3 F3) (gf δ3 F3) he r3.st.self (fun v4 δ4 r4 => ?_)
          have F4 : Fr [(31, 3), (31, 5), (32, 2)] [33] [34] δ0 δ4 := F3.tr (r4.st.1.wk (by decide) (by decide) (by decide))
          exact brF r4.st.2 (k 0 δ4 F4 (Or.inl ⟨rfl, el.trans er⟩))
        | some x =>
          rw [hy] at er r3
          have ex : v2 = x.1 := r3.1
          refine cc_nextNumber (by omega) (g4 δ3 F3) (gf δ3 F3) he r3.st.self (fun v4 δ4 r4 => ?_)
          have F4 : Fr [(31, 3), (31, 5), (32, 2)] [33] [34] δ0 δ4 := F3.tr (r4.st.1.wk (by decide) (by decide) (by decide))
          have X4 : Lx δ4 32 33 34 l := X3.fr r4.st.1 (by decide) (by decide) (by decide)
          dsimp only at er
          have r4' : RO 31 3 e 5 δ3 (rdS f e (some x.2)) v4 δ4 := r4
          cases hz : rdS f e (some x.2) with
          | none =>
            rw [hz] at er r4'
            exact brF r4'.st.2 (k 0 δ4 F4 (Or.inl ⟨rfl, el.trans er⟩))
          | some y =>
            rw [hz] at er r4'
            have ey : v4 = y.1 := r4'.1
            dsimp only at er
            refine brT r4'.2.2.1 (cc_rfLine (by omega) (gA δ4 F4) ?_)
            rw [← ex, ← ey] at er
            refine ⟨fun q => ?_, fun q => ?_⟩
            · rw [if_pos q] at er
              refine cc_ladd (by omega) hl X4 (by omega) (fun δ5 X5 f5 => ?_)
              rw [nI_1]
              exact (ih δ5 y.2 _ (F4.tr (f5.wk (by decide) (by decide) (by decide))) (RP.other r4'.2.self (f5.1 _ _ (by decide)) (f5.1 _ _ (by decide))) X5 (by show l.1 + 1 = i + 1; omega) er).2 _ _
            · rw [if_neg q] at er
              exact k 0 δ4 F4 (Or.inl ⟨rfl, el.trans er⟩)
      exact ⟨q8_readLines_26 (by omega) (brT hT body), fun x y => q8_readLines_26a (by omega) (brT hT body)⟩
theorem cc_redo5 (hd : 10 ≤ d) {p : Nat} (h4 : δ0.1 31 4 = nI e) (hf : δ0.2.1 29 = f) (he : e ≤ 6000) (R : RC e δ0 δ0 (some p)) (H : RB δ0 s) (W : Wf s) (hU : ¬ s.1 48 0 = 0) (hR : ¬ s.1 48 1 = 0) {Q : Int32 → mi_D → Prop}
    (k1 : ∀ s', rdo s f p e 5 = some s' → ∀ δ', RB δ' s' → KR δ0 δ' → Q 1 δ') (k0 : rdo s f p e 5 = none → ∀ δ', RB δ' s → KR δ0 δ' → Q 0 δ') : mi_wI N d 87 0 [.ref 31, .null, .null] [] δ0 Q := by
  have hl : mi_Ls 32 33 34 60 := Or.inl ⟨rfl, rfl, rfl, rfl⟩
  have e0 : rdo s f p e 5 = rdoPost s f e (rdI f e (some p)) (rdI f e (stO (rdI f e (some p)))) (rdI f e (stO (rdI f e (stO (rdI f e (some p)))))) := by
    unfold rdo
    rw [if_neg (by decide), if_neg (by decide), if_neg (by decide), if_neg (by decide), if_pos rfl]
  rw [rdoPost_eq] at e0
  refine q8_redoPost_0 (by omega) (cc_nextInt (by omega) h4 hf he R (fun v1 δ1 r1 => cc_nextInt (by omega) h4 hf he r1.st (fun v2 δ2 r2 => ?_)))
  have F2 : Fr [(31, 3), (31, 5), (32, 2)] [33] [34] δ0 δ2 := r2.st.1.wk (by decide) (by decide) (by decide)
  refine cc_readLines (by omega) h4 hf he F2 r2.st.self H.1 (fun r δ3 F3 hc => ?_)
  have b : RB δ3 s := H.c (F3.kp (by decide) (by decide) (by decide))
  have kk : KR δ0 δ3 := F3.kp (by decide) (by decide) (by decide)
  have g4 : δ3.1 31 4 = nI e := (F3.1 _ _ (by decide)).trans h4
  rcases hc with ⟨er, hn⟩ | ⟨er, hn, R3⟩ | ⟨x, er, hx, X3, R3⟩
  · rw [hn] at e0
    rw [er]
    exact br0 (k0 e0 δ3 b kk)
  · rw [hn] at e0
    rw [er]
    exact brN (by decide) (cc_isReadWhole (by omega) g4 he R3 (bI_br (fun _ => k0 e0 δ3 b kk) (fun z => by cases z)))
  · rw [hx] at e0
    rw [er]
    dsimp only at e0
    refine brN (by decide) (cc_isReadWhole (by omega) g4 he R3 (bI_br (fun z => ?_) (fun z => ?_)))
    · rw [if_neg (fun q => z (congrArg some q))] at e0
      exact k0 e0 δ3 b kk
    · rw [if_pos (Option.some.inj z)] at e0
      have hlen : ∃ n3, rdI f e (stO (rdI f e (stO (rdI f e (some p))))) = some n3 ∧ ¬ (n3.1 < 0 ∨ 8 < n3.1) ∧ rdL s f e n3.1.toNatClampNeg n3.2 L0 = some x := by
        cases hy : rdI f e (stO (rdI f e (stO (rdI f e (some p))))) with
        | none => rw [hy] at hx; cases hx
        | some n3 =>
          rw [hy] at hx
          unfold rdLs at hx
          dsimp only at hx
          split at hx
          · cases hx
          · next q => exact ⟨n3, rfl, q, hx⟩
      obtain ⟨n3, hn3, hno, hL⟩ := hlen
      obtain ⟨m, hm, em⟩ := n8_of hno
      rw [em, nI_clamp (by omega)] at hL
      obtain ⟨hA, hlen⟩ := rdL_ok W.1 m n3.2 L0 x hL (fun i hi => absurd hi (Nat.not_lt_zero i))
      have h8 : x.1.1 ≤ 8 := by
        have : x.1.1 = 0 + m := hlen
        omega
      have n2 : ¬ stO (rdI f e (stO (rdI f e (some p)))) = none := fun q => by rw [q] at hn3; cases hn3
      have n1 := rdI_n n2
      have w1 := r1.v n1 0
      have w2 := r2.v n2 0
      rw [← w1, ← w2] at e0
      have h60 := W.1.1.2
      have eg : rdo s f p e 5 = if rf_judge s x.1 v1 = 0 then some (jot (do_enter s x.1 v1 v2 0 (-1)) 5 (encI v1 ++ encI v2 ++ encI (nI x.1.1) ++ encLs x.1)) else none := by
        rw [e0]
        exact acc_gate hU hR (fun q => i32_ltn (rf_judge_n q)) (by rw [W.2.2.1.1.1]; exact nI_pos (by have := W.2.2.1.1.2; omega))
      refine cc_judge (by omega) hl b.1 b.2.1 W.2.1 b.2.2.1 X3 (by omega) (hA.up h60) (fun δ5 f5 => ⟨fun hr => ?_, fun hr => ?_⟩)
      · rw [if_pos hr] at eg
        have b5 : RB δ5 s := b.c (f5.kp (by decide) (by decide) (by decide))
        have hn400 : nN s 15 < 400 := by
          have q := (rf_judge_0 hr).2
          rw [W.2.2.1.1.1] at q
          exact (nI_ltI (b := 400) (by have := W.2.2.1.1.2; omega) (by omega)).mp q
        refine cc_enter (by omega) hl b5.1 b5.2.2 W.1 W.2.2.1 hn400 (X3.fr f5 (by decide) (by decide) (by decide)) (by omega) hA (fun δ9 A9 E9 f9 => ?_)
        exact k1 _ eg δ9 (RB.j A9 ((b5.2.1.c (f9.kp (by decide) (by decide) (by decide))).m (den_k.wk (by decide) (by decide) (by decide))) E9) ((kk.tr (f5.kp (by decide) (by decide) (by decide))).tr (f9.kp (by decide) (by decide) (by decide)))
      · rw [if_neg hr] at eg
        exact k0 eg δ5 (b.c (f5.kp (by decide) (by decide) (by decide))) (kk.tr (f5.kp (by decide) (by decide) (by decide)))
end RDL
