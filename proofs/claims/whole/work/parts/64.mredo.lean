/-! RECOVERY: records done anew by the model -/
section MRD
variable {N d e : Nat} {δ0 δ s : mi_D} {f : Nat → Int32} {st : Option Nat}
/-- what reading may have changed -/
abbrev Frm (δ0 δ : mi_D) : Prop := Fr [(48, 46), (48, 48), (48, 27)] [68] [69] δ0 δ
theorem cm_isPosted (hd : 11 ≤ d) {p : Nat} (h4 : δ0.1 48 47 = nI e) (hf : δ0.2.1 70 = f) (he : e ≤ 6000) (R : RM e δ0 δ0 (some p)) (G : Agr s δ0) (W : Wf s) (hU : ¬ s.1 48 0 = 0) (hR : ¬ s.1 48 1 = 0) {Q : Int32 → mi_D → Prop}
    (k1 : ∀ s', rdo s f p e 5 = some s' → ∀ δ', Agr s' δ' → KC δ0 δ' → Q 1 δ') (k0 : rdo s f p e 5 = none → ∀ δ', Agr s δ' → KC δ0 δ' → Q 0 δ') : mi_wI N d 188 0 [.ref 48, .null, .null, .null, .null, .null, .null, .null, .null] [] δ0 Q := by
  have e0 : rdo s f p e 5 = rdoPost s f e (rdI f e (some p)) (rdI f e (stO (rdI f e (some p)))) (rdI f e (stO (rdI f e (stO (rdI f e (some p)))))) := by
    unfold rdo
    rw [if_neg (by decide), if_neg (by decide), if_neg (by decide), if_neg (by decide), if_pos rfl]
  rw [rdoPost_eq] at e0
  have g4 : ∀ δ', Frm δ0 δ' → δ'.1 48 47 = nI e := fun δ' F => (F.1 _ _ (by decide)).trans h4
  have gf : ∀ δ', Frm δ0 δ' → δ'.2.1 70 = f := fun δ' F => (F.2.1 70 (by decide)).trans hf
  have gG : ∀ δ', Frm δ0 δ' → Agr s δ' := fun δ' F => G.fr F (by decide) (by decide) (by decide)
  have gK : ∀ δ', Frm δ0 δ' → KC δ0 δ' := fun δ' F => F.kp (by decide) (by decide) (by decide)
  refine q12_isPosted_0 (by omega) (cm_whole (by omega) h4 hf he R (fun v1 δ1 r1 => cm_whole (by omega) h4 hf he r1.st (fun v2 δ2 r2 => cm_whole (by omega) h4 hf he r2.st (fun v3 δ3 r3 => ?_))))
  have F3 : Frm δ0 δ3 := r3.st.1.wk (by decide) (by decide) (by decide)
  -- refused for what was read
  have no145 : ∀ δ' l3 l4 l5, Frm δ0 δ' → RM e δ' δ' none → rdo s f p e 5 = none → mi_wI N d 188 145 [.ref 48, .int v1, .int v2, .int l3, .int l4, .int l5, .null, .null, .null] [] δ' Q ∧ ∀ x y, mi_wI N d 188 145 [.ref 48, .int v1, .int v2, .int l3, .int l4, .int l5, .int x, .long y, .null] [] δ' Q := by
    intro δ' l3 l4 l5 F' R' hn
    have body : ∀ R1 : Int32 → mi_D → Prop, (R1 0 δ') → (mi_wI N (d - 1) 186 0 [.ref 48] [] δ' R1) := fun R1 h => cm_isEnded (by omega) (g4 δ' F') he R' (by rw [bI_0 (fun z => by cases z)]; exact h)
    exact ⟨q12_isPosted_145 (by omega) (body _ (br0 (k0 hn δ' (gG δ' F') (gK δ' F')))), fun x y => q12_isPosted_145a (by omega) (body _ (br0 (k0 hn δ' (gG δ' F') (gK δ' F'))))⟩
  have st40 : ∀ s1, (s1 = 0 ∨ s1 = 1) → (∀ δ5, δ5 = mi_setI (mi_setI δ3 48 48 s1) 48 27 0 → mi_wI N d 188 54 [.ref 48, .int v1, .int v2, .int v3, .int 1, .int 0, .null, .null, .null] [] δ5 Q) → mi_wI N d 188 40 [.ref 48, .int v1, .int v2, .int v3, .null, .null, .null, .null, .null] [.int s1, .ref 48] δ3 Q := by
    intro s1 h1 h
    refine q12_isPosted_40 (by omega) ⟨h1, fun δ4 e4 δ5 e5 => h δ5 (by rw [e5, e4])⟩
  have bad : rdo s f p e 5 = none → mi_wI N d 188 35 [.ref 48, .int v1, .int v2, .int v3, .null, .null, .null, .null, .null] [.ref 48] δ3 Q := by
    intro hn
    refine q12_isPosted_35 (by omega) (st40 1 (Or.inr rfl) (fun δ5 e5 => ?_))
    have F5 : Frm δ0 δ5 := by rw [e5]; exact (F3.xI (by decide)).xI (by decide)
    have R5 : RM e δ5 δ5 none := ⟨Fr.rf _ _ _ _, by show ¬ δ5.1 48 48 = 0; rw [e5, pI_f, if_neg (by decide), pI_f, if_pos ⟨rfl, rfl⟩]; decide⟩
    exact q12_isPosted_54 (by omega) ⟨fun _ => brF R5.2 (no145 δ5 _ _ _ F5 R5 hn).1, fun _ => (no145 δ5 _ _ _ F5 R5 hn).1⟩
  cases hx : rdI f e (stO (rdI f e (stO (rdI f e (some p))))) with
  | none =>
    rw [hx] at e0
    have r3' : RO 48 46 e 48 δ0 (none : Option (Int32 × Nat)) v3 δ3 := by rw [← hx]; exact r3
    exact brF r3'.2 (bad e0)
  | some n =>
    have r3' : RO 48 46 e 48 δ0 (some n) v3 δ3 := by rw [← hx]; exact r3
    have ev : v3 = n.1 := r3'.1
    have n2 : ¬ stO (rdI f e (stO (rdI f e (some p)))) = none := fun q => by rw [q] at hx; cases hx
    have n1 := rdI_n n2
    have w1 := r1.v n1 0
    have w2 := r2.v n2 0
    rw [hx, ← w1, ← w2] at e0
    have el : rdLs s f e (some n) = if n.1 < 0 ∨ 8 < n.1 then none else rdL s f e n.1.toNatClampNeg n.2 L0 := rfl
    refine brT r3'.2.2.1 (c_inI (lo := 0) (hi := 8) (by omega) rfl rfl (fun a1 a2 => brN (by decide) ?_) (fun a => br0 (bad ?_)))
    · have hno : ¬ (n.1 < 0 ∨ 8 < n.1) := by rw [← ev]; exact fun z => z.elim a1 a2
      rw [if_neg hno] at el
      obtain ⟨m, hm, em⟩ := n8_of hno
      rw [em, nI_clamp (by omega)] at el
      rw [el] at e0
      rw [ev, em] at st40 ⊢
      refine st40 0 (Or.inl rfl) (fun δ5 e5 => ?_)
      have F5 : Frm δ0 δ5 := by rw [e5]; exact (F3.xI (by decide)).xI (by decide)
      have R5 : RM e δ5 δ5 (some n.2) := ⟨Fr.rf _ _ _ _, by rw [e5, pI_f, if_neg (by decide), pI_f, if_pos ⟨rfl, rfl⟩], by rw [e5, pI_f, if_neg (by decide), pI_f, if_neg (by decide)]; exact r3'.2.2.2.1, r3'.2.2.2.2⟩
      have X5 : Lm δ5 L0 := ⟨by rw [e5, pI_f, if_pos ⟨rfl, rfl⟩]; exact nI_0.symm, fun i hi => absurd hi (Nat.not_lt_zero i), fun i hi => absurd hi (Nat.not_lt_zero i)⟩
      -- a line that isn't good: all else is read, and refused
      have worse : rdo s f p e 5 = none → ∀ i, i ≤ m → ∀ δ' st l, Frm δ0 δ' → RM e δ' δ' st → Lm δ' l → l.1 ≤ 8 + i → mi_wI N d 188 54 [.ref 48, .int v1, .int v2, .int (nI m), .int 0, .int (nI i), .null, .null, .null] [] δ' Q ∧ ∀ x y, mi_wI N d 188 54 [.ref 48, .int v1, .int v2, .int (nI m), .int 0, .int (nI i), .int x, .long y, .null] [] δ' Q := by
        intro hn i hi
        have t145 : ∀ δ' st i, Frm δ0 δ' → RM e δ' δ' st → mi_wI N d 188 145 [.ref 48, .int v1, .int v2, .int (nI m), .int 0, .int (nI i), .null, .null, .null] [] δ' Q ∧ ∀ x y, mi_wI N d 188 145 [.ref 48, .int v1, .int v2, .int (nI m), .int 0, .int (nI i), .int x, .long y, .null] [] δ' Q := by
          intro δ' st i F' R'
          have fin : ∀ R1 : Int32 → mi_D → Prop, (∀ r, R1 r δ') → (mi_wI N (d - 1) 186 0 [.ref 48] [] δ' R1) := fun R1 h => cm_isEnded (by omega) (g4 δ' F') he R' (h _)
          have hq := k0 hn δ' (gG δ' F') (gK δ' F')
          exact ⟨q12_isPosted_145 (by omega) (fin _ (fun r => ⟨fun _ => hq, fun _ => br0 hq⟩)), fun x y => q12_isPosted_145a (by omega) (fin _ (fun r => ⟨fun _ => hq, fun _ => br0 hq⟩))⟩
        refine up_ind (P := fun i => ∀ δ' st l, Frm δ0 δ' → RM e δ' δ' st → Lm δ' l → l.1 ≤ 8 + i → mi_wI N d 188 54 [.ref 48, .int v1, .int v2, .int (nI m), .int 0, .int (nI i), .null, .null, .null] [] δ' Q ∧ ∀ x y, mi_wI N d 188 54 [.ref 48, .int v1, .int v2, .int (nI m), .int 0, .int (nI i), .int x, .long y, .null] [] δ' Q) ?_ ?_ hi
        · intro δ' st l F' R' X' hl
          have hF : ¬ nI m < nI m := nI_nlt (Nat.le_refl _) (by omega)
          exact ⟨q12_isPosted_54 (by omega) (brF hF (t145 δ' st m F' R').1), fun x y => q12_isPosted_54a (by omega) (brF hF ((t145 δ' st m F' R').2 x y))⟩
        · intro i hi ih δ' st l F' R' X' hl
          have hT : nI i < nI m := nI_lt hi (by omega)
          have body : ∀ A B : Prop, B → (mi_wI N (d - 1) 184 0 [.ref 48, .null, .null] [] δ' (fun r2 δ1 => (mi_wL N (d - 1) 183 0 [.ref 48, .null, .null, .null, .null, .null, .null] [] δ1 (fun r4 δ3 => (((0 : Int32) = 0 → mi_wI N d 188 128 [.ref 48, .int v1, .int v2, .int (nI m), .int 0, .int (nI i), .int r2, .long r4, .null] [] δ3 Q) ∧ (¬ (0 : Int32) = 0 → (mi_wI N (d - 1) 149 0 [.ref 48, .int r2] [] δ3 (fun r6 δ5 => ((r6 = 0 → mi_wI N d 188 128 [.ref 48, .int v1, .int v2, .int (nI m), .int 0, .int (nI i), .int r2, .long r4, .null] [] δ5 Q) ∧ (¬ r6 = 0 → (((lg_cmp r4 0) = 0 → mi_wI N d 188 128 [.ref 48, .int v1, .int v2, .int (nI m), .int 0, .int (nI i), .int r2, .long r4, .null] [] δ5 Q) ∧ (¬ (lg_cmp r4 0) = 0 → (mi_wI N (d - 1) 148 0 [.long r4, .null, .long (-1000000000000000), .null, .long 1000000000000000, .null] [] δ5 (fun r8 δ7 => ((r8 = 0 → mi_wI N d 188 128 [.ref 48, .int v1, .int v2, .int (nI m), .int 0, .int (nI i), .int r2, .long r4, .null] [] δ7 Q) ∧ (¬ r8 = 0 → (mi_ix r2 60 = true ∧ (((δ7.2.1 52 (Int32.toNatClampNeg r2)) = 0 → mi_wI N d 188 129 [.ref 48, .int v1, .int v2, .int (nI m), .int 0, .int (nI i), .int r2, .long r4, .null] [.int 1] δ7 Q) ∧ (¬ (δ7.2.1 52 (Int32.toNatClampNeg r2)) = 0 → mi_wI N d 188 128 [.ref 48, .int v1, .int v2, .int (nI m), .int 0, .int (nI i), .int r2, .long r4, .null] [] δ7 Q))))))))))))))))))) := by
            intro A B hB
            refine cm_whole (by omega) (g4 δ' F') (gf δ' F') he R' (fun v δ6 r6 => ?_)
            have F6 : Frm δ0 δ6 := F'.tr (r6.st.1.wk (by decide) (by decide) (by decide))
            refine cm_number (by omega) (g4 δ6 F6) (gf δ6 F6) he r6.st.self (fun w δ7 r7 => br0 ?_)
            have F7 : Frm δ0 δ7 := F6.tr (r7.st.1.wk (by decide) (by decide) (by decide))
            have X7 : Lm δ7 l := (X'.fr r6.st.1 (by decide) (by decide) (by decide)).fr r7.st.1 (by decide) (by decide) (by decide)
            refine q12_isPosted_128 (by omega) (q12_isPosted_129 (by omega) (cm_hand (by omega) X7 (by omega) (fun δ8 X8 f8 => ?_)))
            rw [nI_1]
            exact (ih δ8 _ _ (F7.tr (f8.wk (by decide) (by decide) (by decide))) (RP.other r7.st.self (f8.1 _ _ (by decide)) (f8.1 _ _ (by decide))) X8 (by show l.1 + 1 ≤ _; omega)).2 _ _
          exact ⟨q12_isPosted_54 (by omega) (brT hT ⟨fun _ => body True True trivial, fun _ => (t145 δ' st i F' R').1⟩), fun x y => q12_isPosted_54a (by omega) (brT hT ⟨fun _ => body True True trivial, fun _ => (t145 δ' st i F' R').2 x y⟩)⟩
      suffices H : ∀ i, i ≤ m → ∀ δ' p2 l, Frm δ0 δ' → RM e δ' δ' (some p2) → Lm δ' l → l.1 = i → rdL s f e m n.2 L0 = rdL s f e (m - i) p2 l → mi_wI N d 188 54 [.ref 48, .int v1, .int v2, .int (nI m), .int 1, .int (nI i), .null, .null, .null] [] δ' Q ∧ ∀ x y, mi_wI N d 188 54 [.ref 48, .int v1, .int v2, .int (nI m), .int 1, .int (nI i), .int x, .long y, .null] [] δ' Q by
        have h := (H 0 (by omega) _ n.2 L0 F5 R5 X5 rfl rfl).1
        rwa [nI_0] at h
      intro i hi
      refine up_ind (P := fun i => ∀ δ' p2 l, Frm δ0 δ' → RM e δ' δ' (some p2) → Lm δ' l → l.1 = i → rdL s f e m n.2 L0 = rdL s f e (m - i) p2 l → mi_wI N d 188 54 [.ref 48, .int v1, .int v2, .int (nI m), .int 1, .int (nI i), .null, .null, .null] [] δ' Q ∧ ∀ x y, mi_wI N d 188 54 [.ref 48, .int v1, .int v2, .int (nI m), .int 1, .int (nI i), .int x, .long y, .null] [] δ' Q) ?_ ?_ hi
      · intro δ' p2 l F' R' X' hl er
        have hF : ¬ nI m < nI m := nI_nlt (Nat.le_refl _) (by omega)
        rw [Nat.sub_self] at er
        have er : rdL s f e m n.2 L0 = some (l, p2) := er
        rw [er] at e0
        dsimp only at e0
        obtain ⟨hA, _⟩ := rdL_ok W.1 m n.2 L0 (l, p2) er (fun i hi => absurd hi (Nat.not_lt_zero i))
        have body : mi_wI N (d - 1) 186 0 [.ref 48] [] δ' (fun r2 δ1 => ((r2 = 0 → Q 0 δ1) ∧ (¬ r2 = 0 → (((1 : Int32) = 0 → Q 0 δ1) ∧ (¬ (1 : Int32) = 0 → (mi_wI N (d - 1) 170 0 [.ref 48, .int v1, .int v2, .null, .null] [] δ1 (fun r4 δ3 => ((r4 < 0 → Q 0 δ3) ∧ (¬ r4 < 0 → Q 1 δ3))))))))) := by
          refine cm_isEnded (by omega) (g4 δ' F') he R' (bI_br (fun z => ?_) (fun z => brN (by decide) ?_))
          · rw [if_neg (fun q => z (congrArg some q))] at e0
            exact k0 e0 δ' (gG δ' F') (gK δ' F')
          · rw [if_pos (Option.some.inj z)] at e0
            refine cm_posted (by omega) (gG δ' F') hU W X' (by omega) hA (fun δ6 G6 K6 => ?_)
            unfold acc0 at e0
            refine ⟨fun q => ?_, fun q => ?_⟩
            · rw [if_pos q] at e0
              have es : (A_posted s l v1 v2).2 = s := by
                unfold A_posted at q ⊢
                by_cases hr : rf_judge s l v1 = 0
                · rw [gate_ok hU hr (Or.inl hR)] at q
                  exact absurd q (by show ¬ s.1 48 15 < 0; rw [W.2.2.1.1.1]; exact nI_pos (by have := W.2.2.1.1.2; omega))
                · rw [gate_ref hU hr]
              rw [es] at G6
              exact k0 e0 δ6 G6 ((gK δ' F').tr K6)
            · rw [if_neg q] at e0
              exact k1 _ e0 δ6 G6 ((gK δ' F').tr K6)
        exact ⟨q12_isPosted_54 (by omega) (brF hF (q12_isPosted_145 (by omega) body)), fun x y => q12_isPosted_54a (by omega) (brF hF (q12_isPosted_145a (by omega) body))⟩
      · intro i hi ih δ' p2 l F' R' X' hl er
        have hT : nI i < nI m := nI_lt hi (by omega)
        rw [show m - i = (m - (i + 1)) + 1 by omega, rdL_s] at er
        have body : (mi_wI N (d - 1) 184 0 [.ref 48, .null, .null] [] δ' (fun r2 δ1 => (mi_wL N (d - 1) 183 0 [.ref 48, .null, .null, .null, .null, .null, .null] [] δ1 (fun r4 δ3 => (((1 : Int32) = 0 → mi_wI N d 188 128 [.ref 48, .int v1, .int v2, .int (nI m), .int 1, .int (nI i), .int r2, .long r4, .null] [] δ3 Q) ∧ (¬ (1 : Int32) = 0 → (mi_wI N (d - 1) 149 0 [.ref 48, .int r2] [] δ3 (fun r6 δ5 => ((r6 = 0 → mi_wI N d 188 128 [.ref 48, .int v1, .int v2, .int (nI m), .int 1, .int (nI i), .int r2, .long r4, .null] [] δ5 Q) ∧ (¬ r6 = 0 → (((lg_cmp r4 0) = 0 → mi_wI N d 188 128 [.ref 48, .int v1, .int v2, .int (nI m), .int 1, .int (nI i), .int r2, .long r4, .null] [] δ5 Q) ∧ (¬ (lg_cmp r4 0) = 0 → (mi_wI N (d - 1) 148 0 [.long r4, .null, .long (-1000000000000000), .null, .long 1000000000000000, .null] [] δ5 (fun r8 δ7 => ((r8 = 0 → mi_wI N d 188 128 [.ref 48, .int v1, .int v2, .int (nI m), .int 1, .int (nI i), .int r2, .long r4, .null] [] δ7 Q) ∧ (¬ r8 = 0 → (mi_ix r2 60 = true ∧ (((δ7.2.1 52 (Int32.toNatClampNeg r2)) = 0 → mi_wI N d 188 129 [.ref 48, .int v1, .int v2, .int (nI m), .int 1, .int (nI i), .int r2, .long r4, .null] [.int 1] δ7 Q) ∧ (¬ (δ7.2.1 52 (Int32.toNatClampNeg r2)) = 0 → mi_wI N d 188 128 [.ref 48, .int v1, .int v2, .int (nI m), .int 1, .int (nI i), .int r2, .long r4, .null] [] δ7 Q))))))))))))))))))) := by
          refine cm_whole (by omega) (g4 δ' F') (gf δ' F') he R' (fun v δ6 r6 => ?_)
          have F6 : Frm δ0 δ6 := F'.tr (r6.st.1.wk (by decide) (by decide) (by decide))
          refine cm_number (by omega) (g4 δ6 F6) (gf δ6 F6) he r6.st.self (fun w δ7 r7 => brN (by decide) ?_)
          have F7 : Frm δ0 δ7 := F6.tr (r7.st.1.wk (by decide) (by decide) (by decide))
          have X7 : Lm δ7 l := (X'.fr r6.st.1 (by decide) (by decide) (by decide)).fr r7.st.1 (by decide) (by decide) (by decide)
          -- the line is not good
          have w128 : rdo s f p e 5 = none → mi_wI N d 188 128 [.ref 48, .int v1, .int v2, .int (nI m), .int 1, .int (nI i), .int v, .long w, .null] [] δ7 Q := by
            intro hn
            refine q12_isPosted_128 (by omega) (q12_isPosted_129 (by omega) (cm_hand (by omega) X7 (by omega) (fun δ8 X8 f8 => ?_)))
            rw [nI_1]
            exact (worse hn (i + 1) (by omega) δ8 _ _ (F7.tr (f8.wk (by decide) (by decide) (by decide))) (RP.other r7.st.self (f8.1 _ _ (by decide)) (f8.1 _ _ (by decide))) X8 (by show l.1 + 1 ≤ _; omega)).2 _ _
          -- read, or not
          have both : (RM e δ7 δ7 none ∧ rdL s f e m n.2 L0 = none) ∨ ∃ y2, RM e δ7 δ7 (some y2) ∧ rdL s f e m n.2 L0 = if rf_line s v w = 0 then rdL s f e (m - (i + 1)) y2 (addL l v w) else none := by
            have r7s := r7.st.self
            cases hy : rdI f e (some p2) with
            | none =>
              rw [hy] at er r7s
              exact Or.inl ⟨r7s, er⟩
            | some x =>
              rw [hy] at er r7s
              dsimp only at er
              have r6' : RO 48 46 e 48 δ' (some x) v δ6 := by rw [← hy]; exact r6
              have es6 : stO (rdI f e (some p2)) = some x.2 := by rw [hy]; rfl
              have r7' : RO 48 46 e 48 δ6 (rdS f e (some x.2)) w δ7 := by rw [← es6]; exact r7
              have r7t : RM e δ7 δ7 (stO (rdS f e (some x.2))) := r7s
              cases hz : rdS f e (some x.2) with
              | none =>
                rw [hz] at er r7t
                exact Or.inl ⟨r7t, er⟩
              | some y =>
                rw [hz] at er r7'
                dsimp only at er
                refine Or.inr ⟨y.2, r7'.2.self, ?_⟩
                rw [er, r6'.1, r7'.1]
          have nn : rdL s f e m n.2 L0 = none → rdo s f p e 5 = none := by
            intro hz
            rw [hz] at e0
            exact e0
          refine cm_isAccount (by omega) (gG δ7 F7) W.1 (bI_br (fun h2 => w128 ?_) (fun h2 => ?_))
          · rcases both with ⟨_, hz⟩ | ⟨y2, _, hz⟩
            · exact nn hz
            · rw [if_neg (fun q => h2 (rf_line_0.mp q).1)] at hz
              exact nn hz
          · obtain ⟨j, hj, ej, ec, hx60, hat⟩ := at_ac W.1 h2
            rw [zc_eq]
            refine ⟨fun h3 => w128 ?_, fun h3 => c_inW (by omega) (by decide) (bI_br (fun h5 => w128 ?_) (fun h5 => ⟨hx60, ?_⟩))⟩
            · rcases both with ⟨_, hz⟩ | ⟨y2, _, hz⟩
              · exact nn hz
              · rw [if_neg (fun q => (rf_line_0.mp q).2.1 h3)] at hz
                exact nn hz
            · rcases both with ⟨_, hz⟩ | ⟨y2, _, hz⟩
              · exact nn hz
              · rw [if_neg (fun q => h5 (rf_line_0.mp q).2.2.1)] at hz
                exact nn hz
            · rw [ec, (gG δ7 F7).2.1 52 (by decide)]
              refine ⟨fun h6 => ?_, fun h6 => w128 ?_⟩
              · refine q12_isPosted_129 (by omega) (cm_hand (by omega) X7 (by omega) (fun δ8 X8 f8 => ?_))
                rw [nI_1]
                have F8 := F7.tr (f8.wk (by decide) (by decide) (by decide))
                rcases both with ⟨R7, hz⟩ | ⟨y2, R7, hz⟩
                · have hn := nn hz
                  have R8 : RM e δ8 δ8 none := RP.other R7 (f8.1 _ _ (by decide)) (f8.1 _ _ (by decide))
                  exact q12_isPosted_54a (by omega) ⟨fun _ => brF R8.2 ((no145 δ8 _ _ _ F8 R8 hn).2 _ _), fun _ => (no145 δ8 _ _ _ F8 R8 hn).2 _ _⟩
                · rw [if_pos (rf_line_0.mpr ⟨h2, h3, h5, by rw [hat]; exact h6⟩)] at hz
                  exact (ih δ8 y2 _ F8 (RP.other R7 (f8.1 _ _ (by decide)) (f8.1 _ _ (by decide))) X8 (by show l.1 + 1 = i + 1; omega) hz).2 _ _
              · rcases both with ⟨_, hz⟩ | ⟨y2, _, hz⟩
                · exact nn hz
                · rw [if_neg (fun q => h6 (by have z := (rf_line_0.mp q).2.2.2; rw [hat] at z; exact z))] at hz
                  exact nn hz
        exact ⟨q12_isPosted_54 (by omega) (brT hT (brT R'.2.1 body)), fun x y => q12_isPosted_54a (by omega) (brT hT (brT R'.2.1 body))⟩
    · have hno : n.1 < 0 ∨ 8 < n.1 := by rw [← ev]; exact a
      rw [if_pos hno] at el
      rw [el] at e0
      exact e0
end MRD
