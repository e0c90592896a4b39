/-! RECOVERY: records done anew -/
def vO {α : Type} (x : Option (α × Nat)) (d : α) : α := match x with
  | some y => y.1
  | none => d
def acc0 (lo : Int32) (x : Int32 × mi_D) : Option mi_D := if x.1 < lo then none else some x.2
def rdL (s : mi_D) (f : Nat → Int32) (e : Nat) : Nat → Nat → Ln → Option (Ln × Nat)
  | 0, p, l => some (l, p)
  | m + 1, p, l => match rdI f e (some p) with
    | none => none
    | some x => match rdS f e (some x.2) with
      | none => none
      | some y => if rf_line s x.1 y.1 = 0 then rdL s f e m y.2 (addL l x.1 y.1) else none
def L0 : Ln := (0, fun _ => 0, fun _ => 0)
def rdoPost (s : mi_D) (f : Nat → Int32) (e : Nat) (x1 x2 x3 : Option (Int32 × Nat)) : Option mi_D := match x3 with
  | none => none
  | some n => if n.1 < 0 ∨ 8 < n.1 then none else match rdL s f e n.1.toNatClampNeg n.2 L0 with
    | none => none
    | some l => if l.2 = e then acc0 0 (A_posted s l.1 (vO x1 0) (vO x2 0)) else none
def rdo1 (s : mi_D) (e : Nat) (x1 x2 x3 x4 : Option (Int32 × Nat)) : Option mi_D := if stO x4 = some e then acc0 0 (A_account s (vO x1 0) (vO x2 0) (vO x3 0) (vO x4 0)) else none
def rdo2 (s : mi_D) (e : Nat) (x1 x2 : Option (Int32 × Nat)) : Option mi_D := if stO x2 = some e then acc0 0 (A_shut s (vO x1 0) (vO x2 0)) else none
def rdo3 (s : mi_D) (e : Nat) (x1 : Option (Int32 × Nat)) : Option mi_D := if stO x1 = some e then acc0 0 (A_period s (vO x1 0)) else none
def rdo4 (s : mi_D) (e : Nat) (x1 : Option (Int32 × Nat)) : Option mi_D := if stO x1 = some e then acc0 (-1) (A_owner s (vO x1 0)) else none
def rdo6 (s : mi_D) (e : Nat) (x1 x2 : Option (Int32 × Nat)) : Option mi_D := if stO x2 = some e then acc0 0 (A_back s (vO x1 0) (vO x2 0)) else none
def rdo (s : mi_D) (f : Nat → Int32) (p e : Nat) (w : Int32) : Option mi_D :=
  if w = 1 then rdo1 s e (rdI f e (some p)) (rdI f e (stO (rdI f e (some p)))) (rdI f e (stO (rdI f e (stO (rdI f e (some p)))))) (rdF f e (stO (rdI f e (stO (rdI f e (stO (rdI f e (some p))))))))
  else if w = 2 then rdo2 s e (rdI f e (some p)) (rdF f e (stO (rdI f e (some p))))
  else if w = 3 then rdo3 s e (rdI f e (some p))
  else if w = 4 then rdo4 s e (rdI f e (some p))
  else if w = 5 then rdoPost s f e (rdI f e (some p)) (rdI f e (stO (rdI f e (some p)))) (rdI f e (stO (rdI f e (stO (rdI f e (some p))))))
  else if w = 6 then rdo6 s e (rdI f e (some p)) (rdI f e (stO (rdI f e (some p))))
  else if w = 7 then (if p = e then acc0 0 (A_close s) else none)
  else if w = 8 then (if p = e then acc0 0 (A_reopen s) else none)
  else none
theorem RO.v {c x e w : Nat} {α : Type} {δ0 δ' : mi_D} {y : Option (α × Nat)} {v : α} (h : RO c x e w δ0 y v δ') (hn : ¬ stO y = none) (d : α) : v = vO y d := by
  unfold RO at h
  unfold stO at hn
  unfold vO
  cases y with
  | none => exact absurd rfl hn
  | some y => exact h.1
theorem rdI_n {f : Nat → Int32} {e : Nat} {st : Option Nat} (h : ¬ stO (rdI f e st) = none) : ¬ st = none := fun q => by
  subst q
  exact h rfl
theorem rdF_n {f : Nat → Int32} {e : Nat} {st : Option Nat} (h : ¬ stO (rdF f e st) = none) : ¬ st = none := fun q => by
  subst q
  exact h rfl
theorem acc_gate {s s' : mi_D} {rf what ans lo : Int32} {B : List Int32} (hU : ¬ s.1 48 0 = 0) (hR : ¬ s.1 48 1 = 0) (hn : ¬ rf = 0 → rf < lo) (ha : ¬ ans < lo) : acc0 lo (gate s rf what ans B s') = if rf = 0 then some (jot s' what B) else none := by
  unfold acc0
  by_cases h : rf = 0
  · rw [gate_ok hU h (Or.inl hR), if_pos h]
    exact if_neg ha
  · rw [gate_ref hU h, if_neg h]
    exact if_pos (hn h)
theorem rfn_account {s : mi_D} {c k p : Int32} (h : ¬ rf_account s c k p = 0) : rf_account s c k p < 0 := by
  unfold rf_account at *
  split
  · decide
  · next h1 =>
    rw [if_neg h1] at h
    split
    · decide
    · next h2 =>
      rw [if_neg h2] at h
      split
      · decide
      · next h3 =>
        rw [if_neg h3] at h
        split
        · decide
        · next h4 =>
          rw [if_neg h4] at h
          split
          · next h5 => rw [if_pos h5] at h; exact absurd rfl h
          · decide
theorem rfn_shut {s : mi_D} {a on : Int32} (h : ¬ rf_shut s a on = 0) : rf_shut s a on < 0 := by
  unfold rf_shut at *
  split
  · decide
  · next h1 =>
    rw [if_neg h1] at h
    split
    · decide
    · next h2 =>
      rw [if_neg h2] at h
      split
      · decide
      · next h3 => rw [if_neg h3] at h; exact absurd rfl h
theorem rfn_period {s : mi_D} {a : Int32} (h : ¬ rf_period s a = 0) : rf_period s a < 0 := by
  unfold rf_period at *
  split
  · decide
  · next h1 =>
    rw [if_neg h1] at h
    split
    · next h2 => rw [if_pos h2] at h; exact absurd rfl h
    · decide
theorem rfn_owner {s : mi_D} {a : Int32} (h : ¬ rf_owner s a = 0) : rf_owner s a < -1 := by
  unfold rf_owner at *
  split
  · decide
  · next h1 =>
    rw [if_neg h1] at h
    split
    · next h2 => rw [if_pos h2] at h; exact absurd rfl h
    · decide
theorem rfn_back {s : mi_D} {a b : Int32} (h : ¬ rf_back s a b = 0) : rf_back s a b < 0 := by
  unfold rf_back at *
  split
  · decide
  · next h1 =>
    rw [if_neg h1] at h
    split
    · decide
    · next h2 =>
      rw [if_neg h2] at h
      split
      · decide
      · next h3 => rw [if_neg h3] at h; exact i32_ltn (rf_judge_n h)
theorem rfn_close {s : mi_D} (h : ¬ rf_close s = 0) : rf_close s < 0 := by
  unfold rf_close at *
  split
  · decide
  · next h1 => rw [if_neg h1] at h; exact i32_ltn (rf_unj_n h)
theorem rfn_reopen {s : mi_D} (h : ¬ rf_reopen s = 0) : rf_reopen s < 0 := by
  unfold rf_reopen at *
  split
  · decide
  · next h1 => rw [if_neg h1] at h; exact i32_ltn (rf_unj_n h)
/-- the books of the program -/
def RB (δ s : mi_D) : Prop := AbA δ s ∧ AbP δ s ∧ AbE δ s
abbrev krF : List (Nat × Nat) := (2,7) :: (28,4) :: (28,5) :: (28,6) :: (35,2) :: (45,3) :: pmF
abbrev krA : List Nat := 0 :: 1 :: 29 :: 36 :: 46 :: pmA
abbrev krL : List Nat := 37 :: pmL
abbrev KR (δ δ' : mi_D) : Prop := Kp krF krA krL δ δ'
theorem RB.c {δ δ' s : mi_D} (h : RB δ s) (k : Kp [(3,3),(4,9),(14,2),(14,3),(17,9),(17,10)] [5,6,7,8,9,10,12,13,15,16,18,19,20,21,22,23,24,25] [11,26] δ δ') : RB δ' s := ⟨h.1.c (k.wk (by decide) (by decide) (by decide)), h.2.1.c (k.wk (by decide) (by decide) (by decide)), h.2.2.c (k.wk (by decide) (by decide) (by decide))⟩
theorem RB.j {δ s : mi_D} {w : Int32} {B : List Int32} (A : AbA δ s) (P : AbP δ s) (E : AbE δ s) : RB δ (jot s w B) := ⟨A.m (jot_k.wk (by decide) (by decide) (by decide)), P.m (jot_k.wk (by decide) (by decide) (by decide)), E.m (jot_k.wk (by decide) (by decide) (by decide))⟩
theorem abe_account {δ8 δ9 s : mi_D} {c k p g : Int32} (W : Wf s) (n60 : nN s 2 < 60) (E8 : AbE δ8 s) (k9' : Kp [(17,9),(17,10)] [18,19,20,21,22,23,24,25] [26] δ8 δ9) (e9 : δ9.2.1 9 = up1 (δ8.2.1 9) (nN s 2) 0) : AbE δ9 (do_account s c k p g) := by
  have ks : Kp [(48,0),(48,1),(48,10),(48,11),(48,12),(48,15),(48,24),(48,30),(48,31),(48,32),(48,36)] [56,57,58,59,60,61,62,63,64,66,70,72] [65,67] s (do_account s c k p g) := by
    unfold do_account
    exact (((((((Kp.setA (by decide)).tr (Kp.setA (by decide))).tr (Kp.setA (by decide))).tr (Kp.setA (by decide))).tr (Kp.setA (by decide))).tr (Kp.setA (by decide))).tr (Kp.setL (by decide))).tr (Kp.setI (by decide))
  have hn2 : nN (do_account s c k p g) 2 = nN s 2 + 1 := nN_nI (by unfold do_account; simp only [pI_f, pI_a, pI_l, pA_f, pA_a, pA_l, pL_f, pL_a, pL_l, rA_f, rA_a, rA_l, rL_f, rL_a, rL_l, reduceIte, Nat.reduceEqDiff, and_self, and_true, true_and, and_false, false_and]; rw [W.1.1.1, nI_1]) (by omega)
  have ef : ∀ e, fromN (do_account s c k p g) e = fromN s e := fun e => by unfold fromN; rw [ks.2.1 61 (by decide)]
  have en : nN (do_account s c k p g) 15 = nN s 15 := by unfold nN; rw [ks.1 (48, 15) (by decide)]
  have ec : ∀ a i, cntL (do_account s c k p g) a i = cntL s a i := fun a i => by unfold cntL; rw [ks.2.1 64 (by decide)]
  refine ⟨?_, ?_, ?_, ?_, ?_, ?_, ?_, ?_, ?_, ?_, ?_⟩
  · rw [k9'.1 (17, 9) (by decide), ks.1 (48, 15) (by decide)]; exact E8.1
  · rw [k9'.2.1 18 (by decide), ks.2.1 58 (by decide)]; exact E8.2.1
  · rw [k9'.2.1 19 (by decide), ks.2.1 59 (by decide)]; exact E8.2.2.1
  · rw [k9'.2.1 20 (by decide), ks.2.1 60 (by decide)]; exact E8.2.2.2.1
  · rw [k9'.2.1 22 (by decide), ks.2.1 62 (by decide)]; exact E8.2.2.2.2.1
  · rw [k9'.2.1 23 (by decide), ks.2.1 63 (by decide)]; exact E8.2.2.2.2.2.1
  · rw [k9'.2.1 25 (by decide), ks.2.1 64 (by decide)]; exact E8.2.2.2.2.2.2.1
  · rw [k9'.2.2 26 (by decide), ks.2.2 65 (by decide)]; exact E8.2.2.2.2.2.2.2.1
  · rw [k9'.1 (17, 10) (by decide), en, ef]; exact E8.2.2.2.2.2.2.2.2.1
  · rw [k9'.2.1 24 (by decide), k9'.2.1 21 (by decide), en]
    intro e he
    rw [ef, ef]
    exact E8.2.2.2.2.2.2.2.2.2.1 e he
  · rw [hn2, en, ef, e9]
    intro a ha
    rw [ec]
    by_cases q : a = nN s 2
    · subst q
      rw [up1_s, cntL_0 (fun i hi => (W.2.2.1.2.2.2.2 i hi)) W.1.1.2]
      exact nI_0.symm
    · rw [up1_n _ _ q]
      exact E8.2.2.2.2.2.2.2.2.2.2 a (by omega)
section RDO
variable {N d e p : Nat} {δ0 δ s : mi_D} {f : Nat → Int32}
theorem rb_fr {δ1 : mi_D} (h : RB δ0 s) (R : Fr [(31, 3), (31, 5)] [] [] δ0 δ1) : RB δ1 s ∧ KR δ0 δ1 := ⟨h.c (R.kp (by decide) (by decide) (by decide)), R.kp (by decide) (by decide) (by decide)⟩
theorem cc_redo1 (hd : 9 ≤ d) (h4 : δ0.1 31 4 = nI e) (hf : δ0.2.1 29 = f) (he : e ≤ 6000) (R : RC e δ0 δ0 (some p)) (H : RB δ0 s) (W : Wf s) (hU : ¬ s.1 48 0 = 0) (hR : ¬ s.1 48 1 = 0) {Q : Int32 → mi_D → Prop}
    (k1 : ∀ s', rdo s f p e 1 = some s' → ∀ δ', RB δ' s' → KR δ0 δ' → Q 1 δ') (k0 : rdo s f p e 1 = none → ∀ δ', RB δ' s → KR δ0 δ' → Q 0 δ') : mi_wI N d 83 0 [.ref 31, .null, .null, .null, .null] [] δ0 Q := by
  refine q8_redoAccount_0 (by omega) (cc_nextInt (by omega) h4 hf he R (fun v1 δ1 r1 => cc_nextInt (by omega) h4 hf he r1.st (fun v2 δ2 r2 => cc_nextInt (by omega) h4 hf he r2.st (fun v3 δ3 r3 => cc_nextFlag (by omega) h4 hf he r3.st (fun v4 δ4 r4 => cc_isReadWhole (by omega) h4 he r4.st (bI_br (fun hn => ?_) (fun hy => ?_)))))))
  · obtain ⟨b, kk⟩ := rb_fr H r4.st.1
    refine k0 ?_ δ4 b kk
    unfold rdo
    rw [if_pos rfl]
    unfold rdo1
    exact if_neg hn
  · obtain ⟨b, kk⟩ := rb_fr H r4.st.1
    have n4 : ¬ stO (rdF f e (stO (rdI f e (stO (rdI f e (stO (rdI f e (some p)))))))) = none := fun q => by rw [hy] at q; cases q
    have n3 := rdF_n n4
    have n2 := rdI_n n3
    have n1 := rdI_n n2
    have w1 := r1.v n1 0
    have w2 := r2.v n2 0
    have w3 := r3.v n3 0
    have w4 := r4.v n4 0
    have er : rdo s f p e 1 = acc0 0 (A_account s v1 v2 v3 v4) := by
      unfold rdo
      rw [if_pos rfl]
      unfold rdo1
      rw [if_pos hy, w1, w2, w3, w4]
    have eg : rdo s f p e 1 = if rf_account s v1 v2 v3 = 0 then some (jot (do_account s v1 v2 v3 v4) 1 (encI v1 ++ encI v2 ++ encI v3 ++ encI (bI (¬ v4 = 0)))) else none := by
      rw [er]
      exact acc_gate hU hR rfn_account (by rw [W.1.1.1]; exact nI_pos (by have := W.1.1.2; omega))
    refine cc_rfAccount (by omega) b.1 W.1 ⟨fun hr => ?_, fun hr => ?_⟩
    · rw [if_pos hr] at eg
      have n60 : nN s 2 < 60 := by
        have h5 := (rf_account_0 hr).2.2.2.2
        rw [W.1.1.1] at h5
        exact (nI_ltI (b := 60) (by have := W.1.1.2; omega) (by omega)).mp h5
      refine cc_add (by omega) b.1 W.1 n60 (fun δ9 A9 f9 e9 => ?_)
      have ks : Kp [(48,0),(48,1),(48,10),(48,11),(48,12),(48,15),(48,24),(48,30),(48,31),(48,32),(48,36)] [56,57,58,59,60,61,62,63,64,66,70,72] [65,67] s (do_account s v1 v2 v3 v4) := by
        unfold do_account
        exact (((((((Kp.setA (by decide)).tr (Kp.setA (by decide))).tr (Kp.setA (by decide))).tr (Kp.setA (by decide))).tr (Kp.setA (by decide))).tr (Kp.setA (by decide))).tr (Kp.setL (by decide))).tr (Kp.setI (by decide))
      exact k1 _ eg δ9 (RB.j A9 ((b.2.1.c (f9.kp (by decide) (by decide) (by decide))).m (ks.wk (by decide) (by decide) (by decide))) (abe_account W n60 b.2.2 (f9.kp (by decide) (by decide) (by decide)) e9)) (kk.tr (f9.kp (by decide) (by decide) (by decide)))
    · rw [if_neg hr] at eg
      exact k0 eg δ4 b kk
theorem cc_redo2 (hd : 9 ≤ d) (h4 : δ0.1 31 4 = nI e) (hf : δ0.2.1 29 = f) (he : e ≤ 6000) (R : RC e δ0 δ0 (some p)) (H : RB δ0 s) (W : Wf s) (hU : ¬ s.1 48 0 = 0) (hR : ¬ s.1 48 1 = 0) {Q : Int32 → mi_D → Prop}
    (k1 : ∀ s', rdo s f p e 2 = some s' → ∀ δ', RB δ' s' → KR δ0 δ' → Q 1 δ') (k0 : rdo s f p e 2 = none → ∀ δ', RB δ' s → KR δ0 δ' → Q 0 δ') : mi_wI N d 84 0 [.ref 31, .null, .null] [] δ0 Q := by
  refine q8_redoShut_0 (by omega) (cc_nextInt (by omega) h4 hf he R (fun v1 δ1 r1 => cc_nextFlag (by omega) h4 hf he r1.st (fun v2 δ2 r2 => cc_isReadWhole (by omega) h4 he r2.st (bI_br (fun hn => ?_) (fun hy => ?_)))))
  · obtain ⟨b, kk⟩ := rb_fr H r2.st.1
    refine k0 ?_ δ2 b kk
    unfold rdo
    rw [if_neg (by decide), if_pos rfl]
    unfold rdo2
    exact if_neg hn
  · obtain ⟨b, kk⟩ := rb_fr H r2.st.1
    have n2 : ¬ stO (rdF f e (stO (rdI f e (some p)))) = none := fun q => by rw [hy] at q; cases q
    have n1 := rdF_n n2
    have w1 := r1.v n1 0
    have w2 := r2.v n2 0
    have er : rdo s f p e 2 = acc0 0 (A_shut s v1 v2) := by
      unfold rdo
      rw [if_neg (by decide), if_pos rfl]
      unfold rdo2
      rw [if_pos hy, w1, w2]
    have eg : rdo s f p e 2 = if rf_shut s v1 v2 = 0 then some (jot (do_shut s v1 v2) 2 (encI v1 ++ encI (bI (¬ v2 = 0)))) else none := by
      rw [er]
      exact acc_gate hU hR rfn_shut (by rcases @bI_01 (v2 = 0) _ with z | z <;> rw [z] <;> decide)
    refine cc_rfShut (by omega) b.1 W.1 ⟨fun hr => ?_, fun hr => ?_⟩
    · rw [if_pos hr] at eg
      have hac : isAc s v1 := by
        unfold rf_shut at hr
        split at hr
        · exact absurd hr (by decide)
        · next q => exact Decidable.not_not.mp q
      obtain ⟨j, hj, ej, ec, _, _⟩ := at_ac W.1 hac
      have h60 := W.1.1.2
      rw [ej]
      refine cc_setShut (by omega) (by omega) ?_
      have ks : Kp pmF [49,50,51,52,53,56,57,58,59,60,61,62,63,64,66,70,72] pmL s (do_shut s v1 v2) := Kp.setA (by decide)
      refine k1 _ eg _ (RB.j ?_ ((b.2.1.c (Kp.setA (by decide))).m (ks.wk (by decide) (by decide) (by decide))) ((b.2.2.c (Kp.setA (by decide))).m (ks.wk (by decide) (by decide) (by decide)))) (kk.tr (Kp.setA (by decide)))
      have A6 := b.1
      unfold AbA do_shut nN
      rw [ec]
      simp only [pI_f, pI_a, pI_l, pA_f, pA_a, pA_l, pL_f, pL_a, pL_l, rA_f, rA_a, rA_l, rL_f, rL_a, rL_l, reduceIte, Nat.reduceEqDiff, and_self, and_true, true_and, and_false, false_and]
      exact ⟨A6.1, A6.2.1, A6.2.2.1, A6.2.2.2.1, A6.2.2.2.2.1, A6.2.2.2.2.2.1, by rw [A6.2.2.2.2.2.2.1], A6.2.2.2.2.2.2.2.1, A6.2.2.2.2.2.2.2.2⟩
    · rw [if_neg hr] at eg
      exact k0 eg δ2 b kk
theorem cc_redo3 (hd : 9 ≤ d) (h4 : δ0.1 31 4 = nI e) (hf : δ0.2.1 29 = f) (he : e ≤ 6000) (R : RC e δ0 δ0 (some p)) (H : RB δ0 s) (W : Wf s) (hU : ¬ s.1 48 0 = 0) (hR : ¬ s.1 48 1 = 0) {Q : Int32 → mi_D → Prop}
    (k1 : ∀ s', rdo s f p e 3 = some s' → ∀ δ', RB δ' s' → KR δ0 δ' → Q 1 δ') (k0 : rdo s f p e 3 = none → ∀ δ', RB δ' s → KR δ0 δ' → Q 0 δ') : mi_wI N d 85 0 [.ref 31, .null] [] δ0 Q := by
  refine q8_redoPeriod_0 (by omega) (cc_nextInt (by omega) h4 hf he R (fun v1 δ1 r1 => cc_isReadWhole (by omega) h4 he r1.st (bI_br (fun hn => ?_) (fun hy => ?_))))
  · obtain ⟨b, kk⟩ := rb_fr H r1.st.1
    refine k0 ?_ δ1 b kk
    unfold rdo
    rw [if_neg (by decide), if_neg (by decide), if_pos rfl]
    unfold rdo3
    exact if_neg hn
  · obtain ⟨b, kk⟩ := rb_fr H r1.st.1
    have n1 : ¬ stO (rdI f e (some p)) = none := fun q => by rw [hy] at q; cases q
    have w1 := r1.v n1 0
    have er : rdo s f p e 3 = acc0 0 (A_period s v1) := by
      unfold rdo
      rw [if_neg (by decide), if_neg (by decide), if_pos rfl]
      unfold rdo3
      rw [if_pos hy, w1]
    have h24 := W.2.1.1.2
    have eg : rdo s f p e 3 = if rf_period s v1 = 0 then some (jot (do_period s v1) 3 (encI v1)) else none := by
      rw [er]
      exact acc_gate hU hR rfn_period (by rw [W.2.1.1.1]; exact nI_pos (by omega))
    refine cc_rfPeriod (by omega) b.2.1 ⟨fun hr => ?_, fun hr => ?_⟩
    · rw [if_pos hr] at eg
      have hn : nN s 11 < 24 := by
        unfold rf_period at hr
        split at hr
        · exact absurd hr (by decide)
        · split at hr
          · next h24 =>
            rw [W.2.1.1.1] at h24
            exact (nI_ltI (b := 24) (by omega) (by omega)).mp h24
          · exact absurd hr (by decide)
      refine q7_add_0 (by omega) (fun x1 e1 δ6 e6 δ7 e7 δ8 e8 => ?_)
      have P5 := b.2.1
      have e1' : x1 = nI (nN s 11) := by rw [e1, P5.1, W.2.1.1.1]
      subst e1'
      rw [pt_row _ _ _ _ hn (by omega)] at e6 e7
      subst e8 e7 e6
      have ks : Kp [(48,0),(48,1),(48,2),(48,10),(48,12),(48,15),(48,24),(48,30),(48,31),(48,32),(48,36)] [49,50,51,52,53,54,58,59,60,61,62,63,64,66,70,72] pmL s (do_period s v1) := ((Kp.setA (by decide)).tr (Kp.setA (by decide))).tr (Kp.setI (by decide))
      have fr : ∀ v, Fr [(14, 2)] [15, 16] [] δ1 (mi_setI (rowA (rowA δ1 15 (up1 (δ1.2.1 15) (nN s 11) v1)) 16 (up1 ((rowA δ1 15 (up1 (δ1.2.1 15) (nN s 11) v1)).2.1 16) (nN s 11) (-1))) 14 2 v) := fun v => ((Fr.rwA (by decide)).xA (by decide)).xI (by decide)
      refine k1 _ eg _ (RB.j ((b.1.c ((fr _).kp (by decide) (by decide) (by decide))).m (ks.wk (by decide) (by decide) (by decide))) ?_ ((b.2.2.c ((fr _).kp (by decide) (by decide) (by decide))).m (ks.wk (by decide) (by decide) (by decide)))) (kk.tr ((fr _).kp (by decide) (by decide) (by decide)))
      unfold AbP do_period
      simp only [pI_f, pI_a, pI_l, pA_f, pA_a, pA_l, pL_f, pL_a, pL_l, rA_f, rA_a, rA_l, rL_f, rL_a, rL_l, reduceIte, Nat.reduceEqDiff, and_self, and_true, true_and, and_false, false_and]
      exact ⟨by rw [P5.1], P5.2.1, by rw [P5.2.2.1], by rw [P5.2.2.2.1], P5.2.2.2.2⟩
    · rw [if_neg hr] at eg
      exact k0 eg δ1 b kk
theorem cc_redo4 (hd : 9 ≤ d) (h4 : δ0.1 31 4 = nI e) (hf : δ0.2.1 29 = f) (he : e ≤ 6000) (R : RC e δ0 δ0 (some p)) (H : RB δ0 s) (W : Wf s) (hU : ¬ s.1 48 0 = 0) (hR : ¬ s.1 48 1 = 0) {Q : Int32 → mi_D → Prop}
    (k1 : ∀ s', rdo s f p e 4 = some s' → ∀ δ', RB δ' s' → KR δ0 δ' → Q 1 δ') (k0 : rdo s f p e 4 = none → ∀ δ', RB δ' s → KR δ0 δ' → Q 0 δ') : mi_wI N d 86 0 [.ref 31, .null] [] δ0 Q := by
  refine q8_redoOwner_0 (by omega) (cc_nextInt (by omega) h4 hf he R (fun v1 δ1 r1 => cc_isReadWhole (by omega) h4 he r1.st (bI_br (fun hn => ?_) (fun hy => ?_))))
  · obtain ⟨b, kk⟩ := rb_fr H r1.st.1
    refine k0 ?_ δ1 b kk
    unfold rdo
    rw [if_neg (by decide), if_neg (by decide), if_neg (by decide), if_pos rfl]
    unfold rdo4
    exact if_neg hn
  · obtain ⟨b, kk⟩ := rb_fr H r1.st.1
    have n1 : ¬ stO (rdI f e (some p)) = none := fun q => by rw [hy] at q; cases q
    have w1 := r1.v n1 0
    have er : rdo s f p e 4 = acc0 (-1) (A_owner s v1) := by
      unfold rdo
      rw [if_neg (by decide), if_neg (by decide), if_neg (by decide), if_pos rfl]
      unfold rdo4
      rw [if_pos hy, w1]
    have h60 := W.1.1.2
    have eg : rdo s f p e 4 = if rf_owner s v1 = 0 then some (jot (mi_setI s 48 10 v1) 4 (encI v1)) else none := by
      rw [er]
      refine acc_gate hU hR rfn_owner ?_
      rcases W.2.1.2.2.2.2.2 with z | ⟨a, ha, z, _⟩
      · rw [z]; decide
      · rw [z]
        intro q
        have e1 : (nI a).toInt = a := nI_toInt (by omega)
        have em : (-1 : Int32).toInt = -1 := by decide
        rw [Int32.lt_iff_toInt_lt] at q
        omega
    refine cc_rfOwner (by omega) b.1 ⟨fun hr => ?_, fun hr => ?_⟩
    · rw [if_pos hr] at eg
      refine q1_changeOwner_0 (by omega) (fun x1 e1 δ6 e6 => ?_)
      subst e6
      have P5 := b.2.1
      have ks : Kp [(48,0),(48,1),(48,2),(48,11),(48,12),(48,15),(48,24),(48,30),(48,31),(48,32),(48,36)] pmA pmL s (mi_setI s 48 10 v1) := Kp.setI (by decide)
      exact k1 _ eg _ (RB.j ((b.1.c (Kp.setI (by decide))).m (ks.wk (by decide) (by decide) (by decide))) ⟨P5.1, P5.2.1, P5.2.2.1, P5.2.2.2.1, rfl⟩ ((b.2.2.c (Kp.setI (by decide))).m (ks.wk (by decide) (by decide) (by decide)))) (kk.tr (Kp.setI (by decide)))
    · rw [if_neg hr] at eg
      exact k0 eg δ1 b kk
theorem cc_redo6 (hd : 11 ≤ d) (h4 : δ0.1 31 4 = nI e) (hf : δ0.2.1 29 = f) (he : e ≤ 6000) (R : RC e δ0 δ0 (some p)) (H : RB δ0 s) (W : Wf s) (hU : ¬ s.1 48 0 = 0) (hR : ¬ s.1 48 1 = 0) {Q : Int32 → mi_D → Prop}
    (k1 : ∀ s', rdo s f p e 6 = some s' → ∀ δ', RB δ' s' → KR δ0 δ' → Q 1 δ') (k0 : rdo s f p e 6 = none → ∀ δ', RB δ' s → KR δ0 δ' → Q 0 δ') : mi_wI N d 89 0 [.ref 31, .null, .null] [] δ0 Q := by
  have hl : mi_Ls 32 33 34 60 := Or.inl ⟨rfl, rfl, rfl, rfl⟩
  refine q8_redoBack_0 (by omega) (cc_nextInt (by omega) h4 hf he R (fun v1 δ1 r1 => cc_nextInt (by omega) h4 hf he r1.st (fun v2 δ2 r2 => cc_isReadWhole (by omega) h4 he r2.st (bI_br (fun hn => ?_) (fun hy => ?_)))))
  · obtain ⟨b, kk⟩ := rb_fr H r2.st.1
    refine k0 ?_ δ2 b kk
    unfold rdo
    rw [if_neg (by decide), if_neg (by decide), if_neg (by decide), if_neg (by decide), if_neg (by decide), if_pos rfl]
    unfold rdo6
    exact if_neg hn
  · obtain ⟨b, kk⟩ := rb_fr H r2.st.1
    have n2 : ¬ stO (rdI f e (stO (rdI f e (some p)))) = none := fun q => by rw [hy] at q; cases q
    have n1 := rdI_n n2
    have w1 := r1.v n1 0
    have w2 := r2.v n2 0
    have er : rdo s f p e 6 = acc0 0 (A_back s v1 v2) := by
      unfold rdo
      rw [if_neg (by decide), if_neg (by decide), if_neg (by decide), if_neg (by decide), if_neg (by decide), if_pos rfl]
      unfold rdo6
      rw [if_pos hy, w1, w2]
    have hn4 := W.2.2.1.1.2
    have eg : rdo s f p e 6 = if rf_back s v1 v2 = 0 then some (jot (do_back s v1 v2) 6 (encI v1 ++ encI v2)) else none := by
      rw [er]
      exact acc_gate hU hR rfn_back (by rw [W.2.2.1.1.1]; exact nI_pos (by omega))
    refine cc_rfBack (by omega) hl rfl b.1 b.2.1 b.2.2 W (fun δ3 f3 X3 => ⟨fun hr => ?_, fun hr => ?_⟩)
    · rw [if_pos hr] at eg
      have X3 := X3 hr
      have b3 : RB δ3 s := b.c (f3.kp (by decide) (by decide) (by decide))
      have he2 : (∃ j, j < nN s 15 ∧ v1 = nI j) ∧ rf_judge s (negL (entL s v1.toNatClampNeg)) v2 = 0 := by
        unfold rf_back at hr
        split at hr
        · exact absurd hr (by decide)
        · next q =>
          have q := Decidable.not_not.mp q
          rw [W.2.2.1.1.1] at q
          split at hr
          · exact absurd hr (by decide)
          · split at hr
            · exact absurd hr (by decide)
            · exact ⟨(inR_nI (by omega)).mp q, hr⟩
      obtain ⟨⟨j, hj, ej⟩, hj0⟩ := he2
      have hn400 : nN s 15 < 400 := by
        have q := (rf_judge_0 hj0).2
        rw [W.2.2.1.1.1] at q
        exact (nI_ltI (b := 400) (by omega) (by omega)).mp q
      subst ej
      rw [nI_clamp (by omega)] at X3
      refine cc_turnBack (by omega) hl b3.1 b3.2.2 W hj hn400 X3 (fun δ9 A9 E9 f9 => ?_)
      exact k1 _ eg δ9 (RB.j A9 ((b3.2.1.c (f9.kp (by decide) (by decide) (by decide))).m (dbk_k.wk (by decide) (by decide) (by decide))) E9) ((kk.tr (f3.kp (by decide) (by decide) (by decide))).tr (f9.kp (by decide) (by decide) (by decide)))
    · rw [if_neg hr] at eg
      exact k0 eg δ3 (b.c (f3.kp (by decide) (by decide) (by decide))) (kk.tr (f3.kp (by decide) (by decide) (by decide)))
theorem cc_redo7 (hd : 11 ≤ d) (h4 : δ0.1 31 4 = nI e) (he : e ≤ 6000) (R : RC e δ0 δ0 (some p)) (H : RB δ0 s) (W : Wf s) (hU : ¬ s.1 48 0 = 0) (hR : ¬ s.1 48 1 = 0) {Q : Int32 → mi_D → Prop}
    (k1 : ∀ s', rdo s f p e 7 = some s' → ∀ δ', RB δ' s' → KR δ0 δ' → Q 1 δ') (k0 : rdo s f p e 7 = none → ∀ δ', RB δ' s → KR δ0 δ' → Q 0 δ') : mi_wI N d 90 0 [.ref 31] [] δ0 Q := by
  have hl : mi_Ls 32 33 34 60 := Or.inl ⟨rfl, rfl, rfl, rfl⟩
  have e0 : rdo s f p e 7 = if p = e then acc0 0 (A_close s) else none := by
    unfold rdo
    rw [if_neg (by decide), if_neg (by decide), if_neg (by decide), if_neg (by decide), if_neg (by decide), if_neg (by decide), if_pos rfl]
  refine q8_redoClose_0 (by omega) (cc_isReadWhole (by omega) h4 he R (bI_br (fun hn => ?_) (fun hy => ?_)))
  · rw [if_neg (fun q => hn (by rw [q]))] at e0
    exact k0 e0 δ0 H Kp.rf
  · rw [if_pos (Option.some.inj hy)] at e0
    have h24 := W.2.1.1.2
    have eg : rdo s f p e 7 = if rf_close s = 0 then some (jot (do_close s) 7 []) else none := by
      rw [e0]
      exact acc_gate hU hR rfn_close (by rw [W.2.1.2.1.1]; exact nI_pos (by have := W.2.1.2.1.2; omega))
    refine cc_rfClose (by omega) hl rfl H.1 H.2.1 H.2.2 W (fun δ3 f3 X3 => ⟨fun hr => ?_, fun hr => ?_⟩)
    · rw [if_pos hr] at eg
      obtain ⟨ho, hc, hn⟩ := rfc_0 W hr
      have b3 : RB δ3 s := H.c (f3.kp (by decide) (by decide) (by decide))
      refine cc_closePeriod (by omega) hl b3.1 b3.2.1 b3.2.2 W ho hc hn (X3 hr) (fun δ9 A9 P9 E9 f9 => ?_)
      exact k1 _ eg δ9 (RB.j A9 P9 E9) ((f3.kp (by decide) (by decide) (by decide)).tr (f9.kp (by decide) (by decide) (by decide)))
    · rw [if_neg hr] at eg
      exact k0 eg δ3 (H.c (f3.kp (by decide) (by decide) (by decide))) (f3.kp (by decide) (by decide) (by decide))
theorem cc_redo8 (hd : 11 ≤ d) (h4 : δ0.1 31 4 = nI e) (he : e ≤ 6000) (R : RC e δ0 δ0 (some p)) (H : RB δ0 s) (W : Wf s) (hU : ¬ s.1 48 0 = 0) (hR : ¬ s.1 48 1 = 0) {Q : Int32 → mi_D → Prop}
    (k1 : ∀ s', rdo s f p e 8 = some s' → ∀ δ', RB δ' s' → KR δ0 δ' → Q 1 δ') (k0 : rdo s f p e 8 = none → ∀ δ', RB δ' s → KR δ0 δ' → Q 0 δ') : mi_wI N d 91 0 [.ref 31] [] δ0 Q := by
  have hl : mi_Ls 32 33 34 60 := Or.inl ⟨rfl, rfl, rfl, rfl⟩
  have e0 : rdo s f p e 8 = if p = e then acc0 0 (A_reopen s) else none := by
    unfold rdo
    rw [if_neg (by decide), if_neg (by decide), if_neg (by decide), if_neg (by decide), if_neg (by decide), if_neg (by decide), if_neg (by decide), if_pos rfl]
  refine q8_redoReopen_0 (by omega) (cc_isReadWhole (by omega) h4 he R (bI_br (fun hn => ?_) (fun hy => ?_)))
  · rw [if_neg (fun q => hn (by rw [q]))] at e0
    exact k0 e0 δ0 H Kp.rf
  · rw [if_pos (Option.some.inj hy)] at e0
    have h24 := W.2.1.1.2
    have eg : rdo s f p e 8 = if rf_reopen s = 0 then some (jot (do_reopen s) 8 []) else none := by
      rw [e0]
      by_cases hr0 : rf_reopen s = 0
      · obtain ⟨hc, _⟩ := rfo_0 W hr0
        refine acc_gate hU hR rfn_reopen ?_
        obtain ⟨m, em⟩ : ∃ m, nN s 12 = m + 1 := ⟨nN s 12 - 1, by omega⟩
        rw [W.2.1.2.1.1, em, nI_pred]
        exact nI_pos (by have := W.2.1.2.1.2; omega)
      · have er : A_reopen s = (rf_reopen s, s) := gate_ref hU hr0
        unfold acc0
        rw [er, if_pos (rfn_reopen hr0), if_neg hr0]
    refine cc_rfReopen (by omega) hl rfl H.1 H.2.1 H.2.2 W (fun δ3 f3 X3 => ⟨fun hr => ?_, fun hr => ?_⟩)
    · rw [if_pos hr] at eg
      obtain ⟨hc, hn⟩ := rfo_0 W hr
      have b3 : RB δ3 s := H.c (f3.kp (by decide) (by decide) (by decide))
      refine cc_reopenPeriod (by omega) hl b3.1 b3.2.1 b3.2.2 W hc hn (X3 hr) (fun δ9 A9 P9 E9 f9 => ?_)
      exact k1 _ eg δ9 (RB.j A9 P9 E9) ((f3.kp (by decide) (by decide) (by decide)).tr (f9.kp (by decide) (by decide) (by decide)))
    · rw [if_neg hr] at eg
      exact k0 eg δ3 (H.c (f3.kp (by decide) (by decide) (by decide))) (f3.kp (by decide) (by decide) (by decide))
end RDO
