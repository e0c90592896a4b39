/-! WELL-FORMED BOOKS STAY SO -/
def by256 (b : Int32) : Prop := ∃ j, j < 256 ∧ b = nI j
theorem by_nI {n : Nat} (h : n < 256) : by256 (nI n) := ⟨n, h, rfl⟩
theorem u7_nI (u : UInt64) : (u &&& 127).toInt64.toInt32 = nI (u.toNat % 128) := by
  apply Int32.toBitVec_inj.mp
  apply BitVec.eq_of_toNat_eq
  rw [u_toNat32]
  have h : (nI (u.toNat % 128)).toBitVec.toNat = u.toNat % 128 := pk_tn (by omega)
  rw [h]
theorem encU_by (k : Nat) (u : UInt64) : ∀ b, b ∈ encU k u → by256 b := by
  induction k generalizing u with
  | zero => intro b hb; exact absurd hb List.not_mem_nil
  | succ k ih =>
    intro b hb
    unfold encU at hb
    split at hb
    · next hz =>
      rw [List.mem_singleton] at hb
      rw [hb, ← u_small hz, u7_nI]
      exact by_nI (by omega)
    · rcases List.mem_cons.mp hb with e | e
      · rw [e, ← add_or, u7_nI, show (128 : Int32) = nI 128 from rfl, nI_add]
        exact by_nI (by omega)
      · exact ih _ b e
theorem enc_by (v : Int64) : ∀ b, b ∈ enc v → by256 b := encU_by 10 _
theorem encI_by (v : Int32) : ∀ b, b ∈ encI v → by256 b := enc_by _
theorem chk_ok (c b : Int32) : ∃ m, m < 65536 ∧ chk c b = nI m := by
  unfold chk
  exact pk_andE _ 16 (by decide)
theorem chkL_ok (c : Int32) (h : ∃ m, m < 65536 ∧ c = nI m) (l : List Int32) : ∃ m, m < 65536 ∧ chkL c l = nI m := by
  induction l generalizing c with
  | nil => exact h
  | cons b l ih => exact ih (chk c b) (chk_ok c b)
theorem recd_by {what : Int32} {B : List Int32} (hw : by256 what) (hB : ∀ b, b ∈ B → by256 b) (hl : B.length ≤ 255) : ∀ b, b ∈ recd what B → by256 b := by
  obtain ⟨m, hm, em⟩ := chkL_ok 65535 ⟨65535, by omega, rfl⟩ (nI B.length :: what :: B)
  intro b hb
  unfold recd at hb
  rw [em] at hb
  rcases List.mem_cons.mp hb with e | hb
  · rw [e]; exact by_nI (by omega)
  · rcases List.mem_cons.mp hb with e | hb
    · rw [e]; exact hw
    · rcases List.mem_append.mp hb with hb | hb
      · exact hB b hb
      · have e8 : nI m >>> (8 &&& 31) = nI (m / 2 ^ 8) := pk_shrN (by omega) _ 8 (by decide)
        have e255 : nI m &&& 255 = nI (m % 2 ^ 8) := pk_andN (by omega) 8 (by decide)
        rw [e8, e255] at hb
        rcases List.mem_cons.mp hb with e | hb
        · rw [e]; exact by_nI (by omega)
        · rw [List.mem_singleton.mp hb]; exact by_nI (by omega)
theorem wfj_jot {s : mi_D} {what : Int32} {B : List Int32} (W : WfJ s) (hr : room s B) (hw : by256 what) (hB : ∀ b, b ∈ B → by256 b) (hl : B.length ≤ 255) : WfJ (jot s what B) := by
  unfold jot
  by_cases h : s.1 48 1 = 0
  · rw [if_pos h]
    have hr : nN s 30 + B.length + 4 ≤ 6000 := hr.resolve_left (fun q => q h)
    have e30 : nN (mi_setI (rowA (mi_setI s 48 32 (s.1 48 32 + 1)) 70 (wrN (s.2.1 70) (nN s 30) (B.length + 4) (fun i => (recd what B).getD i 0))) 48 30 (nI (nN s 30 + (B.length + 4)))) 30 = nN s 30 + (B.length + 4) := nN_nI (by rw [pI_f, if_pos ⟨rfl, rfl⟩]) (by omega)
    have e31 : nN (mi_setI (rowA (mi_setI s 48 32 (s.1 48 32 + 1)) 70 (wrN (s.2.1 70) (nN s 30) (B.length + 4) (fun i => (recd what B).getD i 0))) 48 30 (nI (nN s 30 + (B.length + 4)))) 31 = nN s 31 := rfl
    have h31 := W.2.1
    have hle := W.2.2.1
    refine ⟨⟨by rw [e30, pI_f, if_pos ⟨rfl, rfl⟩], by rw [e30]; omega⟩, ⟨h31.1, h31.2⟩, by rw [e30, e31]; omega, fun i => ?_⟩
    rw [pI_a, rA_a, if_pos rfl]
    unfold wrN
    split
    · next hi =>
      have hlt : i - nN s 30 < (recd what B).length := by rw [recd_len]; omega
      show by256 ((recd what B).getD (i - nN s 30) 0)
      rw [List.getD_eq_getElem?_getD, List.getElem?_eq_getElem hlt]
      exact recd_by hw hB hl _ (List.getElem_mem hlt)
    · exact W.2.2.2 i
  · rw [if_neg h]
    exact W.m (Kp.setI (by decide))
theorem wf_jot {s s' : mi_D} {what : Int32} {B : List Int32} (A : WfA s') (P : WfP s') (E : WfE s') (D : WfD s') (J : WfJ s) (S : WfS s') (k : Kp [(48,1),(48,30),(48,31),(48,32)] [70] [] s s') (hr : room s B) (hw : by256 what) (hB : ∀ b, b ∈ B → by256 b) (hl : B.length ≤ 255) : Wf (jot s' what B) :=
  ⟨A.m (jot_k.wk (by decide) (by decide) (by decide)), P.m (jot_k.wk (by decide) (by decide) (by decide)), E.m (jot_k.wk (by decide) (by decide) (by decide)), D.m (jot_k.wk (by decide) (by decide) (by decide)), wfj_jot (J.m (k.wk (by decide) (by decide) (by decide))) (room_m (k.wk (by decide) (by decide) (by decide)) hr) hw hB hl, S.m (jot_k.wk (by decide) (by decide) (by decide))⟩
/-- what a gate leaves -/
theorem wf_gate {s s' : mi_D} {rf what ans : Int32} {B : List Int32} (W : Wf s) (h : rf = 0 → room s B → Wf (jot s' what B)) : Wf (gate s rf what ans B s').2 := by
  unfold gate
  split
  · exact W
  · split
    · exact W
    · next h2 =>
      split
      · next h3 => exact h (Decidable.not_not.mp h2) h3
      · exact W
theorem app_by {A B : List Int32} (hA : ∀ b, b ∈ A → by256 b) (hB : ∀ b, b ∈ B → by256 b) : ∀ b, b ∈ A ++ B → by256 b := fun b hb => (List.mem_append.mp hb).elim (hA b) (hB b)
section WFX
variable {s : mi_D}
theorem rf_account_0 {c k p : Int32} (h : rf_account s c k p = 0) : (¬ p = -1 → isAc s p) ∧ (¬ c < 1 ∧ ¬ 9999 < c ∧ ¬ k < 0 ∧ k < 5) ∧ (¬ p = -1 → mi_at s 52 p = 1 ∧ mi_at s 50 p = k ∧ mi_at s 53 p < 5) ∧ (∀ j, j < nN s 2 → ¬ s.2.1 49 j = c) ∧ s.1 48 2 < 60 := by
  unfold rf_account at h
  split at h
  · exact absurd h (by decide)
  · next h1 =>
    split at h
    · exact absurd h (by decide)
    · next h2 =>
      split at h
      · exact absurd h (by decide)
      · next h3 =>
        split at h
        · exact absurd h (by decide)
        · next h4 =>
          split at h
          · next h5 => exact ⟨fun q => Decidable.not_not.mp (fun z => h1 ⟨q, z⟩), ⟨fun q => h2 (Or.inl q), fun q => h2 (Or.inr (Or.inl q)), fun q => h2 (Or.inr (Or.inr (Or.inl q))), Decidable.not_not.mp (fun q => h2 (Or.inr (Or.inr (Or.inr q))))⟩, fun q => Decidable.not_not.mp (fun z => h3 ⟨q, z⟩), fun j hj q => h4 ⟨j, hj, q⟩, h5⟩
          · exact absurd h (by decide)
theorem wf_account (W : Wf s) {c k p g : Int32} : Wf (A_account s c k p g).2 := by
  refine wf_gate W (fun hr hm => ?_)
  obtain ⟨r1, r2, r3, r4, r5⟩ := rf_account_0 hr
  have h60 := W.1.1.2
  have e2 : s.1 48 2 = nI (nN s 2) := W.1.1.1
  rw [e2] at r5
  have n60 : nN s 2 < 60 := (nI_ltI (b := 60) (by omega) (by omega)).mp r5
  obtain ⟨n, en⟩ : ∃ n, nN s 2 = n := ⟨_, rfl⟩
  have hN : nN (do_account s c k p g) 2 = n + 1 := nN_nI (by unfold do_account; simp only [pI_f, pI_a, pI_l, pA_f, pA_a, pA_l, pL_f, pL_a, pL_l, rA_f, rA_a, rA_l, rL_f, rL_a, rL_l, reduceIte, Nat.reduceEqDiff, and_self, and_true, true_and, and_false, false_and]; rw [e2, nI_1, en]) (by omega)
  have ks : Kp [(48,0),(48,1),(48,10),(48,11),(48,12),(48,15),(48,24),(48,30),(48,31),(48,32),(48,36)] [56,57,58,59,60,61,62,63,64,66,70,72] [65,67] s (do_account s c k p g) := by
    unfold do_account
    exact (((((((Kp.setA (by decide)).tr (Kp.setA (by decide))).tr (Kp.setA (by decide))).tr (Kp.setA (by decide))).tr (Kp.setA (by decide))).tr (Kp.setA (by decide))).tr (Kp.setL (by decide))).tr (Kp.setI (by decide))
  have r49 : (do_account s c k p g).2.1 49 = up1 (s.2.1 49) n c := by unfold do_account; simp only [pI_f, pI_a, pI_l, pA_f, pA_a, pA_l, pL_f, pL_a, pL_l, rA_f, rA_a, rA_l, rL_f, rL_a, rL_l, reduceIte, Nat.reduceEqDiff, and_self, and_true, true_and, and_false, false_and]; rw [en]
  have r50 : (do_account s c k p g).2.1 50 = up1 (s.2.1 50) n k := by unfold do_account; simp only [pI_f, pI_a, pI_l, pA_f, pA_a, pA_l, pL_f, pL_a, pL_l, rA_f, rA_a, rA_l, rL_f, rL_a, rL_l, reduceIte, Nat.reduceEqDiff, and_self, and_true, true_and, and_false, false_and]; rw [en]
  have r51 : (do_account s c k p g).2.1 51 = up1 (s.2.1 51) n p := by unfold do_account; simp only [pI_f, pI_a, pI_l, pA_f, pA_a, pA_l, pL_f, pL_a, pL_l, rA_f, rA_a, rA_l, rL_f, rL_a, rL_l, reduceIte, Nat.reduceEqDiff, and_self, and_true, true_and, and_false, false_and]; rw [en]
  have r52 : (do_account s c k p g).2.1 52 = up1 (s.2.1 52) n (bI (¬ g = 0)) := by unfold do_account; simp only [pI_f, pI_a, pI_l, pA_f, pA_a, pA_l, pL_f, pL_a, pL_l, rA_f, rA_a, rA_l, rL_f, rL_a, rL_l, reduceIte, Nat.reduceEqDiff, and_self, and_true, true_and, and_false, false_and]; rw [en]
  have r53 : (do_account s c k p g).2.1 53 = up1 (s.2.1 53) n (if p = -1 then 0 else mi_at s 53 p + 1) := by unfold do_account; simp only [pI_f, pI_a, pI_l, pA_f, pA_a, pA_l, pL_f, pL_a, pL_l, rA_f, rA_a, rA_l, rL_f, rL_a, rL_l, reduceIte, Nat.reduceEqDiff, and_self, and_true, true_and, and_false, false_and]; rw [en]
  have r54 : (do_account s c k p g).2.1 54 = up1 (s.2.1 54) n 0 := by unfold do_account; simp only [pI_f, pI_a, pI_l, pA_f, pA_a, pA_l, pL_f, pL_a, pL_l, rA_f, rA_a, rA_l, rL_f, rL_a, rL_l, reduceIte, Nat.reduceEqDiff, and_self, and_true, true_and, and_false, false_and]; rw [en]
  have f2 : (do_account s c k p g).1 48 2 = nI (n + 1) := by unfold do_account; simp only [pI_f, pI_a, pI_l, pA_f, pA_a, pA_l, pL_f, pL_a, pL_l, rA_f, rA_a, rA_l, rL_f, rL_a, rL_l, reduceIte, Nat.reduceEqDiff, and_self, and_true, true_and, and_false, false_and]; rw [e2, nI_1, en]
  rw [en] at r4 n60
  refine wf_jot ⟨⟨by rw [hN, f2], by rw [hN]; omega⟩, fun a ha => ?_, fun a b ha hb h => ?_, fun a ha => ?_⟩ ?_ ?_ ?_ W.2.2.2.2.1 (W.2.2.2.2.2.m (ks.wk (by decide) (by decide) (by decide))) (ks.wk (by decide) (by decide) (by decide)) hm ⟨1, by omega, rfl⟩ (app_by (app_by (app_by (encI_by c) (encI_by k)) (encI_by p)) (encI_by _)) ?_
  · rw [hN] at ha
    rw [r49, r50, r52, r54]
    by_cases q : a = n
    · subst q
      rw [up1_s, up1_s, up1_s, up1_s]
      exact ⟨⟨r2.1, r2.2.1⟩, ⟨r2.2.2.1, r2.2.2.2⟩, bI_01, Or.inl rfl⟩
    · rw [up1_n _ _ q, up1_n _ _ q, up1_n _ _ q, up1_n _ _ q]
      exact W.1.2.1 a (by omega)
  · rw [hN] at ha hb
    rw [r49] at h
    by_cases q : a = n
    · subst q
      by_cases q2 : b = a
      · exact q2.symm
      · rw [up1_s, up1_n _ _ q2] at h
        exact absurd h.symm (r4 b (by omega))
    · by_cases q2 : b = n
      · subst q2
        rw [up1_n _ _ q, up1_s] at h
        exact absurd h (r4 a (by omega))
      · rw [up1_n _ _ q, up1_n _ _ q2] at h
        exact W.1.2.2.1 a b (by omega) (by omega) h
  · rw [hN] at ha
    rw [r50, r51, r52, r53]
    by_cases q : a = n
    · subst q
      rw [up1_s, up1_s]
      by_cases hp : p = -1
      · exact Or.inl ⟨hp, if_pos hp⟩
      · obtain ⟨j, hj, ej, _, _, hat⟩ := at_ac W.1 (r1 hp)
        obtain ⟨g1, g2, g3⟩ := r3 hp
        rw [hat] at g1 g2 g3
        obtain ⟨dd, hdd, edd⟩ := dep5 W.1 hj
        rw [edd] at g3
        have hd5 : dd < 5 := (nI_ltI (b := 5) (by omega) (by omega)).mp g3
        refine Or.inr ⟨j, dd, by omega, ej, ?_, ?_, hd5, ?_, ?_⟩
        · rw [up1_n _ _ (by omega)]; exact g1
        · rw [up1_n _ _ (by omega), up1_s]; exact g2
        · rw [up1_n _ _ (by omega)]; exact edd
        · rw [if_neg hp, hat, edd, nI_1]
    · rw [up1_n _ _ q, up1_n _ _ q, up1_n _ _ q]
      rcases W.1.2.2.2 a (by omega) with z | ⟨b, dd, hb, z1, z2, z3, z4, z5, z6⟩
      · exact Or.inl z
      · refine Or.inr ⟨b, dd, hb, z1, ?_, ?_, z4, ?_, z6⟩
        · rw [up1_n _ _ (by omega)]; exact z2
        · rw [up1_n _ _ (by omega)]; exact z3
        · rw [up1_n _ _ (by omega)]; exact z5
  · obtain ⟨p1, p2, p3, p4, p5, p6⟩ := W.2.1
    unfold WfP wfn fromN nN at *
    rw [ks.1 (48, 11) (by decide), ks.1 (48, 12) (by decide), ks.1 (48, 10) (by decide), ks.1 (48, 15) (by decide), ks.2.1 56 (by decide), ks.2.1 57 (by decide), ks.2.1 58 (by decide), ks.2.1 59 (by decide), ks.2.1 61 (by decide), r50]
    refine ⟨p1, p2, p3, p4, p5, ?_⟩
    rcases p6 with z | ⟨a, ha, z1, z2⟩
    · exact Or.inl z
    · refine Or.inr ⟨a, ?_, z1, ?_⟩
      · have := hN
        omega
      · rw [up1_n _ _ (by omega)]; exact z2
  · obtain ⟨p1, p2, p3, p4, p5⟩ := W.2.2.1
    unfold WfE wfn fromN nN at *
    rw [ks.1 (48, 15) (by decide), ks.2.1 61 (by decide), ks.2.1 64 (by decide)]
    refine ⟨p1, p2, p3, p4, fun i hi => ?_⟩
    obtain ⟨a, ha, ea⟩ := p5 i hi
    exact ⟨a, by have := hN; omega, ea⟩
  · obtain ⟨p1, p2⟩ := W.2.2.2.1
    unfold WfD wfn nN at *
    rw [ks.1 (48, 24) (by decide), ks.2.1 66 (by decide)]
    refine ⟨p1, fun i hi => ?_⟩
    obtain ⟨a, ha, ea⟩ := p2 i hi
    exact ⟨a, by have := hN; omega, ea⟩
  · have l1 := encI_len c
    have l2 := encI_len k
    have l3 := encI_len p
    have l4 := encI_len (bI (¬ g = 0))
    rw [List.length_append, List.length_append, List.length_append]
    show _ + (encI (bI (¬ g = 0))).length ≤ 255
    omega
theorem wf_shut (W : Wf s) {a on : Int32} : Wf (A_shut s a on).2 := by
  refine wf_gate W (fun hr hm => ?_)
  have ks : Kp pmF [49,50,51,52,53,56,57,58,59,60,61,62,63,64,66,70,72] pmL s (do_shut s a on) := Kp.setA (by decide)
  have r54 : (do_shut s a on).2.1 54 = up1 (s.2.1 54) a.toNatClampNeg (bI (¬ on = 0)) := by unfold do_shut; rw [pA_a, if_pos rfl]
  refine wf_jot ?_ (W.2.1.m (ks.wk (by decide) (by decide) (by decide))) (W.2.2.1.m (ks.wk (by decide) (by decide) (by decide))) (W.2.2.2.1.m (ks.wk (by decide) (by decide) (by decide))) W.2.2.2.2.1 (W.2.2.2.2.2.m (ks.wk (by decide) (by decide) (by decide))) (ks.wk (by decide) (by decide) (by decide)) hm ⟨2, by omega, rfl⟩ (app_by (encI_by a) (encI_by _)) ?_
  · obtain ⟨p1, p2, p3, p4⟩ := W.1
    unfold WfA wfn nN at *
    rw [ks.1 (48, 2) (by decide), ks.2.1 49 (by decide), ks.2.1 50 (by decide), ks.2.1 51 (by decide), ks.2.1 52 (by decide), ks.2.1 53 (by decide), r54]
    refine ⟨p1, fun b hb => ?_, p3, p4⟩
    obtain ⟨x1, x2, x3, x4⟩ := p2 b hb
    refine ⟨x1, x2, x3, ?_⟩
    by_cases q : b = a.toNatClampNeg
    · subst q; rw [up1_s]; exact bI_01
    · rw [up1_n _ _ q]; exact x4
  · have l1 := encI_len a
    have l2 := encI_len (bI (¬ on = 0))
    rw [List.length_append]
    show _ + (encI (bI (¬ on = 0))).length ≤ 255
    omega
theorem wf_period (W : Wf s) {a : Int32} : Wf (A_period s a).2 := by
  refine wf_gate W (fun hr hm => ?_)
  have h24 := W.2.1.1.2
  have e11 : s.1 48 11 = nI (nN s 11) := W.2.1.1.1
  have hr' : (¬ a < fday s (s.1 48 11) ∧ ¬ 9999 < a) ∧ s.1 48 11 < 24 := by
    unfold rf_period at hr
    split at hr
    · exact absurd hr (by decide)
    · next h1 =>
      split at hr
      · next h2 => exact ⟨⟨fun q => h1 (Or.inl q), fun q => h1 (Or.inr q)⟩, h2⟩
      · exact absurd hr (by decide)
  obtain ⟨⟨a1, a2⟩, a3⟩ := hr'
  rw [e11] at a1 a3
  have n24 : nN s 11 < 24 := (nI_ltI (b := 24) (by omega) (by omega)).mp a3
  obtain ⟨n, en⟩ : ∃ n, nN s 11 = n := ⟨_, rfl⟩
  have ks : Kp [(48,0),(48,1),(48,2),(48,10),(48,12),(48,15),(48,24),(48,30),(48,31),(48,32),(48,36)] [49,50,51,52,53,54,58,59,60,61,62,63,64,66,70,72] pmL s (do_period s a) := ((Kp.setA (by decide)).tr (Kp.setA (by decide))).tr (Kp.setI (by decide))
  have r56 : (do_period s a).2.1 56 = up1 (s.2.1 56) n a := by unfold do_period; simp only [pI_f, pI_a, pI_l, pA_f, pA_a, pA_l, pL_f, pL_a, pL_l, rA_f, rA_a, rA_l, rL_f, rL_a, rL_l, reduceIte, Nat.reduceEqDiff, and_self, and_true, true_and, and_false, false_and]; rw [en]
  have r57 : (do_period s a).2.1 57 = up1 (s.2.1 57) n (-1) := by unfold do_period; simp only [pI_f, pI_a, pI_l, pA_f, pA_a, pA_l, pL_f, pL_a, pL_l, rA_f, rA_a, rA_l, rL_f, rL_a, rL_l, reduceIte, Nat.reduceEqDiff, and_self, and_true, true_and, and_false, false_and]; rw [en]
  have f11 : (do_period s a).1 48 11 = nI (n + 1) := by unfold do_period; simp only [pI_f, pI_a, pI_l, pA_f, pA_a, pA_l, pL_f, pL_a, pL_l, rA_f, rA_a, rA_l, rL_f, rL_a, rL_l, reduceIte, Nat.reduceEqDiff, and_self, and_true, true_and, and_false, false_and]; rw [e11, nI_1, en]
  have hN : nN (do_period s a) 11 = n + 1 := nN_nI f11 (by omega)
  have ha : ∃ dd, dd ≤ 9999 ∧ a = nI dd ∧ ∀ q, q < n → s.2.1 56 q < a := by
    have hd : ∀ q, q < nN s 11 → ∃ dd, dd ≤ 9999 ∧ s.2.1 56 q = nI dd ∧ (∀ r, r < q → s.2.1 56 r < s.2.1 56 q) := W.2.1.2.2.2.1
    rw [en] at hd a1
    rcases Nat.eq_zero_or_pos n with z | z
    · subst z
      have ef : fday s (nI 0) = 0 := if_pos nI_0
      rw [ef] at a1
      obtain ⟨dd, hdd, ed⟩ := nI_of a1
      refine ⟨dd, ?_, ed, fun q hq => absurd hq (Nat.not_lt_zero q)⟩
      rcases Nat.lt_or_ge 9999 dd with y | y
      · exact absurd (by rw [ed]; exact nI_lt (a := 9999) y hdd) a2
      · exact y
    · obtain ⟨m, rfl⟩ : ∃ m, n = m + 1 := ⟨n - 1, by omega⟩
      obtain ⟨dm, hdm, edm, hmono⟩ := hd m (by omega)
      have ef : fday s (nI (m + 1)) = nI (dm + 1) := by
        unfold fday
        rw [if_neg (fun q => by have := (nI_eq (a := m + 1) (b := 0) (by omega) (by omega)).mp (q.trans nI_0.symm); omega), nI_pred, mi_at_nI _ _ (by omega), edm, nI_1]
      rw [ef] at a1
      have h0 : ¬ a < 0 := fun q => a1 (by
        have e1 : (nI (dm + 1)).toInt = dm + 1 := by rw [nI_toInt (by omega)]; omega
        have e0 : (0 : Int32).toInt = 0 := by decide
        rw [Int32.lt_iff_toInt_lt] at *
        omega)
      obtain ⟨dd, hdd, ed⟩ := nI_of h0
      have h9 : dd ≤ 9999 := by
        rcases Nat.lt_or_ge 9999 dd with y | y
        · exact absurd (by rw [ed]; exact nI_lt (a := 9999) y hdd) a2
        · exact y
      rw [ed] at a1
      have hlt : dm < dd := by
        rcases Nat.lt_or_ge dd (dm + 1) with y | y
        · exact absurd (nI_lt y (by omega)) a1
        · omega
      have hm1 : s.2.1 56 m < a := by rw [edm, ed]; exact nI_lt hlt hdd
      refine ⟨dd, h9, ed, fun q hq => ?_⟩
      rcases Nat.lt_or_eq_of_le (Nat.lt_succ_iff.mp hq) with y | y
      · have := hmono q y
        rw [Int32.lt_iff_toInt_lt] at *
        omega
      · subst y; exact hm1
  refine wf_jot (W.1.m (ks.wk (by decide) (by decide) (by decide))) ?_ (W.2.2.1.m (ks.wk (by decide) (by decide) (by decide))) (W.2.2.2.1.m (ks.wk (by decide) (by decide) (by decide))) W.2.2.2.2.1 (W.2.2.2.2.2.m (ks.wk (by decide) (by decide) (by decide))) (ks.wk (by decide) (by decide) (by decide)) hm ⟨3, by omega, rfl⟩ (encI_by a) (by have := encI_len a; omega)
  obtain ⟨p1, p2, p3, p4, p5, p6⟩ := W.2.1
  refine ⟨⟨by rw [hN, f11], by rw [hN]; omega⟩, ?_, ?_, ?_, ?_, ?_⟩
  · unfold wfn nN at *
    rw [ks.1 (48, 12) (by decide)]
    exact p2
  · rw [hN]
    show ((do_period s a).1 48 12).toNatClampNeg ≤ n + 1
    rw [ks.1 (48, 12) (by decide)]
    show nN s 12 ≤ n + 1
    omega
  · rw [hN, r56]
    intro q hq
    by_cases y : q = n
    · subst y
      obtain ⟨dd, h1, h2, h3⟩ := ha
      refine ⟨dd, h1, by rw [up1_s]; exact h2, fun r hr2 => ?_⟩
      rw [up1_s, up1_n _ _ (by omega)]
      exact h3 r hr2
    · obtain ⟨dd, h1, h2, h3⟩ := p4 q (by omega)
      refine ⟨dd, h1, by rw [up1_n _ _ y]; exact h2, fun r hr2 => ?_⟩
      rw [up1_n _ _ y, up1_n _ _ (by omega)]
      exact h3 r hr2
  · rw [hN, r56, r57]
    intro q hq
    by_cases y : q = n
    · subst y
      rw [up1_s]
      exact Or.inl rfl
    · rw [up1_n _ _ y, up1_n _ _ y]
      have p5q := p5 q (by omega)
      unfold fromN nN at *
      rw [ks.1 (48, 12) (by decide), ks.1 (48, 15) (by decide), ks.2.1 58 (by decide), ks.2.1 59 (by decide), ks.2.1 61 (by decide)]
      exact p5q
  · unfold nN at *
    rw [ks.1 (48, 10) (by decide), ks.1 (48, 2) (by decide), ks.2.1 50 (by decide)]
    exact p6
theorem wf_owner (W : Wf s) {a : Int32} : Wf (A_owner s a).2 := by
  refine wf_gate W (fun hr hm => ?_)
  have hr' : isAc s a ∧ mi_at s 50 a = 2 := by
    unfold rf_owner at hr
    split at hr
    · exact absurd hr (by decide)
    · next h1 =>
      split at hr
      · next h2 => exact ⟨Decidable.not_not.mp h1, h2.2⟩
      · exact absurd hr (by decide)
  obtain ⟨j, hj, ej, _, _, hat⟩ := at_ac W.1 hr'.1
  have ks : Kp [(48,0),(48,1),(48,2),(48,11),(48,12),(48,15),(48,24),(48,30),(48,31),(48,32),(48,36)] pmA pmL s (mi_setI s 48 10 a) := Kp.setI (by decide)
  refine wf_jot (W.1.m (ks.wk (by decide) (by decide) (by decide))) ?_ (W.2.2.1.m (ks.wk (by decide) (by decide) (by decide))) (W.2.2.2.1.m (ks.wk (by decide) (by decide) (by decide))) W.2.2.2.2.1 (W.2.2.2.2.2.m (ks.wk (by decide) (by decide) (by decide))) (ks.wk (by decide) (by decide) (by decide)) hm ⟨4, by omega, rfl⟩ (encI_by a) (by have := encI_len a; omega)
  obtain ⟨p1, p2, p3, p4, p5, p6⟩ := W.2.1
  refine ⟨p1, p2, p3, p4, p5, Or.inr ⟨j, hj, ej, ?_⟩⟩
  have := hr'.2
  rw [hat] at this
  exact this
theorem wf_line (W : Wf s) {a : Int32} {v : Int64} : Wf (A_line s a v).2 := by
  unfold A_line
  split
  · exact W
  · split
    · exact W
    · next h1 =>
      split
      · exact W
      · next h2 =>
        have h8 := W.2.2.2.1.1.2
        have e24 : s.1 48 24 = nI (nN s 24) := W.2.2.2.1.1.1
        have h2 := Decidable.not_not.mp h2
        rw [e24] at h2
        have n8 : nN s 24 < 8 := (nI_ltI (b := 8) (by omega) (by omega)).mp h2
        have hac : isAc s a := by
          have h1 := Decidable.not_not.mp h1
          unfold rf_line at h1
          split at h1
          · exact absurd h1 (by decide)
          · next q => exact Decidable.not_not.mp q
        obtain ⟨j, hj, ej, _, _, _⟩ := at_ac W.1 hac
        obtain ⟨n, en⟩ : ∃ n, nN s 24 = n := ⟨_, rfl⟩
        have ks : Kp [(48,0),(48,1),(48,2),(48,10),(48,11),(48,12),(48,15),(48,30),(48,31),(48,32),(48,36)] [49,50,51,52,53,54,56,57,58,59,60,61,62,63,64,70,72] [55,65] s (mi_setI (mi_setL (mi_setA s 66 (nN s 24) a) 67 (nN s 24) v) 48 24 (s.1 48 24 + 1)) := ((Kp.setA (by decide)).tr (Kp.setL (by decide))).tr (Kp.setI (by decide))
        refine ⟨W.1.m (ks.wk (by decide) (by decide) (by decide)), W.2.1.m (ks.wk (by decide) (by decide) (by decide)), W.2.2.1.m (ks.wk (by decide) (by decide) (by decide)), ?_, W.2.2.2.2.1.m (ks.wk (by decide) (by decide) (by decide)), W.2.2.2.2.2.m (ks.wk (by decide) (by decide) (by decide))⟩
        have hN : nN (mi_setI (mi_setL (mi_setA s 66 (nN s 24) a) 67 (nN s 24) v) 48 24 (s.1 48 24 + 1)) 24 = n + 1 := nN_nI (by simp only [pI_f, pI_a, pI_l, pA_f, pA_a, pA_l, pL_f, pL_a, pL_l, rA_f, rA_a, rA_l, rL_f, rL_a, rL_l, reduceIte, Nat.reduceEqDiff, and_self, and_true, true_and, and_false, false_and]; rw [e24, nI_1, en]) (by omega)
        refine ⟨⟨by rw [hN]; simp only [pI_f, pI_a, pI_l, pA_f, pA_a, pA_l, pL_f, pL_a, pL_l, rA_f, rA_a, rA_l, rL_f, rL_a, rL_l, reduceIte, Nat.reduceEqDiff, and_self, and_true, true_and, and_false, false_and]; rw [e24, nI_1, en], by rw [hN]; omega⟩, fun i hi => ?_⟩
        rw [hN] at hi
        simp only [pI_f, pI_a, pI_l, pA_f, pA_a, pA_l, pL_f, pL_a, pL_l, rA_f, rA_a, rA_l, rL_f, rL_a, rL_l, reduceIte, Nat.reduceEqDiff, and_self, and_true, true_and, and_false, false_and]
        show ∃ b, b < nN s 2 ∧ up1 (s.2.1 66) (nN s 24) a i = nI b
        rw [en]
        by_cases q : i = n
        · subst q; exact ⟨j, hj, by rw [up1_s]; exact ej⟩
        · rw [up1_n _ _ q]; exact W.2.2.2.1.2 i (by omega)
theorem wf_24 (W : Wf s) : Wf (mi_setI s 48 24 0) := by
  have ks : Kp [(48,0),(48,1),(48,2),(48,10),(48,11),(48,12),(48,15),(48,30),(48,31),(48,32),(48,36)] pmA pmL s (mi_setI s 48 24 0) := Kp.setI (by decide)
  refine ⟨W.1.m (ks.wk (by decide) (by decide) (by decide)), W.2.1.m (ks.wk (by decide) (by decide) (by decide)), W.2.2.1.m (ks.wk (by decide) (by decide) (by decide)), ?_, W.2.2.2.2.1.m (ks.wk (by decide) (by decide) (by decide)), W.2.2.2.2.2.m (ks.wk (by decide) (by decide) (by decide))⟩
  have hN : nN (mi_setI s 48 24 0) 24 = 0 := rfl
  exact ⟨⟨by rw [hN]; exact nI_0.symm, by rw [hN]; omega⟩, fun i hi => absurd (hN ▸ hi) (Nat.not_lt_zero i)⟩
theorem wf_drop (W : Wf s) : Wf (A_drop s).2 := by
  unfold A_drop
  split
  · exact W
  · exact wf_24 W
theorem wf_undraft {x : Int32 × mi_D} (W : Wf x.2) : Wf (undraft x).2 := by
  unfold undraft
  split
  · exact W
  · exact wf_24 W
/-- an entry written down -/
theorem wfe_enter (W : Wf s) {l : Ln} {dy t so sr : Int32} (hn : nN s 15 < 400) (hb : l.1 ≤ 60) (hA : LnA (nN s 2) l) : WfE (do_enter s l dy t so sr) := by
  have WE := W.2.2.1
  have hN := den_n (l := l) (dy := dy) (t := t) (so := so) (sr := sr) WE hn
  have hF1 := den_from1 (l := l) (dy := dy) (t := t) (so := so) (sr := sr) WE hn hb
  have hF : ∀ e, e ≤ nN s 15 → fromN (do_enter s l dy t so sr) e = fromN s e := fun e he => den_from e he
  have hf := fromN_le WE _ (Nat.le_refl (nN s 15))
  have f15 : (do_enter s l dy t so sr).1 48 15 = nI (nN s 15 + 1) := by
    unfold do_enter
    simp only [pI_f, pI_a, pI_l, pA_f, pA_a, pA_l, pL_f, pL_a, pL_l, rA_f, rA_a, rA_l, rL_f, rL_a, rL_l, reduceIte, Nat.reduceEqDiff, and_self, and_true, true_and, and_false, false_and]
    rw [WE.1.1, nI_1]
  have r61 : (do_enter s l dy t so sr).2.1 61 = up1 (s.2.1 61) (nN s 15 + 1) (nI (fromN s (nN s 15) + l.1)) := by
    unfold do_enter
    simp only [pI_f, pI_a, pI_l, pA_f, pA_a, pA_l, pL_f, pL_a, pL_l, rA_f, rA_a, rA_l, rL_f, rL_a, rL_l, reduceIte, Nat.reduceEqDiff, and_self, and_true, true_and, and_false, false_and]
  have n2 : nN (do_enter s l dy t so sr) 2 = nN s 2 := by
    unfold nN
    rw [den_k.1 (48, 2) (by decide)]
  refine ⟨⟨by rw [hN, f15], by rw [hN]; omega⟩, ?_, fun e he => ?_, fun e he => ?_, fun i hi => ?_⟩
  · rw [r61, up1_n _ _ (by omega)]
    exact WE.2.1
  · rw [hN] at he
    rcases Nat.lt_or_eq_of_le he with q | q
    · rw [hF e (by omega), r61, up1_n _ _ (by omega)]
      exact WE.2.2.1 e (by omega)
    · subst q
      rw [hF1, r61, up1_s]
  · rw [hN] at he
    rcases Nat.lt_or_eq_of_le (Nat.lt_succ_iff.mp he) with q | q
    · rw [hF e (by omega), hF (e + 1) (by omega)]
      exact WE.2.2.2.1 e q
    · subst q
      rw [hF1, hF _ (Nat.le_refl _)]
      omega
  · rw [hN, hF1] at hi
    rw [n2, den_64]
    unfold wrN
    split
    · next h => exact hA (i - fromN s (nN s 15)) (by omega)
    · exact WE.2.2.2.2 i (by omega)
theorem wfp_enter (W : Wf s) {l : Ln} {dy t so sr : Int32} (hn : nN s 15 < 400) (hb : l.1 ≤ 60) : WfP (do_enter s l dy t so sr) := by
  have WE := W.2.2.1
  have hN := den_n (l := l) (dy := dy) (t := t) (so := so) (sr := sr) WE hn
  have hF : ∀ e, e ≤ nN s 15 → fromN (do_enter s l dy t so sr) e = fromN s e := fun e he => den_from e he
  have r58 : (do_enter s l dy t so sr).2.1 58 = up1 (s.2.1 58) (nN s 15) dy := by unfold do_enter; simp only [pI_f, pI_a, pI_l, pA_f, pA_a, pA_l, pL_f, pL_a, pL_l, rA_f, rA_a, rA_l, rL_f, rL_a, rL_l, reduceIte, Nat.reduceEqDiff, and_self, and_true, true_and, and_false, false_and]
  have r59 : (do_enter s l dy t so sr).2.1 59 = up1 (s.2.1 59) (nN s 15) t := by unfold do_enter; simp only [pI_f, pI_a, pI_l, pA_f, pA_a, pA_l, pL_f, pL_a, pL_l, rA_f, rA_a, rA_l, rL_f, rL_a, rL_l, reduceIte, Nat.reduceEqDiff, and_self, and_true, true_and, and_false, false_and]
  have k := @den_k s l dy t so sr
  obtain ⟨p1, p2, p3, p4, p5, p6⟩ := W.2.1
  have e11 : nN (do_enter s l dy t so sr) 11 = nN s 11 := by unfold nN; rw [k.1 (48, 11) (by decide)]
  have e12 : nN (do_enter s l dy t so sr) 12 = nN s 12 := by unfold nN; rw [k.1 (48, 12) (by decide)]
  have e2 : nN (do_enter s l dy t so sr) 2 = nN s 2 := by unfold nN; rw [k.1 (48, 2) (by decide)]
  unfold WfP wfn
  rw [e11, e12, e2, hN, k.1 (48, 11) (by decide), k.1 (48, 12) (by decide), k.1 (48, 10) (by decide), k.2.1 56 (by decide), k.2.1 57 (by decide), k.2.1 50 (by decide)]
  refine ⟨p1, p2, p3, p4, fun p hp => ?_, p6⟩
  rcases p5 p hp with z | ⟨z0, e, he, z1, z2, z3, z4⟩
  · exact Or.inl z
  · refine Or.inr ⟨z0, e, by omega, z1, ?_, ?_, ?_⟩
    · rw [r58, up1_n _ _ (by omega)]; exact z2
    · rw [r59, up1_n _ _ (by omega)]; exact z3
    · rw [hF e (by omega), hF (e + 1) (by omega)]; exact z4
theorem encLs_by (l : Ln) : ∀ b, b ∈ encLs l → by256 b := by
  have h : ∀ i b, b ∈ encLi l i → by256 b := by
    intro i
    induction i with
    | zero => intro b hb; exact absurd hb List.not_mem_nil
    | succ i ih =>
      intro b hb
      have hb : b ∈ encLi l i ++ (encI (l.2.1 i) ++ enc (l.2.2 i)) := hb
      rcases List.mem_append.mp hb with q | q
      · exact ih b q
      · rcases List.mem_append.mp q with q | q
        · exact encI_by _ b q
        · exact enc_by _ b q
  exact h l.1
theorem wf_posted (W : Wf s) {l : Ln} {dy t : Int32} (hb : l.1 ≤ 8) (hA : LnA (nN s 2) l) : Wf (A_posted s l dy t).2 := by
  refine wf_gate W (fun hr hm => ?_)
  have hn400 : nN s 15 < 400 := by
    have q := (rf_judge_0 hr).2
    rw [W.2.2.1.1.1] at q
    exact (nI_ltI (b := 400) (by have := W.2.2.1.1.2; omega) (by omega)).mp q
  have k := @den_k s l dy t 0 (-1)
  refine wf_jot (W.1.m (k.wk (by decide) (by decide) (by decide))) (wfp_enter W hn400 (by omega)) (wfe_enter W hn400 (by omega) hA) (W.2.2.2.1.m (k.wk (by decide) (by decide) (by decide))) W.2.2.2.2.1 (W.2.2.2.2.2.m (k.wk (by decide) (by decide) (by decide))) (k.wk (by decide) (by decide) (by decide)) hm ⟨5, by omega, rfl⟩ (app_by (app_by (app_by (encI_by _) (encI_by _)) (encI_by _)) (encLs_by l)) ?_
  have := encI_len dy
  have := encI_len t
  have := encI_len (nI l.1)
  have h : (encLs l).length ≤ 20 * l.1 := encLi_len l l.1
  rw [List.length_append, List.length_append, List.length_append]
  omega
theorem wf_post (W : Wf s) {dy t : Int32} : Wf (A_post s dy t).2 := wf_undraft (wf_posted W W.2.2.2.1.1.2 (fun i hi => W.2.2.2.1.2 i hi))
theorem wf_back (W : Wf s) {e dy : Int32} : Wf (A_back s e dy).2 := by
  refine wf_gate W (fun hr hm => ?_)
  have hn := W.2.2.1.1.2
  have hr' : inR e (s.1 48 15) ∧ rf_judge s (negL (entL s e.toNatClampNeg)) dy = 0 := by
    unfold rf_back at hr
    split at hr
    · exact absurd hr (by decide)
    · next q =>
      split at hr
      · exact absurd hr (by decide)
      · split at hr
        · exact absurd hr (by decide)
        · exact ⟨Decidable.not_not.mp q, hr⟩
  obtain ⟨r1, r2⟩ := hr'
  rw [W.2.2.1.1.1] at r1
  obtain ⟨j, hj, ej⟩ := (inR_nI (by omega)).mp r1
  have hw := W.2.2.1.2.2.2.1 j hj
  have hA := entL_A W.2.2.1 hj
  have hb : (negL (entL s j)).1 ≤ 60 := by show fromN s (j + 1) - fromN s j ≤ 60; omega
  have hn400 : nN s 15 < 400 := by
    have q := (rf_judge_0 r2).2
    rw [W.2.2.1.1.1] at q
    exact (nI_ltI (b := 400) (by omega) (by omega)).mp q
  have k := @dbk_k s e dy
  have ec : e.toNatClampNeg = j := by rw [ej, nI_clamp (by omega)]
  have ed : do_back s e dy = mi_setA (do_enter s (negL (entL s j)) dy (mi_at s 59 e) 1 e) 62 j (s.1 48 15) := by unfold do_back; rw [ec]
  refine wf_jot (W.1.m (k.wk (by decide) (by decide) (by decide))) ?_ ?_ (W.2.2.2.1.m (k.wk (by decide) (by decide) (by decide))) W.2.2.2.2.1 (W.2.2.2.2.2.m (k.wk (by decide) (by decide) (by decide))) (k.wk (by decide) (by decide) (by decide)) hm ⟨6, by omega, rfl⟩ (app_by (encI_by e) (encI_by dy)) ?_
  · rw [ed]
    exact (wfp_enter W hn400 hb).m (Kp.setA (by decide))
  · rw [ed]
    exact (wfe_enter W hn400 hb hA).m (Kp.setA (by decide))
  · have l1 := encI_len e
    have l2 := encI_len dy
    rw [List.length_append]
    omega
theorem wf_close (W : Wf s) : Wf (A_close s).2 := by
  refine wf_gate W (fun hr hm => ?_)
  obtain ⟨ho, hc, hn⟩ := rfc_0 W hr
  have h24 := W.2.1.1.2
  have e12 : s.1 48 12 = nI (nN s 12) := W.2.1.2.1.1
  have hO := clo_ok W.1 W.2.1 ho (s.1 48 12)
  have k := @dcl_k s
  have E1 : WfE (do_close s) ∧ WfP (do_close s) := by
    rw [dcl_0]
    unfold do_close0
    by_cases h0 : 0 < (cloL s (s.1 48 12)).1
    · rw [if_pos h0]
      have WE := wfe_enter (dy := mi_at s 56 (s.1 48 12)) (t := 0) (so := 2) (sr := s.1 48 12) W (hn h0) hO.1 hO.2.1
      have WP := wfp_enter (dy := mi_at s 56 (s.1 48 12)) (t := 0) (so := 2) (sr := s.1 48 12) W (hn h0) hO.1
      have hN := den_n (l := cloL s (s.1 48 12)) (dy := mi_at s 56 (s.1 48 12)) (t := 0) (so := 2) (sr := s.1 48 12) W.2.2.1 (hn h0)
      have hF1 := den_from1 (l := cloL s (s.1 48 12)) (dy := mi_at s 56 (s.1 48 12)) (t := 0) (so := 2) (sr := s.1 48 12) W.2.2.1 (hn h0) hO.1
      have hF0 := @den_from s (cloL s (s.1 48 12)) (mi_at s 56 (s.1 48 12)) 0 2 (s.1 48 12) (nN s 15) (Nat.le_refl _)
      have r58 : (do_enter s (cloL s (s.1 48 12)) (mi_at s 56 (s.1 48 12)) 0 2 (s.1 48 12)).2.1 58 = up1 (s.2.1 58) (nN s 15) (mi_at s 56 (s.1 48 12)) := by unfold do_enter; simp only [pI_f, pI_a, pI_l, pA_f, pA_a, pA_l, pL_f, pL_a, pL_l, rA_f, rA_a, rA_l, rL_f, rL_a, rL_l, reduceIte, Nat.reduceEqDiff, and_self, and_true, true_and, and_false, false_and]
      have r59 : (do_enter s (cloL s (s.1 48 12)) (mi_at s 56 (s.1 48 12)) 0 2 (s.1 48 12)).2.1 59 = up1 (s.2.1 59) (nN s 15) 0 := by unfold do_enter; simp only [pI_f, pI_a, pI_l, pA_f, pA_a, pA_l, pL_f, pL_a, pL_l, rA_f, rA_a, rA_l, rL_f, rL_a, rL_l, reduceIte, Nat.reduceEqDiff, and_self, and_true, true_and, and_false, false_and]
      have kd := @den_k s (cloL s (s.1 48 12)) (mi_at s 56 (s.1 48 12)) 0 2 (s.1 48 12)
      obtain ⟨E, eE⟩ : ∃ E, do_enter s (cloL s (s.1 48 12)) (mi_at s 56 (s.1 48 12)) 0 2 (s.1 48 12) = E := ⟨_, rfl⟩
      rw [eE] at WE WP hN hF1 hF0 r58 r59 kd ⊢
      have ks : ∀ v w, Kp [(48,0),(48,1),(48,2),(48,10),(48,11),(48,15),(48,24),(48,30),(48,31),(48,32),(48,36)] [49,50,51,52,53,54,56,58,59,60,61,62,63,64,66,70,72] pmL E (mi_setI (mi_setA E 57 (nN s 12) v) 48 12 w) := fun v w => (Kp.setA (by decide)).tr (Kp.setI (by decide))
      refine ⟨WE.m ((ks _ _).wk (by decide) (by decide) (by decide)), ?_⟩
      have e11 : nN E 11 = nN s 11 := by unfold nN; rw [kd.1 (48, 11) (by decide)]
      have e12E : nN E 12 = nN s 12 := by unfold nN; rw [kd.1 (48, 12) (by decide)]
      obtain ⟨p1, p2, p3, p4, p5, p6⟩ := WP
      have f12 : (mi_setI (mi_setA E 57 (nN s 12) (s.1 48 15)) 48 12 (s.1 48 12 + 1)).1 48 12 = nI (nN s 12 + 1) := by rw [pI_f, if_pos ⟨rfl, rfl⟩, e12, nI_1]
      have n12 : nN (mi_setI (mi_setA E 57 (nN s 12) (s.1 48 15)) 48 12 (s.1 48 12 + 1)) 12 = nN s 12 + 1 := nN_nI f12 (by omega)
      refine ⟨p1, ⟨by rw [n12, f12], by rw [n12]; omega⟩, by rw [n12]; show nN s 12 + 1 ≤ nN E 11; omega, p4, fun p hp => ?_, p6⟩
      have hp : p < nN E 11 := hp
      have r57 : (mi_setI (mi_setA E 57 (nN s 12) (s.1 48 15)) 48 12 (s.1 48 12 + 1)).2.1 57 = up1 (E.2.1 57) (nN s 12) (s.1 48 15) := by rw [pI_a, pA_a, if_pos rfl]
      rw [r57, n12]
      by_cases q : p = nN s 12
      · subst q
        refine Or.inr ⟨by omega, nN s 15, ?_, by rw [up1_s]; exact W.2.2.1.1.1, ?_, ?_, ?_⟩
        · show nN s 15 < nN E 15
          omega
        · show E.2.1 58 (nN s 15) = E.2.1 56 (nN s 12)
          rw [r58, up1_s, kd.2.1 56 (by decide), e12, mi_at_nI _ _ (by omega)]
        · show E.2.1 59 (nN s 15) = 0
          rw [r59, up1_s]
        · show fromN E (nN s 15) < fromN E (nN s 15 + 1)
          rw [hF0, hF1]
          omega
      · rw [up1_n _ _ q]
        rcases p5 p hp with z | ⟨z0, z1⟩
        · exact Or.inl z
        · exact Or.inr ⟨by omega, z1⟩
    · rw [if_neg h0]
      have ks : Kp [(48,0),(48,1),(48,2),(48,10),(48,11),(48,15),(48,24),(48,30),(48,31),(48,32),(48,36)] pmA pmL s (mi_setI s 48 12 (s.1 48 12 + 1)) := Kp.setI (by decide)
      refine ⟨W.2.2.1.m (ks.wk (by decide) (by decide) (by decide)), ?_⟩
      obtain ⟨p1, p2, p3, p4, p5, p6⟩ := W.2.1
      have f12 : (mi_setI s 48 12 (s.1 48 12 + 1)).1 48 12 = nI (nN s 12 + 1) := by rw [pI_f, if_pos ⟨rfl, rfl⟩, e12, nI_1]
      have n12 : nN (mi_setI s 48 12 (s.1 48 12 + 1)) 12 = nN s 12 + 1 := nN_nI f12 (by omega)
      refine ⟨p1, ⟨by rw [n12, f12], by rw [n12]; omega⟩, by rw [n12]; show nN s 12 + 1 ≤ nN s 11; omega, p4, fun p hp => ?_, p6⟩
      rw [n12]
      rcases p5 p hp with z | ⟨z0, z1⟩
      · exact Or.inl z
      · exact Or.inr ⟨by omega, z1⟩
  exact wf_jot (W.1.m (k.wk (by decide) (by decide) (by decide))) E1.2 E1.1 (W.2.2.2.1.m (k.wk (by decide) (by decide) (by decide))) W.2.2.2.2.1 (W.2.2.2.2.2.m (k.wk (by decide) (by decide) (by decide))) (k.wk (by decide) (by decide) (by decide)) hm ⟨7, by omega, rfl⟩ (fun b hb => absurd hb List.not_mem_nil) (by show 0 ≤ 255; omega)
theorem wf_reopen (W : Wf s) : Wf (A_reopen s).2 := by
  refine wf_gate W (fun hr hm => ?_)
  obtain ⟨hc, hn⟩ := rfo_0 W hr
  have h24 := W.2.1.1.2
  have hle := W.2.1.2.2.1
  have e12 : s.1 48 12 = nI (nN s 12) := W.2.1.2.1.1
  have hO := opn_A W hc
  have eo := (opn_ok W hc).2
  have k := @drp_k s
  obtain ⟨m, em⟩ : ∃ m, nN s 12 = m + 1 := ⟨nN s 12 - 1, by omega⟩
  have ep : s.1 48 12 - 1 = nI m := by rw [e12, em, nI_pred]
  have E1 : WfE (do_reopen s) ∧ WfP (do_reopen s) := by
    rw [drp_0]
    unfold do_reopen0
    by_cases h0 : 0 < (opnL s).1
    · rw [if_pos h0]
      have WE := wfe_enter (dy := mi_at s 56 (s.1 48 12 - 1)) (t := 0) (so := 3) (sr := s.1 48 12 - 1) W (hn h0) hO.1 hO.2
      have WP := wfp_enter (dy := mi_at s 56 (s.1 48 12 - 1)) (t := 0) (so := 3) (sr := s.1 48 12 - 1) W (hn h0) hO.1
      have kd := @den_k s (opnL s) (mi_at s 56 (s.1 48 12 - 1)) 0 3 (s.1 48 12 - 1)
      obtain ⟨E, eE⟩ : ∃ E, do_enter s (opnL s) (mi_at s 56 (s.1 48 12 - 1)) 0 3 (s.1 48 12 - 1) = E := ⟨_, rfl⟩
      rw [eE] at WE WP kd ⊢
      have ks : ∀ v w, Kp [(48,0),(48,1),(48,2),(48,10),(48,11),(48,15),(48,24),(48,30),(48,31),(48,32),(48,36)] [49,50,51,52,53,54,56,58,59,60,61,62,63,64,66,70,72] pmL E (mi_setI (mi_setA E 57 (nN s 12 - 1) v) 48 12 w) := fun v w => (Kp.setA (by decide)).tr (Kp.setI (by decide))
      refine ⟨WE.m ((ks _ _).wk (by decide) (by decide) (by decide)), ?_⟩
      have e11 : nN E 11 = nN s 11 := by unfold nN; rw [kd.1 (48, 11) (by decide)]
      have e12E : nN E 12 = nN s 12 := by unfold nN; rw [kd.1 (48, 12) (by decide)]
      obtain ⟨p1, p2, p3, p4, p5, p6⟩ := WP
      have f12 : (mi_setI (mi_setA E 57 (nN s 12 - 1) (-1)) 48 12 (s.1 48 12 - 1)).1 48 12 = nI m := by rw [pI_f, if_pos ⟨rfl, rfl⟩, ep]
      have n12 : nN (mi_setI (mi_setA E 57 (nN s 12 - 1) (-1)) 48 12 (s.1 48 12 - 1)) 12 = m := nN_nI f12 (by omega)
      refine ⟨p1, ⟨by rw [n12, f12], by rw [n12]; omega⟩, by rw [n12]; show m ≤ nN E 11; omega, p4, fun p hp => ?_, p6⟩
      have hp : p < nN E 11 := hp
      have r57 : (mi_setI (mi_setA E 57 (nN s 12 - 1) (-1)) 48 12 (s.1 48 12 - 1)).2.1 57 = up1 (E.2.1 57) (nN s 12 - 1) (-1) := by rw [pI_a, pA_a, if_pos rfl]
      rw [r57, n12]
      by_cases q : p = nN s 12 - 1
      · subst q
        rw [up1_s]
        exact Or.inl rfl
      · rw [up1_n _ _ q]
        rcases p5 p hp with z | ⟨z0, z1⟩
        · exact Or.inl z
        · exact Or.inr ⟨by omega, z1⟩
    · rw [if_neg h0]
      have ks : Kp [(48,0),(48,1),(48,2),(48,10),(48,11),(48,15),(48,24),(48,30),(48,31),(48,32),(48,36)] pmA pmL s (mi_setI s 48 12 (s.1 48 12 - 1)) := Kp.setI (by decide)
      refine ⟨W.2.2.1.m (ks.wk (by decide) (by decide) (by decide)), ?_⟩
      obtain ⟨p1, p2, p3, p4, p5, p6⟩ := W.2.1
      have f12 : (mi_setI s 48 12 (s.1 48 12 - 1)).1 48 12 = nI m := by rw [pI_f, if_pos ⟨rfl, rfl⟩, ep]
      have n12 : nN (mi_setI s 48 12 (s.1 48 12 - 1)) 12 = m := nN_nI f12 (by omega)
      refine ⟨p1, ⟨by rw [n12, f12], by rw [n12]; omega⟩, by rw [n12]; show m ≤ nN s 11; omega, p4, fun p hp => ?_, p6⟩
      rw [n12]
      by_cases q : p = nN s 12 - 1
      · subst q
        rcases eo with ⟨z, _⟩ | ⟨_, _, _, _, _, _, z, _⟩
        · exact Or.inl z
        · exact absurd z h0
      · rcases p5 p hp with z | ⟨z0, z1⟩
        · exact Or.inl z
        · exact Or.inr ⟨by omega, z1⟩
  exact wf_jot (W.1.m (k.wk (by decide) (by decide) (by decide))) E1.2 E1.1 (W.2.2.2.1.m (k.wk (by decide) (by decide) (by decide))) W.2.2.2.2.1 (W.2.2.2.2.2.m (k.wk (by decide) (by decide) (by decide))) (k.wk (by decide) (by decide) (by decide)) hm ⟨8, by omega, rfl⟩ (fun b hb => absurd hb List.not_mem_nil) (by show 0 ≤ 255; omega)
theorem wf_share (W : Wf s) {a dy t : Int32} {v : Int64} : Wf (A_share s a v dy t).2 := by
  unfold A_share
  split
  · exact W
  · split
    · exact W
    · next h =>
      obtain ⟨r1, r2, r3, r4, r5⟩ := rf_share_0 (Decidable.not_not.mp h)
      obtain ⟨j, hj, ej, _⟩ := at_ac W.1 r1
      have hlen := shLi_len s a v (nN s 24)
      have h7 := r3.2
      refine wf_undraft (wf_posted W (by show (shLi s a v (nN s 24)).1 ≤ 8; omega) ?_)
      unfold shL
      rw [ej]
      exact shLi_A W.2.2.2.1 hj _ (Nat.le_refl _)
theorem wf_sync (W : Wf s) : Wf (A_sync s).2 := by
  unfold A_sync
  split
  · exact W
  · have ks : Kp [(48,0),(48,1),(48,2),(48,10),(48,11),(48,12),(48,15),(48,24),(48,30),(48,32),(48,36)] pmA pmL s (mi_setI s 48 31 (s.1 48 30)) := Kp.setI (by decide)
    refine ⟨W.1.m (ks.wk (by decide) (by decide) (by decide)), W.2.1.m (ks.wk (by decide) (by decide) (by decide)), W.2.2.1.m (ks.wk (by decide) (by decide) (by decide)), W.2.2.2.1.m (ks.wk (by decide) (by decide) (by decide)), ?_, W.2.2.2.2.2.m (ks.wk (by decide) (by decide) (by decide))⟩
    obtain ⟨p1, p2, p3, p4⟩ := W.2.2.2.2.1
    exact ⟨p1, p1, Nat.le_refl _, p4⟩
theorem xor_by {a b : Int32} (ha : by256 a) (hb : by256 b) : by256 (a ^^^ b) := by
  obtain ⟨x, hx, rfl⟩ := ha
  obtain ⟨y, hy, rfl⟩ := hb
  refine ⟨x ^^^ y, Nat.xor_lt_two_pow (n := 8) hx hy, ?_⟩
  apply Int32.toBitVec_inj.mp
  apply BitVec.eq_of_toNat_eq
  have hz : x ^^^ y < 256 := Nat.xor_lt_two_pow (n := 8) hx hy
  rw [Int32.toBitVec_xor, BitVec.toNat_xor, pk_tn (by omega), pk_tn (by omega), pk_tn (by omega)]
theorem wf_crash (W : Wf s) {n b : Int32} : Wf (A_crash s n b).2 := by
  unfold A_crash
  split
  · exact W
  · next h =>
    have h1 : ¬ n < 0 := fun q => h (Or.inl q)
    have h2 : ¬ b < 0 := fun q => h (Or.inr (Or.inl q))
    have h3 : ¬ 255 < b := fun q => h (Or.inr (Or.inr q))
    obtain ⟨k, hk, ek, et⟩ := kept_ok W.2.2.2.2.1 h1
    have hb := W.2.2.2.2.1.1.2
    have hle := W.2.2.2.2.1.2.2.1
    have kt := @tear_k s n b
    have e30 : (tear s n b).1 48 30 = nI (nN s 31 + k) := by
      rw [← et]
      unfold tear
      split <;> rfl
    have hbb : by256 b := by
      obtain ⟨j, hj, ej⟩ := nI_of h2
      refine ⟨j, ?_, ej⟩
      rcases Nat.lt_or_ge j 256 with z | z
      · exact z
      · exact absurd (by rw [ej]; exact nI_lt (a := 255) (by omega) hj) h3
    have r70 : ∀ i, by256 ((tear s n b).2.1 70 i) := by
      intro i
      unfold tear
      split
      · rw [pA_a, if_pos rfl]
        unfold up1
        split
        · exact xor_by (W.2.2.2.2.1.2.2.2 _) hbb
        · exact W.2.2.2.2.1.2.2.2 i
      · exact W.2.2.2.2.1.2.2.2 i
    have n30 : nN (tear s n b) 30 = nN s 31 + k := nN_nI e30 (by omega)
    have WJ : WfJ (tear s n b) := by
      refine ⟨⟨by rw [n30, e30], by rw [n30]; omega⟩, ?_, ?_, r70⟩
      · unfold wfn nN
        rw [kt.1 (48, 31) (by decide)]
        exact W.2.2.2.2.1.2.1
      · rw [n30]
        unfold nN
        rw [kt.1 (48, 31) (by decide)]
        show nN s 31 ≤ nN s 31 + k
        omega
    have WT : Wf (tear s n b) := ⟨W.1.m (kt.wk (by decide) (by decide) (by decide)), W.2.1.m (kt.wk (by decide) (by decide) (by decide)), W.2.2.1.m (kt.wk (by decide) (by decide) (by decide)), W.2.2.2.1.m (kt.wk (by decide) (by decide) (by decide)), WJ, W.2.2.2.2.2.m (kt.wk (by decide) (by decide) (by decide))⟩
    have W2 := wf_24 WT
    have ks : Kp [(48,1),(48,2),(48,10),(48,11),(48,12),(48,15),(48,24),(48,30),(48,31),(48,32)] pmA pmL (mi_setI (tear s n b) 48 24 0) (mi_setI (mi_setI (mi_setI (tear s n b) 48 24 0) 48 36 0) 48 0 0) := (Kp.setI (by decide)).tr (Kp.setI (by decide))
    refine ⟨W2.1.m (ks.wk (by decide) (by decide) (by decide)), W2.2.1.m (ks.wk (by decide) (by decide) (by decide)), W2.2.2.1.m (ks.wk (by decide) (by decide) (by decide)), W2.2.2.2.1.m (ks.wk (by decide) (by decide) (by decide)), W2.2.2.2.2.1.m (ks.wk (by decide) (by decide) (by decide)), ?_⟩
    have hN : nN (mi_setI (mi_setI (mi_setI (tear s n b) 48 24 0) 48 36 0) 48 0 0) 36 = 0 := rfl
    exact ⟨by rw [hN]; exact nI_0.symm, by rw [hN]; omega⟩
end WFX
