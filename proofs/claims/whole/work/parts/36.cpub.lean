/-! the program's calls: accounts, periods, the owner -/
abbrev KX (δ δ' : mi_D) : Prop := Kp ((2, 7) :: pmF) (0 :: 1 :: pmA) pmL δ δ'
section GATE
variable {s s' : mi_D} {rf what ans : Int32} {B : List Int32}
theorem gate_down (h : s.1 48 0 = 0) : gate s rf what ans B s' = (-6, s) := if_pos h
theorem gate_ref (h : ¬ s.1 48 0 = 0) (hr : ¬ rf = 0) : gate s rf what ans B s' = (rf, s) := by unfold gate; rw [if_neg h, if_pos hr]
theorem gate_ok (h : ¬ s.1 48 0 = 0) (hr : rf = 0) (hm : room s B) : gate s rf what ans B s' = (ans, jot s' what B) := by unfold gate; rw [if_neg h, if_neg (fun q => q hr), if_pos hm]
theorem gate_full (h : ¬ s.1 48 0 = 0) (hr : rf = 0) (hm : ¬ room s B) : gate s rf what ans B s' = (-13, s) := by unfold gate; rw [if_neg h, if_neg (fun q => q hr), if_neg hm]
end GATE
theorem encU_len (k : Nat) (u : UInt64) : (encU k u).length ≤ k := by
  induction k generalizing u with
  | zero => exact Nat.le_refl _
  | succ k ih =>
    unfold encU
    split
    · rw [List.length_singleton]; omega
    · rw [List.length_cons]; have := ih (u >>> 7); omega
theorem enc_len (v : Int64) : (enc v).length ≤ 10 := encU_len 10 _
theorem encI_len (v : Int32) : (encI v).length ≤ 10 := enc_len _
theorem cntL_0 {s : mi_D} {n m : Nat} (h : ∀ i, i < m → ∃ a, a < n ∧ s.2.1 64 i = nI a) (hn : n ≤ 60) : cntL s n m = 0 := by
  unfold cntL
  induction m with
  | zero => rfl
  | succ m ih =>
    obtain ⟨a, ha, ea⟩ := h m (by omega)
    show (if s.2.1 64 m = nI n then _ else _) = 0
    rw [ea, if_neg (fun q => by have := (nI_eq (by omega) (by omega)).mp q; omega)]
    exact ih (fun i hi => h i (by omega))
section CPUB
variable {N d : Nat} {δ s : mi_D}
theorem cp_account (hd : 9 ≤ d) (H : Abs δ s) (U : δ.1 2 7 = s.1 48 0) (h1 : s.1 48 1 = 0) (W : Wf s) {c k p g : Int32} {Q : Int32 → mi_D → Prop}
    (kk : ∀ δ', Abs δ' (A_account s c k p g).2 → KX δ δ' → Q (A_account s c k p g).1 δ') : mi_wI N d 113 0 [.ref 2, .int c, .int k, .int p, .int g, .null] [] δ Q := by
  unfold A_account at kk
  refine q11_account_0 (by omega) ⟨fun h => ?_, fun h => cc_rfAccount (by omega) H.1 W.1 ⟨fun hr => ?_, fun hr => ?_⟩⟩
  · rw [gate_down (U ▸ h)] at kk
    exact kk δ H Kp.rf
  · have hup : ¬ s.1 48 0 = 0 := fun q => h (U.trans q)
    have hn : nN s 2 < 60 := by
      unfold rf_account at hr
      split at hr
      · exact absurd hr (by decide)
      · split at hr
        · exact absurd hr (by decide)
        · split at hr
          · exact absurd hr (by decide)
          · split at hr
            · exact absurd hr (by decide)
            · split at hr
              · next h60 =>
                rw [W.1.1.1] at h60
                exact (nI_ltI (b := 60) (by have := W.1.1.2; omega) (by omega)).mp h60
              · exact absurd hr (by decide)
    have fin : ∀ δ6 gg x, Bd δ6 (encI c ++ encI k ++ encI p) → δ6.1 28 3 = 1 → Fr [(28, 2), (28, 3)] [30] [] δ δ6 → gg = Int32.toInt64 (bI (¬ g = 0)) → mi_wI N d 113 79 [.ref 2, .int c, .int k, .int p, .int g, .int x] [.long gg, .ref 28] δ6 Q := by
      intro δ6 gg x X6 hw f6 eg
      subst eg
      have l1 := encI_len c
      have l2 := encI_len k
      have l3 := encI_len p
      have l4 := encI_len (bI (¬ g = 0))
      refine q11_account_79 (by omega) (cc_number (by omega) X6 (by rw [List.length_append, List.length_append]; omega) (fun δ7 X7 f7 => ?_))
      have f : Fr [(28, 2), (28, 3)] [30] [] δ δ7 := f6.tr (f7.wk (by decide) (by decide) (by decide))
      have X7' : Bd δ7 (encI c ++ encI k ++ encI p ++ encI (bI (¬ g = 0))) := X7
      have H7 : Abs δ7 s := H.c (f.kp (by decide) (by decide) (by decide))
      refine cc_write (by omega) H7.2.2.2.1 W.2.2.2.2.1 h1 X7' (by rw [List.length_append, List.length_append, List.length_append]; show _ + (encI (bI (¬ g = 0))).length ≤ 255; omega) (what := 1) (by rw [f7.1 _ _ (by decide)]; exact hw) (fun hm δ8 J8 f8 => br1 ?_) (fun hm => br0 ?_)
      · rw [gate_ok hup hr hm] at kk
        have A8 : AbA δ8 s := H7.1.c (f8.kp (by decide) (by decide) (by decide))
        refine cc_add (by omega) A8 W.1 hn (fun δ9 A9 f9 e9 => kk δ9 ?_ ?_)
        · have k9 : Kp [(14,2),(14,3),(3,3),(17,9),(17,10),(28,4),(28,5),(28,6),(35,2),(45,3)] [15,16,18,19,20,21,22,23,24,25,29,36,46] [26,37] δ8 δ9 := f9.kp (by decide) (by decide) (by decide)
          have k8 : Kp [(14,2),(14,3),(3,3),(17,9),(17,10),(35,2),(45,3)] [9,15,16,18,19,20,21,22,23,24,25,36,46] [26,37] δ7 δ8 := f8.kp (by decide) (by decide) (by decide)
          have ks : Kp [(48,0),(48,1),(48,10),(48,11),(48,12),(48,15),(48,24),(48,30),(48,31),(48,32),(48,36)] [56,57,58,59,60,61,62,63,64,66,70,72] [65,67] s (do_account s c k p g) := by
            unfold do_account
            exact (((((((Kp.setA (by decide)).tr (Kp.setA (by decide))).tr (Kp.setA (by decide))).tr (Kp.setA (by decide))).tr (Kp.setA (by decide))).tr (Kp.setA (by decide))).tr (Kp.setL (by decide))).tr (Kp.setI (by decide))
          refine abs_jot A9 (((H7.2.1.c (k8.wk (by decide) (by decide) (by decide))).c (k9.wk (by decide) (by decide) (by decide))).m (ks.wk (by decide) (by decide) (by decide))) ?_ (J8.c (k9.wk (by decide) (by decide) (by decide))) (((H7.2.2.2.2.1.c (k8.wk (by decide) (by decide) (by decide))).c (k9.wk (by decide) (by decide) (by decide))).m (ks.wk (by decide) (by decide) (by decide))) (((H7.2.2.2.2.2.c (k8.wk (by decide) (by decide) (by decide))).c (k9.wk (by decide) (by decide) (by decide))).m (ks.wk (by decide) (by decide) (by decide))) (ks.wk (by decide) (by decide) (by decide))
          have E8 : AbE δ8 s := H7.2.2.1.c (k8.wk (by decide) (by decide) (by decide))
          have k9' : Kp [(17,9),(17,10)] [18,19,20,21,22,23,24,25] [26] δ8 δ9 := f9.kp (by decide) (by decide) (by decide)
          have hn2 : nN (do_account s c k p g) 2 = nN s 2 + 1 := nN_nI (by unfold do_account; simp only [pI_f, pI_a, pI_l, pA_f, pA_a, pA_l, pL_f, pL_a, pL_l, rA_f, rA_a, rA_l, rL_f, rL_a, rL_l, reduceIte, Nat.reduceEqDiff, and_self, and_true, true_and, and_false, false_and]; rw [W.1.1.1, nI_1]) (by omega)
          have ef : ∀ e, fromN (do_account s c k p g) e = fromN s e := fun e => by unfold fromN; rw [ks.2.1 61 (by decide)]
          have en : nN (do_account s c k p g) 15 = nN s 15 := by unfold nN; rw [ks.1 (48, 15) (by decide)]
          have ec : ∀ a i, cntL (do_account s c k p g) a i = cntL s a i := fun a i => by unfold cntL; rw [ks.2.1 64 (by decide)]
          refine ⟨?_, ?_, ?_, ?_, ?_, ?_, ?_, ?_, ?_, ?_, ?_⟩
          · rw [k9'.1 (17, 9) (by decide), ks.1 (48, 15) (by decide)]; exact E8.1
          · rw [k9'.2.1 18 (by decide), ks.2.1 58 (by decide)]; exact E8.2.1
          · rw [k9'.2.1 19 (by decide), ks.2.1 59 (by decide)]; exact E8.2.2.1
          · rw [k9'.2.1 20 (by decide), ks.2.1 60 (by decide)]; exact E8.2.2.2.1
          · rw [k9'.2.1 22 (by decide), ks.2.1 62 (by decide)]; exact E8.2.2.2.2.1
          · rw [k9'.2.1 23 (by decide), ks.2.1 63 (by decide)]; exact E8.2.2.2.2.2.1
          · rw [k9'.2.1 25 (by decide), ks.2.1 64 (by decide)]; exact E8.2.2.2.2.2.2.1
          · rw [k9'.2.2 26 (by decide), ks.2.2 65 (by decide)]; exact E8.2.2.2.2.2.2.2.1
          · rw [k9'.1 (17, 10) (by decide), en, ef]; exact E8.2.2.2.2.2.2.2.2.1
          · rw [k9'.2.1 24 (by decide), k9'.2.1 21 (by decide), en]
            intro e he
            rw [ef, ef]
            exact E8.2.2.2.2.2.2.2.2.2.1 e he
          · rw [hn2, en, ef, e9]
            intro a ha
            rw [ec]
            by_cases q : a = nN s 2
            · subst q
              rw [up1_s, cntL_0 (fun i hi => (W.2.2.1.2.2.2.2 i hi)) W.1.1.2]
              exact nI_0.symm
            · rw [up1_n _ _ q]
              exact E8.2.2.2.2.2.2.2.2.2.2 a (by omega)
        · exact ((f.kp (by decide) (by decide) (by decide)).tr (f8.kp (by decide) (by decide) (by decide))).tr (f9.kp (by decide) (by decide) (by decide))
      · rw [gate_full hup hr hm] at kk
        exact kk δ7 H7 (f.kp (by decide) (by decide) (by decide))
    refine cc_begin (by omega) (fun δ3 X3 w3 f3 => cc_number (by omega) X3 (by show 0 + 10 ≤ 255; omega) (fun δ4 X4 f4 => cc_number (by omega) X4 (by have := enc_len (Int32.toInt64 c); rw [List.length_append]; show 0 + _ + 10 ≤ 255; omega) (fun δ5 X5 f5 => cc_number (by omega) X5 (by have := enc_len (Int32.toInt64 c); have := enc_len (Int32.toInt64 k); rw [List.length_append, List.length_append]; show 0 + _ + _ + 10 ≤ 255; omega) (fun δ6 X6 f6 => ?_))))
    have w6 : δ6.1 28 3 = 1 := by rw [f6.1 _ _ (by decide), f5.1 _ _ (by decide), f4.1 _ _ (by decide)]; exact w3
    have ff : Fr [(28, 2), (28, 3)] [30] [] δ δ6 := (f3.wk (by decide) (by decide) (by decide)).tr ((f4.wk (by decide) (by decide) (by decide)).tr ((f5.wk (by decide) (by decide) (by decide)).tr (f6.wk (by decide) (by decide) (by decide))))
    exact ⟨fun hg => fin δ6 0 _ X6 w6 ff (by rw [bI_0 (fun q => q hg)]; rfl), fun hg => fin δ6 1 _ X6 w6 ff (by rw [bI_1 hg]; rfl)⟩
  · rw [gate_ref (fun q => h (U.trans q)) hr] at kk
    exact kk δ H Kp.rf
end CPUB
