section CMC
variable {N d : Nat} {δ s : mi_D}
theorem at_ac {s : mi_D} (W : WfA s) {p : Int32} (h : isAc s p) : ∃ j, j < nN s 2 ∧ p = nI j ∧ p.toNatClampNeg = j ∧ mi_ix p 60 = true ∧ ∀ r, mi_at s r p = s.2.1 r j := by
  have h60 := W.1.2
  unfold isAc at h
  rw [W.1.1] at h
  obtain ⟨j, hj, ej⟩ := (inR_nI (by omega)).mp h
  exact ⟨j, hj, ej, by rw [ej, nI_clamp (by omega)], by rw [ej]; exact mi_ix_nI (by omega) (by omega), fun r => by rw [ej, mi_at_nI _ _ (by omega)]⟩
theorem cm_shut (hd : 8 ≤ d) (G : Agr s δ) (W : Wf s) {a on : Int32} (hon : on = 0 ∨ on = 1) {Q : Int32 → mi_D → Prop}
    (kk : ∀ δ', Agr (A_shut s a on).2 δ' → KC δ δ' → Q (A_shut s a on).1 δ') : mi_wI N d 158 0 [.ref 48, .int a, .int on] [] δ Q := by
  unfold A_shut at kk
  have e0 : δ.1 48 0 = s.1 48 0 := G.1 (48, 0) (by decide)
  refine q12_shut_0 (by omega) ?_
  rw [e0]
  refine ⟨fun h => ?_, fun hup => cm_isAccount (by omega) G W.1 (bI_br (fun h => ?_) (fun h => ?_))⟩
  · rw [gate_down h] at kk
    exact kk δ G Kp.rf
  · have hr : rf_shut s a on = -2 := by unfold rf_shut; rw [if_pos h]
    rw [gate_ref hup (by rw [hr]; decide), hr] at kk
    exact kk δ G Kp.rf
  · obtain ⟨j, hj, ej, ec, hx, hat⟩ := at_ac W.1 h
    have hw := W.1.2.1 j hj
    rw [ec, G.2.1 52 (by decide), G.2.1 54 (by decide)]
    refine ⟨hx, fun h2 => ⟨hx, fun h3 => ?_, fun h3 => ?_⟩, fun h2 => ?_⟩
    · have hr : rf_shut s a on = -6 := by unfold rf_shut; rw [if_neg (fun q => q h), hat, if_neg (fun q => q h2), hat, bI_id hw.2.2.2, if_pos h3]
      rw [gate_ref hup (by rw [hr]; decide), hr] at kk
      exact kk δ G Kp.rf
    · have hr : rf_shut s a on = 0 := by unfold rf_shut; rw [if_neg (fun q => q h), hat, if_neg (fun q => q h2), hat, bI_id hw.2.2.2, if_neg h3]
      refine cm_begin (by omega) (fun δ3 X3 f3 => cm_say (by omega) X3 (by show 0 + 10 ≤ 300; omega) (fun δ4 X4 f4 => ?_))
      have ff : Fr [(48, 34)] [71] [] δ δ4 := (f3.wk (by decide) (by decide) (by decide)).tr f4
      have l1 := encI_len a
      have l2 := encI_len (bI (¬ on = 0))
      have fin : ∀ gg, gg = Int32.toInt64 (bI (¬ on = 0)) → mi_wI N d 158 66 [.ref 48, .int a, .int on] [.long gg, .ref 48] δ4 Q := by
        intro gg eg
        subst eg
        refine q12_shut_66 (by omega) (cm_say (by omega) X4 (by have := enc_len (Int32.toInt64 a); rw [List.length_append]; show 0 + _ + 10 ≤ 300; omega) (fun δ7 X7 f7 => ?_))
        have X7' : Bm δ7 (encI a ++ encI (bI (¬ on = 0))) := X7
        have F7 := ff.tr f7
        have G7 : Agr s δ7 := G.fr F7 (by decide) (by decide) (by decide)
        have K7 : KC δ δ7 := F7.kp (by decide) (by decide) (by decide)
        refine cm_hasRoom (by omega) G7 W.2.2.2.2.1 X7' (by rw [List.length_append]; omega) (bI_br (fun hm => ?_) (fun hm => ?_))
        · rw [gate_full hup hr hm] at kk
          exact kk δ7 G7 K7
        · rw [gate_ok hup hr hm] at kk
          refine ⟨hx, hon, fun δ8 e8 => ?_⟩
          have G8 : Agr (do_shut s a on) δ8 := by
            unfold do_shut
            rw [bI_id2 hon, e8]
            exact G7.sA _ _ _
          have F8 : Fr [] [54] [] δ7 δ8 := by rw [e8]; exact Fr.setA (by decide)
          have ks : Kp pmF [49,50,51,52,53,56,57,58,59,60,61,62,63,64,66,70,72] pmL s (do_shut s a on) := Kp.setA (by decide)
          refine cm_write (by omega) G8 (W.2.2.2.2.1.m (ks.wk (by decide) (by decide) (by decide))) (X7'.fr F8 (by decide) (by decide)) (by rw [List.length_append]; omega) (room_m (ks.wk (by decide) (by decide) (by decide)) hm) (fun δ9 G9 F9 => ?_)
          have key := kk δ9 G9 ((K7.tr (F8.kp (by decide) (by decide) (by decide))).tr (F9.kp (by decide) (by decide) (by decide)))
          exact ⟨fun q => by rwa [bI_1 q] at key, fun q => by rwa [bI_0 q] at key⟩
      exact ⟨fun q => fin 0 (by rw [bI_0 (fun z => z q)]; rfl), fun q => fin 1 (by rw [bI_1 q]; rfl)⟩
    · have hr : rf_shut s a on = -4 := by unfold rf_shut; rw [if_neg (fun q => q h), hat, if_pos h2]
      rw [gate_ref hup (by rw [hr]; decide), hr] at kk
      exact kk δ G Kp.rf
theorem cm_firstDay (hd : 5 ≤ d) (G : Agr s δ) {j : Nat} (hj : j ≤ 24) {Q : Int32 → mi_D → Prop} (k : Q (fday s (nI j)) δ) : mi_wI N d 159 0 [.ref 48, .int (nI j)] [] δ Q := by
  unfold fday at k
  refine q12_firstDay_0 hd ⟨fun q => ?_, fun q => ?_⟩
  · rwa [if_pos q] at k
  · rw [if_neg q] at k
    obtain ⟨m, rfl⟩ : ∃ m, j = m + 1 := ⟨j - 1, by
      rcases Nat.eq_zero_or_pos j with z | z
      · subst z; exact absurd nI_0 q
      · omega⟩
    rw [nI_pred] at k ⊢
    rw [mi_at_nI _ _ (by omega)] at k
    refine ⟨mi_ix_nI (by omega) (by omega), ?_⟩
    rw [nI_clamp (by omega), G.2.1 56 (by decide)]
    exact k
theorem cm_period (hd : 8 ≤ d) (G : Agr s δ) (W : Wf s) {a : Int32} {Q : Int32 → mi_D → Prop}
    (kk : ∀ δ', Agr (A_period s a).2 δ' → KC δ δ' → Q (A_period s a).1 δ') : mi_wI N d 160 0 [.ref 48, .int a] [] δ Q := by
  have h24 := W.2.1.1.2
  have e11 : s.1 48 11 = nI (nN s 11) := W.2.1.1.1
  unfold A_period at kk
  have e0 : δ.1 48 0 = s.1 48 0 := G.1 (48, 0) (by decide)
  have d11 : δ.1 48 11 = nI (nN s 11) := (G.1 (48, 11) (by decide)).trans e11
  refine q12_period_0 (by omega) ?_
  rw [e0, d11]
  refine ⟨fun h => ?_, fun hup => cm_firstDay (by omega) G h24 (c_inI (hi := 9999) (by omega) rfl rfl (fun h1 h2 => brN (by decide) ?_) (fun h => br0 ?_))⟩
  · rw [gate_down h] at kk
    exact kk δ G Kp.rf
  · rw [← e11] at h1
    refine cm_begin (by omega) (fun δ3 X3 f3 => cm_say (by omega) X3 (by show 0 + 10 ≤ 300; omega) (fun δ7 X7 f4 => ?_))
    have F7 : Fr [(48, 34)] [71] [] δ δ7 := (f3.wk (by decide) (by decide) (by decide)).tr f4
    have X7' : Bm δ7 (encI a) := X7
    have l1 := encI_len a
    have G7 : Agr s δ7 := G.fr F7 (by decide) (by decide) (by decide)
    have K7 : KC δ δ7 := F7.kp (by decide) (by decide) (by decide)
    have d7 : δ7.1 48 11 = nI (nN s 11) := (G7.1 (48, 11) (by decide)).trans e11
    rw [d7]
    have hlt : nI (nN s 11) = 24 ↔ ¬ s.1 48 11 < 24 := by rw [e11]; exact nI_eqv (m := 24) h24 (by omega)
    refine ⟨fun q => ?_, fun q => cm_hasRoom (by omega) G7 W.2.2.2.2.1 X7' (by omega) (bI_br (fun hm => ?_) (fun hm => ?_))⟩
    · have hr : rf_period s a = -13 := by unfold rf_period; rw [if_neg (fun z => z.elim h1 h2), if_neg (hlt.mp q)]
      rw [gate_ref hup (by rw [hr]; decide), hr] at kk
      exact kk δ7 G7 K7
    · have hr : rf_period s a = 0 := by unfold rf_period; rw [if_neg (fun z => z.elim h1 h2), if_pos (Decidable.not_not.mp (fun z => q (hlt.mpr z)))]
      rw [gate_full hup hr hm] at kk
      exact kk δ7 G7 K7
    · have hr : rf_period s a = 0 := by unfold rf_period; rw [if_neg (fun z => z.elim h1 h2), if_pos (Decidable.not_not.mp (fun z => q (hlt.mpr z)))]
      have n24 : nN s 11 < 24 := by
        rcases Nat.lt_or_eq_of_le h24 with z | z
        · exact z
        · exact absurd (by rw [z]; rfl) q
      rw [gate_ok hup hr hm] at kk
      refine ⟨by rw [d7]; exact mi_ix_nI n24 (by omega), fun δ9 e9 => ?_⟩
      rw [d7, nI_clamp (by omega)] at e9
      have d9 : δ9.1 48 11 = nI (nN s 11) := by rw [e9]; exact d7
      refine ⟨by rw [d9]; exact mi_ix_nI n24 (by omega), fun δ10 e10 δ11 e11' => ?_⟩
      rw [d9, nI_clamp (by omega)] at e10
      have d10 : δ10.1 48 11 = s.1 48 11 := by rw [e10, e11]; exact d9
      rw [d10] at e11'
      have G11 : Agr (do_period s a) δ11 := by
        subst e11' e10 e9
        exact ((G7.sA _ _ _).sA _ _ _).sI _ _ _
      have F11 : Fr [(48, 11)] [56, 57] [] δ7 δ11 := by
        subst e11' e10 e9
        exact ((Fr.setA (by decide)).tr (Fr.setA (by decide))).xI (by decide)
      have ks : Kp [(48,0),(48,1),(48,2),(48,10),(48,12),(48,15),(48,24),(48,30),(48,31),(48,32),(48,36)] [49,50,51,52,53,54,58,59,60,61,62,63,64,66,70,72] pmL s (do_period s a) := ((Kp.setA (by decide)).tr (Kp.setA (by decide))).tr (Kp.setI (by decide))
      refine cm_write (by omega) G11 (W.2.2.2.2.1.m (ks.wk (by decide) (by decide) (by decide))) (X7'.fr F11 (by decide) (by decide)) (by omega) (room_m (ks.wk (by decide) (by decide) (by decide)) hm) (fun δ12 G12 F12 => ?_)
      have d12 : δ12.1 48 11 - 1 = s.1 48 11 := by
        rw [F12.1 _ _ (by decide), e11', pI_f, if_pos ⟨rfl, rfl⟩, e11, nI_1, nI_pred]
      rw [d12]
      exact kk δ12 G12 ((K7.tr (F11.kp (by decide) (by decide) (by decide))).tr (F12.kp (by decide) (by decide) (by decide)))
  · have hr : rf_period s a = -3 := by unfold rf_period; rw [e11, if_pos h]
    rw [gate_ref hup (by rw [hr]; decide), hr] at kk
    exact kk δ G Kp.rf
theorem cm_owner (hd : 8 ≤ d) (G : Agr s δ) (W : Wf s) {a : Int32} {Q : Int32 → mi_D → Prop}
    (kk : ∀ δ', Agr (A_owner s a).2 δ' → KC δ δ' → Q (A_owner s a).1 δ') : mi_wI N d 161 0 [.ref 48, .int a, .null] [] δ Q := by
  unfold A_owner at kk
  have e0 : δ.1 48 0 = s.1 48 0 := G.1 (48, 0) (by decide)
  refine q12_owner_0 (by omega) ?_
  rw [e0]
  refine ⟨fun h => ?_, fun hup => cm_isAccount (by omega) G W.1 (bI_br (fun h => ?_) (fun h => ?_))⟩
  · rw [gate_down h] at kk
    exact kk δ G Kp.rf
  · have hr : rf_owner s a = -2 := by unfold rf_owner; rw [if_pos h]
    rw [gate_ref hup (by rw [hr]; decide), hr] at kk
    exact kk δ G Kp.rf
  · obtain ⟨j, hj, ej, ec, hx, hat⟩ := at_ac W.1 h
    rw [ec, G.2.1 52 (by decide), G.2.1 50 (by decide)]
    refine ⟨hx, fun h2 => ⟨hx, fun h3 => ?_, fun h3 => ?_⟩, fun h2 => ?_⟩
    · have hr : rf_owner s a = 0 := by unfold rf_owner; rw [if_neg (fun q => q h), hat, hat, if_pos ⟨h2, h3⟩]
      refine cm_begin (by omega) (fun δ3 X3 f3 => cm_say (by omega) X3 (by show 0 + 10 ≤ 300; omega) (fun δ7 X7 f4 => ?_))
      have F7 : Fr [(48, 34)] [71] [] δ δ7 := (f3.wk (by decide) (by decide) (by decide)).tr f4
      have X7' : Bm δ7 (encI a) := X7
      have l1 := encI_len a
      have G7 : Agr s δ7 := G.fr F7 (by decide) (by decide) (by decide)
      have K7 : KC δ δ7 := F7.kp (by decide) (by decide) (by decide)
      refine cm_hasRoom (by omega) G7 W.2.2.2.2.1 X7' (by omega) (bI_br (fun hm => ?_) (fun hm => ?_))
      · rw [gate_full hup hr hm] at kk
        exact kk δ7 G7 K7
      · rw [gate_ok hup hr hm] at kk
        intro x7 e7 δ8 e8
        rw [G7.1 (48, 10) (by decide)] at e7
        subst e7
        have G8 : Agr (mi_setI s 48 10 a) δ8 := by rw [e8]; exact G7.sI _ _ _
        have F8 : Fr [(48, 10)] [] [] δ7 δ8 := by rw [e8]; exact Fr.setI (by decide)
        have ks : Kp [(48,0),(48,1),(48,2),(48,11),(48,12),(48,15),(48,24),(48,30),(48,31),(48,32),(48,36)] pmA pmL s (mi_setI s 48 10 a) := Kp.setI (by decide)
        exact cm_write (by omega) G8 (W.2.2.2.2.1.m (ks.wk (by decide) (by decide) (by decide))) (X7'.fr F8 (by decide) (by decide)) (by omega) (room_m (ks.wk (by decide) (by decide) (by decide)) hm) (fun δ9 G9 F9 => kk δ9 G9 ((K7.tr (F8.kp (by decide) (by decide) (by decide))).tr (F9.kp (by decide) (by decide) (by decide))))
    · have hr : rf_owner s a = -4 := by unfold rf_owner; rw [if_neg (fun q => q h), hat, hat, if_neg (fun q => h3 q.2)]
      rw [gate_ref hup (by rw [hr]; decide), hr] at kk
      exact kk δ G Kp.rf
    · have hr : rf_owner s a = -4 := by unfold rf_owner; rw [if_neg (fun q => q h), hat, hat, if_neg (fun q => h2 q.1)]
      rw [gate_ref hup (by rw [hr]; decide), hr] at kk
      exact kk δ G Kp.rf
theorem c_inW {v m : Int64} (hd : 5 ≤ d) {p1 : Int64} (e1 : p1 = -m) {Q : Int32 → mi_D → Prop} (k : Q (bI (wtn v m)) δ) : mi_wI N d 148 0 [.long v, .null, .long p1, .null, .long m, .null] [] δ Q := by
  subst e1
  refine c_in hd (fun h1 h2 => ?_) (fun h => ?_)
  · rwa [bI_1 ⟨h1, h2⟩] at k
  · rwa [bI_0 (fun q => h.elim q.1 q.2)] at k
theorem cm_line (hd : 8 ≤ d) (G : Agr s δ) (W : Wf s) {a : Int32} {v : Int64} {Q : Int32 → mi_D → Prop}
    (kk : ∀ δ', Agr (A_line s a v).2 δ' → KC δ δ' → Q (A_line s a v).1 δ') : mi_wI N d 162 0 [.ref 48, .int a, .long v, .null] [] δ Q := by
  unfold A_line at kk
  have h8 := W.2.2.2.1.1.2
  have e24 : s.1 48 24 = nI (nN s 24) := W.2.2.2.1.1.1
  have d24 : δ.1 48 24 = nI (nN s 24) := (G.1 (48, 24) (by decide)).trans e24
  have e0 : δ.1 48 0 = s.1 48 0 := G.1 (48, 0) (by decide)
  refine q12_line_0 (by omega) ?_
  rw [e0]
  refine ⟨fun h => ?_, fun hup => cm_isAccount (by omega) G W.1 (bI_br (fun h => ?_) (fun h => ?_))⟩
  · rw [if_pos h] at kk
    exact kk δ G Kp.rf
  · have hr : rf_line s a v = -2 := by unfold rf_line; rw [if_pos h]
    rw [if_neg hup, if_pos (by rw [hr]; decide), hr] at kk
    exact kk δ G Kp.rf
  · obtain ⟨j, hj, ej, ec, hx, hat⟩ := at_ac W.1 h
    have e52 : δ.2.1 52 = s.2.1 52 := G.2.1 52 (by decide)
    rw [ec]
    refine ⟨fun hz => ?_, fun hz => c_inW (by omega) (by decide) (bI_br (fun hw => ?_) (fun hw => ⟨hx, fun h2 => ⟨fun q => ?_, fun q => ?_⟩, fun h2 => ?_⟩))⟩
    · have hr : rf_line s a v = -3 := by unfold rf_line; rw [if_neg (fun q => q h), if_pos (Or.inl (zc_eq.mp hz))]
      rw [if_neg hup, if_pos (by rw [hr]; decide), hr] at kk
      exact kk δ G Kp.rf
    · have hr : rf_line s a v = -3 := by unfold rf_line; rw [if_neg (fun q => q h), if_pos (Or.inr hw)]
      rw [if_neg hup, if_pos (by rw [hr]; decide), hr] at kk
      exact kk δ G Kp.rf
    · rw [e52] at h2
      have hr : rf_line s a v = 0 := by unfold rf_line; rw [if_neg (fun q => q h), if_neg (fun q => q.elim (fun z => hz (zc_eq.mpr z)) (fun z => z hw)), hat, if_pos h2]
      rw [d24] at q
      have q8 : ¬ s.1 48 24 < 8 := by rw [e24]; exact (nI_eqv (m := 8) h8 (by omega)).mp q
      rw [if_neg hup, if_neg (fun z => z hr), if_pos q8] at kk
      exact kk δ G Kp.rf
    · rw [e52] at h2
      have hr : rf_line s a v = 0 := by unfold rf_line; rw [if_neg (fun q => q h), if_neg (fun q => q.elim (fun z => hz (zc_eq.mpr z)) (fun z => z hw)), hat, if_pos h2]
      rw [d24] at q ⊢
      have n8 : nN s 24 < 8 := by
        rcases Nat.lt_or_eq_of_le h8 with z | z
        · exact z
        · exact absurd (by rw [z]; rfl) q
      have q8 : s.1 48 24 < 8 := by rw [e24]; exact nI_lt (b := 8) n8 (by omega)
      rw [if_neg hup, if_neg (fun z => z hr), if_neg (fun z => z q8)] at kk
      refine ⟨mi_ix_nI n8 (by omega), fun δ5 e5 => ?_⟩
      rw [nI_clamp (by omega)] at e5
      have d5 : δ5.1 48 24 = nI (nN s 24) := by rw [e5]; exact d24
      refine ⟨by rw [d5]; exact mi_ix_nI n8 (by omega), fun δ6 e6 δ7 e7 => ?_⟩
      rw [d5, nI_clamp (by omega)] at e6
      have d6 : δ6.1 48 24 = s.1 48 24 := by rw [e6, e24]; exact d5
      rw [d6] at e7
      have d7 : δ7.1 48 24 = s.1 48 24 + 1 := by rw [e7, pI_f, if_pos ⟨rfl, rfl⟩]
      rw [d7]
      subst e7 e6 e5
      exact kk _ (((G.sA _ _ _).sL _ _ _).sI _ _ _) (((Kp.setA (by decide)).tr (Kp.setL (by decide))).tr (Kp.setI (by decide)))
    · rw [e52] at h2
      have hr : rf_line s a v = -4 := by unfold rf_line; rw [if_neg (fun q => q h), if_neg (fun q => q.elim (fun z => hz (zc_eq.mpr z)) (fun z => z hw)), hat, if_neg h2]
      rw [if_neg hup, if_pos (by rw [hr]; decide), hr] at kk
      exact kk δ G Kp.rf
theorem cm_drop (hd : 8 ≤ d) (G : Agr s δ) {Q : Int32 → mi_D → Prop}
    (kk : ∀ δ', Agr (A_drop s).2 δ' → KC δ δ' → Q (A_drop s).1 δ') : mi_wI N d 163 0 [.ref 48, .null] [] δ Q := by
  unfold A_drop at kk
  have e0 : δ.1 48 0 = s.1 48 0 := G.1 (48, 0) (by decide)
  refine q12_drop_0 (by omega) ?_
  rw [e0]
  refine ⟨fun h => ?_, fun hup x1 e1 δ2 e2 => ?_⟩
  · rw [if_pos h] at kk
    exact kk δ G Kp.rf
  · rw [if_neg hup] at kk
    rw [G.1 (48, 24) (by decide)] at e1
    subst e1 e2
    exact kk _ (G.sI _ _ _) (Kp.setI (by decide))
end CMC
