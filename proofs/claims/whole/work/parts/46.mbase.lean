/-! the model: accounts, periods, the owner, lines -/
section AGR
variable {s δ δ' : mi_D}
theorem Agr.fr (G : Agr s δ) {fs : List (Nat × Nat)} {as ls : List Nat} (f : Fr fs as ls δ δ') (h1 : ∀ p, p ∈ pmF → p ∉ fs) (h2 : ∀ a, a ∈ pmA → a ∉ as) (h3 : ∀ a, a ∈ pmL → a ∉ ls) : Agr s δ' := G.tr (f.kp h1 h2 h3)
theorem Agr.sI (G : Agr s δ) (a k : Nat) (v : Int32) : Agr (mi_setI s a k v) (mi_setI δ a k v) := ⟨fun p hp => by
  rw [pI_f, pI_f]
  by_cases q : p.1 = a ∧ p.2 = k
  · rw [if_pos q, if_pos q]
  · rw [if_neg q, if_neg q]; exact G.1 p hp, G.2.1, G.2.2⟩
theorem Agr.sA (G : Agr s δ) (a k : Nat) (v : Int32) : Agr (mi_setA s a k v) (mi_setA δ a k v) := ⟨G.1, fun b hb => by
  rw [pA_a, pA_a]
  by_cases q : b = a
  · subst q; rw [if_pos rfl, if_pos rfl, G.2.1 b hb]
  · rw [if_neg q, if_neg q]; exact G.2.1 b hb, G.2.2⟩
theorem Agr.sL (G : Agr s δ) (a k : Nat) (v : Int64) : Agr (mi_setL s a k v) (mi_setL δ a k v) := ⟨G.1, G.2.1, fun b hb => by
  rw [pL_l, pL_l]
  by_cases q : b = a
  · subst q; rw [if_pos rfl, if_pos rfl, G.2.2 b hb]
  · rw [if_neg q, if_neg q]; exact G.2.2 b hb⟩
theorem Agr.rA (G : Agr s δ) (a : Nat) (f : Nat → Int32) : Agr (rowA s a f) (rowA δ a f) := ⟨G.1, fun b hb => by
  rw [rA_a, rA_a]
  by_cases q : b = a
  · rw [if_pos q, if_pos q]
  · rw [if_neg q, if_neg q]; exact G.2.1 b hb, G.2.2⟩
theorem Agr.rL (G : Agr s δ) (a : Nat) (f : Nat → Int64) : Agr (rowL s a f) (rowL δ a f) := ⟨G.1, G.2.1, fun b hb => by
  rw [rL_l, rL_l]
  by_cases q : b = a
  · rw [if_pos q, if_pos q]
  · rw [if_neg q, if_neg q]; exact G.2.2 b hb⟩
theorem Bm.fr {B : List Int32} (X : Bm δ B) {fs : List (Nat × Nat)} {as ls : List Nat} (f : Fr fs as ls δ δ') (h1 : (48, 34) ∉ fs) (h2 : 71 ∉ as) : Bm δ' B := by
  unfold Bm at *
  rw [f.1 _ _ h1, f.2.1 _ h2]
  exact X
theorem room_m {s' : mi_D} {B : List Int32} (k : Kp [(48,1),(48,30)] [] [] s s') (h : room s B) : room s' B := by
  unfold room nN at *
  rw [k.1 (48, 1) (by decide), k.1 (48, 30) (by decide)]
  exact h
end AGR
theorem i45 {k : Int32} : 4 < k ↔ ¬ k < 5 := by
  rw [Int32.lt_iff_toInt_lt, Int32.lt_iff_toInt_lt]
  have e4 : (4 : Int32).toInt = 4 := by decide
  have e5 : (5 : Int32).toInt = 5 := by decide
  omega
theorem bI_id {x : Int32} (h : x = 0 ∨ x = 1) : bI (x = 1) = x := by
  rcases h with rfl | rfl <;> decide
theorem bI_id2 {x : Int32} (h : x = 0 ∨ x = 1) : bI (¬ x = 0) = x := by
  rcases h with rfl | rfl <;> decide
theorem dep5 {s : mi_D} (W : WfA s) {a : Nat} (ha : a < nN s 2) : ∃ e, e ≤ 5 ∧ s.2.1 53 a = nI e := by
  rcases W.2.2.2 a ha with ⟨_, h⟩ | ⟨b, dd, _, _, _, _, h1, _, h2⟩
  · exact ⟨0, by omega, by rw [h]; exact nI_0.symm⟩
  · exact ⟨dd + 1, by omega, h2⟩
theorem nI_eqv {n m : Nat} (hn : n ≤ m) (hm : m < 2 ^ 31) : nI n = nI m ↔ ¬ nI n < nI m := by
  rw [nI_eq (by omega) hm, nI_ltI (by omega) hm]
  omega
section CMB
variable {N d : Nat} {δ s : mi_D}
theorem cm_isAccount (hd : 6 ≤ d) (G : Agr s δ) (W : WfA s) {p : Int32} {Q : Int32 → mi_D → Prop} (k : Q (bI (isAc s p)) δ) : mi_wI N d 149 0 [.ref 48, .int p] [] δ Q := by
  have h60 := W.1.2
  have e : δ.1 48 2 = nI (nN s 2) := (G.1 (48, 2) (by decide)).trans W.1.1
  have hi : isAc s p ↔ isN (nN s 2) p := by unfold isAc; rw [W.1.1]; exact inR_nI (by omega)
  refine q12_isAccount_0 (by omega) (c_inN (by omega) (n := nN s 2) (by omega) e (fun h => ⟨Or.inr rfl, ?_⟩) (fun h => ⟨Or.inl rfl, ?_⟩))
  · rwa [bI_1 (hi.mpr h)] at k
  · rwa [bI_0 (fun q => h (hi.mp q))] at k
theorem cm_isTold (hd : 5 ≤ d) (G : Agr s δ) (W : WfA s) {c : Int32} {Q : Int32 → mi_D → Prop} (k : Q (bI (∃ j, j < nN s 2 ∧ s.2.1 49 j = c)) δ) : mi_wI N d 156 0 [.ref 48, .int c, .null, .null] [] δ Q := by
  have h60 := W.1.2
  have e : δ.1 48 2 = nI (nN s 2) := (G.1 (48, 2) (by decide)).trans W.1.1
  have e49 : δ.2.1 49 = s.2.1 49 := G.2.1 49 (by decide)
  refine q12_isTold_0 hd ?_
  suffices H : ∀ i, i ≤ nN s 2 → mi_wI N d 156 4 [.ref 48, .int c, .int (bI (∃ j, j < i ∧ s.2.1 49 j = c)), .int (nI i)] [] δ Q by
    have q := H 0 (by omega)
    rwa [nI_0, bI_0 (fun ⟨j, h, _⟩ => Nat.not_lt_zero j h)] at q
  intro i hi
  refine up_ind (P := fun i => mi_wI N d 156 4 [.ref 48, .int c, .int (bI (∃ j, j < i ∧ s.2.1 49 j = c)), .int (nI i)] [] δ Q) ?_ ?_ hi
  · exact q12_isTold_4 hd (brF (by rw [e]; exact nI_nlt (by omega) (by omega)) ⟨bI_01, k⟩)
  · intro i hi ih
    refine q12_isTold_4 hd (brT (by rw [e]; exact nI_lt hi (by omega)) (bI_br (fun h => ⟨mi_ix_nI (by omega) (by omega), ?_⟩) (fun h => ?_)))
    · rw [nI_clamp (by omega), e49, nI_1]
      refine ⟨fun q => ?_, fun q => ?_⟩
      · rwa [bI_1 ⟨i, by omega, q⟩] at ih
      · rwa [bI_0 (fun ⟨j, q1, q2⟩ => by rcases Nat.lt_or_eq_of_le (Nat.lt_succ_iff.mp q1) with z | z; exact h ⟨j, z, q2⟩; subst z; exact q q2)] at ih
    · obtain ⟨j, q1, q2⟩ := h
      rw [bI_1 ⟨j, by omega, q2⟩] at ih
      rw [nI_1]
      exact ih
theorem cm_account (hd : 8 ≤ d) (G : Agr s δ) (W : Wf s) {c k p g : Int32} (hg : g = 0 ∨ g = 1) {Q : Int32 → mi_D → Prop}
    (kk : ∀ δ', Agr (A_account s c k p g).2 δ' → KC δ δ' → Q (A_account s c k p g).1 δ') : mi_wI N d 157 0 [.ref 48, .int c, .int k, .int p, .int g, .null] [] δ Q := by
  have h60 := W.1.1.2
  have e2 : s.1 48 2 = nI (nN s 2) := W.1.1.1
  unfold A_account at kk
  have e0 : δ.1 48 0 = s.1 48 0 := G.1 (48, 0) (by decide)
  refine q12_account_0 (by omega) ?_
  rw [e0]
  refine ⟨fun h => ?_, fun hup => ?_⟩
  · rw [gate_down h] at kk
    exact kk δ G Kp.rf
  have ref : ∀ r, rf_account s c k p = r → ¬ r = 0 → Q r δ := fun r er hr => by
    subst er
    rw [gate_ref hup hr] at kk
    exact kk δ G Kp.rf
  unfold rf_account at ref
  have st90 : ¬ (¬ p = -1 ∧ ¬ isAc s p) → ¬ (c < 1 ∨ 9999 < c ∨ k < 0 ∨ ¬ k < 5) → ¬ (¬ p = -1 ∧ ¬ (mi_at s 52 p = 1 ∧ mi_at s 50 p = k ∧ mi_at s 53 p < 5)) → mi_wI N d 157 90 [.ref 48, .int c, .int k, .int p, .int g, .null] [] δ Q := by
    intro h1 h2 h3
    refine q12_account_90 (by omega) (cm_isTold (by omega) G W.1 (bI_br (fun h4 => ?_) (fun h4 => ref _ (by rw [if_neg h1, if_neg h2, if_neg h3, if_pos h4]) (by decide))))
    have l1 := encI_len c
    have l2 := encI_len k
    have l3 := encI_len p
    have l4 := encI_len (bI (¬ g = 0))
    refine cm_begin (by omega) (fun δ3 X3 f3 => cm_say (by omega) X3 (by show 0 + 10 ≤ 300; omega) (fun δ4 X4 f4 => cm_say (by omega) X4 (by have := enc_len (Int32.toInt64 c); rw [List.length_append]; show 0 + _ + 10 ≤ 300; omega) (fun δ5 X5 f5 => cm_say (by omega) X5 (by have := enc_len (Int32.toInt64 c); have := enc_len (Int32.toInt64 k); rw [List.length_append, List.length_append]; show 0 + _ + _ + 10 ≤ 300; omega) (fun δ6 X6 f6 => ?_))))
    have ff : Fr [(48, 34)] [71] [] δ δ6 := (f3.wk (by decide) (by decide) (by decide)).tr (f4.tr (f5.tr f6))
    have fin : ∀ gg, gg = Int32.toInt64 (bI (¬ g = 0)) → mi_wI N d 157 134 [.ref 48, .int c, .int k, .int p, .int g, .null] [.long gg, .ref 48] δ6 Q := by
      intro gg eg
      subst eg
      refine q12_account_134 (by omega) (cm_say (by omega) X6 (by have := enc_len (Int32.toInt64 c); have := enc_len (Int32.toInt64 k); have := enc_len (Int32.toInt64 p); rw [List.length_append, List.length_append, List.length_append]; show 0 + _ + _ + _ + 10 ≤ 300; omega) (fun δ7 X7 f7 => ?_))
      have X7' : Bm δ7 (encI c ++ encI k ++ encI p ++ encI (bI (¬ g = 0))) := X7
      have F7 := ff.tr f7
      have G7 : Agr s δ7 := G.fr F7 (by decide) (by decide) (by decide)
      have hlen : (encI c ++ encI k ++ encI p ++ encI (bI (¬ g = 0))).length ≤ 255 := by rw [List.length_append, List.length_append, List.length_append]; omega
      have e72 : δ7.1 48 2 = nI (nN s 2) := (G7.1 (48, 2) (by decide)).trans e2
      have K7 : KC δ δ7 := F7.kp (by decide) (by decide) (by decide)
      refine ⟨fun q => ?_, fun q => ?_⟩
      · have r60 : ¬ s.1 48 2 < 60 := by
          rw [e72] at q
          rw [e2, q]
          decide
        have hr : rf_account s c k p = -13 := by
          unfold rf_account
          rw [if_neg h1, if_neg h2, if_neg h3, if_neg h4, if_neg r60]
        rw [gate_ref hup (by rw [hr]; decide), hr] at kk
        exact kk δ7 G7 K7
      · have n60 : nN s 2 < 60 := by
          rw [e72] at q
          rcases Nat.lt_or_eq_of_le h60 with z | z
          · exact z
          · exact absurd (by rw [z]; rfl) q
        have hr : rf_account s c k p = 0 := by
          unfold rf_account
          rw [if_neg h1, if_neg h2, if_neg h3, if_neg h4, if_pos (by rw [e2]; exact nI_lt (b := 60) n60 (by omega))]
        refine cm_hasRoom (by omega) G7 W.2.2.2.2.1 X7' (by omega) (bI_br (fun hm => ?_) (fun hm => ?_))
        · rw [gate_full hup hr hm] at kk
          exact kk δ7 G7 K7
        · rw [gate_ok hup hr hm] at kk
          intro x4 e4
          rw [e72] at e4
          subst e4
          have hix : mi_ix (nI (nN s 2)) 60 = true := mi_ix_nI n60 (by omega)
          rw [nI_clamp (by omega)]
          refine ⟨hix, fun δ8 e8 => ⟨hix, fun δ9 e9 => ⟨hix, fun δ10 e10 => ⟨hix, hg, fun δ11 e11 => ?_⟩⟩⟩⟩
          have G11 : Agr (mi_setA (mi_setA (mi_setA (mi_setA s 49 (nN s 2) c) 50 (nN s 2) k) 51 (nN s 2) p) 52 (nN s 2) (bI (¬ g = 0))) δ11 := by
            rw [bI_id2 hg]
            subst e11 e10 e9 e8
            exact (((G7.sA _ _ _).sA _ _ _).sA _ _ _).sA _ _ _
          have F11 : Fr [] [49, 50, 51, 52] [] δ7 δ11 := by
            subst e11 e10 e9 e8
            exact (((Fr.setA (by decide)).tr (Fr.setA (by decide))).tr (Fr.setA (by decide))).tr (Fr.setA (by decide))
          have st218 : ∀ v, v = (if p = -1 then 0 else mi_at s 53 p + 1) → mi_wI N d 157 218 [.ref 48, .int c, .int k, .int p, .int g, .int (nI (nN s 2))] [.int v, .int (nI (nN s 2)), .ref 53] δ11 Q := by
            intro v ev
            refine q12_account_218 (by omega) ?_
            rw [nI_clamp (by omega)]
            refine ⟨hix, fun δ12 e12 => ⟨hix, fun δ13 e13 => ⟨hix, fun δ14 e14 δ15 e15 => ?_⟩⟩⟩
            have G15 : Agr (do_account s c k p g) δ15 := by
              have e1 : δ14.1 48 2 = s.1 48 2 := by subst e14 e13 e12; exact G11.1 (48, 2) (by decide)
              rw [e1] at e15
              subst e15 e14 e13 e12
              unfold do_account
              rw [← ev]
              exact (((G11.sA _ _ _).sA _ _ _).sL _ _ _).sI _ _ _
            have F15 : Fr [(48, 2)] [53, 54] [55] δ11 δ15 := by
              subst e15 e14 e13 e12
              exact (((Fr.setA (by decide)).tr (Fr.setA (by decide))).tr (Fr.setL (by decide))).xI (by decide)
            have ks : Kp [(48,0),(48,1),(48,10),(48,11),(48,12),(48,15),(48,24),(48,30),(48,31),(48,32),(48,36)] [56,57,58,59,60,61,62,63,64,66,70,72] [65,67] s (do_account s c k p g) := by
              unfold do_account
              exact (((((((Kp.setA (by decide)).tr (Kp.setA (by decide))).tr (Kp.setA (by decide))).tr (Kp.setA (by decide))).tr (Kp.setA (by decide))).tr (Kp.setA (by decide))).tr (Kp.setL (by decide))).tr (Kp.setI (by decide))
            refine cm_write (by omega) G15 (W.2.2.2.2.1.m (ks.wk (by decide) (by decide) (by decide))) ((X7'.fr F11 (by decide) (by decide)).fr F15 (by decide) (by decide)) hlen (room_m (ks.wk (by decide) (by decide) (by decide)) hm) (fun δ16 G16 F16 => ?_)
            rw [← e2]
            exact kk δ16 G16 (((K7.tr (F11.kp (by decide) (by decide) (by decide))).tr (F15.kp (by decide) (by decide) (by decide))).tr (F16.kp (by decide) (by decide) (by decide)))
          refine ⟨fun q => st218 0 (by rw [if_pos q]), fun q => ?_⟩
          have hp : isAc s p := Decidable.not_not.mp (fun z => h1 ⟨q, z⟩)
          have hp2 := hp
          unfold isAc at hp2
          rw [e2] at hp2
          obtain ⟨j, hj, ej⟩ := (inR_nI (by omega)).mp hp2
          refine ⟨by rw [ej]; exact mi_ix_nI (by omega) (by omega), st218 _ ?_⟩
          rw [if_neg q, ej, nI_clamp (by omega), mi_at_nI _ _ (by omega), F11.2.1 53 (by decide), G7.2.1 53 (by decide)]
    refine ⟨fun q => fin 0 (by rw [bI_0 (fun z => z q)]; rfl), fun q => fin 1 (by rw [bI_1 q]; rfl)⟩
  have st26 : ¬ (¬ p = -1 ∧ ¬ isAc s p) → mi_wI N d 157 26 [.ref 48, .int c, .int k, .int p, .int g, .null] [] δ Q := by
    intro h1
    refine q12_account_26 (by omega) (c_inI (lo := 1) (hi := 9999) (by omega) rfl rfl (fun a1 a2 => brN (by decide) (c_inI (lo := 0) (hi := 4) (by omega) rfl rfl (fun a3 a4 => brN (by decide) ?_) (fun a => br0 (ref _ (by rw [if_neg h1, if_pos (Or.inr (Or.inr (a.imp id i45.mp)))]) (by decide))))) (fun a => br0 (ref _ (by rw [if_neg h1, if_pos (a.elim Or.inl (fun z => Or.inr (Or.inl z)))]) (by decide))))
    have h2 : ¬ (c < 1 ∨ 9999 < c ∨ k < 0 ∨ ¬ k < 5) := fun z => z.elim a1 (fun z => z.elim a2 (fun z => z.elim a3 (fun z => a4 (i45.mpr z))))
    refine ⟨fun q => st90 h1 h2 (fun z => z.1 q), fun q => ?_⟩
    have hp : isAc s p := Decidable.not_not.mp (fun z => h1 ⟨q, z⟩)
    have hp2 := hp
    unfold isAc at hp2
    rw [e2] at hp2
    obtain ⟨j, hj, ej⟩ := (inR_nI (by omega)).mp hp2
    obtain ⟨dd, hdd, edd⟩ := dep5 W.1 hj
    have hx : mi_ix p 60 = true := by rw [ej]; exact mi_ix_nI (by omega) (by omega)
    have e52 : mi_at s 52 p = s.2.1 52 j := by rw [ej, mi_at_nI _ _ (by omega)]
    have e50 : mi_at s 50 p = s.2.1 50 j := by rw [ej, mi_at_nI _ _ (by omega)]
    have e53 : mi_at s 53 p = nI dd := by rw [ej, mi_at_nI _ _ (by omega), edd]
    have ec : p.toNatClampNeg = j := by rw [ej, nI_clamp (by omega)]
    rw [ec, G.2.1 52 (by decide), G.2.1 50 (by decide), G.2.1 53 (by decide), edd]
    rw [e52, e50, e53] at ref st90
    refine ⟨hx, fun z => ref _ (by rw [if_neg h1, if_neg h2, if_pos ⟨q, fun y => by rw [z] at y; exact absurd y.1 (by decide)⟩]) (by decide), fun z => ⟨hx, fun z2 => ⟨hx, fun z3 => ref _ (by rw [if_neg h1, if_neg h2, if_pos ⟨q, fun y => by rw [z3] at y; exact absurd y.2.2 (by decide)⟩]) (by decide), fun z3 => st90 h1 h2 (fun y => y.2 ⟨((W.1.2.1 j hj).2.2.1).resolve_left z, z2, ?_⟩)⟩, fun z2 => ref _ (by rw [if_neg h1, if_neg h2, if_pos ⟨q, fun y => z2 y.2.1⟩]) (by decide)⟩⟩
    exact Decidable.not_not.mp (fun w => z3 ((nI_eqv (m := 5) hdd (by omega)).mpr w))
  exact ⟨fun q => st26 (fun z => z.1 q), fun q => cm_isAccount (by omega) G W.1 (bI_br (fun z => ref _ (by rw [if_pos ⟨q, z⟩]) (by decide)) (fun z => st26 (fun y => y.2 z)))⟩
end CMB
