/-! the journal's small calls; what is told (both sides) -/
abbrev LST : Int64 := -9223372036854775808
def A_sync (s : mi_D) : Int32 × mi_D := if s.1 48 0 = 0 then (-6, s) else (s.1 48 30 - s.1 48 31, mi_setI s 48 31 (s.1 48 30))
def kept (s : mi_D) (n : Int32) : Int32 := if s.1 48 30 - s.1 48 31 < n then s.1 48 30 - s.1 48 31 else n
def tear1 (s : mi_D) (n : Int32) : mi_D := mi_setI s 48 30 (s.1 48 31 + kept s n)
def tear (s : mi_D) (n b : Int32) : mi_D := if 0 < kept s n then mi_setA (tear1 s n) 70 (((tear1 s n).1 48 30) - 1).toNatClampNeg ((tear1 s n).2.1 70 (((tear1 s n).1 48 30) - 1).toNatClampNeg ^^^ b) else tear1 s n
def A_crash (s : mi_D) (n b : Int32) : Int32 × mi_D :=
  if n < 0 ∨ b < 0 ∨ 255 < b then (-3, s) else ((tear s n b).1 48 30, mi_setI (mi_setI (mi_setI (tear s n b) 48 24 0) 48 36 0) 48 0 0)
def B_byteAt (s : mi_D) (i : Int32) : Int32 := if inR i (s.1 48 30) then mi_at s 70 i else -2
def B_shown (s : mi_D) (i : Int32) : Int32 := if s.1 48 0 = 0 then -6 else if inR i (s.1 48 36) then mi_at s 72 i else -2
def B_periodOf (s : mi_D) (p w : Int32) : Int32 :=
  if s.1 48 0 = 0 then -6 else if ¬ inR p (s.1 48 11) then -2 else if w = 0 then fday s p else if w = 1 then mi_at s 56 p else if w = 2 then bI (p < s.1 48 12) else if w = 3 then mi_at s 57 p else -3
def B_entry (s : mi_D) (e w : Int32) : Int32 :=
  if s.1 48 0 = 0 then -6 else if ¬ inR e (s.1 48 15) then -2 else if w = 0 then mi_at s 58 e else if w = 1 then mi_at s 59 e else if w = 2 then mi_at s 60 e else if w = 3 then nI (entL s e.toNatClampNeg).1 else if w = 4 then mi_at s 62 e else if w = 5 then mi_at s 63 e else -3
def B_lineOf (s : mi_D) (e i w : Int32) : Int64 :=
  if s.1 48 0 = 0 ∨ ¬ inR e (s.1 48 15) then LST else if ¬ inR i (nI (entL s e.toNatClampNeg).1) then LST else
  if w = 0 then Int32.toInt64 ((entL s e.toNatClampNeg).2.1 i.toNatClampNeg) else if w = 1 then (entL s e.toNatClampNeg).2.2 i.toNatClampNeg else LST
def B_of (s : mi_D) (a w : Int32) : Int32 :=
  if s.1 48 0 = 0 then -6 else if ¬ isAc s a then -2 else if w = 0 then mi_at s 49 a else if w = 1 then mi_at s 50 a else if w = 2 then mi_at s 51 a else if w = 3 then mi_at s 52 a else if w = 4 then mi_at s 54 a else if w = 5 then mi_at s 53 a else if w = 6 then nI (cntL s a.toNatClampNeg (fromN s (nN s 15))) else -3
def B_count (s : mi_D) (w : Int32) : Int32 :=
  if w = 5 then s.1 48 30 else if w = 6 then s.1 48 31 else if w = 7 then s.1 48 32 else if w = 9 then s.1 48 36 else if w = 10 then bI (¬ s.1 48 0 = 0) else
  if w < 0 ∨ 10 < w then -3 else if s.1 48 0 = 0 then -6 else if w = 0 then s.1 48 2 else if w = 1 then s.1 48 11 else if w = 2 then s.1 48 12 else if w = 3 then s.1 48 15 else if w = 4 then s.1 48 24 else s.1 48 10
section CTL
variable {N d : Nat} {δ s : mi_D}
theorem cp_sync (hd : 9 ≤ d) (H : Abs δ s) (U : δ.1 2 7 = s.1 48 0) {Q : Int32 → mi_D → Prop}
    (kk : ∀ δ', Abs δ' (A_sync s).2 → KX δ δ' → Q (A_sync s).1 δ') : mi_wI N d 124 0 [.ref 2] [] δ Q := by
  unfold A_sync at kk
  have J := H.2.2.2.1
  refine q11_sync_0 (by omega) ⟨fun h => ?_, fun h => q4_makeDurable_0 (by omega) (fun x1 e1 δ2 e2 => ?_)⟩
  · rw [if_pos (U ▸ h)] at kk
    exact kk δ H Kp.rf
  · rw [if_neg (fun q => h (U.trans q))] at kk
    rw [J.1] at e2
    rw [J.1, J.2.1] at e1
    subst e1 e2
    have ks : Kp [(48,0),(48,1),(48,2),(48,10),(48,11),(48,12),(48,15),(48,24),(48,30),(48,32),(48,36)] pmA pmL s (mi_setI s 48 31 (s.1 48 30)) := Kp.setI (by decide)
    exact kk _ ⟨(H.1.c (Kp.setI (by decide))).m (ks.wk (by decide) (by decide) (by decide)), (H.2.1.c (Kp.setI (by decide))).m (ks.wk (by decide) (by decide) (by decide)), (H.2.2.1.c (Kp.setI (by decide))).m (ks.wk (by decide) (by decide) (by decide)), ⟨J.1, rfl, J.2.2.1, J.2.2.2⟩, (H.2.2.2.2.1.c (Kp.setI (by decide))).m (ks.wk (by decide) (by decide) (by decide)), (H.2.2.2.2.2.c (Kp.setI (by decide))).m (ks.wk (by decide) (by decide) (by decide))⟩ (Kp.setI (by decide))
theorem cm_sync (hd : 8 ≤ d) (G : Agr s δ) {Q : Int32 → mi_D → Prop}
    (kk : ∀ δ', Agr (A_sync s).2 δ' → KC δ δ' → Q (A_sync s).1 δ') : mi_wI N d 181 0 [.ref 48, .null] [] δ Q := by
  unfold A_sync at kk
  refine q12_sync_0 (by omega) ?_
  rw [G.1 (48, 0) (by decide), G.1 (48, 30) (by decide), G.1 (48, 31) (by decide)]
  refine ⟨fun h => ?_, fun hup x1 e1 δ2 e2 => ?_⟩
  · rw [if_pos h] at kk
    exact kk δ G Kp.rf
  · rw [if_neg hup] at kk
    subst e1 e2
    exact kk _ (G.sI _ _ _) (Kp.setI (by decide))
/-- the journal's sizes -/
theorem jsz {s : mi_D} (W : WfJ s) (n : Int32) : s.1 48 30 = nI (nN s 30) ∧ s.1 48 31 = nI (nN s 31) ∧ s.1 48 30 - s.1 48 31 = nI (nN s 30 - nN s 31) := by
  refine ⟨W.1.1, W.2.1.1, ?_⟩
  have := W.2.2.1
  rw [W.1.1, W.2.1.1]
  exact pk_sub (by omega)
theorem kept_ok {s : mi_D} (W : WfJ s) {n : Int32} (hn : ¬ n < 0) : ∃ k, k ≤ nN s 30 - nN s 31 ∧ kept s n = nI k ∧ (tear1 s n).1 48 30 = nI (nN s 31 + k) := by
  obtain ⟨e1, e2, e3⟩ := jsz W n
  have hb := W.1.2
  have hle := W.2.2.1
  obtain ⟨m, hm, rfl⟩ := nI_of hn
  have h : ∃ k, k ≤ nN s 30 - nN s 31 ∧ kept s (nI m) = nI k := by
    unfold kept
    rw [e3]
    by_cases h : nI (nN s 30 - nN s 31) < nI m
    · exact ⟨_, Nat.le_refl _, if_pos h⟩
    · refine ⟨m, ?_, if_neg h⟩
      rcases Nat.lt_or_ge (nN s 30 - nN s 31) m with z | z
      · exact absurd (nI_lt z hm) h
      · exact z
  obtain ⟨k, hk, ek⟩ := h
  refine ⟨k, hk, ek, ?_⟩
  unfold tear1
  rw [pI_f, if_pos ⟨rfl, rfl⟩, ek, e2, nI_add]
theorem tear_k {s : mi_D} {n b : Int32} : Kp [(48,0),(48,1),(48,2),(48,10),(48,11),(48,12),(48,15),(48,24),(48,31),(48,32),(48,36)] [49,50,51,52,53,54,56,57,58,59,60,61,62,63,64,66,72] pmL s (tear s n b) := by
  unfold tear tear1
  split
  · exact (Kp.setI (by decide)).tr (Kp.setA (by decide))
  · exact Kp.setI (by decide)
theorem cp_crash (hd : 9 ≤ d) (H : Abs δ s) (U : δ.1 2 7 = s.1 48 0) (W : Wf s) {n b : Int32} {Q : Int32 → mi_D → Prop}
    (kk : ∀ δ', Abs δ' (A_crash s n b).2 → δ'.1 2 7 = (A_crash s n b).2.1 48 0 → Kp pmF (0 :: 1 :: pmA) pmL δ δ' → Q (A_crash s n b).1 δ') : mi_wI N d 125 0 [.ref 2, .int n, .int b] [] δ Q := by
  unfold A_crash at kk
  have J := H.2.2.2.1
  have ref : (n < 0 ∨ b < 0 ∨ 255 < b) → Q (-3) δ := fun h => by
    rw [if_pos h] at kk
    exact kk δ H U Kp.rf
  refine q11_crash_0 (by omega) ⟨fun h => ref (Or.inl h), fun h1 => ⟨fun h => ref (Or.inr (Or.inl h)), fun h2 => ⟨fun h => ref (Or.inr (Or.inr h)), fun h3 => q4_tear_0 (by omega) (fun x1 e1 δ2 e2 => ?_)⟩⟩⟩
  rw [if_neg (fun q => q.elim h1 (fun q => q.elim h2 h3))] at kk
  obtain ⟨k, hk, ek, et⟩ := kept_ok W.2.2.2.2.1 h1
  have hb := W.2.2.2.2.1.1.2
  have hle := W.2.2.2.2.1.2.2.1
  rw [J.1, J.2.1] at e1
  have e1' : x1 = kept s n := e1
  rw [e1', J.2.1] at e2
  subst e1'
  have J2 : AbJ δ2 (tear1 s n) := by
    rw [e2]
    exact ⟨by rw [pI_f, if_pos ⟨rfl, rfl⟩]; unfold tear1; rw [pI_f, if_pos ⟨rfl, rfl⟩], J.2.1, J.2.2.1, J.2.2.2⟩
  have F2 : Fr [(28, 4)] [29] [] δ δ2 := by rw [e2]; exact Fr.setI (by decide)
  -- behind the tearing
  have fin : ∀ δ3, AbJ δ3 (tear s n b) → Fr [(28, 4)] [29] [] δ δ3 → (mi_wV N (d - 1) 62 0 [.ref 35] [] δ3 (fun δ2 => (mi_wV N (d - 1) 103 0 [.ref 45] [] δ2 (fun δ3 => (∀ δ4 : mi_D, δ4 = mi_setI δ3 2 7 0 → Q (δ4.1 28 4) δ4))))) := by
    intro δ3 J3 F3
    have H3 : AbA δ3 s ∧ AbP δ3 s ∧ AbE δ3 s ∧ AbD δ3 s ∧ AbS δ3 s := ⟨H.1.c (F3.kp (by decide) (by decide) (by decide)), H.2.1.c (F3.kp (by decide) (by decide) (by decide)), H.2.2.1.c (F3.kp (by decide) (by decide) (by decide)), H.2.2.2.2.1.c (F3.kp (by decide) (by decide) (by decide)), H.2.2.2.2.2.c (F3.kp (by decide) (by decide) (by decide))⟩
    refine cc_lclear (by omega) (Or.inr (Or.inl ⟨rfl, rfl, rfl, rfl⟩)) (q10_clear_0 (by omega) (fun δ5 e5 δ6 e6 => ?_))
    have F6 : Fr [(35, 2), (45, 3), (2, 7)] [] [] δ3 δ6 := by
      rw [e6, e5]
      exact ((Fr.setI (by decide)).xI (by decide)).xI (by decide)
    have ks : Kp [(48,1),(48,2),(48,10),(48,11),(48,12),(48,15),(48,31),(48,32),(48,30)] pmA pmL (tear s n b) (mi_setI (mi_setI (mi_setI (tear s n b) 48 24 0) 48 36 0) 48 0 0) := ((Kp.setI (by decide)).tr (Kp.setI (by decide))).tr (Kp.setI (by decide))
    have kt := @tear_k s n b
    have key := kk δ6 ⟨((H3.1.c (F6.kp (by decide) (by decide) (by decide))).m (kt.wk (by decide) (by decide) (by decide))).m (ks.wk (by decide) (by decide) (by decide)), ((H3.2.1.c (F6.kp (by decide) (by decide) (by decide))).m (kt.wk (by decide) (by decide) (by decide))).m (ks.wk (by decide) (by decide) (by decide)), ((H3.2.2.1.c (F6.kp (by decide) (by decide) (by decide))).m (kt.wk (by decide) (by decide) (by decide))).m (ks.wk (by decide) (by decide) (by decide)), (J3.c (F6.kp (by decide) (by decide) (by decide))).m (ks.wk (by decide) (by decide) (by decide)), ?_, ?_⟩ ?_ ((F3.kp (by decide) (by decide) (by decide)).tr (F6.kp (by decide) (by decide) (by decide)))
    · have e4 : δ6.1 28 4 = (tear s n b).1 48 30 := (F6.1 _ _ (by decide)).trans J3.1
      rw [e4]
      exact key
    · have D3 := (H3.2.2.2.1.m (kt.wk (by decide) (by decide) (by decide)))
      subst e6 e5
      exact ⟨rfl, D3.2.1, D3.2.2⟩
    · have S3 := (H3.2.2.2.2.m (kt.wk (by decide) (by decide) (by decide)))
      subst e6 e5
      exact ⟨rfl, S3.2⟩
    · rw [e6]
      rfl
  rw [J2.1]
  refine ⟨fun h0 δ3 e3 => fin δ3 ?_ ?_, fun h0 => fin δ2 ?_ F2⟩
  · have hk0 : 0 < k := by
      rcases Nat.eq_zero_or_pos k with z | z
      · rw [ek, z] at h0; exact absurd h0 (by decide)
      · exact z
    have ei : (tear1 s n).1 48 30 - 1 = nI (nN s 31 + k - 1) := by
      rw [et]
      obtain ⟨m, em⟩ : ∃ m, nN s 31 + k = m + 1 := ⟨nN s 31 + k - 1, by omega⟩
      rw [em, nI_pred]
      rfl
    unfold tear
    rw [if_pos h0]
    rw [ei, pt_row _ _ _ _ (by omega) (by omega), mi_at_nI _ _ (by omega)] at e3
    rw [ei, nI_clamp (by omega), e3]
    refine ⟨J2.1, J2.2.1, J2.2.2.1, ?_⟩
    rw [rA_a, if_pos rfl, pA_a, if_pos rfl, J2.2.2.2]
  · rw [e3]
    exact F2.tr (Fr.pt (by decide))
  · unfold tear
    rw [if_neg h0]
    exact J2
theorem cm_crash (hd : 8 ≤ d) (G : Agr s δ) (W : Wf s) {n b : Int32} {Q : Int32 → mi_D → Prop}
    (kk : ∀ δ', Agr (A_crash s n b).2 δ' → KC δ δ' → Q (A_crash s n b).1 δ') : mi_wI N d 182 0 [.ref 48, .int n, .int b, .null] [] δ Q := by
  unfold A_crash at kk
  have ref : (n < 0 ∨ b < 0 ∨ 255 < b) → Q (-3) δ := fun h => by
    rw [if_pos h] at kk
    exact kk δ G Kp.rf
  refine q12_crash_0 (by omega) ⟨fun h => ref (Or.inl h), fun h1 => c_inI (lo := 0) (hi := 255) (by omega) rfl rfl (fun a1 a2 => brN (by decide) ?_) (fun h => br0 (ref (Or.inr h)))⟩
  rw [if_neg (fun q => q.elim h1 (fun q => q.elim a1 a2))] at kk
  obtain ⟨k, hk, ek, et⟩ := kept_ok W.2.2.2.2.1 h1
  have hb := W.2.2.2.2.1.1.2
  have hle := W.2.2.2.2.1.2.2.1
  have d30 : δ.1 48 30 = s.1 48 30 := G.1 (48, 30) (by decide)
  have d31 : δ.1 48 31 = s.1 48 31 := G.1 (48, 31) (by decide)
  rw [d30, d31]
  have st : ∀ s0, s0 = kept s n → mi_wI N d 182 45 [.ref 48, .int n, .int b, .null] [.int s0] δ Q := by
    intro s0 e0
    subst e0
    refine q12_crash_45 (by omega) (fun δ1 e1 => ?_)
    rw [d31] at e1
    have G1 : Agr (tear1 s n) δ1 := by rw [e1]; exact G.sI _ _ _
    have K1 : KC δ δ1 := by rw [e1]; exact Kp.setI (by decide)
    have fin : ∀ δ3 x, Agr (tear s n b) δ3 → KC δ δ3 → mi_wI N d 182 84 [.ref 48, .int n, .int b, .int x] [] δ3 Q := by
      intro δ3 x G3 K3
      refine q12_crash_84 (by omega) (fun δ4 e4 δ5 e5 δ6 e6 => ?_)
      subst e6 e5 e4
      have e30 : (mi_setI (mi_setI (mi_setI δ3 48 24 0) 48 36 0) 48 0 0).1 48 30 = (tear s n b).1 48 30 := G3.1 (48, 30) (by decide)
      rw [e30]
      exact kk _ (((G3.sI _ _ _).sI _ _ _).sI _ _ _) (K3.tr (((Kp.setI (by decide)).tr (Kp.setI (by decide))).tr (Kp.setI (by decide))))
    have e30 : δ1.1 48 30 = (tear1 s n).1 48 30 := G1.1 (48, 30) (by decide)
    rw [e30]
    refine ⟨fun h0 => ?_, fun h0 => fin δ1 _ ?_ K1⟩
    · have hk0 : 0 < k := by
        rcases Nat.eq_zero_or_pos k with z | z
        · rw [ek, z] at h0; exact absurd h0 (by decide)
        · exact z
      have ei : (tear1 s n).1 48 30 - 1 = nI (nN s 31 + k - 1) := by
        rw [et]
        obtain ⟨m, em⟩ : ∃ m, nN s 31 + k = m + 1 := ⟨nN s 31 + k - 1, by omega⟩
        rw [em, nI_pred]
        rfl
      have hx : mi_ix ((tear1 s n).1 48 30 - 1) 6000 = true := by rw [ei]; exact mi_ix_nI (by omega) (by omega)
      refine ⟨hx, hx, fun δ2 e2 => fin δ2 _ ?_ ?_⟩
      · unfold tear
        rw [if_pos h0, e2, G1.2.1 70 (by decide)]
        exact G1.sA _ _ _
      · rw [e2]
        exact K1.tr (Kp.setA (by decide))
    · unfold tear
      rw [if_neg h0]
      exact G1
  exact ⟨fun h => st _ (by unfold kept; rw [if_pos h]), fun h => st _ (by unfold kept; rw [if_neg h])⟩
/-! single numbers -/
theorem cp_byteAt (hd : 5 ≤ d) (H : Abs δ s) {i : Int32} {Q : Int32 → mi_D → Prop} (k : Q (B_byteAt s i) δ) : mi_wI N d 127 0 [.ref 2, .int i] [] δ Q := by
  have J := H.2.2.2.1
  unfold B_byteAt at k
  refine q11_byteAt_0 hd ⟨fun h => ?_, fun h => ?_⟩
  · rwa [if_neg (fun q => q.1 h)] at k
  · rw [J.1, at_c J.2.2.2]
    exact ⟨fun h2 => by rwa [if_pos ⟨h, h2⟩] at k, fun h2 => by rwa [if_neg (fun q => h2 q.2)] at k⟩
theorem in_at {s δ : mi_D} {r m lim n : Nat} {i : Int32} (hd : 6 ≤ d) (e : δ.1 48 m = nI n) (hn : n ≤ lim) (hl : lim < 2 ^ 31) (er : δ.2.1 r = s.2.1 r) {Q : Int32 → mi_D → Prop} {x : Int32} (k1 : inR i (nI n) → Q (mi_at s r i) δ) (k0 : ¬ inR i (nI n) → Q x δ) :
    mi_wI N (d - 1) 148 0 [.long (Int32.toInt64 i), .null, .long 0, .null, .long (Int32.toInt64 ((δ.1 48 m) - 1)), .null] [] δ (fun r2 δ1 => ((r2 = 0 → Q x δ1) ∧ (¬ r2 = 0 → (mi_ix i lim = true ∧ Q (δ1.2.1 r (Int32.toNatClampNeg i)) δ1)))) := by
  refine c_inN (by omega) (n := n) (by omega) e (fun h => brN (by decide) ?_) (fun h => br0 (k0 (fun q => h ((inR_nI (by omega)).mp q))))
  have h' := (inR_nI (by omega)).mpr h
  obtain ⟨j, hj, ej⟩ := h
  have k := k1 h'
  rw [ej, mi_at_nI _ _ (by omega)] at k
  rw [ej, nI_clamp (by omega), er]
  exact ⟨mi_ix_nI (by omega) hl, k⟩
theorem cm_byteAt (hd : 6 ≤ d) (G : Agr s δ) (W : WfJ s) {i : Int32} {Q : Int32 → mi_D → Prop} (k : Q (B_byteAt s i) δ) : mi_wI N d 191 0 [.ref 48, .int i] [] δ Q := by
  unfold B_byteAt at k
  rw [W.1.1] at k
  exact q12_byteAt_0 (by omega) (in_at hd ((G.1 (48, 30) (by decide)).trans W.1.1) W.1.2 (by omega) (G.2.1 70 (by decide)) (fun h => by rwa [if_pos h] at k) (fun h => by rwa [if_neg h] at k))
theorem cp_shown (hd : 5 ≤ d) (H : Abs δ s) (U : δ.1 2 7 = s.1 48 0) {i : Int32} {Q : Int32 → mi_D → Prop} (k : Q (B_shown s i) δ) : mi_wI N d 136 0 [.ref 2, .int i] [] δ Q := by
  have S := H.2.2.2.2.2
  unfold B_shown at k
  refine q11_shown_0 hd ⟨fun h => ?_, fun h => ?_⟩
  · rwa [if_pos (U ▸ h)] at k
  · rw [if_neg (fun q => h (U.trans q))] at k
    rw [S.1, at_c S.2]
    refine ⟨fun h => ?_, fun h => ⟨fun h2 => by rwa [if_pos ⟨h, h2⟩] at k, fun h2 => by rwa [if_neg (fun q => h2 q.2)] at k⟩⟩
    rwa [if_neg (fun q => q.1 h)] at k
theorem cm_shown (hd : 6 ≤ d) (G : Agr s δ) (W : WfS s) {i : Int32} {Q : Int32 → mi_D → Prop} (k : Q (B_shown s i) δ) : mi_wI N d 208 0 [.ref 48, .int i] [] δ Q := by
  unfold B_shown at k
  rw [W.1] at k
  refine q12_shown_0 (by omega) ?_
  rw [G.1 (48, 0) (by decide)]
  refine ⟨fun h => by rwa [if_pos h] at k, fun h => ?_⟩
  rw [if_neg h] at k
  exact in_at hd ((G.1 (48, 36) (by decide)).trans W.1) W.2 (by omega) (G.2.1 72 (by decide)) (fun h => by rwa [if_pos h] at k) (fun h => by rwa [if_neg h] at k)
theorem cp_periodOf (hd : 8 ≤ d) (H : Abs δ s) (U : δ.1 2 7 = s.1 48 0) {p w : Int32} {Q : Int32 → mi_D → Prop} (k : Q (B_periodOf s p w) δ) : mi_wI N d 134 0 [.ref 2, .int p, .int w] [] δ Q := by
  have P := H.2.1
  unfold B_periodOf at k
  refine q11_periodOf_0 (by omega) ⟨fun h => by rwa [if_pos (U ▸ h)] at k, fun h => q7_has_0 (by omega) ?_⟩
  rw [if_neg (fun q => h (U.trans q))] at k
  rw [P.1]
  have no : ¬ inR p (s.1 48 11) → Q (-2) δ := fun h => by rwa [if_pos h] at k
  refine ⟨fun h => br0 (no (fun q => q.1 h)), fun h => ⟨fun h2 => brN (by decide) (q7_told_0 (by omega) ?_), fun h2 => br0 (no (fun q => h2 q.2))⟩⟩
  rw [if_neg (fun q => q ⟨h, h2⟩)] at k
  refine ⟨fun q => cc_firstDay (by omega) P (by rwa [if_pos q] at k), fun q => q7_lastDay_0 (by omega) ?_, fun q => ?_, fun q => q7_closingOf_0 (by omega) ?_, fun q0 q1 q2 q3 => by rwa [if_neg q0, if_neg q1, if_neg q2, if_neg q3] at k⟩
  · subst q
    rw [at_c P.2.2.1]
    rwa [if_neg (by decide), if_pos rfl] at k
  · subst q
    rw [P.2.1]
    rw [if_neg (by decide), if_neg (by decide), if_pos rfl] at k
    exact ⟨fun z => by rwa [bI_1 z] at k, fun z => by rwa [bI_0 z] at k⟩
  · subst q
    rw [at_c P.2.2.2.1]
    rwa [if_neg (by decide), if_neg (by decide), if_neg (by decide), if_pos rfl] at k
theorem cm_periodOf (hd : 6 ≤ d) (G : Agr s δ) (W : WfP s) {p w : Int32} {Q : Int32 → mi_D → Prop} (k : Q (B_periodOf s p w) δ) : mi_wI N d 200 0 [.ref 48, .int p, .int w] [] δ Q := by
  have h24 := W.1.2
  unfold B_periodOf at k
  rw [W.1.1] at k
  refine q12_periodOf_0 (by omega) ?_
  rw [G.1 (48, 0) (by decide)]
  refine ⟨fun h => by rwa [if_pos h] at k, fun h => ?_⟩
  rw [if_neg h] at k
  refine c_inN (by omega) (n := nN s 11) (by omega) ((G.1 (48, 11) (by decide)).trans W.1.1) (fun h => brN (by decide) ?_) (fun h => br0 (by rwa [if_pos (fun q => h ((inR_nI (by omega)).mp q))] at k))
  rw [if_neg (fun q => q ((inR_nI (by omega)).mpr h))] at k
  obtain ⟨j, hj, ej⟩ := h
  subst ej
  have hx : mi_ix (nI j) 24 = true := mi_ix_nI (by omega) (by omega)
  rw [mi_at_nI _ _ (by omega), mi_at_nI _ _ (by omega)] at k
  rw [nI_clamp (by omega), G.2.1 56 (by decide), G.2.1 57 (by decide), G.1 (48, 12) (by decide)]
  refine ⟨fun q => cm_firstDay (by omega) G (by omega) (by rwa [if_pos q] at k), fun q => ⟨hx, ?_⟩, fun q => ?_, fun q => ⟨hx, ?_⟩, fun q0 q1 q2 q3 => by rwa [if_neg q0, if_neg q1, if_neg q2, if_neg q3] at k⟩
  · subst q
    rwa [if_neg (by decide), if_pos rfl] at k
  · subst q
    rw [if_neg (by decide), if_neg (by decide), if_pos rfl] at k
    exact ⟨fun z => by rwa [bI_1 z] at k, fun z => by rwa [bI_0 z] at k⟩
  · subst q
    rwa [if_neg (by decide), if_neg (by decide), if_neg (by decide), if_pos rfl] at k
end CTL
