theorem rf_unj_0 {s : mi_D} {l : Ln} (h : rf_unj s l = 0) : ¬ over s l ∧ (0 < l.1 → s.1 48 15 < 400) := by
  unfold rf_unj at h
  split at h
  · exact absurd h (by decide)
  · next h1 =>
    split at h
    · exact absurd h (by decide)
    · next h2 => exact ⟨h1, fun q => Decidable.not_not.mp (fun z => h2 ⟨q, z⟩)⟩
theorem rf_unj_n {s : mi_D} {l : Ln} (h : ¬ rf_unj s l = 0) : rf_unj s l < -2 := by
  unfold rf_unj at *
  split at h
  · next h1 => rw [if_pos h1]; decide
  · next h1 =>
    rw [if_neg h1]
    split at h
    · next h2 => rw [if_pos h2]; decide
    · exact absurd rfl h
theorem rf_judge_0 {s : mi_D} {l : Ln} {dy : Int32} (h : rf_judge s l dy = 0) : 2 ≤ l.1 ∧ s.1 48 15 < 400 := by
  unfold rf_judge at h
  split at h
  · exact absurd h (by decide)
  · next h1 =>
    split at h
    · exact absurd h (by decide)
    · split at h
      · exact absurd h (by decide)
      · split at h
        · exact absurd h (by decide)
        · split at h
          · exact absurd h (by decide)
          · exact ⟨by omega, (rf_unj_0 h).2 (by omega)⟩
theorem rf_judge_n {s : mi_D} {l : Ln} {dy : Int32} (h : ¬ rf_judge s l dy = 0) : rf_judge s l dy < -2 := by
  unfold rf_judge at *
  split at h
  · next q => rw [if_pos q]; decide
  · next q =>
    rw [if_neg q]
    split at h
    · next q => rw [if_pos q]; decide
    · next q =>
      rw [if_neg q]
      split at h
      · next q => rw [if_pos q]; decide
      · next q =>
        rw [if_neg q]
        split at h
        · next q => rw [if_pos q]; decide
        · next q =>
          rw [if_neg q]
          split at h
          · next q => rw [if_pos q]; decide
          · next q => rw [if_neg q]; exact rf_unj_n h
theorem i32_ltn {x : Int32} (h : x < -2) : x < 0 := by
  rw [Int32.lt_iff_toInt_lt] at *
  have e : (-2 : Int32).toInt = -2 := by decide
  have e0 : (0 : Int32).toInt = 0 := by decide
  omega
def encLi (l : Ln) : Nat → List Int32 := itN (fun i B => B ++ (encI (l.2.1 i) ++ enc (l.2.2 i))) []
theorem encLi_len (l : Ln) (i : Nat) : (encLi l i).length ≤ 20 * i := by
  induction i with
  | zero => exact Nat.le_refl _
  | succ i ih =>
    show (encLi l i ++ (encI (l.2.1 i) ++ enc (l.2.2 i))).length ≤ _
    rw [List.length_append, List.length_append]
    have := encI_len (l.2.1 i)
    have := enc_len (l.2.2 i)
    omega
theorem den_k {s : mi_D} {l : Ln} {dy t so sr : Int32} : Kp [(48,0),(48,1),(48,2),(48,10),(48,11),(48,12),(48,24),(48,30),(48,31),(48,32),(48,36)] [49,50,51,52,53,54,56,57,66,70,72] [67] s (do_enter s l dy t so sr) := by
  unfold do_enter
  exact (((((((((Kp.setA (by decide)).tr (Kp.setA (by decide))).tr (Kp.setA (by decide))).tr (Kp.setA (by decide))).tr (Kp.setA (by decide))).tr (Kp.setA (by decide))).tr (Kp.rowA (by decide))).tr (Kp.rowL (by decide))).tr (Kp.rowL (by decide))).tr (Kp.setI (by decide))
theorem cc_commitF {N d : Nat} {δ δ7 s : mi_D} {B : List Int32} {what : Int32} (hd : 6 ≤ d) (H : Abs δ s) (W : Wf s) (h1 : s.1 48 1 = 0) (f : Fr [(28, 2), (28, 3)] [30] [] δ δ7) (X : Bd δ7 B) (hB : B.length ≤ 255) (hw : δ7.1 28 3 = what) {Q : Int32 → mi_D → Prop}
    (k1 : room s B → ∀ δ', AbA δ' s → AbP δ' s → AbE δ' s → AbJ δ' (jot s what B) → AbD δ' s → AbS δ' s → KX δ δ' → Fr [(28, 4), (28, 6)] [29] [] δ7 δ' → Q 1 δ') (k0 : ¬ room s B → Abs δ7 s → KX δ δ7 → Q 0 δ7) : mi_wI N d 54 0 [.ref 28, .null, .null] [] δ7 Q := by
  have H7 : Abs δ7 s := H.c (f.kp (by decide) (by decide) (by decide))
  refine cc_write hd H7.2.2.2.1 W.2.2.2.2.1 h1 X hB hw (fun hm δ8 J8 f8 => k1 hm δ8 (H7.1.c (f8.kp (by decide) (by decide) (by decide))) (H7.2.1.c (f8.kp (by decide) (by decide) (by decide))) (H7.2.2.1.c (f8.kp (by decide) (by decide) (by decide))) J8 (H7.2.2.2.2.1.c (f8.kp (by decide) (by decide) (by decide))) (H7.2.2.2.2.2.c (f8.kp (by decide) (by decide) (by decide))) ((f.kp (by decide) (by decide) (by decide)).tr (f8.kp (by decide) (by decide) (by decide))) f8) (fun hm => k0 hm H7 (f.kp (by decide) (by decide) (by decide)))
section CWP
variable {N d ln la lb lim : Nat} {δ s : mi_D} {l : Ln}
theorem cp_writePlain (hd : 10 ≤ d) (hl : mi_Ls ln la lb lim) (H : Abs δ s) (h1 : s.1 48 1 = 0) (hup : ¬ s.1 48 0 = 0) (W : Wf s) (X : Lx δ ln la lb l) (hb : l.1 ≤ 8) (hA : LnA (nN s 2) l) {dy t : Int32} {Q : Int32 → mi_D → Prop}
    (kk : ∀ δ', Abs δ' (undraft (A_posted s l dy t)).2 → KX δ δ' → Q (undraft (A_posted s l dy t)).1 δ') : mi_wI N d 140 0 [.ref 2, .ref ln, .int dy, .int t, .null, .null] [] δ Q := by
  have hne : (ln, 2) ∉ [(28, 2), (28, 3)] ∧ la ≠ 30 ∧ la ≠ 29 ∧ lb ≠ 27 := by rcases hl with ⟨rfl, rfl, rfl, _⟩ | ⟨rfl, rfl, rfl, _⟩ | ⟨rfl, rfl, rfl, _⟩ <;> decide
  have hA60 : LnA 60 l := fun i hi => by obtain ⟨a, ha, e⟩ := hA i hi; have := W.1.1.2; exact ⟨a, by omega, e⟩
  unfold A_posted at kk
  refine q11_writePlain_0 (by omega) hl (cc_judge (by omega) hl H.1 H.2.1 W.2.1 H.2.2.1.1 X (by omega) hA60 (fun δ1 f1 => ⟨fun hr => ?_, fun hr => ?_⟩))
  · have hn := rf_judge_0 hr
    have H1 : Abs δ1 s := H.c (f1.kp (by decide) (by decide) (by decide))
    have K1 : KX δ δ1 := f1.kp (by decide) (by decide) (by decide)
    have X1 : Lx δ1 ln la lb l := X.fr f1 List.not_mem_nil List.not_mem_nil (by simp [hne.2.2.2])
    have hn400 : nN s 15 < 400 := by
      have q := hn.2
      rw [W.2.2.1.1.1] at q
      exact (nI_ltI (b := 400) (by have := W.2.2.1.1.2; omega) (by omega)).mp q
    have Xf : ∀ δ', Fr [(28, 2), (28, 3)] [30] [] δ1 δ' → Lx δ' ln la lb l := fun δ' f => X1.fr f hne.1 (by simp [hne.2.1]) List.not_mem_nil
    refine cc_begin (by omega) (fun δ3 X3 w3 f3 => cc_number (by omega) X3 (by show 0 + 10 ≤ 255; omega) (fun δ4 X4 f4 => cc_number (by omega) X4 (by have := enc_len (Int32.toInt64 dy); rw [List.length_append]; show 0 + _ + 10 ≤ 255; omega) (fun δ5 X5 f5 => ?_)))
    have f15 : Fr [(28, 2), (28, 3)] [30] [] δ1 δ5 := (f3.wk (by decide) (by decide) (by decide)).tr ((f4.wk (by decide) (by decide) (by decide)).tr (f5.wk (by decide) (by decide) (by decide)))
    rw [(Xf δ5 f15).1]
    refine cc_number (by omega) X5 (by have := enc_len (Int32.toInt64 dy); have := enc_len (Int32.toInt64 t); rw [List.length_append, List.length_append]; show 0 + _ + _ + 10 ≤ 255; omega) (fun δ6 X6 f6 => ?_)
    have w6 : δ6.1 28 3 = 5 := by rw [f6.1 _ _ (by decide), f5.1 _ _ (by decide), f4.1 _ _ (by decide)]; exact w3
    have f16 : Fr [(28, 2), (28, 3)] [30] [] δ1 δ6 := f15.tr (f6.wk (by decide) (by decide) (by decide))
    have X6' : Bd δ6 (encI dy ++ encI t ++ encI (nI l.1) ++ encLi l 0) := by
      have e : encI dy ++ encI t ++ encI (nI l.1) ++ encLi l 0 = [] ++ enc (Int32.toInt64 dy) ++ enc (Int32.toInt64 t) ++ enc (Int32.toInt64 (nI l.1)) := by
        show encI dy ++ encI t ++ encI (nI l.1) ++ [] = _
        rw [List.append_nil]
        rfl
      rw [e]
      exact X6
    have hlen : ∀ i, i ≤ l.1 → (encI dy ++ encI t ++ encI (nI l.1) ++ encLi l i).length ≤ 30 + 20 * i := fun i hi => by
      have := encI_len dy
      have := encI_len t
      have := encI_len (nI l.1)
      have := encLi_len l i
      rw [List.length_append, List.length_append, List.length_append]
      omega
    suffices loop : ∀ i, i ≤ l.1 → ∀ δ7, Bd δ7 (encI dy ++ encI t ++ encI (nI l.1) ++ encLi l i) → Fr [(28, 2), (28, 3)] [30] [] δ1 δ7 → δ7.1 28 3 = 5 → mi_wI N d 140 60 [.ref 2, .ref ln, .int dy, .int t, .int (rf_judge s l dy), .int (nI i)] [] δ7 Q by
      have e := loop 0 (by omega) δ6 X6' f16 w6
      rwa [nI_0] at e
    intro i hi
    refine up_ind (P := fun i => ∀ δ7, Bd δ7 (encI dy ++ encI t ++ encI (nI l.1) ++ encLi l i) → Fr [(28, 2), (28, 3)] [30] [] δ1 δ7 → δ7.1 28 3 = 5 → mi_wI N d 140 60 [.ref 2, .ref ln, .int dy, .int t, .int (rf_judge s l dy), .int (nI i)] [] δ7 Q) ?_ ?_ hi
    · intro δ7 X7 f7 w7
      refine q11_writePlain_60 (by omega) hl (brF (by rw [(Xf δ7 f7).1]; exact nI_nlt (by omega) (by omega)) ?_)
      have X7' : Bd δ7 (encI dy ++ encI t ++ encI (nI l.1) ++ encLs l) := X7
      refine cc_commitF (by omega) H1 W h1 f7 X7' (by have := hlen l.1 (Nat.le_refl _); show (encI dy ++ encI t ++ encI (nI l.1) ++ encLi l l.1).length ≤ 255; omega) (what := 5) w7 (fun hm δ8 A8 P8 E8 J8 D8 S8 K8 f8 => br1 ?_) (fun hm H7 K7 => br0 ?_)
      · rw [gate_ok hup hr hm] at kk
        have X8 : Lx δ8 ln la lb l := (Xf δ7 f7).fr f8 (by rcases hl with ⟨rfl, _⟩ | ⟨rfl, _⟩ | ⟨rfl, _⟩ <;> decide) (by simp [hne.2.2.1]) List.not_mem_nil
        refine cc_enter (by omega) hl A8 E8 W.1 W.2.2.1 hn400 X8 (by omega) hA (fun δ9 A9 E9 f9 => cc_lclear (by omega) (Or.inr (Or.inl ⟨rfl, rfl, rfl, rfl⟩)) ?_)
        have e15 : ¬ s.1 48 15 < 0 := by rw [W.2.2.1.1.1]; exact nI_pos (by omega)
        unfold undraft at kk
        rw [if_neg e15] at kk
        have kz : Kp [(48,0),(48,1),(48,2),(48,10),(48,11),(48,12),(48,15),(48,30),(48,31),(48,32),(48,36)] pmA pmL (jot (do_enter s l dy t 0 (-1)) 5 (encI dy ++ encI t ++ encI (nI l.1) ++ encLs l)) (mi_setI (jot (do_enter s l dy t 0 (-1)) 5 (encI dy ++ encI t ++ encI (nI l.1) ++ encLs l)) 48 24 0) := Kp.setI (by decide)
        have HH : Abs δ9 (jot (do_enter s l dy t 0 (-1)) 5 (encI dy ++ encI t ++ encI (nI l.1) ++ encLs l)) := abs_jot A9 ((P8.c (f9.kp (by decide) (by decide) (by decide))).m (den_k.wk (by decide) (by decide) (by decide))) E9 (J8.c (f9.kp (by decide) (by decide) (by decide))) ((D8.c (f9.kp (by decide) (by decide) (by decide))).m (den_k.wk (by decide) (by decide) (by decide))) ((S8.c (f9.kp (by decide) (by decide) (by decide))).m (den_k.wk (by decide) (by decide) (by decide))) (den_k.wk (by decide) (by decide) (by decide))
        refine kk _ ⟨(HH.1.c (Kp.setI (by decide))).m (kz.wk (by decide) (by decide) (by decide)), (HH.2.1.c (Kp.setI (by decide))).m (kz.wk (by decide) (by decide) (by decide)), (HH.2.2.1.c (Kp.setI (by decide))).m (kz.wk (by decide) (by decide) (by decide)), (HH.2.2.2.1.c (Kp.setI (by decide))).m (kz.wk (by decide) (by decide) (by decide)), ⟨rfl, HH.2.2.2.2.1.2.1, HH.2.2.2.2.1.2.2⟩, (HH.2.2.2.2.2.c (Kp.setI (by decide))).m (kz.wk (by decide) (by decide) (by decide))⟩ (((K1.tr K8).tr (f9.kp (by decide) (by decide) (by decide))).tr (Kp.setI (by decide)))
      · rw [gate_full hup hr hm] at kk
        unfold undraft at kk
        rw [if_pos (show (-13 : Int32) < 0 from by decide)] at kk
        exact kk δ7 H7 (K1.tr K7)
    · intro i hi ih δ7 X7 f7 w7
      have X7x := Xf δ7 f7
      have hL := hlen i (by omega)
      refine q11_writePlain_60 (by omega) hl (brT (by rw [X7x.1]; exact nI_lt hi (by omega)) ?_)
      rw [mi_at_nI _ _ (by omega), X7x.2.1 i hi]
      refine cc_number (by omega) X7 (by omega) (fun δ8 X8 f8 => ?_)
      have f18 : Fr [(28, 2), (28, 3)] [30] [] δ1 δ8 := f7.tr (f8.wk (by decide) (by decide) (by decide))
      rw [mi_al_nI _ _ (by omega), (Xf δ8 f18).2.2 i hi]
      refine cc_number (by omega) X8 (by have := enc_len (Int32.toInt64 (l.2.1 i)); rw [List.length_append]; omega) (fun δ9 X9 f9 => ?_)
      rw [nI_1]
      refine ih δ9 ?_ (f18.tr (f9.wk (by decide) (by decide) (by decide))) (by rw [f9.1 _ _ (by decide), f8.1 _ _ (by decide)]; exact w7)
      have e : encI dy ++ encI t ++ encI (nI l.1) ++ encLi l (i + 1) = encI dy ++ encI t ++ encI (nI l.1) ++ encLi l i ++ enc (Int32.toInt64 (l.2.1 i)) ++ enc (l.2.2 i) := by
        show encI dy ++ encI t ++ encI (nI l.1) ++ (encLi l i ++ (encI (l.2.1 i) ++ enc (l.2.2 i))) = _
        rw [List.append_assoc, List.append_assoc, List.append_assoc, List.append_assoc, List.append_assoc, List.append_assoc]
        rfl
      rw [e]
      exact X9
  · rw [gate_ref hup hr] at kk
    unfold undraft at kk
    rw [if_pos (i32_ltn (rf_judge_n hr))] at kk
    exact kk δ1 (H.c (f1.kp (by decide) (by decide) (by decide))) (f1.kp (by decide) (by decide) (by decide))
end CWP
