/-! the model: entries written down, posting, turning back -/
theorem ent_comm (S : mi_D) (k : Nat) (v : Int32) (A : Nat → Int32) (B C : Nat → Int64) : mi_setA (rowL (rowL (rowA S 64 A) 65 B) 55 C) 61 k v = rowL (rowL (rowA (mi_setA S 61 k v) 64 A) 65 B) 55 C := by
  refine Prod.ext rfl (Prod.ext (funext fun x => ?_) rfl)
  simp only [pA_a, rL_a, rA_a]
  by_cases h : x = 61
  · subst h
    rw [if_pos rfl, if_neg (by decide), if_neg (by decide), if_pos rfl]
  · rw [if_neg h]
    by_cases h2 : x = 64
    · rw [if_pos h2, if_pos h2]
    · rw [if_neg h2, if_neg h2, if_neg h]
section MEN
variable {N d : Nat} {δ s : mi_D} {l : Ln}
theorem cm_enter (hd : 5 ≤ d) (G : Agr s δ) (W : WfA s) (WE : WfE s) (hn : nN s 15 < 400) (X : Lm δ l) (hb : l.1 ≤ 60) (hA : LnA (nN s 2) l) {dy t so sr : Int32} {Q : Int32 → mi_D → Prop}
    (k : ∀ δ', Agr (do_enter s l dy t so sr) δ' → Fr [(48,15)] [58,59,60,61,62,63,64] [55,65] δ δ' → Q (s.1 48 15) δ') : mi_wI N d 168 0 [.ref 48, .int dy, .int t, .int so, .int sr, .null, .null] [] δ Q := by
  have h60 := W.1.2
  have hf := fromN_le WE _ (Nat.le_refl (nN s 15))
  have e15 : s.1 48 15 = nI (nN s 15) := WE.1.1
  have d15 : δ.1 48 15 = nI (nN s 15) := (G.1 (48, 15) (by decide)).trans e15
  have e61 : s.2.1 61 (nN s 15) = nI (fromN s (nN s 15)) := WE.2.2.1 _ (Nat.le_refl _)
  obtain ⟨f, ef⟩ : ∃ f, fromN s (nN s 15) = f := ⟨_, rfl⟩
  have edo : do_enter s l dy t so sr = mi_setI (rowL (rowL (rowA (mi_setA (mi_setA (mi_setA (mi_setA (mi_setA (mi_setA s 58 (nN s 15) dy) 59 (nN s 15) t) 60 (nN s 15) so) 62 (nN s 15) (-1)) 63 (nN s 15) sr) 61 (nN s 15 + 1) (nI (f + l.1))) 64 (wrN (s.2.1 64) f l.1 l.2.1)) 65 (wrN (s.2.2 65) f l.1 l.2.2)) 55 (itN (fun i b => up1 b (l.2.1 i).toNatClampNeg (b (l.2.1 i).toNatClampNeg + l.2.2 i)) (s.2.2 55) l.1)) 48 15 (s.1 48 15 + 1) := by
    unfold do_enter
    rw [ef]
  rw [ef] at e61 hf
  rw [e15] at k
  obtain ⟨n, en⟩ : ∃ n, nN s 15 = n := ⟨_, rfl⟩
  rw [en] at hn d15 e61 hf k edo
  refine q12_enter_0 hd (fun x1 e1 => ?_)
  rw [d15] at e1
  subst e1
  have hix : mi_ix (nI n) 400 = true := mi_ix_nI hn (by omega)
  have hix1 : mi_ix (nI n) 401 = true := mi_ix_nI (by omega) (by omega)
  rw [nI_clamp (by omega)]
  refine ⟨hix, fun δ2 e2 => ⟨hix, fun δ3 e3 => ⟨hix, fun δ4 e4 => ⟨hix, fun δ5 e5 => ⟨hix, fun δ6 e6 => ?_⟩⟩⟩⟩⟩
  have G6 : Agr (mi_setA (mi_setA (mi_setA (mi_setA (mi_setA s 58 n dy) 59 n t) 60 n so) 62 n (-1)) 63 n sr) δ6 := by
    subst e6 e5 e4 e3 e2
    exact ((((G.sA _ _ _).sA _ _ _).sA _ _ _).sA _ _ _).sA _ _ _
  have F6 : Fr [] [58, 59, 60, 62, 63] [] δ δ6 := by
    subst e6 e5 e4 e3 e2
    exact ((((Fr.setA (by decide)).tr (Fr.setA (by decide))).tr (Fr.setA (by decide))).tr (Fr.setA (by decide))).tr (Fr.setA (by decide))
  have X6 : Lm δ6 l := X.fr F6 (by decide) (by decide) (by decide)
  have r64 : δ6.2.1 64 = s.2.1 64 := (F6.2.1 64 (by decide)).trans (G.2.1 64 (by decide))
  have r65 : δ6.2.2 65 = s.2.2 65 := (F6.2.2 65 (by decide)).trans (G.2.2 65 (by decide))
  have r55 : δ6.2.2 55 = s.2.2 55 := (F6.2.2 55 (by decide)).trans (G.2.2 55 (by decide))
  have r61 : δ6.2.1 61 n = nI f := by rw [F6.2.1 61 (by decide), G.2.1 61 (by decide)]; exact e61
  have r15 : δ6.1 48 15 = s.1 48 15 := (F6.1 _ _ (by decide)).trans (G.1 (48, 15) (by decide))
  clear e6 e5 e4 e3 e2
  suffices H : ∀ i, i ≤ l.1 → ∀ δ', Fr [] [64] [55, 65] δ6 δ' → δ'.2.1 64 = wrN (s.2.1 64) f i l.2.1 → δ'.2.2 65 = wrN (s.2.2 65) f i l.2.2 → δ'.2.2 55 = itN (fun i b => up1 b (l.2.1 i).toNatClampNeg (b (l.2.1 i).toNatClampNeg + l.2.2 i)) (s.2.2 55) i → mi_wI N d 168 50 [.ref 48, .int dy, .int t, .int so, .int sr, .int (nI n), .int (nI i)] [] δ' Q by
    have q := H 0 (by omega) δ6 (Fr.rf _ _ _ _) (by rw [r64, wrN_0]) (by rw [r65, wrN_0]) r55
    rwa [nI_0] at q
  intro i hi
  refine up_ind (P := fun i => ∀ δ', Fr [] [64] [55, 65] δ6 δ' → δ'.2.1 64 = wrN (s.2.1 64) f i l.2.1 → δ'.2.2 65 = wrN (s.2.2 65) f i l.2.2 → δ'.2.2 55 = itN (fun i b => up1 b (l.2.1 i).toNatClampNeg (b (l.2.1 i).toNatClampNeg + l.2.2 i)) (s.2.2 55) i → mi_wI N d 168 50 [.ref 48, .int dy, .int t, .int so, .int sr, .int (nI n), .int (nI i)] [] δ' Q) ?_ ?_ hi
  · intro δ' F' h64 h65 h55
    have X' : Lm δ' l := X6.fr F' (by decide) (by decide) (by decide)
    refine q12_enter_50 hd (brF (by rw [X'.1]; exact nI_nlt (by omega) (by omega)) ?_)
    rw [nI_1, nI_clamp (by omega), nI_clamp (by omega), F'.2.1 61 (by decide), r61, X'.1, nI_add]
    refine ⟨hix1, mi_ix_nI (by omega) (by omega), fun δ1 e1 δ2 e2 => ?_⟩
    have G' : Agr (rowL (rowL (rowA (mi_setA (mi_setA (mi_setA (mi_setA (mi_setA s 58 n dy) 59 n t) 60 n so) 62 n (-1)) 63 n sr) 64 (wrN (s.2.1 64) f l.1 l.2.1)) 65 (wrN (s.2.2 65) f l.1 l.2.2)) 55 (itN (fun i b => up1 b (l.2.1 i).toNatClampNeg (b (l.2.1 i).toNatClampNeg + l.2.2 i)) (s.2.2 55) l.1)) δ' := by
      refine (((G6.rA 64 (wrN (s.2.1 64) f l.1 l.2.1)).rL 65 (wrN (s.2.2 65) f l.1 l.2.2)).rL 55 (itN (fun i b => up1 b (l.2.1 i).toNatClampNeg (b (l.2.1 i).toNatClampNeg + l.2.2 i)) (s.2.2 55) l.1)).tr ⟨fun p _ => ?_, fun a _ => ?_, fun a _ => ?_⟩
      · exact F'.1 _ _ List.not_mem_nil
      · simp only [rL_a, rA_a]
        by_cases q : a = 64
        · subst q; rw [if_pos rfl]; exact h64
        · rw [if_neg q]; exact F'.2.1 a (by simp [q])
      · simp only [rL_l, rA_l]
        by_cases q : a = 55
        · subst q; rw [if_pos rfl]; exact h55
        · rw [if_neg q]
          by_cases q2 : a = 65
          · subst q2; rw [if_pos rfl]; exact h65
          · rw [if_neg q2]; exact F'.2.2 a (by simp [q, q2])
    have d1 : δ1.1 48 15 = s.1 48 15 := by rw [e1]; exact (F'.1 _ _ List.not_mem_nil).trans r15
    rw [d1] at e2
    refine k δ2 ?_ ?_
    · rw [edo, ← ent_comm]
      subst e2 e1
      exact (G'.sA _ _ _).sI _ _ _
    · subst e2 e1
      exact (((F6.wk (by decide) (by decide) (by decide)).tr (F'.wk (by decide) (by decide) (by decide))).tr (Fr.setA (by decide))).xI (by decide)
  · intro i hi ih δ' F' h64 h65 h55
    have X' : Lm δ' l := X6.fr F' (by decide) (by decide) (by decide)
    obtain ⟨a, ha, ea⟩ := hA i hi
    have hi64 : mi_ix (nI i) 64 = true := mi_ix_nI (by omega) (by omega)
    have s61 : δ'.2.1 61 n = nI f := by rw [F'.2.1 61 (by decide)]; exact r61
    have hi24 : mi_ix (nI (f + i)) 24800 = true := mi_ix_nI (by omega) (by omega)
    have hi60 : mi_ix (nI a) 60 = true := mi_ix_nI (by omega) (by omega)
    refine q12_enter_50 hd (brT (by rw [X'.1]; exact nI_lt hi (by omega)) ?_)
    rw [nI_clamp (show n < 2 ^ 31 by omega), nI_clamp (show i < 2 ^ 31 by omega), s61, nI_add, nI_clamp (show f + i < 2 ^ 31 by omega), X'.2.1 i hi, nI_1]
    refine ⟨hix1, hi64, hi24, fun δ3 e3 => ?_⟩
    have t61 : δ3.2.1 61 n = nI f := by rw [e3, pA_a, if_neg (by decide)]; exact s61
    have t69 : δ3.2.2 69 i = l.2.2 i := by rw [e3]; exact X'.2.2 i hi
    rw [t61, nI_add, nI_clamp (show f + i < 2 ^ 31 by omega), t69]
    refine ⟨hix1, hi64, hi24, fun δ4 e4 => ?_⟩
    have t68 : δ4.2.1 68 i = nI a := by rw [e4, e3, pL_a, pA_a, if_neg (by decide), X'.2.1 i hi, ea]
    have t69' : δ4.2.2 69 i = l.2.2 i := by rw [e4, pL_l, if_neg (by decide)]; exact t69
    rw [t68, nI_clamp (show a < 2 ^ 31 by omega), t69']
    refine ⟨hi64, hi60, hi64, hi60, fun δ5 e5 => ih δ5 ?_ ?_ ?_ ?_⟩
    · subst e5 e4 e3
      exact ((F'.tr (Fr.setA (by decide))).tr (Fr.setL (by decide))).tr (Fr.setL (by decide))
    · rw [e5, e4, e3, pL_a, pL_a, pA_a, if_pos rfl, h64, wrN_s]
    · rw [e5, e4, e3, pL_l, if_neg (by decide), pL_l, if_pos rfl, pA_l, h65, wrN_s]
    · have t55 : δ4.2.2 55 = itN (fun i b => up1 b (l.2.1 i).toNatClampNeg (b (l.2.1 i).toNatClampNeg + l.2.2 i)) (s.2.2 55) i := by rw [e4, pL_l, if_neg (by decide), e3]; exact h55
      rw [e5, pL_l, if_pos rfl, t55]
      show _ = up1 _ (l.2.1 i).toNatClampNeg _
      rw [ea, nI_clamp (show a < 2 ^ 31 by omega)]
theorem cm_sayPost (hd : 6 ≤ d) (X : Lm δ l) (hb : l.1 ≤ 8) {dy t : Int32} {Q : mi_D → Prop}
    (k : ∀ δ', Bm δ' (encI dy ++ encI t ++ encI (nI l.1) ++ encLs l) → Fr [(48, 34)] [71] [] δ δ' → Q δ') : mi_wV N d 169 0 [.ref 48, .int dy, .int t, .null] [] δ Q := by
  refine q12_sayPost_0 (by omega) (cm_begin (by omega) (fun δ3 X3 f3 => cm_say (by omega) X3 (by show 0 + 10 ≤ 300; omega) (fun δ4 X4 f4 => cm_say (by omega) X4 (by have := enc_len (Int32.toInt64 dy); rw [List.length_append]; show 0 + _ + 10 ≤ 300; omega) (fun δ5 X5 f5 => ?_))))
  have f15 : Fr [(48, 34)] [71] [] δ δ5 := (f3.wk (by decide) (by decide) (by decide)).tr (f4.tr f5)
  rw [(X.fr f15 (by decide) (by decide) (by decide)).1]
  refine cm_say (by omega) X5 (by have := enc_len (Int32.toInt64 dy); have := enc_len (Int32.toInt64 t); rw [List.length_append, List.length_append]; show 0 + _ + _ + 10 ≤ 300; omega) (fun δ6 X6 f6 => ?_)
  have f16 := f15.tr f6
  have X6' : Bm δ6 (encI dy ++ encI t ++ encI (nI l.1) ++ encLi l 0) := by
    have e : encI dy ++ encI t ++ encI (nI l.1) ++ encLi l 0 = [] ++ enc (Int32.toInt64 dy) ++ enc (Int32.toInt64 t) ++ enc (Int32.toInt64 (nI l.1)) := by
      show encI dy ++ encI t ++ encI (nI l.1) ++ [] = _
      rw [List.append_nil]
      rfl
    rw [e]
    exact X6
  have hlen : ∀ i, i ≤ l.1 → (encI dy ++ encI t ++ encI (nI l.1) ++ encLi l i).length ≤ 30 + 20 * i := fun i hi => by
    have := encI_len dy
    have := encI_len t
    have := encI_len (nI l.1)
    have := encLi_len l i
    rw [List.length_append, List.length_append, List.length_append]
    omega
  suffices loop : ∀ i, i ≤ l.1 → ∀ δ7, Bm δ7 (encI dy ++ encI t ++ encI (nI l.1) ++ encLi l i) → Fr [(48, 34)] [71] [] δ δ7 → mi_wV N d 169 27 [.ref 48, .int dy, .int t, .int (nI i)] [] δ7 Q by
    have e := loop 0 (by omega) δ6 X6' f16
    rwa [nI_0] at e
  intro i hi
  refine up_ind (P := fun i => ∀ δ7, Bm δ7 (encI dy ++ encI t ++ encI (nI l.1) ++ encLi l i) → Fr [(48, 34)] [71] [] δ δ7 → mi_wV N d 169 27 [.ref 48, .int dy, .int t, .int (nI i)] [] δ7 Q) ?_ ?_ hi
  · intro δ7 X7 f7
    exact q12_sayPost_27 (by omega) (brF (by rw [(X.fr f7 (by decide) (by decide) (by decide)).1]; exact nI_nlt (by omega) (by omega)) (k δ7 X7 f7))
  · intro i hi ih δ7 X7 f7
    have Y7 := X.fr f7 (by decide) (by decide) (by decide)
    have hL := hlen i (by omega)
    refine q12_sayPost_27 (by omega) (brT (by rw [Y7.1]; exact nI_lt hi (by omega)) ⟨mi_ix_nI (by omega) (by omega), ?_⟩)
    rw [nI_clamp (by omega), Y7.2.1 i hi]
    refine cm_say (by omega) X7 (by omega) (fun δ8 X8 f8 => ⟨mi_ix_nI (by omega) (by omega), ?_⟩)
    have Y8 := Y7.fr f8 (by decide) (by decide) (by decide)
    rw [Y8.2.2 i hi]
    refine cm_say (by omega) X8 (by have := enc_len (Int32.toInt64 (l.2.1 i)); rw [List.length_append]; omega) (fun δ9 X9 f9 => ?_)
    rw [nI_1]
    refine ih δ9 ?_ (f7.tr (f8.tr f9))
    have e : encI dy ++ encI t ++ encI (nI l.1) ++ encLi l (i + 1) = encI dy ++ encI t ++ encI (nI l.1) ++ encLi l i ++ enc (Int32.toInt64 (l.2.1 i)) ++ enc (l.2.2 i) := by
      show encI dy ++ encI t ++ encI (nI l.1) ++ (encLi l i ++ (encI (l.2.1 i) ++ enc (l.2.2 i))) = _
      rw [List.append_assoc, List.append_assoc, List.append_assoc, List.append_assoc, List.append_assoc, List.append_assoc]
      rfl
    rw [e]
    exact X9
theorem cm_posted (hd : 9 ≤ d) (G : Agr s δ) (hup : ¬ s.1 48 0 = 0) (W : Wf s) (X : Lm δ l) (hb : l.1 ≤ 8) (hA : LnA (nN s 2) l) {dy t : Int32} {Q : Int32 → mi_D → Prop}
    (kk : ∀ δ', Agr (A_posted s l dy t).2 δ' → KC δ δ' → Q (A_posted s l dy t).1 δ') : mi_wI N d 170 0 [.ref 48, .int dy, .int t, .null, .null] [] δ Q := by
  unfold A_posted at kk
  have hlen : (encI dy ++ encI t ++ encI (nI l.1) ++ encLs l).length ≤ 190 := by
    have := encI_len dy
    have := encI_len t
    have := encI_len (nI l.1)
    have h : (encLs l).length ≤ 20 * l.1 := encLi_len l l.1
    rw [List.length_append, List.length_append, List.length_append]
    omega
  refine q12_posted_0 (by omega) (cm_sayPost (by omega) X hb (fun δ1 X1 f1 => ?_))
  have G1 : Agr s δ1 := G.fr f1 (by decide) (by decide) (by decide)
  have Y1 : Lm δ1 l := X.fr f1 (by decide) (by decide) (by decide)
  have K1 : KC δ δ1 := f1.kp (by decide) (by decide) (by decide)
  refine cm_judged (by omega) G1 W Y1 (by omega) hA X1 (by omega) ?_
  by_cases hr : rf_judge s l dy = 0
  · rw [if_neg (fun q => q hr)]
    by_cases hm : room s (encI dy ++ encI t ++ encI (nI l.1) ++ encLs l)
    · rw [if_pos hm]
      rw [gate_ok hup hr hm] at kk
      refine ⟨fun q => absurd q (by decide), fun _ => ?_⟩
      have hn400 : nN s 15 < 400 := by
        have q := (rf_judge_0 hr).2
        rw [W.2.2.1.1.1] at q
        exact (nI_ltI (b := 400) (by have := W.2.2.1.1.2; omega) (by omega)).mp q
      refine cm_enter (by omega) G1 W.1 W.2.2.1 hn400 Y1 (by omega) hA (fun δ4 G4 f4 => ?_)
      exact cm_write (by omega) G4 (W.2.2.2.2.1.m (den_k.wk (by decide) (by decide) (by decide))) (X1.fr f4 (by decide) (by decide)) (by omega) (room_m (den_k.wk (by decide) (by decide) (by decide)) hm) (fun δ5 G5 F5 => kk δ5 G5 ((K1.tr (f4.kp (by decide) (by decide) (by decide))).tr (F5.kp (by decide) (by decide) (by decide))))
    · rw [if_neg hm]
      rw [gate_full hup hr hm] at kk
      exact ⟨fun _ => kk δ1 G1 K1, fun q => absurd (by decide) q⟩
  · rw [if_pos hr]
    rw [gate_ref hup hr] at kk
    exact ⟨fun _ => kk δ1 G1 K1, fun q => absurd (i32_ltn (rf_judge_n hr)) q⟩
/-- the draft is emptied, or kept -/
theorem undraft_k {x : Int32 × mi_D} {δ1 : mi_D} {Q : Int32 → mi_D → Prop} (hG : Agr x.2 δ1) (hx : x.2.1 48 24 = x.2.1 48 24) (kk : ∀ δ', Agr (undraft x).2 δ' → KC δ1 δ' → Q (undraft x).1 δ') : (x.1 < 0 → Q x.1 (mi_setI δ1 48 24 (δ1.1 48 24))) ∧ (¬ x.1 < 0 → Q x.1 (mi_setI δ1 48 24 0)) := by
  unfold undraft at kk
  refine ⟨fun h => ?_, fun h => ?_⟩
  · rw [if_pos h] at kk
    rw [setI_self rfl]
    exact kk δ1 hG Kp.rf
  · rw [if_neg h] at kk
    exact kk _ (hG.sI _ _ _) (Kp.setI (by decide))
theorem cm_post (hd : 10 ≤ d) (G : Agr s δ) (W : Wf s) {dy t : Int32} {Q : Int32 → mi_D → Prop}
    (kk : ∀ δ', Agr (A_post s dy t).2 δ' → KC δ δ' → Q (A_post s dy t).1 δ') : mi_wI N d 171 0 [.ref 48, .int dy, .int t, .null] [] δ Q := by
  have e0 : δ.1 48 0 = s.1 48 0 := G.1 (48, 0) (by decide)
  refine q12_post_0 (by omega) ?_
  rw [e0]
  refine ⟨fun hs => ?_, fun hup δ1 e1 => ?_⟩
  · have e : A_post s dy t = (-6, s) := by
      unfold A_post A_posted
      rw [gate_down hs]
      exact if_pos (by show (-6 : Int32) < 0; decide)
    rw [e] at kk
    exact kk δ G Kp.rf
  · have h8 := W.2.2.2.1.1.2
    have f1 : Fr [(48, 27)] [68] [69] δ δ1 := by rw [e1]; exact Fr.setI (by decide)
    have X1 : Lm δ1 (0, (draftL s).2.1, (draftL s).2.2) := ⟨by rw [e1, pI_f, if_pos ⟨rfl, rfl⟩]; exact nI_0.symm, fun i hi => absurd hi (Nat.not_lt_zero i), fun i hi => absurd hi (Nat.not_lt_zero i)⟩
    suffices H : ∀ i, i ≤ nN s 24 → ∀ δ', Lm δ' (i, (draftL s).2.1, (draftL s).2.2) → Fr [(48, 27)] [68] [69] δ δ' → mi_wI N d 171 17 [.ref 48, .int dy, .int t, .int (nI i)] [] δ' Q by
      have q := H 0 (by omega) δ1 X1 f1
      rwa [nI_0] at q
    intro i hi
    have d24 : ∀ δ', Fr [(48, 27)] [68] [69] δ δ' → δ'.1 48 24 = nI (nN s 24) := fun δ' f => (f.1 _ _ (by decide)).trans ((G.1 (48, 24) (by decide)).trans W.2.2.2.1.1.1)
    refine up_ind (P := fun i => ∀ δ', Lm δ' (i, (draftL s).2.1, (draftL s).2.2) → Fr [(48, 27)] [68] [69] δ δ' → mi_wI N d 171 17 [.ref 48, .int dy, .int t, .int (nI i)] [] δ' Q) ?_ ?_ hi
    · intro δ' X' f'
      refine q12_post_17 (by omega) (brF (by rw [d24 δ' f']; exact nI_nlt (by omega) (by omega)) ?_)
      have G' : Agr s δ' := G.fr f' (by decide) (by decide) (by decide)
      have X'' : Lm δ' (draftL s) := X'
      refine cm_posted (by omega) G' hup W X'' h8 (fun i hi => W.2.2.2.1.2 i hi) (fun δ2 G2 K2 => ?_)
      have key := undraft_k (Q := Q) G2 rfl (fun δ3 G3 K3 => kk δ3 G3 ((f'.kp (by decide) (by decide) (by decide)).tr (K2.tr K3)))
      refine ⟨fun h => q12_post_67 (by omega) (fun δ4 e4 => ?_), fun h => q12_post_67 (by omega) (fun δ4 e4 => ?_)⟩
      · subst e4; exact key.1 h
      · subst e4; exact key.2 h
    · intro i hi ih δ' X' f'
      refine q12_post_17 (by omega) (brT (by rw [d24 δ' f']; exact nI_lt hi (by omega)) ⟨mi_ix_nI (by omega) (by omega), mi_ix_nI (by omega) (by omega), ?_⟩)
      rw [nI_clamp (by omega), nI_1]
      have r66 : δ'.2.1 66 i = (draftL s).2.1 i := by rw [f'.2.1 66 (by decide), G.2.1 66 (by decide)]; rfl
      have r67 : δ'.2.2 67 i = (draftL s).2.2 i := by rw [f'.2.2 67 (by decide), G.2.2 67 (by decide)]; rfl
      rw [r66, r67]
      refine cm_hand (by omega) X' (by show i < 64; omega) (fun δ'' X'' f'' => ih δ'' ?_ (f'.tr f''))
      rw [← addL_same (draftL s) i]
      exact X''
theorem cm_turned (hd : 6 ≤ d) (G : Agr s δ) (W : WfE s) {e : Nat} (he : e < nN s 15) {Q : mi_D → Prop}
    (k : ∀ δ', Lm δ' (negL (entL s e)) → Fr [(48, 27)] [68] [69] δ δ' → Q δ') : mi_wV N d 173 0 [.ref 48, .int (nI e), .null] [] δ Q := by
  have hw := W.2.2.2.1 e he
  have hf := fromN_le W (e + 1) (by omega)
  have hn := W.1.2
  have e61 : δ.2.1 61 = s.2.1 61 := G.2.1 61 (by decide)
  refine q12_turned_0 (by omega) (fun δ1 e1 => ⟨mi_ix_nI (by omega) (by omega), fun x2 e2 => ?_⟩)
  have f1 : Fr [(48, 27)] [68] [69] δ δ1 := by rw [e1]; exact Fr.setI (by decide)
  rw [nI_clamp (by omega), f1.2.1 61 (by decide), e61, W.2.2.1 e (by omega)] at e2
  subst e2
  suffices H : ∀ i, i ≤ fromN s (e + 1) - fromN s e → ∀ δ', Lm δ' (i, (negL (entL s e)).2.1, (negL (entL s e)).2.2) → Fr [(48, 27)] [68] [69] δ δ' → mi_wV N d 173 12 [.ref 48, .int (nI e), .int (nI (fromN s e + i))] [] δ' Q by
    exact H 0 (by omega) δ1 ⟨by rw [e1, pI_f, if_pos ⟨rfl, rfl⟩]; exact nI_0.symm, fun i hi => absurd hi (Nat.not_lt_zero i), fun i hi => absurd hi (Nat.not_lt_zero i)⟩ f1
  intro i hi
  have t61 : ∀ δ', Fr [(48, 27)] [68] [69] δ δ' → δ'.2.1 61 (nI (e + 1)).toNatClampNeg = nI (fromN s (e + 1)) := fun δ' f => by rw [nI_clamp (by omega), f.2.1 61 (by decide), e61, W.2.2.1 (e + 1) (by omega)]
  refine up_ind (P := fun i => ∀ δ', Lm δ' (i, (negL (entL s e)).2.1, (negL (entL s e)).2.2) → Fr [(48, 27)] [68] [69] δ δ' → mi_wV N d 173 12 [.ref 48, .int (nI e), .int (nI (fromN s e + i))] [] δ' Q) ?_ ?_ hi
  · intro δ' X' f'
    refine q12_turned_12 (by omega) ?_
    rw [nI_1]
    exact ⟨mi_ix_nI (by omega) (by omega), brF (by rw [t61 δ' f']; exact nI_nlt (by omega) (by omega)) (k δ' X' f')⟩
  · intro i hi ih δ' X' f'
    refine q12_turned_12 (by omega) ?_
    rw [nI_1, nI_1]
    refine ⟨mi_ix_nI (by omega) (by omega), brT (by rw [t61 δ' f']; exact nI_lt (by omega) (by omega)) ⟨mi_ix_nI (by omega) (by omega), mi_ix_nI (by omega) (by omega), ?_⟩⟩
    rw [nI_clamp (by omega), f'.2.1 64 (by decide), f'.2.2 65 (by decide), G.2.1 64 (by decide), G.2.2 65 (by decide)]
    refine cm_hand (by omega) X' (by show i < 64; omega) (fun δ'' X'' f'' => ih δ'' ?_ (f'.tr f''))
    rw [← addL_same (negL (entL s e)) i]
    exact X''
theorem cm_back (hd : 10 ≤ d) (G : Agr s δ) (W : Wf s) {e dy : Int32} {Q : Int32 → mi_D → Prop}
    (kk : ∀ δ', Agr (A_back s e dy).2 δ' → KC δ δ' → Q (A_back s e dy).1 δ') : mi_wI N d 172 0 [.ref 48, .int e, .int dy, .null, .null] [] δ Q := by
  have hn := W.2.2.1.1.2
  unfold A_back at kk
  have e0 : δ.1 48 0 = s.1 48 0 := G.1 (48, 0) (by decide)
  have d15 : δ.1 48 15 = nI (nN s 15) := (G.1 (48, 15) (by decide)).trans W.2.2.1.1.1
  refine q12_back_0 (by omega) ?_
  rw [e0]
  refine ⟨fun h => ?_, fun hup => c_inN (by omega) (n := nN s 15) (by omega) d15 (fun hj => brN (by decide) ?_) (fun h => br0 ?_)⟩
  · rw [gate_down h] at kk
    exact kk δ G Kp.rf
  · obtain ⟨j, hj, ej⟩ := hj
    have hin : inR e (s.1 48 15) := by rw [W.2.2.1.1.1, ej]; exact inR_j hj (by omega)
    have hx : mi_ix e 400 = true := by rw [ej]; exact mi_ix_nI (by omega) (by omega)
    have hw := W.2.2.1.2.2.2.1 j hj
    have ec : e.toNatClampNeg = j := by rw [ej, nI_clamp (by omega)]
    have eat : ∀ r, mi_at s r e = s.2.1 r j := fun r => by rw [ej, mi_at_nI _ _ (by omega)]
    rw [ec, G.2.1 60 (by decide), G.2.1 62 (by decide)]
    refine ⟨hx, fun h2 => ⟨hx, fun h3 => ?_, fun h3 => ?_⟩, fun h2 => ?_⟩
    · have hrf : rf_back s e dy = rf_judge s (negL (entL s j)) dy := by
        unfold rf_back
        rw [if_neg (fun q => q hin), eat, if_neg (fun q => q h2), eat, if_neg (fun q => q h3), ec]
      have hdo : do_back s e dy = mi_setA (do_enter s (negL (entL s j)) dy (s.2.1 59 j) 1 e) 62 j (s.1 48 15) := by
        unfold do_back
        rw [ec, eat]
      have hA := entL_A W.2.2.1 hj
      have hb : (negL (entL s j)).1 ≤ 60 := by show fromN s (j + 1) - fromN s j ≤ 60; omega
      have l1 := encI_len e
      have l2 := encI_len dy
      have hlen : (encI e ++ encI dy).length ≤ 255 := by rw [List.length_append]; omega
      rw [show Value.int e = Value.int (nI j) from by rw [ej]]
      refine cm_turned (by omega) G W.2.2.1 hj (fun δ3 X3 f3 => ?_)
      rw [← ej]
      refine cm_begin (by omega) (fun δ4 B4 f4 => cm_say (by omega) B4 (by show 0 + 10 ≤ 300; omega) (fun δ5 B5 f5 => cm_say (by omega) B5 (by have := enc_len (Int32.toInt64 e); rw [List.length_append]; show 0 + _ + 10 ≤ 300; omega) (fun δ6 B6 f6 => ?_)))
      have B6' : Bm δ6 (encI e ++ encI dy) := B6
      have f36 : Fr [(48, 34)] [71] [] δ3 δ6 := (f4.wk (by decide) (by decide) (by decide)).tr (f5.tr f6)
      have X6 : Lm δ6 (negL (entL s j)) := X3.fr f36 (by decide) (by decide) (by decide)
      have G6 : Agr s δ6 := (G.fr f3 (by decide) (by decide) (by decide)).fr f36 (by decide) (by decide) (by decide)
      have K6 : KC δ δ6 := (f3.kp (by decide) (by decide) (by decide)).tr (f36.kp (by decide) (by decide) (by decide))
      refine cm_judged (by omega) G6 W X6 hb hA B6' (by omega) ?_
      by_cases hr : rf_judge s (negL (entL s j)) dy = 0
      · rw [if_neg (fun q => q hr)]
        by_cases hm : room s (encI e ++ encI dy)
        · rw [if_pos hm]
          rw [gate_ok hup (hrf.trans hr) hm] at kk
          refine ⟨fun q => absurd q (by decide), fun _ => ⟨hx, ?_⟩⟩
          have hn400 : nN s 15 < 400 := by
            have q := (rf_judge_0 hr).2
            rw [W.2.2.1.1.1] at q
            exact (nI_ltI (b := 400) (by omega) (by omega)).mp q
          rw [G6.2.1 59 (by decide)]
          refine cm_enter (by omega) G6 W.1 W.2.2.1 hn400 X6 hb hA (fun δ9 G9 f9 => ⟨hx, fun δ10 e10 => ?_⟩)
          have G10 : Agr (do_back s e dy) δ10 := by
            rw [hdo, e10]
            exact G9.sA _ _ _
          have F10 : Fr [] [62] [] δ9 δ10 := by rw [e10]; exact Fr.setA (by decide)
          exact cm_write (by omega) G10 (W.2.2.2.2.1.m (dbk_k.wk (by decide) (by decide) (by decide))) ((B6'.fr f9 (by decide) (by decide)).fr F10 (by decide) (by decide)) hlen (room_m (dbk_k.wk (by decide) (by decide) (by decide)) hm) (fun δ11 G11 F11 => kk δ11 G11 (((K6.tr (f9.kp (by decide) (by decide) (by decide))).tr (F10.kp (by decide) (by decide) (by decide))).tr (F11.kp (by decide) (by decide) (by decide))))
        · rw [if_neg hm]
          rw [gate_full hup (hrf.trans hr) hm] at kk
          exact ⟨fun _ => kk δ6 G6 K6, fun q => absurd (by decide) q⟩
      · rw [if_pos hr]
        rw [gate_ref hup (fun q => hr (hrf.symm.trans q)), hrf] at kk
        exact ⟨fun _ => kk δ6 G6 K6, fun q => absurd (i32_ltn (rf_judge_n hr)) q⟩
    · have hr : rf_back s e dy = -5 := by unfold rf_back; rw [if_neg (fun q => q hin), eat, if_neg (fun q => q h2), eat, if_pos h3]
      rw [gate_ref hup (by rw [hr]; decide), hr] at kk
      exact kk δ G Kp.rf
    · have hr : rf_back s e dy = -4 := by unfold rf_back; rw [if_neg (fun q => q hin), eat, if_pos h2]
      rw [gate_ref hup (by rw [hr]; decide), hr] at kk
      exact kk δ G Kp.rf
  · have hr : rf_back s e dy = -2 := by
      unfold rf_back
      rw [if_pos (fun q => by rw [W.2.2.1.1.1] at q; exact h ((inR_nI (by omega)).mp q))]
    rw [gate_ref hup (by rw [hr]; decide), hr] at kk
    exact kk δ G Kp.rf
end MEN
