/-! gathering, closing (the program) -/
def totI (l : Ln) (a : Int32) (t : Int64) (n : Nat) : Int64 := itN (fun i t => if l.2.1 i = a then t + l.2.2 i else t) t n
theorem totI_s (l : Ln) (a : Int32) (t : Int64) (n : Nat) : totI l a t (n + 1) = if l.2.1 n = a then totI l a t n + l.2.2 n else totI l a t n := rfl
theorem totI_from (l : Ln) (a : Int32) (t : Int64) (n : Nat) : totI l a t n = t + totI l a 0 n := by
  induction n with
  | zero => show t = t + 0; rw [Int64.add_zero]
  | succ n ih =>
    rw [totI_s, totI_s]
    by_cases h : l.2.1 n = a
    · rw [if_pos h, if_pos h, ih, Int64.add_assoc]
    · rw [if_neg h, if_neg h, ih]
theorem clrL_row (δ : mi_D) (a : Nat) : mi_clrL δ a = rowL δ a (fun _ => 0) := by
  unfold mi_clrL rowL
  refine Prod.ext rfl (Prod.ext rfl (funext fun x => funext fun j => ?_))
  dsimp only
  by_cases h : x = a
  · rw [if_pos h, if_pos h]
  · rw [if_neg h, if_neg h]
theorem sumE_s (s : mi_D) (a d1 d2 : Int32) (e : Nat) : sumE s a d1 d2 (e + 1) = if ¬ s.2.1 58 e < d1 ∧ ¬ d2 < s.2.1 58 e then sumE s a d1 d2 e + tot (entL s e) a else sumE s a d1 d2 e := rfl
section GTH
variable {N d : Nat} {δ s : mi_D}
/-- what the two last places hold -/
def gT (x y : Value) : Prop := (x = .null ∧ y = .null) ∨ (∃ a, x = .int a ∧ y = .null) ∨ (∃ a b, x = .int a ∧ y = .int b)
def gU (y : Value) : Prop := y = .null ∨ ∃ b, y = .int b
theorem gT.u {x y : Value} (h : gT x y) : gU y := by
  rcases h with ⟨_, h⟩ | ⟨_, _, h⟩ | ⟨_, b, _, h⟩
  · exact Or.inl h
  · exact Or.inl h
  · exact Or.inr ⟨b, h⟩
theorem gU.t {y : Value} (h : gU y) (a : Int32) : gT (.int a) y := by
  rcases h with h | ⟨b, h⟩
  · exact Or.inr (Or.inl ⟨a, rfl, h⟩)
  · exact Or.inr (Or.inr ⟨a, b, rfl, h⟩)
theorem g7 (hd : 5 ≤ d) {x y : Value} (hT : gT x y) {l1 l2 l4 : Int32} {Q : mi_D → Prop} (F : ((l4 < (δ.1 17 9) → (((mi_at δ 18 l4) < l1 → mi_wV N d 44 7 [.ref 17, .int l1, .int l2, .ref 27, .int (l4 + 1), x, y] [] δ Q) ∧ (¬ (mi_at δ 18 l4) < l1 → ((l2 < (mi_at δ 18 l4) → mi_wV N d 44 7 [.ref 17, .int l1, .int l2, .ref 27, .int (l4 + 1), x, y] [] δ Q) ∧ (¬ l2 < (mi_at δ 18 l4) → mi_wV N d 44 45 [.ref 17, .int l1, .int l2, .ref 27, .int l4, .int 0, y] [] δ Q))))) ∧ (¬ l4 < (δ.1 17 9) → Q δ))) : mi_wV N d 44 7 [.ref 17, .int l1, .int l2, .ref 27, .int l4, x, y] [] δ Q := by
  rcases hT with ⟨rfl, rfl⟩ | ⟨a, rfl, rfl⟩ | ⟨a, b, rfl, rfl⟩
  · exact q2_gather_7 hd (gk_27 N) (gl_27 N) F
  · exact q2_gather_7a hd (gk_27 N) (gl_27 N) F
  · exact q2_gather_7b hd (gk_27 N) (gl_27 N) F
theorem g45 (hd : 5 ≤ d) {y : Value} (hT : gU y) {l1 l2 l4 l5 : Int32} {Q : mi_D → Prop} (F : ((l5 < (mi_at δ 21 l4) → (mi_wI N (d - 1) 41 0 [.ref 17, .int l4, .int l5] [] δ (fun r2 δ1 => (mi_wL N (d - 1) 42 0 [.ref 17, .int l4, .int l5] [] δ1 (fun r4 δ3 => (∀ δ5 : mi_D, δ5 = mi_pl δ3 27 60 r2 ((mi_al δ1 27 r2) + r4) → mi_wV N d 44 45 [.ref 17, .int l1, .int l2, .ref 27, .int l4, .int (l5 + 1), .int r2] [] δ5 Q)))))) ∧ (¬ l5 < (mi_at δ 21 l4) → mi_wV N d 44 7 [.ref 17, .int l1, .int l2, .ref 27, .int (l4 + 1), .int l5, y] [] δ Q))) : mi_wV N d 44 45 [.ref 17, .int l1, .int l2, .ref 27, .int l4, .int l5, y] [] δ Q := by
  rcases hT with rfl | ⟨b, rfl⟩
  · exact q2_gather_45 hd (gk_27 N) (gl_27 N) F
  · exact q2_gather_45a hd (gk_27 N) (gl_27 N) F
theorem cc_gather (hd : 6 ≤ d) (E : AbE δ s) (W : WfE s) (h60 : nN s 2 ≤ 60) {d1 d2 : Int32} {Q : mi_D → Prop}
    (k : ∀ g, (∀ a, a < nN s 2 → g a = sumD s (nI a) d1 d2) → Q (rowL δ 27 g)) : mi_wV N d 44 0 [.ref 17, .int d1, .int d2, .ref 27, .null, .null, .null] [] δ Q := by
  have hn := W.1.2
  have hf := fromN_le W _ (Nat.le_refl (nN s 15))
  refine q2_gather_0 (by omega) (gk_27 N) (gl_27 N) (fun δ1 e1 => ?_)
  rw [clrL_row] at e1
  subst e1
  have E' : ∀ g, AbE (rowL δ 27 g) s := fun g => E.c (Kp.rowL (by decide))
  suffices H : ∀ e, e ≤ nN s 15 → ∀ g, (∀ a, a < nN s 2 → g a = sumE s (nI a) d1 d2 e) → ∀ x y, gT x y → mi_wV N d 44 7 [.ref 17, .int d1, .int d2, .ref 27, .int (nI e), x, y] [] (rowL δ 27 g) Q by
    have q := H 0 (by omega) (fun _ => 0) (fun a _ => rfl) _ _ (Or.inl ⟨rfl, rfl⟩)
    rwa [nI_0] at q
  intro e he
  refine up_ind (P := fun e => ∀ g, (∀ a, a < nN s 2 → g a = sumE s (nI a) d1 d2 e) → ∀ x y, gT x y → mi_wV N d 44 7 [.ref 17, .int d1, .int d2, .ref 27, .int (nI e), x, y] [] (rowL δ 27 g) Q) ?_ ?_ he
  · intro g hg x y hT
    have hF : ¬ nI (nN s 15) < (rowL δ 27 g).1 17 9 := by rw [(E' g).1, W.1.1]; exact nI_nlt (by omega) (by omega)
    exact g7 (by omega) hT (brF hF (k g hg))
  · intro e he ih g hg x y hxy
    have hT : nI e < (rowL δ 27 g).1 17 9 := by rw [(E' g).1, W.1.1]; exact nI_lt he (by omega)
    have h18 : mi_at (rowL δ 27 g) 18 (nI e) = s.2.1 58 e := by rw [mi_at_nI _ _ (by omega), (E' g).2.1]
    have skip : ¬ (¬ s.2.1 58 e < d1 ∧ ¬ d2 < s.2.1 58 e) → (∀ a, a < nN s 2 → g a = sumE s (nI a) d1 d2 (e + 1)) := fun q a ha => by rw [sumE_s, if_neg q]; exact hg a ha
    have w := W.2.2.2.1 e he
    have wm := fromN_mono W (show e + 1 ≤ nN s 15 from he) (Nat.le_refl _)
    have inner : (¬ s.2.1 58 e < d1) → ¬ d2 < s.2.1 58 e → mi_wV N d 44 45 [.ref 17, .int d1, .int d2, .ref 27, .int (nI e), .int 0, y] [] (rowL δ 27 g) Q := by
      intro q1 q2
      suffices HI : ∀ i, i ≤ fromN s (e + 1) - fromN s e → ∀ g, (∀ a, a < nN s 2 → g a = totI (entL s e) (nI a) (sumE s (nI a) d1 d2 e) i) → ∀ y, gU y → mi_wV N d 44 45 [.ref 17, .int d1, .int d2, .ref 27, .int (nI e), .int (nI i), y] [] (rowL δ 27 g) Q by
        have q := HI 0 (by omega) g hg y hxy.u
        rwa [nI_0] at q
      intro i hi
      refine up_ind (P := fun i => ∀ g, (∀ a, a < nN s 2 → g a = totI (entL s e) (nI a) (sumE s (nI a) d1 d2 e) i) → ∀ y, gU y → mi_wV N d 44 45 [.ref 17, .int d1, .int d2, .ref 27, .int (nI e), .int (nI i), y] [] (rowL δ 27 g) Q) ?_ ?_ hi
      · intro g hg y hy
        refine g45 (by omega) hy (brF (by rw [mi_at_nI _ _ (by omega), ((E' g).2.2.2.2.2.2.2.2.2.1 e he).2]; exact nI_nlt (by omega) (by omega)) ?_)
        rw [nI_1]
        refine ih g (fun a ha => ?_) _ _ (hy.t _)
        rw [sumE_s, if_pos ⟨q1, q2⟩, hg a ha, totI_from]
        rfl
      · intro i hi ih2 g hg y hy
        obtain ⟨a, ha, ea⟩ := W.2.2.2.2 (fromN s e + i) (by omega)
        have r0 : mi_at (rowL δ 27 g) 24 (nI e) + nI i = nI (fromN s e + i) := by rw [mi_at_nI _ 24 (by omega), ((E' g).2.2.2.2.2.2.2.2.2.1 e he).1, nI_add]
        have r2 : mi_at (rowL δ 27 g) 25 (mi_at (rowL δ 27 g) 24 (nI e) + nI i) = nI a := by rw [r0, mi_at_nI _ _ (by omega), (E' g).2.2.2.2.2.2.1, ea]
        have r4 : mi_al (rowL δ 27 g) 26 (mi_at (rowL δ 27 g) 24 (nI e) + nI i) = s.2.2 65 (fromN s e + i) := by rw [r0, mi_al_nI _ _ (by omega), (E' g).2.2.2.2.2.2.2.1]
        refine g45 (by omega) hy (brT (by rw [mi_at_nI _ _ (by omega), ((E' g).2.2.2.2.2.2.2.2.2.1 e he).2]; exact nI_lt hi (by omega)) (q2_accountOf_0 (by omega) (q2_amountOf_0 (by omega) (fun δ5 e5 => ?_))))
        rw [r2, r4] at e5
        have e5 := add_row (show a < 60 by omega) (by omega) e5
        rw [rowL_rowL, rL_l, if_pos rfl] at e5
        subst e5
        rw [nI_1]
        refine ih2 _ (fun b hb => ?_) _ (Or.inr ⟨_, rfl⟩)
        have e1 : (entL s e).2.1 i = nI a := ea
        rw [totI_s, e1]
        by_cases q : b = a
        · subst q
          rw [up1_s, if_pos rfl, hg b hb]
          rfl
        · rw [up1_n _ _ q, if_neg (fun z => q ((nI_eq (by omega) (by omega)).mp z).symm), hg b hb]
    exact g7 (by omega) hxy (brT hT (by rw [h18, nI_1]; exact ⟨fun q => ih g (skip (fun z => z.1 q)) _ _ hxy, fun q => ⟨fun q2 => ih g (skip (fun z => z.2 q2)) _ _ hxy, inner q⟩⟩))
end GTH
def clsF (s : mi_D) (d1 d2 : Int32) (l : Ln) (a : Nat) : Ln := if s.2.1 52 a = 0 ∧ ¬ s.2.1 50 a < 3 ∧ ¬ sumD s (nI a) d1 d2 = 0 then addL l (nI a) (- sumD s (nI a) d1 d2) else l
theorem cls_def (s : mi_D) (d1 d2 : Int32) (L : List Nat) : clsL s d1 d2 L = L.foldl (clsF s d1 d2) (0, fun _ => 0, fun _ => 0) := rfl
theorem cls_s (s : mi_D) (d1 d2 : Int32) (L : List Nat) (a : Nat) : clsL s d1 d2 (L ++ [a]) = clsF s d1 d2 (clsL s d1 d2 L) a := by
  rw [cls_def, cls_def, List.foldl_append]
  rfl
theorem cls_len (s : mi_D) (d1 d2 : Int32) : ∀ (L : List Nat) (l : Ln), (L.foldl (clsF s d1 d2) l).1 ≤ l.1 + L.length ∧ ((∃ o, o ∈ L ∧ s.2.1 50 o = 2) → (L.foldl (clsF s d1 d2) l).1 + 1 ≤ l.1 + L.length) := by
  intro L
  induction L with
  | nil => intro l; exact ⟨Nat.le_refl _, fun ⟨o, h, _⟩ => absurd h List.not_mem_nil⟩
  | cons b L ih =>
    intro l
    have step : (clsF s d1 d2 l b).1 ≤ l.1 + 1 ∧ (s.2.1 50 b = 2 → (clsF s d1 d2 l b).1 = l.1) := by
      unfold clsF
      split
      · next h => exact ⟨Nat.le_refl _, fun q => absurd (show s.2.1 50 b < 3 by rw [q]; decide) h.2.1⟩
      · exact ⟨Nat.le_succ _, fun _ => rfl⟩
    rw [List.foldl_cons, List.length_cons]
    obtain ⟨i1, i2⟩ := ih (clsF s d1 d2 l b)
    refine ⟨by omega, fun ⟨o, ho, h2⟩ => ?_⟩
    rcases List.mem_cons.mp ho with e | ho
    · subst e
      have := step.2 h2
      omega
    · have := i2 ⟨o, ho, h2⟩
      omega
theorem addL_A {n a : Nat} {l : Ln} {v : Int64} (h : LnA n l) (ha : a < n) : LnA n (addL l (nI a) v) := by
  intro i hi
  have hi' : i < l.1 + 1 := hi
  show ∃ b, b < n ∧ up1 l.2.1 l.1 (nI a) i = nI b
  by_cases e : i = l.1
  · exact ⟨a, ha, by rw [e, up1_s]⟩
  · rw [up1_n _ _ e]
    exact h i (by omega)
theorem cls_A (s : mi_D) (d1 d2 : Int32) {n : Nat} : ∀ (L : List Nat) (l : Ln), LnA n l → (∀ a, a ∈ L → a < n) → LnA n (L.foldl (clsF s d1 d2) l) := by
  intro L
  induction L with
  | nil => intro l h _; exact h
  | cons b L ih =>
    intro l h hL
    rw [List.foldl_cons]
    refine ih _ ?_ (fun a ha => hL a (List.mem_cons_of_mem _ ha))
    unfold clsF
    split
    · exact addL_A h (hL b List.mem_cons_self)
    · exact h
theorem clo_ok {s : mi_D} (W : WfA s) (WP : WfP s) (ho : ¬ s.1 48 10 = -1) (p : Int32) : (cloL s p).1 ≤ 60 ∧ LnA (nN s 2) (cloL s p) ∧ (clsL s (fday s p) (mi_at s 56 p) (ordN (s.2.1 49) (nN s 2))).1 + 1 ≤ 60 := by
  obtain ⟨o, hoN, eo, ko⟩ := WP.2.2.2.2.2.resolve_left ho
  have h60 := W.1.2
  have h1 := cls_len s (fday s p) (mi_at s 56 p) (ordN (s.2.1 49) (nN s 2)) (0, fun _ => 0, fun _ => 0)
  have h2 := h1.2 ⟨o, (ordN_mem _ _ _).mpr hoN, ko⟩
  rw [← cls_def, ordN_len] at h2
  have h3 : LnA (nN s 2) (clsL s (fday s p) (mi_at s 56 p) (ordN (s.2.1 49) (nN s 2))) := cls_A s _ _ _ _ (fun i hi => absurd hi (Nat.not_lt_zero i)) (fun a ha => (ordN_mem _ _ _).mp ha)
  have h4 : (clsL s (fday s p) (mi_at s 56 p) (ordN (s.2.1 49) (nN s 2))).1 + 1 ≤ 60 := by
    have h5 : (clsL s (fday s p) (mi_at s 56 p) (ordN (s.2.1 49) (nN s 2))).1 + 1 ≤ 0 + nN s 2 := h2
    omega
  unfold cloL
  split
  · exact ⟨by omega, h3, h4⟩
  · refine ⟨h4, ?_, h4⟩
    rw [eo]
    exact addL_A h3 hoN
theorem kind_34 {x : Int32} (h : ¬ x < 0 ∧ x < 5) : ¬ x < 3 ↔ (x = 3 ∨ x = 4) := by
  obtain ⟨j, hj, rfl⟩ := isN_of (n := 5) (by omega) h.1 h.2
  rcases (show j = 0 ∨ j = 1 ∨ j = 2 ∨ j = 3 ∨ j = 4 by omega) with rfl | rfl | rfl | rfl | rfl <;> decide
theorem isLf_nI {s : mi_D} (W : WfA s) {a : Nat} (ha : a < nN s 2) : isLf s (nI a) ↔ s.2.1 52 a = 0 := by
  have h60 := W.1.2
  unfold isLf isAc
  rw [W.1.1, mi_at_nI _ _ (by omega)]
  exact ⟨fun q => q.2, fun q => ⟨inR_j ha (by omega), q⟩⟩
theorem take_sn {α : Type} {B : List α} {i : Nat} (h : i < B.length) : B.take i ++ [B[i]] = B.take (i + 1) := by
  rw [List.take_succ, List.getElem?_eq_getElem h]
  rfl
section CLS
variable {N d ln la lb lim : Nat} {δ s : mi_D}
theorem Ls_c2 (hl : mi_Ls ln la lb lim) {δ' : mi_D} {fs : List (Nat × Nat)} {as ls : List Nat} (f : Fr [(ln, 2)] [la] [lb, 27] δ δ') (h : lim = 60) (h1 : (32, 2) ∉ fs ∧ (38, 2) ∉ fs) (h2 : 33 ∉ as ∧ 39 ∉ as) (h3 : 34 ∉ ls ∧ 40 ∉ ls ∧ 27 ∉ ls) : Kp fs as ls δ δ' := by
  rcases hl with ⟨rfl, rfl, rfl, _⟩ | ⟨_, _, _, e⟩ | ⟨rfl, rfl, rfl, _⟩
  · refine f.kp (fun p hp q => h1.1 (List.mem_singleton.mp q ▸ hp)) (fun p hp q => h2.1 (List.mem_singleton.mp q ▸ hp)) (fun p hp q => ?_)
    rcases List.mem_cons.mp q with q | q
    · exact h3.1 (q ▸ hp)
    · exact h3.2.2 (List.mem_singleton.mp q ▸ hp)
  · omega
  · refine f.kp (fun p hp q => h1.2 (List.mem_singleton.mp q ▸ hp)) (fun p hp q => h2.2 (List.mem_singleton.mp q ▸ hp)) (fun p hp q => ?_)
    rcases List.mem_cons.mp q with q | q
    · exact h3.2.1 (q ▸ hp)
    · exact h3.2.2 (List.mem_singleton.mp q ▸ hp)
theorem cc_isClosedOut (hd : 7 ≤ d) (A : AbA δ s) (W : WfA s) {a : Nat} (ha : a < nN s 2) {Q : Int32 → mi_D → Prop} (k : Q (bI (s.2.1 52 a = 0 ∧ ¬ s.2.1 50 a < 3)) δ) : mi_wI N d 32 0 [.ref 3, .int (nI a), .null] [] δ Q := by
  have h60 := W.1.2
  have hk := kind_34 (W.2.1 a ha).2.1
  refine q1_isClosedOut_0 (by omega) (fun x1 e1 => cc_isLeaf (by omega) A (by omega) (bI_br (fun h => ?_) (fun h => ?_)))
  · rw [isLf_nI W ha] at h
    rwa [bI_0 (fun q => h q.1)] at k
  · rw [isLf_nI W ha] at h
    rw [mi_at_nI _ _ (by omega), A.2.2.1] at e1
    subst e1
    refine ⟨fun q => ?_, fun q => ⟨fun q2 => ?_, fun q2 => ?_⟩⟩
    · rwa [bI_1 ⟨h, hk.mpr (Or.inl q)⟩] at k
    · rwa [bI_1 ⟨h, hk.mpr (Or.inr q2)⟩] at k
    · rwa [bI_0 (fun z => (hk.mp z.2).elim q q2)] at k
theorem cc_fillClosing (hd : 8 ≤ d) (hl : mi_Ls ln la lb lim) (h60 : lim = 60) (A : AbA δ s) (P : AbP δ s) (E : AbE δ s) (W : WfA s) (WP : WfP s) (WE : WfE s) (ho : ¬ s.1 48 10 = -1) {Q : mi_D → Prop}
    (k : ∀ δ', Lx δ' ln la lb (cloL s (s.1 48 12)) → Fr [(ln, 2)] [la] [lb, 27] δ δ' → Q δ') : mi_wV N d 31 0 [.ref 3, .int (s.1 48 12), .ref ln, .null, .null] [] δ Q := by
  have hb := W.1.2
  have hlb : 27 ∉ [lb] := by rcases hl with ⟨_, _, rfl, _⟩ | ⟨_, _, rfl, _⟩ | ⟨_, _, rfl, _⟩ <;> decide
  have h5 := (clo_ok W WP ho (s.1 48 12)).2.2
  unfold cloL at k
  refine q1_fillClosing_0 (by omega) hl (cc_firstDay (by omega) P (q7_lastDay_0 (by omega) ?_))
  rw [at_c P.2.2.1]
  obtain ⟨c, ec⟩ : ∃ c, c = s.1 48 12 := ⟨_, rfl⟩
  rw [← ec] at k h5 ⊢
  obtain ⟨d1, e1⟩ : ∃ d1, d1 = fday s c := ⟨_, rfl⟩
  obtain ⟨d2, e2⟩ : ∃ d2, d2 = mi_at s 56 c := ⟨_, rfl⟩
  rw [← e1, ← e2] at k h5 ⊢
  refine cc_gather (by omega) E WE hb (fun g hg => cc_lclear (by omega) hl ?_)
  obtain ⟨L, eL⟩ : ∃ L, ordN (s.2.1 49) (nN s 2) = L := ⟨_, rfl⟩
  have hlen : L.length = nN s 2 := by rw [← eL]; exact ordN_len _ _
  rw [eL] at k h5
  have hmem : ∀ y, y ∈ L → y < nN s 2 := fun y hy => by rw [← eL] at hy; exact (ordN_mem _ _ _).mp hy
  have hcl : ∀ i, i ≤ nN s 2 → (clsL s d1 d2 (L.take i)).1 ≤ i := fun i hi => by
    have := (cls_len s d1 d2 (L.take i) (0, fun _ => 0, fun _ => 0)).1
    rw [← cls_def, List.length_take] at this
    have h6 : (clsL s d1 d2 (L.take i)).1 ≤ 0 + min i L.length := this
    omega
  suffices H : ∀ i, i ≤ nN s 2 → ∀ δ', Lx δ' ln la lb (clsL s d1 d2 (L.take i)) → Fr [(ln, 2)] [la] [lb, 27] δ δ' → (∀ a, a < nN s 2 → δ'.2.2 27 a = sumD s (nI a) d1 d2) → mi_wV N d 31 33 [.ref 3, .int c, .ref ln, .int (nI i), .null] [] δ' Q ∧ ∀ x, mi_wV N d 31 33 [.ref 3, .int c, .ref ln, .int (nI i), .int x] [] δ' Q by
    have q := (H 0 (by omega) (mi_setI (rowL δ 27 g) ln 2 0) ⟨by rw [pI_f, if_pos ⟨rfl, rfl⟩]; exact nI_0.symm, fun i hi => absurd hi (Nat.not_lt_zero i), fun i hi => absurd hi (Nat.not_lt_zero i)⟩ ((Fr.rwL (List.mem_cons_of_mem _ (List.mem_singleton.mpr rfl))).xI (List.mem_singleton.mpr rfl)) (fun a ha => by rw [pI_l, rL_l, if_pos rfl]; exact hg a ha)).1
    rwa [nI_0] at q
  intro i hi
  have A' : ∀ δ', Fr [(ln, 2)] [la] [lb, 27] δ δ' → AbA δ' s := fun δ' f => A.c (Ls_c2 hl f h60 (by decide) (by decide) (by decide))
  refine up_ind (P := fun i => ∀ δ', Lx δ' ln la lb (clsL s d1 d2 (L.take i)) → Fr [(ln, 2)] [la] [lb, 27] δ δ' → (∀ a, a < nN s 2 → δ'.2.2 27 a = sumD s (nI a) d1 d2) → mi_wV N d 31 33 [.ref 3, .int c, .ref ln, .int (nI i), .null] [] δ' Q ∧ ∀ x, mi_wV N d 31 33 [.ref 3, .int c, .ref ln, .int (nI i), .int x] [] δ' Q) ?_ ?_ hi
  · intro δ' X' f' h27
    rw [List.take_of_length_le (by omega)] at X'
    have hF : ¬ nI (nN s 2) < δ'.1 4 9 := by rw [(A' δ' f').1, W.1.1]; exact nI_nlt (by omega) (by omega)
    have hO : δ'.1 3 3 = s.1 48 10 := (P.c (Ls_c2 hl f' h60 (by decide) (by decide) (by decide))).2.2.2.2
    have G : mi_wL N (d - 1) 64 0 [.ref ln, .null, .null, .null] [] δ' (fun r2 δ1 => (((lg_cmp r2 0) = 0 → Q δ1) ∧ (¬ (lg_cmp r2 0) = 0 → (mi_wV N (d - 1) 63 0 [.ref ln, .int (δ1.1 3 3), .long (-r2), .null] [] δ1 (fun δ3 => Q δ3))))) := by
      refine cc_ltotal (by omega) hl X' (by omega) ⟨fun h => ?_, fun h => ?_⟩
      · have h' := zc_eq.mp h
        rw [if_pos h'] at k
        exact k δ' X' f'
      · have h' : ¬ sumL (clsL s d1 d2 L) = 0 := fun q => h (zc_eq.mpr q)
        rw [if_neg h'] at k
        rw [hO]
        exact cc_ladd (by omega) hl X' (by omega) (fun δ'' X'' f'' => k δ'' X'' (f'.tr (f''.wk (fun _ q => q) (fun _ q => q) (fun p q => List.mem_cons.mpr (Or.inl (List.mem_singleton.mp q))))))
    exact ⟨q1_fillClosing_33 (by omega) hl (brF hF G), fun x => q1_fillClosing_33a (by omega) hl (brF hF G)⟩
  · intro i hi ih δ' X' f' h27
    have hT : nI i < δ'.1 4 9 := by rw [(A' δ' f').1, W.1.1]; exact nI_lt hi (by omega)
    have hq : i < L.length := by omega
    have hg' : L[i]? = some L[i] := List.getElem?_eq_getElem hq
    have hm : L[i] < nN s 2 := hmem _ (List.getElem_mem hq)
    have e10 : mi_at δ' 10 (nI i) = nI L[i] := by
      rw [mi_at_nI _ _ (by omega)]
      exact (A' δ' f').2.2.2.2.2.2.2.2 i _ (by rw [eL]; exact hg')
    have es : clsL s d1 d2 (L.take (i + 1)) = clsF s d1 d2 (clsL s d1 d2 (L.take i)) L[i] := by rw [← take_sn hq, cls_s]
    have hc := hcl i (by omega)
    have G : ∀ x4, x4 = mi_at δ' 10 (nI i) → mi_wI N (d - 1) 32 0 [.ref 3, .int x4, .null] [] δ' (fun r6 δ5 => ((r6 = 0 → mi_wV N d 31 33 [.ref 3, .int c, .ref ln, .int (nI i + 1), .int x4] [] δ5 Q) ∧ (¬ r6 = 0 → (((lg_cmp (mi_al δ5 27 x4) 0) = 0 → mi_wV N d 31 33 [.ref 3, .int c, .ref ln, .int (nI i + 1), .int x4] [] δ5 Q) ∧ (¬ (lg_cmp (mi_al δ5 27 x4) 0) = 0 → (mi_wV N (d - 1) 63 0 [.ref ln, .int x4, .long (-(mi_al δ5 27 x4)), .null] [] δ5 (fun δ7 => mi_wV N d 31 33 [.ref 3, .int c, .ref ln, .int (nI i + 1), .int x4] [] δ7 Q))))))) := by
      intro x4 e4
      rw [e10] at e4
      subst e4
      have h27' : mi_al δ' 27 (nI L[i]) = sumD s (nI L[i]) d1 d2 := by rw [mi_al_nI _ _ (by omega), h27 _ hm]
      rw [nI_1]
      refine cc_isClosedOut (by omega) (A' δ' f') W hm (bI_br (fun h => ?_) (fun h => ?_))
      · refine (ih δ' ?_ f' h27).2 _
        rw [es]
        unfold clsF
        rw [if_neg (fun q => h ⟨q.1, q.2.1⟩)]
        exact X'
      rw [h27']
      refine ⟨fun h2 => ?_, fun h2 => ?_⟩
      · refine (ih δ' ?_ f' h27).2 _
        rw [es]
        unfold clsF
        rw [if_neg (fun q => q.2.2 (zc_eq.mp h2))]
        exact X'
      · refine cc_ladd (by omega) hl X' (by omega) (fun δ'' X'' f'' => (ih δ'' ?_ (f'.tr (f''.wk (fun _ q => q) (fun _ q => q) (fun p q => List.mem_cons.mpr (Or.inl (List.mem_singleton.mp q))))) (fun a ha => by rw [f''.2.2 27 hlb]; exact h27 a ha)).2 _)
        rw [es]
        unfold clsF
        rw [if_pos ⟨h.1, h.2, fun q => h2 (zc_eq.mpr q)⟩]
        exact X''
    exact ⟨q1_fillClosing_33 (by omega) hl (brT hT G), fun x => q1_fillClosing_33a (by omega) hl (brT hT G)⟩
theorem cc_rfClose (hd : 9 ≤ d) (hl : mi_Ls ln la lb lim) (h60 : lim = 60) (A : AbA δ s) (P : AbP δ s) (E : AbE δ s) (W : Wf s) {Q : Int32 → mi_D → Prop}
    (k : ∀ δ', Fr [(ln, 2)] [la] [lb, 27] δ δ' → (rf_close s = 0 → Lx δ' ln la lb (cloL s (s.1 48 12))) → Q (rf_close s) δ') : mi_wI N d 30 0 [.ref 3, .ref ln] [] δ Q := by
  have k0 := k δ (Fr.rf _ _ _ _)
  unfold rf_close at k k0
  refine q1_refusesClose_0 (by omega) hl ?_
  rw [P.1, P.2.1, P.2.2.2.2]
  refine ⟨fun h => ⟨fun h2 => ?_, fun h2 => ?_⟩, fun h => ?_⟩
  · rw [if_pos (Or.inr h2)] at k0
    exact k0 (fun q => absurd q (by decide))
  · have hb := W.1.1.2
    have ho := clo_ok W.1 W.2.1 h2 (s.1 48 12)
    rw [if_neg (fun q => q.elim (fun z => z h) h2)] at k
    refine cc_fillClosing (by omega) hl h60 A P E W.1 W.2.1 W.2.2.1 h2 (fun δ1 X1 f1 => ?_)
    refine cc_unj (by omega) hl (A.c (Ls_c2 hl f1 h60 (by decide) (by decide) (by decide))) ((E.c (Ls_c2 hl f1 h60 (by decide) (by decide) (by decide))).1) X1 ho.1 (ho.2.1.up hb) (fun δ2 f2 => k δ2 (f1.tr (f2.wk (fun p q => absurd q List.not_mem_nil) (fun p q => absurd q List.not_mem_nil) (fun p q => List.mem_cons.mpr (Or.inr q)))) (fun _ => X1.fr f2 List.not_mem_nil List.not_mem_nil ?_))
    rcases hl with ⟨_, _, rfl, _⟩ | ⟨_, _, rfl, _⟩ | ⟨_, _, rfl, _⟩ <;> decide
  · rw [if_pos (Or.inl h)] at k0
    exact k0 (fun q => absurd q (by decide))
end CLS
