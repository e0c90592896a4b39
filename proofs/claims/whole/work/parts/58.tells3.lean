/-! what is told: under an account, the ledger, parts -/
def anc (s : mi_D) (a : Nat) : Nat → Int32
  | 0 => nI a
  | n + 1 => if anc s a n = -1 then -1 else mi_at s 51 (anc s a n)
abbrev und (s : mi_D) (a : Nat) (g : Int32) : Prop := ∃ n, n < 6 ∧ anc s a n = g
theorem anc_s (s : mi_D) (a n : Nat) : anc s a (n + 1) = if anc s a n = -1 then -1 else mi_at s 51 (anc s a n) := rfl
theorem anc_ok {s : mi_D} (W : WfA s) {a : Nat} (ha : a < nN s 2) (n : Nat) : anc s a n = -1 ∨ ∃ b dd, b < nN s 2 ∧ anc s a n = nI b ∧ s.2.1 53 b = nI dd ∧ dd + n ≤ 5 ∧ (0 < n → s.2.1 52 b = 1) := by
  have h60 := W.1.2
  induction n with
  | zero =>
    obtain ⟨e, he, ee⟩ := dep5 W ha
    exact Or.inr ⟨a, e, ha, rfl, ee, he, fun q => absurd q (Nat.lt_irrefl 0)⟩
  | succ n ih =>
    rw [anc_s]
    rcases ih with z | ⟨b, dd, hb, eb, ed, hd, _⟩
    · exact Or.inl (if_pos z)
    · rw [eb, if_neg (nI_ne1 (by omega)), mi_at_nI _ _ (by omega)]
      rcases W.2.2.2 b hb with ⟨z, _⟩ | ⟨c, dc, hc, ec, g1, _, hdc, edc, edb⟩
      · exact Or.inl z
      · refine Or.inr ⟨c, dc, by omega, ec, edc, ?_, fun _ => g1⟩
        have := (nI_eq (by omega) (by omega)).mp (ed.symm.trans edb)
        omega
theorem anc_6 {s : mi_D} (W : WfA s) {a : Nat} (ha : a < nN s 2) : anc s a 6 = -1 := by
  rcases anc_ok W ha 6 with z | ⟨b, dd, _, _, _, h, _⟩
  · exact z
  · omega
theorem anc_m1 {s : mi_D} {a n m : Nat} (h : anc s a n = -1) (hm : n ≤ m) : anc s a m = -1 := by
  induction hm with
  | refl => exact h
  | @step m _ ih => exact if_pos ih
theorem und_leaf {s : mi_D} (W : WfA s) {a j : Nat} (ha : a < nN s 2) (hj : j < nN s 2) (h : s.2.1 52 j = 0) : und s a (nI j) ↔ a = j := by
  have h60 := W.1.2
  constructor
  · intro ⟨n, hn, e⟩
    rcases Nat.eq_zero_or_pos n with z | z
    · subst z
      exact (nI_eq (by omega) (by omega)).mp e
    · rcases anc_ok W ha n with y | ⟨b, dd, hb, eb, _, _, g⟩
      · rw [y] at e
        exact absurd e.symm (nI_ne1 (by omega))
      · have := (nI_eq (by omega) (by omega)).mp (eb.symm.trans e)
        subst this
        rw [g z] at h
        exact absurd h (by decide)
  · intro e
    subst e
    exact ⟨0, by omega, rfl⟩
/-- over all leaves of an account -/
def tu (s : mi_D) (f : Nat → Int64) (g : Int32) : Nat → Int64 := itN (fun a t => if s.2.1 52 a = 0 ∧ und s a g then t + f a else t) 0
theorem tu_s (s : mi_D) (f : Nat → Int64) (g : Int32) (n : Nat) : tu s f g (n + 1) = if s.2.1 52 n = 0 ∧ und s n g then tu s f g n + f n else tu s f g n := rfl
theorem tu_leaf {s : mi_D} (W : WfA s) {j : Nat} (hj : j < nN s 2) (h : s.2.1 52 j = 0) (f : Nat → Int64) : ∀ n, n ≤ nN s 2 → tu s f (nI j) n = if j < n then f j else 0 := by
  intro n
  induction n with
  | zero => intro _; rfl
  | succ n ih =>
    intro hn
    rw [tu_s, ih (by omega)]
    have hu := und_leaf W (a := n) (by omega) hj h
    by_cases e : n = j
    · subst e
      rw [if_pos ⟨h, hu.mpr rfl⟩, if_neg (Nat.lt_irrefl _), if_pos (Nat.lt_succ_self _), Int64.zero_add]
    · rw [if_neg (fun q => e (hu.mp q.2))]
      by_cases y : j < n
      · rw [if_pos y, if_pos (by omega)]
      · rw [if_neg y, if_neg (by omega)]
def B_balance (s : mi_D) (p : Int32) : Int64 := if s.1 48 0 = 0 ∨ ¬ isAc s p then LST else tu s (s.2.2 55) p (nN s 2)
def B_sum (s : mi_D) (p d1 d2 : Int32) : Int64 := if s.1 48 0 = 0 ∨ ¬ isAc s p then LST else tu s (fun a => sumD s (nI a) d1 d2) p (nN s 2)
section CUN
variable {N d : Nat} {δ s : mi_D}
theorem cm_isUnder (hd : 5 ≤ d) (G : Agr s δ) (W : WfA s) {a : Nat} (ha : a < nN s 2) {g : Int32} (hg : ¬ g = -1) {Q : Int32 → mi_D → Prop} (k : Q (bI (und s a g)) δ) : mi_wI N d 193 0 [.ref 48, .int (nI a), .int g, .null] [] δ Q := by
  have h60 := W.1.2
  refine q12_isUnder_0 hd ?_
  suffices H : ∀ n, n ≤ 6 → (∀ m, m < n → ¬ anc s a m = g) → mi_wI N d 193 2 [.ref 48, .int (nI a), .int g, .int (anc s a n)] [] δ Q by
    exact H 0 (by omega) (fun m hm => absurd hm (Nat.not_lt_zero m))
  intro n hn
  have stop : ∀ n, (∀ m, m < n → ¬ anc s a m = g) → anc s a n = -1 → mi_wI N d 193 22 [.ref 48, .int (nI a), .int g, .int (anc s a n)] [] δ Q := by
    intro n hno e
    refine q12_isUnder_22 hd ⟨fun q => absurd (q.symm.trans e) hg, fun _ => ?_⟩
    rwa [bI_0 (fun ⟨m, hm, em⟩ => by
      rcases Nat.lt_or_ge m n with z | z
      · exact hno m z em
      · rw [anc_m1 e z] at em; exact hg em.symm)] at k
  refine up_ind (P := fun n => (∀ m, m < n → ¬ anc s a m = g) → mi_wI N d 193 2 [.ref 48, .int (nI a), .int g, .int (anc s a n)] [] δ Q) ?_ ?_ hn
  · intro hno
    exact q12_isUnder_2 hd ⟨fun _ => stop 6 hno (anc_6 W ha), fun q => absurd (anc_6 W ha) q⟩
  · intro n hn ih hno
    refine q12_isUnder_2 hd ⟨fun q => stop n hno q, fun q => ⟨fun q2 => q12_isUnder_22 hd ⟨fun _ => ?_, fun q3 => absurd q2 q3⟩, fun q2 => ?_⟩⟩
    · rwa [bI_1 ⟨n, hn, q2⟩] at k
    · obtain ⟨b, dd, hb, eb, _, _, _⟩ := (anc_ok W ha n).resolve_left q
      refine ⟨by rw [eb]; exact mi_ix_nI (by omega) (by omega), fun x ex => ?_⟩
      have es := anc_s s a n
      rw [if_neg q, eb, mi_at_nI _ _ (by omega)] at es
      rw [eb, nI_clamp (by omega), G.2.1 51 (by decide), ← es] at ex
      subst ex
      refine ih (fun m hm => ?_)
      rcases Nat.lt_or_eq_of_le (Nat.lt_succ_iff.mp hm) with z | z
      · exact hno m z
      · subst z; exact q2
theorem cc_isUnder (hd : 5 ≤ d) (A : AbA δ s) (W : WfA s) {a : Nat} (ha : a < nN s 2) {g : Int32} (hg : ¬ g = -1) (hne : ¬ nI a = g) {Q : Int32 → mi_D → Prop} (k : Q (bI (und s a g)) δ) : mi_wI N d 12 0 [.ref 4, .int (nI a), .int g, .null, .null] [] δ Q := by
  have h60 := W.1.2
  have e1 : anc s a 1 = mi_at s 51 (nI a) := if_neg (nI_ne1 (by omega))
  refine q0_isUnder_0 hd (fun x1 ex => ?_)
  rw [at_c A.2.2.2.1, ← e1] at ex
  subst ex
  suffices H : ∀ n, n ≤ 5 → (∀ m, m < n + 1 → ¬ anc s a m = g) → mi_wI N d 12 12 [.ref 4, .int (nI a), .int g, .int (anc s a (n + 1)), .int (nI n)] [] δ Q by
    have q := H 0 (by omega) (fun m hm => by rw [show m = 0 by omega]; exact hne)
    rwa [nI_0] at q
  intro n hn
  have stop : ∀ n, (∀ m, m < n + 1 → ¬ anc s a m = g) → anc s a (n + 1) = -1 → Q 0 δ := by
    intro n hno e
    rwa [bI_0 (fun ⟨m, hm, em⟩ => by
      rcases Nat.lt_or_ge m (n + 1) with z | z
      · exact hno m z em
      · rw [anc_m1 e z] at em; exact hg em.symm)] at k
  refine up_ind (P := fun n => (∀ m, m < n + 1 → ¬ anc s a m = g) → mi_wI N d 12 12 [.ref 4, .int (nI a), .int g, .int (anc s a (n + 1)), .int (nI n)] [] δ Q) ?_ ?_ hn
  · intro hno
    exact q0_isUnder_12 hd (brF (by decide) (stop 5 hno (anc_6 W ha)))
  · intro n hn ih hno
    refine q0_isUnder_12 hd (brT (nI_lt (b := 5) (by omega) (by omega)) ⟨fun q => stop n hno q, fun q => ⟨fun q2 => ?_, fun q2 x ex => ?_⟩⟩)
    · rwa [bI_1 ⟨n + 1, by omega, q2⟩] at k
    · have es := anc_s s a (n + 1)
      rw [if_neg q] at es
      rw [at_c A.2.2.2.1, ← es] at ex
      subst ex
      rw [nI_1]
      refine ih (fun m hm => ?_)
      rcases Nat.lt_or_eq_of_le (Nat.lt_succ_iff.mp hm) with z | z
      · exact hno m z
      · subst z; exact q2
theorem cc_totalUnder (hd : 7 ≤ d) {rw rlim : Nat} (hk : mi_k (mi_GG N) rw = 6) (hl : mi_len (mi_GG N) rw = rlim + 1) (A : AbA δ s) (W : WfA s) {f : Nat → Int64} (hf : ∀ a, a < nN s 2 → δ.2.2 rw a = f a) {p : Int32} (hp : isAc s p) {Q : Int64 → mi_D → Prop} (k : Q (tu s f p (nN s 2)) δ) : mi_wL N d 11 0 [.ref 4, .int p, .ref rw, .null, .null, .null] [] δ Q := by
  have h60 := W.1.2
  obtain ⟨j, hj, ej, _, _, _⟩ := at_ac W hp
  subst ej
  refine q0_totalUnder_0 (by omega) hk hl (cc_isLeaf (by omega) A (by omega) (bI_br (fun h => ?_) (fun h => ?_)))
  · rw [isLf_nI W hj] at h
    suffices H : ∀ i, i ≤ nN s 2 → mi_wL N d 11 19 [.ref 4, .int (nI j), .ref rw, .long (tu s f (nI j) i), .null, .int (nI i)] [] δ Q by
      have q := H 0 (by omega)
      rwa [nI_0] at q
    intro i hi
    refine up_ind (P := fun i => mi_wL N d 11 19 [.ref 4, .int (nI j), .ref rw, .long (tu s f (nI j) i), .null, .int (nI i)] [] δ Q) ?_ ?_ hi
    · exact q0_totalUnder_19 (by omega) hk hl (brF (by rw [A.1, W.1.1]; exact nI_nlt (Nat.le_refl _) (by omega)) k)
    · intro i hi ih
      have es := tu_s s f (nI j) i
      refine q0_totalUnder_19 (by omega) hk hl (brT (by rw [A.1, W.1.1]; exact nI_lt hi (by omega)) (cc_isLeaf (by omega) A (by omega) (bI_br (fun h2 => ?_) (fun h2 => ?_))))
      · rw [isLf_nI W hi] at h2
        rw [if_neg (fun q => h2 q.1)] at es
        rw [es] at ih
        rw [nI_1]
        exact ih
      · rw [isLf_nI W hi] at h2
        have hne : ¬ nI i = nI j := fun q => by
          have := (nI_eq (by omega) (by omega)).mp q
          subst this
          exact h h2
        refine cc_isUnder (by omega) A W hi (nI_ne1 (by omega)) hne (bI_br (fun h3 => ?_) (fun h3 x ex => ?_))
        · rw [if_neg (fun q => h3 q.2)] at es
          rw [es] at ih
          rw [nI_1]
          exact ih
        · rw [if_pos ⟨h2, h3⟩] at es
          rw [mi_al_nI _ _ (by omega), hf i hi, ← es] at ex
          rw [ex, nI_1]
          exact ih
  · rw [isLf_nI W hj] at h
    rw [tu_leaf W hj h f _ (Nat.le_refl _), if_pos hj] at k
    rw [mi_al_nI _ _ (by omega), hf j hj]
    exact k
theorem cm_balanceOf (hd : 6 ≤ d) (G : Agr s δ) (W : WfA s) {p : Int32} (hp : ¬ p = -1) {Q : Int64 → mi_D → Prop} (k : Q (tu s (s.2.2 55) p (nN s 2)) δ) : mi_wL N d 194 0 [.ref 48, .int p, .null, .null, .null] [] δ Q := by
  have h60 := W.1.2
  have d2 : δ.1 48 2 = nI (nN s 2) := (G.1 (48, 2) (by decide)).trans W.1.1
  refine q12_balanceOf_0 (by omega) ?_
  suffices H : ∀ i, i ≤ nN s 2 → mi_wL N d 194 5 [.ref 48, .int p, .long (tu s (s.2.2 55) p i), .null, .int (nI i)] [] δ Q by
    have q := H 0 (by omega)
    rwa [nI_0] at q
  intro i hi
  refine up_ind (P := fun i => mi_wL N d 194 5 [.ref 48, .int p, .long (tu s (s.2.2 55) p i), .null, .int (nI i)] [] δ Q) ?_ ?_ hi
  · exact q12_balanceOf_5 (by omega) (brF (by rw [d2]; exact nI_nlt (Nat.le_refl _) (by omega)) k)
  · intro i hi ih
    have es := tu_s s (s.2.2 55) p i
    refine q12_balanceOf_5 (by omega) (brT (by rw [d2]; exact nI_lt hi (by omega)) ⟨mi_ix_nI (by omega) (by omega), ?_⟩)
    rw [nI_clamp (by omega), G.2.1 52 (by decide)]
    refine ⟨fun h2 => cm_isUnder (by omega) G W hi hp (bI_br (fun h3 x ex => ?_) (fun h3 => ⟨mi_ix_nI (by omega) (by omega), fun x ex => ?_⟩)), fun h2 x ex => ?_⟩
    · rw [if_neg (fun q => h3 q.2)] at es
      rw [es] at ih
      rw [ex, Int64.add_zero, nI_1]
      exact ih
    · rw [if_pos ⟨h2, h3⟩] at es
      rw [G.2.2 55 (by decide), ← es] at ex
      rw [ex, nI_1]
      exact ih
    · rw [if_neg (fun q => h2 q.1)] at es
      rw [es] at ih
      rw [ex, Int64.add_zero, nI_1]
      exact ih
theorem cp_balance (hd : 8 ≤ d) (H : Abs δ s) (U : δ.1 2 7 = s.1 48 0) (W : Wf s) {p : Int32} {Q : Int64 → mi_D → Prop} (k : Q (B_balance s p) δ) : mi_wL N d 129 0 [.ref 2, .int p] [] δ Q := by
  unfold B_balance at k
  refine q11_balance_0 (by omega) ⟨fun h => by rwa [if_pos (Or.inl (U ▸ h))] at k, fun h => cc_has (by omega) H.1 (bI_br (fun h2 => by rwa [if_pos (Or.inr h2)] at k) (fun h2 => ?_))⟩
  rw [if_neg (fun q => q.elim (fun q => h (U.trans q)) (fun q => q h2))] at k
  exact cc_totalUnder (by omega) (gk_11 N) (gl_11 N) H.1 W.1 (fun a _ => by rw [H.1.2.2.2.2.2.2.2.1]) h2 k
theorem cm_balance (hd : 7 ≤ d) (G : Agr s δ) (W : Wf s) {p : Int32} {Q : Int64 → mi_D → Prop} (k : Q (B_balance s p) δ) : mi_wL N d 195 0 [.ref 48, .int p] [] δ Q := by
  unfold B_balance at k
  refine q12_balance_0 (by omega) ?_
  rw [G.1 (48, 0) (by decide)]
  refine ⟨fun h => by rwa [if_pos (Or.inl h)] at k, fun h => cm_isAccount (by omega) G W.1 (bI_br (fun h2 => by rwa [if_pos (Or.inr h2)] at k) (fun h2 => ?_))⟩
  rw [if_neg (fun q => q.elim h (fun q => q h2))] at k
  exact cm_balanceOf (by omega) G W.1 (fun q => h2.1 (by rw [q]; decide)) k
theorem cp_sum (hd : 9 ≤ d) (H : Abs δ s) (U : δ.1 2 7 = s.1 48 0) (W : Wf s) {p d1 d2 : Int32} {Q : Int64 → mi_D → Prop} (k : ∀ δ', Abs δ' s → KX δ δ' → Q (B_sum s p d1 d2) δ') : mi_wL N d 130 0 [.ref 2, .int p, .int d1, .int d2] [] δ Q := by
  unfold B_sum at k
  refine q11_sum_0 (by omega) ⟨fun h => ?_, fun h => cc_has (by omega) H.1 (bI_br (fun h2 => ?_) (fun h2 => ?_))⟩
  · have k := k δ H Kp.rf
    rwa [if_pos (Or.inl (U ▸ h))] at k
  · have k := k δ H Kp.rf
    rwa [if_pos (Or.inr h2)] at k
  · rw [if_neg (fun q => q.elim (fun q => h (U.trans q)) (fun q => q h2))] at k
    refine q1_sumInDays_0 (by omega) (cc_gather (by omega) H.2.2.1 W.2.2.1 W.1.1.2 (fun g hg => ?_))
    exact cc_totalUnder (by omega) (gk_27 N) (gl_27 N) (H.1.c (Kp.rowL (by decide))) W.1 (fun a ha => by rw [rL_l, if_pos rfl]; exact hg a ha) h2 (k _ (H.c (Kp.rowL (by decide))) (Kp.rowL (by decide)))
theorem cm_sum (hd : 7 ≤ d) (G : Agr s δ) (W : Wf s) {p d1 d2 : Int32} {Q : Int64 → mi_D → Prop} (k : Q (B_sum s p d1 d2) δ) : mi_wL N d 196 0 [.ref 48, .int p, .int d1, .int d2, .null, .null, .null] [] δ Q := by
  have h60 := W.1.1.2
  have dd2 : δ.1 48 2 = nI (nN s 2) := (G.1 (48, 2) (by decide)).trans W.1.1.1
  unfold B_sum at k
  refine q12_sum_0 (by omega) ?_
  rw [G.1 (48, 0) (by decide)]
  refine ⟨fun h => by rwa [if_pos (Or.inl h)] at k, fun h => cm_isAccount (by omega) G W.1 (bI_br (fun h2 => by rwa [if_pos (Or.inr h2)] at k) (fun h2 => ?_))⟩
  rw [if_neg (fun q => q.elim h (fun q => q h2))] at k
  have hp : ¬ p = -1 := fun q => h2.1 (by rw [q]; decide)
  suffices H : ∀ i, i ≤ nN s 2 → mi_wL N d 196 25 [.ref 48, .int p, .int d1, .int d2, .long (tu s (fun a => sumD s (nI a) d1 d2) p i), .null, .int (nI i)] [] δ Q by
    have q := H 0 (by omega)
    rwa [nI_0] at q
  intro i hi
  refine up_ind (P := fun i => mi_wL N d 196 25 [.ref 48, .int p, .int d1, .int d2, .long (tu s (fun a => sumD s (nI a) d1 d2) p i), .null, .int (nI i)] [] δ Q) ?_ ?_ hi
  · exact q12_sum_25 (by omega) (brF (by rw [dd2]; exact nI_nlt (Nat.le_refl _) (by omega)) k)
  · intro i hi ih
    have es := tu_s s (fun a => sumD s (nI a) d1 d2) p i
    refine q12_sum_25 (by omega) (brT (by rw [dd2]; exact nI_lt hi (by omega)) ⟨mi_ix_nI (by omega) (by omega), ?_⟩)
    rw [nI_clamp (by omega), G.2.1 52 (by decide)]
    refine ⟨fun h2 => cm_isUnder (by omega) G W.1 hi hp (bI_br (fun h3 x ex => ?_) (fun h3 => cm_sumOf (by omega) G W.2.2.1 (fun x ex => ?_))), fun h2 x ex => ?_⟩
    · rw [if_neg (fun q => h3 q.2)] at es
      rw [es] at ih
      rw [ex, Int64.add_zero, nI_1]
      exact ih
    · rw [if_pos ⟨h2, h3⟩] at es
      rw [ex, nI_1, ← es]
      exact ih
    · rw [if_neg (fun q => h2 q.1)] at es
      rw [es] at ih
      rw [ex, Int64.add_zero, nI_1]
      exact ih
end CUN
/-! the ledger -/
def wlk (a i w : Int32) : List (Nat × Int32 × Int64) → Nat → Int64 → Int64
  | [], _, _ => LST
  | x :: L, n, b => if x.2.1 = a then (if nI n = i then (if w = 0 then Int32.toInt64 (nI x.1) else if w = 1 then x.2.2 else if w = 2 then b + x.2.2 else LST) else wlk a i w L (n + 1) (b + x.2.2)) else wlk a i w L n b
def lnsE (s : mi_D) (e : Nat) : Nat → Nat → List (Nat × Int32 × Int64)
  | _, 0 => []
  | j, m + 1 => (e, s.2.1 64 (fromN s e + j), s.2.2 65 (fromN s e + j)) :: lnsE s e (j + 1) m
def lnsF (s : mi_D) : Nat → Nat → List (Nat × Int32 × Int64)
  | _, 0 => []
  | e, m + 1 => lnsE s e 0 (fromN s (e + 1) - fromN s e) ++ lnsF s (e + 1) m
def B_ledger (s : mi_D) (a i w : Int32) : Int64 := if s.1 48 0 = 0 ∨ ¬ isLf s a ∨ i < 0 then LST else wlk a i w (lnsF s 0 (nN s 15)) 0 0
def cntM (a : Int32) : List (Nat × Int32 × Int64) → Nat
  | [] => 0
  | x :: L => if x.2.1 = a then cntM a L + 1 else cntM a L
theorem cntM_app (a : Int32) (L M : List (Nat × Int32 × Int64)) : cntM a (L ++ M) = cntM a L + cntM a M := by
  induction L with
  | nil => show cntM a M = 0 + cntM a M; omega
  | cons x L ih =>
    show (if x.2.1 = a then cntM a (L ++ M) + 1 else cntM a (L ++ M)) = (if x.2.1 = a then cntM a L + 1 else cntM a L) + cntM a M
    rw [ih]
    split <;> omega
theorem wlk_no {a i w : Int32} : ∀ (L : List (Nat × Int32 × Int64)) (n : Nat) (b : Int64), (∀ m, n ≤ m → m < n + cntM a L → ¬ nI m = i) → wlk a i w L n b = LST := by
  intro L
  induction L with
  | nil => intro n b _; rfl
  | cons x L ih =>
    intro n b h
    have ec : cntM a (x :: L) = if x.2.1 = a then cntM a L + 1 else cntM a L := rfl
    unfold wlk
    by_cases q : x.2.1 = a
    · rw [if_pos q] at ec
      rw [if_pos q, if_neg (h n (Nat.le_refl _) (by omega))]
      exact ih _ _ (fun m h1 h2 => h m (by omega) (by omega))
    · rw [if_neg q] at ec
      rw [if_neg q]
      exact ih _ _ (fun m h1 h2 => h m h1 (by omega))
theorem wlk_w {a i w : Int32} (hw : ¬ w = 0 ∧ ¬ w = 1 ∧ ¬ w = 2) : ∀ (L : List (Nat × Int32 × Int64)) (n : Nat) (b : Int64), wlk a i w L n b = LST := by
  intro L
  induction L with
  | nil => intro n b; rfl
  | cons x L ih =>
    intro n b
    unfold wlk
    rw [if_neg hw.1, if_neg hw.2.1, if_neg hw.2.2, ih, ih]
    split
    · split <;> rfl
    · rfl
theorem cntM_E (s : mi_D) (a e : Nat) : ∀ m j, cntL s a (fromN s e + j) + cntM (nI a) (lnsE s e j m) = cntL s a (fromN s e + (j + m)) := by
  intro m
  induction m with
  | zero => intro j; rfl
  | succ m ih =>
    intro j
    have h := ih (j + 1)
    have e1 : cntL s a (fromN s e + (j + 1)) = if s.2.1 64 (fromN s e + j) = nI a then cntL s a (fromN s e + j) + 1 else cntL s a (fromN s e + j) := rfl
    have e2 : cntM (nI a) (lnsE s e j (m + 1)) = if s.2.1 64 (fromN s e + j) = nI a then cntM (nI a) (lnsE s e (j + 1) m) + 1 else cntM (nI a) (lnsE s e (j + 1) m) := rfl
    rw [show j + (m + 1) = j + 1 + m by omega, ← h, e1, e2]
    split <;> omega
theorem cntM_F {s : mi_D} (W : WfE s) (a : Nat) : ∀ m e, e + m ≤ nN s 15 → cntL s a (fromN s e) + cntM (nI a) (lnsF s e m) = cntL s a (fromN s (e + m)) := by
  intro m
  induction m with
  | zero => intro e _; rfl
  | succ m ih =>
    intro e he
    have h := ih (e + 1) (by omega)
    have w := W.2.2.2.1 e (by omega)
    have h1 := cntM_E s a e (fromN s (e + 1) - fromN s e) 0
    have e2 : lnsF s e (m + 1) = lnsE s e 0 (fromN s (e + 1) - fromN s e) ++ lnsF s (e + 1) m := rfl
    rw [e2, cntM_app, show e + (m + 1) = e + 1 + m by omega, ← h]
    rw [show fromN s e + (0 + (fromN s (e + 1) - fromN s e)) = fromN s (e + 1) by omega, Nat.add_zero] at h1
    omega
section CLG
variable {N d : Nat} {δ s : mi_D}
theorem cp_ledger (hd : 8 ≤ d) (H : Abs δ s) (U : δ.1 2 7 = s.1 48 0) (W : Wf s) {a i w : Int32} {Q : Int64 → mi_D → Prop} (k : Q (B_ledger s a i w) δ) : mi_wL N d 133 0 [.ref 2, .int a, .int i, .int w] [] δ Q := by
  have E := H.2.2.1
  have WE := W.2.2.1
  have hn := WE.1.2
  have h60 := W.1.1.2
  have hfE := fromN_le WE _ (Nat.le_refl (nN s 15))
  unfold B_ledger at k
  refine q11_ledger_0 (by omega) ⟨fun h => by rwa [if_pos (Or.inl (U ▸ h))] at k, fun h => cc_isLeaf (by omega) H.1 (by omega) (bI_br (fun h2 => by rwa [if_pos (Or.inr (Or.inl h2))] at k) (fun h2 => ⟨fun h3 => by rwa [if_pos (Or.inr (Or.inr h3))] at k, fun h3 => ?_⟩))⟩
  rw [if_neg (fun q => q.elim (fun q => h (U.trans q)) (fun q => q.elim (fun q => q h2) h3))] at k
  obtain ⟨j, hj, ej, _, _, _⟩ := at_ac W.1 h2.1
  subst ej
  obtain ⟨m, hm, em⟩ := nI_of h3
  subst em
  rw [mi_at_nI _ _ (by omega), E.2.2.2.2.2.2.2.2.2.2 j hj]
  obtain ⟨res, er⟩ : ∃ res, wlk (nI j) (nI m) w (lnsF s 0 (nN s 15)) 0 0 = res := ⟨_, rfl⟩
  rw [er] at k
  refine ⟨fun h4 => q2_ledgerLine_0 (by omega) ?_, fun h4 => ?_⟩
  · suffices HH : ∀ e, e ≤ nN s 15 → ∀ n b, wlk (nI j) (nI m) w (lnsF s e (nN s 15 - e)) n b = res → mi_wL N (d - 1) 45 9 [.ref 17, .int (nI j), .int (nI m), .int w, .int (nI n), .long b, .null, .int (nI e), .null] [] δ Q ∧ ∀ x, mi_wL N (d - 1) 45 9 [.ref 17, .int (nI j), .int (nI m), .int w, .int (nI n), .long b, .null, .int (nI e), .int x] [] δ Q by
      have q := (HH 0 (by omega) 0 0 er).1
      rwa [nI_0] at q
    intro e he
    refine up_ind (P := fun e => ∀ n b, wlk (nI j) (nI m) w (lnsF s e (nN s 15 - e)) n b = res → mi_wL N (d - 1) 45 9 [.ref 17, .int (nI j), .int (nI m), .int w, .int (nI n), .long b, .null, .int (nI e), .null] [] δ Q ∧ ∀ x, mi_wL N (d - 1) 45 9 [.ref 17, .int (nI j), .int (nI m), .int w, .int (nI n), .long b, .null, .int (nI e), .int x] [] δ Q) ?_ ?_ he
    · intro n b hr
      have hF : ¬ nI (nN s 15) < δ.1 17 9 := by rw [E.1, WE.1.1]; exact nI_nlt (Nat.le_refl _) (by omega)
      rw [Nat.sub_self] at hr
      have hr : LST = res := hr
      rw [← hr] at k
      exact ⟨q2_ledgerLine_9 (by omega) (brF hF k), fun x => q2_ledgerLine_9a (by omega) (brF hF k)⟩
    · intro e he ih n b hr
      have hT : nI e < δ.1 17 9 := by rw [E.1, WE.1.1]; exact nI_lt he (by omega)
      have ww := WE.2.2.2.1 e he
      have wf := fromN_le WE (e + 1) (by omega)
      have EE := E.2.2.2.2.2.2.2.2.2.1 e he
      have eF : lnsF s e (nN s 15 - e) = lnsE s e 0 (fromN s (e + 1) - fromN s e) ++ lnsF s (e + 1) (nN s 15 - (e + 1)) := by
        rw [show nN s 15 - e = (nN s 15 - (e + 1)) + 1 by omega]
        rfl
      rw [eF] at hr
      have inner : ∀ i, i ≤ fromN s (e + 1) - fromN s e → ∀ n b, wlk (nI j) (nI m) w (lnsE s e i (fromN s (e + 1) - fromN s e - i) ++ lnsF s (e + 1) (nN s 15 - (e + 1))) n b = res → mi_wL N (d - 1) 45 21 [.ref 17, .int (nI j), .int (nI m), .int w, .int (nI n), .long b, .null, .int (nI e), .int (nI i)] [] δ Q := by
        intro i hi
        refine up_ind (P := fun i => ∀ n b, wlk (nI j) (nI m) w (lnsE s e i (fromN s (e + 1) - fromN s e - i) ++ lnsF s (e + 1) (nN s 15 - (e + 1))) n b = res → mi_wL N (d - 1) 45 21 [.ref 17, .int (nI j), .int (nI m), .int w, .int (nI n), .long b, .null, .int (nI e), .int (nI i)] [] δ Q) ?_ ?_ hi
        · intro n b hr
          refine q2_ledgerLine_21 (by omega) (brF (by rw [mi_at_nI _ _ (by omega), EE.2]; exact nI_nlt (Nat.le_refl _) (by omega)) ?_)
          rw [nI_1]
          rw [Nat.sub_self] at hr
          exact (ih n b hr).2 _
        · intro i hi ih2 n b hr
          rw [show fromN s (e + 1) - fromN s e - i = (fromN s (e + 1) - fromN s e - (i + 1)) + 1 by omega] at hr
          have hr : (if s.2.1 64 (fromN s e + i) = nI j then (if nI n = nI m then (if w = 0 then Int32.toInt64 (nI e) else if w = 1 then s.2.2 65 (fromN s e + i) else if w = 2 then b + s.2.2 65 (fromN s e + i) else LST) else wlk (nI j) (nI m) w (lnsE s e (i + 1) (fromN s (e + 1) - fromN s e - (i + 1)) ++ lnsF s (e + 1) (nN s 15 - (e + 1))) (n + 1) (b + s.2.2 65 (fromN s e + i))) else wlk (nI j) (nI m) w (lnsE s e (i + 1) (fromN s (e + 1) - fromN s e - (i + 1)) ++ lnsF s (e + 1) (nN s 15 - (e + 1))) n b) = res := hr
          have eac : mi_at δ 25 (mi_at δ 24 (nI e) + nI i) = s.2.1 64 (fromN s e + i) := by rw [mi_at_nI _ 24 (by omega), EE.1, nI_add, mi_at_nI _ _ (by omega), E.2.2.2.2.2.2.1]
          have eam : mi_al δ 26 (mi_at δ 24 (nI e) + nI i) = s.2.2 65 (fromN s e + i) := by rw [mi_at_nI _ 24 (by omega), EE.1, nI_add, mi_al_nI _ _ (by omega), E.2.2.2.2.2.2.2.1]
          refine q2_ledgerLine_21 (by omega) (brT (by rw [mi_at_nI _ _ (by omega), EE.2]; exact nI_lt hi (by omega)) (q2_accountOf_0 (by omega) ?_))
          rw [eac]
          refine ⟨fun q => q2_amountOf_0 (by omega) (fun x5 e5 => ?_), fun q => ?_⟩
          · rw [if_pos q] at hr
            rw [eam] at e5
            refine ⟨fun q2 => q2_amountOf_0 (by omega) (q2_toldOfLedger_0 (by omega) ?_), fun q2 => ?_⟩
            · rw [if_pos q2] at hr
              rw [eam, e5]
              rw [← hr] at k
              refine ⟨fun z => by rwa [if_pos z] at k, fun z => ?_, fun z => ?_, fun z0 z1 z2 => by rwa [if_neg z0, if_neg z1, if_neg z2] at k⟩
              · subst z; rwa [if_neg (by decide), if_pos rfl] at k
              · subst z; rwa [if_neg (by decide), if_neg (by decide), if_pos rfl] at k
            · rw [if_neg q2] at hr
              rw [nI_1, nI_1, e5]
              exact ih2 _ _ hr
          · rw [if_neg q] at hr
            rw [nI_1]
            exact ih2 _ _ hr
      have st := inner 0 (by omega) n b hr
      rw [nI_0] at st
      exact ⟨q2_ledgerLine_9 (by omega) (brT hT st), fun x => q2_ledgerLine_9a (by omega) (brT hT st)⟩
  · have hc := cntL_le s j (fromN s (nN s 15))
    have hge : cntL s j (fromN s (nN s 15)) ≤ m := by
      rcases Nat.lt_or_ge m (cntL s j (fromN s (nN s 15))) with z | z
      · exact absurd (nI_lt z (by omega)) h4
      · exact z
    have hF := cntM_F WE j (nN s 15) 0 (by omega)
    rw [Nat.zero_add] at hF
    rw [wlk_no (lnsF s 0 (nN s 15)) 0 0 (fun q h1 h2 h3 => by
      have := (nI_eq (by omega) hm).mp h3
      omega)] at er
    rwa [← er] at k
theorem cm_ledger (hd : 7 ≤ d) (G : Agr s δ) (W : Wf s) {a i w : Int32} {Q : Int64 → mi_D → Prop} (k : Q (B_ledger s a i w) δ) : mi_wL N d 199 0 [.ref 48, .int a, .int i, .int w, .null, .null, .null, .null, .null] [] δ Q := by
  have WE := W.2.2.1
  have hn := WE.1.2
  have h60 := W.1.1.2
  have d15 : δ.1 48 15 = nI (nN s 15) := (G.1 (48, 15) (by decide)).trans WE.1.1
  have e61 : ∀ e, e ≤ nN s 15 → δ.2.1 61 e = nI (fromN s e) := fun e he => by rw [G.2.1 61 (by decide), WE.2.2.1 e he]
  have hfE := fromN_le WE _ (Nat.le_refl (nN s 15))
  unfold B_ledger at k
  refine q12_ledger_0 (by omega) ?_
  rw [G.1 (48, 0) (by decide)]
  refine ⟨fun h => by rwa [if_pos (Or.inl h)] at k, fun h => cm_isAccount (by omega) G W.1 (bI_br (fun h2 => by rwa [if_pos (Or.inr (Or.inl (fun q => h2 q.1)))] at k) (fun h2 => ?_))⟩
  obtain ⟨j, hj, ej, ec, hx, hat⟩ := at_ac W.1 h2
  rw [ec, G.2.1 52 (by decide)]
  refine ⟨hx, fun h5 => ?_, fun h5 => by rwa [if_pos (Or.inr (Or.inl (fun q => h5 ((hat 52).symm.trans q.2))))] at k⟩
  have hlf : isLf s a := ⟨h2, by rw [hat]; exact h5⟩
  refine c_inI (lo := 0) (hi := 2) (by omega) rfl rfl (fun a1 a2 => brN (by decide) ⟨fun h3 => by rwa [if_pos (Or.inr (Or.inr h3))] at k, fun h3 => ?_⟩) (fun hb => br0 ?_)
  · rw [if_neg (fun q => q.elim h (fun q => q.elim (fun q => q hlf) h3))] at k
    have hw3 : w = 0 ∨ w = 1 ∨ w = 2 := by
      obtain ⟨z, hz, ez⟩ := nI_of a1
      rcases Nat.lt_or_ge z 3 with y | y
      · rcases (show z = 0 ∨ z = 1 ∨ z = 2 by omega) with x | x | x <;> subst x
        · exact Or.inl ez
        · exact Or.inr (Or.inl ez)
        · exact Or.inr (Or.inr ez)
      · exact absurd (by rw [ez]; exact nI_lt (a := 2) (by omega) hz) a2
    subst ej
    obtain ⟨m, hm, em⟩ := nI_of h3
    subst em
    obtain ⟨res, er⟩ : ∃ res, wlk (nI j) (nI m) w (lnsF s 0 (nN s 15)) 0 0 = res := ⟨_, rfl⟩
    rw [er] at k
    suffices HH : ∀ e, e ≤ nN s 15 → ∀ n b, wlk (nI j) (nI m) w (lnsF s e (nN s 15 - e)) n b = res → mi_wL N d 199 53 [.ref 48, .int (nI j), .int (nI m), .int w, .int (nI n), .long b, .null, .int (nI e), .null] [] δ Q ∧ ∀ x, mi_wL N d 199 53 [.ref 48, .int (nI j), .int (nI m), .int w, .int (nI n), .long b, .null, .int (nI e), .int x] [] δ Q by
      have q := (HH 0 (by omega) 0 0 er).1
      rwa [nI_0] at q
    intro e he
    refine up_ind (P := fun e => ∀ n b, wlk (nI j) (nI m) w (lnsF s e (nN s 15 - e)) n b = res → mi_wL N d 199 53 [.ref 48, .int (nI j), .int (nI m), .int w, .int (nI n), .long b, .null, .int (nI e), .null] [] δ Q ∧ ∀ x, mi_wL N d 199 53 [.ref 48, .int (nI j), .int (nI m), .int w, .int (nI n), .long b, .null, .int (nI e), .int x] [] δ Q) ?_ ?_ he
    · intro n b hr
      have hF : ¬ nI (nN s 15) < δ.1 48 15 := by rw [d15]; exact nI_nlt (Nat.le_refl _) (by omega)
      rw [Nat.sub_self] at hr
      have hr : LST = res := hr
      rw [← hr] at k
      exact ⟨q12_ledger_53 (by omega) (brF hF k), fun x => q12_ledger_53a (by omega) (brF hF k)⟩
    · intro e he ih n b hr
      have hT : nI e < δ.1 48 15 := by rw [d15]; exact nI_lt he (by omega)
      have ww := WE.2.2.2.1 e he
      have wf := fromN_le WE (e + 1) (by omega)
      have eF : lnsF s e (nN s 15 - e) = lnsE s e 0 (fromN s (e + 1) - fromN s e) ++ lnsF s (e + 1) (nN s 15 - (e + 1)) := by
        rw [show nN s 15 - e = (nN s 15 - (e + 1)) + 1 by omega]
        rfl
      rw [eF] at hr
      have t61 : δ.2.1 61 (nI (e + 1)).toNatClampNeg = nI (fromN s (e + 1)) := by rw [nI_clamp (by omega), e61 (e + 1) (by omega)]
      have inner : ∀ i, i ≤ fromN s (e + 1) - fromN s e → ∀ n b, wlk (nI j) (nI m) w (lnsE s e i (fromN s (e + 1) - fromN s e - i) ++ lnsF s (e + 1) (nN s 15 - (e + 1))) n b = res → mi_wL N d 199 71 [.ref 48, .int (nI j), .int (nI m), .int w, .int (nI n), .long b, .null, .int (nI e), .int (nI (fromN s e + i))] [] δ Q := by
        intro i hi
        refine up_ind (P := fun i => ∀ n b, wlk (nI j) (nI m) w (lnsE s e i (fromN s (e + 1) - fromN s e - i) ++ lnsF s (e + 1) (nN s 15 - (e + 1))) n b = res → mi_wL N d 199 71 [.ref 48, .int (nI j), .int (nI m), .int w, .int (nI n), .long b, .null, .int (nI e), .int (nI (fromN s e + i))] [] δ Q) ?_ ?_ hi
        · intro n b hr
          refine q12_ledger_71 (by omega) ?_
          rw [show nI e + 1 = nI (e + 1) from nI_1 e, t61]
          refine ⟨mi_ix_nI (by omega) (by omega), brF (nI_nlt (by omega) (by omega)) ?_⟩
          rw [Nat.sub_self] at hr
          exact (ih n b hr).2 _
        · intro i hi ih2 n b hr
          rw [show fromN s (e + 1) - fromN s e - i = (fromN s (e + 1) - fromN s e - (i + 1)) + 1 by omega] at hr
          have hr : (if s.2.1 64 (fromN s e + i) = nI j then (if nI n = nI m then (if w = 0 then Int32.toInt64 (nI e) else if w = 1 then s.2.2 65 (fromN s e + i) else if w = 2 then b + s.2.2 65 (fromN s e + i) else LST) else wlk (nI j) (nI m) w (lnsE s e (i + 1) (fromN s (e + 1) - fromN s e - (i + 1)) ++ lnsF s (e + 1) (nN s 15 - (e + 1))) (n + 1) (b + s.2.2 65 (fromN s e + i))) else wlk (nI j) (nI m) w (lnsE s e (i + 1) (fromN s (e + 1) - fromN s e - (i + 1)) ++ lnsF s (e + 1) (nN s 15 - (e + 1))) n b) = res := hr
          refine q12_ledger_71 (by omega) ?_
          rw [show nI e + 1 = nI (e + 1) from nI_1 e, t61]
          have hix : mi_ix (nI (fromN s e + i)) 24800 = true := mi_ix_nI (by omega) (by omega)
          refine ⟨mi_ix_nI (by omega) (by omega), brT (nI_lt (by omega) (by omega)) ⟨hix, ?_⟩⟩
          rw [nI_clamp (by omega), G.2.1 64 (by decide), G.2.2 65 (by decide), show nI (fromN s e + i) + 1 = nI (fromN s e + (i + 1)) from nI_1 _]
          refine ⟨fun q => ⟨hix, fun x5 e5 => ⟨fun q2 => ?_, fun q2 => ?_⟩⟩, fun q => ?_⟩
          · rw [if_pos q, if_pos q2] at hr
            rw [← hr] at k
            refine ⟨fun z => by rwa [if_pos z] at k, fun z => ⟨fun z1 => ⟨hix, by rwa [if_neg z, if_pos z1] at k⟩, fun z1 => ?_⟩⟩
            rw [if_neg z, if_neg z1, if_pos ((hw3.resolve_left z).resolve_left z1)] at k
            rw [e5]
            exact k
          · rw [if_pos q, if_neg q2] at hr
            rw [show nI n + 1 = nI (n + 1) from nI_1 n, e5]
            exact ih2 _ _ hr
          · rw [if_neg q] at hr
            exact ih2 _ _ hr
      have st : mi_ix (nI e) 401 = true ∧ (∀ x1 : Int32, x1 = (δ.2.1 61 (nI e).toNatClampNeg) → mi_wL N d 199 71 [.ref 48, .int (nI j), .int (nI m), .int w, .int (nI n), .long b, .null, .int (nI e), .int x1] [] δ Q) := by
        rw [nI_clamp (by omega), e61 e (by omega)]
        refine ⟨mi_ix_nI (by omega) (by omega), fun x ex => ?_⟩
        subst ex
        exact inner 0 (by omega) n b hr
      exact ⟨q12_ledger_53 (by omega) (brT hT st), fun x => q12_ledger_53a (by omega) (brT hT st)⟩
  · have hw3 : ¬ w = 0 ∧ ¬ w = 1 ∧ ¬ w = 2 := by
      refine ⟨fun q => ?_, fun q => ?_, fun q => ?_⟩ <;> subst q <;> exact absurd hb (by decide)
    rw [wlk_w hw3] at k
    split at k <;> exact k
end CLG
