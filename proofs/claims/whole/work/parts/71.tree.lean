/-! the sheet: the tree -/
def chC (s : mi_D) (p k : Int32) : List Nat := (ordN (s.2.1 49) (nN s 2)).filter (fun a => decide (s.2.1 51 a = p ∧ s.2.1 50 a = k))
def dU (s : mi_D) (k : Int32) : Nat → Int32 → List Nat
  | 0, _ => []
  | f + 1, p => (chC s p k).flatMap (fun a => a :: dU s k f (nI a))
theorem dU_s (s : mi_D) (k : Int32) (f : Nat) (p : Int32) : dU s k (f + 1) p = (chC s p k).flatMap (fun a => a :: dU s k f (nI a)) := rfl
theorem chC_mem {s : mi_D} {p k : Int32} {a : Nat} : a ∈ chC s p k ↔ a < nN s 2 ∧ s.2.1 51 a = p ∧ s.2.1 50 a = k := by
  unfold chC
  rw [List.mem_filter, ordN_mem]
  simp only [decide_eq_true_eq]
/-- among the ancestors -/
def isUp (s : mi_D) (p : Int32) (x : Nat) : Prop := ∃ m, anc s x (m + 1) = p ∧ ¬ anc s x m = -1
theorem dU_mem {s : mi_D} (W : WfA s) (k : Int32) : ∀ f p x, x ∈ dU s k f p → x < nN s 2 ∧ isUp s p x := by
  have h60 := W.1.2
  intro f
  induction f with
  | zero => intro p x h; exact absurd h List.not_mem_nil
  | succ f ih =>
    intro p x h
    rw [dU_s, List.mem_flatMap] at h
    obtain ⟨a, ha, hx⟩ := h
    obtain ⟨ha1, ha2, _⟩ := chC_mem.mp ha
    have one : ∀ m, anc s x m = nI a → anc s x (m + 1) = p := fun m e => by
      rw [anc_s, e, if_neg (nI_ne1 (by omega)), mi_at_nI _ _ (by omega), ha2]
    rcases List.mem_cons.mp hx with e | hx
    · subst e
      exact ⟨ha1, 0, one 0 rfl, nI_ne1 (by omega)⟩
    · obtain ⟨h1, m, h2, h3⟩ := ih (nI a) x hx
      exact ⟨h1, m + 1, one (m + 1) h2, by rw [h2]; exact nI_ne1 (by omega)⟩
theorem anc_lt {s : mi_D} (W : WfA s) {x : Nat} (hx : x < nN s 2) {m j b c : Nat} (hb : b < nN s 2) (hc : c < nN s 2) (h1 : anc s x m = nI b) (h2 : anc s x (m + (j + 1)) = nI c) : c < b := by
  have h60 := W.1.2
  induction j generalizing c with
  | zero =>
    rw [anc_s, h1, if_neg (nI_ne1 (by omega)), mi_at_nI _ _ (by omega)] at h2
    rcases W.2.2.2 b hb with ⟨z, _⟩ | ⟨y, _, hy, ey, _⟩
    · rw [z] at h2; exact absurd h2.symm (nI_ne1 (by omega))
    · rw [ey] at h2
      have := (nI_eq (by omega) (by omega)).mp h2
      omega
  | succ j ih =>
    rcases anc_ok W hx (m + (j + 1)) with z | ⟨y, _, hy, ey, _⟩
    · have := anc_m1 z (show m + (j + 1) ≤ m + (j + 1 + 1) by omega)
      rw [this] at h2
      exact absurd h2.symm (nI_ne1 (by omega))
    · have i1 := ih hy ey
      have h2' : anc s x (m + (j + 1) + 1) = nI c := h2
      rw [anc_s, ey, if_neg (nI_ne1 (by omega)), mi_at_nI _ _ (by omega)] at h2'
      rcases W.2.2.2 y hy with ⟨z, _⟩ | ⟨w, _, hw, ew, _⟩
      · rw [z] at h2'; exact absurd h2'.symm (nI_ne1 (by omega))
      · rw [ew] at h2'
        have := (nI_eq (by omega) (by omega)).mp h2'
        omega
/-- two children of one parent above one account are one -/
theorem anc_one {s : mi_D} (W : WfA s) {x a b m m' : Nat} (hx : x < nN s 2) (ha : a < nN s 2) (hb : b < nN s 2) (h1 : anc s x m = nI a) (h2 : anc s x m' = nI b) (hp : s.2.1 51 a = s.2.1 51 b) : a = b := by
  have h60 := W.1.2
  have main : ∀ {a b m m' : Nat}, a < nN s 2 → b < nN s 2 → anc s x m = nI a → anc s x m' = nI b → s.2.1 51 a = s.2.1 51 b → m < m' → False := by
    intro a b m m' ha hb h1 h2 hp hm
    obtain ⟨j, rfl⟩ : ∃ j, m' = m + (j + 1) := ⟨m' - m - 1, by omega⟩
    have e1 : anc s x (m + 1) = s.2.1 51 a := by rw [anc_s, h1, if_neg (nI_ne1 (by omega)), mi_at_nI _ _ (by omega)]
    have e2 : anc s x (m + (j + 1) + 1) = s.2.1 51 b := by rw [anc_s, h2, if_neg (nI_ne1 (by omega)), mi_at_nI _ _ (by omega)]
    rcases W.2.2.2 a ha with ⟨z, _⟩ | ⟨y, _, hy, ey, _⟩
    · rw [z] at e1
      have := anc_m1 e1 (show m + 1 ≤ m + (j + 1) by omega)
      rw [this] at h2
      exact absurd h2.symm (nI_ne1 (by omega))
    · rw [ey] at e1 hp
      rw [← hp] at e2
      have := anc_lt W hx (show y < nN s 2 by omega) (show y < nN s 2 by omega) e1 (j := j) (by rw [show m + 1 + (j + 1) = m + (j + 1) + 1 by omega]; exact e2)
      omega
  rcases Nat.lt_trichotomy m m' with q | q | q
  · exact (main ha hb h1 h2 hp q).elim
  · subst q
    rw [h1] at h2
    exact (nI_eq (by omega) (by omega)).mp h2
  · exact (main hb ha h2 h1 hp.symm q).elim
theorem chC_nodup {s : mi_D} (W : WfA s) (p k : Int32) : (chC s p k).Pairwise (fun a b => s.2.1 49 a < s.2.1 49 b) := (ordN_lt W.2.2.1).filter _
theorem dU_nodup {s : mi_D} (W : WfA s) (k : Int32) : ∀ f p, (dU s k f p).Pairwise (fun a b => ¬ a = b) := by
  have h60 := W.1.2
  intro f
  induction f with
  | zero => intro p; exact List.Pairwise.nil
  | succ f ih =>
    intro p
    rw [dU_s, List.pairwise_flatMap]
    refine ⟨fun a ha => ?_, ?_⟩
    · obtain ⟨ha1, ha2, _⟩ := chC_mem.mp ha
      refine List.pairwise_cons.mpr ⟨fun x hx e => ?_, ih _⟩
      subst e
      obtain ⟨h1, m, h2, _⟩ := dU_mem W k f (nI a) a hx
      have := anc_lt W h1 ha1 ha1 (m := 0) (j := m) rfl (by rw [Nat.zero_add]; exact h2)
      omega
    · refine (chC_nodup W p k).imp_of_mem (fun {a b} ha hb hlt x hx y hy e => ?_)
      subst e
      obtain ⟨ha1, ha2, _⟩ := chC_mem.mp ha
      obtain ⟨hb1, hb2, _⟩ := chC_mem.mp hb
      have get : ∀ c, x ∈ c :: dU s k f (nI c) → c < nN s 2 → x < nN s 2 ∧ ∃ m, anc s x m = nI c := fun c h hc => by
        rcases List.mem_cons.mp h with e | h
        · subst e; exact ⟨hc, 0, rfl⟩
        · obtain ⟨h1, m, h2, _⟩ := dU_mem W k f (nI c) x h
          exact ⟨h1, m + 1, h2⟩
      obtain ⟨hx1, m, hm⟩ := get a hx ha1
      obtain ⟨_, m', hm'⟩ := get b hy hb1
      have := anc_one W hx1 ha1 hb1 hm hm' (ha2.trans hb2.symm)
      subst this
      rw [Int32.lt_iff_toInt_lt] at hlt
      omega
theorem nd_len : ∀ (n : Nat) (L : List Nat), L.Pairwise (fun a b => ¬ a = b) → (∀ x, x ∈ L → x < n) → L.length ≤ n := by
  intro n
  induction n with
  | zero =>
    intro L _ h
    cases L with
    | nil => exact Nat.le_refl _
    | cons a L => exact absurd (h a List.mem_cons_self) (Nat.not_lt_zero _)
  | succ n ih =>
    intro L hL h
    have hf := ih (L.filter (fun x => decide (¬ x = n))) (hL.filter _) (fun x hx => by
      rw [List.mem_filter] at hx
      have h1 := h x hx.1
      have h2 : ¬ x = n := by simpa using hx.2
      omega)
    have hc : L.length ≤ (L.filter (fun x => decide (¬ x = n))).length + 1 := by
      clear ih h hf
      induction L with
      | nil => exact Nat.zero_le _
      | cons a L ih =>
        obtain ⟨h1, h2⟩ := List.pairwise_cons.mp hL
        by_cases e : a = n
        · subst e
          have : L.filter (fun x => decide (¬ x = a)) = L := List.filter_eq_self.mpr (fun x hx => by simpa using fun q => h1 x hx q.symm)
          rw [List.filter_cons_of_neg (by simp), this, List.length_cons]
          omega
        · rw [List.filter_cons_of_pos (by simpa using e), List.length_cons, List.length_cons]
          have := ih h2
          omega
    omega
theorem dU_len {s : mi_D} (W : WfA s) (k : Int32) (f : Nat) (p : Int32) : (dU s k f p).length ≤ 60 := by
  have := nd_len _ _ (dU_nodup W k f p) (fun x hx => (dU_mem W k f p x hx).1)
  have h60 := W.1.2
  omega
def rws (s : mi_D) (L : List Nat) : List Int32 := L.flatMap (rB s)
theorem rws_app (s : mi_D) (L M : List Nat) : rws s (L ++ M) = rws s L ++ rws s M := List.flatMap_append
theorem rws_len {s : mi_D} (W : WfA s) {L : List Nat} (h : ∀ x, x ∈ L → x < nN s 2) : (rws s L).length ≤ 60 * L.length := fm_len L (fun a ha => rB_len W (h a ha))
section STREE
variable {N d : Nat} {δ s : mi_D} {g : Nat → Int32} {B : List Int32}
theorem cc_writeUnder (W : WfA s) {kd : Int32} (f : Nat) : ∀ (l : Nat) (p : Int32) (d : Nat) (δ : mi_D) (B : List Int32) (Q : mi_D → Prop), l + f = 6 → 10 + f ≤ d → AbA δ s → Sp δ g B → B.length + (rws s (dU s kd f p)).length + 100 < 2 ^ 30 → (∀ δ', Sp δ' g (B ++ rws s (dU s kd f p)) → Fr [(45, 3)] [46, 47] [] δ δ' → Q δ') → mi_wV N d 106 0 [.ref 45, .int p, .int kd, .int (nI l), .null, .null, .null] [] δ Q := by
  have h60 := W.1.2
  induction f with
  | zero =>
    intro l p d δ B Q hl hd A X hB k
    have : l = 6 := by omega
    subst this
    refine q10_writeUnder_0 (by omega) (brT (by decide) (k δ ?_ (Fr.rf _ _ _ _)))
    show Sp δ g (B ++ [])
    rw [List.append_nil]
    exact X
  | succ f ih =>
    intro l p d δ B Q hl hd A X hB k
    refine q10_writeUnder_0 (by omega) (brF (nI_nlt (a := 5) (by omega) (by omega)) ?_)
    obtain ⟨L, eL⟩ : ∃ L, ordN (s.2.1 49) (nN s 2) = L := ⟨_, rfl⟩
    have hlen : L.length = nN s 2 := by rw [← eL]; exact ordN_len _ _
    have hmem : ∀ y, y ∈ L → y < nN s 2 := fun y hy => by rw [← eL] at hy; exact (ordN_mem _ _ _).mp hy
    -- what the first i of the order give
    obtain ⟨G, eG⟩ : ∃ G : List Nat → List Int32, G = fun M => rws s ((M.filter (fun a => decide (s.2.1 51 a = p ∧ s.2.1 50 a = kd))).flatMap (fun a => a :: dU s kd f (nI a))) := ⟨_, rfl⟩
    have eGL : rws s (dU s kd (f + 1) p) = G L := by rw [dU_s, chC, eL, eG]
    have Gap : ∀ M M', G (M ++ M') = G M ++ G M' := fun M M' => by rw [eG]; show rws s _ = _; rw [List.filter_append, List.flatMap_append, rws_app]
    have Gno : ∀ a, ¬ (s.2.1 51 a = p ∧ s.2.1 50 a = kd) → G [a] = [] := fun a h => by
      rw [eG]
      show rws s _ = _
      rw [List.filter_cons_of_neg (by simpa using h)]
      rfl
    have Gye : ∀ a, s.2.1 51 a = p ∧ s.2.1 50 a = kd → G [a] = rB s a ++ rws s (dU s kd f (nI a)) := fun a h => by
      rw [eG]
      show rws s _ = _
      rw [List.filter_cons_of_pos (by simpa using h)]
      show rws s (a :: dU s kd f (nI a) ++ []) = _
      rw [List.append_nil]
      rfl
    rw [eGL] at k hB
    have A' : ∀ δ1, Fr [(45, 3)] [46, 47] [] δ δ1 → AbA δ1 s := fun δ1 f1 => A.c (f1.kp (by decide) (by decide) (by decide))
    have hGl : ∀ i, (G (L.take i)).length ≤ (G L).length := fun i => by
      have := Gap (L.take i) (L.drop i)
      rw [List.take_append_drop] at this
      rw [this, List.length_append]
      omega
    suffices H : ∀ i, i ≤ nN s 2 → ∀ δ1, Sp δ1 g (B ++ G (L.take i)) → Fr [(45, 3)] [46, 47] [] δ δ1 → mi_wV N d 106 15 [.ref 45, .int p, .int kd, .int (nI l), .ref 4, .int (nI i), .null] [] δ1 Q ∧ ∀ x, mi_wV N d 106 15 [.ref 45, .int p, .int kd, .int (nI l), .ref 4, .int (nI i), .int x] [] δ1 Q by
      have q := (H 0 (by omega) δ (by rw [List.take_zero, eG]; show Sp δ g (B ++ []); rw [List.append_nil]; exact X) (Fr.rf _ _ _ _)).1
      rwa [nI_0] at q
    intro i hi
    refine up_ind (P := fun i => ∀ δ1, Sp δ1 g (B ++ G (L.take i)) → Fr [(45, 3)] [46, 47] [] δ δ1 → mi_wV N d 106 15 [.ref 45, .int p, .int kd, .int (nI l), .ref 4, .int (nI i), .null] [] δ1 Q ∧ ∀ x, mi_wV N d 106 15 [.ref 45, .int p, .int kd, .int (nI l), .ref 4, .int (nI i), .int x] [] δ1 Q) ?_ ?_ hi
    · intro δ1 X1 F1
      rw [List.take_of_length_le (by omega)] at X1
      have hF : ¬ nI (nN s 2) < δ1.1 4 9 := by rw [(A' δ1 F1).1, W.1.1]; exact nI_nlt (by omega) (by omega)
      exact ⟨q10_writeUnder_15 (by omega) (brF hF (k δ1 X1 F1)), fun x => q10_writeUnder_15a (by omega) (brF hF (k δ1 X1 F1))⟩
    · intro i hi ih2 δ1 X1 F1
      have hT : nI i < δ1.1 4 9 := by rw [(A' δ1 F1).1, W.1.1]; exact nI_lt hi (by omega)
      have hq : i < L.length := by omega
      have hm : L[i] < nN s 2 := hmem _ (List.getElem_mem hq)
      have e10 : mi_at δ1 10 (nI i) = nI L[i] := by
        rw [mi_at_nI _ _ (by omega)]
        exact (A' δ1 F1).2.2.2.2.2.2.2.2 i _ (by rw [eL]; exact List.getElem?_eq_getElem hq)
      have es : G (L.take (i + 1)) = G (L.take i) ++ G [L[i]] := by rw [← take_sn hq, Gap]
      have hs := hGl (i + 1)
      rw [es, List.length_append] at hs
      have gg : ∀ x1 : Int32, x1 = (mi_at δ1 10 (nI i)) → (((mi_at δ1 7 x1) = p → (((mi_at δ1 6 x1) = kd → (mi_wV N (d - 1) 109 0 [.ref 45, .int x1, .null] [] δ1 (fun δ2 => (mi_wV N (d - 1) 106 0 [.ref 45, .int x1, .int kd, .int (nI l + 1), .null, .null, .null] [] δ2 (fun δ3 => mi_wV N d 106 15 [.ref 45, .int p, .int kd, .int (nI l), .ref 4, .int (nI i + 1), .int x1] [] δ3 Q))))) ∧ (¬ (mi_at δ1 6 x1) = kd → mi_wV N d 106 15 [.ref 45, .int p, .int kd, .int (nI l), .ref 4, .int (nI i + 1), .int x1] [] δ1 Q))) ∧ (¬ (mi_at δ1 7 x1) = p → mi_wV N d 106 15 [.ref 45, .int p, .int kd, .int (nI l), .ref 4, .int (nI i + 1), .int x1] [] δ1 Q)) := by
        intro x1 e1
        rw [e10] at e1
        subst e1
        rw [nI_1, nI_1, mi_at_nI _ _ (by omega), mi_at_nI _ _ (by omega), (A' δ1 F1).2.2.2.1, (A' δ1 F1).2.2.1]
        have skip : ¬ (s.2.1 51 L[i] = p ∧ s.2.1 50 L[i] = kd) → mi_wV N d 106 15 [.ref 45, .int p, .int kd, .int (nI l), .ref 4, .int (nI (i + 1)), .int (nI L[i])] [] δ1 Q := fun h => (ih2 δ1 (by rw [es, Gno _ h, List.append_nil]; exact X1) F1).2 _
        refine ⟨fun h1 => ⟨fun h2 => ?_, fun h2 => skip (fun q => h2 q.2)⟩, fun h1 => skip (fun q => h1 q.1)⟩
        have ey := Gye _ ⟨h1, h2⟩
        rw [ey, List.length_append] at hs
        refine cc_writeRow (by omega) (A' δ1 F1) W hm X1 (by rw [List.length_append]; omega) (fun δ2 X2 f2 => ?_)
        refine ih (l + 1) (nI L[i]) (d - 1) δ2 _ _ (by omega) (by omega) (A' δ2 (F1.tr f2)) X2 (by rw [List.length_append, List.length_append]; omega) (fun δ3 X3 f3 => ?_)
        exact (ih2 δ3 (by rw [es, ey, ← List.append_assoc, ← List.append_assoc]; exact X3) (F1.tr (f2.tr f3))).2 _
      exact ⟨q10_writeUnder_15 (by omega) (brT hT gg), fun x => q10_writeUnder_15a (by omega) (brT hT gg)⟩
end STREE
