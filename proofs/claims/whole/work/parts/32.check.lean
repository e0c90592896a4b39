/-! checks, of both sides -/
section CHK
variable {N d : Nat} {δ : mi_D}
theorem cc_bits (hd : 5 ≤ d) {a b p : Int32} {Q : Int32 → mi_D → Prop} : ∀ k j, j + k = 8 → ∀ c, mi_wI N d 56 6 [.ref 28, .int a, .int b, .int (chk8 k c &&& 65535), .int (p + 1), .int 8] [] δ Q → mi_wI N d 56 30 [.ref 28, .int a, .int b, .int c, .int p, .int (nI j)] [] δ Q := by
  intro k
  induction k with
  | zero =>
    intro j hj c h
    refine q4_checkOf_30 hd (brF (by rw [show j = 8 from by omega]; decide) (fun x e => ?_))
    subst e
    rw [show j = 8 from by omega]
    exact h
  | succ k ih =>
    intro j hj c h
    refine q4_checkOf_30 hd (brT (nI_lt (b := 8) (by omega) (by omega)) ⟨fun q x e => ?_, fun q x e => ?_⟩)
    · subst e
      rw [nI_1]
      refine ih (j + 1) (by omega) _ ?_
      have e : chk8 (k + 1) c = chk8 k (c <<< (1 &&& 31)) := by
        show chk8 k (if (c &&& 32768) = 0 then _ else _) = _
        rw [if_pos q]
      rwa [e] at h
    · subst e
      rw [nI_1]
      refine ih (j + 1) (by omega) _ ?_
      have e : chk8 (k + 1) c = chk8 k ((c <<< (1 &&& 31)) ^^^ 4129) := by
        show chk8 k (if (c &&& 32768) = 0 then _ else _) = _
        rw [if_neg q]
      rwa [e] at h
theorem cc_checkL (hd : 5 ≤ d) {a : Int32} {m : Nat} (hm : m ≤ 6000) {Q : Int32 → mi_D → Prop} : ∀ (l : List Int32) (p : Nat) (c : Int32), p + l.length = m → (∀ i b, l[i]? = some b → δ.2.1 29 (p + i) = b) → Q (chkL c l) δ →
    mi_wI N d 56 6 [.ref 28, .int a, .int (nI m), .int c, .int (nI p), .null] [] δ Q ∧ ∀ x, mi_wI N d 56 6 [.ref 28, .int a, .int (nI m), .int c, .int (nI p), .int x] [] δ Q := by
  intro l
  induction l with
  | nil =>
    intro p c hp hr k
    have hF : ¬ nI p < nI m := nI_nlt (by rw [List.length_nil] at hp; omega) (by rw [List.length_nil] at hp; omega)
    exact ⟨q4_checkOf_6 hd (brF hF k), fun x => q4_checkOf_6a hd (brF hF k)⟩
  | cons b l ih =>
    intro p c hp hr k
    rw [List.length_cons] at hp
    have hT : nI p < nI m := nI_lt (by omega) (by omega)
    have F : ∀ x1, x1 = c ^^^ (mi_at δ 29 (nI p) <<< (8 &&& 31)) → mi_wI N d 56 30 [.ref 28, .int a, .int (nI m), .int x1, .int (nI p), .int 0] [] δ Q := by
      intro x1 e
      rw [mi_at_nI _ _ (by omega), show δ.2.1 29 p = b from hr 0 b rfl] at e
      subst e
      have st := cc_bits (N := N) hd (a := a) (b := nI m) (p := nI p) (Q := Q) (δ := δ) 8 0 (by omega) (c ^^^ (b <<< (8 &&& 31))) (by
        rw [nI_1]
        exact (ih (p + 1) (chk c b) (by omega) (fun i b' h => by rw [show p + 1 + i = p + (i + 1) from by omega]; exact hr (i + 1) b' h) k).2 8)
      rwa [nI_0] at st
    exact ⟨q4_checkOf_6 hd (brT hT F), fun x => q4_checkOf_6a hd (brT hT F)⟩
theorem cc_checkOf (hd : 5 ≤ d) {p m : Nat} (hm : m ≤ 6000) {l : List Int32} (hp : p + l.length = m) (hr : ∀ i b, l[i]? = some b → δ.2.1 29 (p + i) = b) {Q : Int32 → mi_D → Prop} (k : Q (chkL 65535 l) δ) : mi_wI N d 56 0 [.ref 28, .int (nI p), .int (nI m), .null, .null, .null] [] δ Q :=
  q4_checkOf_0 hd (cc_checkL hd hm l p 65535 hp hr k).1
theorem cm_bits (hd : 5 ≤ d) {a b : Int32} {Q : Int32 → mi_D → Prop} : ∀ k j, j + k = 8 → ∀ c, Q (chk8 k c &&& 65535) δ → mi_wI N d 153 9 [.int a, .int b, .int c, .int (nI j)] [] δ Q := by
  intro k
  induction k with
  | zero =>
    intro j hj c h
    exact q12_checked_9 hd (brF (by rw [show j = 8 from by omega]; decide) h)
  | succ k ih =>
    intro j hj c h
    refine q12_checked_9 hd (brT (nI_lt (b := 8) (by omega) (by omega)) ⟨fun q x e => ?_, fun q x e => ?_⟩)
    · subst e
      rw [nI_1]
      refine ih (j + 1) (by omega) _ ?_
      have e : chk8 (k + 1) c = chk8 k (c <<< (1 &&& 31)) := by
        show chk8 k (if (c &&& 32768) = 0 then _ else _) = _
        rw [if_pos q]
      rwa [e] at h
    · subst e
      rw [nI_1]
      refine ih (j + 1) (by omega) _ ?_
      have e : chk8 (k + 1) c = chk8 k ((c <<< (1 &&& 31)) ^^^ 4129) := by
        show chk8 k (if (c &&& 32768) = 0 then _ else _) = _
        rw [if_neg q]
      rwa [e] at h
theorem cm_checked (hd : 5 ≤ d) {c b : Int32} {Q : Int32 → mi_D → Prop} (k : Q (chk c b) δ) : mi_wI N d 153 0 [.int c, .int b, .null, .null] [] δ Q := by
  refine q12_checked_0 hd (fun x e => ?_)
  subst e
  have st := cm_bits (N := N) hd (a := c) (b := b) (Q := Q) (δ := δ) 8 0 (by omega) (c ^^^ (b <<< (8 &&& 31))) k
  rwa [nI_0] at st
end CHK
/-- a list written from a place on -/
def lrow (f : Nat → Int32) (z : Nat) (l : List Int32) : Nat → Int32 := wrN f z l.length (fun i => l.getD i 0)
theorem lrow_nil (f : Nat → Int32) (z : Nat) : lrow f z [] = f := wrN_0 f z _
theorem lrow_snoc (f : Nat → Int32) (z : Nat) (l : List Int32) (b : Int32) : up1 (lrow f z l) (z + l.length) b = lrow f z (l ++ [b]) := by
  unfold lrow
  rw [List.length_append, List.length_singleton, ← wrN_s]
  have e1 : (l ++ [b]).getD l.length 0 = b := by simp
  rw [e1]
  refine congrArg (fun r => up1 r (z + l.length) b) (wrN_congr (fun i hi => ?_))
  rw [List.getD_eq_getElem?_getD, List.getD_eq_getElem?_getD, List.getElem?_append_left hi]
theorem lrow_at {f : Nat → Int32} {z : Nat} {l : List Int32} {i : Nat} {b : Int32} (h : l[i]? = some b) : lrow f z l (z + i) = b := by
  have hi := (List.getElem?_eq_some_iff.mp h).1
  unfold lrow wrN
  rw [if_pos (by omega), show z + i - z = i from by omega]
  show l.getD i 0 = b
  rw [List.getD_eq_getElem?_getD, h]
  rfl
