/-! a record is written, by both sides -/
theorem recd_len (what : Int32) (B : List Int32) : (recd what B).length = B.length + 4 := by
  unfold recd
  rw [List.length_cons, List.length_cons, List.length_append]
  rfl
/-- the journal of the program from `z` on holds `l` -/
def jst (δ : mi_D) (z : Nat) (l : List Int32) : mi_D := mi_setI (rowA δ 29 (lrow (δ.2.1 29) z l)) 28 4 (nI (z + l.length))
def mst (δ : mi_D) (z : Nat) (l : List Int32) : mi_D := mi_setI (rowA δ 70 (lrow (δ.2.1 70) z l)) 48 30 (nI (z + l.length))
theorem setI_self {δ : mi_D} {a k : Nat} {v : Int32} (h : δ.1 a k = v) : mi_setI δ a k v = δ := by
  unfold mi_setI
  refine Prod.ext (funext fun x => funext fun j => ?_) rfl
  dsimp only
  by_cases e : x = a ∧ j = k
  · rw [if_pos e, ← h, e.1, e.2]
  · rw [if_neg e]
theorem jst_nil {δ : mi_D} {z : Nat} (h : δ.1 28 4 = nI z) : jst δ z [] = δ := by
  unfold jst
  rw [lrow_nil, rowA_self]
  exact setI_self h
theorem mst_nil {δ : mi_D} {z : Nat} (h : δ.1 48 30 = nI z) : mst δ z [] = δ := by
  unfold mst
  rw [lrow_nil, rowA_self]
  exact setI_self h
theorem st_snoc (δ : mi_D) (a b k : Nat) (f g : Nat → Int32) (v w : Int32) : mi_setI (rowA (mi_setI (rowA δ a f) b k v) a g) b k w = mi_setI (rowA δ a g) b k w := by
  refine Prod.ext (funext fun x => funext fun j => ?_) (Prod.ext (funext fun x => ?_) rfl)
  · simp only [pI_f, rA_f]
    by_cases e : x = b ∧ j = k
    · rw [if_pos e, if_pos e]
    · rw [if_neg e, if_neg e, if_neg e]
  · simp only [pI_a, rA_a]
    by_cases e : x = a
    · rw [if_pos e, if_pos e]
    · rw [if_neg e, if_neg e, if_neg e]
section WRT
variable {N d : Nat} {δ : mi_D}
theorem cc_jput (hd : 5 ≤ d) {z : Nat} {l : List Int32} {b : Int32} (hz : z + l.length < 6000) {Q : mi_D → Prop} (k : Q (jst δ z (l ++ [b]))) : mi_wV N d 55 0 [.ref 28, .int b] [] (jst δ z l) Q := by
  refine q4_put_0 hd (fun δ1 e1 δ2 e2 => ?_)
  have h4 : (jst δ z l).1 28 4 = nI (z + l.length) := by unfold jst; rw [pI_f, if_pos ⟨rfl, rfl⟩]
  have h29 : (jst δ z l).2.1 29 = lrow (δ.2.1 29) z l := by unfold jst; rw [pI_a, rA_a, if_pos rfl]
  rw [h4, pt_row _ _ _ _ hz (by omega), h29, lrow_snoc] at e1
  rw [e1, rA_f, h4, nI_1] at e2
  subst e2
  have e : mi_setI (rowA (jst δ z l) 29 (lrow (δ.2.1 29) z (l ++ [b]))) 28 4 (nI (z + l.length + 1)) = jst δ z (l ++ [b]) := by
    unfold jst
    rw [st_snoc, List.length_append]
    rfl
  rw [e]
  exact k
theorem cm_append (hd : 5 ≤ d) {z : Nat} {l : List Int32} {b : Int32} (hz : z + l.length < 6000) {Q : mi_D → Prop} (k : Q (mst δ z (l ++ [b]))) : mi_wV N d 154 0 [.ref 48, .int b] [] (mst δ z l) Q := by
  have h4 : (mst δ z l).1 48 30 = nI (z + l.length) := by unfold mst; rw [pI_f, if_pos ⟨rfl, rfl⟩]
  have h29 : (mst δ z l).2.1 70 = lrow (δ.2.1 70) z l := by unfold mst; rw [pI_a, rA_a, if_pos rfl]
  refine q12_append_0 hd ⟨by rw [h4]; exact mi_ix_nI hz (by omega), fun δ1 e1 δ2 e2 => ?_⟩
  rw [h4, nI_clamp (by omega), setA_row, h29, lrow_snoc] at e1
  rw [e1, rA_f, h4, nI_1] at e2
  subst e2
  have e : mi_setI (rowA (mst δ z l) 70 (lrow (δ.2.1 70) z (l ++ [b]))) 48 30 (nI (z + l.length + 1)) = mst δ z (l ++ [b]) := by
    unfold mst
    rw [st_snoc, List.length_append]
    rfl
  rw [e]
  exact k
end WRT
theorem take_snoc {B : List Int32} {i : Nat} (h : i < B.length) : B.take i ++ [B[i]] = B.take (i + 1) := by
  rw [List.take_succ, List.getElem?_eq_getElem h]
  rfl
section WRC
variable {N d : Nat} {δ s : mi_D} {B : List Int32} {what : Int32}
theorem cc_write (hd : 6 ≤ d) (J : AbJ δ s) (W : WfJ s) (h1 : s.1 48 1 = 0) (X : Bd δ B) (hB : B.length ≤ 255) (hw : δ.1 28 3 = what) {Q : Int32 → mi_D → Prop}
    (k1 : room s B → ∀ δ', AbJ δ' (jot s what B) → Fr [(28, 4), (28, 6)] [29] [] δ δ' → Q 1 δ') (k0 : ¬ room s B → Q 0 δ) : mi_wI N d 54 0 [.ref 28, .null, .null] [] δ Q := by
  have hz : δ.1 28 4 = nI (nN s 30) := J.1.trans W.1.1
  have hzb : nN s 30 ≤ 6000 := W.1.2
  have hsum : δ.1 28 4 + 4 + δ.1 28 2 = nI (nN s 30 + 4 + B.length) := by rw [hz, X.1, ← nI_add, ← nI_add]; rfl
  have hr : room s B ↔ nN s 30 + 4 + B.length ≤ 6000 := by
    unfold room
    rw [h1]
    constructor
    · intro h
      rcases h with h | h
      · exact absurd rfl h
      · omega
    · intro h
      exact Or.inr (by omega)
  refine q4_write_0 (by omega) ?_
  rw [hsum]
  refine ⟨fun h => k0 (fun q => ?_), fun h x1 e1 => ?_⟩
  · have := (nI_ltI (a := 6000) (by omega) (by omega)).mp h
    have := hr.mp q
    omega
  · have hroom : nN s 30 + 4 + B.length ≤ 6000 := by
      rcases Nat.lt_or_ge 6000 (nN s 30 + 4 + B.length) with q | q
      · exact absurd ((nI_ltI (a := 6000) (by omega) (by omega)).mpr q) h
      · exact q
    obtain ⟨z, ez⟩ : ∃ z, nN s 30 = z := ⟨_, rfl⟩
    rw [ez] at hz hroom
    rw [hz] at e1
    subst e1
    have hput := @cc_jput N (d - 1) δ (by omega) z
    have st0 : jst δ z [] = δ := jst_nil hz
    have hlen : ∀ l, (jst δ z l).1 28 2 = nI B.length := fun l => by unfold jst; rw [pI_f, if_neg (by decide)]; exact X.1
    have hsort : ∀ l, (jst δ z l).1 28 3 = what := fun l => by unfold jst; rw [pI_f, if_neg (by decide)]; exact hw
    have hbody : ∀ l i, (h : i < B.length) → mi_at (jst δ z l) 30 (nI i) = B[i] := fun l i h => by
      rw [mi_at_nI _ _ (by omega)]
      unfold jst
      rw [pI_a, rA_a, if_neg (by decide)]
      exact X.2 i _ (List.getElem?_eq_getElem h)
    have hend : mi_wI N d 54 42 [.ref 28, .int (nI z), .int (nI B.length)] [] (jst δ z (nI B.length :: what :: B)) Q := by
      refine q4_write_42 (by omega) (brF (by rw [hlen]; exact nI_nlt (by omega) (by omega)) ?_)
      have h4 : (jst δ z (nI B.length :: what :: B)).1 28 4 = nI (z + (nI B.length :: what :: B).length) := by unfold jst; rw [pI_f, if_pos ⟨rfl, rfl⟩]
      rw [h4]
      have hl2 : (nI B.length :: what :: B).length = B.length + 2 := rfl
      refine cc_checkOf (by omega) (by rw [hl2]; omega) (l := nI B.length :: what :: B) rfl (fun i b hb => ?_) ?_
      · unfold jst
        rw [pI_a, rA_a, if_pos rfl]
        exact lrow_at hb
      · refine hput (by rw [hl2]; omega) (hput (by rw [List.length_append, hl2]; show z + (B.length + 2 + 1) < 6000; omega) (fun δ5 e5 => ?_))
        have e : nI B.length :: what :: B ++ [chkL 65535 (nI B.length :: what :: B) >>> (8 &&& 31)] ++ [chkL 65535 (nI B.length :: what :: B) &&& 255] = recd what B := by
          unfold recd
          rw [List.append_assoc]
          rfl
        rw [e] at e5
        subst e5
        refine k1 (hr.mpr (by omega)) _ ?_ (((Fr.rwA (by decide)).xI (by decide)).xI (by decide))
        have ej : jot s what B = mi_setI (rowA (mi_setI s 48 32 (s.1 48 32 + 1)) 70 (wrN (s.2.1 70) (nN s 30) (B.length + 4) (fun i => (recd what B).getD i 0))) 48 30 (nI (nN s 30 + (B.length + 4))) := by
          unfold jot
          rw [if_pos h1]
        rw [ej, ez]
        unfold jst lrow AbJ
        rw [recd_len]
        simp only [pI_f, pI_a, pI_l, pA_f, pA_a, pA_l, pL_f, pL_a, pL_l, rA_f, rA_a, rA_l, rL_f, rL_a, rL_l, reduceIte, Nat.reduceEqDiff, and_self, and_true, true_and, and_false, false_and]
        exact ⟨J.2.1, by rw [J.2.2.1], by rw [J.2.2.2]⟩
    have loop : ∀ i, i ≤ B.length → mi_wI N d 54 42 [.ref 28, .int (nI z), .int (nI i)] [] (jst δ z (nI B.length :: what :: B.take i)) Q := by
      intro i hi
      refine up_ind (P := fun i => mi_wI N d 54 42 [.ref 28, .int (nI z), .int (nI i)] [] (jst δ z (nI B.length :: what :: B.take i)) Q) ?_ ?_ hi
      · rw [List.take_length]; exact hend
      · intro i hi ih
        refine q4_write_42 (by omega) (brT (by rw [hlen]; exact nI_lt hi (by omega)) ?_)
        rw [hbody _ i hi]
        refine hput (by show z + ((B.take i).length + 1 + 1) < 6000; rw [List.length_take]; omega) ?_
        rw [nI_1]
        show mi_wI N d 54 42 [.ref 28, .int (nI z), .int (nI (i + 1))] [] (jst δ z (nI B.length :: what :: (B.take i ++ [B[i]]))) Q
        rw [take_snoc hi]
        exact ih
    rw [X.1]
    have first := @cc_jput N (d - 1) δ (by omega) z [] (nI B.length) (by show z + 0 < 6000; omega)
    rw [st0] at first
    refine first ?_
    rw [hsort]
    refine hput (by show z + 1 < 6000; omega) ?_
    have l0 := loop 0 (by omega)
    rw [nI_0] at l0
    exact l0
end WRC
