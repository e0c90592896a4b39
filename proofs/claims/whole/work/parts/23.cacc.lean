/-! the program: accounts -/
theorem at_c {δ s : mi_D} {a b : Nat} {p : Int32} (h : δ.2.1 a = s.2.1 b) : mi_at δ a p = mi_at s b p := by unfold mi_at; rw [h]
theorem al_c {δ s : mi_D} {a b : Nat} {p : Int32} (h : δ.2.2 a = s.2.2 b) : mi_al δ a p = mi_al s b p := by unfold mi_al; rw [h]
section CACC
variable {N d : Nat} {δ s : mi_D}
theorem cc_has (hd : 5 ≤ d) (A : AbA δ s) {p : Int32} {Q : Int32 → mi_D → Prop} (k : Q (bI (isAc s p)) δ) : mi_wI N d 2 0 [.ref 4, .int p] [] δ Q := by
  refine q0_has_0 hd ⟨fun h => ?_, fun h => ?_⟩
  · rwa [bI_0 (fun q => q.1 h)] at k
  · rw [A.1]
    refine ⟨fun h2 => ?_, fun h2 => ?_⟩
    · rwa [bI_1 ⟨h, h2⟩] at k
    · rwa [bI_0 (fun q => h2 q.2)] at k
theorem cc_isLeaf (hd : 5 ≤ d) (A : AbA δ s) {p : Int32} {Q : Int32 → mi_D → Prop} (hd' : 6 ≤ d) (k : Q (bI (isLf s p)) δ) : mi_wI N d 3 0 [.ref 4, .int p] [] δ Q := by
  refine q0_isLeaf_0 hd (cc_has (by omega) A (bI_br (fun h => ?_) (fun h => ?_)))
  · rwa [bI_0 (fun q => h q.1)] at k
  · rw [at_c A.2.2.2.2.1]
    refine ⟨fun h2 => ?_, fun h2 => ?_⟩
    · rwa [bI_1 ⟨h, h2⟩] at k
    · rwa [bI_0 (fun q => h2 q.2)] at k
theorem cc_isShut (hd : 5 ≤ d) (A : AbA δ s) {p : Int32} {Q : Int32 → mi_D → Prop} (k : Q (bI (mi_at s 54 p = 1)) δ) : mi_wI N d 4 0 [.ref 4, .int p] [] δ Q := by
  refine q0_isShut_0 hd ?_
  rw [at_c A.2.2.2.2.2.2.1]
  refine ⟨fun h => ?_, fun h => ?_⟩
  · rwa [bI_1 h] at k
  · rwa [bI_0 h] at k
theorem cc_takesChild (hd : 5 ≤ d) (A : AbA δ s) {p g : Int32} {Q : Int32 → mi_D → Prop} (k : Q (bI (mi_at s 52 p = 1 ∧ mi_at s 50 p = g ∧ mi_at s 53 p < 5)) δ) : mi_wI N d 6 0 [.ref 4, .int p, .int g] [] δ Q := by
  refine q0_takesChild_0 hd ?_
  rw [at_c A.2.2.2.2.1, at_c A.2.2.1, at_c A.2.2.2.2.2.1]
  refine ⟨fun h => ⟨fun h2 => ⟨fun h3 => ?_, fun h3 => ?_⟩, fun h2 => ?_⟩, fun h => ?_⟩
  · rwa [bI_1 ⟨h, h2, h3⟩] at k
  · rwa [bI_0 (fun q => h3 q.2.2)] at k
  · rwa [bI_0 (fun q => h2 q.2.1)] at k
  · rwa [bI_0 (fun q => h q.1)] at k
theorem cc_hasCode (hd : 5 ≤ d) (A : AbA δ s) {c : Int32} {Q : Int32 → mi_D → Prop} (W : WfA s) (k : Q (bI (∃ j, j < nN s 2 ∧ s.2.1 49 j = c)) δ) : mi_wI N d 7 0 [.ref 4, .int c, .null] [] δ Q := by
  refine q0_hasCode_0 hd ?_
  have hl : δ.1 4 9 = nI (nN s 2) := A.1.trans W.1.1
  have hb : nN s 2 ≤ 60 := W.1.2
  suffices h : ∀ i, i ≤ nN s 2 → (∀ j, j < i → ¬ s.2.1 49 j = c) → mi_wI N d 7 2 [.ref 4, .int c, .int (nI i)] [] δ Q by
    have e := h 0 (by omega) (fun j hj => by omega)
    rwa [nI_0] at e
  intro i hi
  refine up_ind (P := fun i => (∀ j, j < i → ¬ s.2.1 49 j = c) → mi_wI N d 7 2 [.ref 4, .int c, .int (nI i)] [] δ Q) ?_ ?_ hi
  · intro h
    refine q0_hasCode_2 hd (brF (by rw [hl]; exact nI_nlt (by omega) (by omega)) ?_)
    rwa [bI_0 (fun ⟨j, q1, q2⟩ => h j q1 q2)] at k
  · intro i hi ih h
    refine q0_hasCode_2 hd (brT (by rw [hl]; exact nI_lt hi (by omega)) ?_)
    rw [mi_at_nI _ _ (by omega), A.2.1]
    refine ⟨fun q => ?_, fun q => ?_⟩
    · rwa [bI_1 ⟨i, hi, q⟩] at k
    · rw [nI_1]
      exact ih (fun j hj => by rcases Nat.lt_or_eq_of_le (Nat.lt_succ_iff.mp hj) with e | e; exact h j e; subst e; exact q)
theorem cc_setShut (hd : 5 ≤ d) {j : Nat} {on : Int32} {Q : mi_D → Prop} (hj : j < 60) (k : Q (mi_setA δ 13 j (bI (¬ on = 0)))) : mi_wV N d 5 0 [.ref 4, .int (nI j), .int on] [] δ Q := by
  refine q0_setShut_0 hd ⟨fun h => q0_setShut_14 hd (fun δ1 e => ?_), fun h => q0_setShut_14 hd (fun δ1 e => ?_)⟩ <;> subst e <;> rw [mi_pt_nI _ _ _ _ hj (by omega)]
  · rwa [bI_0 (fun q => q h)] at k
  · rwa [bI_1 h] at k
end CACC
