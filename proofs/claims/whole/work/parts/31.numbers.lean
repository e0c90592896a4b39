/-- the body that is written, of both sides -/
def Bd (δ : mi_D) (B : List Int32) : Prop := δ.1 28 2 = nI B.length ∧ ∀ i b, B[i]? = some b → δ.2.1 30 i = b
def Bm (δ : mi_D) (B : List Int32) : Prop := δ.1 48 34 = nI B.length ∧ ∀ i b, B[i]? = some b → δ.2.1 71 i = b
theorem push_at {B : List Int32} {f : Nat → Int32} {c : Int32} (h : ∀ i b, B[i]? = some b → f i = b) : ∀ i b, (B ++ [c])[i]? = some b → up1 f B.length c i = b := by
  intro i b hb
  by_cases e : i < B.length
  · rw [List.getElem?_append_left e] at hb
    rw [up1_n _ _ (by omega)]
    exact h i b hb
  · rw [List.getElem?_append_right (by omega)] at hb
    have hi := (List.getElem?_eq_some_iff.mp hb).1
    rw [List.length_singleton] at hi
    rw [show i - B.length = 0 from by omega] at hb
    rw [show i = B.length from by omega, up1_s]
    exact Option.some.inj hb
theorem u_zero {u : UInt64} {k : Nat} (h : u.toNat < 2 ^ (7 * (k + 1))) : (u >>> 7).toNat < 2 ^ (7 * k) := by
  rw [u_sr7]
  rw [show 7 * (k + 1) = 7 * k + 7 from by omega, Nat.pow_add] at h
  exact Nat.div_lt_of_lt_mul (by omega)
theorem u_top (u : UInt64) : u.toNat < 2 ^ (7 * 10) := Nat.lt_of_lt_of_le u.toNat_lt (by decide)
section NUM
variable {N d : Nat}
theorem cc_num57 (hd : 5 ≤ d) {p : Int64} {l3 : Int64} {l5 l6 s2 : Int32} {δ : mi_D} {B : List Int32} {Q : mi_D → Prop} (X : Bd δ B) (hB : B.length < 255)
    (k : ∀ δ', Bd δ' (B ++ [s2]) → Fr [(28, 2)] [30] [] δ δ' → (l3 = 0 → Q δ') ∧ (¬ l3 = 0 → mi_wV N d 53 12 [.ref 28, .long p, .null, .long l3, .null, .int (l5 + 1), .int l6] [] δ' Q)) :
    mi_wV N d 53 57 [.ref 28, .long p, .null, .long l3, .null, .int l5, .int l6] [.int s2, .int (δ.1 28 2), .ref 30] δ Q := by
  refine q4_number_57 hd (fun δ1 e1 δ2 e2 => ?_)
  rw [X.1, pt_row _ _ _ _ hB (by omega)] at e1
  subst e1
  rw [rA_f, X.1, nI_1] at e2
  subst e2
  have kk := k (mi_setI (rowA δ 30 (up1 (δ.2.1 30) B.length s2)) 28 2 (nI (B.length + 1))) ⟨by rw [pI_f, if_pos ⟨rfl, rfl⟩, List.length_append]; rfl, by rw [pI_a, rA_a, if_pos rfl]; exact push_at X.2⟩ ((Fr.rwA (by decide)).xI (by decide))
  exact ⟨fun h => kk.1 (zc_eq.mp h), fun h => kk.2 (fun q => h (zc_eq.mpr q))⟩
theorem cc_numL (hd : 5 ≤ d) {p : Int64} {Q : mi_D → Prop} : ∀ k j, j + (k + 1) = 10 → ∀ u : UInt64, u.toNat < 2 ^ (7 * (k + 1)) → ∀ (δ : mi_D) (B : List Int32), Bd δ B → B.length + (k + 1) ≤ 255 → (∀ δ', Bd δ' (B ++ encU (k + 1) u) → Fr [(28, 2)] [30] [] δ δ' → Q δ') →
    mi_wV N d 53 12 [.ref 28, .long p, .null, .long u.toInt64, .null, .int (nI j), .null] [] δ Q ∧ ∀ x6, mi_wV N d 53 12 [.ref 28, .long p, .null, .long u.toInt64, .null, .int (nI j), .int x6] [] δ Q := by
  intro k
  induction k with
  | zero =>
    intro j hj u hu δ B X hB kk
    have hz : u >>> 7 = 0 := by
      have := u_zero (k := 0) hu
      apply UInt64.toNat_inj.mp
      show (u >>> 7).toNat = 0
      omega
    have ee : encU 1 u = [(u &&& 127).toInt64.toInt32] := by
      unfold encU
      rw [if_pos hz, u_small hz]
    rw [show (0 : Nat) + 1 = 1 from rfl, ee] at kk
    have F : ∀ x1, x1 = Int64.toInt32 (u.toInt64 &&& 127) → ∀ x2, x2 = (Int64.toUInt64 u.toInt64 >>> (Int64.toUInt64 (Int32.toInt64 7) &&& Int64.toUInt64 63)).toInt64 → ((lg_cmp x2 0 = 0 → mi_wV N d 53 57 [.ref 28, .long p, .null, .long x2, .null, .int (nI j), .int x1] [.int x1, .int (δ.1 28 2), .ref 30] δ Q) ∧ (¬ lg_cmp x2 0 = 0 → mi_wV N d 53 57 [.ref 28, .long p, .null, .long x2, .null, .int (nI j), .int x1] [.int (x1 + 128), .int (δ.1 28 2), .ref 30] δ Q)) := by
      intro x1 e1 x2 e2
      have e2' : x2 = 0 := by rw [e2, sh7]; exact u_i0.mpr hz
      subst e2'
      refine ⟨fun _ => ?_, fun q => absurd (zc_eq.mpr rfl) q⟩
      subst e1
      exact cc_num57 hd X (by omega) (fun δ' X' f => ⟨fun _ => kk δ' X' f, fun q => absurd rfl q⟩)
    have hj9 : nI j < 10 := nI_lt (b := 10) (by omega) (by omega)
    exact ⟨q4_number_12 hd (brT hj9 F), fun x6 => q4_number_12a hd (brT hj9 F)⟩
  | succ k ih =>
    intro j hj u hu δ B X hB kk
    have F : ∀ x1, x1 = Int64.toInt32 (u.toInt64 &&& 127) → ∀ x2, x2 = (Int64.toUInt64 u.toInt64 >>> (Int64.toUInt64 (Int32.toInt64 7) &&& Int64.toUInt64 63)).toInt64 → ((lg_cmp x2 0 = 0 → mi_wV N d 53 57 [.ref 28, .long p, .null, .long x2, .null, .int (nI j), .int x1] [.int x1, .int (δ.1 28 2), .ref 30] δ Q) ∧ (¬ lg_cmp x2 0 = 0 → mi_wV N d 53 57 [.ref 28, .long p, .null, .long x2, .null, .int (nI j), .int x1] [.int (x1 + 128), .int (δ.1 28 2), .ref 30] δ Q)) := by
      intro x1 e1 x2 e2
      rw [sh7] at e2
      have e2' : x2 = (u >>> 7).toInt64 := e2
      subst e2'
      rw [zc_eq, u_i0]
      refine ⟨fun hz => ?_, fun hz => ?_⟩
      · have ee : encU (k + 1 + 1) u = [(u &&& 127).toInt64.toInt32] := by
          unfold encU
          rw [if_pos hz, u_small hz]
        rw [ee] at kk
        subst e1
        exact cc_num57 hd X (by omega) (fun δ' X' f => ⟨fun _ => kk δ' X' f, fun q => absurd (u_i0.mpr hz) q⟩)
      · have ee : encU (k + 1 + 1) u = ((u &&& 127).toInt64.toInt32 ||| 128) :: encU (k + 1) (u >>> 7) := by
          show (if u >>> 7 = 0 then _ else _) = _
          rw [if_neg hz]
        rw [ee] at kk
        subst e1
        refine cc_num57 hd X (by omega) (fun δ' X' f => ⟨fun q => absurd (u_i0.mp q) hz, fun _ => ?_⟩)
        rw [nI_1]
        refine (ih (j + 1) (by omega) (u >>> 7) (u_zero hu) δ' _ X' (by rw [List.length_append]; show B.length + 1 + (k + 1) ≤ 255; omega) (fun δ'' X'' f' => kk δ'' ?_ (f.tr f'))).2 _
        rw [u_and, add_or, List.append_assoc] at X''
        exact X''
    have hj9 : nI j < 10 := nI_lt (b := 10) (by omega) (by omega)
    exact ⟨q4_number_12 hd (brT hj9 F), fun x6 => q4_number_12a hd (brT hj9 F)⟩
/-- the program writes a number -/
theorem cc_number (hd : 5 ≤ d) {v : Int64} {δ : mi_D} {B : List Int32} {Q : mi_D → Prop} (X : Bd δ B) (hB : B.length + 10 ≤ 255) (k : ∀ δ', Bd δ' (B ++ enc v) → Fr [(28, 2)] [30] [] δ δ' → Q δ') : mi_wV N d 53 0 [.ref 28, .long v, .null, .null, .null, .null, .null] [] δ Q := by
  refine q4_number_0 hd (fun x1 e => ?_)
  rw [zig_c] at e
  subst e
  exact (cc_numL hd 9 0 (by omega) (zig v).toUInt64 (u_top _) δ B X hB k).1
theorem cc_begin (hd : 5 ≤ d) {what : Int32} {δ : mi_D} {Q : mi_D → Prop} (k : ∀ δ', Bd δ' [] → δ'.1 28 3 = what → Fr [(28, 2), (28, 3)] [] [] δ δ' → Q δ') : mi_wV N d 52 0 [.ref 28, .int what] [] δ Q := by
  refine q4_begin_0 hd (fun δ1 e1 δ2 e2 => ?_)
  subst e2 e1
  exact k _ ⟨rfl, fun i b h => by simp at h⟩ rfl ((Fr.setI (by decide)).xI (by decide))
/-- the model writes a number -/
theorem cm_sayL (hd : 5 ≤ d) {p : Int64} {Q : mi_D → Prop} : ∀ k, ∀ u : UInt64, u.toNat < 2 ^ (7 * (k + 1)) → ∀ (δ : mi_D) (B : List Int32), Bm δ B → B.length + (k + 1) ≤ 300 → (∀ δ', Bm δ' (B ++ encU (k + 1) u) → Fr [(48, 34)] [71] [] δ δ' → Q δ') →
    mi_wV N d 151 22 [.ref 48, .long p, .null, .long u.toInt64, .null] [] δ Q := by
  intro k
  have last : ∀ k, ∀ u : UInt64, u >>> 7 = 0 → ∀ (δ : mi_D) (B : List Int32), Bm δ B → B.length + (k + 1) ≤ 300 → (∀ δ', Bm δ' (B ++ encU (k + 1) u) → Fr [(48, 34)] [71] [] δ δ' → Q δ') → (mi_ix (δ.1 48 34) 300 = true ∧ (∀ δ1 : mi_D, δ1 = mi_setA δ 71 (Int32.toNatClampNeg (δ.1 48 34)) (Int64.toInt32 u.toInt64) → (∀ δ2 : mi_D, δ2 = mi_setI δ1 48 34 ((δ1.1 48 34) + 1) → Q δ2))) := by
    intro k u hz δ B X hB kk
    have ee : encU (k + 1) u = [u.toInt64.toInt32] := by
      unfold encU
      rw [if_pos hz]
    rw [ee] at kk
    refine ⟨by rw [X.1]; exact mi_ix_nI (by omega) (by omega), fun δ1 e1 δ2 e2 => ?_⟩
    rw [X.1, nI_clamp (by omega), setA_row] at e1
    subst e1
    rw [rA_f, X.1, nI_1] at e2
    subst e2
    exact kk _ ⟨by rw [pI_f, if_pos ⟨rfl, rfl⟩, List.length_append]; rfl, by rw [pI_a, rA_a, if_pos rfl]; exact push_at X.2⟩ ((Fr.rwA (by decide)).xI (by decide))
  induction k with
  | zero =>
    intro u hu δ B X hB kk
    have hz : u >>> 7 = 0 := by
      have := u_zero (k := 0) hu
      apply UInt64.toNat_inj.mp
      show (u >>> 7).toNat = 0
      omega
    refine q12_say_22 hd ?_
    rw [sh7, zc_eq]
    exact brT (u_i0.mpr hz) (last 0 u hz δ B X hB kk)
  | succ k ih =>
    intro u hu δ B X hB kk
    refine q12_say_22 hd ?_
    rw [sh7, zc_eq]
    refine ⟨fun q => last (k + 1) u (u_i0.mp q) δ B X hB kk, fun q => ?_⟩
    have hz : ¬ u >>> 7 = 0 := fun z => q (u_i0.mpr z)
    have ee : encU (k + 1 + 1) u = ((u &&& 127).toInt64.toInt32 ||| 128) :: encU (k + 1) (u >>> 7) := by
      show (if u >>> 7 = 0 then _ else _) = _
      rw [if_neg hz]
    rw [ee] at kk
    refine ⟨by rw [X.1]; exact mi_ix_nI (by omega) (by omega), fun δ1 e1 δ2 e2 x5 e5 => ?_⟩
    rw [X.1, nI_clamp (by omega), setA_row] at e1
    subst e1
    rw [rA_f, X.1, nI_1] at e2
    subst e2
    have e5' : x5 = (u >>> 7).toInt64 := e5
    subst e5'
    refine ih (u >>> 7) (u_zero hu) _ (B ++ [(u &&& 127).toInt64.toInt32 ||| 128]) ⟨by rw [pI_f, if_pos ⟨rfl, rfl⟩, List.length_append]; rfl, by rw [pI_a, rA_a, if_pos rfl]; exact push_at X.2⟩ (by rw [List.length_append]; show B.length + 1 + (k + 1) ≤ 300; omega) (fun δ'' X'' f' => kk δ'' ?_ (((Fr.rwA (by decide)).xI (by decide)).tr f'))
    rw [List.append_assoc] at X''
    exact X''
theorem cm_say (hd : 5 ≤ d) {v : Int64} {δ : mi_D} {B : List Int32} {Q : mi_D → Prop} (X : Bm δ B) (hB : B.length + 10 ≤ 300) (k : ∀ δ', Bm δ' (B ++ enc v) → Fr [(48, 34)] [71] [] δ δ' → Q δ') : mi_wV N d 151 0 [.ref 48, .long v, .null, .null, .null] [] δ Q := by
  have main := cm_sayL (N := N) hd (p := v) (Q := Q) 9 (zig v).toUInt64 (u_top _) δ B X hB k
  refine q12_say_0 hd ⟨fun h x e => ?_, fun h x e => ?_⟩
  · have ez : zig v = x := by unfold zig; rw [if_pos (zc_lt.mp h), e]
    rw [← ez]
    exact main
  · have ez : zig v = x := by unfold zig; rw [if_neg (fun q => h (zc_lt.mpr q)), e]
    rw [← ez]
    exact main
theorem cm_begin (hd : 5 ≤ d) {δ : mi_D} {Q : mi_D → Prop} (k : ∀ δ', Bm δ' [] → Fr [(48, 34)] [] [] δ δ' → Q δ') : mi_wV N d 150 0 [.ref 48] [] δ Q := by
  refine q12_begin_0 hd (fun δ1 e1 => ?_)
  subst e1
  exact k _ ⟨rfl, fun i b h => by simp at h⟩ (Fr.setI (by decide))
end NUM
