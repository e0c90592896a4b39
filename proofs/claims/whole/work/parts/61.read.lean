/-! RECOVERY: numbers read from the journal, by both sides -/
def zor (f : Nat → Int32) (p k : Nat) (z : Int64) : Int64 := z ||| ((Int32.toInt64 (f p &&& 127)) <<< (Int32.toInt64 (7 * nI k) &&& 63))
def rdN (f : Nat → Int32) (e : Nat) : Nat → Nat → Nat → Int64 → Option (Int64 × Nat)
  | 0, _, _, _ => none
  | m + 1, k, p, z => if p < e then (if k = 9 ∧ 1 < f p then none else if f p < 128 then some (zor f p k z, p + 1) else rdN f e m (k + 1) (p + 1) (zor f p k z)) else none
def half (z : Int64) : Int64 := (Int64.toUInt64 z >>> (Int64.toUInt64 (Int32.toInt64 1) &&& Int64.toUInt64 63)).toInt64
def unz (z : Int64) : Int64 := half z ^^^ (-(z &&& 1))
theorem unz_1 {z : Int64} (h : z &&& 1 = 1) : unz z = -half z - 1 := by
  unfold unz
  rw [h]
  apply Int64.toBitVec_inj.mp
  rw [Int64.toBitVec_xor, Int64.toBitVec_sub, Int64.toBitVec_neg, Int64.toBitVec_neg]
  have e1 : (1 : Int64).toBitVec = 1#64 := rfl
  have e2 : -(1#64) = BitVec.allOnes 64 := by decide
  rw [e1, e2, BitVec.xor_allOnes, BitVec.neg_eq_not_add, BitVec.add_sub_cancel]
theorem unz_0 {z : Int64} (h : ¬ z &&& 1 = 1) : unz z = half z := by
  have h0 : z &&& 1 = 0 := by
    apply Int64.toBitVec_inj.mp
    apply BitVec.eq_of_toNat_eq
    have e : (z &&& 1).toBitVec.toNat = z.toBitVec.toNat % 2 := by
      rw [Int64.toBitVec_and, BitVec.toNat_and]
      exact Nat.and_two_pow_sub_one_eq_mod z.toBitVec.toNat 1
    have ne : ¬ z.toBitVec.toNat % 2 = 1 := fun q => h (by
      apply Int64.toBitVec_inj.mp
      apply BitVec.eq_of_toNat_eq
      rw [e, q]
      rfl)
    rw [e]
    show z.toBitVec.toNat % 2 = 0
    omega
  unfold unz
  rw [h0]
  apply Int64.toBitVec_inj.mp
  rw [Int64.toBitVec_xor, Int64.toBitVec_neg]
  have e1 : (0 : Int64).toBitVec = 0#64 := rfl
  rw [e1, BitVec.neg_zero, BitVec.xor_zero]
def rdS (f : Nat → Int32) (e : Nat) (st : Option Nat) : Option (Int64 × Nat) := match st with
  | some p => match rdN f e 10 0 p 0 with
    | some x => some (unz x.1, x.2)
    | none => none
  | none => none
def rdI (f : Nat → Int32) (e : Nat) (st : Option Nat) : Option (Int32 × Nat) := match rdS f e st with
  | some x => if Int32.toInt64 (Int64.toInt32 x.1) = x.1 then some (Int64.toInt32 x.1, x.2) else none
  | none => none
def rdF (f : Nat → Int32) (e : Nat) (st : Option Nat) : Option (Int32 × Nat) := match rdS f e st with
  | some x => if x.1 = 0 then some (0, x.2) else if x.1 = 1 then some (1, x.2) else none
  | none => none
def stO {α : Type} (x : Option (α × Nat)) : Option Nat := match x with
  | some y => some y.2
  | none => none
/-- a reader's cells: a field for the place, one for the end, one for whether it is wrong -/
def RP (c x e w : Nat) (δ0 δ : mi_D) (st : Option Nat) : Prop := Fr [(c, x), (c, w)] [] [] δ0 δ ∧ match st with
  | some p => δ.1 c w = 0 ∧ δ.1 c x = nI p ∧ p ≤ e
  | none => ¬ δ.1 c w = 0
abbrev RC (e : Nat) (δ0 δ : mi_D) (st : Option Nat) : Prop := RP 31 3 e 5 δ0 δ st
abbrev RM (e : Nat) (δ0 δ : mi_D) (st : Option Nat) : Prop := RP 48 46 e 48 δ0 δ st
/-- an answer of a reader, and where it stands then -/
def RO (c x e w : Nat) {α : Type} (δ0 : mi_D) (y : Option (α × Nat)) (v : α) (δ' : mi_D) : Prop := match y with
  | some y => v = y.1 ∧ RP c x e w δ0 δ' (some y.2)
  | none => RP c x e w δ0 δ' none
theorem RO.st {c x e w : Nat} {α : Type} {δ0 δ' : mi_D} {y : Option (α × Nat)} {v : α} (h : RO c x e w δ0 y v δ') : RP c x e w δ0 δ' (stO y) := by
  unfold RO at h
  unfold stO
  split at h
  · exact h.2
  · exact h
theorem i64_fit (v : Int64) : Int32.toInt64 (Int64.toInt32 v) = v ↔ ¬ v < -2147483648 ∧ ¬ 2147483647 < v := by
  have e1 : (-2147483648 : Int64).toInt = -2147483648 := by decide
  have e2 : (2147483647 : Int64).toInt = 2147483647 := by decide
  constructor
  · intro h
    have h1 : (Int32.toInt64 (Int64.toInt32 v)).toInt = v.toInt := by rw [h]
    rw [Int32.toInt_toInt64] at h1
    have l1 := Int32.le_toInt (Int64.toInt32 v)
    have l2 := Int32.toInt_lt (Int64.toInt32 v)
    rw [Int64.lt_iff_toInt_lt, Int64.lt_iff_toInt_lt, e1, e2]
    omega
  · intro ⟨h1, h2⟩
    rw [Int64.lt_iff_toInt_lt] at h1 h2
    apply Int64.toInt_inj.mp
    rw [Int32.toInt_toInt64, Int64.toInt_toInt32]
    exact Int.bmod_eq_of_le (by show -((4294967296 : Nat) / 2 : Int) ≤ _; omega) (by show _ < ((4294967296 : Nat) + 1 : Int) / 2; omega)
section RDC
variable {N d e : Nat} {δ0 δ : mi_D} {f : Nat → Int32} {st : Option Nat}
theorem rc_wrong {δ δ' : mi_D} (R : Fr [(31, 3), (31, 5)] [] [] δ0 δ) (h : δ' = mi_setI δ 31 5 1) : RC e δ0 δ' none := by
  rw [h]
  exact ⟨R.tr (Fr.setI (by decide)), by show ¬ (mi_setI δ 31 5 1).1 31 5 = 0; rw [pI_f, if_pos ⟨rfl, rfl⟩]; decide⟩
theorem cc_rdNone (hd : 5 ≤ d) {Q : Int64 → mi_D → Prop} (k : ∀ v δ', RC e δ0 δ' none → Q v δ') : ∀ m i, i + m = 10 → ∀ δ z, RC e δ0 δ none → mi_wL N d 95 4 [.ref 31, .long z, .null, .int (nI i), .null] [] δ Q ∧ ∀ x, mi_wL N d 95 4 [.ref 31, .long z, .null, .int (nI i), .int x] [] δ Q := by
  intro m
  induction m with
  | zero =>
    intro i hi δ z R
    have hF : ¬ nI i < 10 := by rw [show i = 10 by omega]; decide
    exact ⟨q8_nextNumber_4 hd (brF hF (q8_nextNumber_99 hd (fun δ1 e1 => k 0 δ1 (rc_wrong R.1 e1)))), fun x => q8_nextNumber_4a hd (brF hF (q8_nextNumber_99a hd (fun δ1 e1 => k 0 δ1 (rc_wrong R.1 e1))))⟩
  | succ m ih =>
    intro i hi δ z R
    have hT : nI i < 10 := nI_lt (b := 10) (by omega) (by omega)
    have body : ∀ x1 : Int32, x1 = (mi_at δ 29 (δ.1 31 3)) → (∀ δ2 : mi_D, δ2 = mi_setI δ 31 3 ((δ.1 31 3) + 1) → ((nI i = 9 → ((1 < x1 → mi_wL N d 95 99 [.ref 31, .long z, .null, .int (nI i), .int x1] [] δ2 Q) ∧ (¬ 1 < x1 → mi_wL N d 95 62 [.ref 31, .long z, .null, .int (nI i), .int x1] [] δ2 Q))) ∧ (¬ nI i = 9 → mi_wL N d 95 62 [.ref 31, .long z, .null, .int (nI i), .int x1] [] δ2 Q))) := by
      intro x1 _ δ2 e2
      have R2 : RC e δ0 δ2 none := by
        rw [e2]
        exact ⟨R.1.tr (Fr.setI (by decide)), by rw [pI_f, if_neg (by decide)]; exact R.2⟩
      have s62 : mi_wL N d 95 62 [.ref 31, .long z, .null, .int (nI i), .int x1] [] δ2 Q := by
        refine q8_nextNumber_62 hd (fun x _ => ⟨fun _ => k _ δ2 R2, fun _ => ?_⟩)
        rw [nI_1]
        exact (ih (i + 1) (by omega) δ2 x R2).2 x1
      exact ⟨fun _ => ⟨fun _ => q8_nextNumber_99a hd (fun δ1 e1 => k 0 δ1 (rc_wrong R2.1 e1)), fun _ => s62⟩, fun _ => s62⟩
    exact ⟨q8_nextNumber_4 hd (brT hT ⟨fun _ => body, fun _ => q8_nextNumber_99 hd (fun δ1 e1 => k 0 δ1 (rc_wrong R.1 e1))⟩), fun x => q8_nextNumber_4a hd (brT hT ⟨fun _ => body, fun _ => q8_nextNumber_99a hd (fun δ1 e1 => k 0 δ1 (rc_wrong R.1 e1))⟩)⟩
theorem cc_rdSome (hd : 5 ≤ d) (h4 : δ0.1 31 4 = nI e) (hf : δ0.2.1 29 = f) (he : e ≤ 6000) {Q : Int64 → mi_D → Prop} : ∀ m i, i + m = 10 → ∀ p δ z, RC e δ0 δ (some p) → (∀ v δ', (match rdN f e m i p z with | some x => v = unz x.1 ∧ RC e δ0 δ' (some x.2) | none => RC e δ0 δ' none) → Q v δ') → mi_wL N d 95 4 [.ref 31, .long z, .null, .int (nI i), .null] [] δ Q ∧ ∀ x, mi_wL N d 95 4 [.ref 31, .long z, .null, .int (nI i), .int x] [] δ Q := by
  intro m
  induction m with
  | zero =>
    intro i hi p δ z R k
    have hF : ¬ nI i < 10 := by rw [show i = 10 by omega]; decide
    exact ⟨q8_nextNumber_4 hd (brF hF (q8_nextNumber_99 hd (fun δ1 e1 => k 0 δ1 (rc_wrong R.1 e1)))), fun x => q8_nextNumber_4a hd (brF hF (q8_nextNumber_99a hd (fun δ1 e1 => k 0 δ1 (rc_wrong R.1 e1))))⟩
  | succ m ih =>
    intro i hi p δ z R k
    obtain ⟨RF, r5, r3, rp⟩ := R
    have hT : nI i < 10 := nI_lt (b := 10) (by omega) (by omega)
    have d4 : δ.1 31 4 = nI e := (RF.1 _ _ (by decide)).trans h4
    have d29 : δ.2.1 29 = f := (RF.2.1 29 List.not_mem_nil).trans hf
    have er : rdN f e (m + 1) i p z = if p < e then (if i = 9 ∧ 1 < f p then none else if f p < 128 then some (zor f p i z, p + 1) else rdN f e m (i + 1) (p + 1) (zor f p i z)) else none := rfl
    have body : p < e → ∀ x1 : Int32, x1 = (mi_at δ 29 (δ.1 31 3)) → (∀ δ2 : mi_D, δ2 = mi_setI δ 31 3 ((δ.1 31 3) + 1) → ((nI i = 9 → ((1 < x1 → mi_wL N d 95 99 [.ref 31, .long z, .null, .int (nI i), .int x1] [] δ2 Q) ∧ (¬ 1 < x1 → mi_wL N d 95 62 [.ref 31, .long z, .null, .int (nI i), .int x1] [] δ2 Q))) ∧ (¬ nI i = 9 → mi_wL N d 95 62 [.ref 31, .long z, .null, .int (nI i), .int x1] [] δ2 Q))) := by
      intro hp x1 e1 δ2 e2
      rw [r3, mi_at_nI _ _ (by omega), d29] at e1
      subst e1
      rw [r3, nI_1] at e2
      have F2 : Fr [(31, 3), (31, 5)] [] [] δ0 δ2 := by rw [e2]; exact RF.tr (Fr.setI (by decide))
      have R2 : RC e δ0 δ2 (some (p + 1)) := ⟨F2, by rw [e2, pI_f, if_neg (by decide)]; exact r5, by rw [e2, pI_f, if_pos ⟨rfl, rfl⟩], hp⟩
      rw [if_pos hp] at er
      have i9 : nI i = 9 ↔ i = 9 := nI_eq (b := 9) (by omega) (by omega)
      have s62 : ¬ (i = 9 ∧ 1 < f p) → mi_wL N d 95 62 [.ref 31, .long z, .null, .int (nI i), .int (f p)] [] δ2 Q := by
        intro hno
        rw [if_neg hno] at er
        refine q8_nextNumber_62 hd (fun x ex => ?_)
        have ex : x = zor f p i z := ex
        subst ex
        refine ⟨fun q => ?_, fun q => ?_⟩
        · rw [if_pos q] at er
          rw [er] at k
          exact k _ δ2 ⟨rfl, R2⟩
        · rw [if_neg q] at er
          rw [er] at k
          rw [nI_1]
          exact (ih (i + 1) (by omega) (p + 1) δ2 _ R2 k).2 _
      refine ⟨fun q => ⟨fun q2 => q8_nextNumber_99a hd (fun δ1 e1 => ?_), fun q2 => s62 (fun z => q2 z.2)⟩, fun q => s62 (fun z => q (i9.mpr z.1))⟩
      rw [if_pos ⟨i9.mp q, q2⟩] at er
      rw [er] at k
      exact k 0 δ1 (rc_wrong F2 e1)
    have stop : ¬ p < e → ∀ δ1, δ1 = mi_setI δ 31 5 1 → Q 0 δ1 := by
      intro hp δ1 e1
      rw [if_neg hp] at er
      rw [er] at k
      exact k 0 δ1 (rc_wrong RF e1)
    have cond : δ.1 31 3 < δ.1 31 4 ↔ p < e := by rw [r3, d4]; exact nI_ltI (by omega) (by omega)
    exact ⟨q8_nextNumber_4 hd (brT hT ⟨fun q => body (cond.mp q), fun q => q8_nextNumber_99 hd (stop (fun z => q (cond.mpr z)))⟩), fun x => q8_nextNumber_4a hd (brT hT ⟨fun q => body (cond.mp q), fun q => q8_nextNumber_99a hd (stop (fun z => q (cond.mpr z)))⟩)⟩
theorem cc_nextNumber (hd : 5 ≤ d) (h4 : δ0.1 31 4 = nI e) (hf : δ0.2.1 29 = f) (he : e ≤ 6000) (R : RC e δ0 δ st) {Q : Int64 → mi_D → Prop} (k : ∀ v δ', RO 31 3 e 5 δ0 (rdS f e st) v δ' → Q v δ') : mi_wL N d 95 0 [.ref 31, .null, .null, .null, .null] [] δ Q := by
  refine q8_nextNumber_0 hd ?_
  cases st with
  | none =>
    have h := (cc_rdNone (N := N) (e := e) (δ0 := δ0) hd (Q := Q) (fun v δ' R' => k v δ' R') 10 0 (by omega) δ 0 R).1
    rwa [nI_0] at h
  | some p =>
    have h := (cc_rdSome (N := N) hd h4 hf he (Q := Q) 10 0 (by omega) p δ 0 R (fun v δ' h => k v δ' (by
      unfold RO rdS
      dsimp only
      cases hr : rdN f e 10 0 p 0 with
      | none => rw [hr] at h; exact h
      | some x => rw [hr] at h; exact h))).1
    rwa [nI_0] at h
theorem cc_nextInt (hd : 6 ≤ d) (h4 : δ0.1 31 4 = nI e) (hf : δ0.2.1 29 = f) (he : e ≤ 6000) (R : RC e δ0 δ st) {Q : Int32 → mi_D → Prop} (k : ∀ v δ', RO 31 3 e 5 δ0 (rdI f e st) v δ' → Q v δ') : mi_wI N d 94 0 [.ref 31, .null, .null] [] δ Q := by
  refine q8_nextInt_0 (by omega) (cc_nextNumber (by omega) h4 hf he R (fun v δ' h => ?_))
  rw [zc_eq]
  unfold rdI at k
  unfold RO at h
  cases hr : rdS f e st with
  | none =>
    rw [hr] at h k
    exact ⟨fun _ => k _ δ' h, fun _ δ3 e3 => k _ δ3 (rc_wrong (e := e) h.1 e3)⟩
  | some y =>
    rw [hr] at h k
    obtain ⟨hv, hR⟩ := h
    dsimp only at hv hR k
    rw [hv]
    refine ⟨fun q => ?_, fun q δ3 e3 => ?_⟩
    · rw [if_pos q.symm] at k
      exact k _ δ' ⟨rfl, hR⟩
    · rw [if_neg (fun z => q z.symm)] at k
      exact k _ δ3 (rc_wrong (e := e) hR.1 e3)
theorem cc_nextFlag (hd : 6 ≤ d) (h4 : δ0.1 31 4 = nI e) (hf : δ0.2.1 29 = f) (he : e ≤ 6000) (R : RC e δ0 δ st) {Q : Int32 → mi_D → Prop} (k : ∀ v δ', RO 31 3 e 5 δ0 (rdF f e st) v δ' → Q v δ') : mi_wI N d 93 0 [.ref 31, .null, .null] [] δ Q := by
  refine q8_nextFlag_0 (by omega) (cc_nextNumber (by omega) h4 hf he R (fun v δ' h => ?_))
  rw [zc_eq, zc_eq]
  unfold rdF at k
  unfold RO at h
  have s22 : ∀ δ3 : mi_D, (∀ x : Int32, (v = 1 → x = 1) → (¬ v = 1 → x = 0) → Q x δ3) → mi_wI N d 93 22 [.ref 31, .long v, .null] [] δ3 Q := by
    intro δ3 hq
    refine q8_nextFlag_22 (by omega) ?_
    rw [zc_eq]
    exact ⟨fun z => hq 1 (fun _ => rfl) (fun y => absurd z y), fun z => hq 0 (fun y => absurd y z) (fun _ => rfl)⟩
  cases hr : rdS f e st with
  | none =>
    rw [hr] at h k
    exact ⟨fun _ => s22 δ' (fun x _ _ => k _ δ' h), fun _ => ⟨fun _ => s22 δ' (fun x _ _ => k _ δ' h), fun _ δ3 e3 => s22 δ3 (fun x _ _ => k _ δ3 (rc_wrong (e := e) h.1 e3))⟩⟩
  | some y =>
    rw [hr] at h k
    obtain ⟨hv, hR⟩ := h
    dsimp only at hv hR k
    rw [← hv] at k
    refine ⟨fun q => s22 δ' (fun x a b => ?_), fun q => ⟨fun q2 => s22 δ' (fun x a b => ?_), fun q2 δ3 e3 => s22 δ3 (fun x _ _ => ?_)⟩⟩
    · rw [if_pos q] at k
      exact k _ δ' ⟨b (by rw [q]; decide), hR⟩
    · rw [if_neg q, if_pos q2] at k
      exact k _ δ' ⟨a q2, hR⟩
    · rw [if_neg q, if_neg q2] at k
      exact k _ δ3 (rc_wrong (e := e) hR.1 e3)
theorem cc_isReadWhole (hd : 5 ≤ d) (h4 : δ0.1 31 4 = nI e) (he : e ≤ 6000) (R : RC e δ0 δ st) {Q : Int32 → mi_D → Prop} (k : Q (bI (st = some e)) δ) : mi_wI N d 92 0 [.ref 31] [] δ Q := by
  refine q8_isReadWhole_0 hd ?_
  have d4 : δ.1 31 4 = nI e := (R.1.1 _ _ (by decide)).trans h4
  rw [d4]
  cases st with
  | none => exact ⟨fun q => absurd q R.2, fun _ => by rwa [bI_0 (fun z => by cases z)] at k⟩
  | some p =>
    obtain ⟨r5, r3, rp⟩ := R.2
    rw [r3]
    refine ⟨fun _ => ⟨fun q => ?_, fun q => ?_⟩, fun q => absurd r5 q⟩
    · rwa [bI_1 (congrArg some ((nI_eq (by omega) (by omega)).mp q))] at k
    · rwa [bI_0 (fun z => q (congrArg nI (Option.some.inj z)))] at k
end RDC
section RDM
variable {N d e : Nat} {δ0 δ : mi_D} {f : Nat → Int32} {st : Option Nat}
theorem rm_set {δ δ' : mi_D} {s1 : Int32} (R : Fr [(48, 46), (48, 48)] [] [] δ0 δ) (h : δ' = mi_setI δ 48 48 s1) (h1 : ¬ s1 = 0) : RM e δ0 δ' none := by
  rw [h]
  exact ⟨R.tr (Fr.setI (by decide)), by rw [pI_f, if_pos ⟨rfl, rfl⟩]; exact h1⟩
theorem cm_numv (hd : 5 ≤ d) {z : Int64} {i a : Int32} {Q : Int64 → mi_D → Prop} (k : Q (unz z) δ) : mi_wL N d 183 120 [.ref 48, .long z, .null, .int i, .int a, .null, .null] [] δ Q ∧ ∀ x, mi_wL N d 183 120 [.ref 48, .long z, .null, .int i, .int a, .int x, .null] [] δ Q := by
  have body : ∀ x1 : Int64, x1 = ((Int64.toUInt64 z >>> (Int64.toUInt64 (Int32.toInt64 1) &&& Int64.toUInt64 63)).toInt64) → (((lg_cmp (z &&& 1) 1) = 0 → Q ((-x1) - 1) δ) ∧ (¬ (lg_cmp (z &&& 1) 1) = 0 → Q x1 δ)) := by
    intro x1 ex
    have ex : x1 = half z := ex
    rw [ex, zc_eq]
    exact ⟨fun q => by rwa [unz_1 q] at k, fun q => by rwa [unz_0 q] at k⟩
  exact ⟨q12_number_120 hd body, fun x => q12_number_120a hd body⟩
theorem cm_rdSome (hd : 5 ≤ d) (h4 : δ0.1 48 47 = nI e) (hf : δ0.2.1 70 = f) (he : e ≤ 6000) {Q : Int64 → mi_D → Prop} : ∀ m i, i + m = 10 → ∀ p δ z, RM e δ0 δ (some p) → (∀ v δ', (match rdN f e m i p z with | some x => v = unz x.1 ∧ RM e δ0 δ' (some x.2) | none => RM e δ0 δ' none) → Q v δ') → mi_wL N d 183 7 [.ref 48, .long z, .null, .int (nI i), .int 1, .null, .null] [] δ Q ∧ ∀ x, mi_wL N d 183 7 [.ref 48, .long z, .null, .int (nI i), .int 1, .int x, .null] [] δ Q := by
  intro m
  have wrong : ∀ (δ : mi_D) (i : Int32) z, Fr [(48, 46), (48, 48)] [] [] δ0 δ → (∀ v δ', RM e δ0 δ' none → Q v δ') → mi_wL N d 183 36 [.ref 48, .long z, .null, .int i, .int 1, .null, .null] [] δ Q ∧ ∀ x, mi_wL N d 183 36 [.ref 48, .long z, .null, .int i, .int 1, .int x, .null] [] δ Q := by
    intro δ i z R k
    refine ⟨q12_number_36 hd (fun δ1 e1 => ?_), fun x => q12_number_36a hd (fun δ1 e1 => ?_)⟩
    · have R1 := rm_set (e := e) R e1 (by decide)
      exact q12_number_7 hd (brF (by decide) (brF R1.2 (cm_numv hd (k _ δ1 R1)).1))
    · have R1 := rm_set (e := e) R e1 (by decide)
      exact q12_number_7a hd (brF (by decide) (brF R1.2 ((cm_numv hd (k _ δ1 R1)).2 x)))
  induction m with
  | zero =>
    intro i hi p δ z R k
    obtain ⟨RF, r5, r3, rp⟩ := R
    have i10 : nI i = 10 := by rw [show i = 10 by omega]; rfl
    have w := wrong δ (nI i) z RF (fun v δ' h => k v δ' h)
    refine ⟨q12_number_7 hd (brF (by decide) (brT r5 ⟨fun _ => w.1, fun _ => brT i10 w.1⟩)), fun x => q12_number_7a hd (brF (by decide) (brT r5 ⟨fun _ => w.2 x, fun _ => brT i10 (w.2 x)⟩))⟩
  | succ m ih =>
    intro i hi p δ z R k
    obtain ⟨RF, r5, r3, rp⟩ := R
    have hne10 : ¬ nI i = 10 := fun q => by have := (nI_eq (b := 10) (by omega) (by omega)).mp q; omega
    have d4 : δ.1 48 47 = nI e := (RF.1 _ _ (by decide)).trans h4
    have d70 : δ.2.1 70 = f := (RF.2.1 70 List.not_mem_nil).trans hf
    have er : rdN f e (m + 1) i p z = if p < e then (if i = 9 ∧ 1 < f p then none else if f p < 128 then some (zor f p i z, p + 1) else rdN f e m (i + 1) (p + 1) (zor f p i z)) else none := rfl
    have cond : δ.1 48 46 = δ.1 48 47 ↔ ¬ p < e := by
      rw [r3, d4, nI_eq (by omega) (by omega)]
      omega
    have b127 : ∀ b : Int32, 127 < b ↔ ¬ b < 128 := fun b => by
      rw [Int32.lt_iff_toInt_lt, Int32.lt_iff_toInt_lt]
      have e4 : (127 : Int32).toInt = 127 := by decide
      have e5 : (128 : Int32).toInt = 128 := by decide
      omega
    have i9 : nI i = 9 ↔ i = 9 := nI_eq (b := 9) (by omega) (by omega)
    have body : p < e → (mi_ix (δ.1 48 46) 6000 = true ∧ (∀ x1 : Int32, x1 = (δ.2.1 70 (Int32.toNatClampNeg (δ.1 48 46))) → (∀ δ2 : mi_D, δ2 = mi_setI δ 48 46 ((δ.1 48 46) + 1) → ((nI i = 9 → ((1 < x1 → mi_wL N d 183 83 [.ref 48, .long z, .null, .int (nI i), .int 1, .int x1, .null] [.int 1, .ref 48] δ2 Q) ∧ (¬ 1 < x1 → mi_wL N d 183 82 [.ref 48, .long z, .null, .int (nI i), .int 1, .int x1, .null] [.ref 48] δ2 Q))) ∧ (¬ nI i = 9 → mi_wL N d 183 82 [.ref 48, .long z, .null, .int (nI i), .int 1, .int x1, .null] [.ref 48] δ2 Q))))) := by
      intro hp
      rw [r3]
      refine ⟨mi_ix_nI (by omega) (by omega), fun x1 e1 δ2 e2 => ?_⟩
      rw [nI_clamp (by omega), d70] at e1
      subst e1
      rw [nI_1] at e2
      have F2 : Fr [(48, 46), (48, 48)] [] [] δ0 δ2 := by rw [e2]; exact RF.tr (Fr.setI (by decide))
      rw [if_pos hp] at er
      have s82 : ¬ (i = 9 ∧ 1 < f p) → mi_wL N d 183 82 [.ref 48, .long z, .null, .int (nI i), .int 1, .int (f p), .null] [.ref 48] δ2 Q := by
        intro hno
        rw [if_neg hno] at er
        refine q12_number_82 hd (q12_number_83 hd ⟨Or.inl rfl, fun δ3 e3 x ex => ?_⟩)
        have ex : x = zor f p i z := ex
        subst ex
        have R3 : RM e δ0 δ3 (some (p + 1)) := by
          rw [e3]
          exact ⟨F2.tr (Fr.setI (by decide)), by rw [pI_f, if_pos ⟨rfl, rfl⟩], by rw [pI_f, if_neg (by decide), e2, pI_f, if_pos ⟨rfl, rfl⟩], hp⟩
        rw [b127, nI_1]
        refine ⟨fun q => ?_, fun q => ?_⟩
        · rw [if_neg q] at er
          rw [er] at k
          exact (ih (i + 1) (by omega) (p + 1) δ3 _ R3 k).2 _
        · have q := Decidable.not_not.mp q
          rw [if_pos q] at er
          rw [er] at k
          exact q12_number_7a hd (brT rfl ((cm_numv hd (k _ δ3 ⟨rfl, R3⟩)).2 _))
      refine ⟨fun q => ⟨fun q2 => ?_, fun q2 => s82 (fun z => q2 z.2)⟩, fun q => s82 (fun z => q (i9.mpr z.1))⟩
      rw [if_pos ⟨i9.mp q, q2⟩] at er
      rw [er] at k
      refine q12_number_83 hd ⟨Or.inr rfl, fun δ3 e3 x ex => ?_⟩
      have R3 := rm_set (e := e) F2 e3 (by decide)
      exact ⟨fun _ => q12_number_7a hd (brF (by decide) (brF R3.2 ((cm_numv hd (k _ δ3 R3)).2 _))), fun _ => q12_number_7a hd (brT rfl ((cm_numv hd (k _ δ3 R3)).2 _))⟩
    have stop : ¬ p < e → (∀ v δ', RM e δ0 δ' none → Q v δ') := by
      intro hp v δ' h
      rw [if_neg hp] at er
      rw [er] at k
      exact k v δ' h
    refine ⟨q12_number_7 hd (brF (by decide) (brT r5 ⟨fun q => (wrong δ (nI i) z RF (stop (cond.mp q))).1, fun q => brF hne10 (body (Decidable.not_not.mp (fun z => q (cond.mpr z))))⟩)), fun x => q12_number_7a hd (brF (by decide) (brT r5 ⟨fun q => (wrong δ (nI i) z RF (stop (cond.mp q))).2 x, fun q => brF hne10 (body (Decidable.not_not.mp (fun z => q (cond.mpr z))))⟩))⟩
theorem cm_number (hd : 5 ≤ d) (h4 : δ0.1 48 47 = nI e) (hf : δ0.2.1 70 = f) (he : e ≤ 6000) (R : RM e δ0 δ st) {Q : Int64 → mi_D → Prop} (k : ∀ v δ', RO 48 46 e 48 δ0 (rdS f e st) v δ' → Q v δ') : mi_wL N d 183 0 [.ref 48, .null, .null, .null, .null, .null, .null] [] δ Q := by
  refine q12_number_0 hd ?_
  cases st with
  | none => exact q12_number_7 hd (brF (by decide) (brF R.2 (cm_numv hd (k _ δ R)).1))
  | some p =>
    have h := (cm_rdSome (N := N) hd h4 hf he (Q := Q) 10 0 (by omega) p δ 0 R (fun v δ' h => k v δ' (by
      unfold RO rdS
      dsimp only
      cases hr : rdN f e 10 0 p 0 with
      | none => rw [hr] at h; exact h
      | some x => rw [hr] at h; exact h))).1
    rwa [nI_0] at h
theorem cm_whole (hd : 6 ≤ d) (h4 : δ0.1 48 47 = nI e) (hf : δ0.2.1 70 = f) (he : e ≤ 6000) (R : RM e δ0 δ st) {Q : Int32 → mi_D → Prop} (k : ∀ v δ', RO 48 46 e 48 δ0 (rdI f e st) v δ' → Q v δ') : mi_wI N d 184 0 [.ref 48, .null, .null] [] δ Q := by
  refine q12_whole_0 (by omega) (cm_number (by omega) h4 hf he R (fun v δ' h => ?_))
  unfold rdI at k
  unfold RO at h
  have s26 : ∀ δ3 : mi_D, Fr [(48, 46), (48, 48)] [] [] δ0 δ3 → (∀ x δ4, RM e δ0 δ4 none → Q x δ4) → mi_wI N d 184 26 [.ref 48, .long v, .null] [.ref 48] δ3 Q := fun δ3 F3 hq => q12_whole_26 (by omega) (q12_whole_31 (by omega) ⟨Or.inr rfl, fun δ4 e4 => hq _ δ4 (rm_set F3 e4 (by decide))⟩)
  cases hr : rdS f e st with
  | none =>
    rw [hr] at h k
    exact brF h.2 (s26 δ' h.1 (fun x δ4 h4 => k x δ4 h4))
  | some y =>
    rw [hr] at h k
    obtain ⟨hv, hR⟩ := h
    dsimp only at hv hR k
    rw [← hv] at k
    refine brT hR.2.1 (c_in (by omega) (fun a1 a2 => brN (by decide) (q12_whole_31 (by omega) ⟨Or.inl rfl, fun δ4 e4 => ?_⟩)) (fun a => br0 (s26 δ' hR.1 (fun x δ4 h4 => ?_))))
    · rw [if_pos ((i64_fit v).mpr ⟨a1, a2⟩)] at k
      have e4' : δ4 = δ' := by rw [e4]; exact setI_self hR.2.1
      rw [e4']
      exact k _ δ' ⟨rfl, hR⟩
    · rw [if_neg (fun z => a.elim ((i64_fit v).mp z).1 ((i64_fit v).mp z).2)] at k
      exact k x δ4 h4
theorem cm_truth (hd : 7 ≤ d) (h4 : δ0.1 48 47 = nI e) (hf : δ0.2.1 70 = f) (he : e ≤ 6000) (R : RM e δ0 δ st) {Q : Int32 → mi_D → Prop} (k : ∀ v δ', (v = 0 ∨ v = 1) → RO 48 46 e 48 δ0 (rdF f e st) v δ' → Q v δ') : mi_wI N d 185 0 [.ref 48, .null] [] δ Q := by
  refine q12_truth_0 (by omega) (cm_whole (by omega) h4 hf he R (fun v δ' h => ?_))
  unfold rdF at k
  unfold RO rdI at h
  have s28 : ∀ δ3 s1, Fr [(48, 46), (48, 48)] [] [] δ0 δ3 → (s1 = 0 ∨ s1 = 1) → (∀ x δ4, (x = 0 ∨ x = 1) → (v = 1 → x = 1) → (¬ v = 1 → x = 0) → δ4 = mi_setI δ3 48 48 s1 → Q x δ4) → mi_wI N d 185 28 [.ref 48, .int v] [.int s1, .ref 48] δ3 Q := fun δ3 s1 F3 h1 hq => q12_truth_28 (by omega) ⟨h1, fun δ4 e4 => ⟨fun z => hq 1 δ4 (Or.inr rfl) (fun _ => rfl) (fun y => absurd z y) e4, fun z => hq 0 δ4 (Or.inl rfl) (fun y => absurd y z) (fun _ => rfl) e4⟩⟩
  have s23 : ∀ δ3, Fr [(48, 46), (48, 48)] [] [] δ0 δ3 → (∀ x δ4, (x = 0 ∨ x = 1) → RM e δ0 δ4 none → Q x δ4) → mi_wI N d 185 23 [.ref 48, .int v] [.ref 48] δ3 Q := fun δ3 F3 hq => q12_truth_23 (by omega) (s28 δ3 1 F3 (Or.inr rfl) (fun x δ4 hx _ _ e4 => hq x δ4 hx (rm_set F3 e4 (by decide))))
  cases hr : rdS f e st with
  | none =>
    rw [hr] at h k
    exact brF h.2 (s23 δ' h.1 (fun x δ4 hx h4 => k x δ4 hx h4))
  | some y =>
    rw [hr] at h k
    dsimp only at h k
    by_cases hfit : Int32.toInt64 (Int64.toInt32 y.1) = y.1
    · rw [if_pos hfit] at h
      obtain ⟨hv, hR⟩ := h
      dsimp only at hv hR
      have ev : ∀ c : Int32, y.1 = Int32.toInt64 c ↔ v = c := fun c => by
        rw [hv]
        exact ⟨fun q => by rw [q] at hfit ⊢; exact nw_eq.mp hfit, fun q => by rw [← q, hfit]⟩
      have ev0 : y.1 = 0 ↔ v = 0 := by have h := ev 0; rwa [show Int32.toInt64 0 = 0 from by decide] at h
      have ev1 : y.1 = 1 ↔ v = 1 := by have h := ev 1; rwa [show Int32.toInt64 1 = 1 from by decide] at h
      refine brT hR.2.1 (c_inI (lo := 0) (hi := 1) (by omega) rfl rfl (fun a1 a2 => brN (by decide) (s28 δ' 0 hR.1 (Or.inl rfl) (fun x δ4 hx b1 b0 e4 => ?_))) (fun a => br0 (s23 δ' hR.1 (fun x δ4 hx h4 => ?_))))
      · have e4' : δ4 = δ' := by rw [e4]; exact setI_self hR.2.1
        rw [e4']
        by_cases z0 : v = 0
        · rw [if_pos (ev0.mpr z0)] at k
          exact k x δ' hx ⟨b0 (by rw [z0]; decide), hR⟩
        · have z1 : v = 1 := by
            obtain ⟨j, hj, ej⟩ := nI_of a1
            rcases Nat.lt_or_ge j 2 with y | y
            · rcases (show j = 0 ∨ j = 1 by omega) with w | w
              · rw [w] at ej; exact absurd ej z0
              · rw [w] at ej; exact ej
            · exact absurd (by rw [ej]; exact nI_lt (a := 1) (by omega) hj) a2
          rw [if_neg (fun q => z0 (ev0.mp q)), if_pos (ev1.mpr z1)] at k
          exact k x δ' hx ⟨b1 z1, hR⟩
      · rw [if_neg (fun q => by rw [ev0.mp q] at a; exact absurd a (by decide)), if_neg (fun q => by rw [ev1.mp q] at a; exact absurd a (by decide))] at k
        exact k x δ4 hx h4
    · rw [if_neg hfit] at h
      refine brF h.2 (s23 δ' h.1 (fun x δ4 hx h4 => ?_))
      rw [if_neg (fun q => hfit (by rw [q]; decide)), if_neg (fun q => hfit (by rw [q]; decide))] at k
      exact k x δ4 hx h4
theorem cm_isEnded (hd : 5 ≤ d) (h4 : δ0.1 48 47 = nI e) (he : e ≤ 6000) (R : RM e δ0 δ st) {Q : Int32 → mi_D → Prop} (k : Q (bI (st = some e)) δ) : mi_wI N d 186 0 [.ref 48] [] δ Q := by
  refine q12_isEnded_0 hd ?_
  have d4 : δ.1 48 47 = nI e := (R.1.1 _ _ (by decide)).trans h4
  rw [d4]
  cases st with
  | none => exact ⟨fun q => absurd q R.2, fun _ => by rwa [bI_0 (fun z => by cases z)] at k⟩
  | some p =>
    obtain ⟨r5, r3, rp⟩ := R.2
    rw [r3]
    refine ⟨fun _ => ⟨fun q => ?_, fun q => ?_⟩, fun q => absurd r5 q⟩
    · rwa [bI_1 (congrArg some ((nI_eq (by omega) (by omega)).mp q))] at k
    · rwa [bI_0 (fun z => q (congrArg nI (Option.some.inj z)))] at k
end RDM
