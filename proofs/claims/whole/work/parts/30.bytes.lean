/-! numbers as bytes: both ways of writing them -/
theorem sh7 (u : UInt64) : (u >>> (Int64.toUInt64 (Int32.toInt64 7) &&& Int64.toUInt64 63)) = u >>> 7 := by
  rw [show (Int64.toUInt64 (Int32.toInt64 7) &&& Int64.toUInt64 63) = 7 from by decide]
theorem u_i0 {u : UInt64} : u.toInt64 = 0 ↔ u = 0 := by
  constructor
  · intro h
    have e : u.toInt64.toUInt64 = (0 : Int64).toUInt64 := congrArg Int64.toUInt64 h
    exact e
  · intro h; rw [h]; rfl
theorem u_and (u : UInt64) : u.toInt64 &&& 127 = (u &&& 127).toInt64 := rfl
theorem u_sr7 (u : UInt64) : (u >>> 7).toNat = u.toNat / 128 := by
  rw [UInt64.toNat_shiftRight]
  exact Nat.shiftRight_eq_div_pow u.toNat 7
theorem u_and127 (u : UInt64) : (u &&& 127).toNat = u.toNat % 128 := by
  rw [UInt64.toNat_and]
  exact Nat.and_two_pow_sub_one_eq_mod u.toNat 7
theorem u_small {u : UInt64} (h : u >>> 7 = 0) : u &&& 127 = u := by
  apply UInt64.toNat_inj.mp
  rw [u_and127]
  have e := u_sr7 u
  rw [h] at e
  have e2 : (0 : UInt64).toNat = 0 := rfl
  rw [e2] at e
  omega
theorem u_toNat32 (u : UInt64) : ((u &&& 127).toInt64.toInt32).toBitVec.toNat = u.toNat % 128 := by
  have h : ((u &&& 127).toInt64.toInt32).toBitVec.toNat = (u &&& 127).toNat % 2 ^ 32 := by
    show (BitVec.signExtend 32 (u &&& 127).toBitVec).toNat = _
    rw [BitVec.signExtend_eq_setWidth_of_le _ (by decide), BitVec.toNat_setWidth]
    rfl
  rw [h, u_and127]
  omega
theorem add_or (u : UInt64) : (u &&& 127).toInt64.toInt32 + 128 = (u &&& 127).toInt64.toInt32 ||| 128 := by
  apply Int32.toBitVec_inj.mp
  rw [Int32.toBitVec_add, Int32.toBitVec_or]
  refine BitVec.add_eq_or_of_and_eq_zero _ _ ?_
  apply BitVec.eq_of_toNat_eq
  rw [BitVec.toNat_and, u_toNat32]
  show (u.toNat % 128) &&& 128 = 0
  have h : u.toNat % 2 ^ 7 &&& 2 ^ 7 = 0 := by
    apply Nat.eq_of_testBit_eq
    intro i
    rw [Nat.testBit_and, Nat.testBit_mod_two_pow, Nat.testBit_two_pow, Nat.zero_testBit]
    by_cases h : i < 7 <;> by_cases h2 : 7 = i <;> simp [h, h2] <;> omega
  exact h
theorem zig_c (v : Int64) : (v <<< (Int32.toInt64 1 &&& 63)) ^^^ (v >>> (Int32.toInt64 63 &&& 63)) = zig v := by
  rw [show (Int32.toInt64 1 &&& 63) = (1 : Int64) from by decide, show (Int32.toInt64 63 &&& 63) = (63 : Int64) from by decide]
  apply Int64.toBitVec_inj.mp
  rw [Int64.toBitVec_xor]
  have h1 : (v <<< (1 : Int64)).toBitVec = v.toBitVec <<< 1 := rfl
  have h2 : (v >>> (63 : Int64)).toBitVec = v.toBitVec.sshiftRight 63 := rfl
  have h3 : v.toBitVec <<< 1 = 2#64 * v.toBitVec := by
    apply BitVec.eq_of_toNat_eq
    rw [BitVec.toNat_shiftLeft, BitVec.toNat_mul, Nat.shiftLeft_eq, Nat.mul_comm]
    rfl
  have h4 : v.toBitVec.sshiftRight 63 = if v.toBitVec.msb then BitVec.allOnes 64 else 0#64 := by
    apply BitVec.eq_of_getLsbD_eq
    intro i hi
    rw [BitVec.getLsbD_sshiftRight]
    have e : (if 63 + i < 64 then v.toBitVec.getLsbD (63 + i) else v.toBitVec.msb) = v.toBitVec.msb := by
      split
      · next h =>
        have : i = 0 := by omega
        subst this
        rw [BitVec.msb_eq_getLsbD_last]
      · rfl
    rw [e]
    cases v.toBitVec.msb
    · simp
    · rw [if_pos rfl, BitVec.getLsbD_allOnes, Bool.and_true, decide_eq_true hi, decide_eq_false (by omega)]
      rfl
  rw [h1, h2, h3, h4]
  have hm : v < 0 ↔ v.toBitVec.msb = true := by
    rw [Int64.lt_iff_toInt_lt, BitVec.msb_eq_toInt]
    simp
  unfold zig
  by_cases h : v < 0
  · rw [if_pos h, if_pos (hm.mp h), BitVec.xor_allOnes, Int64.toBitVec_sub, Int64.toBitVec_mul]
    have e : (-2 : Int64).toBitVec = -(2#64) := by decide
    have e1 : (1 : Int64).toBitVec = 1#64 := rfl
    rw [e, e1, BitVec.neg_mul, BitVec.neg_eq_not_add, BitVec.add_sub_cancel]
  · rw [if_neg h, if_neg (fun q => h (hm.mpr q)), BitVec.xor_zero, Int64.toBitVec_mul]
    rfl
