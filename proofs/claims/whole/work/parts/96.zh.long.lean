/-! sets of days as bits of longs -/
theorem olN (n : Nat) : (Int64.ofInt (n : Int)).toBitVec = BitVec.ofNat 64 n := BitVec.ofInt_natCast 64 n
theorem toL {b : BitVec 64} (h : b.toNat < 9223372036854775808) : b.toInt = (b.toNat : Int) := BitVec.toInt_eq_toNat_of_lt (by omega)
theorem bl_and {a b : Nat} (ha : a < 9223372036854775808) (hb : b < 18446744073709551616) : am_land a b = ((a &&& b : Nat) : Int) := by
  unfold am_land
  have e : (Int64.ofInt (a : Int) &&& Int64.ofInt (b : Int)).toBitVec = BitVec.ofNat 64 a &&& BitVec.ofNat 64 b := by rw [Int64.toBitVec_and, olN, olN]
  have h1 : (BitVec.ofNat 64 a &&& BitVec.ofNat 64 b).toNat = a &&& b := by
    rw [BitVec.toNat_and, BitVec.toNat_ofNat, BitVec.toNat_ofNat, Nat.mod_eq_of_lt (by omega), Nat.mod_eq_of_lt (by omega)]
  have h2 : a &&& b ≤ a := Nat.and_le_left
  show (Int64.ofInt (a : Int) &&& Int64.ofInt (b : Int)).toBitVec.toInt = _
  rw [e, toL (by rw [h1]; omega), h1]
theorem bl_clr {a p : Nat} (ha : a < 9223372036854775808) (hp : p < 9223372036854775808) : am_land a (am_lxor p (-1)) = ((a &&& (p ^^^ 18446744073709551615) : Nat) : Int) := by
  unfold am_land am_lxor
  rw [Int64.ofInt_toInt]
  have e : (Int64.ofInt (a : Int) &&& (Int64.ofInt (p : Int) ^^^ Int64.ofInt (-1))).toBitVec = BitVec.ofNat 64 a &&& (BitVec.ofNat 64 p ^^^ BitVec.ofNat 64 18446744073709551615) := by
    rw [Int64.toBitVec_and, Int64.toBitVec_xor, olN, olN]
    rfl
  have h1 : (BitVec.ofNat 64 a &&& (BitVec.ofNat 64 p ^^^ BitVec.ofNat 64 18446744073709551615)).toNat = a &&& (p ^^^ 18446744073709551615) := by
    rw [BitVec.toNat_and, BitVec.toNat_xor, BitVec.toNat_ofNat, BitVec.toNat_ofNat, BitVec.toNat_ofNat, Nat.mod_eq_of_lt (by omega), Nat.mod_eq_of_lt (by omega), Nat.mod_eq_of_lt (by omega)]
  have h2 : a &&& (p ^^^ 18446744073709551615) ≤ a := Nat.and_le_left
  show (Int64.ofInt (a : Int) &&& (Int64.ofInt (p : Int) ^^^ Int64.ofInt (-1))).toBitVec.toInt = _
  rw [e, toL (by rw [h1]; omega), h1]
theorem bl_shl0 : (List.range 63).all (fun s => decide (am_lshl 1 (s : Int) = ((2 ^ s : Nat) : Int))) = true := by decide +kernel
theorem bl_shl {s : Nat} (hs : s < 63) : am_lshl 1 (s : Int) = ((2 ^ s : Nat) : Int) := of_decide_eq_true (List.all_eq_true.mp bl_shl0 s (List.mem_range.mpr hs))
theorem bl_amt : (List.range 64).all (fun s => decide ((((Int32.ofInt (s : Int)).toInt64 &&& 63).toBitVec.smod 64).toNat = s)) = true := by decide +kernel
theorem bl_shr {a s : Nat} (ha : a < 9223372036854775808) (hs : s < 64) : am_lshr a s = ((a >>> s : Nat) : Int) := by
  unfold am_lshr
  have ht := of_decide_eq_true (List.all_eq_true.mp bl_amt s (List.mem_range.mpr hs))
  have e : (Int64.ofInt (a : Int) >>> ((Int32.ofInt (s : Int)).toInt64 &&& 63)).toBitVec = (BitVec.ofNat 64 a).sshiftRight s := by
    rw [Int64.toBitVec_shiftRight, olN]
    show (BitVec.ofNat 64 a).sshiftRight (((Int32.ofInt (s : Int)).toInt64 &&& 63).toBitVec.smod 64).toNat = _
    rw [ht]
  have hm : (BitVec.ofNat 64 a).msb = false := by
    rw [BitVec.msb_eq_false_iff_two_mul_lt, BitVec.toNat_ofNat, Nat.mod_eq_of_lt (by omega)]
    omega
  have h1 : ((BitVec.ofNat 64 a).sshiftRight s).toNat = a >>> s := by
    rw [BitVec.toNat_sshiftRight_of_msb_false hm, BitVec.toNat_ofNat, Nat.mod_eq_of_lt (by omega)]
  have h2 : a >>> s ≤ a := Nat.shiftRight_le _ _
  show (Int64.ofInt (a : Int) >>> ((Int32.ofInt (s : Int)).toInt64 &&& 63)).toBitVec.toInt = _
  rw [e, toL (by rw [h1]; omega), h1]
theorem bl_amu : (List.range 64).all (fun s => decide ((((Int32.ofInt (s : Int)).toInt64.toUInt64 &&& Int64.toUInt64 63).toBitVec.toNat % 64) = s)) = true := by decide +kernel
theorem bl_ushr {a s : Nat} (ha : a < 9223372036854775808) (hs : s < 64) : am_lushr a s = ((a >>> s : Nat) : Int) := by
  unfold am_lushr
  have ht := of_decide_eq_true (List.all_eq_true.mp bl_amu s (List.mem_range.mpr hs))
  have h2 : a >>> s ≤ a := Nat.shiftRight_le _ _
  have e : ((Int64.ofInt (a : Int)).toUInt64 >>> ((Int32.ofInt (s : Int)).toInt64.toUInt64 &&& Int64.toUInt64 63)).toBitVec.toNat = a >>> s := by
    rw [UInt64.toBitVec_shiftRight]
    show ((Int64.ofInt (a : Int)).toBitVec >>> (((Int32.ofInt (s : Int)).toInt64.toUInt64 &&& Int64.toUInt64 63).toBitVec % 64)).toNat = _
    rw [olN, BitVec.ushiftRight_eq', BitVec.toNat_ushiftRight, BitVec.toNat_ofNat, Nat.mod_eq_of_lt (by omega), BitVec.toNat_umod]
    show a >>> (((Int32.ofInt (s : Int)).toInt64.toUInt64 &&& Int64.toUInt64 63).toBitVec.toNat % 64) = _
    rw [ht]
  show ((Int64.ofInt (a : Int)).toUInt64 >>> ((Int32.ofInt (s : Int)).toInt64.toUInt64 &&& Int64.toUInt64 63)).toBitVec.toInt = _
  rw [toL (by rw [e]; omega), e]
theorem bl_tst {a s : Nat} (ha : a < 9223372036854775808) (hs : s < 64) : am_land (am_lshr a s) 1 = if a.testBit s then 1 else 0 := by
  rw [bl_shr ha hs]
  have h2 : a >>> s ≤ a := Nat.shiftRight_le _ _
  have := bl_and (a := a >>> s) (b := 1) (by omega) (by decide)
  rw [show ((1 : Nat) : Int) = 1 from rfl] at this
  rw [this, Nat.and_one_is_mod]
  have h : a.testBit s = decide (a >>> s % 2 = 1) := by
    rw [Nat.testBit_eq_decide_div_mod_eq, Nat.shiftRight_eq_div_pow]
  rw [h]
  by_cases c : a >>> s % 2 = 1
  · rw [decide_eq_true c, if_pos rfl]; omega
  · rw [decide_eq_false c]; simp only [Bool.false_eq_true, if_false]; omega
theorem tl_clr {a p t : Nat} (ht : t < 64) : (a &&& (p ^^^ 18446744073709551615)).testBit t = (a.testBit t && !p.testBit t) := by
  rw [Nat.testBit_and, Nat.testBit_xor, show (18446744073709551615 : Nat) = 2 ^ 64 - 1 by decide, Nat.testBit_two_pow_sub_one, decide_eq_true ht]
  cases p.testBit t <;> rfl
