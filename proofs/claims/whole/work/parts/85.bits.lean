/-! sets as bits -/
theorem ofN (n : Nat) : (Int32.ofInt (n : Int)).toBitVec = BitVec.ofNat 32 n := BitVec.ofInt_natCast 32 n
theorem toI {b : BitVec 32} (h : b.toNat < 2147483648) : b.toInt = (b.toNat : Int) := BitVec.toInt_eq_toNat_of_lt (by omega)
theorem bt_and {a b : Nat} (ha : a < 2147483648) (hb : b < 2147483648) : am_and a b = ((a &&& b : Nat) : Int) := by
  unfold am_and
  have e : (Int32.ofInt (a : Int) &&& Int32.ofInt (b : Int)).toBitVec = BitVec.ofNat 32 a &&& BitVec.ofNat 32 b := by rw [Int32.toBitVec_and, ofN, ofN]
  have h1 : (BitVec.ofNat 32 a &&& BitVec.ofNat 32 b).toNat = a &&& b := by
    rw [BitVec.toNat_and, BitVec.toNat_ofNat, BitVec.toNat_ofNat, Nat.mod_eq_of_lt (by omega), Nat.mod_eq_of_lt (by omega)]
  have h2 : a &&& b ≤ a := Nat.and_le_left
  show (Int32.ofInt (a : Int) &&& Int32.ofInt (b : Int)).toBitVec.toInt = _
  rw [e, toI (by rw [h1]; omega), h1]
theorem bt_or {a b : Nat} (ha : a < 2147483648) (hb : b < 2147483648) : am_or a b = ((a ||| b : Nat) : Int) := by
  unfold am_or
  have e : (Int32.ofInt (a : Int) ||| Int32.ofInt (b : Int)).toBitVec = BitVec.ofNat 32 a ||| BitVec.ofNat 32 b := by rw [Int32.toBitVec_or, ofN, ofN]
  have h1 : (BitVec.ofNat 32 a ||| BitVec.ofNat 32 b).toNat = a ||| b := by
    rw [BitVec.toNat_or, BitVec.toNat_ofNat, BitVec.toNat_ofNat, Nat.mod_eq_of_lt (by omega), Nat.mod_eq_of_lt (by omega)]
  have h2 : a ||| b < 2 ^ 31 := Nat.or_lt_two_pow (by omega) (by omega)
  show (Int32.ofInt (a : Int) ||| Int32.ofInt (b : Int)).toBitVec.toInt = _
  rw [e, toI (by rw [h1]; omega), h1]
/-- a without p -/
theorem bt_clr {a p : Nat} (ha : a < 2147483648) (hp : p < 2147483648) : am_and a (am_xor p (-1)) = ((a &&& (p ^^^ 4294967295) : Nat) : Int) := by
  unfold am_and am_xor
  rw [Int32.ofInt_toInt]
  have e : (Int32.ofInt (a : Int) &&& (Int32.ofInt (p : Int) ^^^ Int32.ofInt (-1))).toBitVec = BitVec.ofNat 32 a &&& (BitVec.ofNat 32 p ^^^ BitVec.ofNat 32 4294967295) := by
    rw [Int32.toBitVec_and, Int32.toBitVec_xor, ofN, ofN]
    rfl
  have h1 : (BitVec.ofNat 32 a &&& (BitVec.ofNat 32 p ^^^ BitVec.ofNat 32 4294967295)).toNat = a &&& (p ^^^ 4294967295) := by
    rw [BitVec.toNat_and, BitVec.toNat_xor, BitVec.toNat_ofNat, BitVec.toNat_ofNat, BitVec.toNat_ofNat, Nat.mod_eq_of_lt (by omega), Nat.mod_eq_of_lt (by omega), Nat.mod_eq_of_lt (by omega)]
  have h2 : a &&& (p ^^^ 4294967295) ≤ a := Nat.and_le_left
  show (Int32.ofInt (a : Int) &&& (Int32.ofInt (p : Int) ^^^ Int32.ofInt (-1))).toBitVec.toInt = _
  rw [e, toI (by rw [h1]; omega), h1]
theorem bt_shl0 : (List.range 31).all (fun s => decide (am_shl 1 (s : Int) = ((2 ^ s : Nat) : Int))) = true := by decide +kernel
theorem bt_shl {s : Nat} (hs : s < 31) : am_shl 1 (s : Int) = ((2 ^ s : Nat) : Int) := of_decide_eq_true (List.all_eq_true.mp bt_shl0 s (List.mem_range.mpr hs))
theorem bt_amt : (List.range 32).all (fun s => decide (((Int32.ofInt (s : Int) &&& 31).toBitVec.smod 32).toNat = s)) = true := by decide +kernel
theorem bt_shr {a s : Nat} (ha : a < 2147483648) (hs : s < 32) : am_shr a s = ((a >>> s : Nat) : Int) := by
  unfold am_shr
  have ht := of_decide_eq_true (List.all_eq_true.mp bt_amt s (List.mem_range.mpr hs))
  have e : (Int32.ofInt (a : Int) >>> (Int32.ofInt (s : Int) &&& 31)).toBitVec = (BitVec.ofNat 32 a).sshiftRight s := by
    rw [Int32.toBitVec_shiftRight, ofN]
    show (BitVec.ofNat 32 a).sshiftRight ((Int32.ofInt (s : Int) &&& 31).toBitVec.smod 32).toNat = _
    rw [ht]
  have hm : (BitVec.ofNat 32 a).msb = false := by
    rw [BitVec.msb_eq_false_iff_two_mul_lt, BitVec.toNat_ofNat, Nat.mod_eq_of_lt (by omega)]
    omega
  have h1 : ((BitVec.ofNat 32 a).sshiftRight s).toNat = a >>> s := by
    rw [BitVec.toNat_sshiftRight_of_msb_false hm, BitVec.toNat_ofNat, Nat.mod_eq_of_lt (by omega)]
  have h2 : a >>> s ≤ a := Nat.shiftRight_le _ _
  show (Int32.ofInt (a : Int) >>> (Int32.ofInt (s : Int) &&& 31)).toBitVec.toInt = _
  rw [e, toI (by rw [h1]; omega), h1]
/-- one bit -/
theorem bt_tst {a s : Nat} (ha : a < 2147483648) (hs : s < 32) : am_and (am_shr a s) 1 = if a.testBit s then 1 else 0 := by
  rw [bt_shr ha hs, and_one]
  have h : a.testBit s = decide (a >>> s % 2 = 1) := by
    rw [Nat.testBit_eq_decide_div_mod_eq, Nat.shiftRight_eq_div_pow]
  rw [h]
  by_cases c : a >>> s % 2 = 1
  · rw [decide_eq_true c, if_pos rfl]; omega
  · rw [decide_eq_false c]; simp only [Bool.false_eq_true, if_false]; omega
theorem tb_two {s t : Nat} : (2 ^ s).testBit t = decide (s = t) := Nat.testBit_two_pow
theorem tb_clr {a p t : Nat} (ht : t < 32) : (a &&& (p ^^^ 4294967295)).testBit t = (a.testBit t && !p.testBit t) := by
  rw [Nat.testBit_and, Nat.testBit_xor, show (4294967295 : Nat) = 2 ^ 32 - 1 by decide, Nat.testBit_two_pow_sub_one, decide_eq_true ht]
  cases p.testBit t <;> rfl
theorem two_lt {s n : Nat} (h : s < n) : 2 ^ s < 2 ^ n := Nat.pow_lt_pow_right (by decide) h
theorem two_le {n m : Nat} (h : n ≤ m) : 2 ^ n ≤ 2 ^ m := Nat.pow_le_pow_right (by decide) h
