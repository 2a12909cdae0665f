/-! how many bits a long has -/
theorem and_split {k a b c d : Nat} (hb : b < 2 ^ k) (hd : d < 2 ^ k) : (2 ^ k * a + b) &&& (2 ^ k * c + d) = 2 ^ k * (a &&& c) + (b &&& d) := by
  have hbd : b &&& d < 2 ^ k := Nat.lt_of_le_of_lt Nat.and_le_left hb
  refine Nat.eq_of_testBit_eq fun i => ?_
  rw [Nat.testBit_and, Nat.testBit_two_pow_mul_add a hb, Nat.testBit_two_pow_mul_add c hd, Nat.testBit_two_pow_mul_add _ hbd]
  by_cases h : i < k
  · rw [if_pos h, if_pos h, if_pos h, Nat.testBit_and]
  · rw [if_neg h, if_neg h, if_neg h, Nat.testBit_and]
/-- the masks of k bytes -/
def mk8 (c : Nat) : Nat → Nat
  | 0 => 0
  | k + 1 => 256 * mk8 c k + c
def sw1 (k x : Nat) : Nat := x - ((x / 2) &&& mk8 85 k)
def sw2 (k x : Nat) : Nat := (x &&& mk8 51 k) + ((x / 4) &&& mk8 51 k)
def sw3 (k x : Nat) : Nat := (x + x / 16) &&& mk8 15 k
theorem sw1_b : (List.range 512).all (fun q => decide (((128 * (q / 256) + q % 256 / 2) &&& 85) = (q % 256 / 2 &&& 85)) && decide ((q % 256 / 2 &&& 85) ≤ q % 256)) = true := by decide +kernel
theorem sw2_b : (List.range 1024).all (fun q => decide (((64 * (q / 256) + q % 256 / 4) &&& 51) = (q % 256 / 4 &&& 51))) = true := by decide +kernel
theorem all_rg {n : Nat} {p : Nat → Bool} (h : (List.range n).all p = true) {i : Nat} (hi : i < n) : p i = true := List.all_eq_true.mp h i (List.mem_range.mpr hi)
theorem sw1_s {k y b : Nat} (hb : b < 256) : sw1 (k + 1) (256 * y + b) = 256 * sw1 k y + sw1 1 b := by
  have h := all_rg sw1_b (show 256 * (y % 2) + b < 512 by omega)
  rw [Bool.and_eq_true, decide_eq_true_iff, decide_eq_true_iff] at h
  rw [show (256 * (y % 2) + b) / 256 = y % 2 by omega, show (256 * (y % 2) + b) % 256 = b by omega] at h
  have e := and_split (k := 8) (a := y / 2) (b := 128 * (y % 2) + b / 2) (c := mk8 85 k) (d := 85) (by show _ < 256; omega) (by decide)
  rw [show (2 : Nat) ^ 8 = 256 by decide, show 256 * (y / 2) + (128 * (y % 2) + b / 2) = (256 * y + b) / 2 by omega, h.1] at e
  have l : y / 2 &&& mk8 85 k ≤ y / 2 := Nat.and_le_left
  unfold sw1
  rw [show mk8 85 (k + 1) = 256 * mk8 85 k + 85 from rfl, e, show mk8 85 1 = 85 from rfl]
  omega
theorem sw2_s {k y b : Nat} (hb : b < 256) : sw2 (k + 1) (256 * y + b) = 256 * sw2 k y + sw2 1 b := by
  have h := all_rg sw2_b (show 256 * (y % 4) + b < 1024 by omega)
  rw [decide_eq_true_iff] at h
  rw [show (256 * (y % 4) + b) / 256 = y % 4 by omega, show (256 * (y % 4) + b) % 256 = b by omega] at h
  have e := and_split (k := 8) (a := y / 4) (b := 64 * (y % 4) + b / 4) (c := mk8 51 k) (d := 51) (by show _ < 256; omega) (by decide)
  have e2 := and_split (k := 8) (a := y) (b := b) (c := mk8 51 k) (d := 51) (by show _ < 256; omega) (by decide)
  rw [show (2 : Nat) ^ 8 = 256 by decide, show 256 * (y / 4) + (64 * (y % 4) + b / 4) = (256 * y + b) / 4 by omega, h] at e
  rw [show (2 : Nat) ^ 8 = 256 by decide] at e2
  unfold sw2
  rw [show mk8 51 (k + 1) = 256 * mk8 51 k + 51 from rfl, e, e2, show mk8 51 1 = 51 from rfl]
  omega
theorem sw3_s {k y b : Nat} (hb : b + (16 * (y % 16) + b / 16) < 256) (hq : (b + (16 * (y % 16) + b / 16)) &&& 15 = (b + b / 16) &&& 15) : sw3 (k + 1) (256 * y + b) = 256 * sw3 k y + sw3 1 b := by
  have e := and_split (k := 8) (a := y + y / 16) (b := b + (16 * (y % 16) + b / 16)) (c := mk8 15 k) (d := 15) (by show _ < 256; omega) (by decide)
  rw [show (2 : Nat) ^ 8 = 256 by decide, hq, show 256 * (y + y / 16) + (b + (16 * (y % 16) + b / 16)) = 256 * y + b + (256 * y + b) / 16 by omega] at e
  unfold sw3
  rw [show mk8 15 (k + 1) = 256 * mk8 15 k + 15 from rfl, e, show mk8 15 1 = 15 from rfl]
/-- of one byte -/
def pc8 (b : Nat) : Nat := cntB (fun t => b.testBit t) 8
theorem sw_b : (List.range 256).all (fun b => decide (sw1 1 b ≤ 170 ∧ sw2 1 (sw1 1 b) ≤ 68 ∧ sw2 1 (sw1 1 b) % 16 ≤ 4 ∧ sw3 1 (sw2 1 (sw1 1 b)) = pc8 b ∧ pc8 b ≤ 8)) = true := by decide +kernel
theorem sw3_b : (List.range 5).all (fun q => (List.range 69).all (fun b => decide (((b + (16 * q + b / 16)) &&& 15) = ((b + b / 16) &&& 15)))) = true := by decide +kernel
/-- the bytes' bits, each in its byte -/
def spr : Nat → Nat → Nat
  | 0, _ => 0
  | k + 1, x => 256 * spr k (x / 256) + pc8 (x % 256)
theorem sw_k : ∀ k x, x < 256 ^ k → sw2 k (sw1 k x) % 16 ≤ 4 ∧ sw3 k (sw2 k (sw1 k x)) = spr k x
  | 0, x, h => by
    have : x = 0 := by omega
    subst this
    decide
  | k + 1, x, h => by
    have hx : x / 256 < 256 ^ k := by rw [Nat.pow_succ] at h; omega
    obtain ⟨i1, i2⟩ := sw_k k (x / 256) hx
    have hb := of_decide_eq_true (all_rg sw_b (show x % 256 < 256 by omega))
    have ex : x = 256 * (x / 256) + x % 256 := by omega
    have e1 := sw1_s (k := k) (y := x / 256) (b := x % 256) (by omega)
    rw [← ex] at e1
    have e2 := sw2_s (k := k) (y := sw1 k (x / 256)) (b := sw1 1 (x % 256)) (by omega)
    rw [← e1] at e2
    have q := all_rg (all_rg sw3_b (show sw2 k (sw1 k (x / 256)) % 16 < 5 by omega)) (show sw2 1 (sw1 1 (x % 256)) < 69 by omega)
    have e3 := sw3_s (k := k) (y := sw2 k (sw1 k (x / 256))) (b := sw2 1 (sw1 1 (x % 256))) (by omega) (of_decide_eq_true q)
    rw [← e2, i2, hb.2.2.2.1] at e3
    refine ⟨by rw [e2]; omega, e3⟩
theorem cnt_add (p : Nat → Bool) (a : Nat) : ∀ b, cntB p (a + b) = cntB p a + cntB (fun t => p (a + t)) b
  | 0 => rfl
  | b + 1 => by
    show cntB p (a + b) + (bif p (a + b) then 1 else 0) = cntB p a + (cntB (fun t => p (a + t)) b + (bif p (a + b) then 1 else 0))
    rw [cnt_add p a b]
    omega
theorem cnt_congr {p q : Nat → Bool} : ∀ {n : Nat}, (∀ i, i < n → p i = q i) → cntB p n = cntB q n
  | 0, _ => rfl
  | n + 1, h => by
    show cntB p n + (bif p n then 1 else 0) = cntB q n + (bif q n then 1 else 0)
    rw [cnt_congr (fun i hi => h i (by omega)), h n (by omega)]
theorem pc_spl (x n : Nat) : cntB (fun t => x.testBit t) (8 + n) = pc8 (x % 256) + cntB (fun t => (x / 256).testBit t) n := by
  rw [cnt_add]
  unfold pc8
  congr 1
  · refine cnt_congr (fun i hi => ?_)
    rw [show (256 : Nat) = 2 ^ 8 by decide, Nat.testBit_mod_two_pow, decide_eq_true hi, Bool.true_and]
  · refine cnt_congr (fun i hi => ?_)
    rw [show (256 : Nat) = 2 ^ 8 by decide, Nat.testBit_div_two_pow, Nat.add_comm]
/-- Long.bitCount -/
def bcL (x : Int) : Int :=
  let a := w64 (x - am_land (am_lushr x 1) 6148914691236517205)
  let b := w64 (am_land a 3689348814741910323 + am_land (am_lushr a 2) 3689348814741910323)
  let c := am_land (w64 (b + am_lushr b 4)) 1085102592571150095
  let d := w64 (c + am_lushr c 8)
  let e := w64 (d + am_lushr d 16)
  am_and (w32 (w64 (e + am_lushr e 32))) 127
theorem and_127 (x : Int) : am_and x 127 = x % 128 := by
  unfold am_and
  have e : (Int32.ofInt x &&& Int32.ofInt 127).toBitVec = BitVec.ofInt 32 x &&& 127#32 := rfl
  rw [show (Int32.ofInt x &&& Int32.ofInt 127).toInt = (Int32.ofInt x &&& Int32.ofInt 127).toBitVec.toInt from rfl, e]
  have h1 : (BitVec.ofInt 32 x &&& 127#32).toNat = (x % 4294967296).toNat % 128 := by
    rw [BitVec.toNat_and, BitVec.toNat_ofInt]
    show (x % 4294967296).toNat &&& 127 = _
    exact Nat.and_two_pow_sub_one_eq_mod _ 7
  rw [BitVec.toInt_eq_toNat_cond, h1]
  omega
theorem fold8 {p0 p1 p2 p3 p4 p5 p6 A1 A2 A3 A4 A5 c d e : Nat} (h0 : p0 ≤ 8) (h1 : p1 ≤ 8) (h2 : p2 ≤ 8) (h3 : p3 ≤ 8) (h4 : p4 ≤ 8) (h5 : p5 ≤ 8) (h6 : p6 ≤ 8) (hc : c = 256 * A1 + p0) (g1 : A1 = 256 * A2 + p1) (g2 : A2 = 256 * A3 + p2) (g3 : A3 = 256 * A4 + p3) (g4 : A4 = 256 * A5 + p4) (g5 : A5 = 256 * p6 + p5) (hd : d = c + c / 256) (he : e = d + d / 65536) :
    (e + e / 4294967296) % 128 = p0 + (p1 + (p2 + (p3 + (p4 + (p5 + (p6 + 0)))))) ∧ c < 72057594037927936 ∧ d < 144115188075855872 ∧ e < 288230376151711744 := by
  have q1 : c / 256 = A1 := by omega
  rw [q1] at hd
  have q2 : d = 65536 * (A2 + A3) + (256 * (p1 + p2) + (p0 + p1)) := by omega
  have q3 : d / 65536 = A2 + A3 := by omega
  rw [q3] at he
  have r0 : c = 4294967296 * A4 + (16777216 * p3 + 65536 * p2 + 256 * p1 + p0) := by omega
  have r1 : A1 = 4294967296 * A5 + (16777216 * p4 + 65536 * p3 + 256 * p2 + p1) := by omega
  have r2 : A2 = 4294967296 * p6 + (16777216 * p5 + 65536 * p4 + 256 * p3 + p2) := by omega
  have r3 : A3 = 16777216 * p6 + 65536 * p5 + 256 * p4 + p3 := by omega
  have q4 : e = 4294967296 * (A4 + A5 + p6) + (16777216 * (p3 + p4 + p5 + p6) + 65536 * (p2 + p3 + p4 + p5) + 256 * (p1 + p2 + p3 + p4) + (p0 + p1 + p2 + p3)) := by omega
  have q5 : e / 4294967296 = A4 + A5 + p6 := by omega
  have q6 : e + (A4 + A5 + p6) = 256 * (A1 + A2 + A3 + A4 + A5 + p6) + (p0 + (p1 + (p2 + (p3 + (p4 + (p5 + (p6 + 0))))))) := by omega
  rw [q5, q6]
  refine ⟨by omega, ?_, ?_, ?_⟩ <;> omega
theorem spr_s (k x : Nat) : spr (k + 1) x = 256 * spr k (x / 256) + pc8 (x % 256) := rfl
theorem mk8_s (c k : Nat) : mk8 c (k + 1) = 256 * mk8 c k + c := rfl
theorem mk8_lt {c : Nat} (hc : c < 256) : ∀ k, mk8 c k < 256 ^ k
  | 0 => by show 0 < 1; decide
  | k + 1 => by
    have := mk8_lt hc k
    rw [mk8_s, Nat.pow_succ]
    omega
theorem mk8_top (c : Nat) : ∀ k, mk8 c (k + 1) = 256 ^ k * c + mk8 c k
  | 0 => by show 256 * 0 + c = 1 * c + 0; omega
  | k + 1 => by
    have := mk8_top c k
    have s := mk8_s c k
    rw [mk8_s, this, Nat.pow_succ, Nat.mul_comm (256 ^ k) 256, Nat.mul_assoc]
    rw [this] at s
    omega
theorem mk8_and {y c k : Nat} (hc : c < 256) (hy : y < 256 ^ k) : y &&& mk8 c (k + 1) = y &&& mk8 c k := by
  have e : (256 : Nat) ^ k = 2 ^ (8 * k) := by rw [show (256 : Nat) = 2 ^ 8 from rfl, ← Nat.pow_mul]
  have hm := mk8_lt hc k
  rw [e] at hy hm
  have e1 := and_split (k := 8 * k) (a := 0) (b := y) (c := c) (d := mk8 c k) hy hm
  rw [Nat.mul_zero, Nat.zero_add, Nat.zero_and, Nat.mul_zero, Nat.zero_add] at e1
  rw [mk8_top, e]
  exact e1
theorem w64n {n : Nat} (h : n < 9223372036854775808) : w64 (n : Int) = (n : Int) := by unfold w64; omega
theorem mk_c : mk8 85 8 = 6148914691236517205 ∧ mk8 51 8 = 3689348814741910323 ∧ mk8 15 8 = 1085102592571150095 := by decide +kernel
theorem lit_c : (6148914691236517205 : Int) = ((mk8 85 8 : Nat) : Int) ∧ (3689348814741910323 : Int) = ((mk8 51 8 : Nat) : Int) ∧ (1085102592571150095 : Int) = ((mk8 15 8 : Nat) : Int) := by
  rw [mk_c.1, mk_c.2.1, mk_c.2.2]
  exact ⟨Eq.refl _, Eq.refl _, Eq.refl _⟩
theorem mk_lt {c : Nat} (hc : c < 256) : mk8 c 8 < 18446744073709551616 := by
  have := mk8_lt hc 8
  have e : (256 : Nat) ^ 8 = 18446744073709551616 := by decide +kernel
  omega
theorem e567 : (256 : Nat) ^ 7 = 72057594037927936 := by decide +kernel
theorem m7c {y c : Nat} (hc : c < 256) (hy : y < 72057594037927936) : y &&& (mk8 c 8) = y &&& (mk8 c 7) := mk8_and hc (by rw [e567]; exact hy)
theorem us_1 {a : Nat} (ha : a < 9223372036854775808) : am_lushr (a : Int) 1 = ((a / 2 : Nat) : Int) := by
  have := bl_ushr (a := a) (s := 1) ha (by decide)
  rw [Nat.shiftRight_eq_div_pow] at this
  exact this
theorem us_2 {a : Nat} (ha : a < 9223372036854775808) : am_lushr (a : Int) 2 = ((a / 4 : Nat) : Int) := by
  have := bl_ushr (a := a) (s := 2) ha (by decide)
  rw [Nat.shiftRight_eq_div_pow] at this
  exact this
theorem us_4 {a : Nat} (ha : a < 9223372036854775808) : am_lushr (a : Int) 4 = ((a / 16 : Nat) : Int) := by
  have := bl_ushr (a := a) (s := 4) ha (by decide)
  rw [Nat.shiftRight_eq_div_pow] at this
  exact this
theorem us_8 {a : Nat} (ha : a < 9223372036854775808) : am_lushr (a : Int) 8 = ((a / 256 : Nat) : Int) := by
  have := bl_ushr (a := a) (s := 8) ha (by decide)
  rw [Nat.shiftRight_eq_div_pow] at this
  exact this
theorem us_16 {a : Nat} (ha : a < 9223372036854775808) : am_lushr (a : Int) 16 = ((a / 65536 : Nat) : Int) := by
  have := bl_ushr (a := a) (s := 16) ha (by decide)
  rw [Nat.shiftRight_eq_div_pow] at this
  exact this
theorem us_32 {a : Nat} (ha : a < 9223372036854775808) : am_lushr (a : Int) 32 = ((a / 4294967296 : Nat) : Int) := by
  have := bl_ushr (a := a) (s := 32) ha (by decide)
  rw [Nat.shiftRight_eq_div_pow] at this
  exact this
theorem bc_A {x : Nat} (hx : x < 1125899906842624) : w64 ((x : Int) - am_land (am_lushr x 1) 6148914691236517205) = (sw1 7 x : Nat) := by
  have l1 : (x / 2) &&& mk8 85 7 ≤ x / 2 := Nat.and_le_left
  rw [us_1 (show x < 9223372036854775808 by omega), lit_c.1, bl_and (show x / 2 < 9223372036854775808 by omega) (mk_lt (by decide)), m7c (c := 85) (by decide) (show x / 2 < 72057594037927936 by omega)]
  unfold sw1
  generalize (x / 2) &&& mk8 85 7 = q at *
  unfold w64
  omega
theorem bc_B {a : Nat} (ha : a < 1125899906842624) : w64 (am_land (a : Int) 3689348814741910323 + am_land (am_lushr (a : Int) 2) 3689348814741910323) = (sw2 7 a : Nat) := by
  have l2 : a &&& mk8 51 7 ≤ a := Nat.and_le_left
  have l3 : (a / 4) &&& mk8 51 7 ≤ a / 4 := Nat.and_le_left
  rw [us_2 (show a < 9223372036854775808 by omega), lit_c.2.1, bl_and (show a / 4 < 9223372036854775808 by omega) (mk_lt (by decide)), bl_and (show a < 9223372036854775808 by omega) (mk_lt (by decide)), m7c (c := 51) (by decide) (show a / 4 < 72057594037927936 by omega), m7c (c := 51) (by decide) (show a < 72057594037927936 by omega)]
  unfold sw2
  generalize (a / 4) &&& mk8 51 7 = q at *
  generalize a &&& mk8 51 7 = r at *
  unfold w64
  omega
theorem bc_C {b : Nat} (hb : b < 2251799813685250) : am_land (w64 ((b : Int) + am_lushr (b : Int) 4)) 1085102592571150095 = (sw3 7 b : Nat) := by
  rw [us_4 (show b < 9223372036854775808 by omega), ← Int.natCast_add, w64n (show b + b / 16 < 9223372036854775808 by omega), lit_c.2.2, bl_and (show b + b / 16 < 9223372036854775808 by omega) (mk_lt (by decide)), m7c (c := 15) (by decide) (show b + b / 16 < 72057594037927936 by omega)]
  rfl
theorem bc_D {c : Nat} (hc : c < 72057594037927936) : w64 ((c : Int) + am_lushr (c : Int) 8) = (c + c / 256 : Nat) := by
  rw [us_8 (show c < 9223372036854775808 by omega), ← Int.natCast_add, w64n (by omega)]
theorem bc_E {d : Nat} (hd : d < 144115188075855872) : w64 ((d : Int) + am_lushr (d : Int) 16) = (d + d / 65536 : Nat) := by
  rw [us_16 (show d < 9223372036854775808 by omega), ← Int.natCast_add, w64n (by omega)]
theorem bc_F {e : Nat} (he : e < 288230376151711744) : am_and (w32 (w64 ((e : Int) + am_lushr (e : Int) 32))) 127 = ((e + e / 4294967296) % 128 : Nat) := by
  rw [us_32 (show e < 9223372036854775808 by omega), ← Int.natCast_add, w64n (by omega), and_127]
  unfold w32
  omega
theorem bc_pc (x : Nat) : cntB (fun t => x.testBit t) 56 = pc8 (x % 256) + (pc8 (x / 256 % 256) + (pc8 (x / 256 / 256 % 256) + (pc8 (x / 256 / 256 / 256 % 256) + (pc8 (x / 256 / 256 / 256 / 256 % 256) + (pc8 (x / 256 / 256 / 256 / 256 / 256 % 256) + (pc8 (x / 256 / 256 / 256 / 256 / 256 / 256 % 256) + 0)))))) :=
  (pc_spl x 48).trans (congrArg (pc8 (x % 256) + ·) ((pc_spl _ 40).trans (congrArg (pc8 (x / 256 % 256) + ·) ((pc_spl _ 32).trans (congrArg (pc8 (x / 256 / 256 % 256) + ·) ((pc_spl _ 24).trans (congrArg (pc8 (x / 256 / 256 / 256 % 256) + ·) ((pc_spl _ 16).trans (congrArg (pc8 (x / 256 / 256 / 256 / 256 % 256) + ·) ((pc_spl _ 8).trans (congrArg (pc8 (x / 256 / 256 / 256 / 256 / 256 % 256) + ·) (pc_spl _ 0))))))))))))
theorem bcL_eq {x : Nat} (hx : x < 2 ^ 50) : bcL (x : Int) = (cntB (fun t => x.testBit t) 50 : Nat) := by
  have hx' : x < 1125899906842624 := hx
  have hK := (sw_k 7 x (by rw [e567]; omega)).2
  have la : sw1 7 x ≤ x := Nat.sub_le _ _
  have eA := bc_A hx'
  generalize sw1 7 x = a at *
  have l2 : a &&& mk8 51 7 ≤ a := Nat.and_le_left
  have l3 : (a / 4) &&& mk8 51 7 ≤ a / 4 := Nat.and_le_left
  have lb : sw2 7 a ≤ a + a / 4 := Nat.add_le_add l2 l3
  have eB := bc_B (show a < 1125899906842624 by omega)
  generalize sw2 7 a = b at *
  have eC := bc_C (show b < 2251799813685250 by omega)
  have hp := bc_pc x
  have hx2 := cntB_ext (p := fun t => x.testBit t) (n := 50) (m := 56) (by decide) (fun i h1 _ => Nat.testBit_lt_two_pow (Nat.lt_of_lt_of_le hx (two_le h1)))
  have h8 : ∀ y, pc8 y ≤ 8 := fun y => cntB_le _ 8
  have g6 : ∀ z, spr 1 z = pc8 (z % 256) := fun z => (spr_s 0 z).trans (Nat.zero_add _)
  have g5 : ∀ z, spr 2 z = 256 * pc8 (z / 256 % 256) + pc8 (z % 256) := fun z => by rw [spr_s 1 z, g6]
  have q0 := h8 (x % 256)
  have q1 := h8 (x / 256 % 256)
  have q2 := h8 (x / 256 / 256 % 256)
  have q3 := h8 (x / 256 / 256 / 256 % 256)
  have q4 := h8 (x / 256 / 256 / 256 / 256 % 256)
  have q5 := h8 (x / 256 / 256 / 256 / 256 / 256 % 256)
  have q6 := h8 (x / 256 / 256 / 256 / 256 / 256 / 256 % 256)
  have s0 := hK.trans (spr_s 6 x)
  have s1 := spr_s 5 (x / 256)
  have s2 := spr_s 4 (x / 256 / 256)
  have s3 := spr_s 3 (x / 256 / 256 / 256)
  have s4 := spr_s 2 (x / 256 / 256 / 256 / 256)
  have s5 := g5 (x / 256 / 256 / 256 / 256 / 256)
  have F := fold8 q0 q1 q2 q3 q4 q5 q6 s0 s1 s2 s3 s4 s5 (Eq.refl _) (Eq.refl _)
  obtain ⟨f1, f2, f3, f4⟩ := F
  rw [← hp, hx2] at f1
  have eD := bc_D f2
  have eE := bc_E f3
  have eF := bc_F f4
  unfold bcL
  dsimp only
  rw [eA, eB, eC, eD, eE, eF, f1]
theorem c_bitsL {N : Nat} {C : Int → aH → Prop} {h : aH} {w : Nat} (hw : w < 2 ^ 50) (hC : C (cntB (fun t => w.testBit t) 50 : Nat) h) : WI N 205 0 [(0, .inr (.inl (w : Int)))] h C := by
  rw [← bcL_eq hw] at hC
  exact w_205_0 hC
