/-! numbers of 32 and 64 bits as whole numbers -/
theorem w32_bmod (z : Int) : w32 z = z.bmod 4294967296 := by
  unfold w32
  rw [Int.bmod_def]
  split <;> omega
theorem w64_bmod (z : Int) : w64 z = z.bmod 18446744073709551616 := by
  unfold w64
  rw [Int.bmod_def]
  split <;> omega
theorem w32_id {z : Int} (h : am_rg z) : w32 z = z := by
  obtain ⟨h1, h2⟩ := h
  unfold w32
  omega
theorem w64_id {z : Int} (h : am_rl z) : w64 z = z := by
  obtain ⟨h1, h2⟩ := h
  unfold w64
  omega
theorem w32_rg (z : Int) : am_rg (w32 z) := by
  unfold w32 am_rg
  omega
theorem w64_rl (z : Int) : am_rl (w64 z) := by
  unfold w64 am_rl
  omega
theorem t32 {z : Int} (h : am_rg z) : (Int32.ofInt z).toInt = z := Int32.toInt_ofInt_of_le h.1 h.2
theorem t64 {z : Int} (h : am_rl z) : (Int64.ofInt z).toInt = z := Int64.toInt_ofInt_of_le h.1 h.2
theorem r32 (x : Int32) : am_rg x.toInt := ⟨x.le_toInt, x.toInt_lt⟩
theorem r64 (x : Int64) : am_rl x.toInt := ⟨x.le_toInt, x.toInt_lt⟩
theorem o32 (z : Int) : Int32.ofInt (w32 z) = Int32.ofInt z := by
  apply Int32.toInt.inj
  rw [w32_bmod, Int32.toInt_ofInt, Int32.toInt_ofInt]
  exact Int.bmod_bmod
theorem o64 (z : Int) : Int64.ofInt (w64 z) = Int64.ofInt z := by
  apply Int64.toInt.inj
  rw [w64_bmod, Int64.toInt_ofInt, Int64.toInt_ofInt]
  exact Int.bmod_bmod
theorem add32 (a b : Int) : Int32.ofInt a + Int32.ofInt b = Int32.ofInt (a + b) := by
  apply Int32.toInt.inj
  rw [Int32.toInt_add, Int32.toInt_ofInt, Int32.toInt_ofInt, Int32.toInt_ofInt]
  simp
theorem sub32 (a b : Int) : Int32.ofInt a - Int32.ofInt b = Int32.ofInt (a - b) := by
  apply Int32.toInt.inj
  rw [Int32.toInt_sub, Int32.toInt_ofInt, Int32.toInt_ofInt, Int32.toInt_ofInt]
  simp
theorem mul32 (a b : Int) : Int32.ofInt a * Int32.ofInt b = Int32.ofInt (a * b) := by
  apply Int32.toInt.inj
  rw [Int32.toInt_mul, Int32.toInt_ofInt, Int32.toInt_ofInt, Int32.toInt_ofInt]
  simp
theorem neg32 (a : Int) : - Int32.ofInt a = Int32.ofInt (-a) := by
  apply Int32.toInt.inj
  rw [Int32.toInt_neg, Int32.toInt_ofInt, Int32.toInt_ofInt]
  simp
theorem add64 (a b : Int) : Int64.ofInt a + Int64.ofInt b = Int64.ofInt (a + b) := by
  apply Int64.toInt.inj
  rw [Int64.toInt_add, Int64.toInt_ofInt, Int64.toInt_ofInt, Int64.toInt_ofInt]
  simp
theorem sub64 (a b : Int) : Int64.ofInt a - Int64.ofInt b = Int64.ofInt (a - b) := by
  apply Int64.toInt.inj
  rw [Int64.toInt_sub, Int64.toInt_ofInt, Int64.toInt_ofInt, Int64.toInt_ofInt]
  simp
theorem mul64 (a b : Int) : Int64.ofInt a * Int64.ofInt b = Int64.ofInt (a * b) := by
  apply Int64.toInt.inj
  rw [Int64.toInt_mul, Int64.toInt_ofInt, Int64.toInt_ofInt, Int64.toInt_ofInt]
  simp
theorem div32 {a b : Int} (ha : am_rg a) (hb : am_rg b) : Int32.ofInt a / Int32.ofInt b = Int32.ofInt (a.tdiv b) := by
  apply Int32.toInt.inj
  rw [Int32.toInt_div, t32 ha, t32 hb, Int32.toInt_ofInt]
theorem div64 {a b : Int} (ha : am_rl a) (hb : am_rl b) : Int64.ofInt a / Int64.ofInt b = Int64.ofInt (a.tdiv b) := by
  apply Int64.toInt.inj
  rw [Int64.toInt_div, t64 ha, t64 hb, Int64.toInt_ofInt]
theorem rem32 {a b : Int} (ha : am_rg a) (hb : am_rg b) : Int32.ofInt a - Int32.ofInt a / Int32.ofInt b * Int32.ofInt b = Int32.ofInt (a.tmod b) := by
  rw [div32 ha hb, mul32, sub32]
  congr 1
  have h := Int.tmod_add_mul_tdiv a b
  rw [Int.mul_comm] at h
  omega
theorem tmod_rg {a b : Int} (ha : am_rg a) (hb : am_rg b) (h0 : ¬ b = 0) : am_rg (a.tmod b) := by
  obtain ⟨h1, h2⟩ := ha
  obtain ⟨h3, h4⟩ := hb
  have h := Int.natAbs_tmod a b
  have h5 : a.natAbs % b.natAbs ≤ a.natAbs := Nat.mod_le _ _
  have h6 : a.natAbs % b.natAbs < b.natAbs := Nat.mod_lt _ (by omega)
  refine ⟨?_, ?_⟩ <;> omega
theorem eq32 {a b : Int} (ha : am_rg a) (hb : am_rg b) : Int32.ofInt a = Int32.ofInt b ↔ a = b := by
  refine ⟨fun h => ?_, fun h => by rw [h]⟩
  have h2 := congrArg Int32.toInt h
  rwa [t32 ha, t32 hb] at h2
theorem eq64 {a b : Int} (ha : am_rl a) (hb : am_rl b) : Int64.ofInt a = Int64.ofInt b ↔ a = b := by
  refine ⟨fun h => ?_, fun h => by rw [h]⟩
  have h2 := congrArg Int64.toInt h
  rwa [t64 ha, t64 hb] at h2
theorem lt32 {a b : Int} (ha : am_rg a) (hb : am_rg b) : Int32.ofInt a < Int32.ofInt b ↔ a < b := by rw [Int32.lt_iff_toInt_lt, t32 ha, t32 hb]
theorem le32 {a b : Int} (ha : am_rg a) (hb : am_rg b) : Int32.ofInt a ≤ Int32.ofInt b ↔ a ≤ b := by rw [Int32.le_iff_toInt_le, t32 ha, t32 hb]
theorem lt64 {a b : Int} (ha : am_rl a) (hb : am_rl b) : Int64.ofInt a < Int64.ofInt b ↔ a < b := by rw [Int64.lt_iff_toInt_lt, t64 ha, t64 hb]
theorem rg0 : am_rg 0 := by unfold am_rg; omega
theorem wide32 {a : Int} (ha : am_rg a) : (Int32.ofInt a).toInt64 = Int64.ofInt a := by
  apply Int64.toInt.inj
  rw [Int32.toInt_toInt64, t32 ha, t64]
  obtain ⟨h1, h2⟩ := ha
  exact ⟨by omega, by omega⟩
theorem rg_rl {a : Int} (ha : am_rg a) : am_rl a := by
  obtain ⟨h1, h2⟩ := ha
  exact ⟨by omega, by omega⟩
theorem slim64 (a : Int) : (Int64.ofInt a).toInt32 = Int32.ofInt (w32 a) := by rw [o32]; exact Int64.toInt32_ofInt
theorem w8_rg (a : Int) : -128 ≤ w8 a ∧ w8 a < 128 := by unfold w8; omega
theorem w8_bmod (z : Int) : w8 z = z.bmod 256 := by
  unfold w8
  rw [Int.bmod_def]
  split <;> omega
theorem byte32 (a : Int) : (Int32.ofInt a).toInt8.toInt32 = Int32.ofInt (w8 a) := by
  apply Int32.toInt.inj
  have h1 : am_rg (w8 a) := by have := w8_rg a; unfold am_rg; omega
  rw [Int8.toInt_toInt32, Int32.toInt_toInt8, t32 h1, w8_bmod, Int32.toInt_ofInt]
  exact Int.bmod_bmod_of_dvd (show (2 ^ 8) ∣ Int32.size by decide)
theorem byteN {a : Int} (h : -128 ≤ a ∧ a < 128) : w8 a = a := by unfold w8; omega
theorem char32 (a : Int) : ((Int32.ofInt a).toUInt32 % 65536).toInt32 = Int32.ofInt (a % 65536) := by
  rw [pk_char]
  apply Int32.toInt.inj
  rw [nI_toInt (by omega), t32 (by unfold am_rg; omega)]
  have h : (Int32.ofInt a).toBitVec = BitVec.ofInt 32 a := rfl
  rw [h, BitVec.toNat_ofInt]
  omega
theorem sgn64 {a b : Int} (ha : am_rl a) (hb : am_rl b) : lg_cmp (Int64.ofInt a) (Int64.ofInt b) = Int32.ofInt (am_sgn (a - b)) := by
  unfold lg_cmp am_sgn
  by_cases h1 : b < a
  · rw [if_pos (show Int64.ofInt a > Int64.ofInt b from (lt64 hb ha).mpr h1), if_pos (by omega)]; rfl
  · rw [if_neg (show ¬ Int64.ofInt a > Int64.ofInt b from fun h => h1 ((lt64 hb ha).mp h)), if_neg (show ¬ 0 < a - b by omega)]
    by_cases h2 : a = b
    · rw [if_pos ((eq64 ha hb).mpr h2), if_pos (by omega)]; rfl
    · rw [if_neg (fun h => h2 ((eq64 ha hb).mp h)), if_neg (by omega)]; rfl
theorem sgn_rg (z : Int) : am_rg (am_sgn z) := by
  unfold am_sgn am_rg
  split
  · omega
  · split <;> omega
theorem ix32 {i : Int} {n : Nat} (hi : am_ix i n) (hr : am_rg i) : vp_in (Int32.ofInt i) n := by
  rw [vp_in_iff, t32 hr]
  exact hi
theorem cl32 {i : Int} (hr : am_rg i) : (Int32.ofInt i).toNatClampNeg = i.toNat := by
  rw [← Int32.toNat_toInt, t32 hr]
