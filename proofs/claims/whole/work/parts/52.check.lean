/-! .. and these are the bytes' -/
theorem mck_all {l : List Nat} (h : l.all mChk = true) {k : Nat} (hk : k ∈ l) : mChk k = true := List.all_eq_true.mp h k hk
set_option maxRecDepth 100000 in
theorem ck_0 : (List.range' 0 15).all mChk = true := by decide +kernel
set_option maxRecDepth 100000 in
theorem ck_1 : (List.range' 15 14).all mChk = true := by decide +kernel
set_option maxRecDepth 100000 in
theorem ck_2 : (List.range' 29 15).all mChk = true := by decide +kernel
set_option maxRecDepth 100000 in
theorem ck_3 : (List.range' 44 11).all mChk = true := by decide +kernel
set_option maxRecDepth 100000 in
theorem ck_4 : (List.range' 55 9).all mChk = true := by decide +kernel
set_option maxRecDepth 100000 in
theorem ck_5 : (List.range' 64 13).all mChk = true := by decide +kernel
set_option maxRecDepth 100000 in
theorem ck_6 : (List.range' 77 18).all mChk = true := by decide +kernel
set_option maxRecDepth 100000 in
theorem ck_7 : (List.range' 95 16).all mChk = true := by decide +kernel
set_option maxRecDepth 100000 in
theorem ck_8 : (List.range' 111 11).all mChk = true := by decide +kernel
set_option maxRecDepth 100000 in
theorem ck_9 : (List.range' 122 7).all mChk = true := by decide +kernel
set_option maxRecDepth 100000 in
theorem ck_10 : (List.range' 129 12).all mChk = true := by decide +kernel
set_option maxRecDepth 100000 in
theorem ck_11 : (List.range' 141 11).all mChk = true := by decide +kernel
set_option maxRecDepth 100000 in
theorem ck_12 : (List.range' 152 10).all mChk = true := by decide +kernel
set_option maxRecDepth 100000 in
theorem ck_13 : (List.range' 162 13).all mChk = true := by decide +kernel
set_option maxRecDepth 100000 in
theorem ck_14 : (List.range' 175 7).all mChk = true := by decide +kernel
set_option maxRecDepth 100000 in
theorem ck_15 : (List.range' 182 13).all mChk = true := by decide +kernel
set_option maxRecDepth 100000 in
theorem ck_16 : (List.range' 195 9).all mChk = true := by decide +kernel
set_option maxRecDepth 100000 in
theorem ck_17 : (List.range' 204 8).all mChk = true := by decide +kernel
set_option maxRecDepth 100000 in
theorem ck_18 : (List.range' 212 1).all mChk = true := by decide +kernel
set_option maxRecDepth 100000 in
theorem ck_19 : (List.range' 213 10).all mChk = true := by decide +kernel
set_option maxRecDepth 100000 in
theorem ck_20 : (List.range' 223 12).all mChk = true := by decide +kernel
set_option maxRecDepth 100000 in
theorem ck_21 : (List.range' 235 6).all mChk = true := by decide +kernel
set_option maxRecDepth 100000 in
theorem ck_22 : (List.range' 241 16).all mChk = true := by decide +kernel
set_option maxRecDepth 100000 in
theorem ck_23 : (List.range' 257 13).all mChk = true := by decide +kernel
set_option maxRecDepth 100000 in
theorem ck_24 : (List.range' 270 15).all mChk = true := by decide +kernel
set_option maxRecDepth 100000 in
theorem ck_25 : (List.range' 285 11).all mChk = true := by decide +kernel
set_option maxRecDepth 100000 in
theorem ck_26 : (List.range' 296 6).all mChk = true := by decide +kernel
set_option maxRecDepth 100000 in
theorem ck_27 : (List.range' 302 6).all mChk = true := by decide +kernel
set_option maxRecDepth 100000 in
theorem ck_28 : (List.range' 308 9).all mChk = true := by decide +kernel
set_option maxRecDepth 100000 in
theorem ck_29 : (List.range' 317 10).all mChk = true := by decide +kernel
set_option maxRecDepth 100000 in
theorem ck_30 : (List.range' 327 10).all mChk = true := by decide +kernel
set_option maxRecDepth 100000 in
theorem ck_31 : (List.range' 337 11).all mChk = true := by decide +kernel
set_option maxRecDepth 100000 in
theorem ck_32 : (List.range' 348 4).all mChk = true := by decide +kernel
set_option maxRecDepth 100000 in
theorem ck_33 : (List.range' 352 1).all mChk = true := by decide +kernel
theorem mck : ∀ k, k ≤ 352 → mChk k = true := by
  intro k hk
  rcases Nat.lt_or_ge k 15 with h | h
  · exact mck_all ck_0 (List.mem_range'_1.mpr ⟨by omega, by omega⟩)
  rcases Nat.lt_or_ge k 29 with h | h
  · exact mck_all ck_1 (List.mem_range'_1.mpr ⟨by omega, by omega⟩)
  rcases Nat.lt_or_ge k 44 with h | h
  · exact mck_all ck_2 (List.mem_range'_1.mpr ⟨by omega, by omega⟩)
  rcases Nat.lt_or_ge k 55 with h | h
  · exact mck_all ck_3 (List.mem_range'_1.mpr ⟨by omega, by omega⟩)
  rcases Nat.lt_or_ge k 64 with h | h
  · exact mck_all ck_4 (List.mem_range'_1.mpr ⟨by omega, by omega⟩)
  rcases Nat.lt_or_ge k 77 with h | h
  · exact mck_all ck_5 (List.mem_range'_1.mpr ⟨by omega, by omega⟩)
  rcases Nat.lt_or_ge k 95 with h | h
  · exact mck_all ck_6 (List.mem_range'_1.mpr ⟨by omega, by omega⟩)
  rcases Nat.lt_or_ge k 111 with h | h
  · exact mck_all ck_7 (List.mem_range'_1.mpr ⟨by omega, by omega⟩)
  rcases Nat.lt_or_ge k 122 with h | h
  · exact mck_all ck_8 (List.mem_range'_1.mpr ⟨by omega, by omega⟩)
  rcases Nat.lt_or_ge k 129 with h | h
  · exact mck_all ck_9 (List.mem_range'_1.mpr ⟨by omega, by omega⟩)
  rcases Nat.lt_or_ge k 141 with h | h
  · exact mck_all ck_10 (List.mem_range'_1.mpr ⟨by omega, by omega⟩)
  rcases Nat.lt_or_ge k 152 with h | h
  · exact mck_all ck_11 (List.mem_range'_1.mpr ⟨by omega, by omega⟩)
  rcases Nat.lt_or_ge k 162 with h | h
  · exact mck_all ck_12 (List.mem_range'_1.mpr ⟨by omega, by omega⟩)
  rcases Nat.lt_or_ge k 175 with h | h
  · exact mck_all ck_13 (List.mem_range'_1.mpr ⟨by omega, by omega⟩)
  rcases Nat.lt_or_ge k 182 with h | h
  · exact mck_all ck_14 (List.mem_range'_1.mpr ⟨by omega, by omega⟩)
  rcases Nat.lt_or_ge k 195 with h | h
  · exact mck_all ck_15 (List.mem_range'_1.mpr ⟨by omega, by omega⟩)
  rcases Nat.lt_or_ge k 204 with h | h
  · exact mck_all ck_16 (List.mem_range'_1.mpr ⟨by omega, by omega⟩)
  rcases Nat.lt_or_ge k 212 with h | h
  · exact mck_all ck_17 (List.mem_range'_1.mpr ⟨by omega, by omega⟩)
  rcases Nat.lt_or_ge k 213 with h | h
  · exact mck_all ck_18 (List.mem_range'_1.mpr ⟨by omega, by omega⟩)
  rcases Nat.lt_or_ge k 223 with h | h
  · exact mck_all ck_19 (List.mem_range'_1.mpr ⟨by omega, by omega⟩)
  rcases Nat.lt_or_ge k 235 with h | h
  · exact mck_all ck_20 (List.mem_range'_1.mpr ⟨by omega, by omega⟩)
  rcases Nat.lt_or_ge k 241 with h | h
  · exact mck_all ck_21 (List.mem_range'_1.mpr ⟨by omega, by omega⟩)
  rcases Nat.lt_or_ge k 257 with h | h
  · exact mck_all ck_22 (List.mem_range'_1.mpr ⟨by omega, by omega⟩)
  rcases Nat.lt_or_ge k 270 with h | h
  · exact mck_all ck_23 (List.mem_range'_1.mpr ⟨by omega, by omega⟩)
  rcases Nat.lt_or_ge k 285 with h | h
  · exact mck_all ck_24 (List.mem_range'_1.mpr ⟨by omega, by omega⟩)
  rcases Nat.lt_or_ge k 296 with h | h
  · exact mck_all ck_25 (List.mem_range'_1.mpr ⟨by omega, by omega⟩)
  rcases Nat.lt_or_ge k 302 with h | h
  · exact mck_all ck_26 (List.mem_range'_1.mpr ⟨by omega, by omega⟩)
  rcases Nat.lt_or_ge k 308 with h | h
  · exact mck_all ck_27 (List.mem_range'_1.mpr ⟨by omega, by omega⟩)
  rcases Nat.lt_or_ge k 317 with h | h
  · exact mck_all ck_28 (List.mem_range'_1.mpr ⟨by omega, by omega⟩)
  rcases Nat.lt_or_ge k 327 with h | h
  · exact mck_all ck_29 (List.mem_range'_1.mpr ⟨by omega, by omega⟩)
  rcases Nat.lt_or_ge k 337 with h | h
  · exact mck_all ck_30 (List.mem_range'_1.mpr ⟨by omega, by omega⟩)
  rcases Nat.lt_or_ge k 348 with h | h
  · exact mck_all ck_31 (List.mem_range'_1.mpr ⟨by omega, by omega⟩)
  rcases Nat.lt_or_ge k 352 with h | h
  · exact mck_all ck_32 (List.mem_range'_1.mpr ⟨by omega, by omega⟩)
  rcases Nat.lt_or_ge k 353 with h | h
  · exact mck_all ck_33 (List.mem_range'_1.mpr ⟨by omega, by omega⟩)
  omega
