/-! .. and these are the bytes' -/
set_option maxRecDepth 100000 in
theorem ck_54 : (List.range' 351 2).all mChk = true := by decide +kernel
set_option maxRecDepth 100000 in
theorem cs_353_0 : mChS 353 0 60 = true := by decide +kernel
set_option maxRecDepth 100000 in
theorem cs_353_60 : mChS 353 60 60 = true := by decide +kernel
set_option maxRecDepth 100000 in
theorem cs_353_120 : mChS 353 120 60 = true := by decide +kernel
set_option maxRecDepth 100000 in
theorem cs_353_180 : mChS 353 180 60 = true := by decide +kernel
set_option maxRecDepth 100000 in
theorem cs_353_240 : mChS 353 240 60 = true := by decide +kernel
set_option maxRecDepth 100000 in
theorem cs_353_300 : mChS 353 300 60 = true := by decide +kernel
set_option maxRecDepth 100000 in
theorem cs_353_360 : mChS 353 360 60 = true := by decide +kernel
set_option maxRecDepth 100000 in
theorem cs_353_420 : mChS 353 420 60 = true := by decide +kernel
set_option maxRecDepth 100000 in
theorem cs_353_480 : mChS 353 480 60 = true := by decide +kernel
set_option maxRecDepth 100000 in
theorem cs_353_540 : mChS 353 540 60 = true := by decide +kernel
set_option maxRecDepth 100000 in
theorem cs_353_600 : mChS 353 600 60 = true := by decide +kernel
set_option maxRecDepth 100000 in
theorem cs_353_660 : mChS 353 660 60 = true := by decide +kernel
set_option maxRecDepth 100000 in
theorem cs_353_720 : mChS 353 720 60 = true := by decide +kernel
set_option maxRecDepth 100000 in
theorem cs_353_780 : mChS 353 780 60 = true := by decide +kernel
set_option maxRecDepth 100000 in
theorem cs_353_840 : mChS 353 840 60 = true := by decide +kernel
set_option maxRecDepth 100000 in
theorem cs_353_900 : mChS 353 900 60 = true := by decide +kernel
set_option maxRecDepth 100000 in
theorem cs_353_960 : mChS 353 960 60 = true := by decide +kernel
set_option maxRecDepth 100000 in
theorem cs_353_1020 : mChS 353 1020 60 = true := by decide +kernel
set_option maxRecDepth 100000 in
theorem cs_353_1080 : mChS 353 1080 60 = true := by decide +kernel
set_option maxRecDepth 100000 in
theorem cs_353_1140 : mChS 353 1140 60 = true := by decide +kernel
set_option maxRecDepth 100000 in
theorem cs_353_1200 : mChS 353 1200 60 = true := by decide +kernel
set_option maxRecDepth 100000 in
theorem cs_353_1260 : mChS 353 1260 43 = true := by decide +kernel
theorem ck_55 : (List.range' 353 1).all mChk = true := by
  rw [List.all_eq_true]
  intro x hx
  have : x = 353 := by have := List.mem_range'_1.mp hx; omega
  rw [this]
  exact mChD_0 (mChD_of cs_353_0 (mChD_of cs_353_60 (mChD_of cs_353_120 (mChD_of cs_353_180 (mChD_of cs_353_240 (mChD_of cs_353_300 (mChD_of cs_353_360 (mChD_of cs_353_420 (mChD_of cs_353_480 (mChD_of cs_353_540 (mChD_of cs_353_600 (mChD_of cs_353_660 (mChD_of cs_353_720 (mChD_of cs_353_780 (mChD_of cs_353_840 (mChD_of cs_353_900 (mChD_of cs_353_960 (mChD_of cs_353_1020 (mChD_of cs_353_1080 (mChD_of cs_353_1140 (mChD_of cs_353_1200 (mChD_of cs_353_1260 (mChD_end (by decide +kernel))))))))))))))))))))))))
theorem mck : ∀ k, k ≤ 353 → mChk k = true := by
  intro k hk
  rcases Nat.lt_or_ge k 10 with h | h
  · exact mck_all ck_0 (List.mem_range'_1.mpr ⟨by omega, by omega⟩)
  rcases Nat.lt_or_ge k 18 with h | h
  · exact mck_all ck_1 (List.mem_range'_1.mpr ⟨by omega, by omega⟩)
  rcases Nat.lt_or_ge k 27 with h | h
  · exact mck_all ck_2 (List.mem_range'_1.mpr ⟨by omega, by omega⟩)
  rcases Nat.lt_or_ge k 34 with h | h
  · exact mck_all ck_3 (List.mem_range'_1.mpr ⟨by omega, by omega⟩)
  rcases Nat.lt_or_ge k 45 with h | h
  · exact mck_all ck_4 (List.mem_range'_1.mpr ⟨by omega, by omega⟩)
  rcases Nat.lt_or_ge k 54 with h | h
  · exact mck_all ck_5 (List.mem_range'_1.mpr ⟨by omega, by omega⟩)
  rcases Nat.lt_or_ge k 57 with h | h
  · exact mck_all ck_6 (List.mem_range'_1.mpr ⟨by omega, by omega⟩)
  rcases Nat.lt_or_ge k 64 with h | h
  · exact mck_all ck_7 (List.mem_range'_1.mpr ⟨by omega, by omega⟩)
  rcases Nat.lt_or_ge k 69 with h | h
  · exact mck_all ck_8 (List.mem_range'_1.mpr ⟨by omega, by omega⟩)
  rcases Nat.lt_or_ge k 83 with h | h
  · exact mck_all ck_9 (List.mem_range'_1.mpr ⟨by omega, by omega⟩)
  rcases Nat.lt_or_ge k 92 with h | h
  · exact mck_all ck_10 (List.mem_range'_1.mpr ⟨by omega, by omega⟩)
  rcases Nat.lt_or_ge k 103 with h | h
  · exact mck_all ck_11 (List.mem_range'_1.mpr ⟨by omega, by omega⟩)
  rcases Nat.lt_or_ge k 111 with h | h
  · exact mck_all ck_12 (List.mem_range'_1.mpr ⟨by omega, by omega⟩)
  rcases Nat.lt_or_ge k 120 with h | h
  · exact mck_all ck_13 (List.mem_range'_1.mpr ⟨by omega, by omega⟩)
  rcases Nat.lt_or_ge k 126 with h | h
  · exact mck_all ck_14 (List.mem_range'_1.mpr ⟨by omega, by omega⟩)
  rcases Nat.lt_or_ge k 127 with h | h
  · exact mck_all ck_15 (List.mem_range'_1.mpr ⟨by omega, by omega⟩)
  rcases Nat.lt_or_ge k 134 with h | h
  · exact mck_all ck_16 (List.mem_range'_1.mpr ⟨by omega, by omega⟩)
  rcases Nat.lt_or_ge k 142 with h | h
  · exact mck_all ck_17 (List.mem_range'_1.mpr ⟨by omega, by omega⟩)
  rcases Nat.lt_or_ge k 150 with h | h
  · exact mck_all ck_18 (List.mem_range'_1.mpr ⟨by omega, by omega⟩)
  rcases Nat.lt_or_ge k 156 with h | h
  · exact mck_all ck_19 (List.mem_range'_1.mpr ⟨by omega, by omega⟩)
  rcases Nat.lt_or_ge k 162 with h | h
  · exact mck_all ck_20 (List.mem_range'_1.mpr ⟨by omega, by omega⟩)
  rcases Nat.lt_or_ge k 172 with h | h
  · exact mck_all ck_21 (List.mem_range'_1.mpr ⟨by omega, by omega⟩)
  rcases Nat.lt_or_ge k 177 with h | h
  · exact mck_all ck_22 (List.mem_range'_1.mpr ⟨by omega, by omega⟩)
  rcases Nat.lt_or_ge k 183 with h | h
  · exact mck_all ck_23 (List.mem_range'_1.mpr ⟨by omega, by omega⟩)
  rcases Nat.lt_or_ge k 191 with h | h
  · exact mck_all ck_24 (List.mem_range'_1.mpr ⟨by omega, by omega⟩)
  rcases Nat.lt_or_ge k 198 with h | h
  · exact mck_all ck_25 (List.mem_range'_1.mpr ⟨by omega, by omega⟩)
  rcases Nat.lt_or_ge k 204 with h | h
  · exact mck_all ck_26 (List.mem_range'_1.mpr ⟨by omega, by omega⟩)
  rcases Nat.lt_or_ge k 210 with h | h
  · exact mck_all ck_27 (List.mem_range'_1.mpr ⟨by omega, by omega⟩)
  rcases Nat.lt_or_ge k 212 with h | h
  · exact mck_all ck_28 (List.mem_range'_1.mpr ⟨by omega, by omega⟩)
  rcases Nat.lt_or_ge k 213 with h | h
  · exact mck_all ck_29 (List.mem_range'_1.mpr ⟨by omega, by omega⟩)
  rcases Nat.lt_or_ge k 219 with h | h
  · exact mck_all ck_30 (List.mem_range'_1.mpr ⟨by omega, by omega⟩)
  rcases Nat.lt_or_ge k 220 with h | h
  · exact mck_all ck_31 (List.mem_range'_1.mpr ⟨by omega, by omega⟩)
  rcases Nat.lt_or_ge k 228 with h | h
  · exact mck_all ck_32 (List.mem_range'_1.mpr ⟨by omega, by omega⟩)
  rcases Nat.lt_or_ge k 236 with h | h
  · exact mck_all ck_33 (List.mem_range'_1.mpr ⟨by omega, by omega⟩)
  rcases Nat.lt_or_ge k 240 with h | h
  · exact mck_all ck_34 (List.mem_range'_1.mpr ⟨by omega, by omega⟩)
  rcases Nat.lt_or_ge k 245 with h | h
  · exact mck_all ck_35 (List.mem_range'_1.mpr ⟨by omega, by omega⟩)
  rcases Nat.lt_or_ge k 257 with h | h
  · exact mck_all ck_36 (List.mem_range'_1.mpr ⟨by omega, by omega⟩)
  rcases Nat.lt_or_ge k 264 with h | h
  · exact mck_all ck_37 (List.mem_range'_1.mpr ⟨by omega, by omega⟩)
  rcases Nat.lt_or_ge k 274 with h | h
  · exact mck_all ck_38 (List.mem_range'_1.mpr ⟨by omega, by omega⟩)
  rcases Nat.lt_or_ge k 284 with h | h
  · exact mck_all ck_39 (List.mem_range'_1.mpr ⟨by omega, by omega⟩)
  rcases Nat.lt_or_ge k 293 with h | h
  · exact mck_all ck_40 (List.mem_range'_1.mpr ⟨by omega, by omega⟩)
  rcases Nat.lt_or_ge k 296 with h | h
  · exact mck_all ck_41 (List.mem_range'_1.mpr ⟨by omega, by omega⟩)
  rcases Nat.lt_or_ge k 297 with h | h
  · exact mck_all ck_42 (List.mem_range'_1.mpr ⟨by omega, by omega⟩)
  rcases Nat.lt_or_ge k 303 with h | h
  · exact mck_all ck_43 (List.mem_range'_1.mpr ⟨by omega, by omega⟩)
  rcases Nat.lt_or_ge k 307 with h | h
  · exact mck_all ck_44 (List.mem_range'_1.mpr ⟨by omega, by omega⟩)
  rcases Nat.lt_or_ge k 308 with h | h
  · exact mck_all ck_45 (List.mem_range'_1.mpr ⟨by omega, by omega⟩)
  rcases Nat.lt_or_ge k 313 with h | h
  · exact mck_all ck_46 (List.mem_range'_1.mpr ⟨by omega, by omega⟩)
  rcases Nat.lt_or_ge k 317 with h | h
  · exact mck_all ck_47 (List.mem_range'_1.mpr ⟨by omega, by omega⟩)
  rcases Nat.lt_or_ge k 325 with h | h
  · exact mck_all ck_48 (List.mem_range'_1.mpr ⟨by omega, by omega⟩)
  rcases Nat.lt_or_ge k 329 with h | h
  · exact mck_all ck_49 (List.mem_range'_1.mpr ⟨by omega, by omega⟩)
  rcases Nat.lt_or_ge k 336 with h | h
  · exact mck_all ck_50 (List.mem_range'_1.mpr ⟨by omega, by omega⟩)
  rcases Nat.lt_or_ge k 343 with h | h
  · exact mck_all ck_51 (List.mem_range'_1.mpr ⟨by omega, by omega⟩)
  rcases Nat.lt_or_ge k 348 with h | h
  · exact mck_all ck_52 (List.mem_range'_1.mpr ⟨by omega, by omega⟩)
  rcases Nat.lt_or_ge k 351 with h | h
  · exact mck_all ck_53 (List.mem_range'_1.mpr ⟨by omega, by omega⟩)
  rcases Nat.lt_or_ge k 353 with h | h
  · exact mck_all ck_54 (List.mem_range'_1.mpr ⟨by omega, by omega⟩)
  rcases Nat.lt_or_ge k 354 with h | h
  · exact mck_all ck_55 (List.mem_range'_1.mpr ⟨by omega, by omega⟩)
  omega
