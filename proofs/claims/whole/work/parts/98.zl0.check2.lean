/-! .. and these are the bytes' -/
set_option maxRecDepth 100000 in
theorem ck_23 : (List.range' 177 6).all mChk = true := by decide +kernel
set_option maxRecDepth 100000 in
theorem ck_24 : (List.range' 183 8).all mChk = true := by decide +kernel
set_option maxRecDepth 100000 in
theorem ck_25 : (List.range' 191 7).all mChk = true := by decide +kernel
set_option maxRecDepth 100000 in
theorem ck_26 : (List.range' 198 6).all mChk = true := by decide +kernel
set_option maxRecDepth 100000 in
theorem ck_27 : (List.range' 204 6).all mChk = true := by decide +kernel
set_option maxRecDepth 100000 in
theorem ck_28 : (List.range' 210 2).all mChk = true := by decide +kernel
set_option maxRecDepth 100000 in
theorem cs_212_0 : mChS 212 0 60 = true := by decide +kernel
set_option maxRecDepth 100000 in
theorem cs_212_60 : mChS 212 60 60 = true := by decide +kernel
set_option maxRecDepth 100000 in
theorem cs_212_120 : mChS 212 120 60 = true := by decide +kernel
set_option maxRecDepth 100000 in
theorem cs_212_180 : mChS 212 180 60 = true := by decide +kernel
set_option maxRecDepth 100000 in
theorem cs_212_240 : mChS 212 240 60 = true := by decide +kernel
set_option maxRecDepth 100000 in
theorem cs_212_300 : mChS 212 300 60 = true := by decide +kernel
set_option maxRecDepth 100000 in
theorem cs_212_360 : mChS 212 360 60 = true := by decide +kernel
set_option maxRecDepth 100000 in
theorem cs_212_420 : mChS 212 420 60 = true := by decide +kernel
set_option maxRecDepth 100000 in
theorem cs_212_480 : mChS 212 480 14 = true := by decide +kernel
theorem ck_29 : (List.range' 212 1).all mChk = true := by
  rw [List.all_eq_true]
  intro x hx
  have : x = 212 := by have := List.mem_range'_1.mp hx; omega
  rw [this]
  exact mChD_0 (mChD_of cs_212_0 (mChD_of cs_212_60 (mChD_of cs_212_120 (mChD_of cs_212_180 (mChD_of cs_212_240 (mChD_of cs_212_300 (mChD_of cs_212_360 (mChD_of cs_212_420 (mChD_of cs_212_480 (mChD_end (by decide +kernel)))))))))))
set_option maxRecDepth 100000 in
theorem ck_30 : (List.range' 213 6).all mChk = true := by decide +kernel
set_option maxRecDepth 100000 in
theorem cs_219_0 : mChS 219 0 60 = true := by decide +kernel
set_option maxRecDepth 100000 in
theorem cs_219_60 : mChS 219 60 60 = true := by decide +kernel
set_option maxRecDepth 100000 in
theorem cs_219_120 : mChS 219 120 57 = true := by decide +kernel
theorem ck_31 : (List.range' 219 1).all mChk = true := by
  rw [List.all_eq_true]
  intro x hx
  have : x = 219 := by have := List.mem_range'_1.mp hx; omega
  rw [this]
  exact mChD_0 (mChD_of cs_219_0 (mChD_of cs_219_60 (mChD_of cs_219_120 (mChD_end (by decide +kernel)))))
