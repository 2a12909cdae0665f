/-! .. and these are the bytes' -/
set_option maxRecDepth 100000 in
theorem ck_43 : (List.range' 297 6).all mChk = true := by decide +kernel
set_option maxRecDepth 100000 in
theorem ck_44 : (List.range' 303 4).all mChk = true := by decide +kernel
set_option maxRecDepth 100000 in
theorem cs_307_0 : mChS 307 0 60 = true := by decide +kernel
set_option maxRecDepth 100000 in
theorem cs_307_60 : mChS 307 60 60 = true := by decide +kernel
set_option maxRecDepth 100000 in
theorem cs_307_120 : mChS 307 120 60 = true := by decide +kernel
set_option maxRecDepth 100000 in
theorem cs_307_180 : mChS 307 180 58 = true := by decide +kernel
theorem ck_45 : (List.range' 307 1).all mChk = true := by
  rw [List.all_eq_true]
  intro x hx
  have : x = 307 := by have := List.mem_range'_1.mp hx; omega
  rw [this]
  exact mChD_0 (mChD_of cs_307_0 (mChD_of cs_307_60 (mChD_of cs_307_120 (mChD_of cs_307_180 (mChD_end (by decide +kernel))))))
set_option maxRecDepth 100000 in
theorem ck_46 : (List.range' 308 5).all mChk = true := by decide +kernel
set_option maxRecDepth 100000 in
theorem ck_47 : (List.range' 313 4).all mChk = true := by decide +kernel
set_option maxRecDepth 100000 in
theorem ck_48 : (List.range' 317 8).all mChk = true := by decide +kernel
set_option maxRecDepth 100000 in
theorem ck_49 : (List.range' 325 4).all mChk = true := by decide +kernel
set_option maxRecDepth 100000 in
theorem ck_50 : (List.range' 329 7).all mChk = true := by decide +kernel
set_option maxRecDepth 100000 in
theorem ck_51 : (List.range' 336 7).all mChk = true := by decide +kernel
set_option maxRecDepth 100000 in
theorem ck_52 : (List.range' 343 5).all mChk = true := by decide +kernel
set_option maxRecDepth 100000 in
theorem ck_53 : (List.range' 348 3).all mChk = true := by decide +kernel
