/-! .. and these are the bytes' -/
set_option maxRecDepth 100000 in
theorem ck_32 : (List.range' 220 8).all mChk = true := by decide +kernel
set_option maxRecDepth 100000 in
theorem ck_33 : (List.range' 228 8).all mChk = true := by decide +kernel
set_option maxRecDepth 100000 in
theorem ck_34 : (List.range' 236 4).all mChk = true := by decide +kernel
set_option maxRecDepth 100000 in
theorem ck_35 : (List.range' 240 5).all mChk = true := by decide +kernel
set_option maxRecDepth 100000 in
theorem ck_36 : (List.range' 245 12).all mChk = true := by decide +kernel
set_option maxRecDepth 100000 in
theorem ck_37 : (List.range' 257 7).all mChk = true := by decide +kernel
set_option maxRecDepth 100000 in
theorem ck_38 : (List.range' 264 10).all mChk = true := by decide +kernel
set_option maxRecDepth 100000 in
theorem ck_39 : (List.range' 274 10).all mChk = true := by decide +kernel
set_option maxRecDepth 100000 in
theorem ck_40 : (List.range' 284 9).all mChk = true := by decide +kernel
set_option maxRecDepth 100000 in
theorem ck_41 : (List.range' 293 3).all mChk = true := by decide +kernel
set_option maxRecDepth 100000 in
theorem cs_296_0 : mChS 296 0 60 = true := by decide +kernel
set_option maxRecDepth 100000 in
theorem cs_296_60 : mChS 296 60 60 = true := by decide +kernel
set_option maxRecDepth 100000 in
theorem cs_296_120 : mChS 296 120 60 = true := by decide +kernel
set_option maxRecDepth 100000 in
theorem cs_296_180 : mChS 296 180 8 = true := by decide +kernel
theorem ck_42 : (List.range' 296 1).all mChk = true := by
  rw [List.all_eq_true]
  intro x hx
  have : x = 296 := by have := List.mem_range'_1.mp hx; omega
  rw [this]
  exact mChD_0 (mChD_of cs_296_0 (mChD_of cs_296_60 (mChD_of cs_296_120 (mChD_of cs_296_180 (mChD_end (by decide +kernel))))))
