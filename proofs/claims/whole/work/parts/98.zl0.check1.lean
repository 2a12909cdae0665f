/-! .. and these are the bytes' -/
set_option maxRecDepth 100000 in
theorem ck_12 : (List.range' 103 8).all mChk = true := by decide +kernel
set_option maxRecDepth 100000 in
theorem ck_13 : (List.range' 111 9).all mChk = true := by decide +kernel
set_option maxRecDepth 100000 in
theorem ck_14 : (List.range' 120 6).all mChk = true := by decide +kernel
set_option maxRecDepth 100000 in
theorem cs_126_0 : mChS 126 0 60 = true := by decide +kernel
set_option maxRecDepth 100000 in
theorem cs_126_60 : mChS 126 60 60 = true := by decide +kernel
set_option maxRecDepth 100000 in
theorem cs_126_120 : mChS 126 120 60 = true := by decide +kernel
set_option maxRecDepth 100000 in
theorem cs_126_180 : mChS 126 180 2 = true := by decide +kernel
theorem ck_15 : (List.range' 126 1).all mChk = true := by
  rw [List.all_eq_true]
  intro x hx
  have : x = 126 := by have := List.mem_range'_1.mp hx; omega
  rw [this]
  exact mChD_0 (mChD_of cs_126_0 (mChD_of cs_126_60 (mChD_of cs_126_120 (mChD_of cs_126_180 (mChD_end (by decide +kernel))))))
set_option maxRecDepth 100000 in
theorem ck_16 : (List.range' 127 7).all mChk = true := by decide +kernel
set_option maxRecDepth 100000 in
theorem ck_17 : (List.range' 134 8).all mChk = true := by decide +kernel
set_option maxRecDepth 100000 in
theorem ck_18 : (List.range' 142 8).all mChk = true := by decide +kernel
set_option maxRecDepth 100000 in
theorem ck_19 : (List.range' 150 6).all mChk = true := by decide +kernel
set_option maxRecDepth 100000 in
theorem ck_20 : (List.range' 156 6).all mChk = true := by decide +kernel
set_option maxRecDepth 100000 in
theorem ck_21 : (List.range' 162 10).all mChk = true := by decide +kernel
set_option maxRecDepth 100000 in
theorem ck_22 : (List.range' 172 5).all mChk = true := by decide +kernel
