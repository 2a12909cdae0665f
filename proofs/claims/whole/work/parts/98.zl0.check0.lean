/-! .. and these are the bytes' -/
theorem mck_all {l : List Nat} (h : l.all mChk = true) {k : Nat} (hk : k ∈ l) : mChk k = true := List.all_eq_true.mp h k hk
/-- from an instruction on; a stretch of them -/
def mChD (k a : Nat) : Bool := am_chkL (mB k) (mCs k) k (mLo k) (mWr k) (mPc k) ((mM k).drop a) ((mPc k).drop a)
def mChS (k a b : Nat) : Bool := am_chkL (mB k) (mCs k) k (mLo k) (mWr k) (mPc k) (((mM k).drop a).take b) ((mPc k).drop a)
theorem chkL_app {cc : ByteArray} {own id nL : Nat} {wr : Bool} {PC : List Nat} : ∀ (M1 M2 : List aI) (P : List Nat), am_chkL cc own id nL wr PC M1 P = true → am_chkL cc own id nL wr PC M2 (P.drop M1.length) = true → am_chkL cc own id nL wr PC (M1 ++ M2) P = true
  | [], M2, P, _, h2 => h2
  | m :: M1, M2, [], h1, _ => by cases h1
  | m :: M1, M2, pc :: P, h1, h2 => by
    obtain ⟨a1, a2⟩ := Bool.and_eq_true_iff.mp h1
    exact Bool.and_eq_true_iff.mpr ⟨a1, chkL_app M1 M2 P a2 h2⟩
theorem mChD_of {k a b : Nat} (h1 : mChS k a b = true) (h2 : mChD k (a + b) = true) : mChD k a = true := by
  unfold mChD mChS at *
  rw [← List.take_append_drop b ((mM k).drop a)]
  rcases Nat.lt_or_ge ((mM k).drop a).length b with hl | hl
  · rw [List.drop_eq_nil_of_le (Nat.le_of_lt hl), List.append_nil]; exact h1
  · refine chkL_app _ _ _ h1 ?_
    rw [List.length_take, Nat.min_eq_left hl, List.drop_drop, List.drop_drop]
    exact h2
theorem mChD_0 {k : Nat} (h : mChD k 0 = true) : mChk k = true := h
theorem mChD_end {k a : Nat} (h : (mM k).length = a) : mChD k a = true := by
  unfold mChD
  rw [List.drop_eq_nil_of_le (Nat.le_of_eq h)]; rfl
set_option maxRecDepth 100000 in
theorem ck_0 : (List.range' 0 10).all mChk = true := by decide +kernel
set_option maxRecDepth 100000 in
theorem ck_1 : (List.range' 10 8).all mChk = true := by decide +kernel
set_option maxRecDepth 100000 in
theorem ck_2 : (List.range' 18 9).all mChk = true := by decide +kernel
set_option maxRecDepth 100000 in
theorem ck_3 : (List.range' 27 7).all mChk = true := by decide +kernel
set_option maxRecDepth 100000 in
theorem ck_4 : (List.range' 34 11).all mChk = true := by decide +kernel
set_option maxRecDepth 100000 in
theorem ck_5 : (List.range' 45 9).all mChk = true := by decide +kernel
set_option maxRecDepth 100000 in
theorem ck_6 : (List.range' 54 3).all mChk = true := by decide +kernel
set_option maxRecDepth 100000 in
theorem ck_7 : (List.range' 57 7).all mChk = true := by decide +kernel
set_option maxRecDepth 100000 in
theorem ck_8 : (List.range' 64 5).all mChk = true := by decide +kernel
set_option maxRecDepth 100000 in
theorem ck_9 : (List.range' 69 14).all mChk = true := by decide +kernel
set_option maxRecDepth 100000 in
theorem ck_10 : (List.range' 83 9).all mChk = true := by decide +kernel
set_option maxRecDepth 100000 in
theorem ck_11 : (List.range' 92 11).all mChk = true := by decide +kernel
