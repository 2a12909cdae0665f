/-! mornings -/
def okMor (h : aH) : Prop := 0 ≤ h 58 12 ∧ h 58 12 ≤ 60 ∧ ∀ i : Nat, (i : Int) < h 58 12 → 0 ≤ h 67 i ∧ h 67 i ≤ 400 ∧ 0 ≤ h 66 i ∧ h 66 i ≤ 6 ∧ (h 65 i = -1 ∨ 0 ≤ h 65 i ∧ h 65 i < h 16 16)
def RelM (h : aH) : Prop := h 130 76 = h 58 12 ∧ ∀ i : Nat, (i : Int) < h 58 12 → (h 65 i = -1 → h 185 (120 + i) = h 67 i) ∧ (h 65 i ≠ -1 → h 185 (120 + i) = -1 ∧ h 186 (120 + i) = h 65 i ∧ h 187 (120 + i) = h 66 i ∧ h 188 (120 + i) = h 67 i)
/-- the slots' mornings of the reference -/
def Lo (h h' : aH) : Prop := ∀ j, j < 120 → h' 185 j = h 185 j ∧ h' 186 j = h 186 j ∧ h' 187 j = h 187 j ∧ h' 188 j = h 188 j
/-- what holds behind a morning, a void -/
def MLN (h h' : aH) : Prop := Fr [58, 65, 66, 67, 185, 186, 187, 188] [76] h h' ∧ PI h' ∧ RelP h' ∧ okMor h' ∧ RelM h' ∧ (∀ j, j ≠ 12 → h' 58 j = h 58 j) ∧ h' 9 11 = h 9 11 ∧ Lo h h'
theorem c_note {N : Nat} {C : Int → aH → Prop} {h : aH} {a b c : Int} {n : Nat} (hn : h 58 12 = (n : Int)) (h1 : n < 60 → C n (am_up (am_up (am_up (am_up h 65 n a) 66 n b) 67 n c) 58 12 ((n : Int) + 1))) (h0 : ¬ n < 60 → C (-1) h) : WI N 183 0 [(0, .inr (.inr 58)), (1, .inl a), (2, .inl b), (3, .inl c)] h C := by
  refine w_183_0 ?_
  rw [hn]
  refine ⟨fun q => ?_, fun q => h0 (by omega)⟩
  have := h1 (by omega)
  (repeat first | refine ck_ix (by omega) ?_ | refine ck_rg (by omega) ?_ | refine ck_rl (by omega) ?_)
  rw [show ((n : Int) + 1 - 1) = (n : Int) by omega]
  exact this
theorem mor_same {h : aH} (P : PI h) (Q : RelP h) (O : okMor h) (M : RelM h) : MLN h h := ⟨Fr.rfl, P, Q, O, M, fun _ _ => rfl, rfl, fun _ _ => ⟨rfl, rfl, rfl, rfl⟩⟩
theorem pl_morning {N : Nat} {D : Int → Int → aH → Prop} {h : aH} {s w m : Int} (P : PI h) (R : RelH h) (Q : RelP h) (O : okMor h) (M : RelM h) (hD : ∀ v h', MLN h h' → D v v h') :
    WI N 182 0 [(0, .inr (.inr 9)), (1, .inl s), (2, .inl w), (3, .inl m)] h (fun v1 h1 => WI N 329 0 [(0, .inr (.inr 130)), (1, .inl s), (2, .inl w), (3, .inl m)] h1 (fun v2 h2 => D v1 v2 h2)) := by
  obtain ⟨n, hn⟩ := Int.eq_ofNat_of_zero_le O.1
  have h60 := O.2.1
  have hmn : h 130 76 = (n : Int) := M.1.trans hn
  have same := mor_same P Q O M
  have no : ¬ ((0 ≤ s ∧ s < h 16 16) ∧ (0 ≤ w ∧ w ≤ 6) ∧ (0 ≤ m ∧ m ≤ 400) ∧ n < 60) → WI N 329 0 [(0, .inr (.inr 130)), (1, .inl s), (2, .inl w), (3, .inl m)] h (fun v2 h2 => D (-1) v2 h2) := by
    intro z
    refine w_329_0 ?_
    rw [hmn]
    exact ⟨fun _ => hD _ _ same, fun h60 => m_isSleeper P.1 R (fun q1 => z1 (m_in (fun q2 => z1 (m_in (fun q3 => absurd ⟨q1, q2, q3, by omega⟩ z) (fun _ => y0 (hD _ _ same)))) (fun _ => z0 (hD _ _ same)))) (fun _ => z0 (hD _ _ same))⟩
  refine w_182_0 (c_isSleeper (fun q1 => z1 ⟨fun z => no (by omega), fun a => ⟨fun z => no (by omega), fun b => ⟨fun z => no (by omega), fun c => ⟨fun d => c_note hn (fun hlt => ?_) (fun hge => no (by omega)), fun z => no (by omega)⟩⟩⟩⟩) (fun q => z0 (no (by omega))))
  obtain ⟨H, L, S, W, K⟩ := P
  refine w_329_0 ?_
  rw [show am_up (am_up (am_up (am_up h 65 n s) 66 n w) 67 n m) 58 12 ((n : Int) + 1) 130 76 = (n : Int) from hmn]
  refine ⟨fun z => by omega, fun _ => m_isSleeper (h := am_up (am_up (am_up (am_up h 65 n s) 66 n w) 67 n m) 58 12 ((n : Int) + 1)) H R (fun _ => z1 (m_in (fun _ => z1 (m_in (fun _ => y1 ?_) (fun z => absurd ⟨by omega, by omega⟩ z))) (fun z => absurd ⟨by omega, by omega⟩ z))) (fun z => absurd q1 z)⟩
  rw [show am_up (am_up (am_up (am_up h 65 n s) 66 n w) 67 n m) 58 12 ((n : Int) + 1) 130 76 = (n : Int) from hmn, show ((120 : Int) + (n : Int)).toNat = 120 + n by omega]
  (repeat first | refine ck_ix (by omega) ?_ | refine ck_rg (by omega) ?_ | refine ck_rl (by omega) ?_)
  rw [show ((n : Int) + 1 - 1) = (n : Int) by omega]
  refine hD _ _ ⟨(((((((((Fr.rfl.up (by decide) (by decide)).up (by decide) (by decide)).up (by decide) (by decide)).up (by decide) (by decide)).up (by decide) (by decide)).up (by decide) (by decide)).up (by decide) (by decide)).up (by decide) (by decide)).upM (by decide)), ⟨H, L, S, W, K⟩, Q, ⟨?_, ?_, fun i hi => ?_⟩, ⟨rfl, fun i hi => ?_⟩, fun j hj => ?_, rfl, fun j hj => ?_⟩
  · show 0 ≤ (n : Int) + 1; omega
  · show (n : Int) + 1 ≤ 60; omega
  · have hi : (i : Int) < (n : Int) + 1 := hi
    by_cases e : i = n
    · subst e
      simp [up_row, up_in]
      omega
    · have := O.2.2 i (by omega)
      simp [up_row, up_in, e]
      omega
  · have hi : (i : Int) < (n : Int) + 1 := hi
    by_cases e : i = n
    · subst e
      simp [up_row, up_in]
      omega
    · have := M.2 i (by omega)
      have e2 : ¬ (120 + i = 120 + n) := by omega
      simp only [up_row, up_in, e, e2, ne_eq, Nat.reduceEqDiff, not_false_eq_true, if_false]
      exact this
  · simp [up_row, up_ne hj]
  · have e : ¬ (j = 120 + n) := by omega
    simp [up_row, up_in, e]
theorem pl_annul {N : Nat} {D : Int → Int → aH → Prop} {h : aH} {k : Int} (P : PI h) (Q : RelP h) (O : okMor h) (M : RelM h) (hD : ∀ v h', MLN h h' → D v v h') :
    WI N 184 0 [(0, .inr (.inr 9)), (1, .inl k)] h (fun v1 h1 => WI N 330 0 [(0, .inr (.inr 130)), (1, .inl k)] h1 (fun v2 h2 => D v1 v2 h2)) := by
  obtain ⟨n, hn⟩ := Int.eq_ofNat_of_zero_le O.1
  have h60 := O.2.1
  have hmn : h 130 76 = (n : Int) := M.1.trans hn
  have same := mor_same P Q O M
  have no : ¬ ((0 ≤ k ∧ k < n) ∧ h 65 k.toNat ≠ -1 ∧ n < 60) → WI N 330 0 [(0, .inr (.inr 130)), (1, .inl k)] h (fun v2 h2 => D (-1) v2 h2) := by
    intro z
    refine w_330_0 ?_
    rw [hmn]
    refine ⟨fun _ => hD _ _ same, fun h60 => ?_⟩
    (repeat first | refine ck_ix (by omega) ?_ | refine ck_rg (by omega) ?_ | refine ck_rl (by omega) ?_)
    refine m_in (fun q => z1 ?_) (fun _ => z0 (hD _ _ same))
    have mk := M.2 k.toNat (by omega)
    have ok := O.2.2 k.toNat (by omega)
    rw [show ((120 : Int) + k).toNat = 120 + k.toNat by omega]
    (repeat first | refine ck_ix (by omega) ?_ | refine ck_rg (by omega) ?_ | refine ck_rl (by omega) ?_)
    refine ⟨fun e => absurd ⟨by omega, fun e2 => ?_, by omega⟩ z, fun _ => hD _ _ same⟩
    have := mk.1 e2
    omega
  refine w_184_0 ?_
  rw [hn]
  refine ⟨fun z => no (by omega), fun a => ⟨fun z => no (by omega), fun b => ck_ix (by omega) ⟨fun hne => c_note hn (fun hlt => ?_) (fun hge => no (by omega)), fun he => no (fun z => z.2.1 (Decidable.not_not.mp he))⟩⟩⟩
  obtain ⟨H, L, S, W, K⟩ := P
  have mk := M.2 k.toNat (by omega)
  refine w_330_0 ?_
  rw [show am_up (am_up (am_up (am_up h 65 n (-1)) 66 n 0) 67 n k) 58 12 ((n : Int) + 1) 130 76 = (n : Int) from hmn]
  refine ⟨fun z => by omega, fun _ => ?_⟩
  (repeat first | refine ck_ix (by omega) ?_ | refine ck_rg (by omega) ?_ | refine ck_rl (by omega) ?_)
  refine m_in (fun q => z1 ?_) (fun z => absurd ⟨by omega, by omega⟩ z)
  rw [show am_up (am_up (am_up (am_up h 65 n (-1)) 66 n 0) 67 n k) 58 12 ((n : Int) + 1) 130 76 = (n : Int) from hmn, show ((120 : Int) + (n : Int)).toNat = 120 + n by omega, show ((120 : Int) + k).toNat = 120 + k.toNat by omega]
  (repeat first | refine ck_ix (by omega) ?_ | refine ck_rg (by omega) ?_ | refine ck_rl (by omega) ?_)
  refine ⟨fun _ => ?_, fun z => absurd (mk.2 hne).1 z⟩
  (repeat first | refine ck_ix (by omega) ?_ | refine ck_rg (by omega) ?_ | refine ck_rl (by omega) ?_)
  rw [show ((n : Int) + 1 - 1) = (n : Int) by omega]
  refine hD _ _ ⟨((((((Fr.rfl.up (by decide) (by decide)).up (by decide) (by decide)).up (by decide) (by decide)).up (by decide) (by decide)).up (by decide) (by decide)).upM (by decide)), ⟨H, L, S, W, K⟩, Q, ⟨?_, ?_, fun i hi => ?_⟩, ⟨rfl, fun i hi => ?_⟩, fun j hj => ?_, rfl, fun j hj => ?_⟩
  · show 0 ≤ (n : Int) + 1; omega
  · show (n : Int) + 1 ≤ 60; omega
  · have hi : (i : Int) < (n : Int) + 1 := hi
    by_cases e : i = n
    · subst e
      simp [up_row, up_in]
      omega
    · have := O.2.2 i (by omega)
      simp [up_row, up_in, e]
      omega
  · have hi : (i : Int) < (n : Int) + 1 := hi
    by_cases e : i = n
    · subst e
      simp [up_row, up_in]
    · have := M.2 i (by omega)
      have e2 : ¬ (120 + i = 120 + n) := by omega
      simp only [up_row, up_in, e, e2, ne_eq, Nat.reduceEqDiff, not_false_eq_true, if_false]
      exact this
  · simp [up_row, up_ne hj]
  · have e : ¬ (j = 120 + n) := by omega
    simp [up_row, up_in, e]
/-- known by n: no void among the first n names it -/
def KNB (h : aH) (i n : Nat) : Bool := !(decide (h 65 i = -1)) && (List.range n).all (fun j => !(decide (i < j) && (decide (h 65 j = -1) && decide (h 67 j = i))))
theorem KNB_yes {h : aH} {i n : Nat} (h1 : h 65 i ≠ -1) (h2 : ∀ j, i < j → j < n → ¬ (h 65 j = -1 ∧ h 67 j = i)) : KNB h i n = true := by
  unfold KNB
  rw [decide_eq_false h1]
  simp only [Bool.not_false, Bool.true_and, List.all_eq_true, List.mem_range]
  intro j hj
  by_cases c : i < j
  · have := h2 j c hj
    rw [decide_eq_true c, ← Bool.decide_and, decide_eq_false this]; rfl
  · rw [decide_eq_false c]; rfl
theorem KNB_no1 {h : aH} {i n : Nat} (h1 : h 65 i = -1) : KNB h i n = false := by
  unfold KNB
  rw [decide_eq_true h1]; rfl
theorem KNB_no2 {h : aH} {i n j : Nat} (h1 : i < j) (h2 : j < n) (h3 : h 65 j = -1 ∧ h 67 j = i) : KNB h i n = false := by
  unfold KNB
  rw [Bool.and_eq_false_iff]
  right
  rw [List.all_eq_false]
  exact ⟨j, List.mem_range.mpr h2, by rw [decide_eq_true h1, decide_eq_true h3.1, decide_eq_true h3.2]; simp⟩
/-- in time -/
def TIM (h : aH) (i : Nat) : Bool := if h 23 (h 65 i).toNat = -2 then decide (h 67 i < 400) else decide (h 67 i ≤ h 23 (h 65 i).toNat)
theorem c_kn {N : Nat} {C : Int → aH → Prop} {h : aH} {i n : Nat} (O : okMor h) (hn : (n : Int) ≤ h 58 12) (hw : h 65 i ≠ -1) (h1 : KNB h i n = true → C 1 h) (h0 : KNB h i n = false → C 0 h) : ∀ (d j : Nat), d = n - j → i < j → (∀ t, i < t → t < j → ¬ (h 65 t = -1 ∧ h 67 t = i)) → WI N 188 13 [(0, .inr (.inr 58)), (1, .inl (i : Int)), (2, .inl (n : Int)), (3, .inl (j : Int))] h C := by
  have h60 := O.2.1
  intro d
  induction d with
  | zero =>
    intro j hd hij hb
    refine w_188_13 ⟨fun _ => ck_t1 (h1 (KNB_yes hw (fun t a b => hb t a (by omega)))), fun z => by omega⟩
  | succ d ih =>
    intro j hd hij hb
    have next : ¬ (h 65 j = -1 ∧ h 67 j = i) → am_rg ((j : Int) + 1) ∧ WI N 188 13 [(0, .inr (.inr 58)), (1, .inl (i : Int)), (2, .inl (n : Int)), (3, .inl ((j : Int) + 1))] h C := fun hx => by
      (repeat first | refine ck_ix (by omega) ?_ | refine ck_rg (by omega) ?_ | refine ck_rl (by omega) ?_)
      refine ih (j + 1) (by omega) (by omega) (fun t a b => ?_)
      rcases Nat.eq_or_lt_of_le (Nat.le_of_lt_succ b) with e | e
      · rw [e]; exact hx
      · exact hb t a e
    refine w_188_13 ⟨fun z => by omega, fun _ => ck_ix (by omega) ?_⟩
    simp only [Int.toNat_natCast]
    refine ⟨fun a => next (fun z => a z.1), fun a => ck_ix (by omega) ⟨fun b => next (fun z => b z.2), fun b => ck_t0 (h0 ?_)⟩⟩
    exact KNB_no2 hij (by omega) ⟨Decidable.not_not.mp a, Decidable.not_not.mp b⟩
theorem c_known {N : Nat} {C : Int → aH → Prop} {h : aH} {i n : Nat} (O : okMor h) (hi : i < n) (hn : (n : Int) ≤ h 58 12) (h1 : KNB h i n = true → C 1 h) (h0 : KNB h i n = false → C 0 h) : WI N 188 0 [(0, .inr (.inr 58)), (1, .inl (i : Int)), (2, .inl (n : Int))] h C := by
  have h60 := O.2.1
  refine w_188_0 (ck_ix (by omega) ?_)
  simp only [Int.toNat_natCast]
  refine ⟨fun a => ?_, fun a => ck_t0 (h0 (KNB_no1 (Decidable.not_not.mp a)))⟩
  (repeat first | refine ck_ix (by omega) ?_ | refine ck_rg (by omega) ?_ | refine ck_rl (by omega) ?_)
  exact c_kn O hn a h1 h0 _ (i + 1) rfl (by omega) (fun t a b => by omega)
theorem m_kn {N : Nat} {C : Int → aH → Prop} {h : aH} {i n : Nat} (O : okMor h) (M : RelM h) (hn : (n : Int) ≤ h 58 12) (hw : h 65 i ≠ -1) (h1 : KNB h i n = true → C 1 h) (h0 : KNB h i n = false → C 0 h) : ∀ (d j : Nat), d = n - j → i < j → (∀ t, i < t → t < j → ¬ (h 65 t = -1 ∧ h 67 t = i)) → WI N 333 15 [(0, .inr (.inr 130)), (1, .inl (i : Int)), (2, .inl (n : Int)), (3, .inl (j : Int))] h C := by
  have h60 := O.2.1
  intro d
  induction d with
  | zero =>
    intro j hd hij hb
    refine w_333_15 ⟨fun _ => ck_t1 (h1 (KNB_yes hw (fun t a b => hb t a (by omega)))), fun z => by omega⟩
  | succ d ih =>
    intro j hd hij hb
    have mk := M.2 j (by omega)
    have next : ¬ (h 65 j = -1 ∧ h 67 j = i) → am_rg ((j : Int) + 1) ∧ WI N 333 15 [(0, .inr (.inr 130)), (1, .inl (i : Int)), (2, .inl (n : Int)), (3, .inl ((j : Int) + 1))] h C := fun hx => by
      (repeat first | refine ck_ix (by omega) ?_ | refine ck_rg (by omega) ?_ | refine ck_rl (by omega) ?_)
      refine ih (j + 1) (by omega) (by omega) (fun t a b => ?_)
      rcases Nat.eq_or_lt_of_le (Nat.le_of_lt_succ b) with e | e
      · rw [e]; exact hx
      · exact hb t a e
    refine w_333_15 ⟨fun z => by omega, fun _ => ?_⟩
    rw [show ((120 : Int) + (j : Int)).toNat = 120 + j by omega]
    (repeat first | refine ck_ix (by omega) ?_ | refine ck_rg (by omega) ?_ | refine ck_rl (by omega) ?_)
    refine ⟨fun a => next (fun z => a (by rw [mk.1 z.1]; exact z.2)), fun a => ck_t0 (h0 ?_)⟩
    have a := Decidable.not_not.mp a
    by_cases c : h 65 j = -1
    · exact KNB_no2 hij (by omega) ⟨c, by rw [← mk.1 c]; exact a⟩
    · have := (mk.2 c).1
      omega
theorem m_counts {N : Nat} {C : Int → aH → Prop} {h : aH} {i n : Nat} (O : okMor h) (M : RelM h) (hi : i < n) (hn : (n : Int) ≤ h 58 12) (h1 : KNB h i n = true → C 1 h) (h0 : KNB h i n = false → C 0 h) : WI N 333 0 [(0, .inr (.inr 130)), (1, .inl (i : Int)), (2, .inl (n : Int))] h C := by
  have h60 := O.2.1
  have mk := M.2 i (by omega)
  have ok := O.2.2 i (by omega)
  refine w_333_0 ?_
  rw [show ((120 : Int) + (i : Int)).toNat = 120 + i by omega]
  (repeat first | refine ck_ix (by omega) ?_ | refine ck_rg (by omega) ?_ | refine ck_rl (by omega) ?_)
  refine ⟨fun a => ?_, fun a => ck_t0 (h0 ?_)⟩
  · have c : h 65 i ≠ -1 := fun e => by have := mk.1 e; omega
    (repeat first | refine ck_ix (by omega) ?_ | refine ck_rg (by omega) ?_ | refine ck_rl (by omega) ?_)
    exact m_kn O M hn c h1 h0 _ (i + 1) rfl (by omega) (fun t a b => by omega)
  · by_cases c : h 65 i = -1
    · exact KNB_no1 c
    · exact absurd (mk.2 c).1 a
theorem c_inTime {N : Nat} {C : Int → aH → Prop} {h : aH} {i : Nat} (H : HI h) (O : okMor h) (hi : (i : Int) < h 58 12) (hw : h 65 i ≠ -1) (h1 : TIM h i = true → C 1 h) (h0 : TIM h i = false → C 0 h) : WI N 189 0 [(0, .inr (.inr 58)), (1, .inr (.inr 16)), (2, .inl (i : Int))] h C := by
  have h60 := O.2.1
  have hz := H.1
  unfold okSz at hz
  have ok := (O.2.2 i hi).2.2.2.2.resolve_left hw
  unfold TIM at h1 h0
  refine w_189_0 ?_
  simp only [Int.toNat_natCast]
  (repeat first | refine ck_ix (by omega) ?_ | refine ck_rg (by omega) ?_ | refine ck_rl (by omega) ?_)
  refine ⟨fun a => ck_ix (by omega) ⟨fun b => ck_t0 (h0 ?_), fun b => ck_t1 (h1 ?_)⟩, fun a => ck_ix (by omega) ⟨fun b => ck_t0 (h0 ?_), fun b => ck_t1 (h1 ?_)⟩⟩
  · rw [if_neg a]; exact decide_eq_false (by omega)
  · rw [if_neg a]; exact decide_eq_true (by omega)
  · rw [if_pos (Decidable.not_not.mp a)]; exact decide_eq_false (by omega)
  · rw [if_pos (Decidable.not_not.mp a)]; exact decide_eq_true (by omega)
theorem m_isInTime {N : Nat} {C : Int → aH → Prop} {h : aH} {i : Nat} (H : HI h) (R : RelH h) (O : okMor h) (M : RelM h) (hi : (i : Int) < h 58 12) (hw : h 65 i ≠ -1) (h1 : TIM h i = true → C 1 h) (h0 : TIM h i = false → C 0 h) : WI N 334 0 [(0, .inr (.inr 130)), (1, .inl (i : Int))] h C := by
  have h60 := O.2.1
  have ok := (O.2.2 i hi).2.2.2.2.resolve_left hw
  have mk := (M.2 i hi).2 hw
  have hh := (H.2.2.2.1 (h 65 i).toNat (by omega)).2.1
  unfold TIM at h1 h0
  refine w_334_0 ?_
  rw [show ((120 : Int) + (i : Int)).toNat = 120 + i by omega, mk.2.1]
  (repeat first | refine ck_ix (by omega) ?_ | refine ck_rg (by omega) ?_ | refine ck_rl (by omega) ?_)
  rw [show h 65 i = (((h 65 i).toNat : Nat) : Int) by omega]
  refine m_hour H R (by omega) ?_
  rw [mk.2.2.2]
  (repeat first | refine ck_ix (by omega) ?_ | refine ck_rg (by omega) ?_ | refine ck_rl (by omega) ?_)
  refine ⟨fun a => ⟨fun b => ck_t0 (h0 ?_), fun b => ck_t1 (h1 ?_)⟩, fun a => ⟨fun b => ck_t0 (h0 ?_), fun b => ck_t1 (h1 ?_)⟩⟩
  · rw [if_neg (by omega)]; exact decide_eq_false (by omega)
  · rw [if_neg (by omega)]; exact decide_eq_true (by omega)
  · rw [if_pos (by omega)]; exact decide_eq_false (by omega)
  · rw [if_pos (by omega)]; exact decide_eq_true (by omega)
/-- how many of the first n -/
def cntB (p : Nat → Bool) : Nat → Nat
  | 0 => 0
  | n + 1 => cntB p n + (bif p n then 1 else 0)
theorem cntB_le (p : Nat → Bool) : ∀ n, cntB p n ≤ n
  | 0 => Nat.le_refl _
  | n + 1 => by
    have := cntB_le p n
    unfold cntB
    cases p n <;> simp <;> omega
/-- one that counts for ALONE -/
def ALB (h : aH) (s d : Int) (n : Nat) (t : Bool) (i : Nat) : Bool := decide (h 65 i = s) && ((decide (d = 7) || decide (h 66 i = d)) && (KNB h i n && (!t || TIM h i)))
theorem c_al {N : Nat} {C : Int → aH → Prop} {h : aH} {s d : Int} {n : Nat} {t : Bool} (H : HI h) (O : okMor h) (hn : (n : Int) ≤ h 58 12) (hs : 0 ≤ s) (hC : C (cntB (ALB h s d n t) n : Nat) h) : ∀ (e i : Nat), e = n - i → i ≤ n → WI N 187 5 [(0, .inr (.inr 58)), (1, .inr (.inr 16)), (2, .inl s), (3, .inl d), (4, .inl (n : Int)), (5, .inl (bif t then 1 else 0)), (6, .inl (cntB (ALB h s d n t) i : Nat)), (7, .inl (i : Int))] h C := by
  have h60 := O.2.1
  intro e
  induction e with
  | zero =>
    intro i he hi
    have : i = n := by omega
    subst this
    exact w_187_5 ⟨fun _ => hC, fun z => absurd (Int.le_refl _) z⟩
  | succ e ih =>
    intro i he hi
    have hcl := cntB_le (ALB h s d n t) i
    have n47 : ∀ b : Bool, ALB h s d n t i = b → WI N 187 47 [(0, .inr (.inr 58)), (1, .inr (.inr 16)), (2, .inl s), (3, .inl d), (4, .inl (n : Int)), (5, .inl (bif t then 1 else 0)), (6, .inl ((cntB (ALB h s d n t) i + (bif b then 1 else 0) : Nat) : Int)), (7, .inl (i : Int))] h C := by
      intro b hb
      refine w_187_47 ?_
      (repeat first | refine ck_ix (by omega) ?_ | refine ck_rg (by omega) ?_ | refine ck_rl (by omega) ?_)
      have := ih (i + 1) (by omega) (by omega)
      rw [show cntB (ALB h s d n t) (i + 1) = cntB (ALB h s d n t) i + (bif b then 1 else 0) by rw [← hb]; rfl] at this
      exact this
    have n45 : ALB h s d n t i = true → WI N 187 45 [(0, .inr (.inr 58)), (1, .inr (.inr 16)), (2, .inl s), (3, .inl d), (4, .inl (n : Int)), (5, .inl (bif t then 1 else 0)), (6, .inl (cntB (ALB h s d n t) i : Nat)), (7, .inl (i : Int))] h C := by
      intro hb
      refine w_187_45 ?_
      (repeat first | refine ck_ix (by omega) ?_ | refine ck_rg (by omega) ?_ | refine ck_rl (by omega) ?_)
      exact n47 true hb
    have n35f : ALB h s d n t i = false → WI N 187 35 [(0, .inr (.inr 58)), (1, .inr (.inr 16)), (2, .inl s), (3, .inl d), (4, .inl (n : Int)), (5, .inl (bif t then 1 else 0)), (6, .inl (cntB (ALB h s d n t) i : Nat)), (7, .inl (i : Int)), (8, .inl 0)] h C := fun hb => w_187_35 ⟨fun _ => n47 false hb, fun z => absurd rfl z⟩
    have n32 : ALB h s d n t i = false → WI N 187 32 [(0, .inr (.inr 58)), (1, .inr (.inr 16)), (2, .inl s), (3, .inl d), (4, .inl (n : Int)), (5, .inl (bif t then 1 else 0)), (6, .inl (cntB (ALB h s d n t) i : Nat)), (7, .inl (i : Int))] h C := fun hb => w_187_32 (n35f hb)
    have n24 : h 65 i = s → (d = 7 ∨ h 66 i = d) → WI N 187 24 [(0, .inr (.inr 58)), (1, .inr (.inr 16)), (2, .inl s), (3, .inl d), (4, .inl (n : Int)), (5, .inl (bif t then 1 else 0)), (6, .inl (cntB (ALB h s d n t) i : Nat)), (7, .inl (i : Int))] h C := by
      intro e1 e2
      have e3 : (decide (d = 7) || decide (h 66 i = d)) = true := by
        rcases e2 with e2 | e2
        · rw [decide_eq_true e2]; rfl
        · rw [decide_eq_true e2, Bool.or_true]
      refine w_187_24 (c_known O (by omega) hn (fun hk => z1 ?_) (fun hk => z0 (n32 ?_)))
      · refine w_187_35 ⟨fun z => absurd z (by decide), fun _ => ⟨fun z => ?_, fun z => ?_⟩⟩
        · refine n45 ?_
          unfold ALB
          rw [decide_eq_true e1, e3, hk]
          cases t with
          | false => rfl
          | true => exact absurd z (by decide)
        · have ht : t = true := by
            cases t with
            | false => exact absurd rfl z
            | true => rfl
          refine c_inTime H O (by omega) (by omega) (fun q => z1 (n45 ?_)) (fun q => z0 (n47 false ?_))
          · unfold ALB
            rw [decide_eq_true e1, e3, hk, q, ht]; rfl
          · unfold ALB
            rw [decide_eq_true e1, e3, hk, q, ht]; rfl
      · unfold ALB
        rw [hk]; simp
    refine w_187_5 ⟨fun z => by omega, fun _ => ck_ix (by omega) ?_⟩
    simp only [Int.toNat_natCast]
    refine ⟨fun a => n32 ?_, fun a => ⟨fun b => n24 (Decidable.not_not.mp a) (Or.inl b), fun b => ck_ix (by omega) ⟨fun c => n32 ?_, fun c => n24 (Decidable.not_not.mp a) (Or.inr (Decidable.not_not.mp c))⟩⟩⟩
    · unfold ALB; rw [decide_eq_false a]; rfl
    · unfold ALB; rw [decide_eq_false b, decide_eq_false c]; simp
def vAlone (h : aH) (s d n w : Int) : Int := if (0 ≤ s ∧ s < h 16 16) ∧ (0 ≤ d ∧ d ≤ 7) ∧ (0 ≤ n ∧ n ≤ h 58 12) ∧ (0 ≤ w ∧ w ≤ 1) then (cntB (ALB h s d n.toNat (decide (w = 1))) n.toNat : Nat) else -1
theorem c_isKnown {N : Nat} {C : Int → aH → Prop} {h : aH} {n : Int} (h1 : 0 ≤ n ∧ n ≤ h 58 12 → C 1 h) (h0 : ¬ (0 ≤ n ∧ n ≤ h 58 12) → C 0 h) : WI N 186 0 [(0, .inr (.inr 9)), (1, .inl n)] h C :=
  w_186_0 ⟨fun a => ck_t0 (h0 (by omega)), fun a => ⟨fun b => ck_t0 (h0 (by omega)), fun b => ck_t1 (h1 (by omega))⟩⟩
theorem m_isKnown {N : Nat} {C : Int → aH → Prop} {h : aH} {n : Int} (M : RelM h) (h1 : 0 ≤ n ∧ n ≤ h 58 12 → C 1 h) (h0 : ¬ (0 ≤ n ∧ n ≤ h 58 12) → C 0 h) : WI N 332 0 [(0, .inr (.inr 130)), (1, .inl n)] h C := by
  refine w_332_0 ?_
  rw [M.1]
  exact m_in (fun q => ck_t1 (h1 q)) (fun q => ck_t0 (h0 q))
theorem c_alone {N : Nat} {C : Int → aH → Prop} {h : aH} {s d n w : Int} (H : HI h) (O : okMor h) (hC : C (vAlone h s d n w) h) : WI N 185 0 [(0, .inr (.inr 9)), (1, .inl s), (2, .inl d), (3, .inl n), (4, .inl w)] h C := by
  have no : ¬ ((0 ≤ s ∧ s < h 16 16) ∧ (0 ≤ d ∧ d ≤ 7) ∧ (0 ≤ n ∧ n ≤ h 58 12) ∧ (0 ≤ w ∧ w ≤ 1)) → C (-1) h := fun z => by
    unfold vAlone at hC
    rw [if_neg z] at hC
    exact hC
  refine w_185_0 (c_isSleeper (fun q1 => z1 ⟨fun z => no (by omega), fun a => ⟨fun z => no (by omega), fun b => c_isKnown (fun q2 => z1 ⟨fun z => no (by omega), fun c => ⟨fun d' => ?_, fun z => no (by omega)⟩⟩) (fun q => z0 (no (by omega)))⟩⟩) (fun q => z0 (no (by omega))))
  unfold vAlone at hC
  rw [if_pos ⟨q1, by omega, q2, by omega⟩] at hC
  obtain ⟨m, rfl⟩ := Int.eq_ofNat_of_zero_le q2.1
  simp only [Int.toNat_natCast] at hC
  refine ⟨fun hw => ?_, fun hw => ?_⟩
  · rw [decide_eq_false hw] at hC
    exact w_187_0 (c_al (t := false) H O q2.2 q1.1 hC m 0 rfl (Nat.zero_le _))
  · rw [decide_eq_true (Decidable.not_not.mp hw)] at hC
    exact w_187_0 (c_al (t := true) H O q2.2 q1.1 hC m 0 rfl (Nat.zero_le _))
theorem m_al {N : Nat} {C : Int → aH → Prop} {h : aH} {s d w : Int} {n : Nat} (hw : w = 0 ∨ w = 1) (H : HI h) (R : RelH h) (O : okMor h) (M : RelM h) (hn : (n : Int) ≤ h 58 12) (hs : 0 ≤ s) (hC : C (cntB (ALB h s d n (decide (w = 1))) n : Nat) h) : ∀ (e i : Nat), e = n - i → i ≤ n → WI N 331 25 [(0, .inr (.inr 130)), (1, .inl s), (2, .inl d), (3, .inl (n : Int)), (4, .inl w), (5, .inl (cntB (ALB h s d n (decide (w = 1))) i : Nat)), (6, .inl (i : Int))] h C := by
  have h60 := O.2.1
  intro e
  induction e with
  | zero =>
    intro i he hi
    have : i = n := by omega
    subst this
    exact w_331_25 ⟨fun _ => hC, fun z => absurd (Int.le_refl _) z⟩
  | succ e ih =>
    intro i he hi
    have hcl := cntB_le (ALB h s d n (decide (w = 1))) i
    have IH := ih (i + 1) (by omega) (by omega)
    have nf : ALB h s d n (decide (w = 1)) i = false → am_rg ((i : Int) + 1) ∧ WI N 331 25 [(0, .inr (.inr 130)), (1, .inl s), (2, .inl d), (3, .inl (n : Int)), (4, .inl w), (5, .inl (cntB (ALB h s d n (decide (w = 1))) i : Nat)), (6, .inl ((i : Int) + 1))] h C := by
      intro hb
      rw [show cntB (ALB h s d n (decide (w = 1))) (i + 1) = cntB (ALB h s d n (decide (w = 1))) i by show _ + (bif ALB h s d n (decide (w = 1)) i then 1 else 0) = _; rw [hb]; rfl] at IH
      (repeat first | refine ck_ix (by omega) ?_ | refine ck_rg (by omega) ?_ | refine ck_rl (by omega) ?_)
      exact IH
    have nt : ALB h s d n (decide (w = 1)) i = true → am_rg (((cntB (ALB h s d n (decide (w = 1))) i : Nat) : Int) + 1) ∧ am_rg ((i : Int) + 1) ∧ WI N 331 25 [(0, .inr (.inr 130)), (1, .inl s), (2, .inl d), (3, .inl (n : Int)), (4, .inl w), (5, .inl (((cntB (ALB h s d n (decide (w = 1))) i : Nat) : Int) + 1)), (6, .inl ((i : Int) + 1))] h C := by
      intro hb
      rw [show cntB (ALB h s d n (decide (w = 1))) (i + 1) = cntB (ALB h s d n (decide (w = 1))) i + 1 by show _ + (bif ALB h s d n (decide (w = 1)) i then 1 else 0) = _; rw [hb]; rfl] at IH
      (repeat first | refine ck_ix (by omega) ?_ | refine ck_rg (by omega) ?_ | refine ck_rl (by omega) ?_)
      exact IH
    have hi2 : (i : Int) < h 58 12 := by omega
    refine w_331_25 ⟨fun z => by omega, fun _ => m_counts O M (by omega) hn (fun hk => z1 ?_) (fun hk => z0 (nf ?_))⟩
    · have hw1 : h 65 i ≠ -1 := fun z => by rw [KNB_no1 z] at hk; cases hk
      have mk := (M.2 i hi2).2 hw1
      rw [show ((120 : Int) + (i : Int)).toNat = 120 + i by omega, mk.2.1, mk.2.2.1]
      (repeat first | refine ck_ix (by omega) ?_ | refine ck_rg (by omega) ?_ | refine ck_rl (by omega) ?_)
      have rest : h 65 i = s → (decide (d = 7) || decide (h 66 i = d)) = true → (w = 0 → am_rg (((cntB (ALB h s d n (decide (w = 1))) i : Nat) : Int) + 1) ∧ am_rg ((i : Int) + 1) ∧ WI N 331 25 [(0, .inr (.inr 130)), (1, .inl s), (2, .inl d), (3, .inl (n : Int)), (4, .inl w), (5, .inl (((cntB (ALB h s d n (decide (w = 1))) i : Nat) : Int) + 1)), (6, .inl ((i : Int) + 1))] h C) ∧ (¬ w = 0 → WI N 334 0 [(0, .inr (.inr 130)), (1, .inl (i : Int))] h (fun r2 h2 => (r2 = 0 → am_rg ((i : Int) + 1) ∧ WI N 331 25 [(0, .inr (.inr 130)), (1, .inl s), (2, .inl d), (3, .inl (n : Int)), (4, .inl w), (5, .inl (cntB (ALB h s d n (decide (w = 1))) i : Nat)), (6, .inl ((i : Int) + 1))] h2 C) ∧ (¬ r2 = 0 → am_rg (((cntB (ALB h s d n (decide (w = 1))) i : Nat) : Int) + 1) ∧ am_rg ((i : Int) + 1) ∧ WI N 331 25 [(0, .inr (.inr 130)), (1, .inl s), (2, .inl d), (3, .inl (n : Int)), (4, .inl w), (5, .inl (((cntB (ALB h s d n (decide (w = 1))) i : Nat) : Int) + 1)), (6, .inl ((i : Int) + 1))] h2 C))) := by
        intro e1 e3
        refine ⟨fun w0 => nt ?_, fun w1 => m_isInTime H R O M hi2 hw1 (fun q => z1 (nt ?_)) (fun q => z0 (nf ?_))⟩
        · unfold ALB
          rw [decide_eq_true e1, e3, hk, decide_eq_false (show ¬ w = 1 by omega)]; rfl
        · unfold ALB
          rw [decide_eq_true e1, e3, hk, q]; simp
        · unfold ALB
          rw [decide_eq_true e1, e3, hk, q, decide_eq_true (show w = 1 by omega)]; rfl
      refine ⟨fun a => nf ?_, fun a => ⟨fun b => rest (Decidable.not_not.mp a) (by rw [decide_eq_true b]; rfl), fun b => ?_⟩⟩
      · unfold ALB; rw [decide_eq_false a]; rfl
      · (repeat first | refine ck_ix (by omega) ?_ | refine ck_rg (by omega) ?_ | refine ck_rl (by omega) ?_)
        refine ⟨fun c => nf ?_, fun c => rest (Decidable.not_not.mp a) (by rw [decide_eq_true (Decidable.not_not.mp c), Bool.or_true])⟩
        unfold ALB; rw [decide_eq_false b, decide_eq_false c]; simp
    · unfold ALB; rw [hk]; simp
theorem m_alone {N : Nat} {C : Int → aH → Prop} {h : aH} {s d n w : Int} (H : HI h) (R : RelH h) (O : okMor h) (M : RelM h) (hC : C (vAlone h s d n w) h) : WI N 331 0 [(0, .inr (.inr 130)), (1, .inl s), (2, .inl d), (3, .inl n), (4, .inl w)] h C := by
  have no : ¬ ((0 ≤ s ∧ s < h 16 16) ∧ (0 ≤ d ∧ d ≤ 7) ∧ (0 ≤ n ∧ n ≤ h 58 12) ∧ (0 ≤ w ∧ w ≤ 1)) → C (-1) h := fun z => by
    unfold vAlone at hC
    rw [if_neg z] at hC
    exact hC
  refine w_331_0 (m_isSleeper H R (fun q1 => z1 (m_in (fun q2 => z1 (m_isKnown M (fun q3 => z1 (m_in (fun q4 => y1 ?_) (fun q => y0 (no (by omega))))) (fun q => z0 (no (by omega))))) (fun q => z0 (no (by omega))))) (fun q => z0 (no (by omega))))
  unfold vAlone at hC
  rw [if_pos ⟨q1, q2, q3, q4⟩] at hC
  obtain ⟨m, rfl⟩ := Int.eq_ofNat_of_zero_le q3.1
  simp only [Int.toNat_natCast] at hC
  exact m_al (by omega) H R O M q3.2 q1.1 hC m 0 rfl (Nat.zero_le _)
