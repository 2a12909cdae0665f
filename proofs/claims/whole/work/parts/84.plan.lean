/-! the plan: ring, string, pole, drop; the class behind it the reference -/
def PUT (h : aH) (n : Nat) (e k mi lo wh : Int) : aH := am_up (am_up (am_up (am_up (am_up (am_up h 9 11 e) 59 n k) 60 n mi) 61 n lo) 62 n wh) 58 10 ((n : Int) + 1)
def MPUT (h : aH) (n : Nat) (k mi lo wh : Int) : aH := am_up (am_up (am_up (am_up (am_up h 163 n k) 164 n mi) 165 n lo) 166 n wh) 130 48 ((n : Int) + 1)
/-- edits tell whether something may have changed -/
def Ed (h h' : aH) : Prop := h' 9 11 = h 9 11 + 1 ∨ (h' 9 11 = h 9 11 ∧ Kp h h')
/-- what is left of the object's and the state's own fields -/
def Fld (h h' : aH) : Prop := h' 58 12 = h 58 12 ∧ h' 58 13 = h 58 13
def okEd (h : aH) : Prop := 0 ≤ h 9 11 ∧ h 9 11 ≤ 1000000
theorem c_plan {N : Nat} {C : Int → aH → Prop} {h : aH} {k mi lo wh : Int} (he : okEd h) {n : Nat} (hn : h 58 10 = (n : Int)) (h1 : n < 8 → C n (PUT h n (h 9 11 + 1) k mi lo wh)) (h0 : ¬ n < 8 → C (-1) (am_up h 9 11 (h 9 11 + 1))) : WI N 92 0 [(0, .inr (.inr 9)), (1, .inl k), (2, .inl mi), (3, .inl lo), (4, .inl wh)] h C := by
  obtain ⟨he0, he1⟩ := he
  refine w_92_0 ?_
  (repeat first | refine ck_ix (by omega) ?_ | refine ck_rg (by omega) ?_ | refine ck_rl (by omega) ?_)
  refine w_93_0 ?_
  rw [show am_up h 9 11 (h 9 11 + 1) 58 10 = (n : Int) by rw [up_row (by decide)]; exact hn]
  refine ⟨fun q => ?_, fun q => h0 (by omega)⟩
  have := h1 (by omega)
  (repeat first | refine ck_ix (by omega) ?_ | refine ck_rg (by omega) ?_ | refine ck_rl (by omega) ?_)
  rw [show ((n : Int) + 1 - 1) = (n : Int) by omega]
  exact this
theorem m_comes {N : Nat} {C : Int → aH → Prop} {h : aH} {k mi lo wh : Int} {n : Nat} (hn : h 130 48 = (n : Int)) (h8 : n < 8) (hC : C n (MPUT h n k mi lo wh)) : WI N 269 0 [(0, .inr (.inr 130)), (1, .inl k), (2, .inl mi), (3, .inl lo), (4, .inl wh)] h C := by
  refine w_269_0 ?_
  rw [hn]
  (repeat first | refine ck_ix (by omega) ?_ | refine ck_rg (by omega) ?_ | refine ck_rl (by omega) ?_)
  rw [show ((n : Int) + 1 - 1) = (n : Int) by omega]
  exact hC
/-- what holds behind a change of the plan -/
def PLN (h h' : aH) : Prop := Fr [9, 58, 59, 60, 61, 62, 163, 164, 165, 166] [48] h h' ∧ PI h' ∧ RelP h' ∧ Ed h h' ∧ Fld h h'
theorem put_ok {h : aH} {k mi lo wh : Int} (P : PI h) (Q : RelP h) {n : Nat} (hn : h 58 10 = (n : Int)) (h8 : n < 8) (hk : (0 ≤ k ∧ k ≤ 2) ∧ (0 ≤ mi ∧ mi ≤ 399) ∧ (0 ≤ lo ∧ lo ≤ 12) ∧ (k = 1 → 0 ≤ wh ∧ wh < h 16 16) ∧ (k ≠ 1 → 0 ≤ wh ∧ wh < h 16 14)) :
    PLN h (MPUT (PUT h n (h 9 11 + 1) k mi lo wh) n k mi lo wh) := by
  obtain ⟨H, L, ⟨s0, s8, sS⟩, W, K⟩ := P
  obtain ⟨q1, q2, q3⟩ := Q
  refine ⟨?_, ⟨H, L, ⟨?_, ?_, ?_⟩, W, K⟩, ⟨?_, ?_, ?_⟩, Or.inl ?_, ?_, ?_⟩
  · unfold MPUT PUT
    exact ((((((((((Fr.rfl.up (by decide) (by decide)).up (by decide) (by decide)).up (by decide) (by decide)).up (by decide) (by decide)).up (by decide) (by decide)).up (by decide) (by decide)).up (by decide) (by decide)).up (by decide) (by decide)).up (by decide) (by decide)).up (by decide) (by decide)).upM (by decide)
  · show 0 ≤ (n : Int) + 1; omega
  · show (n : Int) + 1 ≤ 8; omega
  · intro j hj
    have hj : (j : Int) < (n : Int) + 1 := hj
    by_cases e : j = n
    · subst e
      have e1 : MPUT (PUT h j (h 9 11 + 1) k mi lo wh) j k mi lo wh 59 j = k := by simp [MPUT, PUT, up_row, up_in]
      have e2 : MPUT (PUT h j (h 9 11 + 1) k mi lo wh) j k mi lo wh 60 j = mi := by simp [MPUT, PUT, up_row, up_in]
      have e3 : MPUT (PUT h j (h 9 11 + 1) k mi lo wh) j k mi lo wh 61 j = lo := by simp [MPUT, PUT, up_row, up_in]
      have e4 : MPUT (PUT h j (h 9 11 + 1) k mi lo wh) j k mi lo wh 62 j = wh := by simp [MPUT, PUT, up_row, up_in]
      rw [e1, e2, e3, e4]
      exact hk
    · have e1 : MPUT (PUT h n (h 9 11 + 1) k mi lo wh) n k mi lo wh 59 j = h 59 j := by simp [MPUT, PUT, up_row, up_in, e]
      have e2 : MPUT (PUT h n (h 9 11 + 1) k mi lo wh) n k mi lo wh 60 j = h 60 j := by simp [MPUT, PUT, up_row, up_in, e]
      have e3 : MPUT (PUT h n (h 9 11 + 1) k mi lo wh) n k mi lo wh 61 j = h 61 j := by simp [MPUT, PUT, up_row, up_in, e]
      have e4 : MPUT (PUT h n (h 9 11 + 1) k mi lo wh) n k mi lo wh 62 j = h 62 j := by simp [MPUT, PUT, up_row, up_in, e]
      rw [e1, e2, e3, e4]
      exact sS j (by omega)
  · rfl
  · intro j hj
    have hj : (j : Int) < (n : Int) + 1 := hj
    by_cases e : j = n
    · subst e
      simp [MPUT, PUT, up_row, up_in]
    · have := q2 j (by omega)
      simp [MPUT, PUT, up_row, up_in, e, this]
  · exact q3
  · rfl
  · rfl
  · rfl
theorem bump_ok {h : aH} (P : PI h) (Q : RelP h) : PLN h (am_up h 9 11 (h 9 11 + 1)) :=
  ⟨Fr.rfl.up (by decide) (by decide), P, Q, Or.inl rfl, rfl, rfl⟩
theorem same_ok {h : aH} (P : PI h) (Q : RelP h) : PLN h h := ⟨Fr.rfl, P, Q, Or.inr ⟨rfl, Kp.rfl⟩, rfl, rfl⟩
theorem m_soundsAt {N : Nat} {C : Int → aH → Prop} {h : aH} {c m : Int} (H : HI h) (R : RelH h) (hc : 0 ≤ c ∧ c < h 16 15) (hm : 0 ≤ m ∧ m ≤ 399) (hC : C (max 0 (min 399 (m + h 20 c.toNat))) h) : WI N 268 0 [(0, .inr (.inr 130)), (1, .inl c), (2, .inl m)] h C := by
  have hz := H.1
  unfold okSz at hz
  have h1 := H.2.2.1 c.toNat (by omega)
  have hL := R.1
  have e := (R.2.2.2.1 c.toNat (by omega)).2
  unfold Lv at e
  refine w_268_0 ?_
  rw [show ((9 : Int) * h 130 18 + c).toNat = 9 * (h 130 18).toNat + c.toNat by omega, e]
  (repeat first | refine ck_ix (by omega) ?_ | refine ck_rg (by omega) ?_ | refine ck_rl (by omega) ?_)
  exact m_held (by decide) hC
theorem m_rings {N : Nat} {C : Int → aH → Prop} {h : aH} {c b m : Int} (H : HI h) (R : RelH h) (hc : 0 ≤ c ∧ c < h 16 15) (hm : 0 ≤ m ∧ m ≤ 399) {n : Nat} (hn : h 130 48 = (n : Int)) (h8 : n < 8) (hC : C n (MPUT h n 0 (max 0 (min 399 (m + h 20 c.toNat))) (h 19 c.toNat) b)) : WI N 267 0 [(0, .inr (.inr 130)), (1, .inl c), (2, .inl b), (3, .inl m)] h C := by
  have hz := H.1
  unfold okSz at hz
  have hL := R.1
  have e := (R.2.2.2.1 c.toNat (by omega)).1
  unfold Lv at e
  refine w_267_0 (m_soundsAt H R hc hm ?_)
  rw [show ((9 : Int) * h 130 18 + c).toNat = 9 * (h 130 18).toNat + c.toNat by omega, e]
  (repeat first | refine ck_ix (by omega) ?_ | refine ck_rg (by omega) ?_ | refine ck_rl (by omega) ?_)
  exact m_comes hn h8 hC
theorem pl_ring {N : Nat} {D : Int → Int → aH → Prop} {h : aH} {c b m : Int} (P : PI h) (R : RelH h) (Q : RelP h) (he : okEd h) (hD : ∀ v h', PLN h h' → D v v h') :
    WI N 89 0 [(0, .inr (.inr 9)), (1, .inl c), (2, .inl b), (3, .inl m)] h (fun v1 h1 => WI N 265 0 [(0, .inr (.inr 130)), (1, .inl c), (2, .inl b), (3, .inl m)] h1 (fun v2 h2 => D v1 v2 h2)) := by
  have hz := P.1.1
  unfold okSz at hz
  obtain ⟨n, hn⟩ := Int.eq_ofNat_of_zero_le P.2.2.1.1
  have hs8 := P.2.2.1.2.1
  have hmn : h 130 48 = (n : Int) := Q.1.trans hn
  have no : ¬ ((0 ≤ c ∧ c < h 16 15) ∧ (0 ≤ b ∧ b < h 16 14) ∧ (0 ≤ m ∧ m < 400)) → WI N 265 0 [(0, .inr (.inr 130)), (1, .inl c), (2, .inl b), (3, .inl m)] h (fun v2 h2 => D (-1) v2 h2) := by
    intro z
    refine w_265_0 ⟨fun _ => hD _ _ (same_ok P Q), fun _ => m_isClock P.1 R (fun q1 => z1 (m_isBed P.1 R (fun q2 => z1 (m_isMinute (fun q3 => absurd ⟨q1, q2, q3⟩ z) (fun q => y0 (hD _ _ (same_ok P Q))))) (fun q => z0 (hD _ _ (same_ok P Q))))) (fun q => z0 (hD _ _ (same_ok P Q)))⟩
  refine w_89_0 (c_isClock (fun q1 => z1 (c_isBed (fun q2 => z1 (c_isMinute (fun q3 => y1 ?_) (fun q => y0 (no (by omega))))) (fun q => z0 (no (by omega))))) (fun q => z0 (no (by omega))))
  have hk := P.1.2.2.1 c.toNat (by omega)
  refine c_soundsAt P.1 q1 (by omega) (ck_ix (by omega) (c_plan he hn (fun h8 => ?_) (fun h8 => ?_)))
  · have P1 : HI (PUT h n (h 9 11 + 1) 0 (max 0 (min 399 (m + h 20 c.toNat))) (h 19 c.toNat) b) := P.1
    have R1 : RelH (PUT h n (h 9 11 + 1) 0 (max 0 (min 399 (m + h 20 c.toNat))) (h 19 c.toNat) b) := R
    refine w_265_0 ?_
    rw [show PUT h n (h 9 11 + 1) 0 (max 0 (min 399 (m + h 20 c.toNat))) (h 19 c.toNat) b 130 48 = (n : Int) from hmn]
    refine ⟨fun z => by omega, fun _ => m_isClock P1 R1 (fun _ => z1 (m_isBed P1 R1 (fun _ => z1 (m_isMinute (fun _ => y1 ?_) (fun q => absurd q3 q))) (fun q => absurd q2 q))) (fun q => absurd q1 q)⟩
    exact m_rings P1 R1 q1 (by omega) hmn h8 (hD _ _ (put_ok P Q hn h8 ⟨by omega, by omega, by omega, fun z => absurd z (by decide), fun _ => q2⟩))
  · refine w_265_0 ?_
    rw [show am_up h 9 11 (h 9 11 + 1) 130 48 = (n : Int) from hmn]
    exact ⟨fun _ => hD _ _ (bump_ok P Q), fun z => by omega⟩
theorem pl_string {N : Nat} {D : Int → Int → aH → Prop} {h : aH} {s m : Int} (P : PI h) (R : RelH h) (Q : RelP h) (he : okEd h) (hD : ∀ v h', PLN h h' → D v v h') :
    WI N 94 0 [(0, .inr (.inr 9)), (1, .inl s), (2, .inl m)] h (fun v1 h1 => WI N 270 0 [(0, .inr (.inr 130)), (1, .inl s), (2, .inl m)] h1 (fun v2 h2 => D v1 v2 h2)) := by
  obtain ⟨n, hn⟩ := Int.eq_ofNat_of_zero_le P.2.2.1.1
  have hs8 := P.2.2.1.2.1
  have hmn : h 130 48 = (n : Int) := Q.1.trans hn
  have no : ¬ ((0 ≤ s ∧ s < h 16 16) ∧ (0 ≤ m ∧ m < 400)) → WI N 270 0 [(0, .inr (.inr 130)), (1, .inl s), (2, .inl m)] h (fun v2 h2 => D (-1) v2 h2) := by
    intro z
    refine w_270_0 ⟨fun _ => hD _ _ (same_ok P Q), fun _ => m_isSleeper P.1 R (fun q1 => z1 (m_isMinute (fun q3 => absurd ⟨q1, q3⟩ z) (fun q => y0 (hD _ _ (same_ok P Q))))) (fun q => z0 (hD _ _ (same_ok P Q)))⟩
  refine w_94_0 (c_isSleeper (fun q1 => z1 (c_isMinute (fun q3 => y1 (c_plan he hn (fun h8 => ?_) (fun h8 => ?_))) (fun q => y0 (no (by omega))))) (fun q => z0 (no (by omega))))
  · have P1 : HI (PUT h n (h 9 11 + 1) 1 m 0 s) := P.1
    have R1 : RelH (PUT h n (h 9 11 + 1) 1 m 0 s) := R
    refine w_270_0 ?_
    rw [show PUT h n (h 9 11 + 1) 1 m 0 s 130 48 = (n : Int) from hmn]
    refine ⟨fun z => by omega, fun _ => m_isSleeper P1 R1 (fun _ => z1 (m_isMinute (fun _ => y1 ?_) (fun q => absurd q3 q))) (fun q => absurd q1 q)⟩
    exact m_comes hmn h8 (hD _ _ (put_ok P Q hn h8 ⟨by omega, by omega, by omega, fun _ => q1, fun z => absurd rfl z⟩))
  · refine w_270_0 ?_
    rw [show am_up h 9 11 (h 9 11 + 1) 130 48 = (n : Int) from hmn]
    exact ⟨fun _ => hD _ _ (bump_ok P Q), fun z => by omega⟩
theorem pl_pole {N : Nat} {D : Int → Int → aH → Prop} {h : aH} {b m : Int} (P : PI h) (R : RelH h) (Q : RelP h) (he : okEd h) (hD : ∀ v h', PLN h h' → D v v h') :
    WI N 95 0 [(0, .inr (.inr 9)), (1, .inl b), (2, .inl m)] h (fun v1 h1 => WI N 271 0 [(0, .inr (.inr 130)), (1, .inl b), (2, .inl m)] h1 (fun v2 h2 => D v1 v2 h2)) := by
  obtain ⟨n, hn⟩ := Int.eq_ofNat_of_zero_le P.2.2.1.1
  have hs8 := P.2.2.1.2.1
  have hmn : h 130 48 = (n : Int) := Q.1.trans hn
  have no : ¬ ((0 ≤ b ∧ b < h 16 14) ∧ (0 ≤ m ∧ m < 400)) → WI N 271 0 [(0, .inr (.inr 130)), (1, .inl b), (2, .inl m)] h (fun v2 h2 => D (-1) v2 h2) := by
    intro z
    refine w_271_0 ⟨fun _ => hD _ _ (same_ok P Q), fun _ => m_isBed P.1 R (fun q1 => z1 (m_isMinute (fun q3 => absurd ⟨q1, q3⟩ z) (fun q => y0 (hD _ _ (same_ok P Q))))) (fun q => z0 (hD _ _ (same_ok P Q)))⟩
  refine w_95_0 (c_isBed (fun q1 => z1 (c_isMinute (fun q3 => y1 (c_plan he hn (fun h8 => ?_) (fun h8 => ?_))) (fun q => y0 (no (by omega))))) (fun q => z0 (no (by omega))))
  · have P1 : HI (PUT h n (h 9 11 + 1) 2 m 7 b) := P.1
    have R1 : RelH (PUT h n (h 9 11 + 1) 2 m 7 b) := R
    refine w_271_0 ?_
    rw [show PUT h n (h 9 11 + 1) 2 m 7 b 130 48 = (n : Int) from hmn]
    refine ⟨fun z => by omega, fun _ => m_isBed P1 R1 (fun _ => z1 (m_isMinute (fun _ => y1 ?_) (fun q => absurd q3 q))) (fun q => absurd q1 q)⟩
    exact m_comes hmn h8 (hD _ _ (put_ok P Q hn h8 ⟨by omega, by omega, by omega, fun z => absurd z (by decide), fun _ => q1⟩))
  · refine w_271_0 ?_
    rw [show am_up h 9 11 (h 9 11 + 1) 130 48 = (n : Int) from hmn]
    exact ⟨fun _ => hD _ _ (bump_ok P Q), fun z => by omega⟩
