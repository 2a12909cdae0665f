/-! the easy questions: of, lies, hears, again, sound, ways, walk, place -/
theorem c_isBed {N : Nat} {C : Int → aH → Prop} {h : aH} {s : Int} (h1 : 0 ≤ s ∧ s < h 16 14 → C 1 h) (h0 : ¬ (0 ≤ s ∧ s < h 16 14) → C 0 h) : WI N 79 0 [(0, .inr (.inr 9)), (1, .inl s)] h C :=
  w_79_0 ⟨fun a => ck_t0 (h0 (by omega)), fun a => ⟨fun b => ck_t0 (h0 (by omega)), fun b => ck_t1 (h1 (by omega))⟩⟩
theorem c_isClock {N : Nat} {C : Int → aH → Prop} {h : aH} {s : Int} (h1 : 0 ≤ s ∧ s < h 16 15 → C 1 h) (h0 : ¬ (0 ≤ s ∧ s < h 16 15) → C 0 h) : WI N 90 0 [(0, .inr (.inr 9)), (1, .inl s)] h C :=
  w_90_0 ⟨fun a => ck_t0 (h0 (by omega)), fun a => ⟨fun b => ck_t0 (h0 (by omega)), fun b => ck_t1 (h1 (by omega))⟩⟩
theorem c_isSound {N : Nat} {C : Int → aH → Prop} {h : aH} {s : Int} (h1 : 0 ≤ s ∧ s < h 58 10 → C 1 h) (h0 : ¬ (0 ≤ s ∧ s < h 58 10) → C 0 h) : WI N 97 0 [(0, .inr (.inr 9)), (1, .inl s)] h C :=
  w_97_0 ⟨fun a => ck_t0 (h0 (by omega)), fun a => ⟨fun b => ck_t0 (h0 (by omega)), fun b => ck_t1 (h1 (by omega))⟩⟩
theorem c_isMinute {N : Nat} {C : Int → aH → Prop} {h : aH} {s : Int} (h1 : 0 ≤ s ∧ s < 400 → C 1 h) (h0 : ¬ (0 ≤ s ∧ s < 400) → C 0 h) : WI N 82 0 [(0, .inl s)] h C :=
  w_82_0 ⟨fun a => ck_t0 (h0 (by omega)), fun a => ⟨fun b => ck_t0 (h0 (by omega)), fun b => ck_t1 (h1 (by omega))⟩⟩
theorem c_isLoud {N : Nat} {C : Int → aH → Prop} {h : aH} {s : Int} (h1 : 1 ≤ s ∧ s ≤ 12 → C 1 h) (h0 : ¬ (1 ≤ s ∧ s ≤ 12) → C 0 h) : WI N 81 0 [(0, .inl s)] h C :=
  w_81_0 ⟨fun a => ck_t0 (h0 (by omega)), fun a => ⟨fun b => ck_t0 (h0 (by omega)), fun b => ck_t1 (h1 (by omega))⟩⟩
theorem m_isBed {N : Nat} {C : Int → aH → Prop} {h : aH} {s : Int} (H : HI h) (R : RelH h) (h1 : 0 ≤ s ∧ s < h 16 14 → C 1 h) (h0 : ¬ (0 ≤ s ∧ s < h 16 14) → C 0 h) : WI N 252 0 [(0, .inr (.inr 130)), (1, .inl s)] h C := by
  have hz := H.1
  unfold okSz at hz
  have hL := R.1
  have hS := R.2.1.1
  unfold Lv at hS
  refine w_252_0 ?_
  rw [hS]
  (repeat first | refine ck_ix (by omega) ?_ | refine ck_rg (by omega) ?_ | refine ck_rl (by omega) ?_)
  exact m_in (fun q => ck_t1 (h1 (by omega))) (fun q => ck_t0 (h0 (by omega)))
theorem m_isClock {N : Nat} {C : Int → aH → Prop} {h : aH} {s : Int} (H : HI h) (R : RelH h) (h1 : 0 ≤ s ∧ s < h 16 15 → C 1 h) (h0 : ¬ (0 ≤ s ∧ s < h 16 15) → C 0 h) : WI N 266 0 [(0, .inr (.inr 130)), (1, .inl s)] h C := by
  have hz := H.1
  unfold okSz at hz
  have hL := R.1
  have hS := R.2.1.2.1
  unfold Lv at hS
  refine w_266_0 ?_
  rw [hS]
  (repeat first | refine ck_ix (by omega) ?_ | refine ck_rg (by omega) ?_ | refine ck_rl (by omega) ?_)
  exact m_in (fun q => ck_t1 (h1 (by omega))) (fun q => ck_t0 (h0 (by omega)))
theorem m_isMinute {N : Nat} {C : Int → aH → Prop} {h : aH} {s : Int} (h1 : 0 ≤ s ∧ s < 400 → C 1 h) (h0 : ¬ (0 ≤ s ∧ s < 400) → C 0 h) : WI N 256 0 [(0, .inl s)] h C :=
  w_256_0 (m_in (fun q => ck_t1 (h1 (by omega))) (fun q => ck_t0 (h0 (by omega))))
theorem m_isLoud {N : Nat} {C : Int → aH → Prop} {h : aH} {s : Int} (h1 : 1 ≤ s ∧ s ≤ 12 → C 1 h) (h0 : ¬ (1 ≤ s ∧ s ≤ 12) → C 0 h) : WI N 255 0 [(0, .inl s)] h C :=
  w_255_0 (m_in (fun q => ck_t1 (h1 q)) (fun q => ck_t0 (h0 q)))
/-- by 1 or 0 -/
theorem y1 {A B : Prop} (a : A) : (¬ (1 : Int) = 0 → A) ∧ (¬ ¬ (1 : Int) = 0 → B) := ⟨fun _ => a, fun z => absurd (by decide) z⟩
theorem y0 {A B : Prop} (b : B) : (¬ (0 : Int) = 0 → A) ∧ (¬ ¬ (0 : Int) = 0 → B) := ⟨fun z => absurd rfl z, fun _ => b⟩
theorem z1 {A B : Prop} (a : A) : ((1 : Int) = 0 → B) ∧ (¬ (1 : Int) = 0 → A) := ⟨fun z => absurd z (by decide), fun _ => a⟩
theorem z0 {A B : Prop} (b : B) : ((0 : Int) = 0 → B) ∧ (¬ (0 : Int) = 0 → A) := ⟨fun _ => b, fun z => absurd rfl z⟩
def vOf (h : aH) (s w : Int) : Int := if 0 ≤ s ∧ s < h 16 16 then (if w = 0 then h 63 s.toNat else if w = 1 then h 22 s.toNat else if w = 2 then h 23 s.toNat else if w = 3 then h 24 s.toNat else if w = 4 then h 25 s.toNat else if w = 5 then WOF h s else -1) else -1
theorem c_of {N : Nat} {C : Int → aH → Prop} {h : aH} {s w : Int} (P : PI h) (hC : C (vOf h s w) h) : WI N 75 0 [(0, .inr (.inr 9)), (1, .inl s), (2, .inl w)] h C := by
  have hz := P.1.1
  unfold okSz at hz
  unfold vOf at hC
  refine w_75_0 (c_isSleeper (fun hin => y1 ?_) (fun hout => y0 ?_))
  · rw [if_pos hin] at hC
    refine ⟨fun q => ?_, fun q => ⟨fun a0 => ?_, fun a0 => ⟨fun a1 => ?_, fun a1 => ⟨fun a2 => ?_, fun a2 => ⟨fun a3 => ?_, fun a3 => ⟨fun a4 => ?_, fun a4 => ⟨fun a5 => ?_, fun a5 => by omega⟩⟩⟩⟩⟩⟩⟩
    · rw [if_neg (by omega), if_neg (by omega), if_neg (by omega), if_neg (by omega), if_neg (by omega), if_neg (by omega)] at hC; exact hC
    · rw [if_pos a0] at hC; exact ck_ix (by omega) hC
    · rw [if_neg a0, if_pos a1] at hC; exact ck_ix (by omega) hC
    · rw [if_neg a0, if_neg a1, if_pos a2] at hC; exact ck_ix (by omega) hC
    · rw [if_neg a0, if_neg a1, if_neg a2, if_pos a3] at hC; exact ck_ix (by omega) hC
    · rw [if_neg a0, if_neg a1, if_neg a2, if_neg a3, if_pos a4] at hC; exact ck_ix (by omega) hC
    · rw [if_neg a0, if_neg a1, if_neg a2, if_neg a3, if_neg a4, if_pos a5] at hC; exact w_77_0 hC
  · rw [if_neg hout] at hC; exact hC
theorem m_of {N : Nat} {C : Int → aH → Prop} {h : aH} {s w : Int} (P : PI h) (R : RelH h) (Q : RelP h) (hC : C (vOf h s w) h) : WI N 248 0 [(0, .inr (.inr 130)), (1, .inl s), (2, .inl w)] h C := by
  have hz := P.1.1
  unfold okSz at hz
  have hL := R.1
  unfold vOf at hC
  refine w_248_0 (m_isSleeper P.1 R (fun hin => y1 ?_) (fun hout => y0 ?_))
  · rw [if_pos hin] at hC
    obtain ⟨n, rfl⟩ := Int.eq_ofNat_of_zero_le hin.1
    obtain ⟨e1, e2, e3, e4⟩ := R.2.2.2.2.1 n hin.2
    obtain ⟨e5, e6⟩ := Q.2.2 n hin.2
    have e7 := WOF_tf h n
    unfold Lv at e1 e2 e3 e4
    simp only [Int.toNat_natCast] at hC ⊢
    rw [show ((12 : Int) * h 130 18 + (n : Int)).toNat = 12 * (h 130 18).toNat + n by omega, e1, e2, e3, e4, e5, e6]
    (repeat first | refine ck_ix (by omega) ?_ | refine ck_rg (by omega) ?_ | refine ck_rl (by omega) ?_)
    refine ⟨fun q => ?_, fun q => ⟨fun a0 => ?_, fun a0 => ⟨fun a1 => ?_, fun a1 => ⟨fun a2 => ?_, fun a2 => ⟨fun a3 => ?_, fun a3 => ⟨fun a4 => ?_, fun a4 => ⟨fun a5 => ?_, fun a5 => by omega⟩⟩⟩⟩⟩⟩⟩
    · rw [if_neg (by omega), if_neg (by omega), if_neg (by omega), if_neg (by omega), if_neg (by omega), if_neg (by omega)] at hC; exact hC
    · rw [if_pos a0] at hC; exact ck_ix (by omega) hC
    · rw [if_neg a0, if_pos a1] at hC; exact ck_ix (by omega) hC
    · rw [if_neg a0, if_neg a1, if_pos a2] at hC; exact ck_ix (by omega) hC
    · rw [if_neg a0, if_neg a1, if_neg a2, if_pos a3] at hC; exact ck_ix (by omega) hC
    · rw [if_neg a0, if_neg a1, if_neg a2, if_neg a3, if_pos a4] at hC; exact ck_ix (by omega) hC
    · rw [if_neg a0, if_neg a1, if_neg a2, if_neg a3, if_neg a4, if_pos a5] at hC
      refine ck_ix (by omega) ⟨fun w0 => ?_, fun w1 => ?_⟩
      · rw [w0] at hC; exact hC
      · rw [e7.resolve_left w1] at hC; exact hC
  · rw [if_neg hout] at hC; exact hC
def vLies (h : aH) (b : Int) : Int := if 0 ≤ b ∧ b < h 16 14 then h 64 b.toNat else -1
theorem c_lies {N : Nat} {C : Int → aH → Prop} {h : aH} {b : Int} (P : PI h) (hC : C (vLies h b) h) : WI N 78 0 [(0, .inr (.inr 9)), (1, .inl b)] h C := by
  have hz := P.1.1
  unfold okSz at hz
  unfold vLies at hC
  refine w_78_0 (c_isBed (fun hin => z1 ?_) (fun hout => z0 ?_))
  · rw [if_pos hin] at hC; exact ck_ix (by omega) hC
  · rw [if_neg hout] at hC; exact hC
/-- the reference looks through who lies there: by any beds -/
def LIES (n : Nat) (bd : Nat → Int) (b : Int) : Nat → Int
  | 0 => -2
  | d + 1 => if bd (n - (d + 1)) = b then ((n - (d + 1) : Nat) : Int) else LIES n bd b d
theorem m_whl {N : Nat} {C : Int → aH → Prop} {h : aH} {b : Int} {n : Nat} {bd : Nat → Int} (H : HI h) (R : RelH h) (hn : (n : Int) = h 16 16) (hb : ∀ s, s < n → h 161 s = bd s) : ∀ (d : Nat), d ≤ n → C (LIES n bd b d) h → WI N 253 3 [(0, .inr (.inr 130)), (1, .inl b), (2, .inl ((n - d : Nat) : Int))] h C := by
  have hz := H.1
  unfold okSz at hz
  have hL := R.1
  have hS := R.2.1.2.2
  unfold Lv at hS
  intro d
  induction d with
  | zero =>
    intro _ hC
    refine w_253_3 ?_
    rw [hS]
    (repeat first | refine ck_ix (by omega) ?_ | refine ck_rg (by omega) ?_ | refine ck_rl (by omega) ?_)
    exact ⟨fun _ => hC, fun z => by omega⟩
  | succ d ih =>
    intro hd hC
    unfold LIES at hC
    refine w_253_3 ?_
    rw [hS]
    simp only [Int.toNat_natCast]
    rw [hb (n - (d + 1)) (by omega)]
    (repeat first | refine ck_ix (by omega) ?_ | refine ck_rg (by omega) ?_ | refine ck_rl (by omega) ?_)
    refine ⟨fun z => by omega, fun _ => ?_⟩
    (repeat first | refine ck_ix (by omega) ?_ | refine ck_rg (by omega) ?_ | refine ck_rl (by omega) ?_)
    refine ⟨fun hne => ?_, fun he => ?_⟩
    · rw [if_neg hne] at hC
      (repeat first | refine ck_ix (by omega) ?_ | refine ck_rg (by omega) ?_ | refine ck_rl (by omega) ?_)
      have := ih (by omega) hC
      rw [show (((n - d : Nat) : Int)) = ((n - (d + 1) : Nat) : Int) + 1 by omega] at this
      exact this
    · rw [if_pos (Decidable.not_not.mp he)] at hC
      exact hC
theorem m_whoLies {N : Nat} {C : Int → aH → Prop} {h : aH} {b : Int} {n : Nat} {bd : Nat → Int} (H : HI h) (R : RelH h) (hn : (n : Int) = h 16 16) (hb : ∀ s, s < n → h 161 s = bd s) (hC : C (LIES n bd b n) h) : WI N 253 0 [(0, .inr (.inr 130)), (1, .inl b)] h C := by
  refine w_253_0 ?_
  have := m_whl (N := N) H R hn hb n (Nat.le_refl _) hC
  rw [Nat.sub_self] at this
  exact this
theorem LIES_at {n : Nat} {bd : Nat → Int} {b : Int} : ∀ {d : Nat} {s : Nat}, d ≤ n → n - d ≤ s → s < n → bd s = b → (∀ i, i < n → bd i = b → i = s) → LIES n bd b d = s
  | 0, s, _, h1, h2, _, _ => by omega
  | d + 1, s, hd, h1, h2, hs, hu => by
    unfold LIES
    by_cases c : bd (n - (d + 1)) = b
    · rw [if_pos c, hu _ (by omega) c]
    · rw [if_neg c]
      refine LIES_at (by omega) ?_ h2 hs hu
      rcases Nat.eq_or_lt_of_le h1 with e | e
      · exact absurd (by rw [e]; exact hs) c
      · omega
theorem LIES_no {n : Nat} {bd : Nat → Int} {b : Int} (hu : ∀ i, i < n → bd i ≠ b) : ∀ {d : Nat}, d ≤ n → LIES n bd b d = -2
  | 0, _ => rfl
  | d + 1, hd => by
    unfold LIES
    rw [if_neg (hu _ (by omega))]
    exact LIES_no hu (by omega)
theorem LIES_in {h : aH} (hz : okSz h) (hl : okLie h) {b : Nat} (hb : (b : Int) < h 16 14) {n : Nat} (hn : (n : Int) = h 16 16) : LIES n (h 63) b n = h 64 b := by
  obtain ⟨l1, l2⟩ := hl
  rcases l2 b hb with e | ⟨e1, e2, e3⟩
  · rw [e]
    refine LIES_no (fun i hi hh => ?_) (Nat.le_refl _)
    have := (l1 i (by omega)).2.2
    rw [hh] at this
    simp only [Int.toNat_natCast] at this
    omega
  · have := LIES_at (n := n) (bd := h 63) (b := b) (d := n) (s := (h 64 b).toNat) (Nat.le_refl _) (by omega) (by omega) e3 (fun i hi hh => ?_)
    · rw [this]; omega
    · have := (l1 i (by omega)).2.2
      rw [hh] at this
      simp only [Int.toNat_natCast] at this
      omega
theorem m_lies {N : Nat} {C : Int → aH → Prop} {h : aH} {b : Int} (P : PI h) (R : RelH h) (Q : RelP h) (hC : C (vLies h b) h) : WI N 251 0 [(0, .inr (.inr 130)), (1, .inl b)] h C := by
  have hz := P.1.1
  have hz' := hz
  unfold okSz at hz
  unfold vLies at hC
  refine w_251_0 (m_isBed P.1 R (fun hin => z1 ?_) (fun hout => z0 ?_))
  · rw [if_pos hin] at hC
    obtain ⟨n, rfl⟩ := Int.eq_ofNat_of_zero_le hin.1
    simp only [Int.toNat_natCast] at hC
    refine m_whoLies (n := (h 16 16).toNat) (bd := h 63) P.1 R (by omega) (fun s hs => (Q.2.2 s (by omega)).1) ?_
    rw [LIES_in hz' P.2.1 hin.2 (by omega)]
    exact hC
  · rw [if_neg hout] at hC; exact hC
def vHears (h : aH) (s l b m : Int) : Int := if (0 ≤ s ∧ s < h 16 16) ∧ (1 ≤ l ∧ l ≤ 12) ∧ (0 ≤ b ∧ b < h 16 14) ∧ (0 ≤ m ∧ m < 400) then HEAR h s (h 63 s.toNat) (WOF h s) l b m else -1
theorem c_hears {N : Nat} {C : Int → aH → Prop} {h : aH} {s l b m : Int} (P : PI h) (hs : scr h) (hC : ∀ h', Fr [28, 31] [] h h' → scr h' → C (vHears h s l b m) h') : WI N 80 0 [(0, .inr (.inr 9)), (1, .inl s), (2, .inl l), (3, .inl b), (4, .inl m)] h C := by
  have hz := P.1.1
  unfold okSz at hz
  have no : ¬ ((0 ≤ s ∧ s < h 16 16) ∧ (1 ≤ l ∧ l ≤ 12) ∧ (0 ≤ b ∧ b < h 16 14) ∧ (0 ≤ m ∧ m < 400)) → C (-1) h := fun z => by
    have := hC h Fr.rfl hs
    unfold vHears at this
    rw [if_neg z] at this
    exact this
  refine w_80_0 (c_isSleeper (fun q1 => z1 (c_isLoud (fun q2 => z1 (c_isBed (fun q3 => z1 (c_isMinute (fun q4 => y1 ?_) (fun q => y0 (no (by omega))))) (fun q => z0 (no (by omega))))) (fun q => z0 (no (by omega))))) (fun q => z0 (no (by omega))))
  have hl := P.2.1.1 s.toNat (by omega)
  refine ck_ix (by omega) (w_77_0 (c_hearing P.1 hs.2 q1 ⟨hl.1, hl.2.1⟩ q3 (fun h' hf h6 => ?_)))
  have := hC h' hf ⟨hf.dz (by decide) (by decide) (by decide) hs.1, h6⟩
  unfold vHears at this
  rw [if_pos ⟨q1, q2, q3, q4⟩] at this
  exact this
theorem m_hears {N : Nat} {C : Int → aH → Prop} {h : aH} {s l b m : Int} (P : PI h) (R : RelH h) (Q : RelP h) (hC : ∀ h', Fr [159, 160] [] h h' → C (vHears h s l b m) h') : WI N 254 0 [(0, .inr (.inr 130)), (1, .inl s), (2, .inl l), (3, .inl b), (4, .inl m)] h C := by
  have no : ¬ ((0 ≤ s ∧ s < h 16 16) ∧ (1 ≤ l ∧ l ≤ 12) ∧ (0 ≤ b ∧ b < h 16 14) ∧ (0 ≤ m ∧ m < 400)) → C (-1) h := fun z => by
    have := hC h Fr.rfl
    unfold vHears at this
    rw [if_neg z] at this
    exact this
  refine w_254_0 (m_isSleeper P.1 R (fun q1 => z1 (m_isLoud (fun q2 => z1 (m_isBed P.1 R (fun q3 => z1 (m_isMinute (fun q4 => z1 ?_) (fun q => z0 (no (by omega))))) (fun q => z0 (no (by omega))))) (fun q => z0 (no (by omega))))) (fun q => z0 (no (by omega))))
  have hl := P.2.1.1 s.toNat (by omega)
  obtain ⟨e1, e2⟩ := Q.2.2 s.toNat (by omega)
  rw [show ((s.toNat : Nat) : Int) = s by omega] at e2
  have e3 := WOF_tf h s
  refine m_hearing P.1 R q1 (by rw [e1]; exact ⟨hl.1, hl.2.1⟩) (by rw [e2]; exact e3) q3 (by omega) (fun h' hf => ?_)
  rw [e1, e2]
  have := hC h' hf
  unfold vHears at this
  rw [if_pos ⟨q1, q2, q3, q4⟩] at this
  exact this
def vAgain (h : aH) (s a : Int) : Int := if (0 ≤ s ∧ s < h 16 16) ∧ (0 ≤ a ∧ a < 400) then AGN h s a else -1
theorem c_again {N : Nat} {C : Int → aH → Prop} {h : aH} {s a : Int} (P : PI h) (hs : scr h) (hC : ∀ h', Fr [34, 96, 97] [] h h' → scr h' → C (vAgain h s a) h') : WI N 87 0 [(0, .inr (.inr 9)), (1, .inl s), (2, .inl a)] h C := by
  have no : ¬ ((0 ≤ s ∧ s < h 16 16) ∧ (0 ≤ a ∧ a < 400)) → C (-1) h := fun z => by
    have := hC h Fr.rfl hs
    unfold vAgain at this
    rw [if_neg z] at this
    exact this
  refine w_87_0 (c_isSleeper (fun q1 => z1 (c_isMinute (fun q2 => y1 ?_) (fun q => y0 (no (by omega))))) (fun q => z0 (no (by omega))))
  refine c_asleepAgain P.1 hs.1 q1 q2 (fun h' hf hd => ?_)
  have := hC h' hf ⟨hd, by rw [hf.at 28 (by decide) (by decide)]; exact hs.2⟩
  unfold vAgain at this
  rw [if_pos ⟨q1, q2⟩] at this
  exact this
theorem m_again {N : Nat} {C : Int → aH → Prop} {h : aH} {s a : Int} (P : PI h) (R : RelH h) (hC : ∀ h', Fr [159, 160] [] h h' → C (vAgain h s a) h') : WI N 263 0 [(0, .inr (.inr 130)), (1, .inl s), (2, .inl a)] h C := by
  have no : ¬ ((0 ≤ s ∧ s < h 16 16) ∧ (0 ≤ a ∧ a < 400)) → C (-1) h := fun z => by
    have := hC h Fr.rfl
    unfold vAgain at this
    rw [if_neg z] at this
    exact this
  refine w_263_0 (m_isSleeper P.1 R (fun q1 => z1 (m_isMinute (fun q2 => z1 ?_) (fun q => z0 (no (by omega))))) (fun q => z0 (no (by omega))))
  refine m_asleepAgain P.1 R q1 (fun h' hf => ?_)
  have := hC h' hf
  unfold vAgain at this
  rw [if_pos ⟨q1, q2⟩] at this
  exact this
def vSound (h : aH) (k w : Int) : Int := if 0 ≤ k ∧ k < h 58 10 then (if w = 0 then h 59 k.toNat else if w = 1 then h 60 k.toNat else if w = 2 then h 61 k.toNat else if w = 3 then (if h 59 k.toNat = 1 then h 63 (h 62 k.toNat).toNat else h 62 k.toNat) else -1) else -1
theorem c_sound {N : Nat} {C : Int → aH → Prop} {h : aH} {k w : Int} (P : PI h) (hC : C (vSound h k w) h) : WI N 99 0 [(0, .inr (.inr 9)), (1, .inl k), (2, .inl w)] h C := by
  have hz := P.1.1
  unfold okSz at hz
  obtain ⟨h0, h8, hS⟩ := P.2.2.1
  unfold vSound at hC
  refine w_99_0 (c_isSound (fun hin => y1 ?_) (fun hout => y0 ?_))
  · rw [if_pos hin] at hC
    refine ⟨fun q => ?_, fun q => ⟨fun a0 => ?_, fun a0 => ⟨fun a1 => ?_, fun a1 => ⟨fun a2 => ?_, fun a2 => ⟨fun a3 => ?_, fun a3 => by omega⟩⟩⟩⟩⟩
    · rw [if_neg (by omega), if_neg (by omega), if_neg (by omega), if_neg (by omega)] at hC; exact hC
    · rw [if_pos a0] at hC; exact ck_ix (by omega) hC
    · rw [if_neg a0, if_pos a1] at hC; exact ck_ix (by omega) hC
    · rw [if_neg a0, if_neg a1, if_pos a2] at hC; exact ck_ix (by omega) hC
    · rw [if_neg a0, if_neg a1, if_neg a2, if_pos a3] at hC
      have hk := hS k.toNat (by omega)
      refine w_100_0 (ck_ix (by omega) ⟨fun c => ?_, fun c => ?_⟩)
      · rw [if_neg c] at hC; exact ck_ix (by omega) hC
      · have c := Decidable.not_not.mp c
        rw [if_pos c] at hC
        have := hk.2.2.2.1 c
        exact ck_ix (by omega) (ck_ix (by omega) hC)
  · rw [if_neg hout] at hC; exact hC
theorem m_sound {N : Nat} {C : Int → aH → Prop} {h : aH} {k w : Int} (P : PI h) (Q : RelP h) (hC : C (vSound h k w) h) : WI N 274 0 [(0, .inr (.inr 130)), (1, .inl k), (2, .inl w)] h C := by
  have hz := P.1.1
  unfold okSz at hz
  obtain ⟨h0, h8, hS⟩ := P.2.2.1
  unfold vSound at hC
  refine w_274_0 ?_
  rw [Q.1]
  (repeat first | refine ck_ix (by omega) ?_ | refine ck_rg (by omega) ?_ | refine ck_rl (by omega) ?_)
  refine m_in (fun hin => y1 ?_) (fun hout => y0 ?_)
  · rw [if_pos (by omega)] at hC
    obtain ⟨n, rfl⟩ := Int.eq_ofNat_of_zero_le hin.1
    obtain ⟨e1, e2, e3, e4⟩ := Q.2.1 n (by omega)
    have hk := hS n (by omega)
    simp only [Int.toNat_natCast] at hC ⊢
    rw [e1, e2, e3, e4]
    refine ⟨fun q => ?_, fun q => ⟨fun a0 => ?_, fun a0 => ⟨fun a1 => ?_, fun a1 => ⟨fun a2 => ?_, fun a2 => ⟨fun a3 => ?_, fun a3 => by omega⟩⟩⟩⟩⟩
    · rw [if_neg (by omega), if_neg (by omega), if_neg (by omega), if_neg (by omega)] at hC; exact hC
    · rw [if_pos a0] at hC; exact ck_ix (by omega) hC
    · rw [if_neg a0, if_pos a1] at hC; exact ck_ix (by omega) hC
    · rw [if_neg a0, if_neg a1, if_pos a2] at hC; exact ck_ix (by omega) hC
    · rw [if_neg a0, if_neg a1, if_neg a2, if_pos a3] at hC
      refine ck_ix (by omega) ⟨fun c => ?_, fun c => ?_⟩
      · rw [if_neg c] at hC; exact ck_ix (by omega) hC
      · have c := Decidable.not_not.mp c
        rw [if_pos c] at hC
        have hw := hk.2.2.2.1 c
        rw [(Q.2.2 (h 62 n).toNat (by omega)).1]
        exact ck_ix (by omega) (ck_ix (by omega) hC)
  · rw [if_neg (by omega)] at hC; exact hC
theorem c_ways {N : Nat} {C : Int → aH → Prop} {h : aH} (P : PI h) (hC : C (100 ^ (h 58 10).toNat) h) : WL N 104 0 [(0, .inr (.inr 9))] h C := by
  obtain ⟨h0, h8, -⟩ := P.2.2.1
  refine w_104_0 (ck_ix (by omega) ?_)
  rw [P.2.2.2.2 (h 58 10).toNat (by omega)]
  exact hC
def WALKF (h : aH) (a b : Int) : Int := 1 + gapF h a b + 3 * flrF h a b
def vWalk (h : aH) (s o : Int) : Int := if (0 ≤ s ∧ s < h 16 16) ∧ (0 ≤ o ∧ o < h 16 16) then WALKF h (h 63 s.toNat) (h 63 o.toNat) else -1
theorem c_walking {N : Nat} {C : Int → aH → Prop} {h : aH} {a b : Int} (H : HI h) (ha : 0 ≤ a ∧ a < h 16 14) (hb : 0 ≤ b ∧ b < h 16 14) (hC : C (WALKF h a b) h) : WI N 142 0 [(0, .inr (.inr 16)), (1, .inl a), (2, .inl b)] h C := by
  have hz := H.1
  unfold okSz at hz
  have g1 := gapF_rg H ha hb
  have g2 := flrF_rg H ha hb
  have h1 := H.2.1 a.toNat (by omega)
  have h2 := H.2.1 b.toNat (by omega)
  refine w_142_0 (c_apart H ha hb ?_)
  unfold WALKF at hC
  unfold flrF at hC g2
  (repeat first | refine ck_ix (by omega) ?_ | refine ck_rg (by omega) ?_ | refine ck_rl (by omega) ?_)
  exact hC
theorem c_walk {N : Nat} {C : Int → aH → Prop} {h : aH} {s o : Int} (P : PI h) (hC : C (vWalk h s o) h) : WI N 141 0 [(0, .inr (.inr 9)), (1, .inl s), (2, .inl o)] h C := by
  have hz := P.1.1
  unfold okSz at hz
  have no : ¬ ((0 ≤ s ∧ s < h 16 16) ∧ (0 ≤ o ∧ o < h 16 16)) → C (-1) h := fun z => by
    unfold vWalk at hC
    rw [if_neg z] at hC
    exact hC
  refine w_141_0 (c_isSleeper (fun q1 => z1 (c_isSleeper (fun q2 => y1 ?_) (fun q => y0 (no (by omega))))) (fun q => z0 (no (by omega))))
  have l1 := P.2.1.1 s.toNat (by omega)
  have l2 := P.2.1.1 o.toNat (by omega)
  unfold vWalk at hC
  rw [if_pos ⟨q1, q2⟩] at hC
  (repeat first | refine ck_ix (by omega) ?_ | refine ck_rg (by omega) ?_ | refine ck_rl (by omega) ?_)
  exact c_walking P.1 ⟨l1.1, l1.2.1⟩ ⟨l2.1, l2.2.1⟩ hC
theorem m_walkOf {N : Nat} {C : Int → aH → Prop} {h : aH} {s o : Int} (H : HI h) (R : RelH h) (hs : 0 ≤ s ∧ s < h 16 16) (ho : 0 ≤ o ∧ o < h 16 16) (l1 : 0 ≤ h 161 s.toNat ∧ h 161 s.toNat < h 16 14) (l2 : 0 ≤ h 161 o.toNat ∧ h 161 o.toNat < h 16 14) (hC : C (WALKF h (h 161 o.toNat) (h 161 s.toNat)) h) : WI N 304 0 [(0, .inr (.inr 130)), (1, .inl s), (2, .inl o)] h C := by
  have hz := H.1
  unfold okSz at hz
  have g1 := gapF_rg H l2 l1
  have g2 := flrF_rg H l2 l1
  refine w_304_0 ?_
  (repeat first | refine ck_ix (by omega) ?_ | refine ck_rg (by omega) ?_ | refine ck_rl (by omega) ?_)
  refine m_gapOf H R l1 l2 ?_
  (repeat first | refine ck_ix (by omega) ?_ | refine ck_rg (by omega) ?_ | refine ck_rl (by omega) ?_)
  refine m_floorsOf H R l1 l2 ?_
  unfold WALKF at hC
  (repeat first | refine ck_ix (by omega) ?_ | refine ck_rg (by omega) ?_ | refine ck_rl (by omega) ?_)
  exact hC
theorem WALKF_comm (h : aH) (a b : Int) : WALKF h a b = WALKF h b a := by
  unfold WALKF gapF flrF
  omega
theorem m_walk {N : Nat} {C : Int → aH → Prop} {h : aH} {s o : Int} (P : PI h) (R : RelH h) (Q : RelP h) (hC : C (vWalk h s o) h) : WI N 303 0 [(0, .inr (.inr 130)), (1, .inl s), (2, .inl o)] h C := by
  have no : ¬ ((0 ≤ s ∧ s < h 16 16) ∧ (0 ≤ o ∧ o < h 16 16)) → C (-1) h := fun z => by
    unfold vWalk at hC
    rw [if_neg z] at hC
    exact hC
  refine w_303_0 (m_isSleeper P.1 R (fun q1 => z1 (m_isSleeper P.1 R (fun q2 => z1 ?_) (fun q => z0 (no (by omega))))) (fun q => z0 (no (by omega))))
  have l1 := P.2.1.1 s.toNat (by omega)
  have l2 := P.2.1.1 o.toNat (by omega)
  have e1 := (Q.2.2 s.toNat (by omega)).1
  have e2 := (Q.2.2 o.toNat (by omega)).1
  unfold vWalk at hC
  rw [if_pos ⟨q1, q2⟩, WALKF_comm] at hC
  refine m_walkOf P.1 R q1 q2 (by rw [e1]; exact ⟨l1.1, l1.2.1⟩) (by rw [e2]; exact ⟨l2.1, l2.2.1⟩) ?_
  rw [e1, e2]
  exact hC
