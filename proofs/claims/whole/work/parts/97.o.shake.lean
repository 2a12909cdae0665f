/-! SHAKES: the class's prices -/
def okNin (h : aH) : Prop := ∀ r : Nat, r < 8 → h 3 r = ((9 ^ (7 - r) : Nat) : Int)
def WKE (h : aH) (a b : Nat) : Int := WALKF h (h 63 (EI h a)) (h 63 (EI h b))
def CAN (h : aH) (a b : Nat) : Prop := a ≠ b ∧ HRR h a + WKE h a b ≤ HRR h b
def PRC (h : aH) (c r s : Nat) : Int := if NE h ≤ s / c then 8 * ((9 ^ (7 - r) : Nat) : Int) else if s / c ≠ r ∧ HRR h (s / c) + WKE h (s / c) r ≤ HRR h r then ((s / c : Nat) : Int) * ((9 ^ (7 - r) : Nat) : Int) - 6586148313 + 43046721 * WKE h (s / c) r else 6586148313000
theorem nin_le (r : Nat) : 1 ≤ 9 ^ (7 - r) ∧ 9 ^ (7 - r) ≤ 4782969 := ⟨Nat.pow_pos (by decide), Nat.le_trans (Nat.pow_le_pow_right (by decide) (show 7 - r ≤ 7 by omega)) (by decide)⟩
theorem WKE_rg {h : aH} (P : PI h) {a b : Nat} (ha : a < NE h) (hb : b < NE h) : 1 ≤ WKE h a b ∧ WKE h a b ≤ 19 := by
  have hz := P.1.1
  unfold okSz at hz
  obtain ⟨a1, _⟩ := EI_ok P ha
  obtain ⟨b1, _⟩ := EI_ok P hb
  have la := P.2.1.1 (EI h a) (by unfold NSL at a1; omega)
  have lb := P.2.1.1 (EI h b) (by unfold NSL at b1; omega)
  have g1 := gapF_rg P.1 ⟨la.1, la.2.1⟩ ⟨lb.1, lb.2.1⟩
  have g2 := flrF_rg P.1 ⟨la.1, la.2.1⟩ ⟨lb.1, lb.2.1⟩
  unfold WKE WALKF
  omega
/-- what matching may change -/
def FSH (h h1 : aH) : Prop := Fr [113, 114, 115, 116, 117, 118, 119, 120] [] h h1
theorem c_walkOf {N : Nat} {C : Int → aH → Prop} {h h1 : aH} {a b : Nat} (P : PI h) (f : FSH h h1) (ha : a < NE h) (hb : b < NE h) (hC : C (WKE h a b) h1) : WI N 147 0 [(0, .inr (.inr 113)), (1, .inl (EI h a : Int)), (2, .inl (EI h b : Int))] h1 C := by
  have hz := P.1.1
  unfold okSz at hz
  have kp : Kp h h1 := Fr.kp f (by decide)
  obtain ⟨a1, _⟩ := EI_ok P ha
  obtain ⟨b1, _⟩ := EI_ok P hb
  have n12 : NSL h ≤ 12 := by unfold NSL; omega
  have la := P.2.1.1 (EI h a) (by unfold NSL at a1; omega)
  have lb := P.2.1.1 (EI h b) (by unfold NSL at b1; omega)
  refine w_147_0 (ck_ix (by omega) (ck_ix (by omega) ?_))
  rw [Int.toNat_natCast, Int.toNat_natCast, kp.at 63 (by decide)]
  have P1 := kp.pi P
  refine c_walking P1.1 (by rw [kp.at 16 (by decide)]; exact ⟨la.1, la.2.1⟩) (by rw [kp.at 16 (by decide)]; exact ⟨lb.1, lb.2.1⟩) ?_
  have e : WALKF h1 (h 63 (EI h a)) (h 63 (EI h b)) = WKE h a b := by
    unfold WKE WALKF gapF flrF
    rw [kp.at 17 (by decide), kp.at 18 (by decide)]
  rw [e]
  exact hC
theorem c_canShake {N : Nat} {C : Int → aH → Prop} {h h1 : aH} {a b : Nat} (P : PI h) (O : okEight h) (f : FSH h h1) (ha : a < NE h) (hb : b < NE h) (y : CAN h a b → C 1 h1) (n : ¬ CAN h a b → C 0 h1) : WI N 146 0 [(0, .inr (.inr 113)), (1, .inl (a : Int)), (2, .inl (b : Int))] h1 C := by
  have hz := P.1.1
  unfold okSz at hz
  have n8 := NE_le h
  have kp : Kp h h1 := Fr.kp f (by decide)
  obtain ⟨a1, ah⟩ := EI_ok P ha
  obtain ⟨b1, bh⟩ := EI_ok P hb
  have n12 : NSL h ≤ 12 := by unfold NSL; omega
  have w := WKE_rg P ha hb
  refine w_146_0 ?_
  simp only [Int.toNat_natCast]
  rw [kp.at 27 (by decide), O.2 a ha, O.2 b hb]
  simp only [Int.toNat_natCast]
  refine ck_ix (by omega) (ck_ix (by omega) ⟨fun e => ck_t0 (n (fun z => z.1 (by omega))), fun e => ck_ix (by omega) (c_walkOf P f ha hb ?_)⟩)
  rw [kp.at 23 (by decide)]
  have e1 : h 23 (EI h a) = HRR h a := rfl
  have e2 : h 23 (EI h b) = HRR h b := rfl
  rw [e1] at ah ⊢
  rw [e2]
  exact ck_rg (by omega) (ck_ix (by omega) ⟨fun lt => ck_t0 (n (fun z => by have := z.2; omega)), fun ge => ck_t1 (y ⟨fun z => e (by rw [z]), by omega⟩)⟩)
theorem PRC_no {h : aH} {c r s : Nat} (k : NE h ≤ s / c) : PRC h c r s = 8 * ((9 ^ (7 - r) : Nat) : Int) := if_pos k
theorem PRC_can {h : aH} {c r s : Nat} (k : ¬ NE h ≤ s / c) (y : CAN h (s / c) r) : PRC h c r s = ((s / c : Nat) : Int) * ((9 ^ (7 - r) : Nat) : Int) - 6586148313 + 43046721 * WKE h (s / c) r := by
  unfold PRC
  rw [if_neg k]
  exact if_pos y
theorem PRC_not {h : aH} {c r s : Nat} (k : ¬ NE h ≤ s / c) (y : ¬ CAN h (s / c) r) : PRC h c r s = 6586148313000 := by
  unfold PRC
  rw [if_neg k]
  exact if_neg y
theorem PRC_rg {h : aH} (P : PI h) {c r s : Nat} (hr : r < NE h) : -6586148313 ≤ PRC h c r s ∧ PRC h c r s ≤ 6586148313000 := by
  have n8 := NE_le h
  have n9 := nin_le r
  by_cases k : NE h ≤ s / c
  · rw [PRC_no k]; omega
  · by_cases y : CAN h (s / c) r
    · rw [PRC_can k y]
      have w := WKE_rg P (show s / c < NE h by omega) hr
      have m1 : 0 ≤ ((s / c : Nat) : Int) * ((9 ^ (7 - r) : Nat) : Int) := Int.mul_nonneg (Int.natCast_nonneg _) (Int.natCast_nonneg _)
      have m2 : (s / c) * 9 ^ (7 - r) ≤ 8 * 4782969 := Nat.mul_le_mul (by omega) n9.2
      have m3 : ((s / c : Nat) : Int) * ((9 ^ (7 - r) : Nat) : Int) = (((s / c) * 9 ^ (7 - r) : Nat) : Int) := (Int.natCast_mul _ _).symm
      rw [m3] at m1 ⊢
      omega
    · rw [PRC_not k y]; omega
/-- each shaker has c sides -/
theorem c_shakerAt {N : Nat} {C : Int → aH → Prop} {h1 : aH} {c s : Nat} (hc : 1 ≤ c ∧ c ≤ 2) (hs : s < 100) (hC : C ((s / c : Nat) : Int) h1) : WI N 352 0 [(0, .inl (s : Int)), (1, .inl (c : Int))] h1 C := by
  refine w_352_0 ⟨fun z => ?_, fun z => ⟨by decide, ?_⟩⟩
  · have e : c = 1 := by omega
    rw [show s / c = s by rw [e, Nat.div_one]] at hC
    exact hC
  · have e : c = 2 := by omega
    subst e
    have w : w32 ((s : Int).tdiv 2) = ((s / 2 : Nat) : Int) := by
      show w32 (((s / 2 : Nat)) : Int) = _
      exact w32s (Nat.lt_of_le_of_lt (Nat.div_le_self s 2) (by omega))
    rw [w]
    exact hC
theorem c_sp13 {N : Nat} {C : aH → Prop} {h : aH} {c r : Nat} (P : PI h) (O : okEight h) (V : okNin h) (hc : 1 ≤ c ∧ c ≤ 2) (hr : r < NE h) (hC : ∀ h', FSH h h' → h' 113 10 = ((NE h * c + NE h : Nat) : Int) → (∀ q s, (q < r + 1 → s < NE h * c + NE h → h' 115 (q * 24 + s) = PRC h c q s)) → WV N 145 7 [(0, .inr (.inr 113)), (1, .inl (c : Int)), (2, .inl (NE h : Int)), (3, .inl ((r : Int) + 1))] h' C) : ∀ (d x : Nat) (h1 : aH), d = NE h * c + NE h - x → x ≤ NE h * c + NE h → FSH h h1 → h1 113 10 = ((NE h * c + NE h : Nat) : Int) → (∀ q s, q < r ∨ q = r ∧ s < x → s < NE h * c + NE h → h1 115 (q * 24 + s) = PRC h c q s) →
    WV N 145 13 [(0, .inr (.inr 113)), (1, .inl (c : Int)), (2, .inl (NE h : Int)), (3, .inl (r : Int)), (4, .inl (x : Int))] h1 C := by
  have n8 := NE_le h
  have n9 := nin_le r
  have b24 : NE h * c + NE h ≤ 24 := by have := Nat.mul_le_mul n8 hc.2; omega
  intro d
  induction d with
  | zero =>
    intro x h1 hd hx f ks q1
    refine w_145_13 ?_
    rw [ks]
    exact ⟨fun _ => ck_rg (by omega) (hC h1 f ks (fun q s hq hs => q1 q s (by omega) hs)), fun z => absurd (by omega) z⟩
  | succ d ih =>
    intro x h1 hd hx f ks q1
    have e3 : h1 3 r = ((9 ^ (7 - r) : Nat) : Int) := by rw [f.at 3 (by decide) (by decide)]; exact V r (by omega)
    have up : ∀ h2 v, FSH h h2 → h2 113 10 = ((NE h * c + NE h : Nat) : Int) → h2 115 = h1 115 → v = PRC h c r x → WV N 145 13 [(0, .inr (.inr 113)), (1, .inl (c : Int)), (2, .inl (NE h : Int)), (3, .inl (r : Int)), (4, .inl ((x : Int) + 1))] (am_up h2 115 (r * 24 + x) v) C := by
      intro h2 v f2 k2 kp2 ev
      refine ih (x + 1) _ (by omega) (by omega) (f2.up (by decide) (by decide)) (by rw [up_row (by decide)]; exact k2) (fun q s o hs => ?_)
      rw [up_in]
      by_cases z : q * 24 + s = r * 24 + x
      · have e1 : q = r := by omega
        have e2 : s = x := by omega
        rw [if_pos z, ev, e1, e2]
      · rw [if_neg z, kp2]
        exact q1 q s (by omega) hs
    refine w_145_13 ?_
    rw [ks, show ((r : Int) * 24 + (x : Int)).toNat = r * 24 + x by omega]
    refine ⟨fun z => by omega, fun _ => c_shakerAt hc (by omega) ?_⟩
    rw [Int.toNat_natCast, e3]
    refine ck_ix (by omega) ?_
    have rl : ∀ {z : Int} {A : Prop}, -9000000000000 ≤ z ∧ z ≤ 9000000000000 → A → am_rl z ∧ A := fun hz a => ⟨⟨by omega, by omega⟩, a⟩
    refine rl (by omega) ⟨fun no => ?_, fun yes => ?_⟩
    · have := up h1 _ f ks rfl (PRC_no (c := c) (r := r) (s := x) (by omega)).symm
      (repeat first | refine ck_ix (by omega) ?_ | refine ck_rg (by omega) ?_ | refine ck_rl (by omega) ?_)
      exact this
    · have k : ¬ NE h ≤ x / c := by omega
      refine c_canShake P O f (show x / c < NE h by omega) hr (fun can => y1 ?_) (fun no => y0 ?_)
      · have kp : Kp h h1 := Fr.kp f (by decide)
        have wk := WKE_rg P (show x / c < NE h by omega) hr
        have m1 : 0 ≤ ((x / c : Nat) : Int) * ((9 ^ (7 - r) : Nat) : Int) := Int.mul_nonneg (Int.natCast_nonneg _) (Int.natCast_nonneg _)
        have m2 : (x / c) * 9 ^ (7 - r) ≤ 8 * 4782969 := Nat.mul_le_mul (by omega) n9.2
        have m3 : ((x / c : Nat) : Int) * ((9 ^ (7 - r) : Nat) : Int) = (((x / c) * 9 ^ (7 - r) : Nat) : Int) := (Int.natCast_mul _ _).symm
        have ep := PRC_can (c := c) k can
        rw [e3, kp.at 27 (by decide)]
        simp only [Int.toNat_natCast]
        rw [O.2 _ (show x / c < NE h by omega), O.2 r hr]
        refine ck_ix (by omega) ?_
        refine rl (by rw [m3]; omega) (rl (by rw [m3]; omega) (ck_ix ⟨Int.natCast_nonneg _, Int.ofNat_lt.mpr (Nat.lt_of_lt_of_le (Nat.not_le.mp k) n8)⟩ (ck_ix (by omega) (c_walkOf P f (show x / c < NE h from Nat.not_le.mp k) hr ?_))))
        refine rl (by omega) (rl (by rw [m3]; omega) ?_)
        have := up h1 _ f ks rfl ep.symm
        (repeat first | refine ck_ix (by omega) ?_ | refine ck_rg (by omega) ?_ | refine ck_rl (by omega) ?_)
        exact this
      · have := up h1 _ f ks rfl (PRC_not (c := c) k no).symm
        (repeat first | refine ck_ix (by omega) ?_ | refine ck_rg (by omega) ?_ | refine ck_rl (by omega) ?_)
        exact this
theorem c_sp7 {N : Nat} {C : aH → Prop} {h : aH} {c : Nat} (P : PI h) (O : okEight h) (V : okNin h) (hc : 1 ≤ c ∧ c ≤ 2) (hC : ∀ h', FSH h h' → h' 113 10 = ((NE h * c + NE h : Nat) : Int) → (∀ q s, q < NE h → s < NE h * c + NE h → h' 115 (q * 24 + s) = PRC h c q s) → C h') : ∀ (d r : Nat) (h1 : aH), d = NE h - r → r ≤ NE h → FSH h h1 → h1 113 10 = ((NE h * c + NE h : Nat) : Int) → (∀ q s, q < r → s < NE h * c + NE h → h1 115 (q * 24 + s) = PRC h c q s) →
    WV N 145 7 [(0, .inr (.inr 113)), (1, .inl (c : Int)), (2, .inl (NE h : Int)), (3, .inl (r : Int))] h1 C := by
  intro d
  induction d with
  | zero =>
    intro r h1 hd hr f ks q1
    have : r = NE h := by omega
    subst this
    exact w_145_7 ⟨fun _ => hC h1 f ks q1, fun z => absurd (Int.le_refl _) z⟩
  | succ d ih =>
    intro r h1 hd hr f ks q1
    exact w_145_7 ⟨fun z => by omega, fun _ => c_sp13 P O V hc (by omega) (fun h' f' k' q' => ih (r + 1) h' (by omega) (by omega) f' k' q') _ 0 h1 rfl (Nat.zero_le _) f ks (fun q s o hs => q1 q s (by omega) hs)⟩
