/-! THE ROUND: the class's, the way there -/
def okEight (h : aH) : Prop := h 16 18 = (NE h : Int) ∧ ∀ j, j < NE h → h 27 j = (EI h j : Int)
def FOR (h h1 : aH) : Prop := Fr [121, 122, 123, 124, 125] [] h h1
def RCX (h : aH) (e : Int) (h1 : aH) : Prop := FOR h h1 ∧ h1 121 7 = e ∧ h1 121 6 = ((2 ^ NE h - 1 : Nat) : Int) ∧ ∀ j, j < NE h → h1 123 j = SPT h j
theorem RCX.mv {h h1 h2 : aH} {e : Int} (R : RCX h e h1) (f : Fr [122, 124, 125] [] h1 h2) : RCX h e h2 := by
  obtain ⟨a, b, c, d⟩ := R
  refine ⟨Fr.trans a (f.mono (by decide) (by decide)), ?_, ?_, ?_⟩
  · rw [f.at 121 (by decide) (by decide)]; exact b
  · rw [f.at 121 (by decide) (by decide)]; exact c
  · rw [f.at 123 (by decide) (by decide)]; exact d
theorem c_hourOf {N : Nat} {C : Int → aH → Prop} {h h1 : aH} {i : Nat} (P : PI h) (O : okEight h) (f : FOR h h1) (hi : i < NE h) (hC : C (HRR h i) h1) : WI N 178 0 [(0, .inr (.inr 121)), (1, .inl (i : Int))] h1 C := by
  have hz := P.1.1
  unfold okSz at hz
  have n8 := NE_le h
  have kp : Kp h h1 := Fr.kp f (by decide)
  obtain ⟨a, _⟩ := EI_ok P hi
  have n12 : NSL h ≤ 12 := by unfold NSL; omega
  refine w_178_0 ?_
  rw [Int.toNat_natCast, kp.at 27 (by decide), O.2 i hi, Int.toNat_natCast, kp.at 23 (by decide)]
  exact ck_ix (by omega) (ck_ix (by omega) hC)
theorem c_knock {N : Nat} {C : Int → aH → Prop} {h h1 : aH} {i : Nat} {e a : Int} (P : PI h) (O : okEight h) (he : 0 ≤ e ∧ e ≤ 60) (f : FOR h h1) (ee : h1 121 7 = e) (hi : i < NE h) (hC : C (KNK (HRR h i) e a) h1) : WI N 177 0 [(0, .inr (.inr 121)), (1, .inl (i : Int)), (2, .inl a)] h1 C := by
  have hr : 0 ≤ HRR h i ∧ HRR h i ≤ 399 := (EI_ok P hi).2
  refine w_177_0 (c_hourOf P O f hi ?_)
  rw [ee]
  refine ck_rg (by omega) (c_hourOf P O f hi ?_)
  have e1 : max a (HRR h i - e) = KN (HRR h i) e a := rfl
  rw [e1]
  unfold KNK at hC
  exact ⟨fun z => by rw [if_pos z] at hC; exact hC, fun z => by rw [if_neg z] at hC; exact hC⟩
theorem FW.mv {H S : Nat → Int} {e : Int} {n x l i x' l' i' : Nat} {T : Nat → Int} (W : FW H S e n T x l i) (g : ∀ s k j, k < n → j < n → s.testBit j = false → (s < x' ∨ s = x' ∧ (k < l' ∨ k = l' ∧ j < i')) → T (s * 8 + k) < 100000 → (s < x ∨ s = x ∧ (k < l ∨ k = l ∧ j < i))) : FW H S e n T x' l' i' :=
  ⟨W.1, W.2.1, fun s k j s0 hs hk hj b o lt => W.2.2 s k j s0 hs hk hj b (g s k j hk hj b o lt) lt⟩
theorem c_gf58 {N : Nat} {C : aH → Prop} {h : aH} {e : Int} {x l : Nat} (P : PI h) (O : okEight h) (he : 0 ≤ e ∧ e ≤ 60) (hx : x < 2 ^ NE h - 1) (hl : l < NE h) (hC : ∀ h', RCX h e h' → FW (HRR h) (SPT h) e (NE h) (h' 124) x (l + 1) 0 → WV N 176 43 [(0, .inr (.inr 121)), (1, .inl (NE h : Int)), (2, .inl (x : Int)), (3, .inl ((l : Int) + 1))] h' C) : ∀ (d i : Nat) (h2 : aH) (a : Int), d = NE h - i → i ≤ NE h → RCX h e h2 → FW (HRR h) (SPT h) e (NE h) (h2 124) x l i → a = h2 124 (x * 8 + l) →
    WV N 176 58 [(0, .inr (.inr 121)), (1, .inl (NE h : Int)), (2, .inl (x : Int)), (3, .inl (l : Int)), (4, .inl a), (5, .inl (i : Int))] h2 C := by
  have n8 := NE_le h
  have p8 : 2 ^ NE h ≤ 256 := two_le (m := 8) n8
  have sl := SPT_rg P l hl
  intro d
  induction d with
  | zero =>
    intro i h2 a hd hi R W ea
    refine w_176_58 ⟨fun _ => ck_rg (by omega) (hC h2 R (W.mv (fun s k j hk hj b o lt => by omega))), fun z => absurd (by omega) z⟩
  | succ d ih =>
    intro i h2 a hd hi R W ea
    have hi2 : i < NE h := by omega
    have si := SPT_rg P i hi2
    have pi8 : 2 ^ i ≤ 256 := two_le (m := 8) (by omega)
    refine w_176_58 ⟨fun z => by omega, fun _ => ⟨fun late => ck_rg (by omega) (hC h2 R (W.mv (fun s k j hk hj b o lt => ?_))), fun ok => ?_⟩⟩
    · by_cases c : s = x ∧ k = l
      · rw [c.1, c.2] at lt; omega
      · omega
    · rw [bt_tst (by omega) (by omega)]
      cases b : x.testBit i with
      | true =>
        rw [if_pos rfl]
        refine y1 (ck_rg (by omega) (ih (i + 1) h2 a (by omega) (by omega) R (W.mv (fun s k j hk hj b' o lt => ?_)) ea))
        by_cases c : j = i ∧ s = x
        · rw [c.1, c.2, b] at b'; cases b'
        · omega
      | false =>
        rw [if_neg (by decide)]
        have gt := or_gt b
        have lt := or_lt (n := NE h) (s := x) (show x < 2 ^ NE h by omega) hi2
        have t0 := W.1 x l (by omega) hl
        rw [← ea] at t0
        have t1 := (t0.2.2 (by omega)).1
        have eW : max (SPT h l - SPT h i) (-(SPT h l - SPT h i)) = WAY (SPT h i) (SPT h l) := by unfold WAY; omega
        have wr : 0 ≤ WAY (SPT h i) (SPT h l) ∧ WAY (SPT h i) (SPT h l) ≤ 9 := by unfold WAY; omega
        refine y0 ?_
        simp only [Int.toNat_natCast]
        rw [bt_shl (by omega), bt_or (by omega) (by omega), R.2.2.2 l hl, R.2.2.2 i hi2, eW, show (((x ||| 2 ^ i : Nat) : Int) * 8 + (i : Int)).toNat = (x ||| 2 ^ i) * 8 + i by omega]
        (repeat first | refine ck_ix (by omega) ?_ | refine ck_rg (by omega) ?_ | refine ck_rl (by omega) ?_)
        refine c_knock P O he R.1 R.2.1 hi2 ?_
        (repeat first | refine ck_ix (by omega) ?_ | refine ck_rg (by omega) ?_ | refine ck_rl (by omega) ?_)
        refine ih (i + 1) _ a (by omega) (by omega) (R.mv (Fr.rfl.up (by decide) (by decide))) (FW_step n8 (fun i hi => (EI_ok P hi).2) W (by omega) hl hi2 b (by rw [← ea]; omega) (fun j => by rw [up_in, ← ea])) (by rw [up_in, if_neg (by omega)]; exact ea)
theorem c_gf43 {N : Nat} {C : aH → Prop} {h : aH} {e : Int} {x : Nat} (P : PI h) (O : okEight h) (he : 0 ≤ e ∧ e ≤ 60) (hx : x < 2 ^ NE h - 1) (hC : ∀ h', RCX h e h' → FW (HRR h) (SPT h) e (NE h) (h' 124) (x + 1) 0 0 → WV N 176 36 [(0, .inr (.inr 121)), (1, .inl (NE h : Int)), (2, .inl ((x : Int) + 1))] h' C) : ∀ (d l : Nat) (h2 : aH), d = NE h - l → l ≤ NE h → RCX h e h2 → FW (HRR h) (SPT h) e (NE h) (h2 124) x l 0 →
    WV N 176 43 [(0, .inr (.inr 121)), (1, .inl (NE h : Int)), (2, .inl (x : Int)), (3, .inl (l : Int))] h2 C := by
  have n8 := NE_le h
  have p8 : 2 ^ NE h ≤ 256 := two_le (m := 8) n8
  intro d
  induction d with
  | zero =>
    intro l h2 hd hl R W
    exact w_176_43 ⟨fun _ => ck_rg (by omega) (hC h2 R (W.mv (fun s k j hk hj b o lt => by omega))), fun z => absurd (by omega) z⟩
  | succ d ih =>
    intro l h2 hd hl R W
    refine w_176_43 ⟨fun z => by omega, fun _ => ?_⟩
    rw [show ((x : Int) * 8 + (l : Int)).toNat = x * 8 + l by omega]
    (repeat first | refine ck_ix (by omega) ?_ | refine ck_rg (by omega) ?_ | refine ck_rl (by omega) ?_)
    exact c_gf58 P O he hx (by omega) (fun h' R' W' => ih (l + 1) h' (by omega) (by omega) R' W') _ 0 h2 _ rfl (Nat.zero_le _) R W rfl
theorem c_gf36 {N : Nat} {C : aH → Prop} {h : aH} {e : Int} (P : PI h) (O : okEight h) (he : 0 ≤ e ∧ e ≤ 60) (hC : ∀ h', RCX h e h' → FW (HRR h) (SPT h) e (NE h) (h' 124) (2 ^ NE h - 1) 0 0 → C h') : ∀ (d x : Nat) (h2 : aH), d = 2 ^ NE h - 1 - x → x ≤ 2 ^ NE h - 1 → RCX h e h2 → FW (HRR h) (SPT h) e (NE h) (h2 124) x 0 0 →
    WV N 176 36 [(0, .inr (.inr 121)), (1, .inl (NE h : Int)), (2, .inl (x : Int))] h2 C := by
  intro d
  induction d with
  | zero =>
    intro x h2 hd hx R W
    have : x = 2 ^ NE h - 1 := by omega
    subst this
    refine w_176_36 ?_
    rw [R.2.2.1]
    exact ⟨fun _ => hC h2 R W, fun z => absurd (Int.le_refl _) z⟩
  | succ d ih =>
    intro x h2 hd hx R W
    refine w_176_36 ?_
    rw [R.2.2.1]
    exact ⟨fun z => by omega, fun _ => c_gf43 P O he (by omega) (fun h' R' W' => ih (x + 1) h' (by omega) (by omega) R' W') _ 0 h2 rfl (Nat.zero_le _) R W⟩
theorem FW_first {H S : Nat → Int} {e : Int} {n : Nat} {T : Nat → Int} (hH : ∀ i, i < n → 0 ≤ H i ∧ H i ≤ 399) (hS : ∀ i, i < n → 0 ≤ S i ∧ S i ≤ 9) (h1 : ∀ j, j < n → T (2 ^ j * 8 + j) = KNK (H j) e (S j)) (h2 : ∀ s j, s < 2 ^ n → j < n → s ≠ 2 ^ j → T (s * 8 + j) = 100000) : FW H S e n T 1 0 0 := by
  refine ⟨fun s j hs hj => ?_, fun j hj => by rw [h1 j hj]; exact Int.le_refl _, fun s k j s0 hs hk hj b o lt => by omega⟩
  by_cases c : s = 2 ^ j
  · subst c
    rw [h1 j hj]
    have s9 := hS j hj
    rcases KNK_rg (e := e) (a := S j) (hH j hj) s9.1 with ⟨k1, k2⟩ | ⟨k1, k2, k3, k4⟩
    · rw [k1]; exact ⟨by decide, by decide, fun z => absurd z (by decide)⟩
    · rw [k1]
      refine ⟨k3, by omega, fun _ => ⟨k4, 0, fun _ => j, ⟨fun _ _ => hj, fun i i' hi hi' _ => by omega⟩, ?_, rfl, ?_⟩⟩
      · show 0 ||| 2 ^ j = _
        rw [Nat.zero_or]
      · have q := simN_s (H := H) (S := S) (e := e) (f := fun _ => j) (k := 0) (a := 0) (p := 0) rfl
        rw [q]
        show (if KN (H j) e (0 + WAY (S j) 0) ≤ H j then some (KN (H j) e (0 + WAY (S j) 0), S j) else none) = _
        rw [show (0 : Int) + WAY (S j) 0 = S j by unfold WAY; omega, if_pos k2]
  · rw [h2 s j hs hj c]
    exact ⟨by decide, by decide, fun z => absurd z (by decide)⟩
theorem c_fl124 {N : Nat} {C : aH → Prop} {h : aH} {v : Int} (hC : ∀ h', Fr [124] [] h h' → (∀ j, j < 2048 → h' 124 j = v) → C h') : ∀ (d j : Nat) (h1 : aH), d = 2048 - j → j ≤ 2048 → Fr [124] [] h h1 → (∀ i, i < j → h1 124 i = v) →
    WV N 71 6 [(0, .inr (.inr 124)), (1, .inl v), (2, .inl (j : Int)), (3, .inl 2048)] h1 C := by
  intro d
  induction d with
  | zero =>
    intro j h1 hd hj hf hv
    have : j = 2048 := by omega
    subst this
    exact w_71_6_r124 ⟨fun _ => hC h1 hf hv, fun z => absurd (show (2048 : Int) ≤ ((2048 : Nat) : Int) by decide) z⟩
  | succ d ih =>
    intro j h1 hd hj hf hv
    refine w_71_6_r124 ⟨fun z => by omega, fun _ => ?_⟩
    (repeat first | refine ck_ix (by omega) ?_ | refine ck_rg (by omega) ?_ | refine ck_rl (by omega) ?_)
    simp only [Int.toNat_natCast]
    refine ih (j + 1) _ (by omega) (by omega) (hf.up (by decide) (by decide)) (fun i hi => ?_)
    rw [up_in]
    by_cases e : i = j
    · rw [if_pos e]
    · rw [if_neg e]; exact hv i (by omega)
theorem c_fl125 {N : Nat} {C : aH → Prop} {h : aH} {v : Int} (hC : ∀ h', Fr [125] [] h h' → (∀ j, j < 2048 → h' 125 j = v) → C h') : ∀ (d j : Nat) (h1 : aH), d = 2048 - j → j ≤ 2048 → Fr [125] [] h h1 → (∀ i, i < j → h1 125 i = v) →
    WV N 71 6 [(0, .inr (.inr 125)), (1, .inl v), (2, .inl (j : Int)), (3, .inl 2048)] h1 C := by
  intro d
  induction d with
  | zero =>
    intro j h1 hd hj hf hv
    have : j = 2048 := by omega
    subst this
    exact w_71_6_r125 ⟨fun _ => hC h1 hf hv, fun z => absurd (show (2048 : Int) ≤ ((2048 : Nat) : Int) by decide) z⟩
  | succ d ih =>
    intro j h1 hd hj hf hv
    refine w_71_6_r125 ⟨fun z => by omega, fun _ => ?_⟩
    (repeat first | refine ck_ix (by omega) ?_ | refine ck_rg (by omega) ?_ | refine ck_rl (by omega) ?_)
    simp only [Int.toNat_natCast]
    refine ih (j + 1) _ (by omega) (by omega) (hf.up (by decide) (by decide)) (fun i hi => ?_)
    rw [up_in]
    by_cases e : i = j
    · rw [if_pos e]
    · rw [if_neg e]; exact hv i (by omega)
theorem c_gf11 {N : Nat} {C : aH → Prop} {h : aH} {e : Int} (P : PI h) (O : okEight h) (he : 0 ≤ e ∧ e ≤ 60) (n0 : 0 < NE h) (hC : ∀ h', RCX h e h' → FW (HRR h) (SPT h) e (NE h) (h' 124) (2 ^ NE h - 1) 0 0 → C h') : ∀ (d i : Nat) (h2 : aH), d = NE h - i → i ≤ NE h → RCX h e h2 → (∀ j, j < i → h2 124 (2 ^ j * 8 + j) = KNK (HRR h j) e (SPT h j)) → (∀ s j, s < 2 ^ NE h → j < NE h → s ≠ 2 ^ j ∨ i ≤ j → h2 124 (s * 8 + j) = 100000) →
    WV N 176 11 [(0, .inr (.inr 121)), (1, .inl (NE h : Int)), (2, .inl (i : Int))] h2 C := by
  have n8 := NE_le h
  have p8 : 2 ^ NE h ≤ 256 := two_le (m := 8) n8
  have p2 : 2 ≤ 2 ^ NE h := two_le (n := 1) n0
  intro d
  induction d with
  | zero =>
    intro i h2 hd hi R q1 q2
    have : i = NE h := by omega
    subst this
    exact w_176_11 ⟨fun _ => c_gf36 P O he hC _ 1 h2 rfl (by omega) R (FW_first (fun i hi => (EI_ok P hi).2) (SPT_rg P) q1 (fun s j hs hj z => q2 s j hs hj (Or.inl z))), fun z => absurd (Int.le_refl _) z⟩
  | succ d ih =>
    intro i h2 hd hi R q1 q2
    have hi2 : i < NE h := by omega
    have si := SPT_rg P i hi2
    have pi8 : 2 ^ i < 2 ^ NE h := Nat.pow_lt_pow_right (by omega) hi2
    refine w_176_11 ⟨fun z => by omega, fun _ => ?_⟩
    simp only [Int.toNat_natCast]
    rw [bt_shl (by omega), R.2.2.2 i hi2, show (((2 ^ i : Nat) : Int) * 8 + (i : Int)).toNat = 2 ^ i * 8 + i by omega]
    generalize hw : 2 ^ i = w at pi8 ⊢
    (repeat first | refine ck_ix (by omega) ?_ | refine ck_rg (by omega) ?_ | refine ck_rl (by omega) ?_)
    refine c_knock P O he R.1 R.2.1 hi2 ?_
    (repeat first | refine ck_ix (by omega) ?_ | refine ck_rg (by omega) ?_ | refine ck_rl (by omega) ?_)
    subst hw
    refine ih (i + 1) _ (by omega) (by omega) (R.mv (Fr.up (r := 124) Fr.rfl (by decide) (by decide))) (fun j hj => ?_) (fun s j hs hj o => ?_)
    · rw [up_in]
      by_cases c : j = i
      · rw [c, if_pos rfl]
      · rw [if_neg (by omega)]; exact q1 j (by omega)
    · rw [up_in]
      by_cases c : s * 8 + j = 2 ^ i * 8 + i
      · have e1 : j = i := by omega
        subst e1
        omega
      · rw [if_neg c]
        refine q2 s j hs hj ?_
        by_cases c2 : j = i
        · exact Or.inr (by omega)
        · omega
theorem c_goForward {N : Nat} {C : aH → Prop} {h h1 : aH} {e : Int} (P : PI h) (O : okEight h) (he : 0 ≤ e ∧ e ≤ 60) (n0 : 0 < NE h) (R : RCX h e h1) (hC : ∀ h', RCX h e h' → FW (HRR h) (SPT h) e (NE h) (h' 124) (2 ^ NE h - 1) 0 0 → C h') : WV N 176 0 [(0, .inr (.inr 121))] h1 C := by
  have n8 := NE_le h
  have p8 : 2 ^ NE h ≤ 256 := two_le (m := 8) n8
  refine w_176_0 (w_71_0_r124 (ck_rg (by omega) (c_fl124 (fun h2 f2 hv => ?_) 2048 0 h1 rfl (Nat.zero_le _) Fr.rfl (fun i hi => absurd hi (Nat.not_lt_zero i)))))
  have R2 : RCX h e h2 := R.mv (f2.mono (by decide) (by decide))
  have kp : Kp h h1 := Fr.kp R.1 (by decide)
  rw [kp.at 16 (by decide), O.1]
  exact c_gf11 P O he n0 hC _ 0 h2 rfl (Nat.zero_le _) R2 (fun j hj => absurd hj (Nat.not_lt_zero j)) (fun s j hs hj _ => hv _ (by omega))
