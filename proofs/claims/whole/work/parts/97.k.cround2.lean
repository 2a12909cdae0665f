/-! THE ROUND: the class's, the way back and the order -/
theorem bts_not {x n : Nat} (hx : x < 2 ^ n - 1) : BTS x n < n := by
  rcases Nat.lt_or_ge (BTS x n) n with z | z
  · exact z
  · have := bts_full (m := x) (n := n) (by omega) z (2 ^ n - 1) (by omega) (fun t ht => by
      rw [Nat.testBit_two_pow_sub_one]
      refine decide_eq_true ?_
      rcases Nat.lt_or_ge t n with c | c
      · exact c
      · rw [Nat.testBit_lt_two_pow (Nat.lt_of_lt_of_le (show x < 2 ^ n by omega) (two_le c))] at ht
        cases ht)
    omega
theorem c_gb43 {N : Nat} {C : aH → Prop} {h : aH} {e en : Int} {x l : Nat} (P : PI h) (O : okEight h) (he : 0 ≤ e ∧ e ≤ 60) (hx : x < 2 ^ NE h - 1) (hl : l < NE h) (hC : ∀ h', RCX h e h' → BW (HRR h) (SPT h) e (NE h) en (h' 125) x (l + 1) → WV N 179 37 [(0, .inr (.inr 121)), (2, .inl (NE h : Int)), (3, .inl (x : Int)), (4, .inl ((l : Int) + 1))] h' C) : ∀ (d i : Nat) (h2 : aH), d = NE h - i → i ≤ NE h → RCX h e h2 → BWI (HRR h) (SPT h) e (NE h) en (h2 125) x l i →
    WV N 179 43 [(0, .inr (.inr 121)), (2, .inl (NE h : Int)), (3, .inl (x : Int)), (4, .inl (l : Int)), (5, .inl (i : Int))] h2 C := by
  have n8 := NE_le h
  have p8 : 2 ^ NE h ≤ 256 := two_le (m := 8) n8
  have sl := SPT_rg P l hl
  intro d
  induction d with
  | zero =>
    intro i h2 hd hi R B
    have : i = NE h := by omega
    subst this
    exact w_179_43 ⟨fun _ => ck_rg (by omega) (hC h2 R (B.fin (bts_not hx))), fun z => absurd (Int.le_refl _) z⟩
  | succ d ih =>
    intro i h2 hd hi R B
    have hi2 : i < NE h := by omega
    have si := SPT_rg P i hi2
    have hr : 0 ≤ HRR h i ∧ HRR h i ≤ 399 := (EI_ok P hi2).2
    have pi8 : 2 ^ i ≤ 256 := two_le (m := 8) (by omega)
    refine w_179_43 ⟨fun z => by omega, fun _ => ?_⟩
    rw [bt_tst (by omega) (by omega)]
    cases b : x.testBit i with
    | true =>
      rw [if_pos rfl]
      exact y1 (ck_rg (by omega) (ih (i + 1) h2 (by omega) (by omega) R (B.skip b)))
    | false =>
      rw [if_neg (by decide)]
      refine y0 ?_
      have gt := or_gt b
      have lt := or_lt (n := NE h) (s := x) (show x < 2 ^ NE h by omega) hi2
      have g1 := B.1 (x ||| 2 ^ i) i lt hi2
      have g2 := B.1 x l (by omega) hl
      have eW : max (SPT h l - SPT h i) (-(SPT h l - SPT h i)) = WAY (SPT h l) (SPT h i) := rfl
      have wr : 0 ≤ WAY (SPT h l) (SPT h i) ∧ WAY (SPT h l) (SPT h i) ≤ 9 := by unfold WAY; omega
      refine c_hourOf P O R.1 hi2 ?_
      rw [bt_shl (by omega), bt_or (by omega) (by omega), show (((x ||| 2 ^ i : Nat) : Int) * 8 + (i : Int)).toNat = (x ||| 2 ^ i) * 8 + i by omega]
      (repeat first | refine ck_ix (by omega) ?_ | refine ck_rg (by omega) ?_ | refine ck_rl (by omega) ?_)
      refine c_hourOf P O R.1 hi2 ?_
      simp only [Int.toNat_natCast]
      rw [R.2.1, R.2.2.2 l hl, R.2.2.2 i hi2, eW, show ((x : Int) * 8 + (l : Int)).toNat = x * 8 + l by omega]
      refine ck_rg (by omega) ⟨fun no => ?_, fun yes => ?_⟩
      · (repeat first | refine ck_ix (by omega) ?_ | refine ck_rg (by omega) ?_ | refine ck_rl (by omega) ?_)
        exact ih (i + 1) _ (by omega) (by omega) (R.mv (Fr.up (r := 125) Fr.rfl (by decide) (by decide))) (B.step n8 (by omega) hl hi2 b (Or.inl ⟨no, rfl⟩) (fun j => up_in _ _ _ _ _))
      · (repeat first | refine ck_ix (by omega) ?_ | refine ck_rg (by omega) ?_ | refine ck_rl (by omega) ?_)
        exact ih (i + 1) _ (by omega) (by omega) (R.mv (Fr.up (r := 125) Fr.rfl (by decide) (by decide))) (B.step n8 (by omega) hl hi2 b (Or.inr ⟨yes, rfl⟩) (fun j => up_in _ _ _ _ _))
theorem c_gb37 {N : Nat} {C : aH → Prop} {h : aH} {e en : Int} {x : Nat} (P : PI h) (O : okEight h) (he : 0 ≤ e ∧ e ≤ 60) (hx : x + 1 < 2 ^ NE h - 1) (hC : ∀ h', RCX h e h' → BW (HRR h) (SPT h) e (NE h) en (h' 125) x 0 → WV N 179 32 [(0, .inr (.inr 121)), (2, .inl (NE h : Int)), (3, .inl (x : Int))] h' C) : ∀ (d l : Nat) (h2 : aH), d = NE h - l → l ≤ NE h → RCX h e h2 → BW (HRR h) (SPT h) e (NE h) en (h2 125) (x + 1) l →
    WV N 179 37 [(0, .inr (.inr 121)), (2, .inl (NE h : Int)), (3, .inl ((x + 1 : Nat) : Int)), (4, .inl (l : Int))] h2 C := by
  have n8 := NE_le h
  have p8 : 2 ^ NE h ≤ 256 := two_le (m := 8) n8
  intro d
  induction d with
  | zero =>
    intro l h2 hd hl R B
    have : l = NE h := by omega
    subst this
    refine w_179_37 ⟨fun _ => ck_rg (by omega) ?_, fun z => absurd (Int.le_refl _) z⟩
    rw [show ((x + 1 : Nat) : Int) + (-1) = (x : Int) by omega]
    exact hC h2 R B.next
  | succ d ih =>
    intro l h2 hd hl R B
    exact w_179_37 ⟨fun z => by omega, fun _ => c_gb43 P O he (by omega) (by omega) (fun h' R' B' => ih (l + 1) h' (by omega) (by omega) R' B') _ 0 h2 rfl (Nat.zero_le _) R (B.start (by omega) (by omega))⟩
theorem c_gb32 {N : Nat} {C : aH → Prop} {h : aH} {e en : Int} (P : PI h) (O : okEight h) (he : 0 ≤ e ∧ e ≤ 60) (hC : ∀ h', RCX h e h' → BW (HRR h) (SPT h) e (NE h) en (h' 125) 0 0 → C h') : ∀ (x : Nat) (h2 : aH), x < 2 ^ NE h - 1 → RCX h e h2 → BW (HRR h) (SPT h) e (NE h) en (h2 125) x 0 →
    WV N 179 32 [(0, .inr (.inr 121)), (2, .inl (NE h : Int)), (3, .inl (x : Int))] h2 C := by
  intro x
  induction x with
  | zero => intro h2 hx R B; exact w_179_32 ⟨fun _ => hC h2 R B, fun z => absurd (Int.le_refl _) z⟩
  | succ x ih =>
    intro h2 hx R B
    exact w_179_32 ⟨fun z => by omega, fun _ => c_gb37 P O he hx (fun h' R' B' => ih h' (by omega) R' B') _ 0 h2 rfl (Nat.zero_le _) R B⟩
theorem c_gb11 {N : Nat} {C : aH → Prop} {h : aH} {e en : Int} (P : PI h) (O : okEight h) (he : 0 ≤ e ∧ e ≤ 60) (n0 : 0 < NE h) (hen : 0 ≤ en ∧ en ≤ 399) (hC : ∀ h', RCX h e h' → BW (HRR h) (SPT h) e (NE h) en (h' 125) 0 0 → C h') : ∀ (d i : Nat) (h2 : aH), d = NE h - i → i ≤ NE h → RCX h e h2 → (∀ j, j < i → h2 125 ((2 ^ NE h - 1) * 8 + j) = en) → (∀ s j, s < 2 ^ NE h - 1 → j < NE h → h2 125 (s * 8 + j) = -1) →
    WV N 179 11 [(0, .inr (.inr 121)), (1, .inl en), (2, .inl (NE h : Int)), (3, .inl (i : Int))] h2 C := by
  have n8 := NE_le h
  have p8 : 2 ^ NE h ≤ 256 := two_le (m := 8) n8
  have p2 : 2 ≤ 2 ^ NE h := two_le (n := 1) n0
  intro d
  induction d with
  | zero =>
    intro i h2 hd hi R q1 q2
    have : i = NE h := by omega
    subst this
    refine w_179_11 ?_
    rw [R.2.2.1]
    refine ⟨fun _ => ck_rg (by omega) ?_, fun z => absurd (Int.le_refl _) z⟩
    rw [show ((2 ^ NE h - 1 : Nat) : Int) - 1 = ((2 ^ NE h - 2 : Nat) : Int) by omega]
    exact c_gb32 P O he hC _ h2 (by omega) R (BW.first n0 n8 hen q2 q1)
  | succ d ih =>
    intro i h2 hd hi R q1 q2
    refine w_179_11 ?_
    rw [R.2.2.1, show (((2 ^ NE h - 1 : Nat) : Int) * 8 + (i : Int)).toNat = (2 ^ NE h - 1) * 8 + i by omega]
    refine ⟨fun z => by omega, fun _ => ?_⟩
    (repeat first | refine ck_ix (by omega) ?_ | refine ck_rg (by omega) ?_ | refine ck_rl (by omega) ?_)
    refine ih (i + 1) _ (by omega) (by omega) (R.mv (Fr.up (r := 125) Fr.rfl (by decide) (by decide))) (fun j hj => ?_) (fun s j hs hj => ?_)
    · rw [up_in]
      by_cases c : j = i
      · rw [c, if_pos rfl]
      · rw [if_neg (by omega)]; exact q1 j (by omega)
    · rw [up_in, if_neg (by omega)]; exact q2 s j hs hj
theorem c_goBackward {N : Nat} {C : aH → Prop} {h h1 : aH} {e en : Int} (P : PI h) (O : okEight h) (he : 0 ≤ e ∧ e ≤ 60) (n0 : 0 < NE h) (hen : 0 ≤ en ∧ en ≤ 399) (R : RCX h e h1) (hC : ∀ h', RCX h e h' → BW (HRR h) (SPT h) e (NE h) en (h' 125) 0 0 → C h') : WV N 179 0 [(0, .inr (.inr 121)), (1, .inl en)] h1 C := by
  have n8 := NE_le h
  have p8 : 2 ^ NE h ≤ 256 := two_le (m := 8) n8
  refine w_179_0 (w_71_0_r125 (ck_rg (by omega) (c_fl125 (fun h2 f2 hv => ?_) 2048 0 h1 rfl (Nat.zero_le _) Fr.rfl (fun i hi => absurd hi (Nat.not_lt_zero i)))))
  have R2 : RCX h e h2 := R.mv (f2.mono (by decide) (by decide))
  have kp : Kp h h1 := Fr.kp R.1 (by decide)
  rw [kp.at 16 (by decide), O.1]
  exact c_gb11 P O he n0 hen hC _ 0 h2 rfl (Nat.zero_le _) R2 (fun j hj => absurd hj (Nat.not_lt_zero j)) (fun s j hs hj => hv _ (by omega))
/-- what is picked so far -/
def PKD (h : aH) (e en : Int) (h2 : aH) (f : Nat → Nat) (k : Nat) (a p : Int) : Prop := INJ (NE h) k f ∧ simN (HRR h) (SPT h) e f k = some (a, p) ∧ MINI (HRR h) (SPT h) e (NE h) en f k ∧ FIN (HRR h) (SPT h) e (NE h) en (NE h - k) (MSK f k) p a ∧ ∀ j, j < k → h2 122 j = (EI h (f j) : Int)
theorem PKD.step {h : aH} {e en : Int} {h2 h3 : aH} {f : Nat → Nat} {k i : Nat} {a p : Int} (K : PKD h e en h2 f k a p) (hk : k < NE h) (no : ∀ i', i' < i → ¬ GOI (HRR h) (SPT h) e (NE h) en (MSK f k) p a i') (yes : GOI (HRR h) (SPT h) e (NE h) en (MSK f k) p a i) (ho : ∀ j, h3 122 j = if j = k then (EI h i : Int) else h2 122 j) : ∃ g, MSK g (k + 1) = MSK f k ||| 2 ^ i ∧ PKD h e en h3 g (k + 1) (KN (HRR h i) e (a + WAY (SPT h i) p)) (SPT h i) := by
  obtain ⟨I, s, M, F, o⟩ := K
  obtain ⟨y1, y2, y3, y4⟩ := yes
  have bk := bts_msk I
  refine ⟨fun j => if j = k then i else f j, ?_, ?_⟩
  · show MSK _ k ||| 2 ^ (if k = k then i else f k) = _
    rw [MSK_congr (g := f) (fun j hj => if_neg (by omega)), if_pos rfl]
  · have eg : ∀ m, m ≤ k → ∀ j, j < m → (fun j => if j = k then i else f j) j = f j := fun m hm j hj => if_neg (by omega)
    have gk : (if k = k then i else f k) = i := if_pos rfl
    have em : MSK (fun j => if j = k then i else f j) (k + 1) = MSK f k ||| 2 ^ i := by
      show MSK _ k ||| 2 ^ (if k = k then i else f k) = _
      rw [MSK_congr (eg k (Nat.le_refl k)), gk]
    have out : ∀ j, j < k → f j ≠ i := fun j hj z => by
      have : (MSK f k).testBit i = true := MSK_tb.2 ⟨j, hj, z⟩
      rw [y2] at this
      cases this
    refine ⟨⟨fun j hj => ?_, fun j1 j2 h1 h2 z => ?_⟩, ?_, fun j hj i' hi' a' p' q => ?_, ?_, fun j hj => ?_⟩
    · show (if j = k then i else f j) < NE h
      by_cases c : j = k
      · rw [if_pos c]; exact y1
      · rw [if_neg c]; exact I.1 j (by omega)
    · have z : (if j1 = k then i else f j1) = (if j2 = k then i else f j2) := z
      by_cases c1 : j1 = k <;> by_cases c2 : j2 = k
      · omega
      · rw [if_pos c1, if_neg c2] at z; exact absurd z.symm (out j2 (by omega))
      · rw [if_neg c1, if_pos c2] at z; exact absurd z (out j1 (by omega))
      · rw [if_neg c1, if_neg c2] at z; exact I.2 j1 j2 (by omega) (by omega) z
    · have := simN_s (H := HRR h) (S := SPT h) (e := e) (f := fun j => if j = k then i else f j) (k := k) (a := a) (p := p) (by rw [simN_congr (eg k (Nat.le_refl k))]; exact s)
      rw [this, gk, if_pos y3]
    · have hi' : i' < (if j = k then i else f j) := hi'
      rw [MSK_congr (eg j (by omega))]
      rw [simN_congr (eg j (by omega))] at q
      by_cases c : j = k
      · subst c
        rw [if_pos rfl] at hi'
        rw [s] at q
        have := Option.some.inj q
        injection this with e1 e2
        rw [← e1, ← e2]
        exact no i' hi'
      · rw [if_neg c] at hi'
        exact M j (by omega) i' hi' a' p' q
    · rw [em]
      rw [bk, show NE h - k - 1 = NE h - (k + 1) by omega] at y4
      exact y4
    · rw [ho]
      show _ = ((EI h (if j = k then i else f j) : Nat) : Int)
      by_cases c : j = k
      · rw [if_pos c, if_pos c]
      · rw [if_neg c, if_neg c]; exact o j (by omega)
theorem c_po19 {N : Nat} {C : aH → Prop} {h : aH} {e en : Int} {k : Nat} {f : Nat → Nat} {a p : Int} (P : PI h) (O : okEight h) (he : 0 ≤ e ∧ e ≤ 60) (hk : k < NE h) (ha : 0 ≤ a ∧ a ≤ 399) (hp : 0 ≤ p ∧ p ≤ 9) (hC : ∀ h' g a' p', RCX h e h' → BW (HRR h) (SPT h) e (NE h) en (h' 125) 0 0 → PKD h e en h' g (k + 1) a' p' → WV N 180 13 [(0, .inr (.inr 121)), (1, .inl (NE h : Int)), (2, .inl (MSK g (k + 1) : Int)), (3, .inl a'), (4, .inl p'), (5, .inl ((k : Int) + 1))] h' C) : ∀ (d i : Nat) (h2 : aH), d = NE h - i → i ≤ NE h → RCX h e h2 → BW (HRR h) (SPT h) e (NE h) en (h2 125) 0 0 → PKD h e en h2 f k a p → (∀ i', i' < i → ¬ GOI (HRR h) (SPT h) e (NE h) en (MSK f k) p a i') →
    WV N 180 19 [(0, .inr (.inr 121)), (1, .inl (NE h : Int)), (2, .inl (MSK f k : Int)), (3, .inl a), (4, .inl p), (5, .inl (k : Int)), (6, .inl (i : Int))] h2 C := by
  have n8 := NE_le h
  have p8 : 2 ^ NE h ≤ 256 := two_le (m := 8) n8
  intro d
  induction d with
  | zero =>
    intro i h2 hd hi R B K no
    exfalso
    obtain ⟨I, s, M, F, o⟩ := K
    obtain ⟨m, hm⟩ : ∃ m, NE h - k = m + 1 := ⟨NE h - k - 1, by omega⟩
    have bk := bts_msk I
    rw [hm] at F
    obtain ⟨i', q1, q2, q3, q4⟩ := F
    exact no i' (by omega) ⟨q1, q2, q3, by rw [bk, show NE h - k - 1 = m by omega]; exact q4⟩
  | succ d ih =>
    intro i h2 hd hi R B K no
    have hi2 : i < NE h := by omega
    have si := SPT_rg P i hi2
    have hr : 0 ≤ HRR h i ∧ HRR h i ≤ 399 := (EI_ok P hi2).2
    have pi8 : 2 ^ i ≤ 256 := two_le (m := 8) (by omega)
    have bk := bts_msk K.1
    have ml := MSK_lt (n := NE h) K.1.1
    have eW : max (SPT h i - p) (-(SPT h i - p)) = WAY (SPT h i) p := rfl
    have wr : 0 ≤ WAY (SPT h i) p ∧ WAY (SPT h i) p ≤ 9 := by unfold WAY; omega
    have nx : ∀ h3, h3 = h2 → ¬ GOI (HRR h) (SPT h) e (NE h) en (MSK f k) p a i → WV N 180 19 [(0, .inr (.inr 121)), (1, .inl (NE h : Int)), (2, .inl (MSK f k : Int)), (3, .inl a), (4, .inl p), (5, .inl (k : Int)), (6, .inl ((i : Int) + 1))] h3 C := by
      intro h3 e3 ng
      subst e3
      refine ih (i + 1) h3 (by omega) (by omega) R B K (fun i' hi' => ?_)
      by_cases c : i' = i
      · rw [c]; exact ng
      · exact no i' (by omega)
    refine w_180_19 ⟨fun z => by omega, fun _ => ?_⟩
    rw [Int.toNat_natCast i, R.2.2.2 i hi2, eW]
    (repeat first | refine ck_ix (by omega) ?_ | refine ck_rg (by omega) ?_ | refine ck_rl (by omega) ?_)
    refine c_knock P O he R.1 R.2.1 hi2 ?_
    rw [bt_tst (by omega) (by omega)]
    cases b : (MSK f k).testBit i with
    | true =>
      rw [if_pos rfl]
      exact y1 (ck_rg (by omega) (nx h2 rfl (fun g => by have := g.2.1; rw [b] at this; cases this)))
    | false =>
      rw [if_neg (by decide)]
      refine y0 ?_
      have gt := or_gt b
      have lt := or_lt ml hi2
      have bo := bts_or (n := NE h) b hi2
      have g1 := B.1 (MSK f k ||| 2 ^ i) i lt hi2
      have kn : 0 ≤ KN (HRR h i) e (a + WAY (SPT h i) p) := by unfold KN; omega
      have key := B.2.2 (MSK f k ||| 2 ^ i) i (by omega) lt hi2 (Or.inl (by omega)) _ kn
      rw [bo, show NE h - (BTS (MSK f k) (NE h) + 1) = NE h - BTS (MSK f k) (NE h) - 1 by omega] at key
      have kr := KNK_rg (e := e) (a := a + WAY (SPT h i) p) hr (by omega)
      rw [bt_shl (by omega), bt_or (by omega) (by omega), show (((MSK f k ||| 2 ^ i : Nat) : Int) * 8 + (i : Int)).toNat = (MSK f k ||| 2 ^ i) * 8 + i by omega]
      (repeat first | refine ck_ix (by omega) ?_ | refine ck_rg (by omega) ?_ | refine ck_rl (by omega) ?_)
      refine ⟨fun late => ck_rg (by omega) (nx h2 rfl (fun g => ?_)), fun ok => ?_⟩
      · have := key.2 g.2.2.2
        have := g.2.2.1
        omega
      · rcases kr with ⟨k1, k2⟩ | ⟨k1, k2, k3, k4⟩
        · omega
        · have kp : Kp h h2 := Fr.kp R.1 (by decide)
          rw [k1] at ok ⊢
          simp only [Int.toNat_natCast]
          rw [kp.at 27 (by decide), O.2 i hi2, R.2.2.2 i hi2]
          have st := PKD.step (h3 := am_up h2 122 k (EI h i : Int)) K hk no ⟨hi2, b, k2, key.1 (by omega)⟩ (fun j => up_in _ _ _ _ _)
          obtain ⟨g, em, K'⟩ := st
          (repeat first | refine ck_ix (by omega) ?_ | refine ck_rg (by omega) ?_ | refine ck_rl (by omega) ?_)
          rw [← em]
          exact hC _ g _ _ (R.mv (Fr.up (r := 122) Fr.rfl (by decide) (by decide))) (by rw [up_row (by decide)]; exact B) K'
