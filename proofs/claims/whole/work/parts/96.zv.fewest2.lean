/-! FEWEST: the class's -/
def lb (l : Nat) : Nat := (ffst (fun t => l.testBit t) 12 0).getD 0
theorem lb_all : (List.range 4096).all (fun l => decide (l = 0) || (decide (am_and (l : Int) (-(l : Int)) = ((2 ^ lb l : Nat) : Int)) && (l.testBit (lb l) && decide (lb l < 12)))) = true := by decide +kernel
theorem lb_ok {l : Nat} (hl : l < 4096) (h0 : l ≠ 0) : am_and (l : Int) (-(l : Int)) = ((2 ^ lb l : Nat) : Int) ∧ l.testBit (lb l) = true ∧ lb l < 12 := by
  have := all_rg lb_all hl
  rw [decide_eq_false h0, Bool.false_or, Bool.and_eq_true, Bool.and_eq_true, decide_eq_true_iff, decide_eq_true_iff] at this
  exact ⟨this.1, this.2.1, this.2.2⟩
theorem and_two {w k : Nat} : w &&& 2 ^ k = 0 ↔ w.testBit k = false := by
  refine ⟨fun e => ?_, fun e => Nat.eq_of_testBit_eq fun t => ?_⟩
  · have : (w &&& 2 ^ k).testBit k = false := by rw [e, Nat.zero_testBit]
    rw [Nat.testBit_and, tb_two, decide_eq_true rfl, Bool.and_true] at this
    exact this
  · rw [Nat.testBit_and, tb_two, Nat.zero_testBit]
    by_cases c : k = t
    · subst c; rw [e]; rfl
    · rw [decide_eq_false c, Bool.and_false]
/-- whom a set leaves -/
def LFT (a S : Nat) : Nat := a &&& (S ^^^ 4294967295)
theorem LFT_ok {a S : Nat} (ha : a < 4096) (hs : subB S a) (hne : S ≠ a) : LFT a S < 4096 ∧ LFT a S ≠ 0 ∧ a.testBit (lb (LFT a S)) = true ∧ S.testBit (lb (LFT a S)) = false ∧ lb (LFT a S) < 12 := by
  have l1 : LFT a S < 4096 := Nat.lt_of_le_of_lt Nat.and_le_left ha
  have l2 : LFT a S ≠ 0 := fun z => hne (subB_antisymm hs ((subB_iff ha).mp z))
  obtain ⟨_, l4, l5⟩ := lb_ok l1 l2
  refine ⟨l1, l2, ?_, ?_, l5⟩
  · have l4 : (a &&& (S ^^^ 4294967295)).testBit (lb (LFT a S)) = true := l4
    rw [tb_clr (by omega), Bool.and_eq_true] at l4
    exact l4.1
  · have l4 : (a &&& (S ^^^ 4294967295)).testBit (lb (LFT a S)) = true := l4
    rw [tb_clr (by omega), Bool.and_eq_true] at l4
    cases q : S.testBit (lb (LFT a S))
    · rfl
    · rw [q] at l4; exact absurd l4.2 (by decide)
def TDN (a : Nat) (g : Nat → Int) (r : Nat) (W : Nat → Nat) (i : Nat) : Prop := ∀ S, S < i → subB S a → g S < 100 → ∀ m, m < r → (W m).testBit (lb (LFT a S)) = true → g (S ||| W m) ≤ g S + 1
theorem orL_append : ∀ (s t : List Nat), orL (s ++ t) = orL s ||| orL t
  | [], t => by show orL t = 0 ||| orL t; rw [Nat.zero_or]
  | w :: s, t => by show w ||| orL (s ++ t) = (w ||| orL s) ||| orL t; rw [orL_append s t, Nat.or_assoc]
theorem c_cmp {a : Nat} (ha : a < 4096) {g : Nat → Int} {r : Nat} {W : Nat → Nat} (T : TDN a g r W a) (hW : ∀ m, m < r → subB (W m) a) : ∀ (k S : Nat), subB S a → g S + (k : Int) ≤ 99 → ∀ L : List Nat, L.length = k → (∀ w, w ∈ L → ∃ m, m < r ∧ w = W m) → S ||| orL L = a → g a ≤ g S + (k : Int) := by
  intro k
  induction k with
  | zero =>
    intro S hs hk L hL hm e
    have : L = [] := List.length_eq_zero_iff.mp hL
    subst this
    rw [show orL [] = 0 from rfl, Nat.or_zero] at e
    rw [e]; omega
  | succ k ih =>
    intro S hs hk L hL hm e
    by_cases hS : S = a
    · rw [← hS]; omega
    · obtain ⟨l1, l2, l3, l4, l5⟩ := LFT_ok ha hs hS
      rw [← e, Nat.testBit_or, e, l4, Bool.false_or] at l3
      obtain ⟨w, hw, hb⟩ := orL_tb.mp l3
      obtain ⟨s, t, q⟩ := List.append_of_mem hw
      subst q
      obtain ⟨m, hm1, hm2⟩ := hm w hw
      subst hm2
      have lt : S < a := by
        have := subB_le hs
        clear hm
        omega
      have d := T S lt hs (by clear hm; omega) m hm1 hb
      have e2 : (S ||| W m) ||| orL (s ++ t) = a := by
        rw [← e, orL_append, orL_append]
        show _ = S ||| (orL s ||| (W m ||| orL t))
        rw [Nat.or_assoc, ← Nat.or_assoc (W m), Nat.or_comm (W m) (orL s), Nat.or_assoc]
      have hl : (s ++ t).length = k := by
        rw [List.length_append, List.length_cons] at hL
        rw [List.length_append]
        clear hm
        omega
      have := ih (S ||| W m) (or_sub hs (hW m hm1)) (by clear hm; omega) (s ++ t) hl (fun w hw2 => hm w (by
        rcases List.mem_append.mp hw2 with z | z
        · exact List.mem_append.mpr (Or.inl z)
        · exact List.mem_append.mpr (Or.inr (List.mem_cons_of_mem _ z)))) e2
      clear hm
      omega
theorem kept_of {h : aH} {c r : Nat} {W : Nat → Nat} (hk : ∀ b j, INR h b j → RNG h c b j = 0 ∨ ∃ i, i < r ∧ subB (RNG h c b j) (W i)) : ∀ L : List Nat, (∀ w, w ∈ L → RW h c w) → ∃ L' : List Nat, L'.length ≤ L.length ∧ (∀ w, w ∈ L' → ∃ m, m < r ∧ w = W m) ∧ subB (orL L) (orL L')
  | [], _ => ⟨[], Nat.le_refl _, fun w hw => (by cases hw), subB_refl _⟩
  | w :: L, hL => by
    obtain ⟨L', l1, l2, l3⟩ := kept_of hk L (fun v hv => hL v (List.mem_cons_of_mem _ hv))
    obtain ⟨b, j, q, e⟩ := hL w List.mem_cons_self
    rcases hk b j q with z | ⟨i, i1, i2⟩
    · refine ⟨L', by rw [List.length_cons]; exact Nat.le_succ_of_le l1, l2, fun t ht => ?_⟩
      have ht : (w ||| orL L).testBit t = true := ht
      rw [e, z, Nat.zero_or] at ht
      exact l3 t ht
    · refine ⟨W i :: L', by rw [List.length_cons, List.length_cons]; exact Nat.succ_le_succ l1, fun v hv => ?_, fun t ht => ?_⟩
      · rcases List.mem_cons.mp hv with y | y
        · exact ⟨i, i1, y⟩
        · exact l2 v y
      · have ht : (w ||| orL L).testBit t = true := ht
        show (W i ||| orL L').testBit t = true
        rw [Nat.testBit_or, Bool.or_eq_true] at ht ⊢
        rcases ht with y | y
        · exact Or.inl (i2 t (by rw [← e]; exact y))
        · exact Or.inr (l3 t y)
theorem c_go {N : Nat} {C : aH → Prop} {h : aH} {c D k r : Nat} {W : Nat → Nat} {g0 : Nat → Int} (hD : D < 4096) (hDk : D.testBit k = false) (hk : k < 12) (hr : r ≤ 144) (hW : ∀ m, m < r → W m < 4096 ∧ RW h c (W m)) {h0 : aH} (hn : h0 110 5 = (r : Int)) (hW0 : ∀ m, m < r → h0 111 m = (W m : Int))
    (hC : ∀ h', Fr [112] [] h0 h' → TSO h c (h' 112) → (∀ S, S ≤ D → h' 112 S = g0 S) → (∀ S, S < 4096 → h' 112 S ≤ g0 S) → (∀ m, m < r → (W m).testBit k = true → h' 112 (D ||| W m) ≤ g0 D + 1) → C h') : ∀ (d i : Nat) (h1 : aH), d = r - i → i ≤ r → Fr [112] [] h0 h1 → TSO h c (h1 112) → (∀ S, S ≤ D → h1 112 S = g0 S) → (∀ S, S < 4096 → h1 112 S ≤ g0 S) → (∀ m, m < i → (W m).testBit k = true → h1 112 (D ||| W m) ≤ g0 D + 1) →
    WV N 139 14 [(0, .inr (.inr 110)), (1, .inl (D : Int)), (4, .inl ((2 ^ k : Nat) : Int)), (5, .inl (i : Int))] h1 C := by
  have k2 := two_lt hk
  rw [show (2 : Nat) ^ 12 = 4096 by decide] at k2
  intro d
  induction d with
  | zero =>
    intro i h1 hd hi f T lo mo up
    have : i = r := by omega
    subst this
    refine w_139_14 ?_
    rw [f.at 110 (by decide) (by decide), hn]
    exact ⟨fun _ => hC h1 f T lo mo up, fun z => absurd (Int.le_refl _) z⟩
  | succ d ih =>
    intro i h1 hd hi f T lo mo up
    have hi2 : i < r := by omega
    have w1 := (hW i hi2).1
    have ol := or_4096 hD w1
    have b1 := (T.2 D hD).1
    have b2 := (T.2 _ ol).1
    have m2 := mo _ ol
    have l1 := lo D (Nat.le_refl _)
    refine w_139_14 ?_
    rw [f.at 110 (by decide) (by decide), hn, f.at 111 (by decide) (by decide)]
    simp only [Int.toNat_natCast]
    rw [hW0 i hi2, bt_and (by omega) (by omega), bt_or (by omega) (by omega)]
    simp only [Int.toNat_natCast]
    refine ⟨fun z => by omega, fun _ => ck_ix (by omega) ⟨fun e => ck_rg (by omega) (ih (i + 1) h1 (by omega) (by omega) f T lo mo (fun m hm hb => ?_)), fun ne => ?_⟩⟩
    · by_cases q : m = i
      · rw [q, and_two.mp (by omega)] at hb; cases hb
      · exact up m (by omega) hb
    · have hb : (W i).testBit k = true := by
        cases q : (W i).testBit k
        · exact absurd (and_two.mpr q) (by omega)
        · rfl
      have gt : D < D ||| W i := by
        have s : subB D (D ||| W i) := fun t ht => by rw [Nat.testBit_or, ht]; rfl
        have le := subB_le s
        have n : D ≠ D ||| W i := fun z => by
          have : (D ||| W i).testBit k = true := by rw [Nat.testBit_or, hb, Bool.or_true]
          rw [← z, hDk] at this
          cases this
        omega
      (repeat first | refine ck_ix (by omega) ?_ | refine ck_rg (by omega) ?_ | refine ck_rl (by omega) ?_)
      refine ih (i + 1) _ (by omega) (by omega) (f.up (by decide) (by decide)) (TSO_up T hD (hW i hi2).2 w1 (by omega) (v := min (h1 112 (D ||| W i)) (h1 112 D + 1)) (by omega) (by omega) (fun j => up_in _ _ _ _ _)) (fun S hS => ?_) (fun S hS => ?_) (fun m hm hb2 => ?_)
      · rw [up_ne (by omega)]; exact lo S hS
      · rw [up_in]
        by_cases q : S = D ||| W i
        · rw [if_pos q, q]; omega
        · rw [if_neg q]; exact mo S hS
      · rw [up_in]
        by_cases q : D ||| W m = D ||| W i
        · rw [if_pos q]; omega
        · rw [if_neg q]
          by_cases q2 : m = i
          · rw [q2] at q; exact absurd rfl q
          · exact up m (by omega) hb2
theorem c_fr {N : Nat} {C : Int → aH → Prop} {h : aH} {c r : Nat} {W : Nat → Nat} (P : PI h) (hr : r ≤ 144) (hW : ∀ m, m < r → W m < 4096 ∧ RW h c (W m)) {h0 : aH} (hn : h0 110 5 = (r : Int)) (hW0 : ∀ m, m < r → h0 111 m = (W m : Int))
    (hC : ∀ h', Fr [112] [] h0 h' → TSO h c (h' 112) → TDN (ALLH h) (h' 112) r W (ALLH h) → C (h' 112 (ALLH h)) h') : ∀ (d i : Nat) (h1 : aH), d = ALLH h - i → i ≤ ALLH h → Fr [112] [] h0 h1 → TSO h c (h1 112) → TDN (ALLH h) (h1 112) r W i →
    WI N 133 21 [(0, .inr (.inr 110)), (2, .inl (ALLH h : Int)), (3, .inl (i : Int))] h1 C := by
  have al := ALLH_lt P
  intro d
  induction d with
  | zero =>
    intro i h1 hd hi f T D
    have : i = ALLH h := by omega
    subst this
    refine w_133_21 ⟨fun _ => ck_ix (by omega) ?_, fun z => absurd (Int.le_refl _) z⟩
    rw [Int.toNat_natCast]
    exact hC h1 f T D
  | succ d ih =>
    intro i h1 hd hi f T D
    have hi2 : i < 4096 := by omega
    have b1 := (T.2 i hi2).1
    refine w_133_21 ⟨fun z => by omega, fun _ => ck_ix (by omega) ?_⟩
    rw [Int.toNat_natCast]
    refine ⟨fun ge => ck_rg (by omega) (ih (i + 1) h1 (by omega) (by omega) f T (fun S hS sS lt m hm hb => ?_)), fun lt => ?_⟩
    · by_cases q : S = i
      · rw [q] at lt; omega
      · exact D S (by omega) sS lt m hm hb
    · obtain ⟨L, l1, l2, l3⟩ := (T.2 i hi2).2 (by omega)
      have sub : subB i (ALLH h) := by rw [← l3]; exact orL_sub l2
      clear l3 l2 l1 L
      obtain ⟨f1, f2, f3, f4, f5⟩ := LFT_ok al sub (by omega)
      obtain ⟨g1, g2, g3⟩ := lb_ok f1 f2
      refine w_139_0 ?_
      rw [bt_clr (by omega) (by omega), show (ALLH h &&& (i ^^^ 4294967295)) = LFT (ALLH h) i from rfl, g1]
      refine ck_rg (by omega) (c_go (h0 := h0) (g0 := h1 112) hi2 f4 f5 hr hW hn hW0 (fun h2 f2' T2 lo mo up => ck_rg (by omega) (ih (i + 1) h2 (by omega) (by omega) f2' T2 (fun S hS sS lt2 m hm hb => ?_))) r 0 h1 rfl (Nat.zero_le _) f T (fun S _ => rfl) (fun S _ => Int.le_refl _) (fun m hm => absurd hm (Nat.not_lt_zero m)))
      have e1 := lo S (by omega)
      by_cases q : S = i
      · rw [q] at hb e1 ⊢
        rw [e1]
        exact up m hm hb
      · rw [e1] at lt2 ⊢
        have w1 := (hW m hm).1
        have u := D S (by omega) sS lt2 m hm hb
        have m2 := mo (S ||| W m) (or_4096 (by omega) w1)
        omega
theorem c_fl112 {N : Nat} {C : aH → Prop} {h : aH} {v : Int} (hC : ∀ h', Fr [112] [] h h' → (∀ j, j < 4096 → h' 112 j = v) → C h') : ∀ (d j : Nat) (h1 : aH), d = 4096 - j → j ≤ 4096 → Fr [112] [] h h1 → (∀ i, i < j → h1 112 i = v) →
    WV N 71 6 [(0, .inr (.inr 112)), (1, .inl v), (2, .inl (j : Int)), (3, .inl 4096)] h1 C := by
  intro d
  induction d with
  | zero =>
    intro j h1 hd hj hf hv
    have : j = 4096 := by omega
    subst this
    exact w_71_6_r112 ⟨fun _ => hC h1 hf hv, fun z => absurd (show (4096 : Int) ≤ ((4096 : Nat) : Int) by decide) z⟩
  | succ d ih =>
    intro j h1 hd hj hf hv
    refine w_71_6_r112 ⟨fun z => by omega, fun _ => ?_⟩
    (repeat first | refine ck_ix (by omega) ?_ | refine ck_rg (by omega) ?_ | refine ck_rl (by omega) ?_)
    simp only [Int.toNat_natCast]
    refine ih (j + 1) _ (by omega) (by omega) (hf.up (by decide) (by decide)) (fun i hi => ?_)
    rw [up_in]
    by_cases e : i = j
    · rw [if_pos e]
    · rw [if_neg e]; exact hv i (by omega)
theorem c_fewest {N : Nat} {C : Int → aH → Prop} {h : aH} {c : Int} (P : PI h) (O : okHrs h) (sc : scr h) (hY : 0 ≤ c ∧ c < h 16 15 → ∀ v h', Fr SNC [] h h' → scr h' → FEW h c.toNat v → C v h') (hN : ¬ (0 ≤ c ∧ c < h 16 15) → C (-1) h) : WI N 132 0 [(0, .inr (.inr 9)), (1, .inl c)] h C := by
  refine w_132_0 (c_isClock (fun q => z1 ?_) (fun q => z0 (hN q)))
  have hY := hY q
  obtain ⟨c, rfl⟩ := Int.eq_ofNat_of_zero_le q.1
  rw [Int.toNat_natCast] at hY
  have al := ALLH_lt P
  refine w_133_0 (c_deafOnes P O sc q.2 (fun h1 f s1 G => ⟨fun e => ?_, fun ne => hY _ h1 f s1 (Or.inl ⟨by omega, rfl⟩)⟩))
  have hd0 : DEAF h c = 0 := by omega
  have kp := f.kp (by decide)
  refine c_bound (kp.pi P) ?_
  have eA : bset (HASH h1) (NSL h1) = ALLH h := by
    unfold ALLH NSL
    rw [HASH_kp kp, kp.at 16 (by decide)]
  rw [eA]
  refine w_71_0_r112 (ck_rg (by omega) (c_fl112 (fun h2 f2 hv => ck_ix (by omega) ?_) 4096 0 h1 rfl (Nat.zero_le _) Fr.rfl (fun i hi => absurd hi (Nat.not_lt_zero i))))
  obtain ⟨r, W, r1, r2, r3, r4⟩ := G
  have f3 : Fr [112] [] h1 (am_up h2 112 0 0) := f2.up (by decide) (by decide)
  have hW : ∀ m, m < r → W m < 4096 ∧ RW h c (W m) := fun m hm => by
    obtain ⟨_, b, j, q1, q2⟩ := r3 m hm
    exact ⟨by rw [q2]; exact RNG_4096 P c b j, b, j, q1, q2⟩
  have T0 : TSO h c (am_up h2 112 0 0 112) := TSO_0 (fun S hS => by
    rw [up_in]
    by_cases z : S = 0
    · rw [if_pos z, if_pos z]
    · rw [if_neg z, if_neg z]; exact hv S hS)
  refine c_fr (h0 := h1) P r1 hW r2 (fun m hm => (r3 m hm).1) (fun h4 f4 T4 D4 => ?_) _ 0 _ rfl (Nat.zero_le _) f3 T0 (fun S hS => absurd hS (Nat.not_lt_zero S))
  have key := few_of P T4 (fun L hL e => ?_)
  · exact hY _ h4 (f.trans (f4.mono (by decide) (by decide))) ⟨f4.dz (by decide) (by decide) (by decide) s1.1, by rw [f4.at 28 (by decide) (by decide)]; exact s1.2⟩ (key.2 hd0).2
  · have tb := (T4.2 (ALLH h) al).1
    have t0 := T4.1
    by_cases big : 99 < L.length
    · clear r3 r4; omega
    · obtain ⟨L', l1, l2, l3⟩ := kept_of r4 L hL
      have hS : ∀ m, m < r → subB (W m) (ALLH h) := fun m hm => RW_sub (hW m hm).2
      have e2 : 0 ||| orL L' = ALLH h := by
        rw [Nat.zero_or]
        refine subB_antisymm (fun t ht => ?_) (by rw [← e]; exact l3)
        obtain ⟨w, hw, hb⟩ := orL_tb.mp ht
        obtain ⟨m, m1, m2⟩ := l2 w hw
        exact hS m m1 t (by rw [← m2]; exact hb)
      have := c_cmp al D4 hS L'.length 0 (fun t ht => by rw [Nat.zero_testBit] at ht; cases ht) (by clear r3 r4; omega) L' rfl l2 e2
      clear r3 r4
      omega
