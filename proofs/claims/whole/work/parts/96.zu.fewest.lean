/-! FEWEST: the reference's -/
def MFW : List Nat := [159, 160, 172, 174]
theorem or_nz {a b : Nat} (hb : b ≠ 0) (hb2 : b < 4096) : a ||| b ≠ 0 := by
  obtain ⟨t, _, h⟩ := nz_bit (n := 12) hb hb2
  intro z
  have : (a ||| b).testBit t = true := by rw [Nat.testBit_or, h, Bool.or_true]
  rw [z, Nat.zero_testBit] at this
  cases this
theorem m_f60 {N : Nat} {C : Int → aH → Prop} {h : aH} {c b j : Nat} (P : PI h) (hI : INR h b j) (hb : b < 100) (hj : j < 100) (hz0 : RNG h c b j ≠ 0) {f0 : Nat → Int} (hC : ∀ h', Fr [174] [] h h' → TSO h c (h' 174) → (∀ S, S < 4096 → h' 174 S ≤ f0 S) → (∀ S, S < 4096 → subB S (ALLH h) → h' 174 (S ||| RNG h c b j) ≤ f0 S + 1) → WI N 299 41 [(0, .inr (.inr 130)), (1, .inl (c : Int)), (2, .inl (ALLH h : Int)), (3, .inl (b : Int)), (4, .inl ((j : Int) + 1))] h' C) : ∀ (d i : Nat) (h1 : aH), d = 4096 - i → i ≤ 4096 → Fr [174] [] h h1 → TSO h c (h1 174) → (∀ S, S < 4096 → h1 174 S ≤ f0 S) → (∀ S, S < i → subB S (ALLH h) → h1 174 (S ||| RNG h c b j) ≤ f0 S + 1) →
    WI N 299 60 [(0, .inr (.inr 130)), (1, .inl (c : Int)), (2, .inl (ALLH h : Int)), (3, .inl (b : Int)), (4, .inl (j : Int)), (5, .inl (RNG h c b j : Int)), (6, .inl (i : Int))] h1 C := by
  have al := ALLH_lt P
  have rl := RNG_4096 P c b j
  intro d
  induction d with
  | zero =>
    intro i h1 hd hi f T mo up
    have : i = 4096 := by omega
    subst this
    exact w_299_60 ⟨fun _ => ck_rg (by omega) (hC h1 f T mo up), fun z => absurd (show (4096 : Int) ≤ ((4096 : Nat) : Int) by decide) z⟩
  | succ d ih =>
    intro i h1 hd hi f T mo up
    have hi2 : i < 4096 := by omega
    have hs := subB_iff (a := i) (p := ALLH h) hi2
    have ol := or_4096 hi2 rl
    have b1 := (T.2 i hi2).1
    have b2 := (T.2 (i ||| RNG h c b j) ol).1
    have m1 := mo i hi2
    have m2 := mo _ ol
    refine w_299_60 ?_
    rw [bt_clr (by omega) (by omega), bt_or (by omega) (by omega)]
    simp only [Int.toNat_natCast]
    refine ⟨fun z => by omega, fun _ => ⟨fun ne => ck_rg (by omega) (ih (i + 1) h1 (by omega) (by omega) f T mo (fun S hS sS => ?_)), fun e => ?_⟩⟩
    · by_cases q : S = i
      · rw [q] at sS; exact absurd (hs.mpr sS) (by omega)
      · exact up S (by omega) sS
    · have sub := hs.mp (by omega)
      (repeat first | refine ck_ix (by omega) ?_ | refine ck_rg (by omega) ?_ | refine ck_rl (by omega) ?_)
      refine ⟨fun le => ?_, fun gt => ?_⟩
      · (repeat first | refine ck_ix (by omega) ?_ | refine ck_rg (by omega) ?_ | refine ck_rl (by omega) ?_)
        refine ih (i + 1) h1 (by omega) (by omega) f T mo (fun S hS sS => ?_)
        by_cases q : S = i
        · rw [q]; omega
        · exact up S (by omega) sS
      · (repeat first | refine ck_ix (by omega) ?_ | refine ck_rg (by omega) ?_ | refine ck_rl (by omega) ?_)
        refine ih (i + 1) _ (by omega) (by omega) (f.up (by decide) (by decide)) (TSO_up T hi2 ⟨b, j, hI, rfl⟩ rl (or_nz hz0 rl) (v := h1 174 i + 1) (by omega) (Or.inr rfl) (fun j => up_in _ _ _ _ _)) (fun S hS => ?_) (fun S hS sS => ?_)
        · rw [up_in]
          by_cases q : S = i ||| RNG h c b j
          · rw [if_pos q, q]; omega
          · rw [if_neg q]; exact mo S hS
        · rw [up_in]
          by_cases q2 : S = i
          · rw [q2, if_pos rfl]; omega
          · have u := up S (by omega) sS
            by_cases q : S ||| RNG h c b j = i ||| RNG h c b j
            · rw [if_pos q]; rw [q] at u; omega
            · rw [if_neg q]; exact u
theorem m_f41 {N : Nat} {C : Int → aH → Prop} {h : aH} {c b : Nat} (P : PI h) (R : RelH h) (Q : RelP h) (hc : (c : Int) < h 16 15) (hb : b < NBD h) (hC : ∀ h', Fr MFW [58] h h' → MHO h h' → TSO h c (h' 174) → TCM h c (fun b' j' => b' < b + 1 ∧ j' < NHR h) (h' 174) → WI N 299 31 [(0, .inr (.inr 130)), (1, .inl (c : Int)), (2, .inl (ALLH h : Int)), (3, .inl ((b : Int) + 1))] h' C) : ∀ (d j : Nat) (h1 : aH), d = NHR h - j → j ≤ NHR h → Fr MFW [58] h h1 → MHO h h1 → TSO h c (h1 174) → TCM h c (fun b' j' => (b' < b ∧ j' < NHR h) ∨ (b' = b ∧ j' < j)) (h1 174) →
    WI N 299 41 [(0, .inr (.inr 130)), (1, .inl (c : Int)), (2, .inl (ALLH h : Int)), (3, .inl (b : Int)), (4, .inl (j : Int))] h1 C := by
  have hz := P.1.1
  unfold okSz at hz
  have n12 : NSL h ≤ 12 := by unfold NSL; omega
  have nh := NHR_le h
  have b12 : NBD h ≤ 12 := by unfold NBD; omega
  intro d
  induction d with
  | zero =>
    intro j h1 hd hj f M T K
    have : j = NHR h := by omega
    subst this
    refine w_299_41 ?_
    rw [M.1]
    refine ⟨fun _ => ck_rg (by omega) (hC h1 f M T (fun L hL => K L (fun w hw => ?_))), fun z => absurd (Int.le_refl _) z⟩
    obtain ⟨b', j', q1, q2, q3⟩ := hL w hw
    refine ⟨b', j', q1, ?_, q3⟩
    rcases Nat.eq_or_lt_of_le (Nat.le_of_lt_succ q2.1) with e | e
    · exact Or.inr ⟨e, q2.2⟩
    · exact Or.inl ⟨e, q2.2⟩
  | succ d ih =>
    intro j h1 hd hj f M T K
    have kp := f.kp (by decide)
    have hj2 : j < NHR h := by omega
    have e1 : NBD h1 = NBD h := by unfold NBD; rw [kp.at 16 (by decide)]
    have hd1 : d = NHR h - (j + 1) := by omega
    have hj3 : j + 1 ≤ NHR h := by omega
    have prj : ∀ b' j', ((b' < b ∧ j' < NHR h) ∨ (b' = b ∧ j' < j + 1)) → (b' = b ∧ j' = j) ∨ ((b' < b ∧ j' < NHR h) ∨ (b' = b ∧ j' < j)) := fun b' j' z => by omega
    refine w_299_41 ?_
    rw [M.1, Int.toNat_natCast, M.2 j hj2]
    refine ⟨fun z => by omega, fun _ => ck_ix (by omega) (m_wakes (kp.pi P) (R.mv f (by decide) (by decide) (by decide)) (Q.keep kp f (by decide) (by decide)) (by rw [kp.at 16 (by decide)]; exact hc) (by rw [e1]; exact hb) (HOU_rg P hj2) (fun h2 f2 => ?_))⟩
    have eR : WKS h1 (h1 19 c) b (SAT h1 c (HOU h j)) = RNG h c b j := by
      rw [WKS_kp kp, kp.at 19 (by decide)]
      unfold SAT
      rw [kp.at 20 (by decide)]
      rfl
    rw [eR]
    have f12 : Fr MFW [58] h h2 := f.trans (f2.mono (by decide) (by decide))
    have M2 : MHO h h2 := ⟨by rw [f2.2 58 (by decide)]; exact M.1, fun i hi => by rw [f2.at 172 (by decide) (by decide)]; exact M.2 i hi⟩
    have e174 : h2 174 = h1 174 := f2.at 174 (by decide) (by decide)
    have T2 : TSO h c (h2 174) := by rw [e174]; exact T
    have K2 := K
    rw [← e174] at K2
    have kp2 := f12.kp (by decide)
    refine ⟨fun ne => ?_, fun e => ck_rg (by omega) (ih (j + 1) h2 hd1 hj3 f12 M2 T2 (TCM_step P K2 prj (fun S _ => Int.le_refl _) (fun z => absurd z (by omega))))⟩
    have eA : ALLH h2 = ALLH h := by unfold ALLH NSL; rw [HASH_kp kp2, kp2.at 16 (by decide)]
    have eT : ∀ g, TSO h2 c g ↔ TSO h c g := by
      intro g
      have : RW h2 = RW h := by
        funext c w
        unfold RW INR NBD NHR NSL
        rw [RNG_kp kp2, kp2.at 16 (by decide), kp2.at 23 (by decide)]
      unfold TSO
      rw [this]
    have eI : INR h2 b j := by
      unfold INR NBD NHR NSL
      rw [kp2.at 16 (by decide), kp2.at 23 (by decide)]
      exact ⟨hb, hj2⟩
    have r := m_f60 (N := N) (C := C) (h := h2) (c := c) (b := b) (j := j) (f0 := h2 174) (kp2.pi P) eI (by omega) (by omega) (by rw [RNG_kp kp2]; omega) (fun h3 f3 T3 mo up => ?_) 4096 0 h2 rfl (Nat.zero_le _) Fr.rfl ((eT _).mpr T2) (fun S _ => Int.le_refl _) (fun S hS => absurd hS (Nat.not_lt_zero S))
    · rw [eA, RNG_kp kp2] at r
      exact r
    · rw [eA]
      rw [RNG_kp kp2, eA] at up
      exact ih (j + 1) h3 hd1 hj3 (f12.trans (f3.mono (by decide) (by decide))) ⟨by rw [f3.2 58 (by decide)]; exact M2.1, fun i hi => by rw [f3.at 172 (by decide) (by decide)]; exact M2.2 i hi⟩ ((eT _).mp T3) (TCM_step P K2 prj mo (fun _ => up))
theorem m_f31 {N : Nat} {C : Int → aH → Prop} {h : aH} {c : Nat} (P : PI h) (R : RelH h) (Q : RelP h) (hc : (c : Int) < h 16 15) (hC : ∀ v h', Fr MFW [58] h h' → FEW h c v → C v h') : ∀ (d b : Nat) (h1 : aH), d = NBD h - b → b ≤ NBD h → Fr MFW [58] h h1 → MHO h h1 → TSO h c (h1 174) → TCM h c (fun b' j' => b' < b ∧ j' < NHR h) (h1 174) →
    WI N 299 31 [(0, .inr (.inr 130)), (1, .inl (c : Int)), (2, .inl (ALLH h : Int)), (3, .inl (b : Int))] h1 C := by
  have al := ALLH_lt P
  intro d
  induction d with
  | zero =>
    intro b h1 hd hb f M T K
    have : b = NBD h := by omega
    subst this
    have kp := f.kp (by decide)
    have e1 : NBD h1 = NBD h := by unfold NBD; rw [kp.at 16 (by decide)]
    obtain ⟨g1, g2, g3⟩ := m_nbd (kp.pi P) (R.mv f (by decide) (by decide) (by decide))
    obtain ⟨few1, few2⟩ := few_of P T (fun L hL e => by
      have := K L (fun w hw => by obtain ⟨b', j', q, e2⟩ := hL w hw; exact ⟨b', j', q, q, e2⟩)
      rw [e] at this
      exact this)
    have tb := (T.2 (ALLH h) al).1
    refine w_299_31 (ck_ix (by omega) ?_)
    rw [g2, e1, Int.toNat_natCast]
    refine ⟨fun _ => ck_ix (by omega) ⟨fun le => ck_ix (by omega) (hC _ h1 f ?_), fun gt => hC _ h1 f ?_⟩, fun z => absurd (Int.le_refl _) z⟩
    · by_cases hd0 : DEAF h c = 0
      · exact (few2 hd0).2
      · have := few1 hd0; omega
    · by_cases hd0 : DEAF h c = 0
      · exact absurd (few2 hd0).1 gt
      · exact Or.inl ⟨hd0, rfl⟩
  | succ d ih =>
    intro b h1 hd hb f M T K
    have kp := f.kp (by decide)
    have e1 : NBD h1 = NBD h := by unfold NBD; rw [kp.at 16 (by decide)]
    obtain ⟨g1, g2, g3⟩ := m_nbd (kp.pi P) (R.mv f (by decide) (by decide) (by decide))
    refine w_299_31 (ck_ix (by omega) ?_)
    rw [g2, e1]
    refine ⟨fun z => by omega, fun _ => m_f41 P R Q hc (by omega) (fun h2 f2 M2 T2 K2 => ih (b + 1) h2 (by omega) (by omega) f2 M2 T2 K2) _ 0 h1 rfl (Nat.zero_le _) f M T (fun L hL => K L (fun w hw => ?_))⟩
    obtain ⟨b', j', q1, q2, q3⟩ := hL w hw
    exact ⟨b', j', q1, by rcases q2 with z | z; exact z; exact absurd z.2 (Nat.not_lt_zero _), q3⟩
theorem m_f14 {N : Nat} {C : Int → aH → Prop} {h : aH} {c x : Int} (hC : ∀ h', Fr [174] [] h h' → (∀ S, S < 4096 → h' 174 S = if S = 0 then 0 else 100) → WI N 299 31 [(0, .inr (.inr 130)), (1, .inl c), (2, .inl x), (3, .inl 0)] h' C) : ∀ (d i : Nat) (h1 : aH), d = 4096 - i → i ≤ 4096 → Fr [174] [] h h1 → (∀ S, S < i → h1 174 S = if S = 0 then 0 else 100) →
    WI N 299 14 [(0, .inr (.inr 130)), (1, .inl c), (2, .inl x), (3, .inl (i : Int))] h1 C := by
  intro d
  induction d with
  | zero =>
    intro i h1 hd hi f hv
    have : i = 4096 := by omega
    subst this
    exact w_299_14 ⟨fun _ => hC h1 f hv, fun z => absurd (show (4096 : Int) ≤ ((4096 : Nat) : Int) by decide) z⟩
  | succ d ih =>
    intro i h1 hd hi f hv
    refine w_299_14 ⟨fun z => by omega, fun _ => ⟨fun ne => ?_, fun e => ?_⟩⟩
    · (repeat first | refine ck_ix (by omega) ?_ | refine ck_rg (by omega) ?_ | refine ck_rl (by omega) ?_)
      rw [Int.toNat_natCast]
      refine ih (i + 1) _ (by omega) (by omega) (f.up (by decide) (by decide)) (fun S hS => ?_)
      rw [up_in]
      by_cases q : S = i
      · rw [if_pos q, if_neg (by omega)]
      · rw [if_neg q]; exact hv S (by omega)
    · (repeat first | refine ck_ix (by omega) ?_ | refine ck_rg (by omega) ?_ | refine ck_rl (by omega) ?_)
      rw [Int.toNat_natCast]
      refine ih (i + 1) _ (by omega) (by omega) (f.up (by decide) (by decide)) (fun S hS => ?_)
      rw [up_in]
      by_cases q : S = i
      · rw [if_pos q, if_pos (by omega)]
      · rw [if_neg q]; exact hv S (by omega)
theorem TSO_0 {h : aH} {c : Nat} {f : Nat → Int} (hf : ∀ S, S < 4096 → f S = if S = 0 then 0 else 100) : TSO h c f := by
  refine ⟨by rw [hf 0 (by decide), if_pos rfl], fun S hS => ?_⟩
  rw [hf S hS]
  by_cases e : S = 0
  · rw [if_pos e]
    exact ⟨by omega, fun _ => ⟨[], by show ((0 : Nat) : Int) ≤ 0; decide, fun w hw => (by cases hw), e.symm⟩⟩
  · rw [if_neg e]
    exact ⟨by omega, fun z => absurd z (by decide)⟩
theorem m_fewest {N : Nat} {C : Int → aH → Prop} {h : aH} {c : Int} (P : PI h) (R : RelH h) (Q : RelP h) (hY : 0 ≤ c ∧ c < h 16 15 → ∀ v h', Fr MFW [58] h h' → FEW h c.toNat v → C v h') (hN : ¬ (0 ≤ c ∧ c < h 16 15) → C (-1) h) : WI N 299 0 [(0, .inr (.inr 130)), (1, .inl c)] h C := by
  refine w_299_0 (m_isClock P.1 R (fun q => y1 ?_) (fun q => y0 (hN q)))
  have hY := hY q
  obtain ⟨c, rfl⟩ := Int.eq_ofNat_of_zero_le q.1
  rw [Int.toNat_natCast] at hY
  refine m_hoursNow P.1 R (fun h1 f hh hl => ?_)
  have kp := f.kp (by decide)
  refine m_withHours (kp.pi P) (R.mv f (by decide) (by decide) (by decide)) ?_
  have e : bset (HASH h1) (NSL h1) = ALLH h := by
    unfold ALLH NSL
    rw [HASH_kp kp, kp.at 16 (by decide)]
  rw [e]
  refine m_f14 (fun h2 f2 hv => ?_) 4096 0 h1 rfl (Nat.zero_le _) Fr.rfl (fun S hS => absurd hS (Nat.not_lt_zero S))
  refine m_f31 P R Q q.2 hY _ 0 h2 rfl (Nat.zero_le _) ((f.mono (by decide) (by decide)).trans (f2.mono (by decide) (by decide))) ⟨by rw [f2.2 58 (by decide)]; exact hh, fun i hi => by rw [f2.at 172 (by decide) (by decide)]; exact hl i hi⟩ (TSO_0 hv) (fun L hL => ?_)
  rcases L with _ | ⟨w, L⟩
  · rw [show orL [] = 0 from rfl, hv 0 (by decide), if_pos rfl]; exact Int.le_refl _
  · obtain ⟨b', j', q1, q2, q3⟩ := hL w List.mem_cons_self
    exact absurd q2.1 (Nat.not_lt_zero _)
