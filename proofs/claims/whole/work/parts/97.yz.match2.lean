/-! SHAKES: the class matches -/
theorem c_fl116 {N : Nat} {C : aH → Prop} {h : aH} {v : Int} (hC : ∀ h', Fr [116] [] h h' → (∀ j, j < 9 → h' 116 j = v) → C h') : ∀ (d j : Nat) (h1 : aH), d = 9 - j → j ≤ 9 → Fr [116] [] h h1 → (∀ i, i < j → h1 116 i = v) →
    WV N 148 6 [(0, .inr (.inr 116)), (1, .inr (.inl v)), (3, .inl (j : Int)), (4, .inl 9)] h1 C := by
  intro d
  induction d with
  | zero =>
    intro j h1 hd hj hf hv
    have : j = 9 := by omega
    subst this
    exact w_148_6_r116 ⟨fun _ => hC h1 hf hv, fun z => absurd (show (9 : Int) ≤ ((9 : Nat) : Int) by decide) z⟩
  | succ d ih =>
    intro j h1 hd hj hf hv
    refine w_148_6_r116 ⟨fun z => by omega, fun _ => ?_⟩
    (repeat first | refine ck_ix (by omega) ?_ | refine ck_rg (by omega) ?_ | refine ck_rl (by omega) ?_)
    simp only [Int.toNat_natCast]
    refine ih (j + 1) _ (by omega) (by omega) (hf.up (by decide) (by decide)) (fun i hi => ?_)
    rw [up_in]
    by_cases e : i = j
    · rw [if_pos e]
    · rw [if_neg e]; exact hv i (by omega)
theorem c_fl117 {N : Nat} {C : aH → Prop} {h : aH} {v : Int} (hC : ∀ h', Fr [117] [] h h' → (∀ j, j < 25 → h' 117 j = v) → C h') : ∀ (d j : Nat) (h1 : aH), d = 25 - j → j ≤ 25 → Fr [117] [] h h1 → (∀ i, i < j → h1 117 i = v) →
    WV N 148 6 [(0, .inr (.inr 117)), (1, .inr (.inl v)), (3, .inl (j : Int)), (4, .inl 25)] h1 C := by
  intro d
  induction d with
  | zero =>
    intro j h1 hd hj hf hv
    have : j = 25 := by omega
    subst this
    exact w_148_6_r117 ⟨fun _ => hC h1 hf hv, fun z => absurd (show (25 : Int) ≤ ((25 : Nat) : Int) by decide) z⟩
  | succ d ih =>
    intro j h1 hd hj hf hv
    refine w_148_6_r117 ⟨fun z => by omega, fun _ => ?_⟩
    (repeat first | refine ck_ix (by omega) ?_ | refine ck_rg (by omega) ?_ | refine ck_rl (by omega) ?_)
    simp only [Int.toNat_natCast]
    refine ih (j + 1) _ (by omega) (by omega) (hf.up (by decide) (by decide)) (fun i hi => ?_)
    rw [up_in]
    by_cases e : i = j
    · rw [if_pos e]
    · rw [if_neg e]; exact hv i (by omega)
theorem c_fl119 {N : Nat} {C : aH → Prop} {h : aH} {v : Int} (hC : ∀ h', Fr [119] [] h h' → (∀ j, j < 25 → h' 119 j = v) → C h') : ∀ (d j : Nat) (h1 : aH), d = 25 - j → j ≤ 25 → Fr [119] [] h h1 → (∀ i, i < j → h1 119 i = v) →
    WV N 71 6 [(0, .inr (.inr 119)), (1, .inl v), (2, .inl (j : Int)), (3, .inl 25)] h1 C := by
  intro d
  induction d with
  | zero =>
    intro j h1 hd hj hf hv
    have : j = 25 := by omega
    subst this
    exact w_71_6_r119 ⟨fun _ => hC h1 hf hv, fun z => absurd (show (25 : Int) ≤ ((25 : Nat) : Int) by decide) z⟩
  | succ d ih =>
    intro j h1 hd hj hf hv
    refine w_71_6_r119 ⟨fun z => by omega, fun _ => ?_⟩
    (repeat first | refine ck_ix (by omega) ?_ | refine ck_rg (by omega) ?_ | refine ck_rl (by omega) ?_)
    simp only [Int.toNat_natCast]
    refine ih (j + 1) _ (by omega) (by omega) (hf.up (by decide) (by decide)) (fun i hi => ?_)
    rw [up_in]
    by_cases e : i = j
    · rw [if_pos e]
    · rw [if_neg e]; exact hv i (by omega)
theorem HUN_0 {h : aH} {c : Nat} {U V A : Nat → Int} (u : ∀ r, r ≤ 8 → U r = 0) (v : ∀ s, s ≤ NS h c → V s = 0) (a : ∀ s, s ≤ NS h c → A s = 0) : HUN h c 1 U V A :=
  ⟨fun r s x y => by omega, fun s x y => Or.inl (a s y), fun s s' x y _ _ nz => absurd (a s y) nz, fun r x y => by omega, fun s x y => ⟨by rw [v s y]; exact Int.le_refl 0, fun _ => v s y⟩, fun r r8 _ => u r r8⟩
theorem c_match {N : Nat} {C : aH → Prop} {h : aH} {c : Nat} (P : PI h) (O : okEight h) (V : okNin h) (hc : 1 ≤ c ∧ c ≤ 2) (hC : ∀ h', HCX h c h' → HUN h c (NE h + 1) (h' 116) (h' 117) (h' 119) → WV N 152 0 [(0, .inr (.inr 113)), (1, .inl (c : Int))] h' C) : WV N 144 0 [(0, .inr (.inr 113)), (1, .inl (c : Int))] h C := by
  have n8 := NE_le h
  have m24 := NS_le (h := h) hc
  have eN : (NE h : Int) * (c : Int) = ((NE h * c : Nat) : Int) := (Int.natCast_mul _ _).symm
  have m16 : NE h * c ≤ 24 := by unfold NS at m24; omega
  refine w_144_0 ?_
  rw [O.1, eN]
  refine ck_rg (by omega) (ck_rg (by omega) (w_145_0 ?_))
  have kp0 : Kp h (am_up h 113 10 (((NE h * c : Nat) : Int) + (NE h : Int))) := Fr.kp (C := [113]) (D := []) (Fr.rfl.up (by decide) (by decide)) (by decide)
  rw [kp0.at 16 (by decide), O.1]
  refine c_sp7 P O V hc (fun h1 f1 k1 p1 => ?_) _ 0 _ rfl (Nat.zero_le _) (Fr.rfl.up (by decide) (by decide)) (by rw [up_same]; omega) (fun q s hq => absurd hq (Nat.not_lt_zero q))
  have K1 : HCX h c h1 := ⟨f1, k1, p1⟩
  refine w_148_0_r116 (ck_rg (by omega) (c_fl116 (fun h2 f2 v2 => ?_) 9 0 h1 rfl (Nat.zero_le _) Fr.rfl (fun i hi => absurd hi (Nat.not_lt_zero i))))
  refine w_148_0_r117 (ck_rg (by omega) (c_fl117 (fun h3 f3 v3 => ?_) 25 0 h2 rfl (Nat.zero_le _) Fr.rfl (fun i hi => absurd hi (Nat.not_lt_zero i))))
  refine w_71_0_r119 (ck_rg (by omega) (c_fl119 (fun h4 f4 v4 => ?_) 25 0 h3 rfl (Nat.zero_le _) Fr.rfl (fun i hi => absurd hi (Nat.not_lt_zero i))))
  have K4 : HCX h c h4 := ((K1.mv (f2.mono (by decide) (by decide))).mv (f3.mono (by decide) (by decide))).mv (f4.mono (by decide) (by decide))
  have e116 : h4 116 = h2 116 := by rw [f4.at 116 (by decide) (by decide), f3.at 116 (by decide) (by decide)]
  have e117 : h4 117 = h3 117 := f4.at 117 (by decide) (by decide)
  refine c_ma29 P hc hC _ 1 h4 rfl (Nat.le_refl 1) (by omega) K4 (HUN_0 (fun r r8 => by rw [e116]; exact v2 r (by omega)) (fun s hs => by rw [e117]; exact v3 s (by omega)) (fun s hs => v4 s (by omega))) ?_
  rw [e117, v3 0 (by omega)]
  omega
