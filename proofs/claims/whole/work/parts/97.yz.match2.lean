/-! SHAKES: the class matches -/
theorem c_fl116 {N : Nat} {C : aH → Prop} {h : aH} {v : Int} (hC : ∀ h', Fr [116] [] h h' → (∀ j, j < 9 → h' 116 j = v) → C h') : ∀ (d j : Nat) (h1 : aH), d = 9 - j → j ≤ 9 → Fr [116] [] h h1 → (∀ i, i < j → h1 116 i = v) →
    WV N 148 6 [(0, .inr (.inr 116)), (1, .inr (.inl v)), (3, .inl (j : Int)), (4, .inl 9)] h1 C := by
  intro d
  induction d with
  | zero =>
    intro j h1 hd hj hf hv
    have : j = 9 := by omega
    subst this
    exact w_148_6_r116 ⟨fun _ => hC h1 hf hv, fun z => absurd (show (9 : Int) ≤ ((9 : Nat) : Int) by decide) z⟩
  | succ d ih =>
    intro j h1 hd hj hf hv
    refine w_148_6_r116 ⟨fun z => by omega, fun _ => ?_⟩
    (repeat first | refine ck_ix (by omega) ?_ | refine ck_rg (by omega) ?_ | refine ck_rl (by omega) ?_)
    simp only [Int.toNat_natCast]
    refine ih (j + 1) _ (by omega) (by omega) (hf.up (by decide) (by decide)) (fun i hi => ?_)
    rw [up_in]
    by_cases e : i = j
    · rw [if_pos e]
    · rw [if_neg e]; exact hv i (by omega)
theorem c_fl117 {N : Nat} {C : aH → Prop} {h : aH} {v : Int} (hC : ∀ h', Fr [117] [] h h' → (∀ j, j < 25 → h' 117 j = v) → C h') : ∀ (d j : Nat) (h1 : aH), d = 25 - j → j ≤ 25 → Fr [117] [] h h1 → (∀ i, i < j → h1 117 i = v) →
    WV N 148 6 [(0, .inr (.inr 117)), (1, .inr (.inl v)), (3, .inl (j : Int)), (4, .inl 25)] h1 C := by
  intro d
  induction d with
  | zero =>
    intro j h1 hd hj hf hv
    have : j = 25 := by omega
    subst this
    exact w_148_6_r117 ⟨fun _ => hC h1 hf hv, fun z => absurd (show (25 : Int) ≤ ((25 : Nat) : Int) by decide) z⟩
  | succ d ih =>
    intro j h1 hd hj hf hv
    refine w_148_6_r117 ⟨fun z => by omega, fun _ => ?_⟩
    (repeat first | refine ck_ix (by omega) ?_ | refine ck_rg (by omega) ?_ | refine ck_rl (by omega) ?_)
    simp only [Int.toNat_natCast]
    refine ih (j + 1) _ (by omega) (by omega) (hf.up (by decide) (by decide)) (fun i hi => ?_)
    rw [up_in]
    by_cases e : i = j
    · rw [if_pos e]
    · rw [if_neg e]; exact hv i (by omega)
theorem c_fl119 {N : Nat} {C : aH → Prop} {h : aH} {v : Int} (hC : ∀ h', Fr [119] [] h h' → (∀ j, j < 25 → h' 119 j = v) → C h') : ∀ (d j : Nat) (h1 : aH), d = 25 - j → j ≤ 25 → Fr [119] [] h h1 → (∀ i, i < j → h1 119 i = v) →
    WV N 71 6 [(0, .inr (.inr 119)), (1, .inl v), (2, .inl (j : Int)), (3, .inl 25)] h1 C := by
  intro d
  induction d with
  | zero =>
    intro j h1 hd hj hf hv
    have : j = 25 := by omega
    subst this
    exact w_71_6_r119 ⟨fun _ => hC h1 hf hv, fun z => absurd (show (25 : Int) ≤ ((25 : Nat) : Int) by decide) z⟩
  | succ d ih =>
    intro j h1 hd hj hf hv
    refine w_71_6_r119 ⟨fun z => by omega, fun _ => ?_⟩
    (repeat first | refine ck_ix (by omega) ?_ | refine ck_rg (by omega) ?_ | refine ck_rl (by omega) ?_)
    simp only [Int.toNat_natCast]
    refine ih (j + 1) _ (by omega) (by omega) (hf.up (by decide) (by decide)) (fun i hi => ?_)
    rw [up_in]
    by_cases e : i = j
    · rw [if_pos e]
    · rw [if_neg e]; exact hv i (by omega)
theorem HUN_0 {h : aH} {c : Nat} {U V A : Nat → Int} (u : ∀ r, r ≤ 8 → U r = 0) (big : ∀ r, 8 < r → U r = 0) (v : ∀ s, s ≤ NS h c → V s = 0) (a : ∀ s, s ≤ NS h c → A s = 0) : HUN h c 1 U V A :=
  ⟨fun r s x y => by omega, fun s x y => Or.inl (a s y), fun s s' x y _ _ nz => absurd (a s y) nz, fun r x y => by omega, fun s x y => ⟨by rw [v s y]; exact Int.le_refl 0, fun _ => v s y⟩, fun r _ => by
    rcases Nat.lt_or_ge 8 r with z | z
    · exact big r z
    · exact u r z⟩
