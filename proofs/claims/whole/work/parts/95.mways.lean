/-! mondayWays -/
theorem cntB_mono {p q : Nat → Bool} : ∀ {n : Nat}, (∀ i, i < n → p i = true → q i = true) → cntB p n ≤ cntB q n
  | 0, _ => Nat.le_refl _
  | n + 1, h => by
    have h1 := cntB_mono (n := n) (fun i hi => h i (by omega))
    have h2 := h n (by omega)
    show cntB p n + (bif p n then 1 else 0) ≤ cntB q n + (bif q n then 1 else 0)
    cases hp : p n with
    | false => simp; omega
    | true => rw [h2 hp]; simp; omega
/-- the sum has room -/
theorem vdf_bd {s a b u e : Nat} (h : a + b ≤ 60) : vdf s a b u e ≤ 283726776524341248 :=
  Nat.le_trans (vdf_le s a b u e) (Nat.le_trans (vdm_mono a b u e) (bin_60 h))
theorem vdf_s {s a b u e : Nat} (h : s ≤ e) : ((vdf s a b u (e + 1) : Nat) : Int) = (vdf s a b u e : Nat) + (bin a e : Nat) * (binZ b ((u : Int) - e) : Nat) := by
  show ((vdf s a b u e + (if s ≤ e then bin a e * binZ b ((u : Int) - e) else 0) : Nat) : Int) = _
  rw [if_pos h, Int.natCast_add, Int.natCast_mul]
theorem binZ_nat (n k : Nat) : binZ n (k : Int) = bin n k := by
  unfold binZ
  rw [if_pos (by omega), Int.toNat_natCast]
theorem c_wsm {N : Nat} {C : Int → aH → Prop} {h : aH} {m u l a : Nat} (hm : m ≤ 60) (hl : l ≤ m) (hu : u ≤ m) (hau : a ≤ u) (t0 : h 68 0 = (m : Int)) (t1 : h 68 1 = (u : Int)) (t2 : h 68 2 = (l : Int)) (hC : C (vdf a l (m - l) u (u + 1) : Nat) h) : ∀ (d e : Nat), d = u + 1 - e → a ≤ e → e ≤ u + 1 → WL N 193 8 [(0, .inr (.inr 58)), (1, .inr (.inl (vdf a l (m - l) u e : Nat))), (3, .inl (e : Int))] h C := by
  intro d
  induction d with
  | zero =>
    intro e hd ha he
    have : e = u + 1 := by omega
    subst this
    refine w_193_8 (ck_ix (by omega) ?_)
    rw [t1]
    exact ⟨fun _ => hC, fun z => by omega⟩
  | succ d ih =>
    intro e hd ha he
    have b1 := vdf_bd (s := a) (a := l) (b := m - l) (u := u) (e := e) (by omega)
    have b2 := vdf_bd (s := a) (a := l) (b := m - l) (u := u) (e := e + 1) (by omega)
    have s1 := vdf_s (s := a) (a := l) (b := m - l) (u := u) (e := e) ha
    refine w_193_8 (ck_ix (by omega) ?_)
    rw [t1, t2]
    refine ⟨fun z => by omega, fun _ => ?_⟩
    (repeat first | refine ck_ix (by omega) ?_ | refine ck_rg (by omega) ?_ | refine ck_rl (by omega) ?_)
    refine c_choose (by omega) ?_
    rw [binZ_nat]
    rw [t0, t1, t2, show ((m : Int) - (l : Int)) = ((m - l : Nat) : Int) by omega]
    (repeat first | refine ck_ix (by omega) ?_ | refine ck_rg (by omega) ?_ | refine ck_rl (by omega) ?_)
    refine c_choose (by omega) ?_
    have p0 := Int.mul_nonneg (a := (bin l e : Int)) (b := (binZ (m - l) ((u : Int) - e) : Int)) (by omega) (by omega)
    rw [show ((vdf a l (m - l) u e : Nat) : Int) + (bin l e : Nat) * (binZ (m - l) ((u : Int) - e) : Nat) = ((vdf a l (m - l) u (e + 1) : Nat) : Int) by rw [s1]]
    refine ck_rl (by omega) (ck_rl (by omega) (ck_rg (by omega) ?_))
    exact ih (e + 1) (by omega) (by omega) (by omega)
def vMW (h : aH) (n x : Int) : Int := if 0 ≤ n ∧ n ≤ h 58 12 then
    (if x = 0 then (binZ (cntB (MNB h n.toNat 0) n.toNat) (cntB (MNB h n.toNat 1) n.toNat : Nat) : Nat)
    else (vdf (cntB (MNB h n.toNat 3) n.toNat) (cntB (MNB h n.toNat 2) n.toNat) (cntB (MNB h n.toNat 0) n.toNat - cntB (MNB h n.toNat 2) n.toNat) (cntB (MNB h n.toNat 1) n.toNat) (cntB (MNB h n.toNat 1) n.toNat + 1) : Nat)) else -1
theorem mnb_facts (h : aH) (n : Nat) : cntB (MNB h n 1) n ≤ cntB (MNB h n 0) n ∧ cntB (MNB h n 2) n ≤ cntB (MNB h n 0) n ∧ cntB (MNB h n 3) n ≤ cntB (MNB h n 1) n ∧ cntB (MNB h n 3) n ≤ cntB (MNB h n 2) n := by
  refine ⟨cntB_mono fun i _ hp => ?_, cntB_mono fun i _ hp => ?_, cntB_mono fun i _ hp => ?_, cntB_mono fun i _ hp => ?_⟩ <;>
  · unfold MNB mwB at hp ⊢
    simp only [Bool.and_eq_true] at hp ⊢
    simp [hp]
theorem c_mondayWays {N : Nat} {C : Int → aH → Prop} {h : aH} {n x : Int} (H : HI h) (O : okMor h) (hC : ∀ h', Fr [68] [] h h' → C (vMW h n x) h') : WL N 192 0 [(0, .inr (.inr 9)), (1, .inl n), (2, .inl x)] h C := by
  have h60 := O.2.1
  refine w_192_0 (c_isKnown (fun q1 => y1 ?_) (fun q => y0 ?_))
  · obtain ⟨n, rfl⟩ := Int.eq_ofNat_of_zero_le q1.1
    obtain ⟨f1, f2, f3, f4⟩ := mnb_facts h n
    have c0 := cntB_le (MNB h n 0) n
    refine c_tally H O q1.2 (fun h' hf ht => ?_)
    have key := hC h' hf
    unfold vMW at key
    rw [if_pos q1] at key
    simp only [Int.toNat_natCast] at key
    have t0 := ht 0 (by decide)
    have t1 := ht 1 (by decide)
    have t2 := ht 2 (by decide)
    have t3 := ht 3 (by decide)
    refine ⟨fun hx => ck_ix (by omega) (ck_ix (by omega) ?_), fun hx => w_193_0 (ck_ix (by omega) ?_)⟩
    · rw [if_pos hx] at key
      rw [t0, t1]
      exact c_choose (by omega) key
    · rw [if_neg hx] at key
      rw [t3]
      have := c_wsm (N := N) (by omega) f2 f1 f3 t0 t1 t2 key _ (cntB (MNB h n 3) n) rfl (Nat.le_refl _) (by omega)
      rw [vdf_0 _ _ _ _ _ (Nat.le_refl _)] at this
      exact this
  · have key := hC h Fr.rfl
    unfold vMW at key
    rw [if_neg q] at key
    exact key
theorem m_wsm {N : Nat} {C : Int → aH → Prop} {h : aH} {m u l a : Nat} (hm : m ≤ 60) (hl : l ≤ m) (hu : u ≤ m) (hal : a ≤ l) (hC : C (vdf a l (m - l) u (l + 1) : Nat) h) : ∀ (d e : Nat), d = l + 1 - e → a ≤ e → e ≤ l + 1 → WL N 337 35 [(3, .inl (m : Int)), (4, .inl (u : Int)), (5, .inl (l : Int)), (6, .inr (.inl (vdf a l (m - l) u e : Nat))), (8, .inl (e : Int))] h C := by
  intro d
  induction d with
  | zero =>
    intro e hd ha he
    have : e = l + 1 := by omega
    subst this
    exact w_337_35 ⟨fun _ => hC, fun z => by omega⟩
  | succ d ih =>
    intro e hd ha he
    have b1 := vdf_bd (s := a) (a := l) (b := m - l) (u := u) (e := e) (by omega)
    have b2 := vdf_bd (s := a) (a := l) (b := m - l) (u := u) (e := e + 1) (by omega)
    have s1 := vdf_s (s := a) (a := l) (b := m - l) (u := u) (e := e) ha
    refine w_337_35 ⟨fun z => by omega, fun _ => m_picks (by omega) ?_⟩
    rw [binZ_nat, show ((m : Int) - (l : Int)) = ((m - l : Nat) : Int) by omega]
    (repeat first | refine ck_ix (by omega) ?_ | refine ck_rg (by omega) ?_ | refine ck_rl (by omega) ?_)
    refine m_picks (by omega) ?_
    have p0 := Int.mul_nonneg (a := (bin l e : Int)) (b := (binZ (m - l) ((u : Int) - e) : Int)) (by omega) (by omega)
    rw [show ((vdf a l (m - l) u e : Nat) : Int) + (bin l e : Nat) * (binZ (m - l) ((u : Int) - e) : Nat) = ((vdf a l (m - l) u (e + 1) : Nat) : Int) by rw [s1]]
    refine ck_rl (by omega) (ck_rl (by omega) (ck_rg (by omega) ?_))
    exact ih (e + 1) (by omega) (by omega) (by omega)
theorem m_mondayWays {N : Nat} {C : Int → aH → Prop} {h : aH} {n x : Int} (H : HI h) (R : RelH h) (O : okMor h) (M : RelM h) (hC : C (vMW h n x) h) : WL N 337 0 [(0, .inr (.inr 130)), (1, .inl n), (2, .inl x)] h C := by
  have h60 := O.2.1
  refine w_337_0 (m_isKnown M (fun q1 => y1 ?_) (fun q => y0 ?_))
  · obtain ⟨n, rfl⟩ := Int.eq_ofNat_of_zero_le q1.1
    obtain ⟨f1, f2, f3, f4⟩ := mnb_facts h n
    have c0 := cntB_le (MNB h n 0) n
    unfold vMW at hC
    rw [if_pos q1] at hC
    simp only [Int.toNat_natCast] at hC
    refine m_mondaysOf (w := 0) (by decide) H R O M q1.2 (m_mondaysOf (w := 1) (by decide) H R O M q1.2 (m_mondaysOf (w := 2) (by decide) H R O M q1.2 ⟨fun hx => m_mondaysOf (w := 3) (by decide) H R O M q1.2 ?_, fun hx => m_picks (by omega) ?_⟩))
    · rw [if_neg hx, vdf_end] at hC
      have := m_wsm (N := N) (by omega) f2 f1 f4 hC _ (cntB (MNB h n 3) n) rfl (Nat.le_refl _) (by omega)
      rw [vdf_0 _ _ _ _ _ (Nat.le_refl _)] at this
      exact this
    · rw [if_pos (Decidable.not_not.mp hx)] at hC
      exact hC
  · unfold vMW at hC
    rw [if_neg q] at hC
    exact hC
