/-! SHAKES: the class's nearest side -/
def NS (h : aH) (c : Nat) : Nat := NE h * c + NE h
theorem NS_le {h : aH} {c : Nat} (hc : 1 ≤ c ∧ c ≤ 2) : NS h c ≤ 24 := by
  have n8 := NE_le h
  have := Nat.mul_le_mul n8 hc.2
  unfold NS
  omega
def HCX (h : aH) (c : Nat) (h1 : aH) : Prop := FSH h h1 ∧ h1 113 10 = (NS h c : Int) ∧ ∀ q s, q < NE h → s < NS h c → h1 115 (q * 24 + s) = PRC h c q s
theorem HCX.mv {h h1 h2 : aH} {c : Nat} (K : HCX h c h1) (f : Fr [116, 117, 118, 119, 120] [] h1 h2) : HCX h c h2 := by
  obtain ⟨a, b, d⟩ := K
  refine ⟨Fr.trans a (f.mono (by decide) (by decide)), ?_, ?_⟩
  · rw [f.at 113 (by decide) (by decide)]; exact b
  · rw [f.at 115 (by decide) (by decide)]; exact d
theorem c_isDone {N : Nat} {C : Int → aH → Prop} {h1 : aH} {dm j : Nat} (hd : h1 113 9 = (dm : Int)) (dl : dm < 2147483648) (hj : j < 32) (y : dm.testBit j = true → C 1 h1) (n : dm.testBit j = false → C 0 h1) : WI N 151 0 [(0, .inr (.inr 113)), (1, .inl (j : Int))] h1 C := by
  refine w_151_0 ?_
  rw [hd, bt_tst dl hj]
  cases b : dm.testBit j with
  | true =>
    rw [if_pos rfl]
    exact ⟨fun z => absurd rfl z, fun _ => ck_t1 (y b)⟩
  | false =>
    rw [if_neg (by decide)]
    exact ⟨fun _ => ck_t0 (n b), fun z => absurd (by decide) z⟩
def OVR (h : aH) (c : Nat) (h0 : aH) (row i : Nat) : Int := PRC h c (row - 1) (i - 1) - h0 116 row - h0 117 i
def NRP (h : aH) (c : Nat) (h0 : aH) (side row dm : Nat) (h1 : aH) (j : Nat) : Prop := ∀ i, h1 118 i = (if 1 ≤ i ∧ i < j ∧ dm.testBit i = false then min (h0 118 i) (OVR h c h0 row i) else h0 118 i) ∧ h1 120 i = (if (1 ≤ i ∧ i < j ∧ dm.testBit i = false) ∧ OVR h c h0 row i < h0 118 i then (side : Int) else h0 120 i)
def NXT (dm : Nat) (h1 : aH) (j x3 : Nat) : Prop := (x3 = 0 ∧ ∀ i, 1 ≤ i → i < j → dm.testBit i = true) ∨ (1 ≤ x3 ∧ x3 < j ∧ dm.testBit x3 = false ∧ ∀ i, 1 ≤ i → i < j → dm.testBit i = false → h1 118 x3 ≤ h1 118 i)
theorem c_nr10 {N : Nat} {C : Int → aH → Prop} {h h0 : aH} {c side row dm : Nat} (P : PI h) (K : HCX h c h0) (hc : 1 ≤ c ∧ c ≤ 2) (hd : h0 113 9 = (dm : Int)) (dl : dm < 2147483648) (hrow : 1 ≤ row ∧ row ≤ NE h) (ru : -30000000000000 ≤ h0 116 row ∧ h0 116 row ≤ 30000000000000) (rv : ∀ j, 1 ≤ j → j ≤ NS h c → -30000000000000 ≤ h0 117 j ∧ h0 117 j ≤ 30000000000000) (un : ∃ i, (1 ≤ i ∧ i ≤ NS h c) ∧ dm.testBit i = false)
    (hC : ∀ h' (nx : Nat), Fr [118, 120] [] h0 h' → NRP h c h0 side row dm h' (NS h c + 1) → (1 ≤ nx ∧ nx ≤ NS h c ∧ dm.testBit nx = false ∧ ∀ i, 1 ≤ i → i ≤ NS h c → dm.testBit i = false → h' 118 nx ≤ h' 118 i) → WI N 150 83 [(0, .inr (.inr 113)), (3, .inl (nx : Int)), (4, .inr (.inl (h' 118 nx))), (6, .inl 0)] h' C) :
    ∀ (d j : Nat) (h1 : aH) (x3 : Nat), d = NS h c + 1 - j → 1 ≤ j → j ≤ NS h c + 1 → Fr [118, 120] [] h0 h1 → NRP h c h0 side row dm h1 j → NXT dm h1 j x3 →
    WI N 150 10 [(0, .inr (.inr 113)), (1, .inl (side : Int)), (2, .inl (row : Int)), (3, .inl (x3 : Int)), (4, .inl (j : Int))] h1 C := by
  have n8 := NE_le h
  have m24 := NS_le (h := h) hc
  intro d
  induction d with
  | zero =>
    intro j h1 x3 hd2 hj1 hj f q x
    have : j = NS h c + 1 := by omega
    subst this
    refine w_150_10 ?_
    rw [f.at 113 (by decide) (by decide), K.2.1]
    refine ⟨fun _ => ?_, fun z => absurd (by omega) z⟩
    rcases x with ⟨_, x2⟩ | ⟨x1, x2, x4, x5⟩
    · obtain ⟨i, hi, b⟩ := un
      rw [x2 i hi.1 (by omega)] at b
      cases b
    · rw [Int.toNat_natCast]
      exact ck_ix (by omega) (hC h1 x3 f q ⟨x1, by omega, x4, fun i a b => x5 i a (by omega)⟩)
  | succ d ih =>
    intro j h1 x3 hd2 hj1 hj f q x
    have jm : j ≤ NS h c := by omega
    have x24 : x3 < j := by rcases x with ⟨a, _⟩ | ⟨a, b, _⟩ <;> omega
    refine w_150_10 ?_
    rw [f.at 113 (by decide) (by decide), K.2.1]
    refine ⟨fun z => by omega, fun _ => c_isDone (dm := dm) (by rw [f.at 113 (by decide) (by decide)]; exact hd) dl (by omega) (fun b => ?_) (fun b => ?_)⟩
    · refine ⟨fun z => absurd z (by decide), fun _ => ck_rg (by omega) (ih (j + 1) h1 x3 (by omega) (by omega) (by omega) f (fun i => ?_) ?_)⟩
      · have := q i
        by_cases e : i = j
        · subst e
          rw [if_neg (fun z => by have := z.2.1; omega), if_neg (fun z => by have := z.1.2.1; omega)] at this
          rw [if_neg (fun z => by rw [b] at z; cases z.2.2), if_neg (fun z => by rw [b] at z; cases z.1.2.2)]
          exact this
        · have e1 : (1 ≤ i ∧ i < j + 1 ∧ dm.testBit i = false) ↔ (1 ≤ i ∧ i < j ∧ dm.testBit i = false) := ⟨fun z => ⟨z.1, by have := z.2.1; omega, z.2.2⟩, fun z => ⟨z.1, by have := z.2.1; omega, z.2.2⟩⟩
          simp only [e1]
          exact this
      · rcases x with ⟨a, x2⟩ | ⟨x1, x2, x4, x5⟩
        · refine Or.inl ⟨a, fun i i1 i2 => ?_⟩
          by_cases e : i = j
          · rw [e]; exact b
          · exact x2 i i1 (by omega)
        · refine Or.inr ⟨x1, by omega, x4, fun i i1 i2 bi => ?_⟩
          by_cases e : i = j
          · rw [e, b] at bi; cases bi
          · exact x5 i i1 (by omega) bi
    · have q' := q j
      rw [if_neg (fun z => by have := z.2.1; omega), if_neg (fun z => by have := z.1.2.1; omega)] at q'
      have pr := PRC_rg (c := c) (s := j - 1) P (show row - 1 < NE h by omega)
      have vv := rv j hj1 jm
      have eP : h1 115 ((row - 1) * 24 + (j - 1)) = PRC h c (row - 1) (j - 1) := by rw [f.at 115 (by decide) (by decide)]; exact K.2.2 _ _ (by omega) (by omega)
      have e1 : ∀ i, i ≠ j → ((1 ≤ i ∧ i < j + 1 ∧ dm.testBit i = false) ↔ (1 ≤ i ∧ i < j ∧ dm.testBit i = false)) := fun i e => ⟨fun z => ⟨z.1, by have := z.2.1; omega, z.2.2⟩, fun z => ⟨z.1, by have := z.2.1; omega, z.2.2⟩⟩
      have go : ∀ h2 (x3' : Nat), Fr [118, 120] [] h0 h2 → (∀ i, i ≠ j → h2 118 i = h1 118 i ∧ h2 120 i = h1 120 i) → (h2 118 j = min (h0 118 j) (OVR h c h0 row j) ∧ h2 120 j = if OVR h c h0 row j < h0 118 j then (side : Int) else h0 120 j) → NXT dm h2 (j + 1) x3' → WI N 150 10 [(0, .inr (.inr 113)), (1, .inl (side : Int)), (2, .inl (row : Int)), (3, .inl (x3' : Int)), (4, .inl ((j : Int) + 1))] h2 C := by
        intro h2 x3' f2 oth me nx
        refine ih (j + 1) h2 x3' (by omega) (by omega) (by omega) f2 (fun i => ?_) nx
        by_cases e : i = j
        · subst e
          rw [me.1, me.2, if_pos ⟨hj1, Nat.lt_succ_self i, b⟩]
          refine ⟨rfl, ?_⟩
          by_cases c2 : OVR h c h0 row i < h0 118 i
          · rw [if_pos c2, if_pos ⟨⟨hj1, Nat.lt_succ_self i, b⟩, c2⟩]
          · rw [if_neg c2, if_neg (fun z => c2 z.2)]
        · rw [(oth i e).1, (oth i e).2]
          simp only [e1 i e]
          exact q i
      have fin : ∀ h2, Fr [118, 120] [] h0 h2 → (∀ i, i ≠ j → h2 118 i = h1 118 i ∧ h2 120 i = h1 120 i) → (h2 118 j = min (h0 118 j) (OVR h c h0 row j) ∧ h2 120 j = if OVR h c h0 row j < h0 118 j then (side : Int) else h0 120 j) →
          ((x3 : Int) = 0 → WI N 150 10 [(0, .inr (.inr 113)), (1, .inl (side : Int)), (2, .inl (row : Int)), (3, .inl (j : Int)), (4, .inl ((j : Int) + 1))] h2 C) ∧ (¬ (x3 : Int) = 0 → (0 ≤ h2 118 j - h2 118 x3 → WI N 150 10 [(0, .inr (.inr 113)), (1, .inl (side : Int)), (2, .inl (row : Int)), (3, .inl (x3 : Int)), (4, .inl ((j : Int) + 1))] h2 C) ∧ (¬ 0 ≤ h2 118 j - h2 118 x3 → WI N 150 10 [(0, .inr (.inr 113)), (1, .inl (side : Int)), (2, .inl (row : Int)), (3, .inl (j : Int)), (4, .inl ((j : Int) + 1))] h2 C)) := by
        intro h2 f2 oth me
        rcases x with ⟨a, x2⟩ | ⟨x1, x2, x4, x5⟩
        · refine ⟨fun _ => go h2 j f2 oth me (Or.inr ⟨hj1, Nat.lt_succ_self j, b, fun i i1 i2 bi => ?_⟩), fun z => absurd (by omega) z⟩
          by_cases e : i = j
          · rw [e]; exact Int.le_refl _
          · rw [x2 i i1 (by omega)] at bi; cases bi
        · refine ⟨fun z => by omega, fun _ => ⟨fun ge => go h2 x3 f2 oth me (Or.inr ⟨x1, by omega, x4, fun i i1 i2 bi => ?_⟩), fun lt => go h2 j f2 oth me (Or.inr ⟨hj1, Nat.lt_succ_self j, b, fun i i1 i2 bi => ?_⟩)⟩⟩
          · by_cases e : i = j
            · rw [e]; omega
            · rw [(oth i e).1, (oth x3 (by omega)).1]; exact x5 i i1 (by omega) bi
          · by_cases e : i = j
            · rw [e]; exact Int.le_refl _
            · have := x5 i i1 (by omega) bi
              rw [(oth x3 (by omega)).1] at lt
              rw [(oth i e).1]
              omega
      refine ⟨fun _ => ?_, fun z => absurd rfl z⟩
      simp only [Int.toNat_natCast]
      rw [show (((row : Int) - 1) * 24 + (j : Int) - 1).toNat = (row - 1) * 24 + (j - 1) by omega, eP, f.at 116 (by decide) (by decide), f.at 117 (by decide) (by decide)]
      have eO : PRC h c (row - 1) (j - 1) - h0 116 row - h0 117 j = OVR h c h0 row j := rfl
      rw [eO]
      (repeat first | refine ck_ix (by omega) ?_ | refine ck_rg (by omega) ?_ | refine ck_rl (by omega) ?_)
      refine ⟨fun ge => ?_, fun lt => ?_⟩
      · have ge := sgn_ge.1 ge
        rw [q'.1] at ge
        have F := fin h1 f (fun i _ => ⟨rfl, rfl⟩) ⟨by rw [q'.1]; omega, by rw [q'.2, if_neg (by omega)]⟩
        refine ⟨fun z => ck_rg (by omega) (F.1 z), fun z => ck_ix (by omega) (ck_ix (by omega) ⟨fun y => ck_rg (by omega) ((F.2 z).1 (sgn_ge.1 y)), fun y => ck_rg (by omega) ((F.2 z).2 (fun w => y (sgn_ge.2 w)))⟩)⟩
      · have lt : ¬ 0 ≤ OVR h c h0 row j - h1 118 j := fun w => lt (sgn_ge.2 w)
        rw [q'.1] at lt
        have F := fin (am_up (am_up h1 118 j (OVR h c h0 row j)) 120 j (side : Int)) ((f.up (by decide) (by decide)).up (by decide) (by decide)) (fun i e => by rw [up_row (by decide), up_in, if_neg e, up_in, if_neg e, up_row (by decide)]; exact ⟨rfl, rfl⟩) ⟨by rw [up_row (by decide), up_in, if_pos rfl]; omega, by rw [up_in, if_pos rfl, if_pos (by omega)]⟩
        rw [up_row (show (118 : Nat) ≠ 120 by decide)] at F
        refine ck_ix (by omega) (ck_ix (by omega) ⟨fun z => ck_rg (by omega) (F.1 z), fun z => ck_ix (by omega) (ck_ix (by omega) ⟨fun y => ck_rg (by omega) ((F.2 z).1 (sgn_ge.1 y)), fun y => ck_rg (by omega) ((F.2 z).2 (fun w => y (sgn_ge.2 w)))⟩)⟩)
