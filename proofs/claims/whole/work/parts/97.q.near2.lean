/-! SHAKES: the class's nearest side, the parts moved -/
def NR2 (h0 : aH) (dm : Nat) (v : Int) (h1 : aH) (j : Nat) : Prop :=
  (∀ i, h1 117 i = if i < j ∧ dm.testBit i = true then h0 117 i - v else h0 117 i) ∧
  (∀ i, h1 118 i = if i < j ∧ dm.testBit i = false then h0 118 i - v else h0 118 i) ∧
  (∀ i, i < j → dm.testBit i = true → h1 116 (h0 119 i).toNat = h0 116 (h0 119 i).toNat + v) ∧
  ∀ r, (∀ i, i < j → dm.testBit i = true → (h0 119 i).toNat ≠ r) → h1 116 r = h0 116 r
theorem c_nr83 {N : Nat} {C : Int → aH → Prop} {h h0 : aH} {c dm nx : Nat} {v : Int} (K : HCX h c h0) (hc : 1 ≤ c ∧ c ≤ 2) (hd : h0 113 9 = (dm : Int)) (dl : dm < 2147483648) (ra : ∀ i, i ≤ NS h c → dm.testBit i = true → 0 ≤ h0 119 i ∧ h0 119 i ≤ 8) (inj : ∀ i i', i ≤ NS h c → i' ≤ NS h c → dm.testBit i = true → dm.testBit i' = true → h0 119 i = h0 119 i' → i = i') (bv : -1000000000000000 ≤ v ∧ v ≤ 1000000000000000) (ru : ∀ r, r ≤ 8 → -1000000000000000 ≤ h0 116 r ∧ h0 116 r ≤ 1000000000000000) (rv : ∀ j, j ≤ NS h c → -1000000000000000 ≤ h0 117 j ∧ h0 117 j ≤ 1000000000000000) (rs : ∀ j, j ≤ NS h c → dm.testBit j = false → -1000000000000000 ≤ h0 118 j ∧ h0 118 j ≤ 1000000000000000)
    (hC : ∀ h', Fr [116, 117, 118] [] h0 h' → NR2 h0 dm v h' (NS h c + 1) → C (nx : Int) h') :
    ∀ (d j : Nat) (h1 : aH), d = NS h c + 1 - j → j ≤ NS h c + 1 → Fr [116, 117, 118] [] h0 h1 → NR2 h0 dm v h1 j →
    WI N 150 83 [(0, .inr (.inr 113)), (3, .inl (nx : Int)), (4, .inr (.inl v)), (6, .inl (j : Int))] h1 C := by
  have m24 := NS_le (h := h) hc
  intro d
  induction d with
  | zero =>
    intro j h1 hd2 hj f q
    have : j = NS h c + 1 := by omega
    subst this
    refine w_150_83 ?_
    rw [f.at 113 (by decide) (by decide), K.2.1]
    exact ⟨fun _ => hC h1 f q, fun z => absurd (by omega) z⟩
  | succ d ih =>
    intro j h1 hd2 hj f q
    have jm : j ≤ NS h c := by omega
    obtain ⟨q1, q2, q3, q4⟩ := q
    refine w_150_83 ?_
    rw [f.at 113 (by decide) (by decide), K.2.1]
    refine ⟨fun z => by omega, fun _ => c_isDone (dm := dm) (by rw [f.at 113 (by decide) (by decide)]; exact hd) dl (by omega) (fun b => ?_) (fun b => ?_)⟩
    · refine ⟨fun z => absurd z (by decide), fun _ => ?_⟩
      have a := ra j jm b
      obtain ⟨ρ, hρ⟩ := Int.eq_ofNat_of_zero_le a.1
      have u1 := ru ρ (by omega)
      have v1 := rv j jm
      have e1 := q1 j
      rw [if_neg (fun z => by have := z.1; omega)] at e1
      have e4 := q4 ρ (fun i hi bi z => by
        have ai := ra i (by omega) bi
        have := inj i j (by omega) jm bi b (by omega)
        omega)
      simp only [Int.toNat_natCast]
      rw [f.at 119 (by decide) (by decide), hρ]
      simp only [Int.toNat_natCast]
      rw [e4, e1]
      (repeat first | refine ck_ix (by omega) ?_ | refine ck_rg (by omega) ?_ | refine ck_rl (by omega) ?_)
      refine ih (j + 1) _ (by omega) (by omega) ((f.up (by decide) (by decide)).up (by decide) (by decide)) ⟨fun i => ?_, fun i => ?_, fun i hi bi => ?_, fun r hr => ?_⟩
      · rw [up_in]
        by_cases z : i = j
        · rw [if_pos z, z, if_pos ⟨Nat.lt_succ_self j, b⟩]
        · rw [if_neg z, up_row (by decide), q1 i]
          by_cases y : i < j ∧ dm.testBit i = true
          · rw [if_pos y, if_pos ⟨by have := y.1; omega, y.2⟩]
          · rw [if_neg y, if_neg (fun w => y ⟨by have := w.1; omega, w.2⟩)]
      · rw [up_row (by decide), up_row (by decide), q2 i]
        by_cases z : i = j
        · rw [if_neg (fun w => by have := w.1; omega), if_neg (fun w => by have := w.2; rw [z, b] at this; cases this)]
        · by_cases y : i < j ∧ dm.testBit i = false
          · rw [if_pos y, if_pos ⟨by have := y.1; omega, y.2⟩]
          · rw [if_neg y, if_neg (fun w => y ⟨by have := w.1; omega, w.2⟩)]
      · rw [up_row (by decide), up_in]
        by_cases z : i = j
        · rw [z, hρ, if_pos (Int.toNat_natCast ρ)]
          simp only [Int.toNat_natCast]
        · have ai := ra i (by omega) bi
          rw [if_neg (fun w => z (inj i j (by omega) jm bi b (by omega)))]
          exact q3 i (by omega) bi
      · rw [up_row (by decide), up_in, if_neg (fun w => hr j (Nat.lt_succ_self j) b (by omega))]
        exact q4 r (fun i hi bi => hr i (by omega) bi)
    · refine ⟨fun _ => ?_, fun z => absurd rfl z⟩
      have s1 := rs j jm b
      have e2 := q2 j
      rw [if_neg (fun z => by have := z.1; omega)] at e2
      simp only [Int.toNat_natCast]
      rw [e2]
      (repeat first | refine ck_ix (by omega) ?_ | refine ck_rg (by omega) ?_ | refine ck_rl (by omega) ?_)
      refine ih (j + 1) _ (by omega) (by omega) (f.up (by decide) (by decide)) ⟨fun i => ?_, fun i => ?_, fun i hi bi => ?_, fun r hr => ?_⟩
      · rw [up_row (by decide), q1 i]
        by_cases z : i = j
        · rw [if_neg (fun w => by have := w.1; omega), if_neg (fun w => by have := w.2; rw [z, b] at this; cases this)]
        · by_cases y : i < j ∧ dm.testBit i = true
          · rw [if_pos y, if_pos ⟨by have := y.1; omega, y.2⟩]
          · rw [if_neg y, if_neg (fun w => y ⟨by have := w.1; omega, w.2⟩)]
      · rw [up_in]
        by_cases z : i = j
        · rw [if_pos z, z, if_pos ⟨Nat.lt_succ_self j, b⟩]
        · rw [if_neg z, q2 i]
          by_cases y : i < j ∧ dm.testBit i = false
          · rw [if_pos y, if_pos ⟨by have := y.1; omega, y.2⟩]
          · rw [if_neg y, if_neg (fun w => y ⟨by have := w.1; omega, w.2⟩)]
      · rw [up_row (by decide)]
        have : i ≠ j := fun w => by rw [w, b] at bi; cases bi
        exact q3 i (by omega) bi
      · rw [up_row (by decide)]
        exact q4 r (fun i hi bi => hr i (by omega) bi)
/-- what a turn of nearest does: a side is added to the done ones ahead of it -/
theorem c_nearest {N : Nat} {C : Int → aH → Prop} {h h0 : aH} {c side dm : Nat} (P : PI h) (K : HCX h c h0) (hc : 1 ≤ c ∧ c ≤ 2) (hs : side ≤ NS h c) (hd : h0 113 9 = (dm : Int)) (dl : dm < 2147483648) (ds : dm.testBit side = true) (ra : ∀ i, i ≤ NS h c → dm.testBit i = true → 1 ≤ h0 119 i ∧ h0 119 i ≤ (NE h : Int)) (inj : ∀ i i', i ≤ NS h c → i' ≤ NS h c → dm.testBit i = true → dm.testBit i' = true → h0 119 i = h0 119 i' → i = i')
    (ru : ∀ r, r ≤ 8 → -30000000000000 ≤ h0 116 r ∧ h0 116 r ≤ 30000000000000) (rv : ∀ j, j ≤ NS h c → -200000000000000 ≤ h0 117 j ∧ h0 117 j ≤ 200000000000000) (rv1 : ∀ j, 1 ≤ j → j ≤ NS h c → -30000000000000 ≤ h0 117 j ∧ h0 117 j ≤ 30000000000000) (d0 : dm.testBit 0 = true) (rs : ∀ j, 1 ≤ j → j ≤ NS h c → dm.testBit j = false → -200000000000000 ≤ h0 118 j) (un : ∃ i, (1 ≤ i ∧ i ≤ NS h c) ∧ dm.testBit i = false)
    (hC : ∀ h1 h' (nx : Nat) (v : Int), Fr [118, 120] [] h0 h1 → NRP h c h0 side (h0 119 side).toNat dm h1 (NS h c + 1) → (1 ≤ nx ∧ nx ≤ NS h c ∧ dm.testBit nx = false ∧ ∀ i, 1 ≤ i → i ≤ NS h c → dm.testBit i = false → h1 118 nx ≤ h1 118 i) → v = h1 118 nx → Fr [116, 117, 118] [] h1 h' → NR2 h1 dm v h' (NS h c + 1) → C (nx : Int) h') :
    WI N 150 0 [(0, .inr (.inr 113)), (1, .inl (side : Int))] h0 C := by
  have n8 := NE_le h
  have m24 := NS_le (h := h) hc
  have r0 := ra side hs ds
  obtain ⟨ρ, hρ⟩ := Int.eq_ofNat_of_zero_le (show 0 ≤ h0 119 side by omega)
  refine w_150_0 (ck_ix (by omega) ?_)
  rw [Int.toNat_natCast, hρ]
  rw [hρ, Int.toNat_natCast] at hC
  have hρ2 : 1 ≤ ρ ∧ ρ ≤ NE h := by omega
  refine c_nr10 P K hc hd dl hρ2 (ru ρ (by omega)) rv1 un (fun h1 nx f1 q1 b1 => ?_) _ 1 h0 0 rfl (Nat.le_refl 1) (by omega) Fr.rfl (fun i => ?_) (Or.inl ⟨rfl, fun i i1 i2 => by omega⟩)
  · have eu : h1 116 = h0 116 := f1.at 116 (by decide) (by decide)
    have ev : h1 117 = h0 117 := f1.at 117 (by decide) (by decide)
    have er : h1 119 = h0 119 := f1.at 119 (by decide) (by decide)
    have sb : ∀ j, j ≤ NS h c → dm.testBit j = false → -1000000000000000 ≤ h1 118 j ∧ h1 118 j ≤ 1000000000000000 := by
      intro j hj b
      have j1 : 1 ≤ j := by
        rcases Nat.eq_zero_or_pos j with z | z
        · rw [z, d0] at b; cases b
        · exact z
      have q := (q1 j).1
      rw [if_pos ⟨j1, by omega, b⟩] at q
      have pr := PRC_rg (c := c) (s := j - 1) P (show ρ - 1 < NE h by omega)
      have vv := rv1 j j1 hj
      have uu := ru ρ (by omega)
      have ss := rs j j1 hj b
      have eO : OVR h c h0 ρ j = PRC h c (ρ - 1) (j - 1) - h0 116 ρ - h0 117 j := rfl
      rw [q, eO]
      omega
    refine c_nr83 (K.mv (f1.mono (by decide) (by decide))) hc (by rw [f1.at 113 (by decide) (by decide)]; exact hd) dl (fun i hi b => ?_) (fun i i' hi hi' b b' z => inj i i' hi hi' b b' (by rw [er] at z; exact z)) (sb nx b1.2.1 b1.2.2.1) (fun r hr => by rw [eu]; have := ru r hr; omega) (fun j hj => by rw [ev]; have := rv j hj; omega) sb (fun h' f2 q2 => hC h1 h' nx _ f1 q1 b1 rfl f2 q2) _ 0 h1 rfl (Nat.zero_le _) Fr.rfl ⟨fun i => ?_, fun i => ?_, fun i hi => absurd hi (Nat.not_lt_zero i), fun r _ => rfl⟩
    · rw [er]
      have := ra i hi b
      omega
    · rw [if_neg (fun z => absurd z.1 (Nat.not_lt_zero i))]
    · rw [if_neg (fun z => absurd z.1 (Nat.not_lt_zero i))]
  · rw [if_neg (fun z => by have := z.1; have := z.2.1; omega), if_neg (fun z => by have := z.1.1; have := z.1.2.1; omega)]
    exact ⟨rfl, rfl⟩
