/-! SHAKES: the class seats a row, the turns -/
theorem c_se17 {N : Nat} {C : aH → Prop} {h : aH} {c row : Nat} {q : Int} (P : PI h) (hc : 1 ≤ c ∧ c ≤ 2) (hr : 1 ≤ row ∧ row ≤ NE h) (hq : -100000000000000 ≤ q ∧ q ≤ 100000000000000)
    (hC : ∀ h' t L, 1 ≤ t → HCX h c h' → SEA h c row t L (h' 116) (h' 117) (h' 118) (h' 119) (h' 120) → h' 119 (L t) = 0 → h' 117 0 + h' 116 row = q → WV N 149 43 [(0, .inr (.inr 113)), (2, .inl (L t : Int)), (3, .inl 0)] h' C) :
    ∀ (d t : Nat) (L : Nat → Nat) (h1 : aH), d = NS h c + 1 - t → HCX h c h1 → SEA h c row t L (h1 116) (h1 117) (h1 118) (h1 119) (h1 120) → h1 113 9 = (MSK L t : Int) → (t = 0 → ∀ j, 1 ≤ j → j ≤ NS h c → h1 118 j = 9223372036854775807) → h1 117 0 + h1 116 row = q →
    WV N 149 17 [(0, .inr (.inr 113)), (2, .inl (L t : Int)), (3, .inl (t : Int))] h1 C := by
  have n8 := NE_le h
  have n0 : 0 < NE h := by omega
  have m24 := NS_le (h := h) hc
  intro d
  induction d with
  | zero => intro t L h1 hd K S; have := S.le; omega
  | succ d ih =>
    intro t L h1 hd K S hm hb hs
    have tm := S.le
    obtain ⟨bu, bv, bs⟩ := S.bd P hc n0 hr
    have S0 := S
    obtain ⟨⟨s1, s2, s3, s4, s5, s6⟩, ⟨s7, s8, s9, s10⟩, s11, s12, s13⟩ := S0
    have lm : ∀ i, i ≤ t → L i ≤ NS h c := fun i hi => by
      rcases Nat.eq_zero_or_pos i with y | y
      · rw [y, s8]; exact Nat.zero_le _
      · exact (s9 i y hi).2
    have mlt : ∀ k, k ≤ t + 1 → MSK L k < 2 ^ 25 := fun k hk => MSK_lt (fun j hj => by have := lm j (by omega); omega)
    have ml := mlt t (by omega)
    have ml1 := mlt (t + 1) (Nat.le_refl _)
    have p25 : 2 ^ (L t) ≤ 2 ^ 24 := two_le (by have := lm t (Nat.le_refl t); omega)
    have l24 := lm t (Nat.le_refl t)
    refine w_149_17 ?_
    rw [K.2.1, Int.toNat_natCast]
    refine ⟨fun z => by omega, fun _ => ck_ix (by omega) ⟨fun z => ?_, fun z => ?_⟩⟩
    · refine hC h1 t L ?_ K S z hs
      rcases Nat.eq_zero_or_pos t with y | y
      · rw [y, s8, s7] at z; omega
      · exact y
    · obtain ⟨ρ, hρ, ρ1⟩ : ∃ ρ : Nat, h1 119 (L t) = (ρ : Int) ∧ 1 ≤ ρ ∧ ρ ≤ row := by
        rcases Nat.eq_zero_or_pos t with y | y
        · exact ⟨row, by rw [y, s8]; exact s7, hr.1, Nat.le_refl _⟩
        · rcases s2 (L t) (s9 t y (Nat.le_refl t)).1 l24 with w | ⟨r, r1, r2, r3, _⟩
          · exact absurd w z
          · exact ⟨r, r1, r2, by omega⟩
      have em : MSK L (t + 1) = MSK L t ||| 2 ^ (L t) := rfl
      rw [hm, bt_shl (by omega), bt_or (by omega) (by omega), ← em]
      have val : ∀ i, i ≤ t → ∃ r : Nat, h1 119 (L i) = (r : Int) ∧ 1 ≤ r ∧ r ≤ row := fun i hi => by
        by_cases e : i = t
        · exact ⟨ρ, by rw [e]; exact hρ, ρ1⟩
        · exact s11 i (by omega)
      have mt : ∀ i, i ≤ t → (MSK L (t + 1)).testBit (L i) = true := fun i hi => MSK_tb.2 ⟨i, by omega, rfl⟩
      have mf : ∀ j, (∀ i, i ≤ t → L i ≠ j) → (MSK L (t + 1)).testBit j = false := fun j un => by
        cases b : (MSK L (t + 1)).testBit j with
        | false => rfl
        | true => obtain ⟨i, hi, e⟩ := MSK_tb.1 b; exact absurd e (un i (by omega))
      have mu : ∀ j, (MSK L (t + 1)).testBit j = false → ∀ i, i ≤ t → L i ≠ j := fun j b i hi e => by rw [← e, mt i hi] at b; cases b
      generalize hdm : MSK L (t + 1) = dm at *
      have r116 : (am_up h1 113 9 (dm : Int)) 116 = h1 116 := up_row (by decide)
      have r117 : (am_up h1 113 9 (dm : Int)) 117 = h1 117 := up_row (by decide)
      have r118 : (am_up h1 113 9 (dm : Int)) 118 = h1 118 := up_row (by decide)
      have r119 : (am_up h1 113 9 (dm : Int)) 119 = h1 119 := up_row (by decide)
      have r120 : (am_up h1 113 9 (dm : Int)) 120 = h1 120 := up_row (by decide)
      have K0 : HCX h c (am_up h1 113 9 (dm : Int)) := ⟨K.1.up (by decide) (by decide), by rw [up_ne (by decide)]; exact K.2.1, by rw [up_row (by decide)]; exact K.2.2⟩
      have d0 : (am_up h1 113 9 (dm : Int)) 113 9 = (dm : Int) := by rw [up_same]
      generalize am_up h1 113 9 (dm : Int) = h0 at *
      obtain ⟨f0, ⟨f1, f2⟩, f3⟩ := S.free hc n0 hr.2
      have inb : ∀ i, dm.testBit i = true → ∃ k, k ≤ t ∧ L k = i := fun i b => by
        rw [← hdm] at b
        obtain ⟨k, hk, e⟩ := MSK_tb.1 b
        exact ⟨k, by omega, e⟩
      refine c_nearest P K0 hc l24 d0 (by omega) (mt t (Nat.le_refl t)) (fun i hi b => ?_) (fun i i' hi hi' b b' e => ?_) (fun r r8 => ?_) (fun j hj => ?_) (fun j j1 j2 => ?_) (by rw [← s8]; exact mt 0 (Nat.zero_le t)) (fun j j1 j2 b => ?_) ⟨f0, ⟨f1, f2⟩, mf f0 (fun i hi e => ?_)⟩ (fun hA h3 nx v fA qA bn ev f3' q3 => ?_)
      · obtain ⟨k, hk, e⟩ := inb i b
        obtain ⟨r, r1, r2, r3⟩ := val k hk
        rw [r119, ← e, r1]
        omega
      · rw [r119] at e
        obtain ⟨k, hk, ek⟩ := inb i b
        obtain ⟨k', hk', ek'⟩ := inb i' b'
        have big : ∀ s, 1 ≤ s → s ≤ NS h c → h1 119 s ≠ (row : Int) := fun s a b e => by
          rcases s2 s a b with y | ⟨r, w1, w2, w3, _⟩
          · rw [y] at e; omega
          · rw [w1] at e; omega
        rcases Nat.eq_zero_or_pos i with y | y <;> rcases Nat.eq_zero_or_pos i' with y' | y'
        · omega
        · rw [y, s7] at e; exact absurd e.symm (big i' y' hi')
        · rw [y', s7] at e; exact absurd e (big i y hi)
        · obtain ⟨r, r1, r2, r3⟩ := val k hk
          exact s3 i i' y hi y' hi' (by rw [← ek, r1]; omega) e
      · rw [r116]; have := bu r r8; omega
      · rw [r117]
        rcases Nat.eq_zero_or_pos j with y | y
        · rw [y]; have := bu row (by omega); omega
        · have := bv j y hj; omega
      · rw [r117]; have := bv j j1 j2; omega
      · rw [r118]
        rcases Nat.eq_zero_or_pos t with y | y
        · rw [hb y j j1 j2]; omega
        · have := bs y j j1 j2 (fun i hi => mu j b i (by omega)); omega
      · obtain ⟨r, r1, r2, r3⟩ := val i hi
        rw [e, f3] at r1
        omega
      · rw [r119, hρ, Int.toNat_natCast] at qA
        obtain ⟨q31, q32, q33, q34⟩ := q3
        have a116 : hA 116 = h1 116 := by rw [fA.at 116 (by decide) (by decide), r116]
        have a117 : hA 117 = h1 117 := by rw [fA.at 117 (by decide) (by decide), r117]
        have a119 : hA 119 = h1 119 := by rw [fA.at 119 (by decide) (by decide), r119]
        have b119 : h3 119 = h1 119 := by rw [f3'.at 119 (by decide) (by decide), a119]
        have b120 : h3 120 = hA 120 := f3'.at 120 (by decide) (by decide)
        have ov : ∀ j, OVR h c h0 ρ j = PP h c ρ j - h1 116 ρ - h1 117 j := fun j => by unfold OVR PP; rw [r116, r117]
        have T := SEA.turn (nx := nx) (L' := fun i => if i = t + 1 then nx else L i) (U' := h3 116) (V' := h3 117) (SL1 := hA 118) (SL' := h3 118) (F1 := hA 120) (v := v) S hρ ρ1 (fun j j1 j2 un => ?_) (fun i i1 i2 => ?_) (fun t0 j j1 j2 => ?_) ⟨bn.1, bn.2.1, mu nx bn.2.2.1, fun j j1 j2 un => bn.2.2.2 j j1 j2 (mf j un)⟩ ev (fun i hi => ?_) (fun j un => ?_) (fun j j1 j2 un => ?_) (fun i hi r hr' => ?_) (fun r nr => ?_) (fun i hi => if_neg (by omega)) (if_pos rfl)
        · have K3 : HCX h c h3 := (K0.mv (fA.mono (by decide) (by decide))).mv (f3'.mono (by decide) (by decide))
          refine ck_rg (by omega) ?_
          have key := ih (t + 1) (fun i => if i = t + 1 then nx else L i) h3 (by omega) K3 (by rw [b119, b120]; exact T) ?_ (fun z => by omega) ?_
          · rw [if_pos rfl] at key
            exact key
          · rw [f3'.at 113 (by decide) (by decide), fA.at 113 (by decide) (by decide), d0, ← hdm, MSK_congr (fun j hj => if_neg (by omega))]
          · have w := q31 0
            rw [if_pos ⟨by omega, by rw [← s8]; exact mt 0 (Nat.zero_le t)⟩, a117] at w
            have u := q33 0 (by omega) (by rw [← s8]; exact mt 0 (Nat.zero_le t))
            rw [a119, s7, Int.toNat_natCast, a116] at u
            rw [w, u]
            omega
        · have w := qA j
          rw [if_pos ⟨j1, by omega, mf j un⟩, ov j, r118, r120] at w
          refine ⟨w.1, ?_⟩
          rw [w.2]
          by_cases y : PP h c ρ j - h1 116 ρ - h1 117 j < h1 118 j
          · rw [if_pos y, if_pos ⟨⟨j1, by omega, mf j un⟩, y⟩]
          · rw [if_neg y, if_neg (fun z => y z.2)]
        · have w := (qA (L i)).2
          rw [if_neg (fun z => by have := z.1.2.2; rw [mt i i2] at this; cases this), r120] at w
          exact w
        · rw [hb t0 j j1 j2]
          have := bu ρ (by omega)
          have := bv j j1 j2
          have pr := PRC_rg (c := c) (s := j - 1) P (show ρ - 1 < NE h by omega)
          unfold PP
          omega
        · rw [q31 (L i), if_pos ⟨by have := lm i hi; omega, mt i hi⟩, a117]
        · rw [q31 j, if_neg (fun z => by have := z.2; rw [mf j un] at this; cases this), a117]
        · rw [q32 j, if_pos ⟨by omega, mf j un⟩]
        · have w := q33 (L i) (by have := lm i hi; omega) (mt i hi)
          rw [a119, hr', Int.toNat_natCast, a116] at w
          exact w
        · have w := q34 r (fun i hi b e => ?_)
          · rw [w, a116]
          · obtain ⟨k, hk, ek⟩ := inb i b
            obtain ⟨r', w1, w2, w3⟩ := val k hk
            rw [a119, ← ek, w1, Int.toNat_natCast] at e
            exact nr k hk (by rw [w1, e])
