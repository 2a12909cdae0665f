/-! SHAKES: how great the parts may be while a row is seated -/
theorem SEA.free {h : aH} {c row t : Nat} {L : Nat → Nat} {U V SL A F : Nat → Int} (S : SEA h c row t L U V SL A F) (hc : 1 ≤ c ∧ c ≤ 2) (n0 : 0 < NE h) (hr : row ≤ NE h) : ∃ s, (1 ≤ s ∧ s ≤ NS h c) ∧ A s = 0 := by
  by_cases e : ∃ s, (1 ≤ s ∧ s ≤ NS h c) ∧ A s = 0
  · exact e
  · exfalso
    obtain ⟨⟨-, b, c1, -, -, -⟩, -, -, -, -⟩ := S
    have all : ∀ s, 1 ≤ s → s ≤ NS h c → ∃ r : Nat, A s = (r : Int) ∧ 1 ≤ r ∧ r < row := by
      intro s s1 s2
      rcases b s s1 s2 with z | ⟨r, r1, r2, r3, _⟩
      · exact absurd ⟨s, ⟨s1, s2⟩, z⟩ e
      · exact ⟨r, r1, r2, r3⟩
    have I : INJ (NE h) (NS h c) (fun i => (A (i + 1)).toNat - 1) := by
      refine ⟨fun i hi => ?_, fun i j hi hj z => ?_⟩
      · obtain ⟨r, r1, r2, r3⟩ := all (i + 1) (by omega) (by omega)
        show (A (i + 1)).toNat - 1 < NE h
        rw [r1, Int.toNat_natCast]
        clear e; omega
      · obtain ⟨r, r1, r2, r3⟩ := all (i + 1) (by omega) (by omega)
        obtain ⟨r', r1', r2', r3'⟩ := all (j + 1) (by omega) (by omega)
        have z : (A (i + 1)).toNat - 1 = (A (j + 1)).toNat - 1 := z
        rw [r1, r1', Int.toNat_natCast, Int.toNat_natCast] at z
        have := c1 (i + 1) (j + 1) (by omega) (by omega) (by omega) (by omega) (by rw [r1]; clear e; omega) (by rw [r1, r1']; clear e; omega)
        clear e; omega
    have := inj_le I
    have := Nat.mul_le_mul (Nat.le_refl (NE h)) hc.1
    unfold NS at *
    clear e
    omega
theorem SEA.bd {h : aH} {c row t : Nat} {L : Nat → Nat} {U V SL A F : Nat → Int} (P : PI h) (S : SEA h c row t L U V SL A F) (hc : 1 ≤ c ∧ c ≤ 2) (n0 : 0 < NE h) (hr : 1 ≤ row ∧ row ≤ NE h) : (∀ r, r ≤ 8 → -6586148313 ≤ U r ∧ U r ≤ 6586148313000) ∧ (∀ s, 1 ≤ s → s ≤ NS h c → -6592734461313 ≤ V s ∧ V s ≤ 0) ∧ (1 ≤ t → ∀ j, 1 ≤ j → j ≤ NS h c → (∀ i, i < t → L i ≠ j) → 0 ≤ SL j) := by
  have n8 := NE_le h
  obtain ⟨s0, ⟨z1, z2⟩, z3⟩ := S.free hc n0 hr.2
  obtain ⟨⟨s1, s2, s3, s4, s5, s6⟩, ⟨s7, s8, s9, s10⟩, s11, s12, s13⟩ := S
  have up : ∀ r, r ≤ 8 → U r ≤ 6586148313000 := by
    intro r r8
    by_cases z : r = 0 ∨ row < r ∨ (r = row ∧ t = 0)
    · rw [s6 r r8 z]; decide
    · have := s1 r s0 (by omega) (by omega) z1 z2
      have v0 := (s5 s0 z1 z2).2 z3
      have pr := PRC_rg (c := c) (s := s0 - 1) P (show r - 1 < NE h by omega)
      unfold PP at this
      omega
  refine ⟨fun r r8 => ⟨?_, up r r8⟩, fun s a1 a2 => ⟨?_, (s5 s a1 a2).1⟩, fun t1 j j1 j2 un => ?_⟩
  · by_cases z : r = 0 ∨ row < r ∨ (r = row ∧ t = 0)
    · rw [s6 r r8 z]; decide
    · by_cases y : r = row
      · obtain ⟨a, a1, a2, r', r1, r2⟩ := s13 1 (Nat.le_refl 1) (by omega)
        have a0 : a = 0 := by omega
        subst a0
        have er : r' = row := by rw [s8, s7] at r1; omega
        subst er
        have li := s9 1 (Nat.le_refl 1) (by omega)
        have v0 := (s5 (L 1) li.1 li.2).1
        have pr := PRC_rg (c := c) (s := L 1 - 1) P (show r' - 1 < NE h by omega)
        unfold PP at r2
        rw [y]
        omega
      · obtain ⟨s, t1, t2, t3⟩ := s4 r (by omega) (by omega)
        rcases s2 s t1 t2 with w | ⟨r', r1, r2, r3, r4⟩
        · rw [t3] at w; omega
        · have er : r' = r := by rw [t3] at r1; omega
          subst er
          have v0 := (s5 s t1 t2).1
          have pr := PRC_rg (c := c) (s := s - 1) P (show r' - 1 < NE h by omega)
          unfold PP at r4
          omega
  · rcases s2 s a1 a2 with y | ⟨r', r1, r2, r3, r4⟩
    · rw [(s5 s a1 a2).2 y]; decide
    · have u := up r' (by omega)
      have pr := PRC_rg (c := c) (s := s - 1) P (show r' - 1 < NE h by omega)
      unfold PP at r4
      omega
  · obtain ⟨⟨a, a1, a2, r, r1, r2⟩, -⟩ := s12 t1 j j1 j2 un
    obtain ⟨r', q1, q2, q3⟩ := s11 a a1
    have er : r = r' := by rw [r1] at q1; omega
    have := s1 r j (by omega) (by omega) j1 j2
    omega
