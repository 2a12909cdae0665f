/-! SHAKES: what holds between two rows that are seated, and while one is -/
theorem inj_le {n k : Nat} {f : Nat → Nat} (I : INJ n k f) : k ≤ n := by
  have h1 := bts_msk I
  have h2 : BTS (MSK f k) n ≤ n := cntB_le _ n
  omega
def PP (h : aH) (c r s : Nat) : Int := PRC h c (r - 1) (s - 1)
/-- the parts and the seats, of the rows that are seated (below row) -/
def HUN (h : aH) (c row : Nat) (U V : Nat → Int) (A : Nat → Int) : Prop :=
  (∀ r s, 1 ≤ r → r < row → 1 ≤ s → s ≤ NS h c → U r + V s ≤ PP h c r s) ∧
  (∀ s, 1 ≤ s → s ≤ NS h c → A s = 0 ∨ ∃ r : Nat, A s = (r : Int) ∧ 1 ≤ r ∧ r < row ∧ U r + V s = PP h c r s) ∧
  (∀ s s', 1 ≤ s → s ≤ NS h c → 1 ≤ s' → s' ≤ NS h c → A s ≠ 0 → A s = A s' → s = s') ∧
  (∀ r, 1 ≤ r → r < row → ∃ s, 1 ≤ s ∧ s ≤ NS h c ∧ A s = (r : Int)) ∧
  (∀ s, 1 ≤ s → s ≤ NS h c → V s ≤ 0 ∧ (A s = 0 → V s = 0)) ∧
  ∀ r, r ≤ 8 → r = 0 ∨ row ≤ r → U r = 0
/-- there is a side that is free -/
theorem HUN.free {h : aH} {c row : Nat} {U V A : Nat → Int} (H : HUN h c row U V A) (hc : 1 ≤ c ∧ c ≤ 2) (n0 : 0 < NE h) (hr : row ≤ NE h + 1) : ∃ s, (1 ≤ s ∧ s ≤ NS h c) ∧ A s = 0 := by
  by_cases e : ∃ s, (1 ≤ s ∧ s ≤ NS h c) ∧ A s = 0
  · exact e
  · exfalso
    obtain ⟨-, b, c1, -, -, -⟩ := H
    have all : ∀ s, 1 ≤ s → s ≤ NS h c → ∃ r : Nat, A s = (r : Int) ∧ 1 ≤ r ∧ r < row := by
      intro s s1 s2
      rcases b s s1 s2 with z | ⟨r, r1, r2, r3, _⟩
      · exact absurd ⟨s, ⟨s1, s2⟩, z⟩ e
      · exact ⟨r, r1, r2, r3⟩
    have I : INJ (NE h) (NS h c) (fun i => (A (i + 1)).toNat - 1) := by
      refine ⟨fun i hi => ?_, fun i j hi hj z => ?_⟩
      · obtain ⟨r, r1, r2, r3⟩ := all (i + 1) (by omega) (by omega)
        show (A (i + 1)).toNat - 1 < NE h
        rw [r1, Int.toNat_natCast]
        clear e; omega
      · obtain ⟨r, r1, r2, r3⟩ := all (i + 1) (by omega) (by omega)
        obtain ⟨r', r1', r2', r3'⟩ := all (j + 1) (by omega) (by omega)
        have z : (A (i + 1)).toNat - 1 = (A (j + 1)).toNat - 1 := z
        rw [r1, r1', Int.toNat_natCast, Int.toNat_natCast] at z
        have := c1 (i + 1) (j + 1) (by omega) (by omega) (by omega) (by omega) (by rw [r1]; clear e; omega) (by rw [r1, r1']; clear e; omega)
        clear e; omega
    have := inj_le I
    have := Nat.mul_le_mul (Nat.le_refl (NE h)) hc.1
    unfold NS at *
    clear e
    omega
theorem HUN.bd {h : aH} {c row : Nat} {U V A : Nat → Int} (P : PI h) (H : HUN h c row U V A) (hc : 1 ≤ c ∧ c ≤ 2) (n0 : 0 < NE h) (hr : row ≤ NE h + 1) : (∀ r, r ≤ 8 → -6586148313 ≤ U r ∨ row ≤ r) ∧ (∀ r, r ≤ 8 → U r ≤ 6586148313000) ∧ ∀ s, 1 ≤ s → s ≤ NS h c → -6592734461313 ≤ V s ∧ V s ≤ 0 := by
  have n8 := NE_le h
  obtain ⟨s0, ⟨s1, s2⟩, s3⟩ := H.free hc n0 hr
  obtain ⟨a, b, c1, c2, d, e⟩ := H
  have up : ∀ r, r ≤ 8 → U r ≤ 6586148313000 := by
    intro r r8
    by_cases z : r = 0 ∨ row ≤ r
    · rw [e r r8 z]; decide
    · have := a r s0 (by omega) (by omega) s1 s2
      have v0 := (d s0 s1 s2).2 s3
      have pr := PRC_rg (c := c) (s := s0 - 1) P (show r - 1 < NE h by omega)
      unfold PP at this
      omega
  refine ⟨fun r r8 => ?_, up, fun s a1 a2 => ?_⟩
  · by_cases z : r = 0 ∨ row ≤ r
    · rw [e r r8 z]; exact Or.inl (by decide)
    · obtain ⟨s, t1, t2, t3⟩ := c2 r (by omega) (by omega)
      rcases b s t1 t2 with y | ⟨r', r1, r2, r3, r4⟩
      · rw [t3] at y
        exact Or.inr (by omega)
      · have er : r' = r := by rw [t3] at r1; omega
        subst er
        have v0 := (d s t1 t2).1
        have pr := PRC_rg (c := c) (s := s - 1) P (show r' - 1 < NE h by omega)
        unfold PP at r4
        exact Or.inl (by omega)
  · refine ⟨?_, (d s a1 a2).1⟩
    rcases b s a1 a2 with y | ⟨r', r1, r2, r3, r4⟩
    · rw [(d s a1 a2).2 y]; decide
    · have u := up r' (by omega)
      have pr := PRC_rg (c := c) (s := s - 1) P (show r' - 1 < NE h by omega)
      unfold PP at r4
      omega
