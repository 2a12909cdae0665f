/-! SHAKES: the seats are the cheapest -/
def smI (f : Nat → Int) : Nat → Int
  | 0 => 0
  | k + 1 => smI f k + f k
theorem smI_congr {f g : Nat → Int} : ∀ {k : Nat}, (∀ i, i < k → f i = g i) → smI f k = smI g k
  | 0, _ => rfl
  | k + 1, e => by unfold smI; rw [smI_congr (fun i hi => e i (by omega)), e k (by omega)]
theorem smI_le {f g : Nat → Int} : ∀ {k : Nat}, (∀ i, i < k → f i ≤ g i) → smI f k ≤ smI g k
  | 0, _ => Int.le_refl _
  | k + 1, e => by
    unfold smI
    have := smI_le (fun i hi => e i (Nat.lt_succ_of_lt hi))
    have := e k (Nat.lt_succ_self k)
    omega
theorem smI_add {f g : Nat → Int} : ∀ k, smI (fun i => f i + g i) k = smI f k + smI g k
  | 0 => rfl
  | k + 1 => by unfold smI; rw [smI_add k]; omega
theorem smI_zero {f : Nat → Int} {k : Nat} (e : ∀ i, i < k → f i = 0) : smI f k = 0 := by
  rw [smI_congr e]
  clear e
  induction k with
  | zero => rfl
  | succ k ih => unfold smI; rw [ih]; rfl
theorem smI_set {W : Nat → Int} {t : Nat} : ∀ m, smI (fun s => if s = t then 0 else W s) m = smI W m - (if t < m then W t else 0)
  | 0 => by rw [if_neg (Nat.not_lt_zero t)]; rfl
  | m + 1 => by
    have ih := smI_set (W := W) (t := t) m
    unfold smI
    rw [ih]
    by_cases e : m = t
    · subst e
      rw [if_neg (Nat.lt_irrefl m), if_pos rfl, if_pos (Nat.lt_succ_self m)]
      omega
    · rw [if_neg e]
      by_cases y : t < m
      · rw [if_pos y, if_pos (by omega)]; omega
      · rw [if_neg y, if_neg (by omega)]; omega
theorem sum_ge {m : Nat} {τ : Nat → Nat} : ∀ (k : Nat) (W : Nat → Int), (∀ s, W s ≤ 0) → INJ m k τ → smI W m ≤ smI (fun r => W (τ r)) k
  | 0, W, h0, _ => by
    show smI W m ≤ 0
    have := smI_le (f := W) (g := fun _ => 0) (k := m) (fun i _ => h0 i)
    rw [smI_zero (f := fun _ => 0) (fun _ _ => rfl)] at this
    exact this
  | k + 1, W, h0, I => by
    have ih := sum_ge k (fun s => if s = τ k then 0 else W s) (fun s => by by_cases e : s = τ k; · rw [if_pos e]; exact Int.le_refl _
                                                                           · rw [if_neg e]; exact h0 s) (I.sub (Nat.le_succ k))
    rw [smI_set, if_pos (I.1 k (Nat.lt_succ_self k))] at ih
    rw [smI_congr (g := fun r => W (τ r)) (fun i hi => if_neg (fun z => by have := I.2 i k (by omega) (by omega) z; omega))] at ih
    show _ ≤ smI (fun r => W (τ r)) k + W (τ k)
    omega
theorem sum_eq {m : Nat} {τ : Nat → Nat} : ∀ (k : Nat) (W : Nat → Int), (∀ s, s < m → (∀ i, i < k → τ i ≠ s) → W s = 0) → INJ m k τ → smI W m = smI (fun r => W (τ r)) k
  | 0, W, h0, _ => smI_zero (fun i hi => h0 i hi (fun j hj => absurd hj (Nat.not_lt_zero j)))
  | k + 1, W, h0, I => by
    have ih := sum_eq k (fun s => if s = τ k then 0 else W s) (fun s hs z => by
      by_cases e : s = τ k
      · exact if_pos e
      · show (if s = τ k then 0 else W s) = 0
        rw [if_neg e]
        refine h0 s hs (fun i hi => ?_)
        by_cases c : i = k
        · rw [c]; exact fun y => e y.symm
        · exact z i (by omega)) (I.sub (Nat.le_succ k))
    rw [smI_set, if_pos (I.1 k (Nat.lt_succ_self k))] at ih
    rw [smI_congr (f := fun r => if τ r = τ k then 0 else W (τ r)) (g := fun r => W (τ r)) (fun i hi => if_neg (fun z => by have := I.2 i k (by omega) (by omega) z; omega))] at ih
    show _ = smI (fun r => W (τ r)) k + W (τ k)
    omega
theorem HUN.least {h : aH} {c : Nat} {U V A : Nat → Int} (H : HUN h c (NE h + 1) U V A) {σ τ : Nat → Nat} (S : INJ (NS h c) (NE h) σ) (hσ : ∀ r, r < NE h → A (σ r + 1) = ((r + 1 : Nat) : Int)) (T : INJ (NS h c) (NE h) τ) : smI (fun r => PRC h c r (σ r)) (NE h) ≤ smI (fun r => PRC h c r (τ r)) (NE h) := by
  obtain ⟨a, b, c1, c2, d, e⟩ := H
  have es : ∀ r, r < NE h → PRC h c r (σ r) = U (r + 1) + V (σ r + 1) := by
    intro r hr
    have s1 := S.1 r hr
    rcases b (σ r + 1) (by omega) (by omega) with y | ⟨r', r1, r2, r3, r4⟩
    · rw [hσ r hr] at y; omega
    · rw [hσ r hr] at r1
      have : r' = r + 1 := by omega
      subst this
      exact r4.symm
  have et : ∀ r, r < NE h → U (r + 1) + V (τ r + 1) ≤ PRC h c r (τ r) := fun r hr => a (r + 1) (τ r + 1) (by omega) (by omega) (by omega) (by have := T.1 r hr; omega)
  rw [smI_congr es]
  refine Int.le_trans ?_ (smI_le et)
  rw [smI_add, smI_add]
  have w : ∀ s, (fun s => if s < NS h c then V (s + 1) else 0) s ≤ 0 := fun s => by
    show (if s < NS h c then V (s + 1) else 0) ≤ 0
    by_cases y : s < NS h c
    · rw [if_pos y]; exact (d (s + 1) (by omega) (by omega)).1
    · rw [if_neg y]; exact Int.le_refl _
  have g1 := sum_ge (NE h) _ w T
  have g2 := sum_eq (NE h) (fun s => if s < NS h c then V (s + 1) else 0) (fun s hs z => by
    show (if s < NS h c then V (s + 1) else 0) = 0
    rw [if_pos hs]
    refine (d (s + 1) (by omega) (by omega)).2 ?_
    rcases b (s + 1) (by omega) (by omega) with y | ⟨r', r1, r2, r3, r4⟩
    · exact y
    · exfalso
      have k := c1 (s + 1) (σ (r' - 1) + 1) (by omega) (by omega) (by omega) (by have := S.1 (r' - 1) (by omega); omega) (by rw [r1]; omega) (by rw [r1, hσ (r' - 1) (by omega)]; omega)
      exact z (r' - 1) (by omega) (by omega)) S
  rw [smI_congr (f := fun r => if τ r < NS h c then V (τ r + 1) else 0) (g := fun r => V (τ r + 1)) (fun i hi => if_pos (T.1 i hi))] at g1
  rw [smI_congr (f := fun r => if σ r < NS h c then V (σ r + 1) else 0) (g := fun r => V (σ r + 1)) (fun i hi => if_pos (S.1 i hi))] at g2
  omega
