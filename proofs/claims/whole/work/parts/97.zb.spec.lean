/-! SHAKES: what is asked for; sleepers and places in the row of eight -/
theorem e8_ix {hour : Nat → Int} : ∀ k, (∀ j, j < (e8 hour k).2 → (e8 hour ((e8 hour k).1 j)).2 = j) ∧ ∀ x, x < k → hour x ≠ -2 → (e8 hour x).2 < 8 → (e8 hour x).2 < (e8 hour k).2 ∧ (e8 hour k).1 ((e8 hour x).2) = x
  | 0 => ⟨fun j h => absurd h (Nat.not_lt_zero j), fun x h => absurd h (Nat.not_lt_zero x)⟩
  | k + 1 => by
    obtain ⟨i1, i2⟩ := e8_ix (hour := hour) k
    by_cases c : hour k ≠ -2 ∧ (e8 hour k).2 < 8
    · rw [e8_y c]
      refine ⟨fun j hj => ?_, fun x hx h1 h2 => ?_⟩
      · have hj : j < (e8 hour k).2 + 1 := hj
        dsimp only
        by_cases e : j = (e8 hour k).2
        · rw [if_pos e, e]
        · rw [if_neg e]; exact i1 j (by omega)
      · dsimp only
        by_cases e : x = k
        · rw [e, if_pos rfl]; exact ⟨Nat.lt_succ_self _, rfl⟩
        · obtain ⟨a, b⟩ := i2 x (by omega) h1 h2
          rw [if_neg (by omega)]
          exact ⟨by omega, b⟩
    · rw [e8_n c]
      refine ⟨i1, fun x hx h1 h2 => ?_⟩
      by_cases e : x = k
      · subst e
        exact absurd ⟨h1, h2⟩ c
      · exact i2 x (by omega) h1 h2
theorem e8_mono {hour : Nat → Int} : ∀ k x, x ≤ k → (e8 hour x).2 ≤ (e8 hour k).2
  | 0, x, h => by rw [Nat.le_zero.mp h]; exact Nat.le_refl _
  | k + 1, x, h => by
    by_cases e : x = k + 1
    · rw [e]; exact Nat.le_refl _
    · have := e8_mono (hour := hour) k x (by omega)
      by_cases c : hour k ≠ -2 ∧ (e8 hour k).2 < 8
      · rw [e8_y c]
        show _ ≤ (e8 hour k).2 + 1
        omega
      · rw [e8_n c]; exact this
/-- his place in the row of eight -/
def IX (h : aH) (x : Nat) : Nat := (e8 (h 23) x).2
theorem EI_first {h : aH} (P : PI h) {j : Nat} (hj : j < NE h) : EI h j < NSL h ∧ FIRST h (EI h j) ∧ IX h (EI h j) = j := by
  obtain ⟨a, b⟩ := EI_ok P hj
  have e : (e8 (h 23) (EI h j)).2 = j := (e8_ix (hour := h 23) (NSL h)).1 j hj
  have n8 := NE_le h
  refine ⟨a, ⟨by omega, ?_⟩, e⟩
  rw [e]; omega
theorem FIRST_ix {h : aH} {x : Nat} (hx : x < NSL h) (f : FIRST h x) : IX h x < NE h ∧ EI h (IX h x) = x := (e8_ix (hour := h 23) (NSL h)).2 x hx f.1 f.2
theorem EI_lt {h : aH} (P : PI h) {i j : Nat} (hi : i < NE h) (hj : j < NE h) : i < j ↔ EI h i < EI h j := by
  have a := (EI_first P hi).2.2
  have b := (EI_first P hj).2.2
  refine ⟨fun l => ?_, fun l => ?_⟩
  · rcases Nat.lt_or_ge (EI h i) (EI h j) with y | y
    · exact y
    · have := e8_mono (hour := h 23) _ _ y
      unfold IX at a b
      omega
  · rcases Nat.lt_or_ge i j with y | y
    · exact y
    · exfalso
      have e := (e8_mono (hour := h 23) (EI h j) (EI h i) (by omega))
      unfold IX at a b
      rw [a, b] at e
      have : i = j := by omega
      subst this
      exact Nat.lt_irrefl _ l
theorem EI_inj {h : aH} (P : PI h) : INJ (NSL h) (NE h) (EI h) := ⟨fun i hi => (EI_first P hi).1, fun i j hi hj z => by
  have a := (EI_first P hi).2.2
  have b := (EI_first P hj).2.2
  rw [z] at a
  omega⟩
/-- a sum over sleepers of what only the eight have -/
theorem EI_sum {h : aH} (P : PI h) {G : Nat → Int} (h0 : ∀ x, x < NSL h → ¬ FIRST h x → G x = 0) : smI G (NSL h) = smI (fun r => G (EI h r)) (NE h) :=
  sum_eq (NE h) G (fun s hs z => h0 s hs (fun f => by
    obtain ⟨a, b⟩ := FIRST_ix hs f
    exact z _ a b)) (EI_inj P)
/-- who shakes whom: g x shakes x, 12: nobody -/
def SV (h : aH) (c : Nat) (g : Nat → Nat) : Prop := (∀ x, x < NSL h → g x = 12 ∨ g x < NSL h ∧ CANS h (g x) x) ∧ ∀ a, a < NSL h → smI (fun x => if g x = a then 1 else 0) (NSL h) ≤ (c : Int)
def SMV (g : Nat → Nat) (n : Nat) : Int := smI (fun x => if g x = 12 then 0 else 1) n
def SWV (h : aH) (g : Nat → Nat) (n : Nat) : Int := smI (fun x => if g x = 12 then 0 else WSL h (g x) x) n
def LXL (f g : Nat → Nat) (n : Nat) : Prop := (∀ x, x < n → f x = g x) ∨ ∃ x, x < n ∧ (∀ y, y < x → f y = g y) ∧ f x < g x
def SBT (h : aH) (f g : Nat → Nat) : Prop := SMV g (NSL h) < SMV f (NSL h) ∨ SMV g (NSL h) = SMV f (NSL h) ∧ (SWV h f (NSL h) < SWV h g (NSL h) ∨ SWV h f (NSL h) = SWV h g (NSL h) ∧ LXL f g (NSL h))
def SOPT (h : aH) (c : Nat) (f : Nat → Nat) : Prop := SV h c f ∧ ∀ g, SV h c g → SBT h f g
theorem LXL_anti {f g : Nat → Nat} {n : Nat} (a : LXL f g n) (b : LXL g f n) : ∀ x, x < n → f x = g x := by
  rcases a with a | ⟨x, x1, x2, x3⟩
  · exact a
  · rcases b with b | ⟨y, y1, y2, y3⟩
    · exact fun x hx => (b x hx).symm
    · exfalso
      rcases Nat.lt_trichotomy x y with l | l | l
      · have := y2 x l; omega
      · subst l; omega
      · have := x2 y l; omega
theorem SOPT_uniq {h : aH} {c : Nat} {f g : Nat → Nat} (a : SOPT h c f) (b : SOPT h c g) : SMV f (NSL h) = SMV g (NSL h) ∧ SWV h f (NSL h) = SWV h g (NSL h) ∧ ∀ x, x < NSL h → f x = g x := by
  have u := a.2 g b.1
  have v := b.2 f a.1
  unfold SBT at u v
  rcases u with u | ⟨u1, u⟩
  · rcases v with v | ⟨v1, v⟩ <;> exfalso <;> omega
  · rcases v with v | ⟨v1, v⟩
    · exfalso; omega
    · rcases u with u | ⟨u2, u⟩
      · rcases v with v | ⟨v2, v⟩ <;> exfalso <;> omega
      · rcases v with v | ⟨v2, v⟩
        · exfalso; omega
        · exact ⟨u1.symm, u2, LXL_anti u v⟩
/-! digits -/
def hor (a : Nat → Nat) : Nat → Nat
  | 0 => 0
  | k + 1 => 9 * hor a k + a k
theorem hor_sum (a : Nat → Nat) : ∀ k, k ≤ 8 → smI (fun i => (a i : Int) * ((9 ^ (7 - i) : Nat) : Int)) k = ((hor a k * 9 ^ (8 - k) : Nat) : Int)
  | 0, _ => by simp [smI, hor]
  | k + 1, hk => by
    unfold smI hor
    rw [hor_sum a k (by omega), show 8 - k = (7 - k) + 1 by omega, show 8 - (k + 1) = 7 - k by omega, Nat.pow_succ, ← Int.natCast_mul, ← Int.natCast_add, Nat.add_mul, Nat.mul_comm (9 ^ (7 - k)) 9, ← Nat.mul_assoc, Nat.mul_comm 9 (hor a k)]
theorem hor_lt {a : Nat → Nat} : ∀ {k : Nat}, (∀ i, i < k → a i ≤ 8) → hor a k < 9 ^ k
  | 0, _ => Nat.lt_succ_self 0
  | k + 1, e => by
    have := hor_lt (fun i hi => e i (Nat.lt_succ_of_lt hi))
    have := e k (Nat.lt_succ_self k)
    unfold hor
    rw [Nat.pow_succ]
    omega
theorem hor_lex {a b : Nat → Nat} : ∀ {k : Nat}, (∀ i, i < k → b i ≤ 8) → hor a k ≤ hor b k → (∀ i, i < k → a i = b i) ∨ ∃ r, r < k ∧ (∀ i, i < r → a i = b i) ∧ a r < b r
  | 0, _, _ => Or.inl (fun i hi => absurd hi (Nat.not_lt_zero i))
  | k + 1, e, l => by
    have b8 := e k (Nat.lt_succ_self k)
    unfold hor at l
    rcases hor_lex (a := a) (fun i hi => e i (Nat.lt_succ_of_lt hi)) (show hor a k ≤ hor b k by omega) with y | ⟨r, r1, r2, r3⟩
    · have : hor a k = hor b k := by
        have cg : ∀ m, m ≤ k → hor a m = hor b m := by
          intro m
          induction m with
          | zero => intro _; rfl
          | succ m ih => intro hm; unfold hor; rw [ih (by omega), y m (by omega)]
        exact cg k (Nat.le_refl k)
      rcases Nat.lt_or_ge (a k) (b k) with z | z
      · exact Or.inr ⟨k, Nat.lt_succ_self k, y, z⟩
      · refine Or.inl (fun i hi => ?_)
        by_cases e : i = k
        · rw [e]; omega
        · exact y i (by omega)
    · exact Or.inr ⟨r, by omega, r2, r3⟩
theorem hor_mul_le {a b k : Nat} (hk : k ≤ 8) (l : a * 9 ^ (8 - k) ≤ b * 9 ^ (8 - k)) : a ≤ b := Nat.le_of_mul_le_mul_right l (Nat.pow_pos (by decide))
theorem hor_top {a : Nat → Nat} {k : Nat} (hk : k ≤ 8) (e : ∀ i, i < k → a i ≤ 8) : hor a k * 9 ^ (8 - k) < 43046721 := by
  have h1 := hor_lt e
  have h2 := Nat.mul_lt_mul_of_pos_right h1 (show 0 < 9 ^ (8 - k) from Nat.pow_pos (by decide))
  rw [← Nat.pow_add, show k + (8 - k) = 8 by omega] at h2
  exact h2
