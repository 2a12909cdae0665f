/-! THE ROUND: the way back, and the order -/
/-- what the latest table holds so far: cells of a greater mask are done, and of this mask those before l -/
def BW (H S : Nat → Int) (e : Int) (n : Nat) (en : Int) (L : Nat → Int) (x l : Nat) : Prop :=
  (∀ s j, s < 2 ^ n → j < n → -1 ≤ L (s * 8 + j) ∧ L (s * 8 + j) ≤ 399) ∧
  (∀ s j, s < 2 ^ n → j < n → (s < x ∨ s = x ∧ l ≤ j) → L (s * 8 + j) = -1) ∧
  ∀ s j, 0 < s → s < 2 ^ n → j < n → (x < s ∨ s = x ∧ j < l) → ∀ t, 0 ≤ t → (t ≤ L (s * 8 + j) ↔ FIN H S e n en (n - BTS s n) s (S j) t)
/-- in a cell, those before i are weighed -/
def GOI (H S : Nat → Int) (e : Int) (n : Nat) (en : Int) (s : Nat) (p t : Int) (i : Nat) : Prop := i < n ∧ s.testBit i = false ∧ KN (H i) e (t + WAY (S i) p) ≤ H i ∧ FIN H S e n en (n - BTS s n - 1) (s ||| 2 ^ i) (S i) (KN (H i) e (t + WAY (S i) p))
def BWI (H S : Nat → Int) (e : Int) (n : Nat) (en : Int) (L : Nat → Int) (x l i : Nat) : Prop :=
  (∀ s j, s < 2 ^ n → j < n → -1 ≤ L (s * 8 + j) ∧ L (s * 8 + j) ≤ 399) ∧
  (∀ s j, s < 2 ^ n → j < n → (s < x ∨ s = x ∧ l + 1 ≤ j) → L (s * 8 + j) = -1) ∧
  (∀ s j, 0 < s → s < 2 ^ n → j < n → (x < s ∨ s = x ∧ j < l) → ∀ t, 0 ≤ t → (t ≤ L (s * 8 + j) ↔ FIN H S e n en (n - BTS s n) s (S j) t)) ∧
  ∀ t, 0 ≤ t → (t ≤ L (x * 8 + l) ↔ ∃ i', i' < i ∧ GOI H S e n en x (S l) t i')
theorem BW.start {H S : Nat → Int} {e : Int} {n : Nat} {en : Int} {L : Nat → Int} {x l : Nat} (B : BW H S e n en L x l) (hx : x < 2 ^ n) (hl : l < n) : BWI H S e n en L x l 0 := by
  refine ⟨B.1, fun s j hs hj o => B.2.1 s j hs hj (by omega), B.2.2, fun t ht => ⟨fun z => ?_, fun ⟨i, hi, _⟩ => absurd hi (Nat.not_lt_zero i)⟩⟩
  have := B.2.1 x l hx hl (Or.inr ⟨rfl, Nat.le_refl l⟩)
  omega
theorem BWI.skip {H S : Nat → Int} {e : Int} {n : Nat} {en : Int} {L : Nat → Int} {x l i : Nat} (B : BWI H S e n en L x l i) (b : x.testBit i = true) : BWI H S e n en L x l (i + 1) := by
  obtain ⟨b1, b2, b3, b4⟩ := B
  refine ⟨b1, b2, b3, fun t ht => (b4 t ht).trans ⟨fun ⟨i', hi, g⟩ => ⟨i', by omega, g⟩, fun ⟨i', hi, g⟩ => ?_⟩⟩
  by_cases c : i' = i
  · rw [c] at g
    have := g.2.1
    rw [b] at this
    cases this
  · exact ⟨i', by omega, g⟩
theorem bts_lt2 {s n i : Nat} (b : s.testBit i = false) (hi : i < n) : BTS s n < n := by
  have h1 := bts_or b hi
  have h2 : BTS (s ||| 2 ^ i) n ≤ n := cntB_le _ n
  omega
theorem BWI.step {H S : Nat → Int} {e : Int} {n : Nat} {en : Int} {L L' : Nat → Int} {x l i : Nat} {v : Int} (n8 : n ≤ 8) (B : BWI H S e n en L x l i) (hx : x < 2 ^ n) (hl : l < n) (hi : i < n) (b : x.testBit i = false)
    (hv : (min (H i) (L ((x ||| 2 ^ i) * 8 + i)) < H i - e ∧ v = -1) ∨ (¬ min (H i) (L ((x ||| 2 ^ i) * 8 + i)) < H i - e ∧ v = min (H i) (L ((x ||| 2 ^ i) * 8 + i)) - WAY (S l) (S i)))
    (hL : ∀ j, L' j = if j = x * 8 + l then max (L (x * 8 + l)) v else L j) : BWI H S e n en L' x l (i + 1) := by
  obtain ⟨b1, b2, b3, b4⟩ := B
  have gt := or_gt b
  have lt := or_lt hx hi
  have g1 := b1 (x ||| 2 ^ i) i lt hi
  have wy : 0 ≤ WAY (S l) (S i) := by unfold WAY; omega
  have bt := bts_or b hi
  refine ⟨fun s j hs hj => ?_, fun s j hs hj o => ?_, fun s j s0 hs hj o t ht => ?_, fun t ht => ?_⟩
  · rw [hL]
    by_cases c : s * 8 + j = x * 8 + l
    · rw [if_pos c]
      have := b1 x l hx hl
      omega
    · rw [if_neg c]; exact b1 s j hs hj
  · rw [hL, if_neg (by omega)]; exact b2 s j hs hj o
  · rw [hL, if_neg (by omega)]; exact b3 s j s0 hs hj o t ht
  · rw [hL, if_pos rfl]
    have key : t ≤ v ↔ GOI H S e n en x (S l) t i := by
      have kn : 0 ≤ KN (H i) e (t + WAY (S i) (S l)) := by rw [WAY_comm]; unfold KN; omega
      have q := b3 (x ||| 2 ^ i) i (by omega) lt hi (Or.inl gt) _ kn
      rw [bt, show n - (BTS x n + 1) = n - BTS x n - 1 by omega] at q
      unfold GOI
      rw [← q]
      have wc := WAY_comm (S i) (S l)
      constructor
      · intro z
        refine ⟨hi, b, ?_, ?_⟩
        · unfold KN; omega
        · unfold KN; omega
      · rintro ⟨_, _, z1, z2⟩
        unfold KN at z1 z2
        omega
    have old := b4 t ht
    constructor
    · intro z
      by_cases c : t ≤ L (x * 8 + l)
      · obtain ⟨i', hi', g⟩ := old.1 c
        exact ⟨i', by omega, g⟩
      · exact ⟨i, by omega, key.1 (by omega)⟩
    · rintro ⟨i', hi', g⟩
      by_cases c : i' = i
      · rw [c] at g
        have := key.2 g
        omega
      · have := old.2 ⟨i', by omega, g⟩
        omega
theorem BWI.fin {H S : Nat → Int} {e : Int} {n : Nat} {en : Int} {L : Nat → Int} {x l : Nat} (B : BWI H S e n en L x l n) (hn : BTS x n < n) : BW H S e n en L x (l + 1) := by
  obtain ⟨b1, b2, b3, b4⟩ := B
  refine ⟨b1, b2, fun s j s0 hs hj o t ht => ?_⟩
  by_cases c : s = x ∧ j = l
  · rw [c.1, c.2]
    refine (b4 t ht).trans ?_
    obtain ⟨d, hd⟩ : ∃ d, n - BTS x n = d + 1 := ⟨n - BTS x n - 1, by omega⟩
    have hd1 : n - BTS x n - 1 = d := by omega
    unfold GOI
    rw [hd1, hd]
    constructor
    · rintro ⟨i, _, g⟩; exact ⟨i, g⟩
    · rintro ⟨i, g⟩; exact ⟨i, g.1, g⟩
  · exact b3 s j s0 hs hj (by omega) t ht
theorem BW.next {H S : Nat → Int} {e : Int} {n : Nat} {en : Int} {L : Nat → Int} {x : Nat} (B : BW H S e n en L (x + 1) n) : BW H S e n en L x 0 := by
  obtain ⟨b1, b2, b3⟩ := B
  exact ⟨b1, fun s j hs hj o => b2 s j hs hj (by omega), fun s j s0 hs hj o t ht => b3 s j s0 hs hj (by omega) t ht⟩
theorem BW.first {H S : Nat → Int} {e : Int} {n : Nat} {en : Int} {L : Nat → Int} (n0 : 0 < n) (n8 : n ≤ 8) (he : 0 ≤ en ∧ en ≤ 399) (h1 : ∀ s j, s < 2 ^ n - 1 → j < n → L (s * 8 + j) = -1) (h2 : ∀ j, j < n → L ((2 ^ n - 1) * 8 + j) = en) : BW H S e n en L (2 ^ n - 2) 0 := by
  have p2 : 2 ≤ 2 ^ n := Nat.le_trans (show 2 ≤ 2 ^ 1 by decide) (Nat.pow_le_pow_right (by omega) n0)
  refine ⟨fun s j hs hj => ?_, fun s j hs hj o => h1 s j (by omega) hj, fun s j s0 hs hj o t ht => ?_⟩
  · rcases Nat.lt_or_ge s (2 ^ n - 1) with c | c
    · rw [h1 s j c hj]; omega
    · rw [show s = 2 ^ n - 1 by omega, h2 j hj]; omega
  · rw [show s = 2 ^ n - 1 by omega, h2 j hj, bts_full2, Nat.sub_self]
    exact Iff.rfl
/-- the order that is picked: at each step the first that can be -/
def MINI (H S : Nat → Int) (e : Int) (n : Nat) (en : Int) (f : Nat → Nat) (k : Nat) : Prop := ∀ j, j < k → ∀ i, i < f j → ∀ a p, simN H S e f j = some (a, p) → ¬ GOI H S e n en (MSK f j) p a i
theorem MINI.least {H S : Nat → Int} {e : Int} {n : Nat} {en : Int} {f q : Nat → Nat} (n8 : n ≤ 8) (F : PERM n f) (Q : PERM n q) (M : MINI H S e n en f n) {b c : Int} (hq : simN H S e q n = some (b, c)) (hb : b ≤ en) : cod f n ≤ cod q n := by
  rcases Nat.lt_or_ge (cod q n) (cod f n) with z | z
  · exfalso
    obtain ⟨k, hk, eq, lt⟩ := cod_diff (fun j hj => ⟨by have := Q.1 j hj; omega, by have := F.1 j hj; omega⟩) z
    have I : INJ n (k + 1) q := ⟨fun i hi => Q.1 i (by omega), fun i j hi hj z => Q.2 i j (by omega) (by omega) z⟩
    cases y : simN H S e q (k + 1) with
    | none =>
      have := simN_none y (n - (k + 1))
      rw [show k + 1 + (n - (k + 1)) = n by omega, hq] at this
      cases this
    | some v =>
      obtain ⟨a', p'⟩ := v
      obtain ⟨a2, p2, h2, e1, le, e2⟩ := simN_at y
      have g := FIN_of Q hq hb _ (k + 1) a' p' rfl (by omega) y
      have em := MSK_congr (k := k) (fun j hj => eq j hj)
      refine M k hk (q k) lt a2 p2 (by rw [← simN_congr (fun j hj => eq j hj)]; exact h2) ⟨Q.1 k hk, by rw [← em]; exact MSK_out I, by rw [← e1]; exact le, ?_⟩
      rw [← em, bts_msk (I.sub (Nat.le_succ k)), ← e1, ← e2, show n - k - 1 = n - (k + 1) by omega]
      exact g
  · exact z
