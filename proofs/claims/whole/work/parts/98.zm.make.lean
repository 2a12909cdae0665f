/-! both constructors, run on numbers -/
def blk : List aC → List aC
  | c0 :: _ :: l => c0 :: (0, 0, []) :: l
  | l => l
def sh0 : List aC := (blk (SH 0)).take 9
def sh1 : List aC := (blk (SH 0)).take 130
def H0 : aH := fun r j => bif Nat.beq r 2 then am_nth 0 [1, 100, 10000, 1000000, 100000000, 10000000000, 1000000000000, 100000000000000, 10000000000000000] j else bif Nat.beq r 3 then am_nth 0 [4782969, 531441, 59049, 6561, 729, 81, 9, 1] j else
  bif Nat.beq r 5 then am_nth 0 [108, 111, 117, 100, 32, 103, 97, 112, 32, 102, 108, 111, 111, 114, 115, 32, 104, 111, 117, 114, 32, 100, 101, 101, 112, 32, 119, 111, 111, 108, 32, 97, 102, 116, 101, 114, 32, 98, 101, 100, 32, 99, 108, 111, 99, 107, 32, 102, 97, 115, 116, 32, 115, 108, 111, 119, 32, 115, 108, 101, 101, 112, 101, 114, 32, 105, 110, 32, 117, 112, 32, 108, 97, 116, 101, 32, 118, 97, 105, 110, 32, 104, 101, 97, 114, 115, 32, 97, 103, 97, 105, 110, 32] j else bif Nat.beq r 7 then am_nth 0 [59, 43, 45, 42, 47, 60, 40, 41, 91, 93] j else 0
/-- behind the first `new` -/
def MK1 : aS := (sh0 ++ [(21, 12, List.replicate 12 0)], am_z (sh0, H0))
/-- behind the second -/
def MK2 (S : aS) : aS := (S.1 ++ [(22, 90, List.replicate 90 0)], am_z S)
def E1 : Option (Option aV × aS) := am_E 3000 0 (MK1.1.length + mCe 0, am_sz MK1.1 + mSl 0) 0 (am_en 0 [.inr (.inr 9)]) [] MK1
def E2 (S : aS) : Option (Option aV × aS) := am_E 3000 212 ((MK2 S).1.length + mCe 212, am_sz (MK2 S).1 + mSl 212) 0 (am_en 0 [.inr (.inr 130)]) [] (MK2 S)
/-- what the fresh objects hold -/
def FCT (h : aH) : Bool :=
  (decide (h 16 14 = 0) && decide (h 16 15 = 0) && decide (h 16 16 = 0) && decide (h 29 2 = 0) && decide (h 32 2 = 0) && decide (h 58 10 = 0) && decide (h 58 11 = 0) && decide (h 16 17 = 0) && decide (h 16 18 = 0) && decide (h 58 12 = 0))
  && (decide (h 130 76 = 0) && decide (h 130 48 = 0) && decide (h 130 18 = 0) && decide (h 10 5 = 0) && decide (h 130 2 = 0) && decide (h 35 12 = -1) && decide (h 130 17 = -1) && decide (h 102 16 = -1) && decide (h 9 11 = 0))
  && (decide (h 141 0 = 0) && decide (h 144 0 = 0) && decide (h 147 0 = 0) && decide (h 153 0 = 0) && decide (h 153 1 = 0) && decide (h 6 1 = 0) && decide (h 28 6 = 0) && decide (h 70 13 = 0) && decide (h 189 0 = -1) && decide (h 81 13 = 0) && decide (h 189 1 = -1))
  && ((List.range 9).all fun j => decide (h 2 j = 100 ^ j)) && ((List.range 8).all fun j => decide (h 3 j = ((9 ^ (7 - j) : Nat) : Int))) && ((List.range 18).all fun j => decide (h 12 j = WRD j)) && ((List.range 18).all fun j => decide (h 137 j = KYS j)) && ((List.range 10).all fun j => decide (h 7 j = SGB j))
  && ((List.range 12).all fun j => decide (h 162 j = 0)) && ((List.range 7).all fun j => decide (h 97 j = 0)) && ((List.range 12).all fun j => decide (h 107 j = 0) && decide (h 108 j = 0)) && ((List.range 4000).all fun j => decide (h 96 j = 0))
def B2 : Option (Option aV × aS) → Bool
  | some (none, S) => decide (S.1 = blk (SH 0)) && FCT S.2
  | _ => false
def B1 : Option (Option aV × aS) → Bool
  | some (none, S) => decide (S.1 = sh1) && B2 (E2 S)
  | _ => false
theorem made_ok : B1 E1 = true := by decide +kernel
theorem made : ∃ h1 h2 : aH, E1 = some (none, (sh1, h1)) ∧ E2 (sh1, h1) = some (none, (blk (SH 0), h2)) ∧ FCT h2 = true := by
  have H := made_ok
  cases e : E1 with
  | none => rw [e] at H; cases H
  | some r =>
    obtain ⟨v, sh, h1⟩ := r
    cases v with
    | some v => rw [e] at H; cases H
    | none =>
      rw [e] at H
      have H : (decide (sh = sh1) && B2 (E2 (sh, h1))) = true := H
      rw [Bool.and_eq_true, decide_eq_true_eq] at H
      obtain ⟨q, H⟩ := H
      subst q
      cases e2 : E2 (sh1, h1) with
      | none => rw [e2] at H; cases H
      | some r =>
        obtain ⟨v, sh, h2⟩ := r
        cases v with
        | some v => rw [e2] at H; cases H
        | none =>
          rw [e2] at H
          have K : (decide (sh = blk (SH 0)) && FCT h2) = true := H
          clear H
          rw [Bool.and_eq_true, decide_eq_true_eq] at K
          obtain ⟨q, G⟩ := K
          subst q
          exact ⟨h1, h2, rfl, e2, G⟩
