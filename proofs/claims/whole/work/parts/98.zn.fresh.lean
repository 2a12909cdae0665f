/-! the fresh objects: all holds that holds between calls -/
theorem FCT_up {xs : Nat → Int} {h : aH} : FCT (upH xs h) = FCT h := by
  have e : ∀ r, r ≠ 1 → upH xs h r = h r := fun r hr => upH_at hr
  unfold FCT
  rw [e 16 (by decide), e 29 (by decide), e 32 (by decide), e 58 (by decide), e 130 (by decide), e 10 (by decide), e 35 (by decide), e 102 (by decide), e 9 (by decide), e 141 (by decide), e 144 (by decide), e 147 (by decide), e 153 (by decide), e 6 (by decide), e 28 (by decide), e 70 (by decide), e 189 (by decide), e 81 (by decide), e 2 (by decide), e 3 (by decide), e 12 (by decide), e 137 (by decide), e 7 (by decide), e 162 (by decide), e 97 (by decide), e 107 (by decide), e 108 (by decide), e 96 (by decide)]
theorem all_dec {n : Nat} {p : Nat → Bool} (h : (List.range n).all p = true) : ∀ j, j < n → p j = true := fun j hj => List.all_eq_true.mp h j (List.mem_range.mpr hj)
theorem INV.fresh {h : aH} (F : FCT h = true) : INV h ∧ h 9 11 = 0 := by
  unfold FCT at F
  simp only [Bool.and_eq_true, decide_eq_true_eq] at F
  obtain ⟨⟨⟨⟨⟨⟨⟨⟨⟨⟨⟨F1, F2⟩, F3⟩, G1⟩, G2⟩, G3⟩, G4⟩, G5⟩, G6⟩, G7⟩, G8⟩, G9⟩ := F
  obtain ⟨⟨⟨⟨⟨⟨⟨⟨⟨a1, a2⟩, a3⟩, a4⟩, a5⟩, a6⟩, a7⟩, a8⟩, a9⟩, a10⟩ := F1
  obtain ⟨⟨⟨⟨⟨⟨⟨⟨b1, b2⟩, b3⟩, b4⟩, b5⟩, b6⟩, b7⟩, b8⟩, b9⟩ := F2
  obtain ⟨⟨⟨⟨⟨⟨⟨⟨⟨⟨c1, c2⟩, c3⟩, c4⟩, c5⟩, c6⟩, c7⟩, c8⟩, c9⟩, c10⟩, c11⟩ := F3
  have lv : Lv h = 0 := by unfold Lv; rw [b3]; rfl
  have nsl : NSL h = 0 := by unfold NSL; rw [a3]; rfl
  have z : ∀ {i : Nat}, (i : Int) < 0 → False := fun q => by omega
  have law : ∀ st : Nat → Int, okLaw st 0 := fun st => ⟨by decide, by decide, fun i q => (z q).elim⟩
  have hi : HI h := by
    refine ⟨⟨?_, ?_, ?_, ?_, ?_, ?_⟩, fun b q => ?_, fun c q => ?_, fun s q => ?_, ?_, ?_⟩
    · rw [a1]; decide
    · rw [a1]; decide
    · rw [a2]; decide
    · rw [a2]; decide
    · rw [a3]; decide
    · rw [a3]; decide
    · rw [a1] at q; exact (z q).elim
    · rw [a2] at q; exact (z q).elim
    · rw [a3] at q; exact (z q).elim
    · rw [a4]; exact law _
    · rw [a5]; exact law _
  have pi : PI h := by
    refine ⟨hi, ⟨fun s q => ?_, fun b q => ?_⟩, ⟨?_, ?_, fun k q => ?_⟩, ⟨?_, ?_⟩, fun k hk => ?_⟩
    · rw [a3] at q; exact (z q).elim
    · rw [a1] at q; exact (z q).elim
    · rw [a6]; decide
    · rw [a6]; decide
    · rw [a6] at q; exact (z q).elim
    · rw [a7]; decide
    · rw [a7, a3]; decide
    · exact of_decide_eq_true (all_dec G1 k hk)
  refine ⟨⟨⟨pi, ⟨?_, fun j q => ?_, fun s q => ?_⟩, ⟨?_, ?_, fun i q => ?_⟩, ⟨?_, fun i q => ?_⟩, fun j hj => Or.inl (of_decide_eq_true (all_dec G6 j hj)), ⟨Or.inl ⟨c8, ?_⟩, Or.inl ⟨c10, ?_⟩⟩, ⟨?_, ?_⟩, ⟨?_, ?_⟩, fun r hr => of_decide_eq_true (all_dec G2 r hr), ⟨fun j hj => of_decide_eq_true (all_dec G3 j hj), c6, fun j hj => of_decide_eq_true (all_dec G5 j hj)⟩, fun j hj => of_decide_eq_true (all_dec G4 j hj)⟩, ⟨⟨Or.inl b3, ⟨?_, ?_, ?_⟩, fun b q => ?_, fun c q => ?_, fun s q => ?_, Or.inr (Or.inr a3), Or.inr (Or.inr a3)⟩, fun law hl q => ?_⟩, ⟨?_, ⟨?_, ?_⟩, fun i q => ?_⟩, ?_, ⟨⟨fun j hj _ _ => of_decide_eq_true (all_dec G7 j hj), fun d a hd ha => Or.inr ?_⟩, c7⟩, ⟨fun k hk => ?_, ?_, fun q => ?_⟩⟩, b9⟩
  · rw [b2, a6]
  · rw [a6] at q; exact (z q).elim
  · rw [a3] at q; exact (z q).elim
  · rw [a10]; decide
  · rw [a10]; decide
  · rw [a10] at q; exact (z q).elim
  · rw [b1, a10]
  · rw [a10] at q; exact (z q).elim
  · rw [c9]; decide
  · rw [c11]; decide
  · rw [a8, a3]; rfl
  · rw [a3]
    intro j hj
    exact absurd hj (Nat.not_lt_zero j)
  · unfold NE; rw [a9, nsl]; rfl
  · unfold NE; rw [nsl]
    intro j hj
    exact absurd hj (Nat.not_lt_zero j)
  · rw [lv, c1, a1]
  · rw [lv, c2, a2]
  · rw [lv, c3, a3]
  · rw [a1] at q; exact (z q).elim
  · rw [a2] at q; exact (z q).elim
  · rw [a3] at q; exact (z q).elim
  · exfalso
    rw [lv] at hl
    rcases hl with rfl | rfl
    · rw [c4] at q; cases q
    · rw [c5] at q; cases q
  · rw [b5, b4]
  · rw [b4]; decide
  · rw [b4]; decide
  · rw [b4] at q; exact (z q).elim
  · rw [b6, b7]
  · have e := of_decide_eq_true (all_dec G9 (d * 400 + a) (by omega))
    rw [e]
    unfold AGD
    rw [a5]
    rfl
  · have e := all_dec G8 k hk
    simp only [Bool.and_eq_true, decide_eq_true_eq] at e
    rw [e.1, e.2]
    decide
  · rw [b8, b9]; decide
  · rw [b8, b9] at q; cases q
