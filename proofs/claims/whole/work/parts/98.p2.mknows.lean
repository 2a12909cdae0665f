/-! read: the reference knows a name -/
theorem m_knowsR {N : Nat} {C : aH → Prop} {K PL : Nat → Nat} {VL : Nat → Int} {s M : Nat} {srt w : Int} {h : aH} (T : TOKR K PL VL h) (hs : s ≤ 400 ∧ ∀ i, i < s → K i < 31) (ks : K s = 18) (hM : h 130 20 = (M : Int)) (M40 : M < 40) (hC : ∀ h', Fr [138, 139, 140] [20] h h' → h' 130 20 = (M : Int) + 1 → (h' 138 M = VL s ∧ h' 139 M = srt ∧ h' 140 M = w) → (∀ j, j ≠ M → h' 138 j = h 138 j ∧ h' 139 j = h 139 j ∧ h' 140 j = h 140 j) → C h') : WV N 234 0 [(0, .inr (.inr 130)), (1, .inl (s : Int)), (2, .inl srt), (3, .inl w)] h C := by
  obtain ⟨-, -, -, k4⟩ := T s hs.1 hs.2
  have k4 := k4 ks
  refine w_234_0 ?_
  rw [hM, Int.toNat_natCast, Int.toNat_natCast, k4]
  refine ck_ix (by omega) (ck_ix (by omega) (ck_ix (by omega) (ck_ix (by omega) (ck_rg (by omega) (hC _ ((((Fr.rfl.up (by decide) (by decide)).up (by decide) (by decide)).up (by decide) (by decide)).upM (by decide)) ?_ ⟨?_, ?_, ?_⟩ (fun j hj => ⟨?_, ?_, ?_⟩))))))
  · simp [up_in, up_row]
  · simp [up_in, up_row]
  · simp [up_in, up_row]
  · simp [up_in, up_row]
  · simp [up_in, up_row, hj]
  · simp [up_in, up_row, hj]
  · simp [up_in, up_row, hj]
