/-! read's lists: the first eight -/
theorem c_listEight {N : Nat} {C : aH → Prop} {h : aH} (hs : 0 ≤ h 16 16 ∧ h 16 16 ≤ 12) (hC : ∀ h', Fr [16, 27] [] h h' → (∀ j, j ≠ 18 → h' 16 j = h 16 j) → okEight h' → C h') : WV N 69 0 [(0, .inr (.inr 16))] h C := by
  have key : ∀ (d k : Nat) (h1 : aH), d = (h 16 16).toNat - k → k ≤ (h 16 16).toNat → Fr [16, 27] [] h h1 → (∀ j, j ≠ 18 → h1 16 j = h 16 j) → h1 16 18 = ((e8 (h 23) k).2 : Int) → (∀ j, j < (e8 (h 23) k).2 → h1 27 j = ((e8 (h 23) k).1 j : Int)) → WV N 69 6 [(0, .inr (.inr 16)), (1, .inl (k : Int))] h1 C := by
    have fin : ∀ h1, Fr [16, 27] [] h h1 → (∀ j, j ≠ 18 → h1 16 j = h 16 j) → h1 16 18 = ((e8 (h 23) (h 16 16).toNat).2 : Int) → (∀ j, j < (e8 (h 23) (h 16 16).toNat).2 → h1 27 j = ((e8 (h 23) (h 16 16).toNat).1 j : Int)) → C h1 := by
      intro h1 hf h16 hc hl
      refine hC h1 hf h16 ?_
      unfold okEight NE EI NSL
      rw [h16 16 (by decide), hf.at 23 (by decide) (by decide)]
      exact ⟨hc, hl⟩
    intro d
    induction d with
    | zero =>
      intro k h1 hd hk hf h16 hc hl
      have : k = (h 16 16).toNat := by omega
      subst this
      refine w_69_6 ?_
      rw [h16 16 (by decide)]
      exact ⟨fun _ => fin h1 hf h16 hc hl, fun z => by omega⟩
    | succ d ih =>
      intro k h1 hd hk hf h16 hc hl
      obtain ⟨c8, ck, cj⟩ := e8_ok (h 23) k
      refine w_69_6 ?_
      rw [h16 16 (by decide), hf.at 23 (by decide) (by decide), hc]
      refine ⟨fun z => by omega, fun _ => ⟨fun full => ?_, fun room => ck_ix (by omega) ?_⟩⟩
      · have e := e8_full (hour := h 23) (k := k) (by omega) ((h 16 16).toNat - k)
        rw [show k + ((h 16 16).toNat - k) = (h 16 16).toNat by omega] at e
        exact fin h1 hf h16 (by rw [e]; exact hc) (by rw [e]; exact hl)
      · rw [Int.toNat_natCast]
        refine ⟨fun e => ck_rg (by omega) ?_, fun e => ?_⟩
        · have y : ¬ (h 23 k ≠ -2 ∧ (e8 (h 23) k).2 < 8) := fun z => z.1 e
          exact ih (k + 1) h1 (by omega) (by omega) hf h16 (by rw [e8_n y]; exact hc) (by rw [e8_n y]; exact hl)
        · have y : h 23 k ≠ -2 ∧ (e8 (h 23) k).2 < 8 := ⟨e, by omega⟩
          rw [Int.toNat_natCast]
          (repeat first | refine ck_ix (by omega) ?_ | refine ck_rg (by omega) ?_ | refine ck_rl (by omega) ?_)
          refine ih (k + 1) _ (by omega) (by omega) ((hf.up (by decide) (by decide)).up (by decide) (by decide)) (fun j hj => ?_) ?_ (fun j hj => ?_)
          · rw [up_ne hj, up_row (by decide)]; exact h16 j hj
          · rw [e8_y y, up_in, if_pos rfl]; rfl
          · rw [e8_y y] at hj ⊢
            have hj : j < (e8 (h 23) k).2 + 1 := hj
            rw [up_row (by decide), up_in]
            show _ = ((if j = (e8 (h 23) k).2 then k else (e8 (h 23) k).1 j : Nat) : Int)
            by_cases z : j = (e8 (h 23) k).2
            · rw [if_pos z, if_pos z]
            · rw [if_neg z, if_neg z]; exact hl j (by omega)
  exact w_69_0 (key _ 0 _ rfl (Nat.zero_le _) (Fr.rfl.up (by decide) (by decide)) (fun j hj => up_ne hj) (up_same _ _ _ _) (fun j hj => absurd hj (Nat.not_lt_zero j)))
