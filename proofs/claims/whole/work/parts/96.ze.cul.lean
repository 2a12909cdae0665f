/-! up by lots, the class's -/
theorem bif0 {b : Bool} : (bif b then (1 : Int) else 0) = 0 ↔ b = false := by cases b <;> decide
theorem c_ul85 {N : Nat} {C : Int → aH → Prop} {h h1 : aH} {s k c : Nat} {mt hr : Nat → Int} {a b : Int} (P : PI h) (hs : (s : Int) < h 16 16) (hh : 0 ≤ h 23 s) (hb : 0 ≤ b ∧ b ≤ 1000000) (hk : k ≤ c) (hc : c ≤ 8) (hmt : ∀ j, j < c → h 93 j = mt j ∧ (0 ≤ mt j ∧ mt j ≤ 399)) (hle : ∀ j, j < k → mt j ≤ h 23 s) (hf : Fr [34, 96, 97] [] h h1) (hdz : okDz h1)
    (hC : ∀ h', Fr [34, 96, 97] [] h h' → okDz h' → C (bif lotU mt hr (AGN h s) a b (h 23 s) k then 1 else 0) h') :
    WI N 200 85 [(0, .inr (.inr 92)), (1, .inl a), (3, .inl (s : Int)), (4, .inl (h 23 s)), (5, .inl b), (6, .inl (bif lotA mt hr (AGN h s) a b k then 1 else 0)), (7, .inl (k : Int))] h1 C := by
  have hz := P.1.1
  unfold okSz at hz
  have h399 : h 23 s ≤ 399 := by have := (P.1.2.2.2.1 s hs).2.1; omega
  have kp := hf.kp (by decide)
  refine w_200_85 ⟨fun e => w_200_113 (ck_t0 ?_), fun e => ⟨fun z => ?_, fun z => ?_⟩⟩
  · have key := hC h1 hf hdz
    unfold lotU at key
    rw [bif0.mp e] at key
    exact key
  · have : k = 0 := by omega
    subst this
    exact absurd rfl e
  · have e : lotA mt hr (AGN h s) a b k = true := by
      cases q : lotA mt hr (AGN h s) a b k
      · rw [q] at e; exact absurd rfl e
      · rfl
    obtain ⟨m1, m2⟩ := hmt (k - 1) (by omega)
    have hl := hle (k - 1) (by omega)
    (repeat first | refine ck_ix (by omega) ?_ | refine ck_rg (by omega) ?_ | refine ck_rl (by omega) ?_)
    refine c_lot ?_
    (repeat first | refine ck_ix (by omega) ?_ | refine ck_rg (by omega) ?_ | refine ck_rl (by omega) ?_)
    rw [hf.at 93 (by decide) (by decide), show ((k : Int) - 1).toNat = k - 1 by omega, m1]
    refine ck_rg (by omega) (c_asleepAgain (kp.pi P).1 hdz ⟨by omega, by rw [kp.at 16 (by decide)]; exact hs⟩ ⟨by omega, by omega⟩ (fun h2 f2 d2 => ?_))
    have key := hC h2 (hf.trans f2) d2
    unfold lotU at key
    rw [e, Bool.true_and] at key
    rw [kp.agn]
    refine ⟨fun lt => w_200_113 (ck_t0 ?_), fun ge => ck_t1 ?_⟩
    · rw [decide_eq_false (by omega)] at key
      exact key
    · rw [decide_eq_true (by omega)] at key
      exact key
