/-! up by lots, the class's -/
theorem bif0 {b : Bool} : (bif b then (1 : Int) else 0) = 0 ↔ b = false := by cases b <;> decide
theorem c_ul85 {N : Nat} {C : Int → aH → Prop} {h h1 : aH} {s k c : Nat} {mt hr : Nat → Int} {a b : Int} (P : PI h) (hs : (s : Int) < h 16 16) (hh : 0 ≤ h 23 s) (hb : 0 ≤ b ∧ b ≤ 1000000) (hk : k ≤ c) (hc : c ≤ 8) (hmt : ∀ j, j < c → h 93 j = mt j ∧ (0 ≤ mt j ∧ mt j ≤ 399)) (hle : ∀ j, j < k → mt j ≤ h 23 s) (hf : Fr [34, 96, 97] [] h h1) (hdz : okDz h1)
    (hC : ∀ h', Fr [34, 96, 97] [] h h' → okDz h' → C (bif lotU mt hr (AGN h s) a b (h 23 s) k then 1 else 0) h') :
    WI N 200 85 [(0, .inr (.inr 92)), (1, .inl a), (3, .inl (s : Int)), (4, .inl (h 23 s)), (5, .inl b), (6, .inl (bif lotA mt hr (AGN h s) a b k then 1 else 0)), (7, .inl (k : Int))] h1 C := by
  have hz := P.1.1
  unfold okSz at hz
  have h399 : h 23 s ≤ 399 := by have := (P.1.2.2.2.1 s hs).2.1; omega
  have kp := hf.kp (by decide)
  refine w_200_85 ⟨fun e => w_200_113 (ck_t0 ?_), fun e => ⟨fun z => ?_, fun z => ?_⟩⟩
  · have key := hC h1 hf hdz
    unfold lotU at key
    rw [bif0.mp e] at key
    exact key
  · have : k = 0 := by omega
    subst this
    exact absurd rfl e
  · have e : lotA mt hr (AGN h s) a b k = true := by
      cases q : lotA mt hr (AGN h s) a b k
      · rw [q] at e; exact absurd rfl e
      · rfl
    obtain ⟨m1, m2⟩ := hmt (k - 1) (by omega)
    have hl := hle (k - 1) (by omega)
    (repeat first | refine ck_ix (by omega) ?_ | refine ck_rg (by omega) ?_ | refine ck_rl (by omega) ?_)
    refine c_lot ?_
    (repeat first | refine ck_ix (by omega) ?_ | refine ck_rg (by omega) ?_ | refine ck_rl (by omega) ?_)
    rw [hf.at 93 (by decide) (by decide), show ((k : Int) - 1).toNat = k - 1 by omega, m1]
    refine ck_rg (by omega) (c_asleepAgain (kp.pi P).1 hdz ⟨by omega, by rw [kp.at 16 (by decide)]; exact hs⟩ ⟨by omega, by omega⟩ (fun h2 f2 d2 => ?_))
    have key := hC h2 (hf.trans f2) d2
    unfold lotU at key
    rw [e, Bool.true_and] at key
    rw [kp.agn]
    refine ⟨fun lt => w_200_113 (ck_t0 ?_), fun ge => ck_t1 ?_⟩
    · rw [decide_eq_false (by omega)] at key
      exact key
    · rw [decide_eq_true (by omega)] at key
      exact key
theorem c_ul62 {N : Nat} {C : Int → aH → Prop} {h : aH} {s k : Nat} {hrk hour a b : Int} {w : Bool} (hb : 0 ≤ b ∧ b ≤ 1000000) (hk : k < 8) (hhr : h 95 k = hrk)
    (hC : WI N 200 19 [(0, .inr (.inr 92)), (1, .inl a), (3, .inl (s : Int)), (4, .inl hour), (5, .inl b), (6, .inl (bif w || decide (LOT a (b + 2 * (k : Int)) < hrk) then 1 else 0)), (7, .inl ((k : Int) + 1))] h C) :
    WI N 200 62 [(0, .inr (.inr 92)), (1, .inl a), (3, .inl (s : Int)), (4, .inl hour), (5, .inl b), (6, .inl (bif w then 1 else 0)), (7, .inl (k : Int))] h C := by
  have one : (w || decide (LOT a (b + 2 * (k : Int)) < hrk)) = true → WI N 200 77 [(0, .inr (.inr 92)), (1, .inl a), (3, .inl (s : Int)), (4, .inl hour), (5, .inl b), (7, .inl (k : Int))] h C := by
    intro e
    rw [e] at hC
    exact w_200_77 (w_200_82 (ck_rg (by omega) hC))
  cases w with
  | true => exact w_200_62 ⟨fun _ => one rfl, fun z => absurd (fun q => absurd q (by decide)) z⟩
  | false =>
    refine w_200_62 ⟨fun z => absurd rfl z, fun _ => ck_rg (by omega) (ck_rg (by omega) (c_lot (ck_ix (by omega) ?_)))⟩
    rw [Int.toNat_natCast, hhr]
    refine ⟨fun le => ?_, fun gt => one (by rw [Bool.false_or]; exact decide_eq_true (by omega))⟩
    rw [Bool.false_or, decide_eq_false (by omega)] at hC
    exact w_200_82 (ck_rg (by omega) hC)
theorem c_ul {N : Nat} {C : Int → aH → Prop} {h : aH} {s c : Nat} {mt hr : Nat → Int} {a b : Int} (P : PI h) (hs : (s : Int) < h 16 16) (hh : 0 ≤ h 23 s) (hb : 0 ≤ b ∧ b ≤ 1000000) (hc : c ≤ 8) (hn : h 92 11 = (c : Int)) (hmt : ∀ j, j < c → h 93 j = mt j ∧ (0 ≤ mt j ∧ mt j ≤ 399)) (hhr : ∀ j, j < c → h 95 j = hr j) (hso : ∀ j, j + 1 < c → mt j ≤ mt (j + 1))
    (hC : ∀ h', Fr [34, 96, 97] [] h h' → okDz h' → C (bif lotU mt hr (AGN h s) a b (h 23 s) (unt mt (h 23 s) c) then 1 else 0) h') :
    ∀ (d k : Nat) (h1 : aH), d = c - k → k ≤ c → (∀ j, j < k → mt j ≤ h 23 s) → Fr [34, 96, 97] [] h h1 → okDz h1 →
    WI N 200 19 [(0, .inr (.inr 92)), (1, .inl a), (3, .inl (s : Int)), (4, .inl (h 23 s)), (5, .inl b), (6, .inl (bif lotA mt hr (AGN h s) a b k then 1 else 0)), (7, .inl (k : Int))] h1 C := by
  intro d
  induction d with
  | zero =>
    intro k h1 hd hk hle hf hdz
    have : k = c := by omega
    subst this
    have hu : unt mt (h 23 s) k = k := unt_eq (Nat.le_refl _) hle (Or.inl rfl)
    rw [hu] at hC
    refine w_200_19 ?_
    rw [hf.at 92 (by decide) (by decide), hn]
    exact ⟨fun _ => c_ul85 P hs hh hb (Nat.le_refl _) hc hmt hle hf hdz hC, fun z => absurd (Int.le_refl _) z⟩
  | succ d ih =>
    intro k h1 hd hk hle hf hdz
    have kp := hf.kp (by decide)
    obtain ⟨m1, m2⟩ := hmt k (by omega)
    refine w_200_19 ?_
    rw [hf.at 92 (by decide) (by decide), hn]
    refine ⟨fun z => by omega, fun _ => ck_ix (by omega) ?_⟩
    rw [hf.at 93 (by decide) (by decide), Int.toNat_natCast, m1]
    refine ⟨fun lt => ?_, fun ge => ?_⟩
    · have hu : unt mt (h 23 s) c = k := unt_eq hk hle (Or.inr lt)
      rw [hu] at hC
      exact c_ul85 P hs hh hb hk hc hmt hle hf hdz hC
    · have hle2 : ∀ j, j < k + 1 → mt j ≤ h 23 s := by
        intro j hj
        rcases Nat.eq_or_lt_of_le (Nat.le_of_lt_succ hj) with e | e
        · rw [e]; omega
        · exact hle j e
      have es : lotA mt hr (AGN h s) a b (k + 1) = ((lotA mt hr (AGN h s) a b k && decide (AGN h s (mt k - mt (k - 1)) ≤ LOT a (b + 2 * (k : Int) + 1))) || decide (LOT a (b + 2 * (k : Int)) < hr k)) := rfl
      have nx := fun (h2 : aH) (f2 : Fr [34, 96, 97] [] h h2) (d2 : okDz h2) => ih (k + 1) h2 (by omega) (by omega) hle2 f2 d2
      rw [es] at nx
      cases q : lotA mt hr (AGN h s) a b k with
      | false =>
        rw [q] at nx
        refine ⟨fun _ => ?_, fun z => absurd rfl z⟩
        exact c_ul62 (w := false) hb (by omega) (by rw [hf.at 95 (by decide) (by decide)]; exact hhr k (by omega)) (nx h1 hf hdz)
      | true =>
        rw [q] at nx
        refine ⟨fun z => absurd z (by decide), fun _ => ⟨fun z => ?_, fun z => ?_⟩⟩
        · have : k = 0 := by omega
          subst this
          cases q
        · obtain ⟨p1, p2⟩ := hmt (k - 1) (by omega)
          have so := hso (k - 1) (by omega)
          rw [show k - 1 + 1 = k by omega] at so
          (repeat first | refine ck_ix (by omega) ?_ | refine ck_rg (by omega) ?_ | refine ck_rl (by omega) ?_)
          refine c_lot ?_
          (repeat first | refine ck_ix (by omega) ?_ | refine ck_rg (by omega) ?_ | refine ck_rl (by omega) ?_)
          rw [hf.at 93 (by decide) (by decide), show ((k : Int) - 1).toNat = k - 1 by omega, m1, p1]
          refine ck_rg (by omega) (c_asleepAgain (kp.pi P).1 hdz ⟨by omega, by rw [kp.at 16 (by decide)]; exact hs⟩ ⟨by omega, by omega⟩ (fun h2 f2 d2 => ?_))
          rw [kp.agn]
          have nx2 := nx h2 (hf.trans f2) d2
          rw [Bool.true_and] at nx2
          have e95 : h2 95 k = hr k := by rw [(hf.trans f2).at 95 (by decide) (by decide)]; exact hhr k (by omega)
          refine ⟨fun lt => ?_, fun ge => ?_⟩
          · rw [decide_eq_false (show ¬ AGN h s (mt k - mt (k - 1)) ≤ LOT a (b + 2 * (k : Int) + 1) by omega)] at nx2
            exact c_ul62 (w := false) hb (by omega) e95 nx2
          · rw [decide_eq_true (show AGN h s (mt k - mt (k - 1)) ≤ LOT a (b + 2 * (k : Int) + 1) by omega)] at nx2
            exact c_ul62 (w := true) hb (by omega) e95 nx2
