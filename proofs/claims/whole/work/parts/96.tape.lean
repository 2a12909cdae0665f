/-! the tape: feed, back -/
def RT (h : aH) : Prop := h 130 2 = h 10 5 ∧ (0 ≤ h 10 5 ∧ h 10 5 ≤ 2000) ∧ ∀ i : Nat, (i : Int) < h 10 5 → h 131 i = h 11 i ∧ -128 ≤ h 11 i ∧ h 11 i < 128
/-- a word's bytes behind what is there -/
def FOUR (f : Nat → Int) (n : Nat) (x : Int) (j : Nat) : Int := if n ≤ j ∧ j < n + 4 then w8 (w8 (am_shr x (24 - 8 * ((j : Int) - n)))) else f j
theorem FOUR_lo {f : Nat → Int} {n : Nat} {x : Int} {j : Nat} (h : j < n) : FOUR f n x j = f j := by
  unfold FOUR; rw [if_neg (by omega)]
theorem FOUR_at {f : Nat → Int} {n : Nat} {x : Int} {j : Nat} (h : n ≤ j ∧ j < n + 4) : FOUR f n x j = w8 (w8 (am_shr x (24 - 8 * ((j : Int) - n)))) := by
  unfold FOUR; rw [if_pos h]
theorem c_four {N : Nat} {C : aH → Prop} {h : aH} {x : Int} {n : Nat} (hn : h 10 5 = (n : Int)) (h4 : n + 4 ≤ 2000) (hC : ∀ h', Fr [10, 11] [] h h' → h' 10 5 = (n : Int) + 4 → (∀ j, j < n + 4 → h' 11 j = FOUR (h 11) n x j) → C h') : WV N 22 0 [(0, .inr (.inr 10)), (1, .inl x)] h C := by
  have key : ∀ (d i : Nat) (h1 : aH), d = 4 - i → i ≤ 4 → Fr [10, 11] [] h h1 → h1 10 5 = ((n + i : Nat) : Int) → (∀ j, j < n + i → h1 11 j = FOUR (h 11) n x j) → WV N 22 3 [(0, .inr (.inr 10)), (1, .inl x), (2, .inl (24 - 8 * (i : Int)))] h1 C := by
    intro d
    induction d with
    | zero =>
      intro i h1 hd hi hf hl hb
      have : i = 4 := by omega
      subst this
      exact w_22_3 ⟨fun _ => hC h1 hf (by rw [hl]; omega) hb, fun z => absurd (by decide) z⟩
    | succ d ih =>
      intro i h1 hd hi hf hl hb
      refine w_22_3 ⟨fun z => by omega, fun _ => ?_⟩
      rw [hl]
      refine ⟨fun z => by omega, fun _ => ck_ix (by omega) (ck_rg (by omega) (ck_rg (by omega) ?_))⟩
      simp only [Int.toNat_natCast]
      rw [show (24 - 8 * (i : Int) + -8) = 24 - 8 * ((i + 1 : Nat) : Int) by omega]
      refine ih (i + 1) _ (by omega) (by omega) ((hf.up (by decide) (by decide)).up (by decide) (by decide)) ?_ (fun j hj => ?_)
      · rw [up_same]; omega
      · rw [up_row (by decide), up_in]
        by_cases e : j = n + i
        · rw [if_pos e, FOUR_at (by omega), e]
          congr 3
          omega
        · rw [if_neg e]
          exact hb j (by omega)
  refine w_22_0 ?_
  exact key 4 0 h rfl (by decide) Fr.rfl hn (fun j hj => (FOUR_lo hj).symm)
theorem m_four {N : Nat} {C : aH → Prop} {h : aH} {x : Int} {n : Nat} (hn : h 130 2 = (n : Int)) (h4 : n + 4 ≤ 2000) (hC : ∀ h', Fr [131] [2] h h' → h' 130 2 = (n : Int) + 4 → (∀ j, j < n + 4 → h' 131 j = FOUR (h 131) n x j) → C h') : WV N 216 0 [(0, .inr (.inr 130)), (1, .inl x)] h C := by
  have key : ∀ (d i : Nat) (h1 : aH), d = 4 - i → i ≤ 4 → Fr [131] [2] h h1 → h1 130 2 = ((n + i : Nat) : Int) → (∀ j, j < n + i → h1 131 j = FOUR (h 131) n x j) → WV N 216 3 [(0, .inr (.inr 130)), (1, .inl x), (2, .inl (24 - 8 * (i : Int)))] h1 C := by
    intro d
    induction d with
    | zero =>
      intro i h1 hd hi hf hl hb
      have : i = 4 := by omega
      subst this
      exact w_216_3 ⟨fun _ => hC h1 hf (by rw [hl]; omega) hb, fun z => absurd (by decide) z⟩
    | succ d ih =>
      intro i h1 hd hi hf hl hb
      refine w_216_3 ⟨fun z => by omega, fun _ => ?_⟩
      rw [hl]
      refine ck_ix (by omega) (ck_rg (by omega) (ck_rg (by omega) ?_))
      simp only [Int.toNat_natCast]
      rw [show (24 - 8 * (i : Int) + -8) = 24 - 8 * ((i + 1 : Nat) : Int) by omega]
      refine ih (i + 1) _ (by omega) (by omega) ((hf.up (by decide) (by decide)).upM (by decide)) ?_ (fun j hj => ?_)
      · rw [up_same]; omega
      · rw [up_row (by decide), up_in]
        by_cases e : j = n + i
        · rw [if_pos e, FOUR_at (by omega), e]
          congr 3
          omega
        · rw [if_neg e]
          exact hb j (by omega)
  refine w_216_0 ?_
  exact key 4 0 h rfl (by decide) Fr.rfl hn (fun j hj => (FOUR_lo hj).symm)
def TPN (h h' : aH) : Prop := Fr [10, 11, 131] [2] h h' ∧ RT h'
theorem RT.four {h h' : aH} {x : Int} {n : Nat} (R : RT h) (hn : h 10 5 = (n : Int)) (h4 : n + 4 ≤ 2000) (e1 : h' 10 5 = (n : Int) + 4) (e2 : h' 130 2 = (n : Int) + 4) (b1 : ∀ j, j < n + 4 → h' 11 j = FOUR (h 11) n x j) (b2 : ∀ j, j < n + 4 → h' 131 j = FOUR (h 131) n x j) : RT h' := by
  refine ⟨by rw [e1, e2], by omega, fun i hi => ?_⟩
  rw [b1 i (by omega), b2 i (by omega)]
  by_cases e : i < n
  · rw [FOUR_lo e, FOUR_lo e]
    exact R.2.2 i (by omega)
  · rw [FOUR_at (by omega), FOUR_at (by omega)]
    exact ⟨rfl, w8_rg _⟩
/-- five words, the class's -/
def FV (f : Nat → Int) (n : Nat) (a b c d e : Int) : Nat → Int := FOUR (FOUR (FOUR (FOUR (FOUR f n a) (n + 4) b) (n + 8) c) (n + 12) d) (n + 16) e
theorem FOUR_congr {f g : Nat → Int} {n : Nat} {x : Int} {j : Nat} (h : j < n → f j = g j) (hj : j < n + 4) : FOUR f n x j = FOUR g n x j := by
  unfold FOUR
  by_cases e : n ≤ j ∧ j < n + 4
  · rw [if_pos e, if_pos e]
  · rw [if_neg e, if_neg e]
    exact h (by omega)
theorem c_feed {N : Nat} {C : Int → aH → Prop} {h : aH} {a b c d e : Int} {n : Nat} (hn : h 10 5 = (n : Int)) (h1 : n + 20 ≤ 2000 → ∀ h', Fr [10, 11] [] h h' → h' 10 5 = (n : Int) + 20 → (∀ j, j < n + 20 → h' 11 j = FV (h 11) n a b c d e j) → C ((n : Int) + 20) h') (h0 : ¬ n + 20 ≤ 2000 → C (-1) h) (hb : n ≤ 2000) : WI N 20 0 [(0, .inr (.inr 9)), (1, .inl a), (2, .inl b), (3, .inl c), (4, .inl d), (5, .inl e)] h C := by
  refine w_20_0 (w_21_0 ?_)
  rw [hn]
  refine ck_rg (by omega) ⟨fun q => ck_t0 (y0 (h0 (by omega))), fun q => ck_t1 (y1 ?_)⟩
  refine c_four hn (by omega) (fun h2 f2 l2 b2 => c_four (n := n + 4) (by rw [l2]; omega) (by omega) (fun h3 f3 l3 b3 => c_four (n := n + 8) (by rw [l3]; omega) (by omega) (fun h4 f4 l4 b4 => c_four (n := n + 12) (by rw [l4]; omega) (by omega) (fun h5 f5 l5 b5 => c_four (n := n + 16) (by rw [l5]; omega) (by omega) (fun h6 f6 l6 b6 => ?_)))))
  have l6 : h6 10 5 = (n : Int) + 20 := by rw [l6]; omega
  rw [l6]
  refine h1 (by omega) h6 ((((f2.trans f3).trans f4).trans f5).trans f6) l6 (fun j hj => ?_)
  rw [b6 j (by omega)]
  refine FOUR_congr (fun q => ?_) (by omega)
  rw [b5 j (by omega)]
  refine FOUR_congr (fun q => ?_) (by omega)
  rw [b4 j (by omega)]
  refine FOUR_congr (fun q => ?_) (by omega)
  rw [b3 j (by omega)]
  exact FOUR_congr (fun q => b2 j (by omega)) (by omega)
theorem m_feed {N : Nat} {C : Int → aH → Prop} {h : aH} {a b c d e : Int} {n : Nat} (hn : h 130 2 = (n : Int)) (h1 : n + 20 ≤ 2000 → ∀ h', Fr [131] [2] h h' → h' 130 2 = (n : Int) + 20 → (∀ j, j < n + 20 → h' 131 j = FV (h 131) n a b c d e j) → C ((n : Int) + 20) h') (h0 : ¬ n + 20 ≤ 2000 → C (-1) h) (hb : n ≤ 2000) : WI N 215 0 [(0, .inr (.inr 130)), (1, .inl a), (2, .inl b), (3, .inl c), (4, .inl d), (5, .inl e)] h C := by
  refine w_215_0 ?_
  rw [hn]
  refine ck_rg (by omega) ⟨fun q => ?_, fun q => h0 (by omega)⟩
  refine m_four hn (by omega) (fun h2 f2 l2 b2 => m_four (n := n + 4) (by rw [l2]; omega) (by omega) (fun h3 f3 l3 b3 => m_four (n := n + 8) (by rw [l3]; omega) (by omega) (fun h4 f4 l4 b4 => m_four (n := n + 12) (by rw [l4]; omega) (by omega) (fun h5 f5 l5 b5 => m_four (n := n + 16) (by rw [l5]; omega) (by omega) (fun h6 f6 l6 b6 => ?_)))))
  have l6 : h6 130 2 = (n : Int) + 20 := by rw [l6]; omega
  rw [l6]
  refine h1 (by omega) h6 ((((f2.trans f3).trans f4).trans f5).trans f6) l6 (fun j hj => ?_)
  rw [b6 j (by omega)]
  refine FOUR_congr (fun q => ?_) (by omega)
  rw [b5 j (by omega)]
  refine FOUR_congr (fun q => ?_) (by omega)
  rw [b4 j (by omega)]
  refine FOUR_congr (fun q => ?_) (by omega)
  rw [b3 j (by omega)]
  exact FOUR_congr (fun q => b2 j (by omega)) (by omega)
theorem FV_cases (n : Nat) (a b c d e : Int) (j : Nat) (hj : j < n + 20) : (j < n ∧ ∀ f, FV f n a b c d e j = f j) ∨ ∃ v, (-128 ≤ v ∧ v < 128) ∧ ∀ f, FV f n a b c d e j = v := by
  unfold FV
  by_cases e4 : n + 16 ≤ j
  · exact Or.inr ⟨_, w8_rg _, fun f => FOUR_at (by omega)⟩
  by_cases e3 : n + 12 ≤ j
  · exact Or.inr ⟨_, w8_rg _, fun f => by rw [FOUR_lo (by omega)]; exact FOUR_at (by omega)⟩
  by_cases e2 : n + 8 ≤ j
  · exact Or.inr ⟨_, w8_rg _, fun f => by rw [FOUR_lo (by omega), FOUR_lo (by omega)]; exact FOUR_at (by omega)⟩
  by_cases e1 : n + 4 ≤ j
  · exact Or.inr ⟨_, w8_rg _, fun f => by rw [FOUR_lo (by omega), FOUR_lo (by omega), FOUR_lo (by omega)]; exact FOUR_at (by omega)⟩
  by_cases e0 : n ≤ j
  · exact Or.inr ⟨_, w8_rg _, fun f => by rw [FOUR_lo (by omega), FOUR_lo (by omega), FOUR_lo (by omega), FOUR_lo (by omega)]; exact FOUR_at (by omega)⟩
  · exact Or.inl ⟨by omega, fun f => by rw [FOUR_lo (by omega), FOUR_lo (by omega), FOUR_lo (by omega), FOUR_lo (by omega), FOUR_lo (by omega)]⟩
theorem pl_feed {N : Nat} {D : Int → Int → aH → Prop} {h : aH} {a b c d e : Int} (R : RT h) (hD : ∀ v h', TPN h h' → D v v h') :
    WI N 20 0 [(0, .inr (.inr 9)), (1, .inl a), (2, .inl b), (3, .inl c), (4, .inl d), (5, .inl e)] h (fun v1 h1 => WI N 215 0 [(0, .inr (.inr 130)), (1, .inl a), (2, .inl b), (3, .inl c), (4, .inl d), (5, .inl e)] h1 (fun v2 h2 => D v1 v2 h2)) := by
  obtain ⟨r1, ⟨r2, r3⟩, r4⟩ := R
  obtain ⟨n, hn⟩ := Int.eq_ofNat_of_zero_le r2
  have hm : h 130 2 = (n : Int) := r1.trans hn
  refine c_feed hn (fun h20 h1 f1 l1 b1 => ?_) (fun h20 => ?_) (by omega)
  · refine m_feed (n := n) (by rw [f1.2 2 (by decide)]; exact hm) (fun _ h2 f2 l2 b2 => ?_) (fun z => absurd h20 z) (by omega)
    refine hD _ _ ⟨(f1.mono (by decide) (by decide)).trans (f2.mono (by decide) (by decide)), ?_⟩
    have e1 : h2 10 5 = (n : Int) + 20 := by rw [f2.at 10 (by decide) (by decide)]; exact l1
    refine ⟨by rw [e1, l2], by omega, fun i hi => ?_⟩
    rw [b2 i (by omega), f2.at 11 (by decide) (by decide), b1 i (by omega), f1.at 131 (by decide) (by decide)]
    rcases FV_cases n a b c d e i (by omega) with ⟨q, z⟩ | ⟨v, q, z⟩
    · rw [z, z]; exact r4 i (by omega)
    · rw [z, z]; exact ⟨rfl, q⟩
  · exact m_feed hm (fun z => absurd z h20) (fun _ => hD _ _ ⟨Fr.rfl, r1, ⟨r2, r3⟩, r4⟩) (by omega)
theorem pl_back {N : Nat} {D : Int → Int → aH → Prop} {h : aH} {x : Int} (R : RT h) (hD : ∀ v h', TPN h h' → D v v h') :
    WI N 23 0 [(0, .inr (.inr 9)), (1, .inl x)] h (fun v1 h1 => WI N 217 0 [(0, .inr (.inr 130)), (1, .inl x)] h1 (fun v2 h2 => D v1 v2 h2)) := by
  have R0 := R
  obtain ⟨r1, ⟨r2, r3⟩, r4⟩ := R
  refine w_23_0 ⟨fun q => w_217_0 ⟨fun _ => hD _ _ ⟨Fr.rfl, R0⟩, fun z => absurd q z⟩, fun q => ⟨fun q1 => ck_rg (by omega) (w_217_0 ⟨fun z => absurd z q, fun _ => ⟨fun _ => ?_, fun z => ?_⟩⟩), fun q1 => w_217_0 ⟨fun z => absurd z q, fun _ => ⟨fun z => ?_, fun _ => hD _ _ ⟨Fr.rfl, R0⟩⟩⟩⟩⟩
  · have e0 : (am_up h 10 5 (h 10 5 - x)) 130 2 = h 10 5 := r1
    rw [e0]
    refine ck_rg (by omega) (hD _ _ ⟨(Fr.rfl.up (by decide) (by decide)).upM (by decide), ?_⟩)
    refine ⟨?_, ?_, fun i hi => ?_⟩
    · rw [up_same, up_row (by decide), up_same]
    · rw [up_row (by decide), up_same]; omega
    · rw [up_row (by decide), up_same] at hi
      exact r4 i (by omega)
  · exact absurd (show x ≤ h 130 2 by omega) z
  · exact absurd (show x ≤ h 10 5 by omega) q1
