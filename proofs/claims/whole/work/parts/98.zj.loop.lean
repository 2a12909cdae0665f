/-! the law's loop -/
theorem and63 (x : Int) : 0 ≤ am_and x 63 ∧ am_and x 63 ≤ 63 := by
  unfold am_and
  have e : (Int32.ofInt x &&& Int32.ofInt 63).toBitVec = BitVec.ofInt 32 x &&& 63#32 := rfl
  rw [show (Int32.ofInt x &&& Int32.ofInt 63).toInt = (Int32.ofInt x &&& Int32.ofInt 63).toBitVec.toInt from rfl, e]
  have h1 : (BitVec.ofInt 32 x &&& 63#32).toNat ≤ 63 := by
    rw [BitVec.toNat_and]
    exact Nat.and_le_right
  rw [BitVec.toInt_eq_toNat_cond]
  omega
set_option maxRecDepth 10000 in
theorem lw_loop {N : Nat} {C : Int → aH → Prop} (hN : N ≤ 3072) (hC : ∀ h, C 1 h) : ∀ (d i : Nat) (h : aH), N ≤ i + d → i ≤ 4000 → INV h → (0 ≤ h 9 11 ∧ h 9 11 ≤ (i : Int)) → WI N 353 11 [(0, .inr (.inr 1)), (1, .inr (.inr 9)), (2, .inr (.inr 130)), (3, .inl (i : Int))] h C := by
  intro d
  induction d with
  | zero =>
    intro i h hd hi V hed
    refine w_353_11 (ck_rg (by omega) (ck_rg (by omega) ⟨fun _ => ck_t1 (hC h), fun z => by omega⟩))
  | succ d ih =>
  intro i h hd hi V hed
  refine w_353_11 (ck_rg (by omega) (ck_rg (by omega) ⟨fun _ => ck_t1 (hC h), fun hle => ck_ix (by omega) ?_⟩))
  have he : okEd h := ⟨hed.1, by omega⟩
  have next : ∀ h2, NX h h2 → WI N 353 11 [(0, .inr (.inr 1)), (1, .inr (.inr 9)), (2, .inr (.inr 130)), (3, .inl ((i : Int) + 6))] h2 C := fun h2 Z => ih (i + 6) h2 (by omega) (by omega) Z.1 ⟨by have := Z.2.2.2; omega, by have := Z.2.2.1; omega⟩
  have g1 : am_rg ((i : Int) + 1) := ⟨by omega, by omega⟩
  have g2 : am_rg ((i : Int) + 2) := ⟨by omega, by omega⟩
  have g3 : am_rg ((i : Int) + 3) := ⟨by omega, by omega⟩
  have g4 : am_rg ((i : Int) + 4) := ⟨by omega, by omega⟩
  have g5 : am_rg ((i : Int) + 5) := ⟨by omega, by omega⟩
  have g6 : am_rg ((i : Int) + 6) := ⟨by omega, by omega⟩
  have i1 : am_ix ((i : Int) + 1) N := ⟨by omega, by omega⟩
  have i2 : am_ix ((i : Int) + 2) N := ⟨by omega, by omega⟩
  have i3 : am_ix ((i : Int) + 3) N := ⟨by omega, by omega⟩
  have i4 : am_ix ((i : Int) + 4) N := ⟨by omega, by omega⟩
  have i5 : am_ix ((i : Int) + 5) N := ⟨by omega, by omega⟩
  rw [Int.toNat_natCast]
  have zr := and63 (h 1 i)
  generalize am_and (h 1 i) 63 = z at zr ⊢
  refine ⟨fun _ => ⟨g6, next h (NX.rfl V)⟩, fun zo => ?_⟩
  refine ⟨fun _ => ?_, fun n0 => ⟨fun _ => ?_, fun n1 => ⟨fun _ => ?_, fun n2 => ⟨fun _ => ?_, fun n3 => ⟨fun _ => ?_, fun n4 => ⟨fun _ => ?_, fun n5 => ⟨fun _ => ?_, fun n6 => ⟨fun _ => ?_, fun n7 => ⟨fun _ => ?_, fun n8 => ⟨fun _ => ?_, fun n9 => ⟨fun _ => ?_, fun n10 => ⟨fun _ => ?_, fun n11 => ⟨fun _ => ?_, fun n12 => ⟨fun _ => ?_, fun n13 => ⟨fun _ => ?_, fun n14 => ⟨fun _ => ?_, fun n15 => ⟨fun _ => ?_, fun n16 => ⟨fun _ => ?_, fun n17 => ⟨fun _ => ?_, fun n18 => ⟨fun _ => ?_, fun n19 => ⟨fun _ => ?_, fun n20 => ⟨fun _ => ?_, fun n21 => ⟨fun _ => ?_, fun n22 => ⟨fun _ => ?_, fun n23 => ⟨fun _ => ?_, fun n24 => ⟨fun _ => ?_, fun n25 => ⟨fun _ => ?_, fun n26 => ⟨fun _ => ?_, fun n27 => ⟨fun _ => ?_, fun n28 => ⟨fun _ => ?_, fun n29 => ⟨fun _ => ?_, fun n30 => ⟨fun _ => ?_, fun n31 => ⟨fun _ => ?_, fun n32 => ⟨fun _ => ?_, fun n33 => ⟨fun _ => ?_, fun n34 => ⟨fun _ => ?_, fun n35 => ⟨fun _ => ?_, fun n36 => ⟨fun _ => ?_, fun n37 => ⟨fun _ => ?_, fun n38 => ⟨fun _ => ?_, fun n39 => ⟨fun _ => ?_, fun n40 => ⟨fun _ => ?_, fun n41 => ⟨fun _ => ?_, fun n42 => ⟨fun _ => ?_, fun n43 => ⟨fun _ => ?_, fun n44 => ⟨fun _ => ?_, fun n45 => ⟨fun _ => ?_, fun n46 => ⟨fun _ => ?_, fun n47 => by omega⟩⟩⟩⟩⟩⟩⟩⟩⟩⟩⟩⟩⟩⟩⟩⟩⟩⟩⟩⟩⟩⟩⟩⟩⟩⟩⟩⟩⟩⟩⟩⟩⟩⟩⟩⟩⟩⟩⟩⟩⟩⟩⟩⟩⟩⟩⟩⟩
  · refine ⟨g1, i1, g2, i2, g3, i3, g4, i4, g5, i5, WI.mono (q_feed V (h 1 ((i : Int) + 1).toNat) (h 1 ((i : Int) + 2).toNat) (h 1 ((i : Int) + 3).toNat) (h 1 ((i : Int) + 4).toNat) (h 1 ((i : Int) + 5).toNat)) (fun v1 h1 W => ?_)⟩
    obtain ⟨e1, W⟩ := W
    rw [e1]
    exact ⟨g1, i1, g2, i2, g3, i3, g4, i4, g5, i5, WI.mono W (fun v2 h2 Z => ⟨fun _ => ⟨g6, next h2 Z.2⟩, fun z => absurd Z.1 z⟩)⟩
  · refine ⟨g1, i1, WI.mono (q_back V (h 1 ((i : Int) + 1).toNat)) (fun v1 h1 W => ?_)⟩
    obtain ⟨e1, W⟩ := W
    rw [e1]
    exact ⟨g1, i1, WI.mono W (fun v2 h2 Z => ⟨fun _ => ⟨g6, next h2 Z.2⟩, fun z => absurd Z.1 z⟩)⟩
  · refine WI.mono (q_read V he) (fun v1 h1 W => ?_)
    exact WI.mono W.2 (fun v2 h2 Z => ⟨fun _ => ⟨g6, next h2 Z.2⟩, fun z => absurd Z.1 z⟩)
  · refine WI.mono (q_place V) (fun v1 h1 W => ?_)
    exact WI.mono W.2 (fun v2 h2 Z => ⟨fun _ => ⟨g6, next h2 Z.2⟩, fun z => absurd Z.1 z⟩)
  · refine ⟨g1, i1, g2, i2, WI.mono (q_of V (h 1 ((i : Int) + 1).toNat) (h 1 ((i : Int) + 2).toNat)) (fun v1 h1 W => ?_)⟩
    obtain ⟨e1, W⟩ := W
    rw [e1]
    exact ⟨g1, i1, g2, i2, WI.mono W (fun v2 h2 Z => ⟨fun _ => ⟨g6, next h2 Z.2⟩, fun z => absurd Z.1 z⟩)⟩
  · refine ⟨g1, i1, WI.mono (q_lies V (h 1 ((i : Int) + 1).toNat)) (fun v1 h1 W => ?_)⟩
    obtain ⟨e1, W⟩ := W
    rw [e1]
    exact ⟨g1, i1, WI.mono W (fun v2 h2 Z => ⟨fun _ => ⟨g6, next h2 Z.2⟩, fun z => absurd Z.1 z⟩)⟩
  · refine ⟨g1, i1, g2, i2, g3, i3, g4, i4, WI.mono (q_hears V (h 1 ((i : Int) + 1).toNat) (h 1 ((i : Int) + 2).toNat) (h 1 ((i : Int) + 3).toNat) (h 1 ((i : Int) + 4).toNat)) (fun v1 h1 W => ?_)⟩
    obtain ⟨e1, W⟩ := W
    rw [e1]
    exact ⟨g1, i1, g2, i2, g3, i3, g4, i4, WI.mono W (fun v2 h2 Z => ⟨fun _ => ⟨g6, next h2 Z.2⟩, fun z => absurd Z.1 z⟩)⟩
  · refine ⟨g1, i1, g2, i2, WI.mono (q_again V (h 1 ((i : Int) + 1).toNat) (h 1 ((i : Int) + 2).toNat)) (fun v1 h1 W => ?_)⟩
    obtain ⟨e1, W⟩ := W
    rw [e1]
    exact ⟨g1, i1, g2, i2, WI.mono W (fun v2 h2 Z => ⟨fun _ => ⟨g6, next h2 Z.2⟩, fun z => absurd Z.1 z⟩)⟩
  · refine ⟨g1, i1, g2, i2, g3, i3, WI.mono (q_ring V he (h 1 ((i : Int) + 1).toNat) (h 1 ((i : Int) + 2).toNat) (h 1 ((i : Int) + 3).toNat)) (fun v1 h1 W => ?_)⟩
    obtain ⟨e1, W⟩ := W
    rw [e1]
    exact ⟨g1, i1, g2, i2, g3, i3, WI.mono W (fun v2 h2 Z => ⟨fun _ => ⟨g6, next h2 Z.2⟩, fun z => absurd Z.1 z⟩)⟩
  · refine ⟨g1, i1, g2, i2, WI.mono (q_string V he (h 1 ((i : Int) + 1).toNat) (h 1 ((i : Int) + 2).toNat)) (fun v1 h1 W => ?_)⟩
    obtain ⟨e1, W⟩ := W
    rw [e1]
    exact ⟨g1, i1, g2, i2, WI.mono W (fun v2 h2 Z => ⟨fun _ => ⟨g6, next h2 Z.2⟩, fun z => absurd Z.1 z⟩)⟩
  · refine ⟨g1, i1, g2, i2, WI.mono (q_pole V he (h 1 ((i : Int) + 1).toNat) (h 1 ((i : Int) + 2).toNat)) (fun v1 h1 W => ?_)⟩
    obtain ⟨e1, W⟩ := W
    rw [e1]
    exact ⟨g1, i1, g2, i2, WI.mono W (fun v2 h2 Z => ⟨fun _ => ⟨g6, next h2 Z.2⟩, fun z => absurd Z.1 z⟩)⟩
  · refine ⟨g1, i1, WI.mono (q_drop V he (h 1 ((i : Int) + 1).toNat)) (fun v1 h1 W => ?_)⟩
    obtain ⟨e1, W⟩ := W
    rw [e1]
    exact ⟨g1, i1, WI.mono W (fun v2 h2 Z => ⟨fun _ => ⟨g6, next h2 Z.2⟩, fun z => absurd Z.1 z⟩)⟩
  · refine ⟨g1, i1, g2, i2, WI.mono (q_sound V (h 1 ((i : Int) + 1).toNat) (h 1 ((i : Int) + 2).toNat)) (fun v1 h1 W => ?_)⟩
    obtain ⟨e1, W⟩ := W
    rw [e1]
    exact ⟨g1, i1, g2, i2, WI.mono W (fun v2 h2 Z => ⟨fun _ => ⟨g6, next h2 Z.2⟩, fun z => absurd Z.1 z⟩)⟩
  · refine ⟨g1, i1, g2, i2, ⟨fun z0 => WI.mono (q_wool V he (h 1 ((i : Int) + 1).toNat) 0 (Or.inl rfl)) (fun v1 h1 W => ?_), fun z1 => WI.mono (q_wool V he (h 1 ((i : Int) + 1).toNat) 1 (Or.inr rfl)) (fun v1 h1 W => ?_)⟩⟩
    · obtain ⟨e1, W⟩ := W
      rw [e1]
      refine ⟨g1, i1, g2, i2, ⟨fun _ => WI.mono W (fun v2 h2 Z => ⟨fun _ => ⟨g6, next h2 Z.2⟩, fun z => absurd Z.1 z⟩), fun z => absurd z0 z⟩⟩
    · obtain ⟨e1, W⟩ := W
      rw [e1]
      refine ⟨g1, i1, g2, i2, ⟨fun z => absurd z z1, fun _ => WI.mono W (fun v2 h2 Z => ⟨fun _ => ⟨g6, next h2 Z.2⟩, fun z => absurd Z.1 z⟩)⟩⟩
  · refine ⟨g1, i1, g2, i2, WI.mono (q_swap V he (h 1 ((i : Int) + 1).toNat) (h 1 ((i : Int) + 2).toNat)) (fun v1 h1 W => ?_)⟩
    obtain ⟨e1, W⟩ := W
    rw [e1]
    exact ⟨g1, i1, g2, i2, WI.mono W (fun v2 h2 Z => ⟨fun _ => ⟨g6, next h2 Z.2⟩, fun z => absurd Z.1 z⟩)⟩
  · refine WL.mono (q_ways V) (fun v1 h1 W => ?_)
    exact WL.mono W.2 (fun v2 h2 Z => ⟨fun _ => ⟨g6, next h2 Z.2⟩, fun z => absurd (sgn_eq.mpr (by have := Z.1; omega)) z⟩)
  · refine ⟨g1, i1, WL.mono (q_up V (h 1 ((i : Int) + 1).toNat)) (fun v1 h1 W => ?_)⟩
    obtain ⟨e1, W⟩ := W
    rw [e1]
    exact ⟨g1, i1, WL.mono W (fun v2 h2 Z => ⟨fun _ => ⟨g6, next h2 Z.2⟩, fun z => absurd (sgn_eq.mpr (by have := Z.1; omega)) z⟩)⟩
  · refine ⟨g1, i1, WL.mono (q_woken V (h 1 ((i : Int) + 1).toNat)) (fun v1 h1 W => ?_)⟩
    obtain ⟨e1, W⟩ := W
    rw [e1]
    exact ⟨g1, i1, WL.mono W (fun v2 h2 Z => ⟨fun _ => ⟨g6, next h2 Z.2⟩, fun z => absurd (sgn_eq.mpr (by have := Z.1; omega)) z⟩)⟩
  · refine WL.mono (q_cost V) (fun v1 h1 W => ?_)
    exact WL.mono W.2 (fun v2 h2 Z => ⟨fun _ => ⟨g6, next h2 Z.2⟩, fun z => absurd (sgn_eq.mpr (by have := Z.1; omega)) z⟩)
  · refine WI.mono (q_worst V) (fun v1 h1 W => ?_)
    exact WI.mono W.2 (fun v2 h2 Z => ⟨fun _ => ⟨g6, next h2 Z.2⟩, fun z => absurd Z.1 z⟩)
  · refine ⟨g1, i1, WI.mono (q_hours V (h 1 ((i : Int) + 1).toNat)) (fun v1 h1 W => ?_)⟩
    obtain ⟨e1, W⟩ := W
    rw [e1]
    exact ⟨g1, i1, WI.mono W (fun v2 h2 Z => ⟨fun _ => ⟨g6, next h2 Z.2⟩, fun z => absurd Z.1 z⟩)⟩
  · refine ⟨g1, i1, g2, i2, g3, i3, WL.mono (q_best V (h 1 ((i : Int) + 1).toNat) (h 1 ((i : Int) + 2).toNat) (h 1 ((i : Int) + 3).toNat)) (fun v1 h1 W => ?_)⟩
    obtain ⟨e1, W⟩ := W
    rw [e1]
    exact ⟨g1, i1, g2, i2, g3, i3, WL.mono W (fun v2 h2 Z => ⟨fun _ => ⟨g6, next h2 Z.2⟩, fun z => absurd (sgn_eq.mpr (by have := Z.1; omega)) z⟩)⟩
  · refine ⟨g1, i1, g2, i2, g3, i3, g4, i4, WI.mono (q_bestAt V (h 1 ((i : Int) + 1).toNat) (h 1 ((i : Int) + 2).toNat) (h 1 ((i : Int) + 3).toNat) (h 1 ((i : Int) + 4).toNat)) (fun v1 h1 W => ?_)⟩
    obtain ⟨e1, W⟩ := W
    rw [e1]
    exact ⟨g1, i1, g2, i2, g3, i3, g4, i4, WI.mono W (fun v2 h2 Z => ⟨fun _ => ⟨g6, next h2 Z.2⟩, fun z => absurd Z.1 z⟩)⟩
  · refine ⟨g1, i1, WI.mono (q_fewest V (h 1 ((i : Int) + 1).toNat)) (fun v1 h1 W => ?_)⟩
    obtain ⟨e1, W⟩ := W
    rw [e1]
    exact ⟨g1, i1, WI.mono W (fun v2 h2 Z => ⟨fun _ => ⟨g6, next h2 Z.2⟩, fun z => absurd Z.1 z⟩)⟩
  · refine ⟨g1, i1, WI.mono (q_deaf V (h 1 ((i : Int) + 1).toNat)) (fun v1 h1 W => ?_)⟩
    obtain ⟨e1, W⟩ := W
    rw [e1]
    exact ⟨g1, i1, WI.mono W (fun v2 h2 Z => ⟨fun _ => ⟨g6, next h2 Z.2⟩, fun z => absurd Z.1 z⟩)⟩
  · refine ⟨g1, i1, g2, i2, WI.mono (q_walk V (h 1 ((i : Int) + 1).toNat) (h 1 ((i : Int) + 2).toNat)) (fun v1 h1 W => ?_)⟩
    obtain ⟨e1, W⟩ := W
    rw [e1]
    exact ⟨g1, i1, g2, i2, WI.mono W (fun v2 h2 Z => ⟨fun _ => ⟨g6, next h2 Z.2⟩, fun z => absurd Z.1 z⟩)⟩
  · refine ⟨g1, i1, g2, i2, WI.mono (q_shakes V (h 1 ((i : Int) + 1).toNat) (h 1 ((i : Int) + 2).toNat)) (fun v1 h1 W => ?_)⟩
    obtain ⟨e1, W⟩ := W
    rw [e1]
    exact ⟨g1, i1, g2, i2, WI.mono W (fun v2 h2 Z => ⟨fun _ => ⟨g6, next h2 Z.2⟩, fun z => absurd Z.1 z⟩)⟩
  · refine ⟨g1, i1, g2, i2, WI.mono (q_shaker V (h 1 ((i : Int) + 1).toNat) (h 1 ((i : Int) + 2).toNat)) (fun v1 h1 W => ?_)⟩
    obtain ⟨e1, W⟩ := W
    rw [e1]
    exact ⟨g1, i1, g2, i2, WI.mono W (fun v2 h2 Z => ⟨fun _ => ⟨g6, next h2 Z.2⟩, fun z => absurd Z.1 z⟩)⟩
  · refine ⟨g1, i1, g2, i2, g3, i3, g4, i4, WL.mono (q_twice V (h 1 ((i : Int) + 1).toNat) (h 1 ((i : Int) + 2).toNat) (h 1 ((i : Int) + 3).toNat) (h 1 ((i : Int) + 4).toNat)) (fun v1 h1 W => ?_)⟩
    obtain ⟨e1, W⟩ := W
    rw [e1]
    exact ⟨g1, i1, g2, i2, g3, i3, g4, i4, WL.mono W (fun v2 h2 Z => ⟨fun _ => ⟨g6, next h2 Z.2⟩, fun z => absurd (sgn_eq.mpr (by have := Z.1; omega)) z⟩)⟩
  · refine ⟨g1, i1, g2, i2, g3, i3, g4, i4, g5, i5, WI.mono (q_twiceAt V (h 1 ((i : Int) + 1).toNat) (h 1 ((i : Int) + 2).toNat) (h 1 ((i : Int) + 3).toNat) (h 1 ((i : Int) + 4).toNat) (h 1 ((i : Int) + 5).toNat)) (fun v1 h1 W => ?_)⟩
    obtain ⟨e1, W⟩ := W
    rw [e1]
    exact ⟨g1, i1, g2, i2, g3, i3, g4, i4, g5, i5, WI.mono W (fun v2 h2 Z => ⟨fun _ => ⟨g6, next h2 Z.2⟩, fun z => absurd Z.1 z⟩)⟩
  · refine ⟨g1, i1, WI.mono (q_swaps V (h 1 ((i : Int) + 1).toNat)) (fun v1 h1 W => ?_)⟩
    obtain ⟨e1, W⟩ := W
    rw [e1]
    exact ⟨g1, i1, WI.mono W (fun v2 h2 Z => ⟨fun _ => ⟨g6, next h2 Z.2⟩, fun z => absurd Z.1 z⟩)⟩
  · refine ⟨g1, i1, g2, i2, WI.mono (q_swapAt V (h 1 ((i : Int) + 1).toNat) (h 1 ((i : Int) + 2).toNat)) (fun v1 h1 W => ?_)⟩
    obtain ⟨e1, W⟩ := W
    rw [e1]
    exact ⟨g1, i1, g2, i2, WI.mono W (fun v2 h2 Z => ⟨fun _ => ⟨g6, next h2 Z.2⟩, fun z => absurd Z.1 z⟩)⟩
  · refine ⟨g1, i1, WL.mono (q_worth V (h 1 ((i : Int) + 1).toNat)) (fun v1 h1 W => ?_)⟩
    obtain ⟨e1, W⟩ := W
    rw [e1]
    exact ⟨g1, i1, WL.mono W (fun v2 h2 Z => ⟨fun _ => ⟨g6, next h2 Z.2⟩, fun z => absurd (sgn_eq.mpr (by have := Z.1; omega)) z⟩)⟩
  · refine ⟨g1, i1, WI.mono (q_whose V (h 1 ((i : Int) + 1).toNat)) (fun v1 h1 W => ?_)⟩
    obtain ⟨e1, W⟩ := W
    rw [e1]
    exact ⟨g1, i1, WI.mono W (fun v2 h2 Z => ⟨fun _ => ⟨g6, next h2 Z.2⟩, fun z => absurd Z.1 z⟩)⟩
  · refine ⟨g1, i1, WI.mono (q_round V (h 1 ((i : Int) + 1).toNat)) (fun v1 h1 W => ?_)⟩
    obtain ⟨e1, W⟩ := W
    rw [e1]
    exact ⟨g1, i1, WI.mono W (fun v2 h2 Z => ⟨fun _ => ⟨g6, next h2 Z.2⟩, fun z => absurd Z.1 z⟩)⟩
  · refine ⟨g1, i1, g2, i2, WI.mono (q_roundAt V (h 1 ((i : Int) + 1).toNat) (h 1 ((i : Int) + 2).toNat)) (fun v1 h1 W => ?_)⟩
    obtain ⟨e1, W⟩ := W
    rw [e1]
    exact ⟨g1, i1, g2, i2, WI.mono W (fun v2 h2 Z => ⟨fun _ => ⟨g6, next h2 Z.2⟩, fun z => absurd Z.1 z⟩)⟩
  · refine ⟨g1, i1, g2, i2, g3, i3, WI.mono (q_morning V (h 1 ((i : Int) + 1).toNat) (h 1 ((i : Int) + 2).toNat) (h 1 ((i : Int) + 3).toNat)) (fun v1 h1 W => ?_)⟩
    obtain ⟨e1, W⟩ := W
    rw [e1]
    exact ⟨g1, i1, g2, i2, g3, i3, WI.mono W (fun v2 h2 Z => ⟨fun _ => ⟨g6, next h2 Z.2⟩, fun z => absurd Z.1 z⟩)⟩
  · refine ⟨g1, i1, WI.mono (q_annul V (h 1 ((i : Int) + 1).toNat)) (fun v1 h1 W => ?_)⟩
    obtain ⟨e1, W⟩ := W
    rw [e1]
    exact ⟨g1, i1, WI.mono W (fun v2 h2 Z => ⟨fun _ => ⟨g6, next h2 Z.2⟩, fun z => absurd Z.1 z⟩)⟩
  · refine ⟨g1, i1, g2, i2, g3, i3, g4, i4, WI.mono (q_alone V (h 1 ((i : Int) + 1).toNat) (h 1 ((i : Int) + 2).toNat) (h 1 ((i : Int) + 3).toNat) (h 1 ((i : Int) + 4).toNat)) (fun v1 h1 W => ?_)⟩
    obtain ⟨e1, W⟩ := W
    rw [e1]
    exact ⟨g1, i1, g2, i2, g3, i3, g4, i4, WI.mono W (fun v2 h2 Z => ⟨fun _ => ⟨g6, next h2 Z.2⟩, fun z => absurd Z.1 z⟩)⟩
  · refine ⟨g1, i1, g2, i2, WI.mono (q_mondays V (h 1 ((i : Int) + 1).toNat) (h 1 ((i : Int) + 2).toNat)) (fun v1 h1 W => ?_)⟩
    obtain ⟨e1, W⟩ := W
    rw [e1]
    exact ⟨g1, i1, g2, i2, WI.mono W (fun v2 h2 Z => ⟨fun _ => ⟨g6, next h2 Z.2⟩, fun z => absurd Z.1 z⟩)⟩
  · refine ⟨g1, i1, g2, i2, ⟨fun z0 => WL.mono (q_mondayWays V (h 1 ((i : Int) + 1).toNat) 0) (fun v1 h1 W => ?_), fun z1 => WL.mono (q_mondayWays V (h 1 ((i : Int) + 1).toNat) 1) (fun v1 h1 W => ?_)⟩⟩
    · obtain ⟨e1, W⟩ := W
      rw [e1]
      refine ⟨g1, i1, g2, i2, ⟨fun _ => WL.mono W (fun v2 h2 Z => ⟨fun _ => ⟨g6, next h2 Z.2⟩, fun z => absurd (sgn_eq.mpr (by have := Z.1; omega)) z⟩), fun z => absurd z0 z⟩⟩
    · obtain ⟨e1, W⟩ := W
      rw [e1]
      refine ⟨g1, i1, g2, i2, ⟨fun z => absurd z z1, fun _ => WL.mono W (fun v2 h2 Z => ⟨fun _ => ⟨g6, next h2 Z.2⟩, fun z => absurd (sgn_eq.mpr (by have := Z.1; omega)) z⟩)⟩⟩
  · refine ⟨g1, i1, g2, i2, g3, i3, ⟨fun z0 => WI.mono (q_fire V (h 1 ((i : Int) + 1).toNat) (h 1 ((i : Int) + 2).toNat) 0) (fun v1 h1 W => ?_), fun z1 => WI.mono (q_fire V (h 1 ((i : Int) + 1).toNat) (h 1 ((i : Int) + 2).toNat) 1) (fun v1 h1 W => ?_)⟩⟩
    · obtain ⟨e1, W⟩ := W
      rw [e1]
      refine ⟨g1, i1, g2, i2, g3, i3, ⟨fun _ => WI.mono W (fun v2 h2 Z => ⟨fun _ => ⟨g6, next h2 Z.2⟩, fun z => absurd Z.1 z⟩), fun z => absurd z0 z⟩⟩
    · obtain ⟨e1, W⟩ := W
      rw [e1]
      refine ⟨g1, i1, g2, i2, g3, i3, ⟨fun z => absurd z z1, fun _ => WI.mono W (fun v2 h2 Z => ⟨fun _ => ⟨g6, next h2 Z.2⟩, fun z => absurd Z.1 z⟩)⟩⟩
  · refine ⟨g1, i1, g2, i2, g3, i3, ⟨fun z0 => WI.mono (q_reaches V (h 1 ((i : Int) + 1).toNat) (h 1 ((i : Int) + 2).toNat) 0) (fun v1 h1 W => ?_), fun z1 => WI.mono (q_reaches V (h 1 ((i : Int) + 1).toNat) (h 1 ((i : Int) + 2).toNat) 1) (fun v1 h1 W => ?_)⟩⟩
    · obtain ⟨e1, W⟩ := W
      rw [e1]
      refine ⟨g1, i1, g2, i2, g3, i3, ⟨fun _ => WI.mono W (fun v2 h2 Z => ⟨fun _ => ⟨g6, next h2 Z.2⟩, fun z => absurd Z.1 z⟩), fun z => absurd z0 z⟩⟩
    · obtain ⟨e1, W⟩ := W
      rw [e1]
      refine ⟨g1, i1, g2, i2, g3, i3, ⟨fun z => absurd z z1, fun _ => WI.mono W (fun v2 h2 Z => ⟨fun _ => ⟨g6, next h2 Z.2⟩, fun z => absurd Z.1 z⟩)⟩⟩
  · refine ⟨g1, i1, g2, i2, WI.mono (q_day V (h 1 ((i : Int) + 1).toNat) (h 1 ((i : Int) + 2).toNat)) (fun v1 h1 W => ?_)⟩
    obtain ⟨e1, W⟩ := W
    rw [e1]
    exact ⟨g1, i1, g2, i2, WI.mono W (fun v2 h2 Z => ⟨fun _ => ⟨g6, next h2 Z.2⟩, fun z => absurd Z.1 z⟩)⟩
  · refine ⟨g1, i1, g2, i2, g3, i3, WI.mono (q_days V (h 1 ((i : Int) + 1).toNat) (h 1 ((i : Int) + 2).toNat) (h 1 ((i : Int) + 3).toNat)) (fun v1 h1 W => ?_)⟩
    obtain ⟨e1, W⟩ := W
    rw [e1]
    exact ⟨g1, i1, g2, i2, g3, i3, WI.mono W (fun v2 h2 Z => ⟨fun _ => ⟨g6, next h2 Z.2⟩, fun z => absurd Z.1 z⟩)⟩
  · refine ⟨g1, i1, WI.mono (q_hold V (h 1 ((i : Int) + 1).toNat)) (fun v1 h1 W => ?_)⟩
    obtain ⟨e1, W⟩ := W
    rw [e1]
    exact ⟨g1, i1, WI.mono W (fun v2 h2 Z => ⟨fun _ => ⟨g6, next h2 Z.2⟩, fun z => absurd Z.1 z⟩)⟩
  · refine ⟨g1, i1, WI.mono (q_restore V he (h 1 ((i : Int) + 1).toNat)) (fun v1 h1 W => ?_)⟩
    obtain ⟨e1, W⟩ := W
    rw [e1]
    exact ⟨g1, i1, WI.mono W (fun v2 h2 Z => ⟨fun _ => ⟨g6, next h2 Z.2⟩, fun z => absurd Z.1 z⟩)⟩
  · refine ⟨g1, i1, WI.mono (q_count V (h 1 ((i : Int) + 1).toNat)) (fun v1 h1 W => ?_)⟩
    obtain ⟨e1, W⟩ := W
    rw [e1]
    exact ⟨g1, i1, WI.mono W (fun v2 h2 Z => ⟨fun _ => ⟨g6, next h2 Z.2⟩, fun z => absurd Z.1 z⟩)⟩
