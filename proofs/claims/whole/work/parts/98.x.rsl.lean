/-! read: both sides behind a sleeper, behind a law -/
theorem RDS.sleeper {K PL : Nat → Nat} {VL : Nat → Int} {sd t : Nat} {g h g1 h1 : aH} (V : RDS K PL VL sd t g h) (fn : FSL K (g 36 16).toNat t = none) (B : SLPS K PL VL t (g 36 16).toNat g g1) (hR : ∀ ns M : Nat, h 147 sd = (ns : Int) → ns < 12 → h 130 20 = (M : Int) → RFS K PL VL (t + (LSL K t).length) [] h1 ∧ SLQ K PL VL t sd ns M h h1) : RDS K PL VL sd (t + (LSL K t).length) g1 h1 := by
  obtain ⟨nb, nc, ns, M, ⟨R0, hsd, sd2, ho⟩, ⟨b1, b2, b3⟩, ⟨c1, c2, c3⟩, ⟨s1, s2, s3⟩, ⟨hM, eM, na⟩, ⟨cc, q1, q2, q3⟩, L1, L2, E, D⟩ := V
  rw [s1, Int.toNat_natCast] at fn B
  have lt : ns < 12 := by
    rcases Nat.lt_or_ge ns 12 with y | y
    · exact y
    · unfold FSL at fn; rw [if_pos y] at fn; cases fn
  obtain ⟨R1, fr, ⟨m1, m2⟩, so, nm, v', w1, w2, w3, w4, r1, fbr, rfb, r2a, r2b, r3, rdp, rdu⟩ := hR ns M s2 lt hM
  obtain ⟨f5, -, ⟨n1, n2⟩, oth, gn, v, m, m', u1, u2, u3, u4, nl, ⟨g1a, g1b, g1c⟩, e1, vr, bd, gfb, ⟨hm, hm', m4⟩, ev0, ev1, e3, gdp, gdu⟩ := B
  -- the bed is the same one
  have same : g 35 13 = 0 → ¬ KNW g (VL (t + 1)) → v = v' ∧ (v ≠ -1 → v < (nb : Int)) := by
    intro z nk
    obtain ⟨d1, d2, d3, ⟨k1, k2, k3⟩, d5⟩ := D z
    obtain ⟨-, -, l⟩ := nl
    obtain ⟨l1, l2, l3, l4⟩ := l nk
    rw [k1, Int.toNat_natCast] at l2 l3
    rw [k1] at l1 l4
    have uq : ∀ i j, i < M → j < M → g 55 i = g 55 j → i = j := by
      intro i j hi hj e
      rcases Nat.lt_trichotomy i j with y | y | y
      · exact absurd e (k3 i j y hj)
      · exact y
      · exact absurd e.symm (k3 j i y hi)
    by_cases kn : ∃ i, i < M ∧ g 55 i = VL (t + 3)
    · obtain ⟨i, i1, i2⟩ := kn
      have ev : v = g 56 i := by
        rcases bd with ⟨-, b⟩ | ⟨j, j1, j2, j3, j4⟩
        · exact absurd ⟨i, by rw [l1]; omega, by rw [(l4 i (by omega)).1]; exact i2⟩ b
        · rw [l1] at j1
          have : j = i := by
            by_cases e : j = M
            · exact absurd (by rw [(l4 i (by omega)).1]; exact i2) (j3 i (by omega))
            · rw [(l4 j (by omega)).1] at j2
              exact uq j i (by omega) i1 (by rw [j2, i2])
          rw [← j4, this]
          exact (l4 i (by omega)).2
      rw [ev]
      have ki := k2 i i1
      rcases ki.2 with ⟨a, b, c, d⟩ | ⟨a, b⟩
      · refine ⟨?_, fun _ => d⟩
        rcases fbr with ⟨-, x⟩ | ⟨j, j1, j2, j3, -, j5⟩
        · exact absurd ⟨by rw [ki.1]; exact i2, a⟩ (x i (by rw [hM]; omega))
        · rw [hM] at j1
          have : j = i := uq j i (by omega) i1 (by rw [← (k2 j (by omega)).1, j2, i2])
          rw [← j5, this, b]
      · refine ⟨?_, fun y => absurd b y⟩
        rcases fbr with ⟨x, -⟩ | ⟨j, j1, j2, j3, -, j5⟩
        · rw [b, x]
        · rw [hM] at j1
          have : j = i := uq j i (by omega) i1 (by rw [← (k2 j (by omega)).1, j2, i2])
          rw [this, a] at j3
          omega
    · have ev : v = -1 := by
        rcases bd with ⟨b, -⟩ | ⟨j, j1, j2, j3, j4⟩
        · exact b
        · rw [l1] at j1
          by_cases e : j = M
          · rw [← j4, e, l3]
          · exact absurd ⟨j, by omega, by rw [← (l4 j (by omega)).1]; exact j2⟩ kn
      have ev' : v' = -1 := by
        rcases fbr with ⟨x, -⟩ | ⟨j, j1, j2, j3, -, j5⟩
        · exact x
        · rw [hM] at j1
          exact absurd ⟨j, by omega, by rw [← (k2 j (by omega)).1]; exact j2⟩ kn
      exact ⟨by rw [ev, ev'], fun y => absurd ev y⟩
  have bits : g 35 13 = 0 → v ≠ -1 → (m.testBit v.toNat = true ↔ LYS h sd ns v) := by
    intro z v1
    obtain ⟨d1, d2, d3, d4, ⟨m0, hm0, -, tb, -⟩⟩ := D z
    have : m0 = m := by omega
    subst this
    rw [tb v.toNat (by omega)]
    unfold LYS
    refine ⟨fun ⟨s, hs, e⟩ => ⟨s, hs, ?_⟩, fun ⟨s, hs, e⟩ => ⟨s, hs, ?_⟩⟩
    · rw [(d3 s hs).1.1, e]; omega
    · rw [(d3 s hs).1.1] at e
      rw [e]; omega
  have E1 := E.step e1 r1 (by decide) (fun z => (D z).2.2.2.1.kn hM _)
  have E2 : ESN u2 w2 := by
    by_cases z : u1.1 = 0
    · obtain ⟨z0, nk, -⟩ := e1.z (by decide) z
      obtain ⟨vv, -⟩ := same z0 nk
      by_cases v1 : v = -1
      · exact E1.step (ev0 v1).2 (r2a (by rw [← vv]; exact v1)) (by decide) (fun _ => Iff.rfl)
      · have r := r2b (by rw [← vv]; exact v1)
        rw [← vv] at r
        obtain ⟨y, n⟩ := ev1 v1
        cases tb : m.testBit v.toNat with
        | true => exact E1.step (y tb).2 r (by decide) (fun _ => ⟨fun _ => (bits z0 v1).mp tb, fun _ => trivial⟩)
        | false =>
          have nl : ¬ LYS h sd ns v := fun z => by rw [(bits z0 v1).mpr z] at tb; cases tb
          rw [(n tb).2]
          exact E1.step (EVT.no (bad := False) (n := 3) (p := (PL (t + 3) : Int)) id) r (by decide) (fun _ => ⟨False.elim, nl⟩)
    · have eu : u2 = u1 := by
        by_cases v1 : v = -1
        · exact (ev0 v1).2.nz z
        · obtain ⟨y, n⟩ := ev1 v1
          cases tb : m.testBit v.toNat with
          | true => exact (y tb).2.nz z
          | false => exact (n tb).2
      have z' : w1.1 ≠ 0 := by rw [← E1.2.1]; exact z
      have ew : w2 = w1 := by
        by_cases v1 : v' = -1
        · exact (r2a v1).nz z'
        · exact (r2b v1).nz z'
      rw [eu, ew]; exact E1
  have E3 := E2.step e3 r3 (by decide) (fun _ => Iff.rfl)
  have E4 : ESN (SNK g1) (WNK h1) := by
    rcases gdu with ⟨k, -, -, -, a1, a2⟩ | ⟨k, -, -, -, a1⟩ | ⟨k, k', -, -, -, a1⟩
    · rcases rdu with ⟨-, -, -, -, p1, p2⟩ | ⟨k2, -⟩ | ⟨k2, -⟩
      · exact (E3.step a1 p1 (by decide) (fun _ => Iff.rfl)).step a2 p2 (by decide) (fun _ => Iff.rfl)
      · omega
      · exact absurd k k2
    · rcases rdu with ⟨k2, -⟩ | ⟨-, -, -, -, p1⟩ | ⟨-, k2, -⟩
      · omega
      · exact E3.step a1 p1 (by decide) (fun _ => Iff.rfl)
      · exact absurd k k2
    · rcases rdu with ⟨k2, -⟩ | ⟨k2, -⟩ | ⟨-, -, -, -, -, p1⟩
      · exact absurd k2 k
      · exact absurd k2 k'
      · rw [a1, p1]; exact E3
  refine ⟨nb, nc, ns + 1, M + 1, ⟨R1, by rw [fr.2 19 (by decide)]; exact hsd, sd2, by rw [fr.2 12 (by decide)]; exact ho⟩, ⟨by rw [n2 14 (by decide)]; exact b1, by rw [fr.at 141 (by decide) (by decide)]; exact b2, b3⟩, ⟨by rw [n2 15 (by decide)]; exact c1, by rw [fr.at 144 (by decide) (by decide)]; exact c2, c3⟩, ⟨by rw [n1]; omega, by rw [m1]; omega, by omega⟩, ⟨by rw [nm.1]; omega, by omega, nm.na na (fun z => by omega)⟩, ⟨cc, by rw [fr.2 39 (by decide)]; exact q1, q2, by omega⟩, ?_, ?_, E4, fun z => ?_⟩
  · rw [f5.at 50 (by decide) (by decide), f5.at 49 (by decide) (by decide)]
    exact L1.mv fr (by decide) (by decide)
  · rw [f5.at 53 (by decide) (by decide), f5.at 52 (by decide) (by decide)]
    exact L2.mv fr (by decide) (by decide)
  · -- nothing was wrong
    have z3 : u3.1 = 0 ∧ ((K (t + 6) = 13 ∧ g1 43 ns = VL (t + 7) ∧ g1 44 ns = VL (t + 9) ∧ g1 45 ns = 0 ∧ (0 ≤ VL (t + 7) ∧ VL (t + 7) ≤ 399) ∧ (0 ≤ VL (t + 9) ∧ VL (t + 9) ≤ 9)) ∨ (K (t + 6) = 15 ∧ g1 43 ns = -2 ∧ g1 44 ns = 0 ∧ g1 45 ns = VL (t + 7) ∧ (0 ≤ VL (t + 7) ∧ VL (t + 7) ≤ 9)) ∨ (K (t + 6) ≠ 13 ∧ K (t + 6) ≠ 15 ∧ g1 43 ns = -2 ∧ g1 44 ns = 0 ∧ g1 45 ns = 0)) := by
      rcases gdu with ⟨k, x1, x2, x3, a1, a2⟩ | ⟨k, x1, x2, x3, a1⟩ | ⟨k, k', x1, x2, x3, a1⟩
      · obtain ⟨za, ga, -⟩ := a2.z (by decide) z
        obtain ⟨zb, gb, -⟩ := a1.z (by decide) za
        exact ⟨zb, Or.inl ⟨k, x1, x2, x3, Classical.byContradiction gb, Classical.byContradiction ga⟩⟩
      · obtain ⟨zb, gb, -⟩ := a1.z (by decide) z
        exact ⟨zb, Or.inr (Or.inl ⟨k, x1, x2, x3, Classical.byContradiction gb⟩)⟩
      · have z : (SNK g1).1 = 0 := z
        rw [a1] at z
        exact ⟨z, Or.inr (Or.inr ⟨k, k', x1, x2, x3⟩)⟩
    obtain ⟨z3, du⟩ := z3
    obtain ⟨z2, gd, -⟩ := e3.z (by decide) z3
    have vv : v ≠ -1 ∧ m.testBit v.toNat = false ∧ m' = m ||| 2 ^ v.toNat ∧ u1.1 = 0 := by
      by_cases v1 : v = -1
      · exact absurd trivial ((ev0 v1).2.z (by decide) z2).2.1
      · obtain ⟨y, n⟩ := ev1 v1
        cases tb : m.testBit v.toNat with
        | true => exact absurd trivial ((y tb).2.z (by decide) z2).2.1
        | false =>
          obtain ⟨n1, n2⟩ := n tb
          exact ⟨v1, rfl, n1, by rw [← n2]; exact z2⟩
    obtain ⟨v1, tb, em, zu⟩ := vv
    obtain ⟨z0, nk, -⟩ := e1.z (by decide) zu
    obtain ⟨ev, vlt⟩ := same z0 nk
    have vlt := vlt v1
    obtain ⟨d1, d2, d3, d4, d5⟩ := D z0
    obtain ⟨w, rfl⟩ := Int.eq_ofNat_of_zero_le (show 0 ≤ v by omega)
    rw [Int.toNat_natCast] at tb em
    refine ⟨fun j hj => ?_, fun j hj => ?_, fun j hj => ?_, ?_, ?_⟩
    · rw [fr.at 142 (by decide) (by decide), fr.at 143 (by decide) (by decide), f5.at 37 (by decide) (by decide), f5.at 38 (by decide) (by decide)]
      exact d1 j hj
    · rw [fr.at 145 (by decide) (by decide), fr.at 146 (by decide) (by decide), f5.at 39 (by decide) (by decide), f5.at 40 (by decide) (by decide)]
      exact d2 j hj
    · by_cases e : j = ns
      · subst e
        rw [rfb, gfb, rdp, gdp]
        have gd := Classical.byContradiction gd
        refine ⟨⟨ev.symm, by omega, vlt⟩, ?_, gd, ?_⟩
        · rcases du with ⟨k, x1, x2, x3, -⟩ | ⟨k, x1, x2, x3, -⟩ | ⟨k, k', x1, x2, x3⟩
          · rcases rdu with ⟨-, p1, p2, p3, -⟩ | ⟨k2, -⟩ | ⟨k2, -⟩
            · rw [x1, x2, x3, p1, p2, p3]; exact ⟨rfl, rfl, rfl, rfl⟩
            · omega
            · exact absurd k k2
          · rcases rdu with ⟨k2, -⟩ | ⟨-, p1, p2, p3, -⟩ | ⟨-, k2, -⟩
            · omega
            · rw [x1, x2, x3, p1, p2, p3]; exact ⟨rfl, rfl, rfl, rfl⟩
            · exact absurd k k2
          · rcases rdu with ⟨k2, -⟩ | ⟨k2, -⟩ | ⟨-, -, p1, p2, p3, -⟩
            · exact absurd k2 k
            · exact absurd k2 k'
            · rw [x1, x2, x3, p1, p2, p3]; exact ⟨rfl, rfl, rfl, rfl⟩
        · rcases du with ⟨k, x1, x2, x3, a1, a2⟩ | ⟨k, x1, x2, x3, a1⟩ | ⟨k, k', x1, x2, x3⟩
          · rw [x1, x2, x3]
            exact ⟨Or.inr a1, a2, by decide⟩
          · rw [x1, x2, x3]
            exact ⟨Or.inl rfl, by decide, a1⟩
          · rw [x1, x2, x3]
            exact ⟨Or.inl rfl, by decide, by decide⟩
      · obtain ⟨o1, o2, o3, o4, o5⟩ := oth j e
        obtain ⟨p1, p2, p3, p4, p5⟩ := so (12 * sd + j) (by omega)
        rw [o1, o2, o3, o4, o5, p1, p2, p3, p4, p5]
        exact d3 j (by omega)
    · refine d4.add (Nat.le_refl _) nk (NML.mv nl rfl rfl rfl g1a g1b g1c) nm (Or.inr ⟨rfl, rfl⟩)
    · obtain ⟨m0, hm0, -, tb0, inj⟩ := d5
      have : m0 = m := by omega
      subst this
      have old : ∀ s, s < ns → g1 41 s = g 41 s := fun s hs => (oth s (by omega)).1
      have fresh : ∀ s, s < ns → g 41 s ≠ (w : Int) := fun s hs e => by
        rw [(tb0 w (by omega)).mpr ⟨s, hs, e⟩] at tb; cases tb
      refine ⟨m', hm', m4, fun b hb => ?_, fun s s' hs hs' e => ?_⟩
      · rw [em, Nat.testBit_or, Nat.testBit_two_pow]
        constructor
        · intro y
          rcases Bool.or_eq_true_iff.mp y with y | y
          · obtain ⟨s, hs, e⟩ := (tb0 b hb).mp y
            exact ⟨s, by omega, by rw [old s hs]; exact e⟩
          · exact ⟨ns, by omega, by rw [gfb]; have := of_decide_eq_true y; omega⟩
        · rintro ⟨s, hs, e⟩
          rw [Bool.or_eq_true_iff]
          by_cases c : s = ns
          · rw [c, gfb] at e
            exact Or.inr (decide_eq_true (by omega))
          · rw [old s (by omega)] at e
            exact Or.inl ((tb0 b hb).mpr ⟨s, by omega, e⟩)
      · by_cases c : s = ns
        · by_cases c' : s' = ns
          · omega
          · rw [c, gfb, old s' (by omega)] at e
            exact absurd e.symm (fresh s' (by omega))
        · by_cases c' : s' = ns
          · rw [c', gfb, old s (by omega)] at e
            exact absurd e (fresh s (by omega))
          · rw [old s (by omega), old s' (by omega)] at e
            exact inj s s' (by omega) (by omega) e
/-- the other law stays -/
theorem RLW.oth {sd cc lw law : Nat} {h h' : aH} {steps : Nat → Int} {n : Int} {dfl : Prop} (L : RLW h law steps n dfl) (F : FrA (ALD sd cc lw) h h') (ne : law ≠ lw) (hc : h 130 39 = (cc : Int)) (c4 : h 130 39 ≤ h' 130 39) : RLW h' law steps n dfl := by
  obtain ⟨o, ok⟩ := L
  have e3 : h' 153 law = h 153 law := F 153 law (by unfold ALD ALC; omega)
  have e4 : h' 154 law = h 154 law := F 154 law (by unfold ALD ALC; omega)
  have e5 : h' 155 law = h 155 law := F 155 law (by unfold ALD ALC; omega)
  refine ⟨?_, ok⟩
  rcases o with ⟨t0, d⟩ | ⟨t1, ⟨r0, r1, r2, r3, r4⟩, to, lf⟩
  · exact Or.inl ⟨by rw [e3]; exact t0, d⟩
  · refine Or.inr ⟨by rw [e3]; exact t1, ?_, by rw [e5]; omega, by rw [e4]; exact lf⟩
    unfold RelL
    rw [e4, e5]
    refine ⟨r0, r1, r2, fun i hi => ?_, r4⟩
    have := r3 i hi
    rw [F 156 _ (by unfold ALD ALC; omega), F 157 _ (by unfold ALD ALC; omega)]
    exact this
theorem LWR.rl {K PL : Nat → Nat} {VL : Nat → Int} {sd cc lw t t' : Nat} {E' : List Int} {h' : aH} {steps : Nat → Int} {n : Int} {dfl : Prop} (Q : TOKP K PL VL) (hF : FLW49 K VL t = .inr (E', t')) (W : LWR K PL VL sd cc lw E' t' h') (sd2 : sd < 2) (el : lw / 2 = sd) (c4 : 420 * sd ≤ cc) (hn : n = (E'.length : Int)) (hs : stE steps E') : RLW h' lw steps n dfl := by
  obtain ⟨R, ho, w1, w2, w3, w4, w5, w6⟩ := W
  obtain ⟨g1, g2, g3, g4⟩ := FLW_good Q.2.2.1 hF
  obtain ⟨l1, l2⟩ := g1.law g2 (by omega) hs
  subst hn
  refine ⟨Or.inr ⟨w1, ⟨by rw [w2]; omega, by rw [w2, w3]; omega, by rw [w3]; omega, fun i hi => ?_, l2⟩, by rw [w3, w4]; exact Int.le_refl _, by rw [w2, el]; omega⟩, l1⟩
  rw [w2, Int.toNat_natCast, hs i (by omega)]
  exact w5 i (by omega)
theorem RDS.law {K PL : Nat → Nat} {VL : Nat → Int} {sd t t' cc lw : Nat} {E' : List Int} {g h g1 h1 : aH} (Q : TOKP K PL VL) (V : RDS K PL VL sd t g h) (hF : FLW49 K VL t = .inr (E', t')) (F : FrA (ALD sd cc lw) h h1) (hcc : h 130 39 = (cc : Int)) (W : LWR K PL VL sd cc lw E' t' h1)
    (o : (lw = 2 * sd ∧ F5 [57, 49, 50] [7, 8, 9, 11, 12] g g1 ∧ g1 49 2 = (E'.length : Int) ∧ stE (g1 50) E') ∨ (lw = 2 * sd + 1 ∧ F5 [57, 52, 53] [7, 8, 9, 11, 12] g g1 ∧ g1 52 2 = (E'.length : Int) ∧ stE (g1 53) E')) : RDS K PL VL sd t' g1 h1 := by
  obtain ⟨nb, nc, ns, M, ⟨R0, hsd, sd2, ho⟩, ⟨b1, b2, b3⟩, ⟨c1, c2, c3⟩, ⟨s1, s2, s3⟩, ⟨hM, eM, na⟩, ⟨cc', q1, q2, q3⟩, L1, L2, E, D⟩ := V
  have : cc' = cc := by omega
  subst this
  have W0 := W
  obtain ⟨R, wo, w1, w2, w3, w4, w5, w6⟩ := W0
  have row : ∀ r, r ≠ 130 → r ≠ 153 → r ≠ 154 → r ≠ 155 → r ≠ 156 → r ≠ 157 → r ≠ 158 → h1 r = h r := fun r a b c d e f k => F.row r (fun j => by unfold ALD ALC; omega)
  have own : ∀ j, j ≠ 11 → j ≠ 12 → j ≠ 13 → j ≠ 14 → j ≠ 39 → j ≠ 43 → h1 130 j = h 130 j := fun j a b c d e f => F 130 j (by unfold ALD ALC; omega)
  -- the class keeps all else
  have keep : (∀ j, g1 36 j = g 36 j) ∧ (∀ r, r ∈ [37, 38, 39, 40, 41, 42, 43, 44, 45, 55, 56] → g1 r = g r) ∧ (g1 35 4 = g 35 4 ∧ g1 35 5 = g 35 5 ∧ SNK g1 = SNK g) := by
    rcases o with ⟨-, f, -⟩ | ⟨-, f, -⟩
    · refine ⟨fun j => by rw [f.at 36 (by decide) (by decide)], fun r hr => f.at r ?_ ?_, f.2 4 (by decide), f.2 5 (by decide), SNK_F5 f (by decide) (by decide)⟩
      · intro hc; revert hr; revert hc; simp; omega
      · intro e; subst e; revert hr; decide
    · refine ⟨fun j => by rw [f.at 36 (by decide) (by decide)], fun r hr => f.at r ?_ ?_, f.2 4 (by decide), f.2 5 (by decide), SNK_F5 f (by decide) (by decide)⟩
      · intro hc; revert hr; revert hc; simp; omega
      · intro e; subst e; revert hr; decide
  obtain ⟨k36, kr, k4, k5, ksn⟩ := keep
  have eW : WNK h1 = WNK h := by
    unfold WNK
    rw [own 15 (by decide) (by decide) (by decide) (by decide) (by decide) (by decide), own 16 (by decide) (by decide) (by decide) (by decide) (by decide) (by decide)]
  have le : h 130 39 ≤ h1 130 39 := by rw [w4, q1]; omega
  have laws : RLW h1 (2 * sd) (g1 50) (g1 49 2) (dflH (g1 50) (g1 49 2)) ∧ RLW h1 (2 * sd + 1) (g1 53) (g1 52 2) (dflA (g1 53) (g1 52 2)) := by
    rcases o with ⟨e, f, l1, l2⟩ | ⟨e, f, l1, l2⟩
    · refine ⟨?_, ?_⟩
      · rw [← e]; exact W.rl Q hF sd2 (by omega) q2 l1 l2
      · rw [f.at 53 (by decide) (by decide), f.at 52 (by decide) (by decide)]
        exact L2.oth F (by omega) q1 le
    · refine ⟨?_, ?_⟩
      · rw [f.at 50 (by decide) (by decide), f.at 49 (by decide) (by decide)]
        exact L1.oth F (by omega) q1 le
      · rw [← e]; exact W.rl Q hF sd2 (by omega) q2 l1 l2
  refine ⟨nb, nc, ns, M, ⟨R, by rw [own 19 (by decide) (by decide) (by decide) (by decide) (by decide) (by decide)]; exact hsd, sd2, wo⟩, ⟨by rw [k36]; exact b1, by rw [row 141 (by decide) (by decide) (by decide) (by decide) (by decide) (by decide) (by decide)]; exact b2, b3⟩, ⟨by rw [k36]; exact c1, by rw [row 144 (by decide) (by decide) (by decide) (by decide) (by decide) (by decide) (by decide)]; exact c2, c3⟩, ⟨by rw [k36]; exact s1, by rw [row 147 (by decide) (by decide) (by decide) (by decide) (by decide) (by decide) (by decide)]; exact s2, s3⟩, ⟨by rw [own 20 (by decide) (by decide) (by decide) (by decide) (by decide) (by decide)]; exact hM, eM, ?_⟩, ⟨cc' + E'.length, w4, by omega, w6⟩, laws.1, laws.2, by rw [ksn, eW]; exact E, fun z => ?_⟩
  · rw [row 139 (by decide) (by decide) (by decide) (by decide) (by decide) (by decide) (by decide), row 140 (by decide) (by decide) (by decide) (by decide) (by decide) (by decide) (by decide)]
    exact na
  · have z0 : g 35 13 = 0 := by
      have : (SNK g1).1 = 0 := z
      rw [ksn] at this; exact this
    have := D z0
    unfold DBD DCK DSL DNM DTK at this ⊢
    rw [kr 37 (by decide), kr 38 (by decide), kr 39 (by decide), kr 40 (by decide), kr 41 (by decide), kr 42 (by decide), kr 43 (by decide), kr 44 (by decide), kr 45 (by decide), kr 55 (by decide), kr 56 (by decide), k4, k5,
      row 142 (by decide) (by decide) (by decide) (by decide) (by decide) (by decide) (by decide), row 143 (by decide) (by decide) (by decide) (by decide) (by decide) (by decide) (by decide), row 145 (by decide) (by decide) (by decide) (by decide) (by decide) (by decide) (by decide), row 146 (by decide) (by decide) (by decide) (by decide) (by decide) (by decide) (by decide), row 148 (by decide) (by decide) (by decide) (by decide) (by decide) (by decide) (by decide), row 149 (by decide) (by decide) (by decide) (by decide) (by decide) (by decide) (by decide), row 150 (by decide) (by decide) (by decide) (by decide) (by decide) (by decide) (by decide), row 151 (by decide) (by decide) (by decide) (by decide) (by decide) (by decide) (by decide), row 152 (by decide) (by decide) (by decide) (by decide) (by decide) (by decide) (by decide), row 138 (by decide) (by decide) (by decide) (by decide) (by decide) (by decide) (by decide), row 139 (by decide) (by decide) (by decide) (by decide) (by decide) (by decide) (by decide), row 140 (by decide) (by decide) (by decide) (by decide) (by decide) (by decide) (by decide)]
    exact this
