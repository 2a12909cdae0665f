/-! read: both sides between tellings -/
def ESN (s w : Int × Int) : Prop := 0 ≤ s.1 ∧ s.1 = w.1 ∧ (s.1 ≠ 0 → s.2 = w.2)
theorem ESN.step {bad bad' : Prop} {n p : Int} {s s' w w' : Int × Int} (E : ESN s w) (a : EVT bad n p s s') (b : EVT bad' n p w w') (n0 : 0 < n) (i : s.1 = 0 → (bad ↔ bad')) : ESN s' w' := by
  obtain ⟨e0, e1, e2⟩ := E
  rcases Classical.em (s.1 = 0 ∧ bad) with y | y
  · have y' : w.1 = 0 ∧ bad' := ⟨by rw [← e1]; exact y.1, (i y.1).mp y.2⟩
    rw [a.1 y, b.1 y']
    exact ⟨Int.le_of_lt n0, rfl, fun _ => rfl⟩
  · have y' : ¬ (w.1 = 0 ∧ bad') := fun z => by
      have z1 : s.1 = 0 := by rw [e1]; exact z.1
      exact y ⟨z1, (i z1).mpr z.2⟩
    rw [a.2 y, b.2 y']
    exact ⟨e0, e1, e2⟩
theorem EVT.z {bad : Prop} {n p : Int} {s s' : Int × Int} (a : EVT bad n p s s') (n0 : 0 < n) (z : s'.1 = 0) : s.1 = 0 ∧ ¬ bad ∧ s' = s := by
  rcases Classical.em (s.1 = 0 ∧ bad) with y | y
  · rw [a.1 y] at z
    have z : n = 0 := z
    omega
  · have e := a.2 y
    rw [e] at z
    exact ⟨z, fun b => y ⟨z, b⟩, e⟩
theorem EVT.nz {bad : Prop} {n p : Int} {s s' : Int × Int} (a : EVT bad n p s s') (z : s.1 ≠ 0) : s' = s := a.2 (fun y => z y.1)
def DBD (sd nb : Nat) (g h : aH) : Prop := ∀ j, j < nb → h 142 (12 * sd + j) = g 37 j ∧ h 143 (12 * sd + j) = g 38 j ∧ 0 ≤ g 37 j ∧ g 37 j ≤ 3 ∧ 0 ≤ g 38 j ∧ g 38 j ≤ 9
def DCK (sd nc : Nat) (g h : aH) : Prop := ∀ j, j < nc → h 145 (9 * sd + j) = g 39 j ∧ h 146 (9 * sd + j) = g 40 j ∧ 1 ≤ g 39 j ∧ g 39 j ≤ 12 ∧ -30 ≤ g 40 j ∧ g 40 j ≤ 30
def DSL (sd ns nb : Nat) (g h : aH) : Prop := ∀ j, j < ns → (h 148 (12 * sd + j) = g 41 j ∧ 0 ≤ g 41 j ∧ g 41 j < (nb : Int)) ∧ (h 149 (12 * sd + j) = g 42 j ∧ h 150 (12 * sd + j) = g 43 j ∧ h 151 (12 * sd + j) = g 44 j ∧ h 152 (12 * sd + j) = g 45 j) ∧ (0 ≤ g 42 j ∧ g 42 j ≤ 9) ∧ (g 43 j = -2 ∨ 0 ≤ g 43 j ∧ g 43 j ≤ 399) ∧ (0 ≤ g 44 j ∧ g 44 j ≤ 9) ∧ (0 ≤ g 45 j ∧ g 45 j ≤ 9)
def DNM (M nb : Nat) (g h : aH) : Prop := g 35 4 = (M : Int) ∧ (∀ i, i < M → h 138 i = g 55 i ∧ ((h 139 i = 0 ∧ h 140 i = g 56 i ∧ 0 ≤ g 56 i ∧ g 56 i < (nb : Int)) ∨ (h 139 i = 1 ∧ g 56 i = -1))) ∧ ∀ i j, i < j → j < M → g 55 i ≠ g 55 j
def DTK (ns : Nat) (g : aH) : Prop := ∃ m : Nat, g 35 5 = (m : Int) ∧ m < 4096 ∧ (∀ b, b < 12 → (m.testBit b = true ↔ ∃ s, s < ns ∧ g 41 s = (b : Int))) ∧ ∀ s s', s < ns → s' < ns → g 41 s = g 41 s' → s = s'
/-- a law, told or as usual -/
def RLW (h : aH) (law : Nat) (steps : Nat → Int) (n : Int) (dfl : Prop) : Prop := ((h 153 law = 0 ∧ dfl) ∨ (h 153 law = 1 ∧ RelL h law steps n ∧ h 155 law ≤ h 130 39 ∧ 420 * ((law / 2 : Nat) : Int) ≤ h 154 law)) ∧ okLaw steps n
def dflA (steps : Nat → Int) (n : Int) : Prop := n = 1 ∧ steps 0 = 0
def RDS (K PL : Nat → Nat) (VL : Nat → Int) (sd t : Nat) (g h : aH) : Prop := ∃ nb nc ns M : Nat,
  (RFS K PL VL t [] h ∧ h 130 19 = (sd : Int) ∧ sd < 2 ∧ h 130 12 = 0) ∧ (g 36 14 = (nb : Int) ∧ h 141 sd = (nb : Int) ∧ nb ≤ 12) ∧ (g 36 15 = (nc : Int) ∧ h 144 sd = (nc : Int) ∧ nc ≤ 9) ∧ (g 36 16 = (ns : Int) ∧ h 147 sd = (ns : Int) ∧ ns ≤ 12) ∧
  (h 130 20 = (M : Int) ∧ M = nb + nc + ns ∧ ∀ i, i < M → h 139 i = 0 → 0 ≤ h 140 i) ∧ (∃ cc : Nat, h 130 39 = (cc : Int) ∧ 420 * sd ≤ cc ∧ cc ≤ 420 * sd + t) ∧
  RLW h (2 * sd) (g 50) (g 49 2) (dflH (g 50) (g 49 2)) ∧ RLW h (2 * sd + 1) (g 53) (g 52 2) (dflA (g 53) (g 52 2)) ∧
  ESN (SNK g) (WNK h) ∧ (g 35 13 = 0 → DBD sd nb g h ∧ DCK sd nc g h ∧ DSL sd ns nb g h ∧ DNM M nb g h ∧ DTK ns g)
theorem RLW.mv {h h' : aH} {law : Nat} {steps : Nat → Int} {n : Int} {dfl : Prop} {R D : List Nat} (L : RLW h law steps n dfl) (f : Fr R D h h') (hr : [153, 154, 155, 156, 157].all (fun r => !(R.contains r)) = true) (h39 : 39 ∉ D) : RLW h' law steps n dfl := by
  have k : ∀ r, r ∈ [153, 154, 155, 156, 157] → h' r = h r := by
    intro r hh
    have h1 := List.all_eq_true.mp hr r hh
    refine f.1 r ?_ ?_
    · intro e; subst e; revert hh; decide
    · intro hc
      rw [Bool.not_eq_true', List.contains_eq_mem, decide_eq_false_iff_not] at h1
      exact h1 hc
  unfold RLW RelL at L ⊢
  rw [k 153 (by decide), k 154 (by decide), k 155 (by decide), k 156 (by decide), k 157 (by decide), f.2 39 h39]
  exact L
theorem DNM.kn {M nb : Nat} {g h : aH} (D : DNM M nb g h) (hM : h 130 20 = (M : Int)) (v : Int) : KNW g v ↔ KNR h v := by
  obtain ⟨d1, d2, -⟩ := D
  unfold KNW KNR
  rw [d1, hM]
  refine ⟨fun ⟨i, i1, i2⟩ => ⟨i, i1, ?_⟩, fun ⟨i, i1, i2⟩ => ⟨i, i1, ?_⟩⟩
  · rw [(d2 i (by omega)).1]; exact i2
  · rw [← (d2 i (by omega)).1]; exact i2
/-- a name more -/
theorem DNM.add {M nb nb' : Nat} {g h g' h' : aH} {v w bed srt : Int} (D : DNM M nb g h) (hn : nb ≤ nb') (nk : ¬ KNW g v) (L : NML g v bed g') (R : NMR v M srt w h h') (o : (srt = 0 ∧ w = bed ∧ 0 ≤ bed ∧ bed < (nb' : Int)) ∨ (srt = 1 ∧ bed = -1)) : DNM (M + 1) nb' g' h' := by
  obtain ⟨d1, d2, d3⟩ := D
  obtain ⟨-, -, l⟩ := L
  obtain ⟨l1, l2, l3, l4⟩ := l nk
  obtain ⟨r1, ⟨r2, r3, r4⟩, r5⟩ := R
  rw [d1, Int.toNat_natCast] at l2 l3
  rw [d1] at l1 l4
  refine ⟨by rw [l1]; omega, fun i hi => ?_, fun i j hij hj => ?_⟩
  · by_cases e : i = M
    · subst e
      rw [r2, r3, r4, l2, l3]
      exact ⟨rfl, o⟩
    · obtain ⟨q1, q2⟩ := l4 i (by omega)
      obtain ⟨p1, p2, p3⟩ := r5 i e
      rw [q1, q2, p1, p2, p3]
      refine ⟨(d2 i (by omega)).1, ?_⟩
      rcases (d2 i (by omega)).2 with ⟨a, b, c, d⟩ | z
      · exact Or.inl ⟨a, b, c, by omega⟩
      · exact Or.inr z
  · rw [(l4 i (by omega)).1]
    by_cases e : j = M
    · subst e
      rw [l2]
      exact fun z => nk ⟨i, by rw [d1]; omega, z⟩
    · rw [(l4 j (by omega)).1]
      exact d3 i j hij (by omega)
theorem NMR.na {M : Nat} {h h' : aH} {v w srt : Int} (R : NMR v M srt w h h') (na : ∀ i, i < M → h 139 i = 0 → 0 ≤ h 140 i) (o : srt = 0 → 0 ≤ w) : ∀ i, i < M + 1 → h' 139 i = 0 → 0 ≤ h' 140 i := by
  obtain ⟨r1, ⟨r2, r3, r4⟩, r5⟩ := R
  intro i hi
  by_cases e : i = M
  · subst e
    rw [r3, r4]; exact o
  · obtain ⟨p1, p2, p3⟩ := r5 i e
    rw [p2, p3]
    exact na i (by omega)
theorem RDS.bed {K PL : Nat → Nat} {VL : Nat → Int} {sd t : Nat} {g h g1 h1 : aH} (V : RDS K PL VL sd t g h) (fn : FBD K (g 36 14).toNat t = none) (B : BDS K PL VL t (g 36 14).toNat g g1) (hR : ∀ nb M : Nat, h 141 sd = (nb : Int) → nb < 12 → h 130 20 = (M : Int) → RFS K PL VL (t + 5) [] h1 ∧ BDR PL VL t sd nb M h h1) : RDS K PL VL sd (t + 5) g1 h1 := by
  obtain ⟨nb, nc, ns, M, ⟨R0, hsd, sd2, ho⟩, ⟨b1, b2, b3⟩, ⟨c1, c2, c3⟩, ⟨s1, s2, s3⟩, ⟨hM, eM, na⟩, ⟨cc, q1, q2, q3⟩, L1, L2, E, D⟩ := V
  rw [b1, Int.toNat_natCast] at fn B
  have lt : nb < 12 := by
    rcases Nat.lt_or_ge nb 12 with y | y
    · exact y
    · unfold FBD at fn; rw [if_pos y] at fn; cases fn
  obtain ⟨R1, fr, ⟨m1, m2⟩, ⟨x1, x2, x3⟩, nm, w1, w2, v1, v2, v3⟩ := hR nb M b2 lt hM
  obtain ⟨f5, -, ⟨n1, n2⟩, ⟨y1, y2, y3⟩, nl, u1, u2, e1, e2, e3⟩ := B
  have E1 := E.step e1 v1 (by decide) (fun z => (D z).2.2.2.1.kn hM _)
  have E2 := E1.step e2 v2 (by decide) (fun _ => Iff.rfl)
  have E3 := E2.step e3 v3 (by decide) (fun _ => Iff.rfl)
  refine ⟨nb + 1, nc, ns, M + 1, ⟨R1, by rw [fr.2 19 (by decide)]; exact hsd, sd2, by rw [fr.2 12 (by decide)]; exact ho⟩, ⟨by rw [n1]; omega, by rw [m1]; omega, by omega⟩, ⟨by rw [n2 15 (by decide)]; exact c1, by rw [fr.at 144 (by decide) (by decide)]; exact c2, c3⟩, ⟨by rw [n2 16 (by decide)]; exact s1, by rw [fr.at 147 (by decide) (by decide)]; exact s2, s3⟩, ⟨by rw [nm.1]; omega, by omega, nm.na na (fun _ => by omega)⟩, ⟨cc, by rw [fr.2 39 (by decide)]; exact q1, q2, by omega⟩, ?_, ?_, E3, fun z => ?_⟩
  · rw [f5.at 50 (by decide) (by decide), f5.at 49 (by decide) (by decide)]
    exact L1.mv fr (by decide) (by decide)
  · rw [f5.at 53 (by decide) (by decide), f5.at 52 (by decide) (by decide)]
    exact L2.mv fr (by decide) (by decide)
  · obtain ⟨z3, g3, -⟩ := e3.z (by decide) z
    obtain ⟨z2, g2, -⟩ := e2.z (by decide) z3
    obtain ⟨z1, g1', -⟩ := e1.z (by decide) z2
    obtain ⟨d1, d2, d3, d4, d5⟩ := D z1
    refine ⟨fun j hj => ?_, fun j hj => ?_, fun j hj => ?_, d4.add (by omega) g1' nl nm (Or.inl ⟨rfl, rfl, by omega, by omega⟩), ?_⟩
    · by_cases e : j = nb
      · subst e
        rw [x1, x2, y1, y2]
        have g2 := Classical.byContradiction g2
        have g3 := Classical.byContradiction g3
        exact ⟨rfl, rfl, g2.1, g2.2, g3.1, g3.2⟩
      · rw [(x3 _ (by omega)).1, (x3 _ (by omega)).2, (y3 j e).1, (y3 j e).2]
        exact d1 j (by omega)
    · rw [fr.at 145 (by decide) (by decide), fr.at 146 (by decide) (by decide), f5.at 39 (by decide) (by decide), f5.at 40 (by decide) (by decide)]
      exact d2 j hj
    · rw [fr.at 148 (by decide) (by decide), fr.at 149 (by decide) (by decide), fr.at 150 (by decide) (by decide), fr.at 151 (by decide) (by decide), fr.at 152 (by decide) (by decide), f5.at 41 (by decide) (by decide), f5.at 42 (by decide) (by decide), f5.at 43 (by decide) (by decide), f5.at 44 (by decide) (by decide), f5.at 45 (by decide) (by decide)]
      obtain ⟨⟨p1, p2, p3⟩, p4⟩ := d3 j hj
      exact ⟨⟨p1, p2, by omega⟩, p4⟩
    · unfold DTK at d5 ⊢
      rw [f5.2 5 (by decide), f5.at 41 (by decide) (by decide)]
      exact d5
theorem RDS.clock {K PL : Nat → Nat} {VL : Nat → Int} {sd t : Nat} {g h g1 h1 : aH} (V : RDS K PL VL sd t g h) (fn : FCK K (g 36 15).toNat t = none) (B : CKS K PL VL t (g 36 15).toNat g g1) (hR : ∀ nc M : Nat, h 144 sd = (nc : Int) → nc < 9 → h 130 20 = (M : Int) → RFS K PL VL (t + (LCK K t).length) [] h1 ∧ CKR K PL VL t sd nc M h h1) : RDS K PL VL sd (t + (LCK K t).length) g1 h1 := by
  obtain ⟨nb, nc, ns, M, ⟨R0, hsd, sd2, ho⟩, ⟨b1, b2, b3⟩, ⟨c1, c2, c3⟩, ⟨s1, s2, s3⟩, ⟨hM, eM, na⟩, ⟨cc, q1, q2, q3⟩, L1, L2, E, D⟩ := V
  rw [c1, Int.toNat_natCast] at fn B
  have lt : nc < 9 := by
    rcases Nat.lt_or_ge nc 9 with y | y
    · exact y
    · unfold FCK at fn; rw [if_pos y] at fn; cases fn
  obtain ⟨R1, fr, ⟨m1, m2⟩, ⟨x1, x2, x3⟩, nm, w1, w2, v1, v2, v3⟩ := hR nc M c2 lt hM
  obtain ⟨f5, -, ⟨n1, n2⟩, ⟨y1, y2, y3⟩, nl, u1, u2, e1, e2, e3⟩ := B
  have E1 := E.step e1 v1 (by decide) (fun z => (D z).2.2.2.1.kn hM _)
  have E2 := E1.step e2 v2 (by decide) (fun _ => Iff.rfl)
  have E3 := E2.step e3 v3 (by decide) (fun _ => Iff.rfl)
  refine ⟨nb, nc + 1, ns, M + 1, ⟨R1, by rw [fr.2 19 (by decide)]; exact hsd, sd2, by rw [fr.2 12 (by decide)]; exact ho⟩, ⟨by rw [n2 14 (by decide)]; exact b1, by rw [fr.at 141 (by decide) (by decide)]; exact b2, b3⟩, ⟨by rw [n1]; omega, by rw [m1]; omega, by omega⟩, ⟨by rw [n2 16 (by decide)]; exact s1, by rw [fr.at 147 (by decide) (by decide)]; exact s2, s3⟩, ⟨by rw [nm.1]; omega, by omega, nm.na na (fun z => by omega)⟩, ⟨cc, by rw [fr.2 39 (by decide)]; exact q1, q2, by omega⟩, ?_, ?_, E3, fun z => ?_⟩
  · rw [f5.at 50 (by decide) (by decide), f5.at 49 (by decide) (by decide)]
    exact L1.mv fr (by decide) (by decide)
  · rw [f5.at 53 (by decide) (by decide), f5.at 52 (by decide) (by decide)]
    exact L2.mv fr (by decide) (by decide)
  · obtain ⟨z3, g3, -⟩ := e3.z (by decide) z
    obtain ⟨z2, g2, -⟩ := e2.z (by decide) z3
    obtain ⟨z1, g1', -⟩ := e1.z (by decide) z2
    obtain ⟨d1, d2, d3, d4, d5⟩ := D z1
    refine ⟨fun j hj => ?_, fun j hj => ?_, fun j hj => ?_, d4.add (Nat.le_refl _) g1' nl nm (Or.inr ⟨rfl, rfl⟩), ?_⟩
    · rw [fr.at 142 (by decide) (by decide), fr.at 143 (by decide) (by decide), f5.at 37 (by decide) (by decide), f5.at 38 (by decide) (by decide)]
      exact d1 j hj
    · by_cases e : j = nc
      · subst e
        rw [x1, x2, y1, y2]
        have g2 := Classical.byContradiction g2
        refine ⟨rfl, rfl, g2.1, g2.2, ?_⟩
        by_cases k9 : K (t + 3) = 9
        · have g3 := Classical.byContradiction (fun y => g3 ⟨Or.inl k9, y⟩)
          rw [if_pos k9]; omega
        · rw [if_neg k9]
          by_cases k10 : K (t + 3) = 10
          · have g3 := Classical.byContradiction (fun y => g3 ⟨Or.inr k10, y⟩)
            rw [if_pos k10]; omega
          · rw [if_neg k10]; omega
      · rw [(x3 _ (by omega)).1, (x3 _ (by omega)).2, (y3 j e).1, (y3 j e).2]
        exact d2 j (by omega)
    · rw [fr.at 148 (by decide) (by decide), fr.at 149 (by decide) (by decide), fr.at 150 (by decide) (by decide), fr.at 151 (by decide) (by decide), fr.at 152 (by decide) (by decide), f5.at 41 (by decide) (by decide), f5.at 42 (by decide) (by decide), f5.at 43 (by decide) (by decide), f5.at 44 (by decide) (by decide), f5.at 45 (by decide) (by decide)]
      exact d3 j hj
    · unfold DTK at d5 ⊢
      rw [f5.2 5 (by decide), f5.at 41 (by decide) (by decide)]
      exact d5
