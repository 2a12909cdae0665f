/-! read: the class is told a bed, a clock, a sleeper -/
/-- how names are, a name of a bed (-1: of none) told -/
def NML (g : aH) (v bed : Int) (g' : aH) : Prop := NMC g' ∧ g' 35 4 ≤ g 35 4 + 1 ∧ (¬ KNW g v → g' 35 4 = g 35 4 + 1 ∧ g' 55 (g 35 4).toNat = v ∧ g' 56 (g 35 4).toNat = bed ∧ ∀ j : Nat, (j : Int) < g 35 4 → g' 55 j = g 55 j ∧ g' 56 j = g 56 j)
theorem NML.mv {g g1 g' g2 : aH} {v bed : Int} (M : NML g v bed g') (a4 : g1 35 4 = g 35 4) (a55 : g1 55 = g 55) (a56 : g1 56 = g 56) (b4 : g2 35 4 = g' 35 4) (b55 : g2 55 = g' 55) (b56 : g2 56 = g' 56) : NML g1 v bed g2 := by
  unfold NML NMC KNW at M ⊢
  rw [a4, a55, a56, b4, b55, b56]
  exact M
def FBD (K : Nat → Nat) (nb t : Nat) : Option (Nat × Nat) := if 12 ≤ nb then some (2, t) else FS K [7, 18, 19, 19, 20] t
def BDS (K PL : Nat → Nat) (VL : Nat → Int) (t nb : Nat) (g g' : aH) : Prop := F5 [36, 37, 38, 55, 56] [4, 9, 10, 13, 14] g g' ∧ CSQ K PL VL (t + 5) g' ∧ (g' 36 14 = (nb : Int) + 1 ∧ ∀ j, j ≠ 14 → g' 36 j = g 36 j) ∧
  (g' 37 nb = VL (t + 2) ∧ g' 38 nb = VL (t + 3) ∧ ∀ j, j ≠ nb → g' 37 j = g 37 j ∧ g' 38 j = g 38 j) ∧ NML g (VL (t + 1)) nb g' ∧
  ∃ s1 s2, EVT (KNW g (VL (t + 1))) 3 (PL (t + 1) : Int) (SNK g) s1 ∧ EVT (¬ (0 ≤ VL (t + 2) ∧ VL (t + 2) ≤ 3)) 5 (PL (t + 2) : Int) s1 s2 ∧ EVT (¬ (0 ≤ VL (t + 3) ∧ VL (t + 3) ≤ 9)) 5 (PL (t + 3) : Int) s2 (SNK g')
theorem c_tellBed {N : Nat} {C : Int → aH → Prop} {K PL : Nat → Nat} {VL : Nat → Int} {t nb : Nat} {g : aH} (Q : TOKP K PL VL) (S : CSQ K PL VL t g) (kt : K t = 7) (M : NMC g) (lt33 : nb < 12 → g 35 4 < 33) (hn : g 36 14 = (nb : Int)) (c1 : FBD K nb t = none → ∀ g', BDS K PL VL t nb g g' → C 1 g') (c0 : ∀ n q, FBD K nb t = some (n, q) → ∀ g', Fr RDL [] g g' → FLG PL n q g' → C 0 g') : WI N 45 0 [(0, .inr (.inr 35))] g C := by
  have t4 := S.2.2.1
  unfold FBD at c1 c0
  refine w_45_0 ?_
  rw [hn]
  refine ⟨fun lt => ?_, fun ge => c_fail (n := 2) S (fun g' f e => ck_t0 (c0 2 t (if_pos (by omega)) g' (f.fr (by decide) (by decide)) e))⟩
  rw [if_neg (by omega)] at c1 c0
  refine c_goOn S (by omega) (fun l0 g1 f1 s1 => ⟨fun z => absurd z (by decide), fun _ => ?_⟩) (fun ge g1 f1 e1 => ⟨fun _ => ck_t0 (c0 2 t (FS_2 kt ge) g1 (f1.fr (by decide) (by decide)) e1), fun z => absurd rfl z⟩)
  rw [FS_3 kt l0] at c1 c0
  have M1 : NMC g1 := by
    unfold NMC at M ⊢
    rw [f1.2 4 (by decide), f1.at 55 (by decide) (by decide), f1.at 56 (by decide) (by decide)]; exact M
  refine c_takeNewName Q s1 M1 (by rw [f1.2 4 (by decide)]; exact lt33 (by omega)) (by omega) (fun k1 l1 g2 A => ⟨fun z => absurd z (by decide), fun _ => ?_⟩) (fun n q z g2 f2 e2 => ⟨fun _ => ck_t0 (c0 n q (FS_h z) g2 ((f1.fr (by decide) (by decide)).trans (f2.fr (by decide) (by decide))) e2), fun z => absurd rfl z⟩)
  rw [FS_3 k1 l1] at c1 c0
  obtain ⟨f2, s2, v2, n2a, n2b, n2c⟩ := A
  have F2 : Fr RDL [] g g2 := (f1.fr (by decide) (by decide)).trans (f2.fr (by decide) (by decide))
  refine c_takeInt Q s2 (fun k2 l2 g3 I => ⟨fun _ => ck_ix (by omega) ?_, fun z => absurd (by decide) z⟩) (fun n q z g3 f3 e3 => ⟨fun z => absurd rfl z, fun _ => ck_t0 (c0 n q (FS_h z) g3 (F2.trans (f3.fr (by decide) (by decide))) e3)⟩)
  rw [FS_3 k2 l2] at c1 c0
  rw [Int.toNat_natCast]
  obtain ⟨f3, s3, i3, v3⟩ := I
  have fa3 : F5 [37] [] g3 (am_up g3 37 nb (g3 35 10)) := F5.rfl.up (by decide) (by decide)
  have F3 : Fr RDL [] g (am_up g3 37 nb (g3 35 10)) := F2.trans ((f3.fr (by decide) (by decide)).trans (fa3.fr (by decide) (by decide)))
  refine c_takeInt Q (s3.mv fa3 (by decide) (by decide)) (fun k3 l3 g4 J => ⟨fun _ => ck_ix (by omega) ?_, fun z => absurd (by decide) z⟩) (fun n q z g4 f4 e4 => ⟨fun z => absurd rfl z, fun _ => ck_t0 (c0 n q (FS_h z) g4 (F3.trans (f4.fr (by decide) (by decide))) e4)⟩)
  rw [FS_3 k3 l3] at c1 c0
  obtain ⟨f4, s4, i4, v4⟩ := J
  have e36 : ∀ j, g4 36 j = g 36 j := fun j => by
    rw [f4.at 36 (by decide) (by decide), fa3.at 36 (by decide) (by decide), f3.at 36 (by decide) (by decide), f2.at 36 (by decide) (by decide), f1.at 36 (by decide) (by decide)]
  rw [e36 14, hn]
  have fa4 : F5 [36, 38] [] g4 (am_up (am_up g4 38 nb (g4 35 10)) 36 14 ((nb : Int) + 1)) := (F5.rfl.up (by decide) (by decide)).up (by decide) (by decide)
  have F4 : Fr RDL [] g (am_up (am_up g4 38 nb (g4 35 10)) 36 14 ((nb : Int) + 1)) := F3.trans ((f4.fr (by decide) (by decide)).trans (fa4.fr (by decide) (by decide)))
  refine ck_rg (by omega) (c_take (s4.mv fa4 (by decide) (by decide)) (by decide) (fun k4 l4 g5 f5 s5 => ck_t1 (c1 ?_ g5 ?_)) (fun n q z g5 f5 e5 => ck_t0 (c0 n q z g5 (F4.trans (f5.fr (by decide) (by decide))) e5)))
  · rw [FS_3 k4 l4]; rfl
  · refine ⟨?_, s5, ⟨?_, fun j hj => ?_⟩, ⟨?_, ?_, fun j hj => ⟨?_, ?_⟩⟩, ?_, SNK g2, SNK g3, ?_, ?_, ?_⟩
    · exact (f1.mono (by decide) (by decide)).trans ((f2.mono (by decide) (by decide)).trans ((f3.mono (by decide) (by decide)).trans ((fa3.mono (by decide) (by decide)).trans ((f4.mono (by decide) (by decide)).trans ((fa4.mono (by decide) (by decide)).trans (f5.mono (by decide) (by decide)))))))
    · rw [f5.at 36 (by decide) (by decide), up_same]
    · rw [f5.at 36 (by decide) (by decide), up_ne hj, up_row (by decide)]; exact e36 j
    · rw [f5.at 37 (by decide) (by decide), up_row (by decide), up_row (by decide), f4.at 37 (by decide) (by decide), up_same, i3]
    · rw [f5.at 38 (by decide) (by decide), up_row (by decide), up_same, i4]
    · rw [f5.at 37 (by decide) (by decide), up_row (by decide), up_row (by decide), f4.at 37 (by decide) (by decide), up_ne hj, f3.at 37 (by decide) (by decide), f2.at 37 (by decide) (by decide), f1.at 37 (by decide) (by decide)]
    · rw [f5.at 38 (by decide) (by decide), up_row (by decide), up_ne hj, f4.at 38 (by decide) (by decide), up_row (by decide), f3.at 38 (by decide) (by decide), f2.at 38 (by decide) (by decide), f1.at 38 (by decide) (by decide)]
    · refine NML.mv (g := g1) (g' := g2) ⟨n2a, n2b, n2c⟩ (f1.2 4 (by decide)).symm (f1.at 55 (by decide) (by decide)).symm (f1.at 56 (by decide) (by decide)).symm ?_ ?_ ?_
      · rw [f5.2 4 (by decide), fa4.2 4 (by decide), f4.2 4 (by decide), fa3.2 4 (by decide), f3.2 4 (by decide)]
      · rw [f5.at 55 (by decide) (by decide), fa4.at 55 (by decide) (by decide), f4.at 55 (by decide) (by decide), fa3.at 55 (by decide) (by decide), f3.at 55 (by decide) (by decide)]
      · rw [f5.at 56 (by decide) (by decide), fa4.at 56 (by decide) (by decide), f4.at 56 (by decide) (by decide), fa3.at 56 (by decide) (by decide), f3.at 56 (by decide) (by decide)]
    · rw [SNK_F5 f1 (by decide) (by decide)] at v2
      have : KNW g1 (VL (t + 1)) = KNW g (VL (t + 1)) := by
        unfold KNW
        rw [f1.2 4 (by decide), f1.at 55 (by decide) (by decide)]
      rw [this] at v2
      exact v2
    · exact v3
    · rw [SNK_F5 fa3 (by decide) (by decide)] at v4
      rw [SNK_F5 f5 (by decide) (by decide), SNK_F5 fa4 (by decide) (by decide)]
      exact v4
/-- a clock's TOKENS -/
def LCK (K : Nat → Nat) (t : Nat) : List Nat := if K (t + 3) = 9 ∨ K (t + 3) = 10 then [8, 18, 19, K (t + 3), 19, 20] else [8, 18, 19, 20]
def FCK (K : Nat → Nat) (nc t : Nat) : Option (Nat × Nat) := if 9 ≤ nc then some (2, t) else FS K (LCK K t) t
def CKS (K PL : Nat → Nat) (VL : Nat → Int) (t nc : Nat) (g g' : aH) : Prop := F5 [36, 39, 40, 55, 56] [4, 9, 10, 13, 14] g g' ∧ CSQ K PL VL (t + (LCK K t).length) g' ∧ (g' 36 15 = (nc : Int) + 1 ∧ ∀ j, j ≠ 15 → g' 36 j = g 36 j) ∧
  (g' 39 nc = VL (t + 2) ∧ (g' 40 nc = if K (t + 3) = 9 then -(VL (t + 4)) else if K (t + 3) = 10 then VL (t + 4) else 0) ∧ ∀ j, j ≠ nc → g' 39 j = g 39 j ∧ g' 40 j = g 40 j) ∧ NML g (VL (t + 1)) (-1) g' ∧
  ∃ s1 s2, EVT (KNW g (VL (t + 1))) 3 (PL (t + 1) : Int) (SNK g) s1 ∧ EVT (¬ (1 ≤ VL (t + 2) ∧ VL (t + 2) ≤ 12)) 5 (PL (t + 2) : Int) s1 s2 ∧ EVT ((K (t + 3) = 9 ∨ K (t + 3) = 10) ∧ ¬ (0 ≤ VL (t + 4) ∧ VL (t + 4) ≤ 30)) 5 (PL (t + 4) : Int) s2 (SNK g')
theorem c_tellClock {N : Nat} {C : Int → aH → Prop} {K PL : Nat → Nat} {VL : Nat → Int} {t nc : Nat} {g : aH} (Q : TOKP K PL VL) (S : CSQ K PL VL t g) (kt : K t = 8) (M : NMC g) (lt33 : nc < 9 → g 35 4 < 33) (hn : g 36 15 = (nc : Int)) (c1 : FCK K nc t = none → ∀ g', CKS K PL VL t nc g g' → C 1 g') (c0 : ∀ n q, FCK K nc t = some (n, q) → ∀ g', Fr RDL [] g g' → FLG PL n q g' → C 0 g') : WI N 53 0 [(0, .inr (.inr 35))] g C := by
  have t4 := S.2.2.1
  unfold FCK at c1 c0
  refine w_53_0 ?_
  rw [hn]
  refine ⟨fun lt => ?_, fun ge => c_fail (n := 2) S (fun g' f e => ck_t0 (c0 2 t (if_pos (by omega)) g' (f.fr (by decide) (by decide)) e))⟩
  rw [if_neg (by omega)] at c1 c0
  obtain ⟨R, hR⟩ : ∃ R, LCK K t = 8 :: 18 :: 19 :: R ∧ R = if K (t + 3) = 9 ∨ K (t + 3) = 10 then [K (t + 3), 19, 20] else [20] := by
    unfold LCK
    by_cases c : K (t + 3) = 9 ∨ K (t + 3) = 10
    · rw [if_pos c, if_pos c]; exact ⟨_, rfl, rfl⟩
    · rw [if_neg c, if_neg c]; exact ⟨_, rfl, rfl⟩
  have hlen : (LCK K t).length = 3 + R.length := by rw [hR.1]; simp; omega
  rw [hR.1] at c1 c0
  refine c_goOn S (by omega) (fun l0 g1 f1 s1 => ⟨fun z => absurd z (by decide), fun _ => ?_⟩) (fun ge g1 f1 e1 => ⟨fun _ => w_53_24 (ck_t0 (c0 2 t (FS_2 kt ge) g1 (f1.fr (by decide) (by decide)) e1)), fun z => absurd rfl z⟩)
  rw [FS_3 kt l0] at c1 c0
  have M1 : NMC g1 := by
    unfold NMC at M ⊢
    rw [f1.2 4 (by decide), f1.at 55 (by decide) (by decide), f1.at 56 (by decide) (by decide)]; exact M
  refine c_takeNewName Q s1 M1 (by rw [f1.2 4 (by decide)]; exact lt33 (by omega)) (by decide) (fun k1 l1 g2 A => ⟨fun z => absurd z (by decide), fun _ => ?_⟩) (fun n q z g2 f2 e2 => ⟨fun _ => w_53_24 (ck_t0 (c0 n q (FS_h z) g2 ((f1.fr (by decide) (by decide)).trans (f2.fr (by decide) (by decide))) e2)), fun z => absurd rfl z⟩)
  rw [FS_3 k1 l1] at c1 c0
  obtain ⟨f2, s2, v2, n2a, n2b, n2c⟩ := A
  have F2 : Fr RDL [] g g2 := (f1.fr (by decide) (by decide)).trans (f2.fr (by decide) (by decide))
  refine c_takeInt Q s2 (fun k2 l2 g3 I => ⟨fun _ => ck_ix (by omega) (ck_ix (by omega) ?_), fun z => absurd (by decide) z⟩) (fun n q z g3 f3 e3 => ⟨fun z => absurd rfl z, fun _ => w_53_24 (ck_t0 (c0 n q (FS_h z) g3 (F2.trans (f3.fr (by decide) (by decide))) e3))⟩)
  rw [FS_3 k2 l2] at c1 c0
  rw [Int.toNat_natCast]
  obtain ⟨f3, s3, i3, v3⟩ := I
  have fa3 : F5 [39, 40] [] g3 (am_up (am_up g3 39 nc (g3 35 10)) 40 nc 0) := (F5.rfl.up (by decide) (by decide)).up (by decide) (by decide)
  have F3 : Fr RDL [] g (am_up (am_up g3 39 nc (g3 35 10)) 40 nc 0) := F2.trans ((f3.fr (by decide) (by decide)).trans (fa3.fr (by decide) (by decide)))
  have s3' := s3.mv fa3 (by decide) (by decide)
  -- the semicolon
  have fin : ∀ g4, F5 [40] [9, 10, 13, 14] (am_up (am_up g3 39 nc (g3 35 10)) 40 nc 0) g4 → CSQ K PL VL (t + 3 + (R.length - 1)) g4 → FS K R (t + 3) = FS K [20] (t + 3 + (R.length - 1)) → 1 ≤ R.length → (g4 40 nc = if K (t + 3) = 9 then -(VL (t + 4)) else if K (t + 3) = 10 then VL (t + 4) else 0) → (∀ j, j ≠ nc → g4 40 j = g 40 j) → EVT ((K (t + 3) = 9 ∨ K (t + 3) = 10) ∧ ¬ (0 ≤ VL (t + 4) ∧ VL (t + 4) ≤ 30)) 5 (PL (t + 4) : Int) (SNK g3) (SNK g4) → WI N 53 75 [(0, .inr (.inr 35))] g4 C := by
    intro g4 f4 s4 er lR sh1 sh2 ev
    have e36 : ∀ j, g4 36 j = g 36 j := fun j => by
      rw [f4.at 36 (by decide) (by decide), fa3.at 36 (by decide) (by decide), f3.at 36 (by decide) (by decide), f2.at 36 (by decide) (by decide), f1.at 36 (by decide) (by decide)]
    refine w_53_75 ?_
    rw [e36 15, hn]
    have fa4 : F5 [36] [] g4 (am_up g4 36 15 ((nc : Int) + 1)) := F5.rfl.up (by decide) (by decide)
    have F4 : Fr RDL [] g (am_up g4 36 15 ((nc : Int) + 1)) := F3.trans ((f4.fr (by decide) (by decide)).trans (fa4.fr (by decide) (by decide)))
    refine ck_rg (by omega) (c_take (s4.mv fa4 (by decide) (by decide)) (by decide) (fun k4 l4 g5 f5 s5 => ck_t1 (c1 ?_ g5 ?_)) (fun n q z g5 f5 e5 => ck_t0 (c0 n q ?_ g5 (F4.trans (f5.fr (by decide) (by decide))) e5)))
    · show FS K R (t + 3) = none
      rw [er, FS_3 k4 l4]; rfl
    · refine ⟨?_, ?_, ⟨?_, fun j hj => ?_⟩, ⟨?_, ?_, fun j hj => ⟨?_, ?_⟩⟩, ?_, SNK g2, SNK g3, ?_, ?_, ?_⟩
      · exact (f1.mono (by decide) (by decide)).trans ((f2.mono (by decide) (by decide)).trans ((f3.mono (by decide) (by decide)).trans ((fa3.mono (by decide) (by decide)).trans ((f4.mono (by decide) (by decide)).trans ((fa4.mono (by decide) (by decide)).trans (f5.mono (by decide) (by decide)))))))
      · rw [hlen, show t + (3 + R.length) = t + 3 + (R.length - 1) + 1 by omega]; exact s5
      · rw [f5.at 36 (by decide) (by decide), up_same]
      · rw [f5.at 36 (by decide) (by decide), up_ne hj]; exact e36 j
      · rw [f5.at 39 (by decide) (by decide), up_row (by decide), f4.at 39 (by decide) (by decide), up_row (by decide), up_same, i3]
      · rw [f5.at 40 (by decide) (by decide), up_row (by decide)]; exact sh1
      · rw [f5.at 39 (by decide) (by decide), up_row (by decide), f4.at 39 (by decide) (by decide), up_row (by decide), up_ne hj, f3.at 39 (by decide) (by decide), f2.at 39 (by decide) (by decide), f1.at 39 (by decide) (by decide)]
      · rw [f5.at 40 (by decide) (by decide), up_row (by decide)]; exact sh2 j hj
      · refine NML.mv (g := g1) (g' := g2) ⟨n2a, n2b, n2c⟩ (f1.2 4 (by decide)).symm (f1.at 55 (by decide) (by decide)).symm (f1.at 56 (by decide) (by decide)).symm ?_ ?_ ?_
        · rw [f5.2 4 (by decide), fa4.2 4 (by decide), f4.2 4 (by decide), fa3.2 4 (by decide), f3.2 4 (by decide)]
        · rw [f5.at 55 (by decide) (by decide), fa4.at 55 (by decide) (by decide), f4.at 55 (by decide) (by decide), fa3.at 55 (by decide) (by decide), f3.at 55 (by decide) (by decide)]
        · rw [f5.at 56 (by decide) (by decide), fa4.at 56 (by decide) (by decide), f4.at 56 (by decide) (by decide), fa3.at 56 (by decide) (by decide), f3.at 56 (by decide) (by decide)]
      · rw [SNK_F5 f1 (by decide) (by decide)] at v2
        have : KNW g1 (VL (t + 1)) = KNW g (VL (t + 1)) := by
          unfold KNW
          rw [f1.2 4 (by decide), f1.at 55 (by decide) (by decide)]
        rw [this] at v2
        exact v2
      · exact v3
      · rw [SNK_F5 f5 (by decide) (by decide), SNK_F5 fa4 (by decide) (by decide)]
        exact ev
    · show FS K R (t + 3) = some (n, q)
      rw [er]; exact z
  have g40 : ∀ j, j ≠ nc → am_up (am_up g3 39 nc (g3 35 10)) 40 nc 0 40 j = g 40 j := fun j hj => by
    rw [up_ne hj, up_row (by decide), f3.at 40 (by decide) (by decide), f2.at 40 (by decide) (by decide), f1.at 40 (by decide) (by decide)]
  -- fast or slow
  have way : (K (t + 3) = 9 ∨ K (t + 3) = 10) → WI N 53 49 [(0, .inr (.inr 35)), (1, .inl (nc : Int)), (2, .inl (K (t + 3) : Int))] (am_up (am_up g3 39 nc (g3 35 10)) 40 nc 0) C := by
    intro o
    have eR : R = [K (t + 3), 19, 20] := by rw [hR.2, if_pos o]
    rw [eR] at c1 c0 fin
    refine w_53_49 (c_goOn s3' (show K (t + 3) < 31 by omega) (fun l3 g4 f4 s4 => ⟨fun z => absurd z (by decide), fun _ => ?_⟩) (fun ge g4 f4 e4 => ⟨fun _ => w_53_58 (ck_t0 (c0 2 (t + 3) (FS_2 rfl ge) g4 (F3.trans (f4.fr (by decide) (by decide))) e4)), fun z => absurd rfl z⟩))
    rw [show t + 1 + 1 + 1 = t + 3 by omega, FS_3 rfl l3] at c1 c0
    have F4 : Fr RDL [] g g4 := F3.trans (f4.fr (by decide) (by decide))
    refine c_takeInt Q s4 (fun k4 l4 g5 I5 => ⟨fun _ => ?_, fun z => absurd (by decide) z⟩) (fun n q z g5 f5 e5 => ⟨fun z => absurd rfl z, fun _ => w_53_58 (ck_t0 (c0 n q (FS_h z) g5 (F4.trans (f5.fr (by decide) (by decide))) e5))⟩)
    obtain ⟨f5, s5, i5, v5⟩ := I5
    have go : ∀ v : Int, (v = if K (t + 3) = 9 then -(VL (t + 4)) else if K (t + 3) = 10 then VL (t + 4) else 0) → WI N 53 75 [(0, .inr (.inr 35))] (am_up g5 40 nc v) C := by
      intro v ev
      have fa5 : F5 [40] [] g5 (am_up g5 40 nc v) := F5.rfl.up (by decide) (by decide)
      refine fin _ ((f4.mono (by decide) (by decide)).trans ((f5.mono (by decide) (by decide)).trans (fa5.mono (by decide) (by decide)))) (s5.mv fa5 (by decide) (by decide)) ?_ (show 1 ≤ 3 by decide) (by rw [up_same]; exact ev) (fun j hj => ?_) ?_
      · rw [FS_3 rfl l3, FS_3 k4 l4]; rfl
      · rw [up_ne hj, f5.at 40 (by decide) (by decide), f4.at 40 (by decide) (by decide)]; exact g40 j hj
      · rw [SNK_F5 fa5 (by decide) (by decide)]
        rw [SNK_F5 f4 (by decide) (by decide), SNK_F5 fa3 (by decide) (by decide)] at v5
        exact ⟨fun z => v5.1 ⟨z.1, z.2.2⟩, fun z => v5.2 (fun y => z ⟨y.1, o, y.2⟩)⟩
    have vr := Q.2.2.1 _ k4
    rw [i5, Int.toNat_natCast]
    refine ⟨fun n9 => ck_ix (by omega) (go _ ?_), fun y9 => ck_rg (by omega) (ck_ix (by omega) (go _ ?_))⟩
    · have n9' : K (t + 3) ≠ 9 := fun z => n9 (by rw [z]; rfl)
      rw [if_neg n9', if_pos (o.resolve_left n9')]
    · rw [if_pos (by have := Classical.byContradiction y9; omega)]
  refine c_kind s3' ⟨fun e9 => way (Or.inl (by have e9 : ((K (t + 3) : Nat) : Int) = 9 := e9; omega)), fun n9 => ⟨fun n10 => ?_, fun y10 => way (Or.inr (by have y10 : ((K (t + 3) : Nat) : Int) = 10 := Classical.byContradiction y10; omega))⟩⟩
  have no : ¬ (K (t + 3) = 9 ∨ K (t + 3) = 10) := fun z => by
    rcases z with z | z
    · exact n9 (by rw [z]; rfl)
    · exact n10 (by rw [z]; rfl)
  have eR : R = [20] := by rw [hR.2, if_neg no]
  rw [eR] at fin
  refine fin _ F5.rfl s3' rfl (by decide) ?_ g40 ?_
  · rw [up_same, if_neg (fun z => no (Or.inl z)), if_neg (fun z => no (Or.inr z))]
  · rw [SNK_F5 fa3 (by decide) (by decide)]
    exact EVT.no (fun z => no z.1)
