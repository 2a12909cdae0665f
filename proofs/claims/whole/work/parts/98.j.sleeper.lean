/-! read: the class is told a sleeper -/
def LSL (K : Nat → Nat) (t : Nat) : List Nat := [11, 18, 12, 18, 4, 19] ++ (DTY K (t + 6) ++ [20])
def FSL (K : Nat → Nat) (ns t : Nat) : Option (Nat × Nat) := if 12 ≤ ns then some (2, t) else FS K (LSL K t) t
def SLPS (K PL : Nat → Nat) (VL : Nat → Int) (t ns : Nat) (g g' : aH) : Prop := F5 [36, 41, 42, 43, 44, 45, 55, 56] [4, 5, 9, 10, 13, 14] g g' ∧ CSQ K PL VL (t + (LSL K t).length) g' ∧ (g' 36 16 = (ns : Int) + 1 ∧ ∀ j, j ≠ 16 → g' 36 j = g 36 j) ∧
  (∀ j, j ≠ ns → g' 41 j = g 41 j ∧ g' 42 j = g 42 j ∧ g' 43 j = g 43 j ∧ g' 44 j = g 44 j ∧ g' 45 j = g 45 j) ∧
  ∃ (gn : aH) (v : Int) (m m' : Nat) (s1 s2 s3 s4 : Int × Int), NML g (VL (t + 1)) (-1) gn ∧ (g' 35 4 = gn 35 4 ∧ g' 55 = gn 55 ∧ g' 56 = gn 56) ∧ EVT (KNW g (VL (t + 1))) 3 (PL (t + 1) : Int) (SNK g) s1 ∧
    (-1 ≤ v ∧ v < 12) ∧ BDN gn (VL (t + 3)) v ∧ g' 41 ns = v ∧ (g 35 5 = (m : Int) ∧ g' 35 5 = (m' : Int) ∧ m' < 4096) ∧ (v = -1 → m' = m ∧ EVT True 4 (PL (t + 3) : Int) s1 s2) ∧ (v ≠ -1 → (m.testBit v.toNat = true → m' = m ∧ EVT True 3 (PL (t + 3) : Int) s1 s2) ∧ (m.testBit v.toNat = false → m' = m ||| 2 ^ v.toNat ∧ s2 = s1)) ∧
    EVT (¬ (0 ≤ VL (t + 5) ∧ VL (t + 5) ≤ 9)) 5 (PL (t + 5) : Int) s2 s3 ∧ g' 42 ns = VL (t + 5) ∧
    ((K (t + 6) = 13 ∧ g' 43 ns = VL (t + 7) ∧ g' 44 ns = VL (t + 9) ∧ g' 45 ns = 0 ∧ EVT (¬ (0 ≤ VL (t + 7) ∧ VL (t + 7) ≤ 399)) 5 (PL (t + 7) : Int) s3 s4 ∧ EVT (¬ (0 ≤ VL (t + 9) ∧ VL (t + 9) ≤ 9)) 5 (PL (t + 9) : Int) s4 (SNK g')) ∨
     (K (t + 6) = 15 ∧ g' 43 ns = -2 ∧ g' 44 ns = 0 ∧ g' 45 ns = VL (t + 7) ∧ EVT (¬ (0 ≤ VL (t + 7) ∧ VL (t + 7) ≤ 9)) 5 (PL (t + 7) : Int) s3 (SNK g')) ∨
     (K (t + 6) ≠ 13 ∧ K (t + 6) ≠ 15 ∧ g' 43 ns = -2 ∧ g' 44 ns = 0 ∧ g' 45 ns = 0 ∧ SNK g' = s3))
theorem c_tellSleeper {N : Nat} {C : Int → aH → Prop} {K PL : Nat → Nat} {VL : Nat → Int} {t ns m : Nat} {g : aH} (Q : TOKP K PL VL) (S : CSQ K PL VL t g) (kt : K t = 11) (M : NMC g) (lt33 : ns < 12 → g 35 4 < 33) (hm : g 35 5 = (m : Int)) (m4 : m < 4096) (hn : g 36 16 = (ns : Int)) (c1 : FSL K ns t = none → ∀ g', SLPS K PL VL t ns g g' → C 1 g') (c0 : ∀ n q, FSL K ns t = some (n, q) → ∀ g', Fr RDL [] g g' → FLG PL n q g' → C 0 g') : WI N 54 0 [(0, .inr (.inr 35))] g C := by
  have t4 := S.2.2.1
  unfold FSL at c1 c0
  refine w_54_0 ?_
  rw [hn]
  refine ⟨fun lt => ?_, fun ge => c_fail (n := 2) S (fun g' f e => ck_t0 (c0 2 t (if_pos (by omega)) g' (f.fr (by decide) (by decide)) e))⟩
  rw [if_neg (by omega), show LSL K t = 11 :: 18 :: 12 :: 18 :: 4 :: 19 :: (DTY K (t + 6) ++ [20]) from rfl] at c1 c0
  refine c_goOn S (by omega) (fun l0 g1 f1 s1 => ⟨fun z => absurd z (by decide), fun _ => ?_⟩) (fun ge g1 f1 e1 => ⟨fun _ => ck_t0 (c0 2 t (FS_2 kt ge) g1 (f1.fr (by decide) (by decide)) e1), fun z => absurd rfl z⟩)
  rw [FS_3 kt l0] at c1 c0
  have M1 : NMC g1 := by
    unfold NMC at M ⊢
    rw [f1.2 4 (by decide), f1.at 55 (by decide) (by decide), f1.at 56 (by decide) (by decide)]; exact M
  refine c_takeNewName Q s1 M1 (by rw [f1.2 4 (by decide)]; exact lt33 (by omega)) (by decide) (fun k1 l1 g2 A => ⟨fun z => absurd z (by decide), fun _ => ?_⟩) (fun n q z g2 f2 e2 => ⟨fun _ => ck_t0 (c0 n q (FS_h z) g2 ((f1.fr (by decide) (by decide)).trans (f2.fr (by decide) (by decide))) e2), fun z => absurd rfl z⟩)
  rw [FS_3 k1 l1] at c1 c0
  obtain ⟨f2, s2, v2, n2a, n2b, n2c⟩ := A
  have F2 : Fr RDL [] g g2 := (f1.fr (by decide) (by decide)).trans (f2.fr (by decide) (by decide))
  refine c_take s2 (by decide) (fun k2 l2 g3 f3 s3 => ⟨fun z => absurd z (by decide), fun _ => ?_⟩) (fun n q z g3 f3 e3 => ⟨fun _ => ck_t0 (c0 n q (FS_h z) g3 (F2.trans (f3.fr (by decide) (by decide))) e3), fun z => absurd rfl z⟩)
  rw [FS_3 k2 l2] at c1 c0
  have F3 : Fr RDL [] g g3 := F2.trans (f3.fr (by decide) (by decide))
  have M3 : NMC g3 := by
    unfold NMC at n2a ⊢
    rw [f3.2 4 (by decide), f3.at 55 (by decide) (by decide), f3.at 56 (by decide) (by decide)]; exact n2a
  have hm3 : g3 35 5 = (m : Int) := by rw [f3.2 5 (by decide), f2.2 5 (by decide), f1.2 5 (by decide)]; exact hm
  refine c_takeBedName Q s3 M3 hm3 m4 (fun k3 l3 g4 A => ⟨fun _ => ck_ix (by omega) ?_, fun z => absurd (by decide) z⟩) (fun n q z g4 f4 e4 => ⟨fun z => absurd rfl z, fun _ => ck_t0 (c0 n q (FS_h z) g4 (F3.trans (f4.fr (by decide) (by decide))) e4)⟩)
  rw [FS_3 k3 l3] at c1 c0
  rw [Int.toNat_natCast]
  obtain ⟨f4, s4, v, ma, mb, i4, vr, bd, ⟨hma, hmb, mb4⟩, ev0, ev1⟩ := A
  have ema : ma = m := by omega
  subst ema
  have fa4 : F5 [41] [] g4 (am_up g4 41 ns (g4 35 10)) := F5.rfl.up (by decide) (by decide)
  have F4 : Fr RDL [] g (am_up g4 41 ns (g4 35 10)) := F3.trans ((f4.fr (by decide) (by decide)).trans (fa4.fr (by decide) (by decide)))
  refine c_take (s4.mv fa4 (by decide) (by decide)) (by decide) (fun k4 l4 g5 f5 s5 => ⟨fun z => absurd z (by decide), fun _ => ?_⟩) (fun n q z g5 f5 e5 => ⟨fun _ => ck_t0 (c0 n q (FS_h z) g5 (F4.trans (f5.fr (by decide) (by decide))) e5), fun z => absurd rfl z⟩)
  rw [FS_3 k4 l4] at c1 c0
  have F5' : Fr RDL [] g g5 := F4.trans (f5.fr (by decide) (by decide))
  refine c_takeInt Q s5 (fun k5 l5 g6 I => ⟨fun _ => ck_ix (by omega) (ck_ix (by omega) (ck_ix (by omega) (ck_ix (by omega) ?_))), fun z => absurd (by decide) z⟩) (fun n q z g6 f6 e6 => ⟨fun z => absurd rfl z, fun _ => ck_t0 (c0 n q (FS_h z) g6 (F5'.trans (f6.fr (by decide) (by decide))) e6)⟩)
  rw [FS_3 k5 l5] at c1 c0
  obtain ⟨f6, s6, i6, v6⟩ := I
  obtain ⟨a6, ha6⟩ : ∃ a6, a6 = am_up (am_up (am_up (am_up g6 42 ns (g6 35 10)) 43 ns (-2)) 44 ns 0) 45 ns 0 := ⟨_, rfl⟩
  rw [← ha6]
  have fa6 : F5 [42, 43, 44, 45] [] g6 a6 := by
    rw [ha6]
    exact (((F5.rfl.up (by decide) (by decide)).up (by decide) (by decide)).up (by decide) (by decide)).up (by decide) (by decide)
  have a6deep : a6 42 = fun j => if j = ns then g6 35 10 else g6 42 j := by
    rw [ha6, up_row (by decide), up_row (by decide), up_row (by decide), up_fun]
  have a6hour : a6 43 = fun j => if j = ns then -2 else g6 43 j := by
    rw [ha6, up_row (by decide), up_row (by decide), up_fun, up_row (by decide)]
  have a6late : a6 44 = fun j => if j = ns then 0 else g6 44 j := by
    rw [ha6, up_row (by decide), up_fun, up_row (by decide), up_row (by decide)]
  have a6vain : a6 45 = fun j => if j = ns then 0 else g6 45 j := by
    rw [ha6, up_fun, up_row (by decide), up_row (by decide), up_row (by decide)]
  have F6 : Fr RDL [] g a6 := F5'.trans ((f6.fr (by decide) (by decide)).trans (fa6.fr (by decide) (by decide)))
  have sixth : t + 1 + 1 + 1 + 1 + 1 + 1 = t + 6 := by omega
  rw [sixth] at c1 c0 s6
  refine c_takeDuty Q (s6.mv fa6 (by decide) (by decide)) (by omega) (fun fn g7 D => ⟨fun _ => ?_, fun z => absurd (by decide) z⟩) (fun n q z g7 f7 e7 => ⟨fun z => absurd rfl z, fun _ => ck_t0 (c0 n q (FS_app.2 _ z) g7 (F6.trans (f7.fr (by decide) (by decide))) e7)⟩)
  rw [FS_app.1 fn] at c1 c0
  obtain ⟨f7, s7, d7, o7⟩ := D
  have r36 : ∀ j, g7 36 j = g 36 j := fun j => by
    rw [f7.at 36 (by decide) (by decide), fa6.at 36 (by decide) (by decide), f6.at 36 (by decide) (by decide), f5.at 36 (by decide) (by decide), fa4.at 36 (by decide) (by decide), f4.at 36 (by decide) (by decide), f3.at 36 (by decide) (by decide), f2.at 36 (by decide) (by decide), f1.at 36 (by decide) (by decide)]
  rw [r36 16, hn]
  have fa7 : F5 [36] [] g7 (am_up g7 36 16 ((ns : Int) + 1)) := F5.rfl.up (by decide) (by decide)
  have F7 : Fr RDL [] g (am_up g7 36 16 ((ns : Int) + 1)) := F6.trans ((f7.fr (by decide) (by decide)).trans (fa7.fr (by decide) (by decide)))
  refine ck_rg (by omega) (c_take (s7.mv fa7 (by decide) (by decide)) (by decide) (fun k8 l8 g8 f8 s8 => ck_t1 (c1 ?_ g8 ?_)) (fun n q z g8 f8 e8 => ck_t0 (c0 n q z g8 (F7.trans (f8.fr (by decide) (by decide))) e8)))
  · rw [FS_3 k8 l8]; rfl
  · have lo : ∀ r, r ∈ [41, 42, 43, 44, 45] → g6 r = am_up g4 41 ns (g4 35 10) r := fun r hr => by
      have n35 : r ≠ 35 := by intro e; subst e; revert hr; decide
      rw [f6.at r (by simp) n35, f5.at r (by simp) n35]
    have lo4 : ∀ r, r ∈ [41, 42, 43, 44, 45] → g4 r = g r := fun r hr => by
      have n35 : r ≠ 35 := by intro e; subst e; revert hr; decide
      have nn : r ∉ [55, 56] := by intro e; revert hr; revert e; simp; omega
      rw [f4.at r (by simp) n35, f3.at r (by simp) n35, f2.at r nn n35, f1.at r (by simp) n35]
    have hi : ∀ r, r ∈ [41, 42, 43, 44, 45] → g8 r = g7 r := fun r hr => by
      have n35 : r ≠ 35 := by intro e; subst e; revert hr; decide
      have n36 : r ∉ [36] := by intro e; revert hr; revert e; simp; omega
      rw [f8.at r (by simp) n35, fa7.at r n36 n35]
    have nm : ∀ r, r ∈ [55, 56] → g8 r = g2 r := fun r hr => by
      have n35 : r ≠ 35 := by intro e; subst e; revert hr; decide
      have n36 : r ∉ [36] := by intro e; revert hr; revert e; simp; omega
      have n43 : r ∉ [43, 44, 45] := by intro e; revert hr; revert e; simp; omega
      have n42 : r ∉ [42, 43, 44, 45] := by intro e; revert hr; revert e; simp; omega
      have n41 : r ∉ [41] := by intro e; revert hr; revert e; simp; omega
      rw [f8.at r (by simp) n35, fa7.at r n36 n35, f7.at r n43 n35, fa6.at r n42 n35, f6.at r (by simp) n35, f5.at r (by simp) n35, fa4.at r n41 n35, f4.at r (by simp) n35, f3.at r (by simp) n35]
    have fb : ∀ j, g8 41 j = if j = ns then v else g 41 j := fun j => by
      rw [hi 41 (by decide), f7.at 41 (by decide) (by decide), fa6.at 41 (by decide) (by decide), lo 41 (by decide), up_in, i4, lo4 41 (by decide)]
    have dp : ∀ j, g8 42 j = if j = ns then VL (t + 5) else g 42 j := fun j => by
      rw [hi 42 (by decide), f7.at 42 (by decide) (by decide), a6deep]
      dsimp only
      rw [i6, lo 42 (by decide), up_row (by decide), lo4 42 (by decide)]
    have o43 : ∀ j, g6 43 j = g 43 j := fun j => by rw [lo 43 (by decide), up_row (by decide), lo4 43 (by decide)]
    have o44 : ∀ j, g6 44 j = g 44 j := fun j => by rw [lo 44 (by decide), up_row (by decide), lo4 44 (by decide)]
    have o45 : ∀ j, g6 45 j = g 45 j := fun j => by rw [lo 45 (by decide), up_row (by decide), lo4 45 (by decide)]
    have sn8 : SNK g8 = SNK g7 := by rw [SNK_F5 f8 (by decide) (by decide), SNK_F5 fa7 (by decide) (by decide)]
    have sna : SNK a6 = SNK g6 := SNK_F5 fa6 (by decide) (by decide)
    refine ⟨?_, ?_, ⟨?_, fun j hj => ?_⟩, fun j hj => ⟨?_, ?_, ?_, ?_, ?_⟩, g2, v, ma, mb, SNK g2, SNK g4, SNK g6, ?_⟩
    · exact (f1.mono (by decide) (by decide)).trans ((f2.mono (by decide) (by decide)).trans ((f3.mono (by decide) (by decide)).trans ((f4.mono (by decide) (by decide)).trans ((fa4.mono (by decide) (by decide)).trans ((f5.mono (by decide) (by decide)).trans ((f6.mono (by decide) (by decide)).trans ((fa6.mono (by decide) (by decide)).trans ((f7.mono (by decide) (by decide)).trans ((fa7.mono (by decide) (by decide)).trans (f8.mono (by decide) (by decide)))))))))))
    · have : (LSL K t).length = 6 + ((DTY K (t + 6)).length + 1) := by unfold LSL; rw [List.length_append, List.length_append]; rfl
      rw [this, show t + (6 + ((DTY K (t + 6)).length + 1)) = t + 6 + (DTY K (t + 6)).length + 1 by omega]
      exact s8
    · rw [f8.at 36 (by decide) (by decide), up_same]
    · rw [f8.at 36 (by decide) (by decide), up_ne hj]; exact r36 j
    · rw [fb j, if_neg hj]
    · rw [dp j, if_neg hj]
    · rw [hi 43 (by decide), (d7 j hj).1, a6hour]; dsimp only; rw [if_neg hj]; exact o43 j
    · rw [hi 44 (by decide), (d7 j hj).2.1, a6late]; dsimp only; rw [if_neg hj]; exact o44 j
    · rw [hi 45 (by decide), (d7 j hj).2.2, a6vain]; dsimp only; rw [if_neg hj]; exact o45 j
    · have K12 : KNW g1 (VL (t + 1)) = KNW g (VL (t + 1)) := by
        unfold KNW
        rw [f1.2 4 (by decide), f1.at 55 (by decide) (by decide)]
      have B23 : BDN g2 (VL (t + 3)) v := by
        have bd : BDN g3 (VL (t + 3)) v := bd
        unfold BDN KNW at bd ⊢
        rw [f3.2 4 (by decide), f3.at 55 (by decide) (by decide), f3.at 56 (by decide) (by decide)] at bd
        exact bd
      have h8 : g8 43 ns = g7 43 ns := by rw [hi 43 (by decide)]
      have l8' : g8 44 ns = g7 44 ns := by rw [hi 44 (by decide)]
      have v8 : g8 45 ns = g7 45 ns := by rw [hi 45 (by decide)]
      have sn3 : SNK g3 = SNK g2 := SNK_F5 f3 (by decide) (by decide)
      have sn5 : SNK g5 = SNK g4 := by rw [SNK_F5 f5 (by decide) (by decide), SNK_F5 fa4 (by decide) (by decide)]
      rw [SNK_F5 f1 (by decide) (by decide), K12] at v2
      rw [sn3] at ev0 ev1
      rw [sn5] at v6
      rw [sna] at o7
      have e0 : a6 43 ns = -2 ∧ a6 44 ns = 0 ∧ a6 45 ns = 0 := by
        rw [a6hour, a6late, a6vain]
        exact ⟨if_pos rfl, if_pos rfl, if_pos rfl⟩
      rw [h8, l8', v8, sn8]
      have common : NML g (VL (t + 1)) (-1) g2 ∧ (g8 35 4 = g2 35 4 ∧ g8 55 = g2 55 ∧ g8 56 = g2 56) ∧ EVT (KNW g (VL (t + 1))) 3 (PL (t + 1) : Int) (SNK g) (SNK g2) ∧ (-1 ≤ v ∧ v < 12) ∧ BDN g2 (VL (t + 3)) v ∧ g8 41 ns = v ∧ (g 35 5 = (ma : Int) ∧ g8 35 5 = (mb : Int) ∧ mb < 4096) := by
        refine ⟨NML.mv (g := g1) (g' := g2) ⟨n2a, n2b, n2c⟩ (f1.2 4 (by decide)).symm (f1.at 55 (by decide) (by decide)).symm (f1.at 56 (by decide) (by decide)).symm rfl rfl rfl, ⟨?_, nm 55 (by decide), nm 56 (by decide)⟩, v2, vr, B23, by rw [fb ns, if_pos rfl], hm, ?_, mb4⟩
        · rw [f8.2 4 (by decide), fa7.2 4 (by decide), f7.2 4 (by decide), fa6.2 4 (by decide), f6.2 4 (by decide), f5.2 4 (by decide), fa4.2 4 (by decide), f4.2 4 (by decide), f3.2 4 (by decide)]
        · rw [f8.2 5 (by decide), fa7.2 5 (by decide), f7.2 5 (by decide), fa6.2 5 (by decide), f6.2 5 (by decide), f5.2 5 (by decide), fa4.2 5 (by decide)]; exact hmb
      obtain ⟨q1, q2, q3, q4, q5, q6, q7⟩ := common
      rcases o7 with ⟨k, a, b, c, sx, x1, x2⟩ | ⟨k, a, b, c, x1⟩ | ⟨ka, kb, rfl⟩
      · exact ⟨sx, q1, q2, q3, q4, q5, q6, q7, ev0, ev1, v6, by rw [dp ns, if_pos rfl], Or.inl ⟨k, a, b, by rw [c]; exact e0.2.2, x1, x2⟩⟩
      · exact ⟨(0, 0), q1, q2, q3, q4, q5, q6, q7, ev0, ev1, v6, by rw [dp ns, if_pos rfl], Or.inr (Or.inl ⟨k, by rw [a]; exact e0.1, by rw [b]; exact e0.2.1, c, x1⟩)⟩
      · exact ⟨(0, 0), q1, q2, q3, q4, q5, q6, q7, ev0, ev1, v6, by rw [dp ns, if_pos rfl], Or.inr (Or.inr ⟨ka, kb, e0.1, e0.2.1, e0.2.2, sna⟩)⟩
