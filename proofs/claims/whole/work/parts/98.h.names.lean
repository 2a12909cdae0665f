/-! read: the class's names, beds of sleepers, duties -/
/-- a new name is taken -/
def NMS (K PL : Nat → Nat) (VL : Nat → Int) (t : Nat) (bed : Int) (g g' : aH) : Prop := F5 [55, 56] [4, 9, 13, 14] g g' ∧ CSQ K PL VL (t + 1) g' ∧ EVT (KNW g (VL t)) 3 (PL t : Int) (SNK g) (SNK g') ∧ NMC g' ∧ g' 35 4 ≤ g 35 4 + 1 ∧
  (¬ KNW g (VL t) → g' 35 4 = g 35 4 + 1 ∧ g' 55 (g 35 4).toNat = VL t ∧ g' 56 (g 35 4).toNat = bed ∧ ∀ j : Nat, (j : Int) < g 35 4 → g' 55 j = g 55 j ∧ g' 56 j = g 56 j)
theorem c_takeNewName {N : Nat} {C : Int → aH → Prop} {K PL : Nat → Nat} {VL : Nat → Int} {t : Nat} {bed : Int} {g : aH} (Q : TOKP K PL VL) (S : CSQ K PL VL t g) (M : NMC g) (lt33 : g 35 4 < 33) (hb : -1 ≤ bed ∧ bed < 12) (c1 : K t = 18 → t < 400 → ∀ g', NMS K PL VL t bed g g' → C 1 g') (c0 : ∀ n q, FS K [18] t = some (n, q) → ∀ g', F5 [55, 56] [4, 11, 12, 13, 14] g g' → FLG PL n q g' → C 0 g') : WI N 48 0 [(0, .inr (.inr 35)), (1, .inl bed)] g C := by
  have t4 := S.2.2.1
  refine w_48_0 (c_kind S ⟨fun eq => ?_, fun ne => c_fail (n := 1) S (fun g' f e => ck_t0 (c0 1 t (FS_1 (fun z => ne (by rw [z]; rfl))) g' (f.mono (by decide) (by decide)) e))⟩)
  have e : K t = 18 := by omega
  have vr := Q.2.2.2 t e
  have ts := (S.1 t S.2.2.1 S.2.2.2.1).2.2
  obtain ⟨m0, m1, m2⟩ := M
  rw [S.2.1, Int.toNat_natCast, ts]
  refine ck_ix (by omega) (c_numberOf ⟨m0, m1, m2⟩ vr (fun nk => ⟨fun _ => ck_rg (by decide) ⟨fun z => by omega, fun _ => ?_⟩, fun z => absurd rfl z⟩) (fun i i1 i2 i3 => ⟨fun z => by omega, fun _ => ?_⟩))
  · have f1 : F5 [55, 56] [4, 9] g (am_up (am_up (am_up g 55 (g 35 4).toNat (VL t)) 56 (g 35 4).toNat bed) 35 4 (g 35 4 + 1)) := ((F5.rfl.up (by decide) (by decide)).up (by decide) (by decide)).upM (by decide)
    have f0 : F5 [55, 56] [4] g (am_up (am_up (am_up g 55 (g 35 4).toNat (VL t)) 56 (g 35 4).toNat bed) 35 4 (g 35 4 + 1)) := ((F5.rfl.up (by decide) (by decide)).up (by decide) (by decide)).upM (by decide)
    have S1 := S.mv f0 (by decide) (by decide)
    refine ck_ix (by omega) (ck_ix (by omega) (ck_rg (by omega) ?_))
    refine c_goOn S1 (by omega) (fun lt g3 f3 s3 => ck_t1 (c1 e lt g3 ⟨(f1.mono (by decide) (by decide)).trans (f3.mono (by decide) (by decide)), s3, ?_, ?_, ?_, fun _ => ?_⟩)) (fun ge g3 f3 e3 => ck_t0 (c0 2 t (FS_2 e ge) g3 ((f0.mono (by decide) (by decide)).trans (f3.mono (by decide) (by decide))) e3))
    · rw [SNK_F5 f3 (by decide) (by decide), SNK_F5 f0 (by decide) (by decide)]
      exact EVT.no nk
    · have n4 : g3 35 4 = g 35 4 + 1 := by rw [f3.2 4 (by decide), up_same]
      unfold NMC
      rw [n4, f3.at 55 (by decide) (by decide), f3.at 56 (by decide) (by decide)]
      refine ⟨by omega, by omega, fun j hj => ?_⟩
      simp only [up_row (show (55 : Nat) ≠ 35 by decide), up_row (show (56 : Nat) ≠ 35 by decide), up_row (show (55 : Nat) ≠ 56 by decide), up_in]
      by_cases z : j = (g 35 4).toNat
      · rw [if_pos z, if_pos z]; omega
      · rw [if_neg z, if_neg z, up_row (by decide)]
        exact m2 j (by omega)
    · rw [f3.2 4 (by decide), up_same]; omega
    · rw [f3.2 4 (by decide), up_same, f3.at 55 (by decide) (by decide), f3.at 56 (by decide) (by decide)]
      refine ⟨rfl, ?_, ?_, fun j hj => ⟨?_, ?_⟩⟩
      · rw [up_row (by decide), up_row (by decide), up_same]
      · rw [up_row (by decide), up_same]
      · rw [up_row (by decide), up_row (by decide), up_ne (by omega)]
      · rw [up_row (by decide), up_ne (by omega), up_row (by decide)]
  · have kn : KNW g (VL t) := ⟨i, i1, i2⟩
    refine c_doubt S (fun g2 f2 ev => c_goOn (S.mv f2 (by decide) (by decide)) (by omega) (fun lt g3 f3 s3 => ck_t1 (c1 e lt g3 ⟨?_, s3, ?_, ?_, ?_, fun z => absurd kn z⟩)) (fun ge g3 f3 e3 => ck_t0 (c0 2 t (FS_2 e ge) g3 ?_ e3)))
    · exact (f2.mono (by decide) (by decide)).trans (f3.mono (by decide) (by decide))
    · rw [SNK_F5 f3 (by decide) (by decide)]
      exact EVT.yes kn ev
    · unfold NMC
      rw [f3.2 4 (by decide), f2.2 4 (by decide), f3.at 55 (by decide) (by decide), f3.at 56 (by decide) (by decide), f2.at 55 (by decide) (by decide), f2.at 56 (by decide) (by decide)]
      exact ⟨m0, m1, m2⟩
    · rw [f3.2 4 (by decide), f2.2 4 (by decide)]; omega
    · exact (f2.mono (by decide) (by decide)).trans (f3.mono (by decide) (by decide))
/-- whose bed a name says: -1: no bed's -/
def BDN (g : aH) (x v : Int) : Prop := (v = -1 ∧ ¬ KNW g x) ∨ ∃ i : Nat, (i : Int) < g 35 4 ∧ g 55 i = x ∧ (∀ j, j < i → g 55 j ≠ x) ∧ g 56 i = v
def BNS (K PL : Nat → Nat) (VL : Nat → Int) (t : Nat) (g g' : aH) : Prop := F5 [] [5, 9, 10, 13, 14] g g' ∧ CSQ K PL VL (t + 1) g' ∧ ∃ (v : Int) (m m' : Nat), g' 35 10 = v ∧ (-1 ≤ v ∧ v < 12) ∧ BDN g (VL t) v ∧ (g 35 5 = (m : Int) ∧ g' 35 5 = (m' : Int) ∧ m' < 4096) ∧
  (v = -1 → m' = m ∧ EVT True 4 (PL t : Int) (SNK g) (SNK g')) ∧ (v ≠ -1 → (m.testBit v.toNat = true → m' = m ∧ EVT True 3 (PL t : Int) (SNK g) (SNK g')) ∧ (m.testBit v.toNat = false → m' = m ||| 2 ^ v.toNat ∧ SNK g' = SNK g))
theorem c_takeBedName {N : Nat} {C : Int → aH → Prop} {K PL : Nat → Nat} {VL : Nat → Int} {t m : Nat} {g : aH} (Q : TOKP K PL VL) (S : CSQ K PL VL t g) (M : NMC g) (hm : g 35 5 = (m : Int)) (m4 : m < 4096) (c1 : K t = 18 → t < 400 → ∀ g', BNS K PL VL t g g' → C 1 g') (c0 : ∀ n q, FS K [18] t = some (n, q) → ∀ g', F5 [] [5, 10, 11, 12, 13, 14] g g' → FLG PL n q g' → C 0 g') : WI N 55 0 [(0, .inr (.inr 35))] g C := by
  have t4 := S.2.2.1
  refine w_55_0 (c_kind S ⟨fun eq => ?_, fun ne => c_fail (n := 1) S (fun g' f e => ck_t0 (c0 1 t (FS_1 (fun z => ne (by rw [z]; rfl))) g' (f.mono (by decide) (by decide)) e))⟩)
  have e : K t = 18 := by omega
  have vr := Q.2.2.2 t e
  have ts := (S.1 t S.2.2.1 S.2.2.2.1).2.2
  rw [S.2.1, Int.toNat_natCast, ts]
  -- the value is laid, then a doubt
  have dbt : ∀ (v n : Int), (-1 ≤ v ∧ v < 12) → BDN g (VL t) v → (v = -1 ∧ n = 4 ∨ v ≠ -1 ∧ n = 3 ∧ m.testBit v.toNat = true) → WV N 50 0 [(0, .inr (.inr 35)), (1, .inl n)] (am_up g 35 10 v) (fun h4 => WI N 47 0 [(0, .inr (.inr 35))] h4 (fun r5 h5 => (am_tf r5 ∧ C r5 h5))) := by
    intro v n hv bd o
    have f1 : F5 [] [10] g (am_up g 35 10 v) := F5.rfl.upM (by decide)
    refine c_doubt (S.mv f1 (by decide) (by decide)) (fun g2 f2 ev => c_goOn ((S.mv f1 (by decide) (by decide)).mv f2 (by decide) (by decide)) (by omega) (fun lt g3 f3 s3 => ck_t1 (c1 e lt g3 ⟨?_, s3, v, m, m, ?_, hv, bd, ⟨hm, ?_, m4⟩, fun z => ⟨rfl, ?_⟩, fun z => ⟨fun _ => ⟨rfl, ?_⟩, fun y => ?_⟩⟩)) (fun ge g3 f3 e3 => ck_t0 (c0 2 t (FS_2 e ge) g3 ?_ e3)))
    · exact (f1.mono (by decide) (by decide)).trans ((f2.mono (by decide) (by decide)).trans (f3.mono (by decide) (by decide)))
    · rw [f3.2 10 (by decide), f2.2 10 (by decide), up_same]
    · rw [f3.2 5 (by decide), f2.2 5 (by decide), up_ne (by decide)]; exact hm
    · rw [SNK_F5 f3 (by decide) (by decide)]
      rw [SNK_F5 f1 (by decide) (by decide), show n = 4 by omega] at ev
      exact ev
    · rw [SNK_F5 f3 (by decide) (by decide)]
      rw [SNK_F5 f1 (by decide) (by decide), show n = 3 by omega] at ev
      exact ev
    · exfalso
      rcases o with ⟨o, _⟩ | ⟨_, _, o⟩
      · exact z o
      · rw [o] at y; cases y
    · exact (f1.mono (by decide) (by decide)).trans ((f2.mono (by decide) (by decide)).trans (f3.mono (by decide) (by decide)))
  refine ck_ix (by omega) (c_numberOf M vr (fun nk => ⟨fun z => absurd rfl z, fun _ => ⟨fun z => absurd rfl z, fun _ => dbt (-1) 4 (by decide) (Or.inl ⟨rfl, nk⟩) (Or.inl ⟨rfl, rfl⟩)⟩⟩) (fun i i1 i2 i3 => ⟨fun _ => ?_, fun z => by omega⟩))
  obtain ⟨m0, m1, m2⟩ := M
  have rg := m2 i i1
  rw [Int.toNat_natCast]
  obtain ⟨v, hv⟩ : ∃ v, v = g 56 i := ⟨_, rfl⟩
  rw [← hv] at rg ⊢
  have bd : BDN g (VL t) v := Or.inr ⟨i, i1, i2, i3, hv.symm⟩
  refine ck_ix (by omega) ⟨fun ne => ?_, fun eq => dbt v 4 (by omega) bd (Or.inl ⟨Classical.byContradiction eq, rfl⟩)⟩
  obtain ⟨w, rfl⟩ := Int.eq_ofNat_of_zero_le (show 0 ≤ v by omega)
  rw [hm, bt_tst (by omega) (by omega)]
  refine ⟨fun nb => ?_, fun yb => dbt w 3 (by omega) bd (Or.inr ⟨by omega, rfl, ?_⟩)⟩
  · have tb : m.testBit w = false := by
      cases h : m.testBit w with
      | false => rfl
      | true => rw [h] at nb; exact absurd rfl nb
    have p12 : 2 ^ w < 2 ^ 12 := two_lt (by omega)
    have or12 : m ||| 2 ^ w < 2 ^ 12 := Nat.or_lt_two_pow (by omega) p12
    rw [bt_shl (by omega), bt_or (by omega) (by omega)]
    have f1 : F5 [] [5, 10] g (am_up (am_up g 35 10 (w : Int)) 35 5 ((m ||| 2 ^ w : Nat) : Int)) := (F5.rfl.upM (by decide)).upM (by decide)
    refine c_goOn (S.mv f1 (by decide) (by decide)) (by omega) (fun lt g3 f3 s3 => ck_t1 (c1 e lt g3 ⟨(f1.mono (by decide) (by decide)).trans (f3.mono (by decide) (by decide)), s3, w, m, m ||| 2 ^ w, ?_, by omega, bd, ⟨hm, ?_, or12⟩, fun z => by omega, fun _ => ⟨fun y => ?_, fun _ => ⟨rfl, ?_⟩⟩⟩)) (fun ge g3 f3 e3 => ck_t0 (c0 2 t (FS_2 e ge) g3 ((f1.mono (by decide) (by decide)).trans (f3.mono (by decide) (by decide))) e3))
    · rw [f3.2 10 (by decide), up_ne (by decide), up_same]
    · rw [f3.2 5 (by decide), up_same]
    · rw [Int.toNat_natCast, tb] at y; cases y
    · rw [SNK_F5 f3 (by decide) (by decide), SNK_F5 f1 (by decide) (by decide)]
  · rw [Int.toNat_natCast]
    cases h : m.testBit w with
    | true => rfl
    | false => rw [h] at yb; exact absurd (by decide) yb
/-- a duty is taken: its TOKENS -/
def DTY (K : Nat → Nat) (t : Nat) : List Nat := if K t = 13 then [13, 19, 14, 19] else if K t = 15 then [15, 19] else []
def DTS (K PL : Nat → Nat) (VL : Nat → Int) (t s : Nat) (g g' : aH) : Prop := F5 [43, 44, 45] [9, 10, 13, 14] g g' ∧ CSQ K PL VL (t + (DTY K t).length) g' ∧ (∀ j, j ≠ s → g' 43 j = g 43 j ∧ g' 44 j = g 44 j ∧ g' 45 j = g 45 j) ∧
  ((K t = 13 ∧ g' 43 s = VL (t + 1) ∧ g' 44 s = VL (t + 3) ∧ g' 45 s = g 45 s ∧ ∃ s1, EVT (¬ (0 ≤ VL (t + 1) ∧ VL (t + 1) ≤ 399)) 5 (PL (t + 1) : Int) (SNK g) s1 ∧ EVT (¬ (0 ≤ VL (t + 3) ∧ VL (t + 3) ≤ 9)) 5 (PL (t + 3) : Int) s1 (SNK g')) ∨
   (K t = 15 ∧ g' 43 s = g 43 s ∧ g' 44 s = g 44 s ∧ g' 45 s = VL (t + 1) ∧ EVT (¬ (0 ≤ VL (t + 1) ∧ VL (t + 1) ≤ 9)) 5 (PL (t + 1) : Int) (SNK g) (SNK g')) ∨
   (K t ≠ 13 ∧ K t ≠ 15 ∧ g' = g))
theorem c_takeDuty {N : Nat} {C : Int → aH → Prop} {K PL : Nat → Nat} {VL : Nat → Int} {t s : Nat} {g : aH} (Q : TOKP K PL VL) (S : CSQ K PL VL t g) (hs : s < 12) (c1 : FS K (DTY K t) t = none → ∀ g', DTS K PL VL t s g g' → C 1 g') (c0 : ∀ n q, FS K (DTY K t) t = some (n, q) → ∀ g', F5 [43, 44, 45] [9, 10, 11, 12, 13, 14] g g' → FLG PL n q g' → C 0 g') : WI N 56 0 [(0, .inr (.inr 35)), (1, .inl (s : Int))] g C := by
  have t4 := S.2.2.1
  refine w_56_0 (c_kind S ⟨fun n13 => c_kind S ⟨fun n15 => ck_t1 ?_, fun y15 => ?_⟩, fun y13 => ?_⟩)
  · have a : K t ≠ 13 := fun z => n13 (by rw [z]; rfl)
    have b : K t ≠ 15 := fun z => n15 (by rw [z]; rfl)
    have e : DTY K t = [] := by unfold DTY; rw [if_neg a, if_neg b]
    rw [e] at c1
    refine c1 rfl g ⟨F5.rfl, ?_, fun _ _ => ⟨rfl, rfl, rfl⟩, Or.inr (Or.inr ⟨a, b, rfl⟩)⟩
    rw [e]; exact S
  · have k : K t = 15 := by have := Classical.byContradiction y15; omega
    have e : DTY K t = [15, 19] := by unfold DTY; rw [if_neg (by omega), if_pos k]
    rw [e] at c1 c0
    refine c_goOn S (by omega) (fun lt g1 f1 s1 => ⟨fun z => absurd z (by decide), fun _ => ?_⟩) (fun ge g1 f1 e1 => ⟨fun _ => ck_t0 (c0 2 t (FS_2 k ge) g1 (f1.mono (by decide) (by decide)) e1), fun z => absurd rfl z⟩)
    rw [FS_3 k lt] at c1 c0
    refine c_takeInt Q s1 (fun k1 lt1 g2 I => ⟨fun _ => ck_ix (by omega) (ck_t1 (c1 ?_ _ ?_)), fun z => absurd (by decide) z⟩) (fun n q z g2 f2 e2 => ⟨fun z => absurd rfl z, fun _ => ck_t0 (c0 n q z g2 ((f1.mono (by decide) (by decide)).trans (f2.mono (by decide) (by decide))) e2)⟩)
    · rw [FS_3 k1 lt1]; rfl
    · obtain ⟨i1, i2, i3, i4⟩ := I
      have f2 : F5 [43, 44, 45] [9, 10, 13, 14] g (am_up g2 45 (s : Int).toNat (g2 35 10)) := ((f1.mono (by decide) (by decide)).trans (i1.mono (by decide) (by decide))).up (by decide) (by decide)
      have e10 : ∀ r, r ≠ 35 → g2 r = g r := fun r hr => by rw [i1.at r (by simp) hr, f1.at r (by simp) hr]
      rw [Int.toNat_natCast] at f2 ⊢
      refine ⟨f2, ?_, fun j hj => ⟨?_, ?_, ?_⟩, Or.inr (Or.inl ⟨k, ?_, ?_, ?_, ?_⟩)⟩
      · rw [e]
        exact i2.mv (F5.rfl.up (R := [45]) (D := []) (by decide) (by decide)) (by decide) (by decide)
      · rw [up_row (by decide), e10 43 (by decide)]
      · rw [up_row (by decide), e10 44 (by decide)]
      · rw [up_ne hj, e10 45 (by decide)]
      · rw [up_row (by decide), e10 43 (by decide)]
      · rw [up_row (by decide), e10 44 (by decide)]
      · rw [up_same, i3]
      · rw [SNK_F5 (F5.rfl.up (R := [45]) (D := []) (g := g2) (g' := g2) (k := s) (v := g2 35 10) (by decide) (by decide)) (by decide) (by decide)]
        rw [SNK_F5 f1 (by decide) (by decide)] at i4
        exact i4
  · have k : K t = 13 := by have := Classical.byContradiction y13; omega
    have e : DTY K t = [13, 19, 14, 19] := by unfold DTY; rw [if_pos k]
    rw [e] at c1 c0
    refine c_goOn S (by omega) (fun lt g1 f1 s1 => ⟨fun z => absurd z (by decide), fun _ => ?_⟩) (fun ge g1 f1 e1 => ⟨fun _ => ck_t0 (c0 2 t (FS_2 k ge) g1 (f1.mono (by decide) (by decide)) e1), fun z => absurd rfl z⟩)
    rw [FS_3 k lt] at c1 c0
    refine c_takeInt Q s1 (fun k1 lt1 g2 I => ⟨fun _ => ck_ix (by omega) ?_, fun z => absurd (by decide) z⟩) (fun n q z g2 f2 e2 => ⟨fun z => absurd rfl z, fun _ => ck_t0 (c0 n q ?_ g2 ((f1.mono (by decide) (by decide)).trans (f2.mono (by decide) (by decide))) e2)⟩)
    · rw [FS_3 k1 lt1] at c1 c0
      obtain ⟨i1, i2, i3, i4⟩ := I
      have f2 : F5 [43] [] g2 (am_up g2 43 (s : Int).toNat (g2 35 10)) := F5.rfl.up (by decide) (by decide)
      rw [Int.toNat_natCast] at f2 ⊢
      have S2 := i2.mv f2 (by decide) (by decide)
      have f02 : F5 [43, 44, 45] [9, 10, 11, 12, 13, 14] g (am_up g2 43 s (g2 35 10)) := (f1.mono (by decide) (by decide)).trans ((i1.mono (by decide) (by decide)).trans (f2.mono (by decide) (by decide)))
      refine c_take S2 (by decide) (fun k2 lt2 g3 f3 s3 => ⟨fun z => absurd z (by decide), fun _ => ?_⟩) (fun n q z g3 f3 e3 => ⟨fun _ => ck_t0 (c0 n q ?_ g3 (f02.trans (f3.mono (by decide) (by decide))) e3), fun z => absurd rfl z⟩)
      · rw [FS_3 k2 lt2] at c1 c0
        have f03 : F5 [43, 44, 45] [9, 10, 11, 12, 13, 14] g g3 := f02.trans (f3.mono (by decide) (by decide))
        refine c_takeInt Q s3 (fun k3 lt3 g4 J => ⟨fun _ => ck_ix (by omega) (ck_t1 (c1 ?_ _ ?_)), fun z => absurd (by decide) z⟩) (fun n q z g4 f4 e4 => ⟨fun z => absurd rfl z, fun _ => ck_t0 (c0 n q z g4 (f03.trans (f4.mono (by decide) (by decide))) e4)⟩)
        · rw [FS_3 k3 lt3]; rfl
        · obtain ⟨j1, j2, j3, j4⟩ := J
          have f4 : F5 [44] [] g4 (am_up g4 44 s (g4 35 10)) := F5.rfl.up (by decide) (by decide)
          have e44 : ∀ r, r ≠ 35 → g4 r = am_up g2 43 s (g2 35 10) r := fun r hr => by rw [j1.at r (by simp) hr, f3.at r (by simp) hr]
          have e22 : ∀ r, r ≠ 35 → g2 r = g r := fun r hr => by rw [i1.at r (by simp) hr, f1.at r (by simp) hr]
          refine ⟨?_, ?_, fun j hj => ⟨?_, ?_, ?_⟩, Or.inl ⟨k, ?_, ?_, ?_, SNK g2, ?_, ?_⟩⟩
          · exact (f1.mono (by decide) (by decide)).trans ((i1.mono (by decide) (by decide)).trans ((f2.mono (by decide) (by decide)).trans ((f3.mono (by decide) (by decide)).trans ((j1.mono (by decide) (by decide)).trans (f4.mono (by decide) (by decide))))))
          · rw [e]
            exact j2.mv f4 (by decide) (by decide)
          · rw [up_row (by decide), e44 43 (by decide), up_ne hj, e22 43 (by decide)]
          · rw [up_ne hj, e44 44 (by decide), up_row (by decide), e22 44 (by decide)]
          · rw [up_row (by decide), e44 45 (by decide), up_row (by decide), e22 45 (by decide)]
          · rw [up_row (by decide), e44 43 (by decide), up_same, i3]
          · rw [up_same, j3]
          · rw [up_row (by decide), e44 45 (by decide), up_row (by decide), e22 45 (by decide)]
          · rw [SNK_F5 f1 (by decide) (by decide)] at i4
            exact i4
          · rw [SNK_F5 f4 (by decide) (by decide)]
            rw [SNK_F5 f3 (by decide) (by decide), SNK_F5 f2 (by decide) (by decide)] at j4
            exact j4
      · rcases Nat.lt_or_ge (t + 1 + 1) 400 with y | y
        · by_cases k2 : K (t + 1 + 1) = 14
          · rw [FS_3 k2 y] at z; cases z
          · rw [FS_1 k2] at z ⊢; exact z
        · by_cases k2 : K (t + 1 + 1) = 14
          · rw [FS_2 k2 y] at z ⊢; exact z
          · rw [FS_1 k2] at z ⊢; exact z
    · rcases Nat.lt_or_ge (t + 1) 400 with y | y
      · by_cases k2 : K (t + 1) = 19
        · rw [FS_3 k2 y] at z; cases z
        · rw [FS_1 k2] at z ⊢; exact z
      · by_cases k2 : K (t + 1) = 19
        · rw [FS_2 k2 y] at z ⊢; exact z
        · rw [FS_1 k2] at z ⊢; exact z
theorem FS_h {K : Nat → Nat} {k t : Nat} {E : List Nat} {e : Nat × Nat} (h : FS K [k] t = some e) : FS K (k :: E) t = some e := FS_app.2 e h
