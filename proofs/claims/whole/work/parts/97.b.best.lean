/-! BEST TWO: the class's answers -/
abbrev BV (h : aH) (f s2 l : Int) : Prop := (0 ≤ f ∧ f < h 16 15) ∧ (s2 = -1 ∨ (0 ≤ s2 ∧ s2 < h 16 15)) ∧ ¬ f = s2 ∧ (0 ≤ l ∧ l ≤ 60)
abbrev BV2 (h : aH) (s2 : Int) : Prop := NHR h ≠ 0 ∧ NBD h ≠ 0 ∧ cTW h s2 ≤ 8
def MNT (h : aH) (f : Nat) (s2 l : Int) (b1 i b2 j : Nat) : Prop := INT h s2 b1 i b2 j ∧ ∀ b1' i' b2' j', INT h s2 b1' i' b2' j' → COSTT h f s2 l b1 i b2 j < COSTT h f s2 l b1' i' b2' j' ∨ (COSTT h f s2 l b1 i b2 j = COSTT h f s2 l b1' i' b2' j' ∧ KEYT b1 i b2 j ≤ KEYT b1' i' b2' j')
def BANS (h : aH) (f s2 l v : Int) : Prop := (¬ BV h f s2 l → v = -1) ∧ (BV h f s2 l → ¬ BV2 h s2 → v = -2) ∧ (BV h f s2 l → BV2 h s2 → ∃ b1 i b2 j, MNT h f.toNat s2 l b1 i b2 j ∧ v = COSTT h f.toNat s2 l b1 i b2 j)
def BAT (h : aH) (f s2 l w v : Int) : Prop := (¬ (0 ≤ w ∧ w ≤ 3) → v = -1) ∧ ((0 ≤ w ∧ w ≤ 3) → (¬ BV h f s2 l → v = -1) ∧ (BV h f s2 l → ¬ BV2 h s2 → v = -2) ∧ (BV h f s2 l → BV2 h s2 → (2 ≤ w ∧ s2 = -1 → v = -1) ∧ (¬ (2 ≤ w ∧ s2 = -1) → ∃ b1 i b2 j, MNT h f.toNat s2 l b1 i b2 j ∧ v = if w = 0 then (b1 : Int) else if w = 1 then LDM h l i else if w = 2 then (b2 : Int) else LDM h l j)))
theorem INT_lt {h : aH} (P : PI h) {s2 : Int} {b1 i b2 j : Nat} (I : INT h s2 b1 i b2 j) : b1 < 12 ∧ i < 12 ∧ b2 < 12 ∧ j < 12 := by
  have hz := P.1.1
  unfold okSz at hz
  have n12 : NSL h ≤ 12 := by unfold NSL; omega
  have nh := NHR_le h
  have b12 : NBD h ≤ 12 := by unfold NBD; omega
  obtain ⟨i1, i2, i3, i4⟩ := I
  by_cases z : s2 = -1
  · have := i3 z; omega
  · have := i4 z; omega
theorem MNT_uniq {h : aH} (P : PI h) {f : Nat} {s2 l : Int} {b1 i b2 j b1' i' b2' j' : Nat} (a : MNT h f s2 l b1 i b2 j) (b : MNT h f s2 l b1' i' b2' j') : b1 = b1' ∧ i = i' ∧ b2 = b2' ∧ j = j' := by
  have l1 := INT_lt P a.1
  have l2 := INT_lt P b.1
  have e : KEYT b1 i b2 j = KEYT b1' i' b2' j' := by
    rcases a.2 _ _ _ _ b.1 with x | ⟨x, x2⟩ <;> rcases b.2 _ _ _ _ a.1 with y | ⟨y, y2⟩ <;> omega
  unfold KEYT at e
  omega
theorem BANS_uniq {h : aH} (P : PI h) {f s2 l v v' : Int} (a : BANS h f s2 l v) (b : BANS h f s2 l v') : v = v' := by
  by_cases c : BV h f s2 l
  · by_cases d : BV2 h s2
    · obtain ⟨b1, i, b2, j, m, e⟩ := a.2.2 c d
      obtain ⟨b1', i', b2', j', m', e'⟩ := b.2.2 c d
      obtain ⟨q1, q2, q3, q4⟩ := MNT_uniq P m m'
      rw [e, e', q1, q2, q3, q4]
    · rw [a.2.1 c d, b.2.1 c d]
  · rw [a.1 c, b.1 c]
theorem BAT_uniq {h : aH} (P : PI h) {f s2 l w v v' : Int} (a : BAT h f s2 l w v) (b : BAT h f s2 l w v') : v = v' := by
  by_cases x : 0 ≤ w ∧ w ≤ 3
  · have a := a.2 x
    have b := b.2 x
    by_cases c : BV h f s2 l
    · by_cases d : BV2 h s2
      · have a := a.2.2 c d
        have b := b.2.2 c d
        by_cases y : 2 ≤ w ∧ s2 = -1
        · rw [a.1 y, b.1 y]
        · obtain ⟨b1, i, b2, j, m, e⟩ := a.2 y
          obtain ⟨b1', i', b2', j', m', e'⟩ := b.2 y
          obtain ⟨q1, q2, q3, q4⟩ := MNT_uniq P m m'
          rw [e, e', q1, q2, q3, q4]
      · rw [a.2.1 c d, b.2.1 c d]
    · rw [a.1 c, b.1 c]
  · rw [a.1 x, b.1 x]
theorem c_refuse {N : Nat} {C : Int → aH → Prop} {h : aH} {f s2 l : Int} (P : PI h) (O : okHrs h) (h1 : ¬ BV h f s2 l → C (-1) h) (h2 : BV h f s2 l → ¬ BV2 h s2 → C (-2) h) (h3 : BV h f s2 l → BV2 h s2 → C 0 h) : WI N 120 0 [(0, .inr (.inr 9)), (1, .inl f), (2, .inl s2), (3, .inl l)] h C := by
  have hz := P.1.1
  unfold okSz at hz
  obtain ⟨n0, n8, -⟩ := P.2.2.1
  have hn : ((nSN h : Nat) : Int) = h 58 10 := by unfold nSN; omega
  have eb : h 16 14 = (NBD h : Int) := by unfold NBD; omega
  obtain ⟨o1, o2⟩ := O.hh rfl rfl
  have c35 : BV h f s2 l → ∀ x : Int, x = (cTW h s2 : Nat) → WI N 120 35 [(0, .inr (.inr 9)), (4, .inl x)] h C := by
    intro v x ex
    refine w_120_35 ?_
    rw [o1, eb, ex]
    refine ⟨fun z => w_120_47 (h2 v (fun y => y.1 (by omega))), fun z => ⟨fun z2 => w_120_47 (h2 v (fun y => y.2.1 (by omega))), fun z2 => ⟨fun z3 => h3 v ⟨by omega, by omega, by omega⟩, fun z3 => w_120_47 (h2 v (fun y => z3 (by have := y.2.2; omega)))⟩⟩⟩
  have c12 : (0 ≤ f ∧ f < h 16 15) → (s2 = -1 ∨ (0 ≤ s2 ∧ s2 < h 16 15)) → WI N 120 12 [(0, .inr (.inr 9)), (1, .inl f), (2, .inl s2), (3, .inl l)] h C := by
    intro q1 q2
    refine w_120_12 ⟨fun e => w_120_21 (h1 (fun z => z.2.2.1 e)), fun ne => ⟨fun lt => w_120_21 (h1 (fun z => by have := z.2.2.2; omega)), fun ge => ⟨fun le => ⟨fun two => ck_rg (by omega) (c35 ⟨q1, q2, ne, by omega, le⟩ _ ?_), fun one => ck_rg (by omega) (c35 ⟨q1, q2, ne, by omega, le⟩ _ ?_)⟩, fun gt => w_120_21 (h1 (fun z => gt z.2.2.2.2))⟩⟩⟩
    · unfold cTW; rw [if_neg two]; omega
    · unfold cTW; rw [if_pos (Decidable.not_not.mp one)]; omega
  refine w_120_0 (c_isClock (fun q1 => z1 ⟨fun e => c12 q1 (Or.inl e), fun ne => c_isClock (fun q2 => z1 (c12 q1 (Or.inr q2))) (fun q2 => z0 (w_120_21 (h1 (fun z => q2 (z.2.1.resolve_left ne)))))⟩) (fun q1 => z0 (w_120_21 (h1 (fun z => q1 z.1)))))
def NSC (h : aH) (s2 : Int) : Nat := if s2 = -1 then 1 else NHR h
theorem c_sk56 {N : Nat} {C : aH → Prop} {h : aH} {f : Nat} {s2 l E : Int} {i : Nat} (P : PI h) (O : okHrs h) (rm : ROOM h s2) (hf : (f : Int) < h 16 15) (hs2 : s2 = -1 ∨ (0 ≤ s2 ∧ s2 < h 16 15)) (l60 : 0 ≤ l ∧ l ≤ 60) (hi : i < NHR h) (hC : ∀ h', CST h f s2 l E h' → MINL h f s2 l (PRS (i + 1) 0 0 0) h' → WV N 121 48 [(0, .inr (.inr 102)), (5, .inl (NSC h s2 : Int)), (6, .inl ((i : Int) + 1))] h' C) : ∀ (d j : Nat) (h1 : aH), d = NSC h s2 - j → j ≤ NSC h s2 → CST h f s2 l E h1 → MINL h f s2 l (PRS i j 0 0) h1 →
    WV N 121 56 [(0, .inr (.inr 102)), (5, .inl (NSC h s2 : Int)), (6, .inl (i : Int)), (7, .inl (j : Int))] h1 C := by
  have hz := P.1.1
  unfold okSz at hz
  have n12 : NSL h ≤ 12 := by unfold NSL; omega
  have nh := NHR_le h
  have c12 : NSC h s2 ≤ 12 := by unfold NSC; split <;> omega
  intro d
  induction d with
  | zero =>
    intro j h1 hd hj S M
    have : j = NSC h s2 := by omega
    subst this
    refine w_121_56 ⟨fun _ => ck_rg (by omega) (hC h1 S (M.pr (fun b1' i' b2' j' I q => ?_))), fun z => absurd (Int.le_refl _) z⟩
    have lj : j' < NSC h s2 := by
      unfold NSC
      by_cases z : s2 = -1
      · rw [if_pos z]; have := I.2.2.1 z; omega
      · rw [if_neg z]; exact (I.2.2.2 z).2
    unfold PRS at q ⊢
    omega
  | succ d ih =>
    intro j h1 hd hj S M
    have hj2 : j < NSC h s2 := by omega
    have hjt : s2 ≠ -1 → j < NHR h := fun z => by unfold NSC at hj2; rw [if_neg z] at hj2; exact hj2
    have hjo : s2 = -1 → j = 0 := fun z => by unfold NSC at hj2; rw [if_pos z] at hj2; omega
    refine w_121_56 ⟨fun z => by omega, fun _ => c_weigh P O rm hf hs2 l60 S hi hjt (fun h2 S2 e1 e2 G => ?_)⟩
    refine w_127_0 (c_cb3 P rm (by rcases hs2 with z | z; exact Or.inl z; exact Or.inr z.1) hi hjt hjo (fun h3 S3 M3 => ck_rg (by omega) (ih (j + 1) h3 (by omega) (by omega) S3 M3)) _ 0 h2 rfl (Nat.zero_le _) S2 G (M.fr e2 e1))
theorem c_sk48 {N : Nat} {C : aH → Prop} {h : aH} {f : Nat} {s2 l E : Int} (P : PI h) (O : okHrs h) (rm : ROOM h s2) (hf : (f : Int) < h 16 15) (hs2 : s2 = -1 ∨ (0 ≤ s2 ∧ s2 < h 16 15)) (l60 : 0 ≤ l ∧ l ≤ 60) (hC : ∀ h', CST h f s2 l E h' → MINL h f s2 l (fun _ _ _ _ => True) h' → C h') : ∀ (d i : Nat) (h1 : aH), d = NHR h - i → i ≤ NHR h → CST h f s2 l E h1 → MINL h f s2 l (PRS i 0 0 0) h1 →
    WV N 121 48 [(0, .inr (.inr 102)), (5, .inl (NSC h s2 : Int)), (6, .inl (i : Int))] h1 C := by
  intro d
  induction d with
  | zero =>
    intro i h1 hd hi S M
    have : i = NHR h := by omega
    subst this
    obtain ⟨o1, o2⟩ := O.hh (S.1.at 16 (by decide) (by decide)) (S.1.at 26 (by decide) (by decide))
    refine w_121_48 ?_
    rw [o1]
    refine ⟨fun _ => hC h1 S (M.pr (fun b1' i' b2' j' I _ => Or.inl I.2.1)), fun z => absurd (Int.le_refl _) z⟩
  | succ d ih =>
    intro i h1 hd hi S M
    obtain ⟨o1, o2⟩ := O.hh (S.1.at 16 (by decide) (by decide)) (S.1.at 26 (by decide) (by decide))
    refine w_121_48 ?_
    rw [o1]
    exact ⟨fun z => by omega, fun _ => c_sk56 P O rm hf hs2 l60 (by omega) (fun h2 S2 M2 => ih (i + 1) h2 (by omega) (by omega) S2 M2) _ 0 h1 rfl (Nat.zero_le _) S M⟩
/-- what is kept of the latest search is right, if nothing was changed since -/
def okBest (h : aH) : Prop := BBD h ∧ h 102 16 ≤ h 9 11 ∧ (h 102 16 = h 9 11 → BV h (h 102 13) (h 102 14) (h 102 15) ∧ BV2 h (h 102 14) ∧ MINL h (h 102 13).toNat (h 102 14) (h 102 15) (fun _ _ _ _ => True) h)
theorem SX_kp {h h' : aH} (kp : Kp h h') : SX h' = SX h := by
  have e : KX h' = KX h := by funext n m1 m2 k; unfold KX; rw [kp.at 60 (by decide)]
  have e2 : HX h' = HX h := by funext n c m1 m2 s x y j; unfold HX; rw [e, kp.hrd, kp.wof, kp.at 63 (by decide)]
  have e3 : MX h' = MX h := by funext n c m1 m2 j; unfold MX; rw [e]
  funext n c m1 m2 s x y
  unfold SX
  rw [kp.shv, e2, e3]
theorem HF_kp {h h' : aH} (kp : Kp h h') : HF h' = HF h ∧ SAT h' = SAT h ∧ LDM h' = LDM h := by
  have e1 : LDM h' = LDM h := by funext l i; unfold LDM HOU NSL; rw [kp.at 23 (by decide), kp.at 16 (by decide)]
  have e2 : SAT h' = SAT h := by funext c m; unfold SAT; rw [kp.at 20 (by decide)]
  refine ⟨?_, e2, e1⟩
  funext c l i b s
  unfold HF
  rw [kp.hear, kp.wof, kp.at 63 (by decide), kp.at 19 (by decide), e1, e2]
theorem INT_kp {h h' : aH} (kp : Kp h h') : INT h' = INT h ∧ NHR h' = NHR h ∧ NBD h' = NBD h ∧ cTW h' = cTW h := by
  have e1 : NHR h' = NHR h := by unfold NHR NSL; rw [kp.at 23 (by decide), kp.at 16 (by decide)]
  have e2 : NBD h' = NBD h := by unfold NBD; rw [kp.at 16 (by decide)]
  refine ⟨?_, e1, e2, ?_⟩
  · funext s2 b1 i b2 j
    unfold INT
    rw [e1, e2]
  · funext s2
    unfold cTW nSN
    rw [kp.at 58 (by decide)]
theorem COSTT_kp {h h' : aH} (kp : Kp h h') : COSTT h' = COSTT h := by
  funext f s2 l b1 i b2 j
  obtain ⟨e1, e2, e3⟩ := HF_kp kp
  unfold COSTT MI1 nSN NSL
  rw [SX_kp kp, e1, e2, e3, (INT_kp kp).2.2.2, kp.at 58 (by decide), kp.at 16 (by decide)]
theorem MINL_kp {h h' : aH} (kp : Kp h h') : MINL h' = MINL h := by
  funext f s2 l p g
  unfold MINL
  rw [(INT_kp kp).1, COSTT_kp kp]
theorem BV_kp {h h' : aH} (kp : Kp h h') {f s2 l : Int} : (BV h' f s2 l ↔ BV h f s2 l) ∧ (BV2 h' s2 ↔ BV2 h s2) := by
  obtain ⟨_, e1, e2, e3⟩ := INT_kp kp
  unfold BV BV2
  rw [e1, e2, e3, kp.at 16 (by decide)]
  exact ⟨Iff.rfl, Iff.rfl⟩
theorem okBest.kp {h h' : aH} (B : okBest h) (kp : Kp h h') (e1 : h' 102 = h 102) (e2 : h' 107 = h 107) (e3 : h' 108 = h 108) (e4 : h' 9 11 = h 9 11) : okBest h' := by
  obtain ⟨b1, b2, b3⟩ := B
  refine ⟨b1.fr e2 e3, by rw [e1, e4]; exact b2, fun z => ?_⟩
  rw [e1, e4] at z
  obtain ⟨q1, q2, q3⟩ := b3 z
  rw [e1, MINL_kp kp]
  exact ⟨(BV_kp kp).1.mpr q1, (BV_kp (f := 0) (l := 0) kp).2.mpr q2, q3.fr (by rw [e1]) (by rw [e1])⟩
theorem okBest.ed {h h' : aH} (B : okBest h) (e1 : h' 102 = h 102) (e2 : h' 107 = h 107) (e3 : h' 108 = h 108) (e4 : h' 9 11 = h 9 11 + 1) : okBest h' := by
  obtain ⟨b1, b2, b3⟩ := B
  refine ⟨b1.fr e2 e3, by rw [e1, e4]; omega, fun z => ?_⟩
  rw [e1, e4] at z
  omega
theorem mnt_of {h g : aH} {f : Nat} {s2 l : Int} (b2 : BV2 h s2) (M : MINL h f s2 l (fun _ _ _ _ => True) g) : ∃ b1 i b2 j, MNT h f s2 l b1 i b2 j ∧ g 102 12 = (KEYT b1 i b2 j : Int) ∧ g 102 11 = COSTT h f s2 l b1 i b2 j := by
  rcases M with ⟨_, m2⟩ | ⟨b1, i, c2, j, m1, m2, m3, m4⟩
  · exfalso
    refine m2 0 0 0 0 ⟨Nat.pos_of_ne_zero b2.2.1, Nat.pos_of_ne_zero b2.1, fun _ => ⟨rfl, rfl⟩, fun _ => ⟨Nat.pos_of_ne_zero b2.2.1, Nat.pos_of_ne_zero b2.1⟩⟩ trivial
  · exact ⟨b1, i, c2, j, ⟨m1, fun b1' i' b2' j' I => m4 b1' i' b2' j' I trivial⟩, m2, m3⟩
theorem c_seek {N : Nat} {C : aH → Prop} {h : aH} {f s2 l : Int} (P : PI h) (O : okHrs h) (sc : scr h) (B : okBest h) (v1 : BV h f s2 l) (v2 : BV2 h s2)
    (hC : ∀ h', Fr SNB [] h h' → scr h' → okBest h' → h' 102 15 = l → MINL h f.toNat s2 l (fun _ _ _ _ => True) h' → C h') : WV N 121 0 [(0, .inr (.inr 102)), (1, .inl f), (2, .inl s2), (3, .inl l), (4, .inl (h 9 11))] h C := by
  obtain ⟨f, rfl⟩ := Int.eq_ofNat_of_zero_le v1.1.1
  have nw : WV N 121 18 [(0, .inr (.inr 102)), (1, .inl (f : Int)), (2, .inl s2), (3, .inl l), (4, .inl (h 9 11))] h C := by
    refine w_121_18 ?_
    have f0 : Fr [102] [] h (am_up (am_up (am_up (am_up (am_up h 102 13 (f : Int)) 102 14 s2) 102 15 l) 102 16 (h 9 11)) 102 12 (-1)) := ((((Fr.rfl.up (by decide) (by decide)).up (by decide) (by decide)).up (by decide) (by decide)).up (by decide) (by decide)).up (by decide) (by decide)
    have g1 : am_up (am_up (am_up (am_up (am_up h 102 13 (f : Int)) 102 14 s2) 102 15 l) 102 16 (h 9 11)) 102 12 (-1) 102 13 = (f : Int) := by rw [up_ne (by decide), up_ne (by decide), up_ne (by decide), up_ne (by decide), up_same]
    have g2 : am_up (am_up (am_up (am_up (am_up h 102 13 (f : Int)) 102 14 s2) 102 15 l) 102 16 (h 9 11)) 102 12 (-1) 102 14 = s2 := by rw [up_ne (by decide), up_ne (by decide), up_ne (by decide), up_same]
    have g3 : am_up (am_up (am_up (am_up (am_up h 102 13 (f : Int)) 102 14 s2) 102 15 l) 102 16 (h 9 11)) 102 12 (-1) 102 15 = l := by rw [up_ne (by decide), up_ne (by decide), up_same]
    have g4 : am_up (am_up (am_up (am_up (am_up h 102 13 (f : Int)) 102 14 s2) 102 15 l) 102 16 (h 9 11)) 102 12 (-1) 102 16 = h 9 11 := by rw [up_ne (by decide), up_same]
    have g5 : am_up (am_up (am_up (am_up (am_up h 102 13 (f : Int)) 102 14 s2) 102 15 l) 102 16 (h 9 11)) 102 12 (-1) 102 12 = -1 := up_same _ _ _ _
    generalize am_up (am_up (am_up (am_up (am_up h 102 13 (f : Int)) 102 14 s2) 102 15 l) 102 16 (h 9 11)) 102 12 (-1) = h0 at *
    have kp0 := f0.kp (by decide)
    have P0 := kp0.pi P
    have O0 : okHrs h0 := by unfold okHrs at O ⊢; rw [f0.at 16 (by decide) (by decide), f0.at 23 (by decide) (by decide), f0.at 26 (by decide) (by decide)]; exact O
    have d0 : okDz h0 := f0.dz (by decide) (by decide) (by decide) sc.1
    have e60 : h0 28 6 = 0 := by rw [f0.at 28 (by decide) (by decide)]; exact sc.2
    have cl0 : h0 16 15 = h 16 15 := by rw [kp0.at 16 (by decide)]
    have eC := COSTT_kp kp0
    -- behind the tables
    have go : ∀ h1 : aH, Fr [28, 31, 103, 104, 105] [] h0 h1 → h1 28 6 = 0 → HT103 h0 f l (fun _ _ _ => True) h1 → (s2 ≠ -1 → HT104 h0 s2.toNat l (fun _ _ _ => True) h1) → HPT h0 (fun _ _ => True) h1 → (¬ s2 = -1 → WV N 121 45 [(0, .inr (.inr 102)), (5, .inl (h1 16 17))] h1 C) ∧ (¬ ¬ s2 = -1 → WV N 121 45 [(0, .inr (.inr 102)), (5, .inl 1)] h1 C) := by
      intro h1 f1 e6 t1 t2 t3
      obtain ⟨o1, o2⟩ := O0.hh (f1.at 16 (by decide) (by decide)) (f1.at 26 (by decide) (by decide))
      have S : CST h0 f s2 l (h 9 11) h1 := ⟨f1.mono (by decide) (by decide), ⟨f1.dz (by decide) (by decide) (by decide) d0, e6⟩, by rw [f1.at 102 (by decide) (by decide)]; exact ⟨g1, g2, g3, g4⟩, t1, t2, t3, B.1.fr (by rw [f1.at 107 (by decide) (by decide), f0.at 107 (by decide) (by decide)]) (by rw [f1.at 108 (by decide) (by decide), f0.at 108 (by decide) (by decide)])⟩
      have key : WV N 121 45 [(0, .inr (.inr 102)), (5, .inl (NSC h0 s2 : Int))] h1 C := by
        refine w_121_45 (c_sk48 P0 O0 (by unfold ROOM; rw [(INT_kp kp0).2.2.2]; exact v2.2.2) (by rw [cl0]; exact v1.1.2) (by rw [cl0]; exact v1.2.1) v1.2.2.2 (fun h2 S2 M2 => ?_) _ 0 h1 rfl (Nat.zero_le _) S (Or.inl ⟨by rw [f1.at 102 (by decide) (by decide)]; exact g5, fun b1 i b2 j I q => by unfold PRS at q; omega⟩))
        have fr : Fr SNB [] h h2 := (f0.mono (by decide) (by decide)).trans S2.1
        have kp := fr.kp (by decide)
        rw [MINL_kp kp0] at M2
        obtain ⟨q1, q2, q3, q4⟩ := S2.2.2.1
        refine hC h2 fr S2.2.1 ⟨S2.2.2.2.2.2.2, by rw [q4, fr.at 9 (by decide) (by decide)]; exact Int.le_refl _, fun _ => ?_⟩ q3 M2
        rw [q1, q2, q3, MINL_kp kp, Int.toNat_natCast]
        exact ⟨(BV_kp kp).1.mpr v1, (BV_kp (f := 0) (l := 0) kp).2.mpr v2, M2⟩
      unfold NSC at key
      refine ⟨fun two => ?_, fun one => ?_⟩
      · rw [if_neg two] at key; rw [o1]; exact key
      · rw [if_pos (Decidable.not_not.mp one)] at key; exact key
    refine w_122_0 ?_
    rw [g1]
    refine c_hearClock_103 P0 O0 e60 (by rw [cl0]; exact v1.1.2) g3 v1.2.2.2 (fun h1 f1 e6 t1 => ?_)
    rw [f1.at 102 (by decide) (by decide), g2]
    have kp1 := f1.kp (by decide)
    have hp : ∀ h2 : aH, Fr [28, 31, 103, 104] [] h0 h2 → h2 28 6 = 0 → HT103 h0 f l (fun _ _ _ => True) h2 → (s2 ≠ -1 → HT104 h0 s2.toNat l (fun _ _ _ => True) h2) → WV N 122 19 [(0, .inr (.inr 102)), (1, .inl 0)] h2 (fun h1 => (¬ s2 = -1 → WV N 121 45 [(0, .inr (.inr 102)), (5, .inl (h1 16 17))] h1 C) ∧ (¬ ¬ s2 = -1 → WV N 121 45 [(0, .inr (.inr 102)), (5, .inl 1)] h1 C)) := by
      intro h2 f2 e62 t12 t22
      have kp2 := f2.kp (by decide)
      refine c_hp19 (kp2.pi P0) (fun h3 f3 e63 t3 => go h3 ((f2.mono (by decide) (by decide)).trans (f3.mono (by decide) (by decide))) e63 ?_ (fun z => ?_) ?_) _ 0 h2 rfl (Nat.zero_le _) Fr.rfl e62 (fun s' k' _ _ q => absurd q (Nat.not_lt_zero _))
      · unfold HT103 at t12 ⊢; rw [f3.at 103 (by decide) (by decide)]; exact t12
      · have := t22 z; unfold HT104 at this ⊢; rw [f3.at 104 (by decide) (by decide)]; exact this
      · unfold HPT NSL at t3 ⊢
        rw [kp2.hrd, kp2.wof, kp2.at 63 (by decide), kp2.at 58 (by decide), kp2.at 16 (by decide)] at t3
        exact t3
    refine ⟨fun one => hp h1 (f1.mono (by decide) (by decide)) e6 t1 (fun z => absurd one z), fun two => ?_⟩
    obtain ⟨t, rfl⟩ := Int.eq_ofNat_of_zero_le (v1.2.1.resolve_left two).1
    have O1 : okHrs h1 := by unfold okHrs at O0 ⊢; rw [f1.at 16 (by decide) (by decide), f1.at 23 (by decide) (by decide), f1.at 26 (by decide) (by decide)]; exact O0
    refine c_hearClock_104 (kp1.pi P0) O1 e6 (by rw [kp1.at 16 (by decide), cl0]; exact (v1.2.1.resolve_left two).2) (by rw [f1.at 102 (by decide) (by decide)]; exact g3) v1.2.2.2 (fun h2 f2 e62 t2 => hp h2 ((f1.mono (by decide) (by decide)).trans (f2.mono (by decide) (by decide))) e62 ?_ (fun _ => ?_))
    · unfold HT103 at t1 ⊢; rw [f2.at 103 (by decide) (by decide)]; exact t1
    · unfold HT104 NSL at t2 ⊢
      obtain ⟨_, n1, n2, _⟩ := INT_kp kp1
      rw [(HF_kp kp1).1, n1, n2, kp1.at 16 (by decide)] at t2
      rw [Int.toNat_natCast]
      exact t2
  refine w_121_0 ⟨fun _ => nw, fun e1 => ⟨fun _ => nw, fun e2 => ⟨fun _ => nw, fun e3 => ⟨fun _ => nw, fun e4 => ?_⟩⟩⟩⟩
  have e1 := Decidable.not_not.mp e1
  have e2 := Decidable.not_not.mp e2
  have e3 := Decidable.not_not.mp e3
  have e4 := Decidable.not_not.mp e4
  obtain ⟨_, _, m⟩ := B.2.2 e4
  rw [e1, e2, e3] at m
  exact hC h Fr.rfl sc B e3 m
theorem c_best {N : Nat} {C : Int → aH → Prop} {h : aH} {f s2 l : Int} (P : PI h) (O : okHrs h) (sc : scr h) (B : okBest h) (hC : ∀ v h', Fr SNB [] h h' → scr h' → okBest h' → BANS h f s2 l v → C v h') : WL N 119 0 [(0, .inr (.inr 9)), (1, .inl f), (2, .inl s2), (3, .inl l)] h C := by
  refine w_119_0 (c_refuse P O (fun no => ⟨fun z => absurd z (by decide), fun _ => hC _ h Fr.rfl sc B ⟨fun _ => rfl, fun y => absurd y no, fun y => absurd y no⟩⟩) (fun v1 no => ⟨fun z => absurd z (by decide), fun _ => hC _ h Fr.rfl sc B ⟨fun y => absurd v1 y, fun _ _ => rfl, fun _ y => absurd y no⟩⟩) (fun v1 v2 => ⟨fun _ => c_seek P O sc B v1 v2 (fun h' fr s' b' _ M => ?_), fun z => absurd rfl z⟩))
  obtain ⟨b1, i, b2, j, m1, m2, m3⟩ := mnt_of v2 M
  rw [m3]
  exact hC _ h' fr s' b' ⟨fun y => absurd v1 y, fun _ y => absurd v2 y, fun _ _ => ⟨b1, i, b2, j, m1, rfl⟩⟩
theorem key_ix {b1 i b2 j : Nat} (h1 : b1 < 12) (h2 : i < 12) (h3 : b2 < 12) (h4 : j < 12) : w32 ((KEYT b1 i b2 j : Int).tdiv 1728) = b1 ∧ (w32 ((KEYT b1 i b2 j : Int).tdiv 144)).tmod 12 = i ∧ (w32 ((KEYT b1 i b2 j : Int).tdiv 12)).tmod 12 = b2 ∧ (KEYT b1 i b2 j : Int).tmod 12 = j := by
  have d : ∀ k : Nat, (KEYT b1 i b2 j : Int).tdiv (k : Int) = ((KEYT b1 i b2 j / k : Nat) : Int) := fun k => rfl
  have m : ∀ (a : Nat), ((a : Nat) : Int).tmod 12 = ((a % 12 : Nat) : Int) := fun a => rfl
  have w : ∀ a : Nat, a < 100000 → w32 ((a : Nat) : Int) = (a : Int) := fun a ha => by unfold w32; omega
  have d1 := d 1728
  have d2 := d 144
  have d3 := d 12
  have k : KEYT b1 i b2 j < 20736 := by unfold KEYT; omega
  rw [show ((1728 : Nat) : Int) = 1728 from rfl] at d1
  rw [show ((144 : Nat) : Int) = 144 from rfl] at d2
  rw [show ((12 : Nat) : Int) = 12 from rfl] at d3
  rw [d1, d2, d3, w _ (by omega), w _ (by omega), w _ (by omega), m, m, m]
  unfold KEYT
  refine ⟨?_, ?_, ?_, ?_⟩
  · congr 1; omega
  · congr 1; omega
  · congr 1; omega
  · congr 1; omega
theorem c_found {N : Nat} {C : Int → aH → Prop} {h h1 : aH} {l w : Int} {f : Nat} {s2 : Int} {b1 i b2 j : Nat} (P : PI h) (O : okHrs h) (f16 : h1 16 = h 16) (f26 : h1 26 = h 26) (hl : h1 102 15 = l) (l60 : 0 ≤ l ∧ l ≤ 60) (m : MNT h f s2 l b1 i b2 j) (k : h1 102 12 = (KEYT b1 i b2 j : Int)) (hw : 0 ≤ w ∧ w ≤ 3) (v2 : BV2 h s2) (hC : C (if w = 0 then (b1 : Int) else if w = 1 then LDM h l i else if w = 2 then (b2 : Int) else LDM h l j) h1) : WI N 131 0 [(0, .inr (.inr 102)), (1, .inl w)] h1 C := by
  obtain ⟨l1, l2, l3, l4⟩ := INT_lt P m.1
  obtain ⟨x1, x2, x3, x4⟩ := key_ix l1 l2 l3 l4
  have hj : j < NHR h := by
    by_cases z : s2 = -1
    · have := (m.1.2.2.1 z).2
      have := Nat.pos_of_ne_zero v2.1
      omega
    · exact (m.1.2.2.2 z).2
  refine w_131_0 ?_
  rw [k, x1, x2, x3, x4]
  refine ⟨fun z => ⟨by decide, c_setTo P O f16 f26 hl l60 hj ?_⟩, fun z => ⟨fun e => ⟨by decide, ?_⟩, fun n0 => ⟨fun e => ⟨by decide, by decide, c_setTo P O f16 f26 hl l60 m.1.2.1 ?_⟩, fun n1 => ⟨fun e => ⟨by decide, by decide, ?_⟩, fun n2 => by omega⟩⟩⟩⟩
  · rw [if_neg (by omega), if_neg (by omega), if_neg (by omega)] at hC; exact hC
  · rw [if_pos e] at hC; exact hC
  · rw [if_neg n0, if_pos e] at hC; exact hC
  · rw [if_neg n0, if_neg n1, if_pos e] at hC; exact hC
theorem c_bestAt {N : Nat} {C : Int → aH → Prop} {h : aH} {f s2 l w : Int} (P : PI h) (O : okHrs h) (sc : scr h) (B : okBest h) (hC : ∀ v h', Fr SNB [] h h' → scr h' → okBest h' → BAT h f s2 l w v → C v h') : WI N 130 0 [(0, .inr (.inr 9)), (1, .inl f), (2, .inl s2), (3, .inl l), (4, .inl w)] h C := by
  refine w_130_0 ⟨fun z => hC _ h Fr.rfl sc B ⟨fun _ => rfl, fun y => by omega⟩, fun z => ⟨fun z3 => ?_, fun z3 => hC _ h Fr.rfl sc B ⟨fun _ => rfl, fun y => by omega⟩⟩⟩
  have hw : 0 ≤ w ∧ w ≤ 3 := ⟨by omega, z3⟩
  refine c_refuse P O (fun no => ⟨fun z => absurd z (by decide), fun _ => hC _ h Fr.rfl sc B ⟨fun y => absurd hw y, fun _ => ⟨fun _ => rfl, fun y => absurd y no, fun y => absurd y no⟩⟩⟩) (fun v1 no => ⟨fun z => absurd z (by decide), fun _ => hC _ h Fr.rfl sc B ⟨fun y => absurd hw y, fun _ => ⟨fun y => absurd v1 y, fun _ _ => rfl, fun _ y => absurd y no⟩⟩⟩) (fun v1 v2 => ⟨fun _ => ?_, fun z => absurd rfl z⟩)
  have fin : ¬ (2 ≤ w ∧ s2 = -1) → WV N 121 0 [(0, .inr (.inr 102)), (1, .inl f), (2, .inl s2), (3, .inl l), (4, .inl (h 9 11))] h (fun h2 => WI N 131 0 [(0, .inr (.inr 102)), (1, .inl w)] h2 (fun r3 h3 => C r3 h3)) := by
    intro ny
    refine c_seek P O sc B v1 v2 (fun h' fr s' b' e M => ?_)
    obtain ⟨b1, i, b2, j, m1, m2, m3⟩ := mnt_of v2 M
    exact c_found P O (fr.at 16 (by decide) (by decide)) (fr.at 26 (by decide) (by decide)) e v1.2.2.2 m1 m2 hw v2 (hC _ h' fr s' b' ⟨fun y => absurd hw y, fun _ => ⟨fun y => absurd v1 y, fun _ y => absurd v2 y, fun _ _ => ⟨fun y => absurd y ny, fun _ => ⟨b1, i, b2, j, m1, rfl⟩⟩⟩⟩)
  refine ⟨fun lt => fin (by omega), fun ge => ⟨fun ne => fin (fun y => ne y.2), fun e => hC _ h Fr.rfl sc B ⟨fun y => absurd hw y, fun _ => ⟨fun y => absurd v1 y, fun _ y => absurd v2 y, fun _ _ => ⟨fun _ => rfl, fun y => absurd ⟨by omega, Decidable.not_not.mp e⟩ y⟩⟩⟩⟩⟩
