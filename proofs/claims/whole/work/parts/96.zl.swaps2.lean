/-! SWAPS: the class's search -/
theorem NGT.fr {h h1 h2 : aH} (G : NGT h h1) (f : Fr [101, 127, 128, 129] [] h1 h2) : NGT h h2 := by
  obtain ⟨hf, hsc, ha⟩ := G
  exact ⟨hf.trans (f.mono (by decide) (by decide)), ⟨f.dz (by decide) (by decide) (by decide) hsc.1, by rw [f.at 28 (by decide) (by decide)]; exact hsc.2⟩, ha.keep (f.at 92 (by decide) (by decide)) (f.at 93 (by decide) (by decide)) (f.at 94 (by decide) (by decide))⟩
theorem PRT.fr {h h1 h2 : aH} (T : PRT h h1) (f : Fr [128, 129] [] h1 h2) : PRT h h2 := by
  intro i b hi hb
  rw [f.at 127 (by decide) (by decide)]
  exact T i b hi hb
theorem PR1_iff {h : aH} {L lim : Int} {bd : Nat → Int} {a b : Nat} (e : lim = CSB h bd (WOF h ·) - L) : (lim ≤ SAV h bd a b ↔ PR1 h L bd a b = true) := by
  unfold PR1 SAV
  rw [decide_eq_true_iff, e]
  omega
theorem c_so13 {N : Nat} {C : Int → aH → Prop} {h h1 : aH} {bd : Nat → Int} {a z : Nat} {L lim : Int} (P : PI h) (T : PRT h h1) (B : BDO h bd) (Ln : LIN h bd h1) (h16 : h1 16 = h 16) (e : lim = CSB h bd (WOF h ·) - L) (hz : z < 2) (ha : a < NBD h) :
    ∀ (d b : Nat), d = NBD h - b → a < b → b ≤ NBD h → (ffst (PR1 h L bd a) d b = none → WI N 164 3 [(0, .inr (.inr 126)), (1, .inr (.inl lim)), (3, .inl (z : Int)), (4, .inl ((a : Int) + 1))] h1 C) → (∀ v, ffst (PR1 h L bd a) d b = some v → C 1 (am_up h1 129 z (100 * (a : Int) + (v : Int)))) →
    WI N 164 13 [(0, .inr (.inr 126)), (1, .inr (.inl lim)), (3, .inl (z : Int)), (4, .inl (a : Int)), (5, .inl (b : Int))] h1 C := by
  have hz2 := P.1.1
  unfold okSz at hz2
  have b12 : NBD h ≤ 12 := by unfold NBD; omega
  have eb : h 16 14 = (NBD h : Int) := by unfold NBD; omega
  intro d
  induction d with
  | zero =>
    intro b hd hab hb hN hS
    refine w_164_13 ?_
    rw [h16, eb]
    exact ⟨fun _ => ck_rg (by omega) (hN rfl), fun q => by omega⟩
  | succ d ih =>
    intro b hd hab hb hN hS
    refine w_164_13 ?_
    rw [h16, eb]
    refine ⟨fun q => by omega, fun _ => c_saved P T B Ln ha (by omega) (by omega) ?_⟩
    have hp := PR1_iff (a := a) (b := b) e
    simp only [sgn_lt]
    refine ⟨fun q => ?_, fun q => ?_⟩
    · have e1 : PR1 h L bd a b = false := by
        cases y : PR1 h L bd a b
        · rfl
        · have := hp.mpr y; omega
      rw [ffst_f e1] at hN hS
      exact ck_rg (by omega) (ih (b + 1) (by omega) (by omega) (by omega) hN hS)
    · have e1 : PR1 h L bd a b = true := hp.mp (by omega)
      have := hS b (ffst_t e1)
      (repeat first | refine ck_ix (by omega) ?_ | refine ck_rg (by omega) ?_ | refine ck_rl (by omega) ?_)
      rw [Int.toNat_natCast]
      exact ck_t1 this
theorem c_so3 {N : Nat} {C : Int → aH → Prop} {h h1 : aH} {bd : Nat → Int} {z : Nat} {L lim : Int} (P : PI h) (T : PRT h h1) (B : BDO h bd) (Ln : LIN h bd h1) (h16 : h1 16 = h 16) (e : lim = CSB h bd (WOF h ·) - L) (hz : z < 2) :
    ∀ (d a : Nat), d = NBD h - a → a ≤ NBD h → (FPP (PR1 h L bd) (NBD h) d a = none → C 0 h1) → (∀ v, FPP (PR1 h L bd) (NBD h) d a = some v → C 1 (am_up h1 129 z (cdP v))) →
    WI N 164 3 [(0, .inr (.inr 126)), (1, .inr (.inl lim)), (3, .inl (z : Int)), (4, .inl (a : Int))] h1 C := by
  have hz2 := P.1.1
  unfold okSz at hz2
  have b12 : NBD h ≤ 12 := by unfold NBD; omega
  have eb : h 16 14 = (NBD h : Int) := by unfold NBD; omega
  intro d
  induction d with
  | zero =>
    intro a hd ha hN hS
    refine w_164_3 ?_
    rw [h16, eb]
    exact ⟨fun _ => ck_t0 (hN rfl), fun q => by omega⟩
  | succ d ih =>
    intro a hd ha hN hS
    refine w_164_3 ?_
    rw [h16, eb]
    refine ⟨fun q => by omega, fun _ => ck_rg (by omega) (c_so13 P T B Ln h16 e hz (by omega) (NBD h - (a + 1)) (a + 1) rfl (by omega) (by omega) (fun q => ?_) (fun v q => ?_))⟩
    · rw [FPP_none q] at hN hS
      exact ih (a + 1) (by omega) (by omega) hN hS
    · exact hS (a, v) (FPP_some q)
theorem c_seekOne {N : Nat} {C : Int → aH → Prop} {h h1 : aH} {bd : Nat → Int} {z : Nat} {L lim : Int} (P : PI h) (T : PRT h h1) (B : BDO h bd) (Ln : LIN h bd h1) (h16 : h1 16 = h 16) (e : lim = CSB h bd (WOF h ·) - L) (hz : z < 2) (hN : F1 h L bd = none → C 0 h1) (hS : ∀ v, F1 h L bd = some v → C 1 (am_up h1 129 z (cdP v))) :
    WI N 164 0 [(0, .inr (.inr 126)), (1, .inr (.inl lim)), (3, .inl (z : Int))] h1 C :=
  w_164_0 (c_so3 P T B Ln h16 e hz (NBD h) 0 rfl (Nat.zero_le _) hN hS)
theorem SWB_SWB (a b : Nat) (bd : Nat → Int) : SWB a b (SWB a b bd) = bd := by funext s; exact swB_swB _ _ _
theorem c_turn {N : Nat} {C : aH → Prop} {h h1 : aH} {bd : Nat → Int} {a b : Nat} (P : PI h) (Ln : LIN h bd h1) (ha : a < NBD h) (hb : b < NBD h) (hC : ∀ h', Fr [128] [] h1 h' → LIN h (SWB a b bd) h' → C h') : WV N 167 0 [(0, .inr (.inr 126)), (1, .inl (a : Int)), (2, .inl (b : Int))] h1 C := by
  have hz2 := P.1.1
  unfold okSz at hz2
  have b12 : NBD h ≤ 12 := by unfold NBD; omega
  refine w_167_0 ?_
  (repeat first | refine ck_ix (by omega) ?_ | refine ck_rg (by omega) ?_ | refine ck_rl (by omega) ?_)
  simp only [Int.toNat_natCast]
  refine hC _ ((Fr.rfl.up (by decide) (by decide)).up (by decide) (by decide)) (fun x hx => ?_)
  have key : ∀ x' : Nat, x' < NBD h → (x' : Int) = swB a b x → am_up (am_up h1 128 a (h1 128 b)) 128 b (h1 128 a) 128 x = h1 128 x' → ((am_up (am_up h1 128 a (h1 128 b)) 128 b (h1 128 a) 128 x = -2 ∧ ∀ s, s < NSL h → SWB a b bd s ≠ x) ∨ ∃ s, s < NSL h ∧ am_up (am_up h1 128 a (h1 128 b)) 128 b (h1 128 a) 128 x = (s : Nat) ∧ SWB a b bd s = x) := by
    intro x' hx' e1 e2
    rw [e2]
    rcases Ln x' hx' with ⟨i1, i2⟩ | ⟨s, s1, s2, s3⟩
    · refine Or.inl ⟨i1, fun s hs y => i2 s hs ?_⟩
      have y : swB a b (bd s) = x := y
      rw [e1, ← y, swB_swB]
    · refine Or.inr ⟨s, s1, s2, ?_⟩
      show swB a b (bd s) = x
      rw [s3, e1, swB_swB]
  by_cases q1 : x = a
  · subst q1
    refine key b hb (by unfold swB; rw [if_pos rfl]) ?_
    rw [up_in, up_in]
    by_cases q2 : x = b
    · rw [if_pos q2, q2]
    · rw [if_neg q2, if_pos rfl]
  · by_cases q2 : x = b
    · subst q2
      refine key a ha (by unfold swB; rw [if_neg (by omega), if_pos rfl]) ?_
      rw [up_in, if_pos rfl]
    · refine key x hx (by unfold swB; rw [if_neg (by omega), if_neg (by omega)]) ?_
      rw [up_in, up_in, if_neg q2, if_neg q1]
theorem csb_bdl {h : aH} (P : PI h) (bd : Nat → Int) : 0 ≤ CSB h bd (WOF h ·) ∧ CSB h bd (WOF h ·) ≤ 1080000000000000000 := CSB_bd P _ _
theorem c_st13 {N : Nat} {C : Int → aH → Prop} {h h0 : aH} {bd : Nat → Int} {a : Nat} {L lim : Int} (P : PI h) (B : BDO h bd) (e : lim = CSB h bd (WOF h ·) - L) (hL : 0 ≤ L ∧ L ≤ 1000000000000000000) (ha : a < NBD h) :
    ∀ (d b : Nat) (h1 : aH), d = NBD h - b → a < b → b ≤ NBD h → Fr [128] [] h0 h1 → PRT h h1 → LIN h bd h1 → h1 16 = h 16 → (ffst (PR2 h L bd a) d b = none → ∀ h', Fr [128] [] h0 h' → PRT h h' → LIN h bd h' → h' 16 = h 16 → WI N 166 3 [(0, .inr (.inr 126)), (1, .inr (.inl lim)), (3, .inl ((a : Int) + 1))] h' C) → (∀ v, ffst (PR2 h L bd a) d b = some v → ∀ h', Fr [128, 129] [] h0 h' → h' 129 0 = cdP (a, v) → h' 129 1 = cdO (F1 h L (SWB a v bd)) → C 1 h') →
    WI N 166 13 [(0, .inr (.inr 126)), (1, .inr (.inl lim)), (3, .inl (a : Int)), (4, .inl (b : Int))] h1 C := by
  have hz2 := P.1.1
  unfold okSz at hz2
  have b12 : NBD h ≤ 12 := by unfold NBD; omega
  have eb : h 16 14 = (NBD h : Int) := by unfold NBD; omega
  intro d
  induction d with
  | zero =>
    intro b h1 hd hab hb f T Ln h16 hN hS
    refine w_166_13 ?_
    rw [h16, eb]
    exact ⟨fun _ => ck_rg (by omega) (hN rfl h1 f T Ln h16), fun q => by omega⟩
  | succ d ih =>
    intro b h1 hd hab hb f T Ln h16 hN hS
    refine w_166_13 ?_
    rw [h16, eb]
    refine ⟨fun q => by omega, fun _ => c_saved P T B Ln ha (by omega) (by omega) ?_⟩
    have c1 := csb_bdl P bd
    have c2 := csb_bdl P (SWB a b bd)
    have el : lim - SAV h bd a b = CSB h (SWB a b bd) (WOF h ·) - L := by unfold SAV; omega
    refine ck_rl (by omega) (c_turn P Ln ha (show b < NBD h by omega) (fun h2 f2 Ln2 => ?_))
    have B2 := B.sw ha (show b < NBD h by omega)
    have T2 := T.fr (f2.mono (by decide) (by decide))
    have g16 : h2 16 = h 16 := by rw [f2.at 16 (by decide) (by decide), h16]
    refine c_seekOne (z := 1) P T2 B2 Ln2 g16 el (by decide) (fun q => ⟨fun _ => ?_, fun z => absurd rfl z⟩) (fun v q => ⟨fun z => absurd z (by decide), fun _ => ?_⟩)
    · have e2 : PR2 h L bd a b = false := by unfold PR2; rw [q]; rfl
      rw [ffst_f e2] at hN hS
      refine c_turn P Ln2 ha (show b < NBD h by omega) (fun h3 f3 Ln3 => ?_)
      rw [SWB_SWB] at Ln3
      exact ck_rg (by omega) (ih (b + 1) h3 (by omega) (by omega) (by omega) ((f.trans f2).trans f3) (T2.fr (f3.mono (by decide) (by decide))) Ln3 (by rw [f3.at 16 (by decide) (by decide), g16]) hN hS)
    · have e2 : PR2 h L bd a b = true := by unfold PR2; rw [q]; rfl
      refine ck_rg (by omega) (ck_rg (by omega) (ck_ix (by omega) (ck_t1 (hS b (ffst_t e2) _ ((((f.trans f2).mono (by decide) (by decide)).up (by decide) (by decide)).up (by decide) (by decide)) ?_ ?_))))
      · rw [up_same]; rfl
      · rw [up_ne (by decide), up_same, q]; rfl
theorem c_st3 {N : Nat} {C : Int → aH → Prop} {h h0 : aH} {bd : Nat → Int} {L lim : Int} (P : PI h) (B : BDO h bd) (e : lim = CSB h bd (WOF h ·) - L) (hL : 0 ≤ L ∧ L ≤ 1000000000000000000) :
    ∀ (d a : Nat) (h1 : aH), d = NBD h - a → a ≤ NBD h → Fr [128] [] h0 h1 → PRT h h1 → LIN h bd h1 → h1 16 = h 16 → (FPP (PR2 h L bd) (NBD h) d a = none → ∀ h', Fr [128, 129] [] h0 h' → C 0 h') → (∀ v, FPP (PR2 h L bd) (NBD h) d a = some v → ∀ h', Fr [128, 129] [] h0 h' → h' 129 0 = cdP v → h' 129 1 = cdO (F1 h L (SWB v.1 v.2 bd)) → C 1 h') →
    WI N 166 3 [(0, .inr (.inr 126)), (1, .inr (.inl lim)), (3, .inl (a : Int))] h1 C := by
  have hz2 := P.1.1
  unfold okSz at hz2
  have b12 : NBD h ≤ 12 := by unfold NBD; omega
  have eb : h 16 14 = (NBD h : Int) := by unfold NBD; omega
  intro d
  induction d with
  | zero =>
    intro a h1 hd ha f T Ln h16 hN hS
    refine w_166_3 ?_
    rw [h16, eb]
    exact ⟨fun _ => ck_t0 (hN rfl h1 (f.mono (by decide) (by decide))), fun q => by omega⟩
  | succ d ih =>
    intro a h1 hd ha f T Ln h16 hN hS
    refine w_166_3 ?_
    rw [h16, eb]
    refine ⟨fun q => by omega, fun _ => ck_rg (by omega) (c_st13 P B e hL (by omega) (NBD h - (a + 1)) (a + 1) h1 rfl (by omega) (by omega) f T Ln h16 (fun q h2 f2 T2 Ln2 g16 => ?_) (fun v q h2 f2 v0 v1 => ?_))⟩
    · rw [FPP_none q] at hN hS
      exact ih (a + 1) h2 (by omega) (by omega) f2 T2 Ln2 g16 hN hS
    · exact hS (a, v) (FPP_some q) h2 f2 v0 v1
theorem c_fc {N : Nat} {C : Int → aH → Prop} {h : aH} {l : Int} (P : PI h) (hl : 0 ≤ l ∧ l ≤ 99) (hC : ∀ h', NGT h h' → (1 ≤ (SWR h l).1 → h' 129 0 = (SWR h l).2.1) → ((SWR h l).1 = 2 → h' 129 1 = (SWR h l).2.2) → C (SWR h l).1 h') : ∀ (d i : Nat) (h1 : aH), d = NSL h - i → i ≤ NSL h → NGT h h1 → PRT h h1 →
    WI N 161 7 [(0, .inr (.inr 126)), (1, .inl l), (2, .inr (.inl (sumN (fun s => SBW h s (h 63 s) (WOF h s)) i))), (4, .inl (i : Int))] h1 C := by
  have hz := P.1.1
  unfold okSz at hz
  have n12 : NSL h ≤ 12 := by unfold NSL; omega
  have en : h 16 16 = (NSL h : Int) := by unfold NSL; omega
  have eb : h 16 14 = (NBD h : Int) := by unfold NBD; omega
  obtain ⟨s0, s8, -⟩ := P.2.2.1
  intro d
  induction d with
  | zero =>
    intro i h1 hd hi G T
    have : i = NSL h := by omega
    subst this
    have kp := G.1.kp (by decide)
    have c1 := csb_bdl P (h 63)
    have hp := p100_8 (n := (h 58 10).toNat) (by omega)
    have hLm := mul_bd hl.1 hl.2 (Int.le_of_lt hp.1) hp.2
    have eL : l * 100 ^ (h 58 10).toNat = LIM h l := rfl
    refine w_161_7 ?_
    rw [G.1.at 16 (by decide) (by decide), G.1.at 58 (by decide) (by decide), G.1.at 2 (by decide) (by decide), en, P.2.2.2.2 (h 58 10).toNat (by omega)]
    refine ⟨fun _ => ?_, fun z => absurd (Int.le_refl _) z⟩
    rw [show sumN (fun s => SBW h s (h 63 s) (WOF h s)) (NSL h) = CSB h (h 63) (WOF h ·) from rfl]
    rw [eL] at hLm ⊢
    (repeat first | refine ck_ix (by omega) ?_ | refine ck_rg (by omega) ?_ | refine ck_rl (by omega) ?_)
    simp only [sgn_gt]
    have key := hC
    unfold SWR at key
    refine ⟨fun gt => ?_, fun le => ?_⟩
    · rw [if_neg (by omega)] at key
      have f1 : Fr [128] [] h1 (am_cp h1 64 0 128 0 12) := Fr.rfl.cp (by decide) (by decide)
      have T1 := T.fr (f1.mono (by decide) (by decide))
      have g16 : am_cp h1 64 0 128 0 12 16 = h 16 := by rw [f1.at 16 (by decide) (by decide), G.1.at 16 (by decide) (by decide)]
      have Ln1 : LIN h (h 63) (am_cp h1 64 0 128 0 12) := by
        intro x hx
        have hx12 : x < 12 := by unfold NBD at hx; omega
        have ex : am_cp h1 64 0 128 0 12 128 x = h 64 x := by
          rw [cp_in, if_pos ⟨Nat.zero_le _, by omega⟩, kp.at 64 (by decide)]
          simp
        rw [ex]
        rcases P.2.1.2 x (by omega) with q | ⟨q1, q2, q3⟩
        · refine Or.inl ⟨q, fun s hs z => ?_⟩
          have := (P.2.1.1 s (by omega)).2.2
          rw [z, Int.toNat_natCast, q] at this
          omega
        · exact Or.inr ⟨(h 64 x).toNat, by omega, by omega, q3⟩
      refine ⟨by omega, ?_⟩
      refine c_seekOne (z := 0) P T1 (bdo_h P) Ln1 g16 (L := LIM h l) (by omega) (by decide) (fun q => ⟨fun _ => ?_, fun z => absurd rfl z⟩) (fun v q => ⟨fun z => absurd z (by decide), fun _ => ?_⟩)
      · rw [q] at key
        refine w_166_0 (c_st3 (h0 := am_cp h1 64 0 128 0 12) P (bdo_h P) (L := LIM h l) (by omega) (by omega) (NBD h) 0 _ rfl (Nat.zero_le _) Fr.rfl T1 Ln1 g16 (fun q2 h2 f2 => ⟨fun _ => ?_, fun z => absurd rfl z⟩) (fun v q2 h2 f2 v0 v1 => ⟨fun z => absurd z (by decide), fun _ => ?_⟩))
        · rw [show F2 h (LIM h l) (h 63) = none from q2] at key
          exact key h2 (G.fr ((f1.mono (by decide) (by decide)).trans (f2.mono (by decide) (by decide)))) (fun z => by dsimp only at z; omega) (fun z => by dsimp only at z; omega)
        · rw [show F2 h (LIM h l) (h 63) = some v from q2] at key
          exact key h2 (G.fr ((f1.mono (by decide) (by decide)).trans (f2.mono (by decide) (by decide)))) (fun _ => v0) (fun _ => v1)
      · rw [q] at key
        exact key _ (G.fr ((f1.mono (by decide) (by decide)).up (by decide) (by decide))) (fun _ => up_same _ _ _ _) (fun z => by dsimp only at z; omega)
    · rw [if_pos (by omega)] at key
      exact key h1 G (fun z => by dsimp only at z; omega) (fun z => by dsimp only at z; omega)
  | succ d ih =>
    intro i h1 hd hi G T
    have hs : (i : Int) < h 16 16 := by omega
    have hl2 := P.2.1.1 i hs
    have kp := G.1.kp (by decide)
    refine w_161_7 ?_
    rw [G.1.at 16 (by decide) (by decide), en]
    refine ⟨fun z => by omega, fun _ => ck_ix (by omega) ?_⟩
    rw [Int.toNat_natCast, kp.at 63 (by decide), show h 63 i = (((h 63 i).toNat : Nat) : Int) by omega]
    refine c_priceOf P T (by omega) (show (h 63 i).toNat < NBD h by omega) ?_
    rw [show (((h 63 i).toNat : Nat) : Int) = h 63 i by omega]
    have b1 := sumN_bd (f := fun s => SBW h s (h 63 s) (WOF h s)) (B := 90000000000000000) (by omega) (n := i) (fun j hj => SBW_bd P (by omega) _ _)
    have b2 := SBW_bd P hs (h 63 i) (WOF h i)
    refine ck_rl (by omega) (ck_rg (by omega) ?_)
    exact ih (i + 1) h1 (by omega) (by omega) G T
theorem c_fewestChanges {N : Nat} {C : Int → aH → Prop} {h : aH} {l : Int} (P : PI h) (hs : scr h) (hl : 0 ≤ l ∧ l ≤ 99) (hC : ∀ h', NGT h h' → (1 ≤ (SWR h l).1 → h' 129 0 = (SWR h l).2.1) → ((SWR h l).1 = 2 → h' 129 1 = (SWR h l).2.2) → C (SWR h l).1 h') : WI N 161 0 [(0, .inr (.inr 126)), (1, .inl l)] h C :=
  w_161_0 (c_setPrices P hs (fun h1 G T => c_fc P hl hC _ 0 h1 rfl (Nat.zero_le _) G T))
theorem c_isLimit {N : Nat} {C : Int → aH → Prop} {h : aH} {l : Int} (h1 : 0 ≤ l ∧ l ≤ 99 → C 1 h) (h0 : ¬ (0 ≤ l ∧ l ≤ 99) → C 0 h) : WI N 160 0 [(0, .inl l)] h C :=
  w_160_0 ⟨fun a => ck_t0 (h0 (by omega)), fun a => ⟨fun b => ck_t0 (h0 (by omega)), fun b => ck_t1 (h1 (by omega))⟩⟩
theorem c_swaps {N : Nat} {C : Int → aH → Prop} {h : aH} {l : Int} (P : PI h) (hs : scr h) (hC : ∀ h', Fr SNX [] h h' → scr h' → C (vSwaps h l) h') : WI N 159 0 [(0, .inr (.inr 9)), (1, .inl l)] h C := by
  unfold vSwaps at hC
  refine w_159_0 (c_isLimit (fun q => z1 ?_) (fun q => z0 ?_))
  · rw [if_pos q] at hC
    exact c_fewestChanges P hs q (fun h2 G _ _ => hC h2 G.1 G.2.1)
  · rw [if_neg q] at hC; exact hC h Fr.rfl hs
theorem SWR_le (h : aH) (l : Int) : (SWR h l).1 = -2 ∨ (SWR h l).1 = 0 ∨ (SWR h l).1 = 1 ∨ (SWR h l).1 = 2 := by
  unfold SWR
  split
  · exact Or.inr (Or.inl rfl)
  · split
    · exact Or.inr (Or.inr (Or.inl rfl))
    · split
      · exact Or.inr (Or.inr (Or.inr rfl))
      · exact Or.inl rfl
theorem c_swapAt {N : Nat} {C : Int → aH → Prop} {h : aH} {l i : Int} (P : PI h) (hs : scr h) (hC : ∀ h', Fr SNX [] h h' → scr h' → C (vSwapAt h l i) h') : WI N 168 0 [(0, .inr (.inr 9)), (1, .inl l), (2, .inl i)] h C := by
  unfold vSwapAt at hC
  have le := SWR_le h l
  refine w_168_0 (c_isLimit (fun q => y1 ?_) (fun q => y0 ?_))
  · rw [if_pos q] at hC
    refine c_fewestChanges P hs q (fun h2 G v0 v1 => ⟨fun a => ?_, fun a => ⟨fun b => ?_, fun b => ?_⟩⟩)
    · rw [if_neg (by omega)] at hC; exact hC h2 G.1 G.2.1
    · rw [if_neg (by omega)] at hC; exact hC h2 G.1 G.2.1
    · rw [if_pos (by omega)] at hC
      refine ck_ix (by omega) ?_
      by_cases e : i = 0
      · rw [if_pos e] at hC
        rw [e, show (0 : Int).toNat = 0 from rfl, v0 (by omega)]
        exact hC h2 G.1 G.2.1
      · rw [if_neg e] at hC
        rw [show i.toNat = 1 by omega, v1 (by omega)]
        exact hC h2 G.1 G.2.1
  · rw [if_neg q] at hC; exact hC h Fr.rfl hs
