/-! SWAPS: the reference's -/
/-- the reference with those beds -/
def BDM (h : aH) (bd : Nat → Int) (h1 : aH) : Prop := Fr [159, 160, 161, 167, 181] [] h h1 ∧ ∀ s, s < NSL h → h1 161 s = bd s
theorem BDM.fr {h h1 h2 : aH} {bd : Nat → Int} (B : BDM h bd h1) (f : Fr [159, 160, 167, 181] [] h1 h2) : BDM h bd h2 :=
  ⟨B.1.trans (f.mono (by decide) (by decide)), fun s hs => by rw [f.at 161 (by decide) (by decide)]; exact B.2 s hs⟩
theorem m_chg {N : Nat} {C : aH → Prop} {h h1 : aH} {bd : Nat → Int} {a b : Nat} (P : PI h) (R : RelH h) (B : BDO h bd) (M : BDM h bd h1) (hab : a ≠ b) (hC : ∀ h', Fr [161] [] h1 h' → BDM h (SWB a b bd) h' → C h') : WV N 277 0 [(0, .inr (.inr 130)), (1, .inl (a : Int)), (2, .inl (b : Int))] h1 C := by
  have hz := P.1.1
  unfold okSz at hz
  have kp := M.1.kp (by decide)
  exact m_changes (n := NSL h) (bd := bd) (kp.pi P).1 (R.mv M.1 (by decide) (by decide) (by decide)) (by rw [kp.at 16 (by decide)]; unfold NSL; omega) M.2 B.2 (by omega) (fun h2 f2 e2 => hC h2 f2 ⟨M.1.trans (f2.mono (by decide) (by decide)), e2⟩)
theorem m_isCheap {N : Nat} {C : Int → aH → Prop} {h h1 : aH} {bd : Nat → Int} {l : Int} (P : PI h) (R : RelH h) (Q : RelP h) (hl : 0 ≤ l ∧ l ≤ 99) (B : BDO h bd) (M : BDM h bd h1)
    (hY : CSB h bd (WOF h ·) ≤ LIM h l → ∀ h', Fr [159, 160, 167] [] h1 h' → BDM h bd h' → C 1 h') (hN : ¬ CSB h bd (WOF h ·) ≤ LIM h l → ∀ h', Fr [159, 160, 167] [] h1 h' → BDM h bd h' → C 0 h') : WI N 318 0 [(0, .inr (.inr 130)), (1, .inl l)] h1 C := by
  have hz := P.1.1
  unfold okSz at hz
  obtain ⟨s0, s8, -⟩ := P.2.2.1
  have kp := M.1.kp (by decide)
  have Mp := Q.mpl P.2.2.1
  have S := Q.msl P.2.1
  have c1 := csb_bdl P bd
  have hp := p100_8 (n := (h 58 10).toNat) (by omega)
  have hLm := mul_bd hl.1 hl.2 (Int.le_of_lt hp.1) hp.2
  have eL : l * 100 ^ (h 58 10).toNat = LIM h l := rfl
  refine w_318_0 (m_csb (bd := bd) (wl := (WOF h ·)) (kp.pi P) (R.mv M.1 (by decide) (by decide) (by decide)) ?_ ?_ (fun h2 f2 => ?_))
  · rw [kp.at 58 (by decide), kp.at 59 (by decide), kp.at 60 (by decide), kp.at 61 (by decide), kp.at 62 (by decide)]
    exact Mp.keep M.1 (by decide) (by decide) (by decide) (by decide) (by decide)
  · intro t ht
    rw [kp.at 16 (by decide)] at ht ⊢
    obtain ⟨a1, a2, a3, a4⟩ := S t ht
    have ht2 : t < NSL h := by unfold NSL; omega
    rw [M.1.at 162 (by decide) (by decide)]
    exact ⟨M.2 t ht2, a2, B.1 t ht2, a4⟩
  · rw [CSB_kp kp, (M.1.trans (f2.mono (by decide) (by decide))).2 48 (by decide), Mp.1]
    refine m_power (by omega) ?_
    rw [eL] at hLm ⊢
    simp only [sgn_gt]
    exact ck_rl (by omega) ⟨fun z => ck_t0 (hN (by omega) h2 f2 (M.fr (f2.mono (by decide) (by decide)))), fun z => ck_t1 (hY (by omega) h2 f2 (M.fr (f2.mono (by decide) (by decide))))⟩
theorem m_nbd {h : aH} (P : PI h) (R : RelH h) : (0 ≤ h 130 18 ∧ h 130 18 ≤ 1) ∧ h 141 (h 130 18).toNat = (NBD h : Int) ∧ NBD h ≤ 12 := by
  have hz := P.1.1
  unfold okSz at hz
  have hL := R.1
  have e := R.2.1.1
  unfold Lv at e
  refine ⟨by omega, ?_, ?_⟩
  · rw [e]; unfold NBD; omega
  · unfold NBD; omega
theorem m_ss17 {N : Nat} {C : Int → aH → Prop} {h : aH} {bd : Nat → Int} {a : Nat} {l : Int} (P : PI h) (R : RelH h) (Q : RelP h) (hl : 0 ≤ l ∧ l ≤ 99) (B : BDO h bd) (ha : a < NBD h) :
    ∀ (d b : Nat) (h1 : aH), d = NBD h - b → a < b → b ≤ NBD h → BDM h bd h1 → (ffst (PR1 h (LIM h l) bd a) d b = none → ∀ h', BDM h bd h' → WI N 319 9 [(0, .inr (.inr 130)), (1, .inl l), (2, .inl (NBD h : Int)), (3, .inl ((a : Int) + 1))] h' C) → (∀ v, ffst (PR1 h (LIM h l) bd a) d b = some v → ∀ h', BDM h bd h' → h' 181 1 = cdP (a, v) → C 1 h') →
    WI N 319 17 [(0, .inr (.inr 130)), (1, .inl l), (2, .inl (NBD h : Int)), (3, .inl (a : Int)), (4, .inl (b : Int))] h1 C := by
  obtain ⟨-, -, b12⟩ := m_nbd P R
  intro d
  induction d with
  | zero =>
    intro b h1 hd hab hb M hN hS
    exact w_319_17 ⟨fun _ => ck_rg (by omega) (hN rfl h1 M), fun q => by omega⟩
  | succ d ih =>
    intro b h1 hd hab hb M hN hS
    have hb2 : b < NBD h := by omega
    refine w_319_17 ⟨fun q => by omega, fun _ => m_chg P R B M (by omega) (fun h2 f2 M2 => ?_)⟩
    refine m_isCheap P R Q hl (B.sw ha hb2) M2 (fun c h3 f3 M3 => m_chg P R (B.sw ha hb2) M3 (by omega) (fun h4 f4 M4 => ?_)) (fun c h3 f3 M3 => m_chg P R (B.sw ha hb2) M3 (by omega) (fun h4 f4 M4 => ?_))
    · rw [SWB_SWB] at M4
      refine ⟨fun _ => ck_rg (by omega) (ck_rg (by omega) (ck_ix (by omega) (ck_t1 (hS b (ffst_t (decide_eq_true c)) _ (M4.fr (Fr.rfl.up (by decide) (by decide))) ?_)))), fun z => absurd (by decide) z⟩
      rw [up_same]; rfl
    · rw [SWB_SWB] at M4
      rw [ffst_f (decide_eq_false c)] at hN hS
      exact ⟨fun z => absurd rfl z, fun _ => ck_rg (by omega) (ih (b + 1) h4 (by omega) (by omega) (by omega) M4 hN hS)⟩
theorem m_ss9 {N : Nat} {C : Int → aH → Prop} {h : aH} {bd : Nat → Int} {l : Int} (P : PI h) (R : RelH h) (Q : RelP h) (hl : 0 ≤ l ∧ l ≤ 99) (B : BDO h bd) :
    ∀ (d a : Nat) (h1 : aH), d = NBD h - a → a ≤ NBD h → BDM h bd h1 → (FPP (PR1 h (LIM h l) bd) (NBD h) d a = none → ∀ h', BDM h bd h' → C 0 h') → (∀ v, FPP (PR1 h (LIM h l) bd) (NBD h) d a = some v → ∀ h', BDM h bd h' → h' 181 1 = cdP v → C 1 h') →
    WI N 319 9 [(0, .inr (.inr 130)), (1, .inl l), (2, .inl (NBD h : Int)), (3, .inl (a : Int))] h1 C := by
  obtain ⟨-, -, b12⟩ := m_nbd P R
  intro d
  induction d with
  | zero =>
    intro a h1 hd ha M hN hS
    exact w_319_9 ⟨fun _ => ck_t0 (hN rfl h1 M), fun q => by omega⟩
  | succ d ih =>
    intro a h1 hd ha M hN hS
    refine w_319_9 ⟨fun q => by omega, fun _ => ck_rg (by omega) (m_ss17 P R Q hl B (by omega) (NBD h - (a + 1)) (a + 1) h1 rfl (by omega) (by omega) M (fun q h2 M2 => ?_) (fun v q h2 M2 e2 => ?_))⟩
    · rw [FPP_none q] at hN hS
      exact ih (a + 1) h2 (by omega) (by omega) M2 hN hS
    · exact hS (a, v) (FPP_some q) h2 M2 e2
theorem m_secondSwap {N : Nat} {C : Int → aH → Prop} {h h1 : aH} {bd : Nat → Int} {l : Int} (P : PI h) (R : RelH h) (Q : RelP h) (hl : 0 ≤ l ∧ l ≤ 99) (B : BDO h bd) (M : BDM h bd h1) (hN : F1 h (LIM h l) bd = none → ∀ h', BDM h bd h' → C 0 h') (hS : ∀ v, F1 h (LIM h l) bd = some v → ∀ h', BDM h bd h' → h' 181 1 = cdP v → C 1 h') :
    WI N 319 0 [(0, .inr (.inr 130)), (1, .inl l)] h1 C := by
  have kp := M.1.kp (by decide)
  obtain ⟨g1, g2, g3⟩ := m_nbd (kp.pi P) (R.mv M.1 (by decide) (by decide) (by decide))
  refine w_319_0 (ck_ix (by omega) ?_)
  have e : NBD h1 = NBD h := by unfold NBD; rw [kp.at 16 (by decide)]
  rw [g2, e]
  exact m_ss9 P R Q hl B (NBD h) 0 h1 rfl (Nat.zero_le _) M hN hS
/-- with one change, or with two -/
def PRM (h : aH) (L : Int) (bd : Nat → Int) (m : Nat) : Nat → Nat → Bool := if m = 1 then PR1 h L bd else PR2 h L bd
theorem m_sn29 {N : Nat} {C : Int → aH → Prop} {h : aH} {bd : Nat → Int} {a m : Nat} {l : Int} (P : PI h) (R : RelH h) (Q : RelP h) (hl : 0 ≤ l ∧ l ≤ 99) (B : BDO h bd) (ha : a < NBD h) (hm : m = 1 ∨ m = 2) :
    ∀ (d b : Nat) (h1 : aH), d = NBD h - b → a < b → b ≤ NBD h → BDM h bd h1 → (ffst (PRM h (LIM h l) bd m a) d b = none → ∀ h', BDM h bd h' → WI N 317 21 [(0, .inr (.inr 130)), (1, .inl l), (2, .inl (NBD h : Int)), (3, .inl (m : Int)), (4, .inl ((a : Int) + 1))] h' C) → (∀ v, ffst (PRM h (LIM h l) bd m a) d b = some v → ∀ h', BDM h bd h' → h' 181 0 = cdP (a, v) → (m = 2 → h' 181 1 = cdO (F1 h (LIM h l) (SWB a v bd))) → C m h') →
    WI N 317 29 [(0, .inr (.inr 130)), (1, .inl l), (2, .inl (NBD h : Int)), (3, .inl (m : Int)), (4, .inl (a : Int)), (5, .inl (b : Int))] h1 C := by
  obtain ⟨-, -, b12⟩ := m_nbd P R
  intro d
  induction d with
  | zero =>
    intro b h1 hd hab hb M hN hS
    exact w_317_29 ⟨fun _ => ck_rg (by omega) (hN rfl h1 M), fun q => by omega⟩
  | succ d ih =>
    intro b h1 hd hab hb M hN hS
    have hb2 : b < NBD h := by omega
    have no : ∀ h4, PRM h (LIM h l) bd m a b = false → BDM h bd h4 → WI N 317 29 [(0, .inr (.inr 130)), (1, .inl l), (2, .inl (NBD h : Int)), (3, .inl (m : Int)), (4, .inl (a : Int)), (5, .inl ((b : Int) + 1))] h4 C := by
      intro h4 e M4
      rw [ffst_f e] at hN hS
      exact ih (b + 1) h4 (by omega) (by omega) (by omega) M4 hN hS
    refine w_317_29 ⟨fun q => by omega, fun _ => m_chg P R B M (by omega) (fun h2 f2 M2 => ⟨fun hm1 => ?_, fun hm1 => ?_⟩)⟩
    · have em : m = 2 := by omega
      subst em
      refine m_secondSwap P R Q hl (B.sw ha hb2) M2 (fun c h3 M3 => m_chg P R (B.sw ha hb2) M3 (by omega) (fun h4 f4 M4 => ?_)) (fun v c h3 M3 e3 => m_chg P R (B.sw ha hb2) M3 (by omega) (fun h4 f4 M4 => ?_))
      · rw [SWB_SWB] at M4
        refine ⟨fun z => absurd rfl z, fun _ => ck_rg (by omega) (no h4 ?_ M4)⟩
        show PR2 h (LIM h l) bd a b = false
        unfold PR2; rw [c]; rfl
      · rw [SWB_SWB] at M4
        have e : PRM h (LIM h l) bd 2 a b = true := by
          show PR2 h (LIM h l) bd a b = true
          unfold PR2; rw [c]; rfl
        refine ⟨fun _ => ck_rg (by omega) (ck_rg (by omega) (ck_ix (by omega) (hS b (ffst_t e) _ (M4.fr (Fr.rfl.up (by decide) (by decide))) ?_ (fun _ => ?_)))), fun z => absurd (by decide) z⟩
        · rw [up_same]; rfl
        · rw [up_ne (by decide), f4.at 181 (by decide) (by decide), e3, c]; rfl
    · have em : m = 1 := by omega
      subst em
      refine m_isCheap P R Q hl (B.sw ha hb2) M2 (fun c h3 f3 M3 => m_chg P R (B.sw ha hb2) M3 (by omega) (fun h4 f4 M4 => ?_)) (fun c h3 f3 M3 => m_chg P R (B.sw ha hb2) M3 (by omega) (fun h4 f4 M4 => ?_))
      · rw [SWB_SWB] at M4
        refine ⟨fun _ => ck_rg (by omega) (ck_rg (by omega) (ck_ix (by omega) (hS b (ffst_t (show PR1 h (LIM h l) bd a b = true from decide_eq_true c)) _ (M4.fr (Fr.rfl.up (by decide) (by decide))) ?_ (fun z => absurd z (by decide))))), fun z => absurd (by decide) z⟩
        rw [up_same]; rfl
      · rw [SWB_SWB] at M4
        exact ⟨fun z => absurd rfl z, fun _ => ck_rg (by omega) (no h4 (show PR1 h (LIM h l) bd a b = false from decide_eq_false c) M4)⟩
theorem m_sn21 {N : Nat} {C : Int → aH → Prop} {h : aH} {bd : Nat → Int} {m : Nat} {l : Int} (P : PI h) (R : RelH h) (Q : RelP h) (hl : 0 ≤ l ∧ l ≤ 99) (B : BDO h bd) (hm : m = 1 ∨ m = 2) :
    ∀ (d a : Nat) (h1 : aH), d = NBD h - a → a ≤ NBD h → BDM h bd h1 → (FPP (PRM h (LIM h l) bd m) (NBD h) d a = none → ∀ h', BDM h bd h' → WI N 317 15 [(0, .inr (.inr 130)), (1, .inl l), (2, .inl (NBD h : Int)), (3, .inl ((m : Int) + 1))] h' C) → (∀ v, FPP (PRM h (LIM h l) bd m) (NBD h) d a = some v → ∀ h', BDM h bd h' → h' 181 0 = cdP v → (m = 2 → h' 181 1 = cdO (F1 h (LIM h l) (SWB v.1 v.2 bd))) → C m h') →
    WI N 317 21 [(0, .inr (.inr 130)), (1, .inl l), (2, .inl (NBD h : Int)), (3, .inl (m : Int)), (4, .inl (a : Int))] h1 C := by
  obtain ⟨-, -, b12⟩ := m_nbd P R
  intro d
  induction d with
  | zero =>
    intro a h1 hd ha M hN hS
    exact w_317_21 ⟨fun _ => ck_rg (by omega) (hN rfl h1 M), fun q => by omega⟩
  | succ d ih =>
    intro a h1 hd ha M hN hS
    refine w_317_21 ⟨fun q => by omega, fun _ => ck_rg (by omega) (m_sn29 P R Q hl B (by omega) hm (NBD h - (a + 1)) (a + 1) h1 rfl (by omega) (by omega) M (fun q h2 M2 => ?_) (fun v q h2 M2 e2 e3 => ?_))⟩
    · rw [FPP_none q] at hN hS
      exact ih (a + 1) h2 (by omega) (by omega) M2 hN hS
    · exact hS (a, v) (FPP_some q) h2 M2 e2 e3
theorem m_swapsNow {N : Nat} {C : Int → aH → Prop} {h : aH} {l : Int} (P : PI h) (R : RelH h) (Q : RelP h) (hl : 0 ≤ l ∧ l ≤ 99) (hC : ∀ h', BDM h (h 63) h' → (1 ≤ (SWR h l).1 → h' 181 0 = (SWR h l).2.1) → ((SWR h l).1 = 2 → h' 181 1 = (SWR h l).2.2) → C (SWR h l).1 h') : WI N 317 0 [(0, .inr (.inr 130)), (1, .inl l)] h C := by
  have B := bdo_h P
  have M0 : BDM h (h 63) h := ⟨Fr.rfl, fun s hs => (Q.2.2 s (by unfold NSL at hs; omega)).1⟩
  have key := hC
  unfold SWR at key
  refine w_317_0 (m_isCheap P R Q hl B M0 (fun c h1 f1 M1 => ⟨fun z => absurd z (by decide), fun _ => ?_⟩) (fun c h1 f1 M1 => ⟨fun _ => ?_, fun z => absurd rfl z⟩))
  · rw [if_pos c] at key
    exact key h1 M1 (fun z => by dsimp only at z; omega) (fun z => by dsimp only at z; omega)
  · rw [if_neg c] at key
    have kp := M1.1.kp (by decide)
    obtain ⟨g1, g2, g3⟩ := m_nbd (kp.pi P) (R.mv M1.1 (by decide) (by decide) (by decide))
    have e : NBD h1 = NBD h := by unfold NBD; rw [kp.at 16 (by decide)]
    refine ck_ix (by omega) ?_
    rw [g2, e]
    refine w_317_15 ⟨fun z => by omega, fun _ => m_sn21 (m := 1) P R Q hl B (Or.inl rfl) (NBD h) 0 h1 rfl (Nat.zero_le _) M1 (fun q h2 M2 => ?_) (fun v q h2 M2 e2 e3 => ?_)⟩
    · rw [show F1 h (LIM h l) (h 63) = none from q] at key
      refine w_317_15 ⟨fun z => by omega, fun _ => m_sn21 (m := 2) P R Q hl B (Or.inr rfl) (NBD h) 0 h2 rfl (Nat.zero_le _) M2 (fun q2 h3 M3 => ?_) (fun v q2 h3 M3 e2 e3 => ?_)⟩
      · rw [show F2 h (LIM h l) (h 63) = none from q2] at key
        exact w_317_15 ⟨fun _ => key h3 M3 (fun z => by dsimp only at z; omega) (fun z => by dsimp only at z; omega), fun z => absurd (by decide) z⟩
      · rw [show F2 h (LIM h l) (h 63) = some v from q2] at key
        exact key h3 M3 (fun _ => e2) (fun _ => e3 rfl)
    · rw [show F1 h (LIM h l) (h 63) = some v from q] at key
      exact key h2 M2 (fun _ => e2) (fun z => by dsimp only at z; omega)
theorem BDM.relp {h h1 : aH} (Q : RelP h) (M : BDM h (h 63) h1) : RelP h1 := by
  have kp := M.1.kp (by decide)
  unfold RelP
  rw [M.1.2 48 (by decide), M.1.at 162 (by decide) (by decide), M.1.at 163 (by decide) (by decide), M.1.at 164 (by decide) (by decide), M.1.at 165 (by decide) (by decide), M.1.at 166 (by decide) (by decide), kp.wof, kp.at 16 (by decide), kp.at 58 (by decide), kp.at 59 (by decide), kp.at 60 (by decide), kp.at 61 (by decide), kp.at 62 (by decide), kp.at 63 (by decide)]
  exact ⟨Q.1, Q.2.1, fun s hs => ⟨M.2 s (by unfold NSL; omega), (Q.2.2 s hs).2⟩⟩
theorem m_swaps {N : Nat} {C : Int → aH → Prop} {h : aH} {l : Int} (P : PI h) (R : RelH h) (Q : RelP h) (hC : ∀ h', BDM h (h 63) h' → C (vSwaps h l) h') : WI N 316 0 [(0, .inr (.inr 130)), (1, .inl l)] h C := by
  have M0 : BDM h (h 63) h := ⟨Fr.rfl, fun s hs => (Q.2.2 s (by unfold NSL at hs; omega)).1⟩
  unfold vSwaps at hC
  refine w_316_0 (m_in (fun q => z1 ?_) (fun q => z0 ?_))
  · rw [if_pos q] at hC
    exact m_swapsNow P R Q q (fun h2 M _ _ => hC h2 M)
  · rw [if_neg q] at hC; exact hC h M0
theorem m_swapAt {N : Nat} {C : Int → aH → Prop} {h : aH} {l i : Int} (P : PI h) (R : RelH h) (Q : RelP h) (hC : ∀ h', BDM h (h 63) h' → C (vSwapAt h l i) h') : WI N 320 0 [(0, .inr (.inr 130)), (1, .inl l), (2, .inl i)] h C := by
  have M0 : BDM h (h 63) h := ⟨Fr.rfl, fun s hs => (Q.2.2 s (by unfold NSL at hs; omega)).1⟩
  unfold vSwapAt at hC
  have le := SWR_le h l
  refine w_320_0 (m_in (fun q => y1 ?_) (fun q => y0 ?_))
  · rw [if_pos q] at hC
    refine m_swapsNow P R Q q (fun h2 M v0 v1 => ck_rg (by omega) (m_in (fun a => z1 ?_) (fun a => z0 ?_)))
    · rw [if_pos (by omega)] at hC
      refine ck_ix (by omega) ?_
      by_cases e : i = 0
      · rw [if_pos e] at hC
        rw [e, show (0 : Int).toNat = 0 from rfl, v0 (by omega)]
        exact hC h2 M
      · rw [if_neg e] at hC
        rw [show i.toNat = 1 by omega, v1 (by omega)]
        exact hC h2 M
    · rw [if_neg (by omega)] at hC; exact hC h2 M
  · rw [if_neg q] at hC; exact hC h M0
