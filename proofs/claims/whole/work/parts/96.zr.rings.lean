/-! FEWEST: whom a RING surely wakes -/
theorem hrN_mem {hour : Nat → Int} : ∀ (k j : Nat), j < (hrN hour k).2 → ∃ i, i < k ∧ hour i ≠ -2 ∧ (hrN hour k).1 j = hour i
  | 0, j, h => absurd h (Nat.not_lt_zero j)
  | k + 1, j, h => by
    have ih := hrN_mem (hour := hour) k
    by_cases e : hour k = -2
    · rw [hrN_s2 e] at h ⊢
      obtain ⟨i, i1, i2⟩ := ih j h
      exact ⟨i, by omega, i2⟩
    · obtain ⟨q1, q2⟩ := hrN_in (f := (hrN hour k).1) (k := k) e (fun j _ => rfl)
      by_cases c : posF (hrN hour k).1 (hour k) (hrN hour k).2 0 < (hrN hour k).2 ∧ (hrN hour k).1 (posF (hrN hour k).1 (hour k) (hrN hour k).2 0) = hour k
      · rw [q1 c] at h ⊢
        obtain ⟨i, i1, i2⟩ := ih j h
        exact ⟨i, by omega, i2⟩
      · obtain ⟨r1, r2⟩ := q2 c
        have hv := r2 (insH (hrN hour k).1 (hrN hour k).2 (hour k)) (fun j _ => rfl) j h
        rw [r1] at h
        rw [← hv]
        have pr := posF_rg (hrN hour k).1 (hour k) (hrN hour k).2 0
        unfold insH
        by_cases c1 : j < posF (hrN hour k).1 (hour k) (hrN hour k).2 0
        · rw [if_pos c1]
          obtain ⟨i, i1, i2⟩ := ih j (by omega)
          exact ⟨i, by omega, i2⟩
        · rw [if_neg c1]
          by_cases c2 : j = posF (hrN hour k).1 (hour k) (hrN hour k).2 0
          · rw [if_pos c2]
            exact ⟨k, by omega, e, rfl⟩
          · rw [if_neg c2]
            obtain ⟨i, i1, i2⟩ := ih (j - 1) (by omega)
            exact ⟨i, by omega, i2⟩
def NHR (h : aH) : Nat := (hrN (h 23) (NSL h)).2
def HOU (h : aH) (j : Nat) : Int := (hrN (h 23) (NSL h)).1 j
theorem NHR_le (h : aH) : NHR h ≤ NSL h := hrN_le _ _
theorem HOU_rg {h : aH} (P : PI h) {j : Nat} (hj : j < NHR h) : 0 ≤ HOU h j ∧ HOU h j ≤ 399 := by
  obtain ⟨i, i1, i2, i3⟩ := hrN_mem _ _ hj
  have := (P.1.2.2.2.1 i (by unfold NSL at i1; omega)).2.1
  unfold HOU
  rw [i3]
  omega
def SAT (h : aH) (c : Nat) (m : Int) : Int := max 0 (min 399 (m + h 20 c))
theorem SAT_rg (h : aH) (c : Nat) (m : Int) : 0 ≤ SAT h c m ∧ SAT h c m ≤ 399 := by unfold SAT; omega
def WKB (h : aH) (v b at_ : Int) (i : Nat) : Bool := (HASH h i && decide (at_ ≤ h 23 i)) && (decide (AGN h i (h 23 i - at_) = 0) && decide (HEAR h i (h 63 i) (WOF h i) v b at_ = 10))
def WKS (h : aH) (v b at_ : Int) : Nat := bset (WKB h v b at_) (NSL h)
/-- of one clock, from that bed, at that hour -/
def RNG (h : aH) (c b j : Nat) : Nat := WKS h (h 19 c) b (SAT h c (HOU h j))
theorem WKS_kp {h h' : aH} (kp : Kp h h') : WKS h' = WKS h := by
  funext v b a
  have e : WKB h' = WKB h := by
    funext v b a i
    unfold WKB
    rw [HASH_kp kp, kp.agn, kp.hear, kp.wof, kp.at 23 (by decide), kp.at 63 (by decide)]
  unfold WKS NSL
  rw [e, kp.at 16 (by decide)]
theorem RNG_lt (h : aH) (c b j : Nat) : RNG h c b j < 2 ^ NSL h := bset_lt _ _ (Nat.le_refl _)
theorem c_wkb {N : Nat} {C : Int → aH → Prop} {h : aH} {v at_ : Int} {b : Nat} (P : PI h) (hb : b < NBD h) (ha : 0 ≤ at_ ∧ at_ ≤ 399) (hC : ∀ h', Fr [28, 31, 34, 96, 97] [] h h' → scr h' → C (WKS h v b at_ : Nat) h') : ∀ (d i : Nat) (h1 : aH), d = NSL h - i → i ≤ NSL h → Fr [28, 31, 34, 96, 97] [] h h1 → scr h1 →
    WI N 136 5 [(0, .inr (.inr 110)), (1, .inl v), (2, .inl (b : Int)), (3, .inl at_), (4, .inl (bset (WKB h v b at_) i : Nat)), (5, .inl (i : Int))] h1 C := by
  have hz := P.1.1
  unfold okSz at hz
  have n12 : NSL h ≤ 12 := by unfold NSL; omega
  have en : h 16 16 = (NSL h : Int) := by unfold NSL; omega
  intro d
  induction d with
  | zero =>
    intro i h1 hd hi f sc
    have : i = NSL h := by omega
    subst this
    refine w_136_5 ?_
    rw [f.at 16 (by decide) (by decide), en]
    exact ⟨fun _ => hC h1 f sc, fun z => absurd (Int.le_refl _) z⟩
  | succ d ih =>
    intro i h1 hd hi f sc
    have kp := f.kp (by decide)
    have hs : (i : Int) < h 16 16 := by omega
    have g2 := (P.1.2.2.2.1 i hs).2.1
    have hl := P.2.1.1 i hs
    have nx := fun h2 => ih (i + 1) h2 (by omega) (by omega)
    rw [show bset (WKB h v b at_) (i + 1) = bif WKB h v b at_ i then bset (WKB h v b at_) i ||| 2 ^ i else bset (WKB h v b at_) i from rfl] at nx
    have bl := bset_lt (WKB h v b at_) i (show i ≤ NSL h by omega)
    have no : WKB h v b at_ i = false → ∀ h2, Fr [28, 31, 34, 96, 97] [] h h2 → scr h2 → WI N 136 63 [(0, .inr (.inr 110)), (1, .inl v), (2, .inl (b : Int)), (3, .inl at_), (4, .inl (bset (WKB h v b at_) i : Nat)), (5, .inl (i : Int))] h2 C := by
      intro e h2 f2 s2
      have := nx h2 f2 s2
      rw [e] at this
      exact w_136_63 (ck_rg (by omega) this)
    refine w_136_5 ?_
    rw [f.at 16 (by decide) (by decide), f.at 23 (by decide) (by decide), en]
    refine ⟨fun z => by omega, fun _ => ck_ix (by omega) ?_⟩
    rw [Int.toNat_natCast]
    refine ⟨fun e => w_136_25 (w_136_28 ⟨fun _ => no (by unfold WKB; rw [HASH_f e]; rfl) h1 f sc, fun z => absurd rfl z⟩), fun e => ⟨fun lt => w_136_25 (w_136_28 ⟨fun _ => no (by unfold WKB; rw [decide_eq_false (by omega)]; simp) h1 f sc, fun z => absurd rfl z⟩), fun ge => w_136_28 ⟨fun z => absurd z (by decide), fun _ => ?_⟩⟩⟩
    have eW : WKB h v b at_ i = (decide (AGN h i (h 23 i - at_) = 0) && decide (HEAR h i (h 63 i) (WOF h i) v b at_ = 10)) := by
      unfold WKB
      rw [HASH_t e, decide_eq_true (by omega)]; rfl
    refine ck_rg (by omega) (c_asleepAgain (kp.pi P).1 sc.1 ⟨by omega, by rw [kp.at 16 (by decide)]; exact hs⟩ ⟨by omega, by omega⟩ (fun h2 f2 d2 => ?_))
    rw [kp.agn]
    have f12 := f.trans (f2.mono (C' := [28, 31, 34, 96, 97]) (D' := []) (by decide) (by decide))
    have s2 : scr h2 := ⟨d2, by rw [f2.at 28 (by decide) (by decide)]; exact sc.2⟩
    have kp2 := f12.kp (by decide)
    refine ⟨fun ne => no (by rw [eW, decide_eq_false ne]; rfl) h2 f12 s2, fun q => ck_ix (by omega) (w_77_0 ?_)⟩
    have q := Decidable.not_not.mp q
    have ew : am_and (am_shr (h2 58 11) (i : Int)) 1 = WOF h i := by
      have : WOF h2 i = WOF h i := by rw [kp2.wof]
      exact this
    rw [ew, Int.toNat_natCast, f12.at 63 (by decide) (by decide)]
    refine c_hearing (kp2.pi P).1 s2.2 ⟨by omega, by rw [kp2.at 16 (by decide)]; exact hs⟩ ⟨hl.1, by rw [kp2.at 16 (by decide)]; exact hl.2.1⟩ ⟨by omega, by rw [kp2.at 16 (by decide)]; unfold NBD at hb; omega⟩ (fun h3 f3 e6 => ?_)
    rw [kp2.hear]
    have f13 := f12.trans (f3.mono (C' := [28, 31, 34, 96, 97]) (D' := []) (by decide) (by decide))
    have s3 : scr h3 := ⟨f3.dz (by decide) (by decide) (by decide) s2.1, e6⟩
    refine ⟨fun ne => no (by rw [eW, decide_eq_false (show ¬ HEAR h i (h 63 i) (WOF h i) v b at_ = 10 from ne), Bool.and_false]) h3 f13 s3, fun q2 => ?_⟩
    have q2 := Decidable.not_not.mp q2
    have := nx h3 f13 s3
    rw [eW, decide_eq_true q, decide_eq_true q2] at this
    rw [bt_shl (show i < 31 by omega), bt_or (m31 n12 bl) (m31 n12 (two_lt (by omega)))]
    exact w_136_63 (ck_rg (by omega) this)
theorem c_wokenBy {N : Nat} {C : Int → aH → Prop} {h : aH} {v at_ : Int} {b : Nat} (P : PI h) (sc : scr h) (hb : b < NBD h) (ha : 0 ≤ at_ ∧ at_ ≤ 399) (hC : ∀ h', Fr [28, 31, 34, 96, 97] [] h h' → scr h' → C (WKS h v b at_ : Nat) h') : WI N 136 0 [(0, .inr (.inr 110)), (1, .inl v), (2, .inl (b : Int)), (3, .inl at_)] h C :=
  w_136_0 (c_wkb P hb ha hC _ 0 h rfl (Nat.zero_le _) Fr.rfl sc)
theorem m_wkl3 {N : Nat} {C : Int → aH → Prop} {h : aH} {at_ : Int} {b c : Nat} (P : PI h) (R : RelH h) (Q : RelP h) (hc : (c : Int) < h 16 15) (hb : b < NBD h) (ha : 0 ≤ at_ ∧ at_ ≤ 399) (hC : ∀ h', Fr [159, 160] [] h h' → C (WKS h (h 19 c) b at_ : Nat) h') : ∀ (d i : Nat) (h1 : aH), d = NSL h - i → i ≤ NSL h → Fr [159, 160] [] h h1 →
    WI N 301 10 [(0, .inr (.inr 130)), (1, .inl (c : Int)), (2, .inl (b : Int)), (4, .inl at_), (5, .inl (bset (WKB h (h 19 c) b at_) i : Nat)), (6, .inl (i : Int))] h1 C := by
  have hz := P.1.1
  unfold okSz at hz
  have n12 : NSL h ≤ 12 := by unfold NSL; omega
  have en : h 16 16 = (NSL h : Int) := by unfold NSL; omega
  have hcl := P.1.2.2.1 c hc
  intro d
  induction d with
  | zero =>
    intro i h1 hd hi f
    have : i = NSL h := by omega
    subst this
    have kp := f.kp (by decide)
    have n1 : NSL h1 = NSL h := by unfold NSL; rw [kp.at 16 (by decide)]
    obtain ⟨g1, g2, g3⟩ := m_nsl (kp.pi P) (R.mv f (by decide) (by decide) (by decide))
    refine w_301_10 (ck_ix (by omega) ?_)
    rw [g2, n1]
    exact ⟨fun _ => hC h1 f, fun z => absurd (Int.le_refl _) z⟩
  | succ d ih =>
    intro i h1 hd hi f
    have kp := f.kp (by decide)
    have n1 : NSL h1 = NSL h := by unfold NSL; rw [kp.at 16 (by decide)]
    have R1 := R.mv f (by decide) (by decide) (by decide)
    obtain ⟨g1, g2, g3⟩ := m_nsl (kp.pi P) R1
    have hs : (i : Int) < h 16 16 := by omega
    have gh := (P.1.2.2.2.1 i hs).2.1
    have hl := P.2.1.1 i hs
    obtain ⟨q1, q2⟩ := Q.2.2 i hs
    have nx := fun h2 => ih (i + 1) h2 (by omega) (by omega)
    rw [show bset (WKB h (h 19 c) b at_) (i + 1) = bif WKB h (h 19 c) b at_ i then bset (WKB h (h 19 c) b at_) i ||| 2 ^ i else bset (WKB h (h 19 c) b at_) i from rfl] at nx
    have bl := bset_lt (WKB h (h 19 c) b at_) i (show i ≤ NSL h by omega)
    have no : WKB h (h 19 c) b at_ i = false → ∀ h2, Fr [159, 160] [] h h2 → am_rg ((i : Int) + 1) ∧ WI N 301 10 [(0, .inr (.inr 130)), (1, .inl (c : Int)), (2, .inl (b : Int)), (4, .inl at_), (5, .inl (bset (WKB h (h 19 c) b at_) i : Nat)), (6, .inl ((i : Int) + 1))] h2 C := by
      intro e h2 f2
      have := nx h2 f2
      rw [e] at this
      exact ck_rg (by omega) this
    refine w_301_10 (ck_ix (by omega) ?_)
    rw [g2, n1]
    refine ⟨fun z => by omega, fun _ => m_hour (kp.pi P).1 R1 (by rw [kp.at 16 (by decide)]; exact hs) ?_⟩
    rw [kp.at 23 (by decide)]
    refine ⟨fun lt => no (by unfold WKB; rw [decide_eq_false (show ¬ at_ ≤ h 23 i by omega)]; simp) h1 f, fun ge => ?_⟩
    have eW : WKB h (h 19 c) b at_ i = (decide (AGN h i (h 23 i - at_) = 0) && decide (HEAR h i (h 63 i) (WOF h i) (h 19 c) b at_ = 10)) := by
      unfold WKB
      rw [HASH_t (by omega), decide_eq_true (show at_ ≤ h 23 i by omega)]; rfl
    have b161 : h1 161 i = h 63 i := by rw [f.at 161 (by decide) (by decide)]; exact q1
    have b162 : h1 162 i = WOF h i := by rw [f.at 162 (by decide) (by decide)]; exact q2
    have ec := (R1.2.2.2.1 c (by rw [kp.at 16 (by decide)]; exact hc)).1
    unfold Lv at ec
    rw [show 9 * (h1 130 18).toNat + c = ((9 : Int) * h1 130 18 + (c : Int)).toNat by omega, kp.at 19 (by decide)] at ec
    rw [ec]
    (repeat first | refine ck_ix (by omega) ?_ | refine ck_rg (by omega) ?_ | refine ck_rl (by omega) ?_)
    refine m_hearing (kp.pi P).1 R1 ⟨by omega, by rw [kp.at 16 (by decide)]; exact hs⟩ (by rw [Int.toNat_natCast, b161, kp.at 16 (by decide)]; exact ⟨hl.1, hl.2.1⟩) (by rw [Int.toNat_natCast, b162]; exact WOF_tf h i) ⟨by omega, by rw [kp.at 16 (by decide)]; unfold NBD at hb; omega⟩ (by omega) (fun h2 f2 => ?_)
    rw [Int.toNat_natCast, b161, b162, kp.hear]
    have f12 := f.trans f2
    have kp2 := f12.kp (by decide)
    have R2 := R.mv f12 (by decide) (by decide) (by decide)
    refine ⟨fun ne => no (by rw [eW, decide_eq_false (show ¬ HEAR h i (h 63 i) (WOF h i) (h 19 c) b at_ = 10 from ne), Bool.and_false]) h2 f12, fun q => ?_⟩
    have q := Decidable.not_not.mp q
    refine m_hour (kp2.pi P).1 R2 (by rw [kp2.at 16 (by decide)]; exact hs) ?_
    rw [kp2.at 23 (by decide)]
    refine ck_rg (by omega) (m_asleepAgain (kp2.pi P).1 R2 ⟨by omega, by rw [kp2.at 16 (by decide)]; exact hs⟩ (fun h3 f3 => ?_))
    rw [kp2.agn]
    refine ⟨fun ne => no (by rw [eW, decide_eq_false ne]; rfl) h3 (f12.trans f3), fun q2 => ?_⟩
    have q2 := Decidable.not_not.mp q2
    have := nx h3 (f12.trans f3)
    rw [eW, decide_eq_true q, decide_eq_true q2] at this
    rw [bt_shl (show i < 31 by omega), bt_or (m31 n12 bl) (m31 n12 (two_lt (by omega)))]
    exact ck_rg (by omega) this
theorem m_wakes {N : Nat} {C : Int → aH → Prop} {h : aH} {m : Int} {b c : Nat} (P : PI h) (R : RelH h) (Q : RelP h) (hc : (c : Int) < h 16 15) (hb : b < NBD h) (hm : 0 ≤ m ∧ m ≤ 399) (hC : ∀ h', Fr [159, 160] [] h h' → C (WKS h (h 19 c) b (SAT h c m) : Nat) h') : WI N 301 0 [(0, .inr (.inr 130)), (1, .inl (c : Int)), (2, .inl (b : Int)), (3, .inl m)] h C :=
  w_301_0 (m_soundsAt P.1 R ⟨by omega, hc⟩ hm (m_wkl3 P R Q hc hb (SAT_rg h c m) hC _ 0 h rfl (Nat.zero_le _) Fr.rfl))
