/-! a DAY by lots, the reference's -/
def PMT (h : aH) (j : Nat) : Int := h 60 (ordI (h 60) (h 58 10).toNat j)
def PHR (h : aH) (s j : Nat) : Int := HRP h (h 59) (h 60) (h 61) (h 62) s (h 63 s) (WOF h s) (ordI (h 60) (h 58 10).toNat j)
theorem LUP_all (h : aH) (a d : Int) (s : Nat) : LUP h a d s = lotU (PMT h) (PHR h s) (AGN h s) a (1000 * d + 40 * (s : Int)) (h 23 s) (unt (PMT h) (h 23 s) (h 58 10).toNat) := by
  have e1 : MTS h (-1) (h 58 10).toNat = PMT h := by funext j; unfold MTS PMT; rw [NUM_all]
  have e2 : HRS h s (-1) (h 58 10).toNat = PHR h s := by funext j; unfold HRS PHR; rw [NUM_all]; rfl
  unfold LUP
  rw [CNT_all, e1, e2]
theorem unt_lo (mt : Nat → Int) (hour : Int) : ∀ c j, j < unt mt hour c → mt j ≤ hour
  | 0, j, z => by unfold unt at z; omega
  | c + 1, j, z => by
    unfold unt at z
    split at z
    · rename_i q
      rcases Nat.eq_or_lt_of_le (Nat.le_of_lt_succ z) with e | e
      · rw [e]; exact q.2
      · exact unt_lo mt hour c j (by rw [q.1]; exact e)
    · exact unt_lo mt hour c j z
theorem m_il58 {N : Nat} {C : Int → aH → Prop} {h : aH} {s k n u : Nat} {kd mn ld wh bd wl : Nat → Int} {a b : Int} {w : Bool} (H : HI h) (R : RelH h) (M : MPL h n kd mn ld wh) (O : OKP h n kd mn ld wh) (S : MSL h bd wl) (ho : MOR h n mn) (hs : (s : Int) < h 16 16) (hb : 0 ≤ b ∧ b ≤ 1000000) (hk : k < n)
    (hC : ∀ h', Fr [159, 160] [] h h' → WI N 344 19 [(0, .inr (.inr 130)), (1, .inl a), (3, .inl (s : Int)), (4, .inl (u : Int)), (5, .inl (bif w || decide (LOT a (b + 2 * (k : Int)) < HRP h kd mn ld wh s (bd s) (wl s) (ordI mn n k)) then 1 else 0)), (6, .inl b), (7, .inl ((k : Int) + 1))] h' C) :
    WI N 344 58 [(0, .inr (.inr 130)), (1, .inl a), (3, .inl (s : Int)), (4, .inl (u : Int)), (5, .inl (bif w then 1 else 0)), (6, .inl b), (7, .inl (k : Int))] h C := by
  have h8 := O.1
  cases w with
  | true => exact w_344_58 ⟨fun _ => w_344_79 (ck_rg (by omega) (hC h Fr.rfl)), fun z => absurd (fun q => absurd q (by decide)) z⟩
  | false =>
    refine w_344_58 ⟨fun z => absurd rfl z, fun _ => ck_rg (by omega) (ck_rg (by omega) (m_lot (ck_ix (by omega) ?_)))⟩
    rw [Int.toNat_natCast, ho k hk]
    refine m_heard H R M O S hs (ordI_lt mn n k hk) (fun h' f => ?_)
    have key := hC h' f
    rw [Bool.false_or] at key
    refine ⟨fun le => ?_, fun gt => ?_⟩
    · rw [decide_eq_false (by omega)] at key
      exact w_344_79 (ck_rg (by omega) key)
    · rw [decide_eq_true (by omega)] at key
      exact w_344_79 (ck_rg (by omega) key)
theorem m_il {N : Nat} {C : Int → aH → Prop} {h : aH} {s n u : Nat} {kd mn ld wh bd wl : Nat → Int} {a b : Int} (P : PI h) (R : RelH h) (M : MPL h n kd mn ld wh) (O : OKP h n kd mn ld wh) (S : MSL h bd wl) (ho : MOR h n mn) (hs : (s : Int) < h 16 16) (hh : 0 ≤ h 23 s) (hb : 0 ≤ b ∧ b ≤ 1000000) (hu : unt (fun j => mn (ordI mn n j)) (h 23 s) n = u)
    (hC : ∀ h', Fr [159, 160] [] h h' → C (bif lotU (fun j => mn (ordI mn n j)) (fun j => HRP h kd mn ld wh s (bd s) (wl s) (ordI mn n j)) (AGN h s) a b (h 23 s) u then 1 else 0) h') : ∀ (e k : Nat) (h1 : aH), e = u - k → k ≤ u → Fr [159, 160] [] h h1 →
    WI N 344 19 [(0, .inr (.inr 130)), (1, .inl a), (3, .inl (s : Int)), (4, .inl (u : Int)), (5, .inl (bif lotA (fun j => mn (ordI mn n j)) (fun j => HRP h kd mn ld wh s (bd s) (wl s) (ordI mn n j)) (AGN h s) a b k then 1 else 0)), (6, .inl b), (7, .inl (k : Int))] h1 C := by
  have hz := P.1.1
  unfold okSz at hz
  have h399 : h 23 s ≤ 399 := by have := (P.1.2.2.2.1 s hs).2.1; omega
  have hun : u ≤ n := by rw [← hu]; exact unt_le _ _ _
  have h8 := O.1
  have hmt : ∀ j, j < n → h 164 (ordI mn n j) = mn (ordI mn n j) ∧ 0 ≤ mn (ordI mn n j) ∧ mn (ordI mn n j) ≤ 399 := fun j hj => ⟨(M.2 _ (ordI_lt mn n j hj)).2.1, (O.2 _ (ordI_lt mn n j hj)).1⟩
  have hol : ∀ j, j < n → ordI mn n j < n := fun j hj => ordI_lt mn n j hj
  intro e
  induction e with
  | zero =>
    intro k h1 he hk hf
    have : k = u := by omega
    subst this
    have kp := hf.kp (by decide)
    have km := hf.km (by decide) (by decide)
    refine w_344_19 ⟨fun _ => ⟨fun q => ?_, fun q => ?_⟩, fun z => absurd (Int.le_refl _) z⟩
    · have key := hC h1 hf
      unfold lotU at key
      rw [bif0.mp q] at key ⊢
      exact w_344_113 (ck_t0 key)
    · have q := bif_n0 q
      have hk0 : k ≠ 0 := by intro z; subst z; cases q
      obtain ⟨m1, m2⟩ := hmt (k - 1) (by omega)
      have h3 := hol (k - 1) (by omega)
      (repeat first | refine ck_ix (by omega) ?_ | refine ck_rg (by omega) ?_ | refine ck_rl (by omega) ?_)
      refine m_lot (m_hour (kp.pi P).1 (R.keep kp km) (by rw [kp.at 16 (by decide)]; exact hs) ?_)
      rw [show ((k : Int) - 1).toNat = k - 1 by omega, hf.at 167 (by decide) (by decide), ho (k - 1) (by omega), Int.toNat_natCast, hf.at 164 (by decide) (by decide), m1, kp.at 23 (by decide)]
      (repeat first | refine ck_ix (by omega) ?_ | refine ck_rg (by omega) ?_ | refine ck_rl (by omega) ?_)
      refine m_asleepAgain (kp.pi P).1 (R.keep kp km) ⟨by omega, by rw [kp.at 16 (by decide)]; exact hs⟩ (fun h2 f2 => ?_)
      rw [kp.agn]
      have key := hC h2 (hf.trans f2)
      unfold lotU at key
      rw [q, Bool.true_and] at key
      rw [q]
      refine ⟨fun le => w_344_113 (ck_t1 ?_), fun gt => w_344_113 (ck_t0 ?_)⟩
      · rw [decide_eq_true le] at key; exact key
      · rw [decide_eq_false gt] at key; exact key
  | succ e ih =>
    intro k h1 he hk hf
    have kp := hf.kp (by decide)
    have km := hf.km (by decide) (by decide)
    have es : lotA (fun j => mn (ordI mn n j)) (fun j => HRP h kd mn ld wh s (bd s) (wl s) (ordI mn n j)) (AGN h s) a b (k + 1) = ((lotA (fun j => mn (ordI mn n j)) (fun j => HRP h kd mn ld wh s (bd s) (wl s) (ordI mn n j)) (AGN h s) a b k && decide (AGN h s (mn (ordI mn n k) - mn (ordI mn n (k - 1))) ≤ LOT a (b + 2 * (k : Int) + 1))) || decide (LOT a (b + 2 * (k : Int)) < HRP h kd mn ld wh s (bd s) (wl s) (ordI mn n k))) := rfl
    have nx := fun (h2 : aH) (f2 : Fr [159, 160] [] h h2) => ih (k + 1) h2 (by omega) (by omega) f2
    rw [es] at nx
    have st : ∀ (w : Bool) (h2 : aH), Fr [159, 160] [] h h2 → (∀ h', Fr [159, 160] [] h h' → WI N 344 19 [(0, .inr (.inr 130)), (1, .inl a), (3, .inl (s : Int)), (4, .inl (u : Int)), (5, .inl (bif w || decide (LOT a (b + 2 * (k : Int)) < HRP h kd mn ld wh s (bd s) (wl s) (ordI mn n k)) then 1 else 0)), (6, .inl b), (7, .inl ((k : Int) + 1))] h' C) → WI N 344 58 [(0, .inr (.inr 130)), (1, .inl a), (3, .inl (s : Int)), (4, .inl (u : Int)), (5, .inl (bif w then 1 else 0)), (6, .inl b), (7, .inl (k : Int))] h2 C := by
      intro w h2 f2 hn
      have kp2 := f2.kp (by decide)
      refine m_il58 (kp2.pi P).1 (R.keep kp2 (f2.km (by decide) (by decide))) (M.keep f2 (by decide) (by decide) (by decide) (by decide) (by decide)) (O.keep kp2) (S.keep f2 (by decide) (by decide) (by decide)) (by unfold MOR; rw [f2.at 167 (by decide) (by decide)]; exact ho) (by rw [kp2.at 16 (by decide)]; exact hs) hb (by omega) (fun h3 f3 => ?_)
      rw [kp2.hrp]
      exact hn h3 (f2.trans f3)
    obtain ⟨m1, m2⟩ := hmt k (by omega)
    have h3 := hol k (by omega)
    refine w_344_19 ⟨fun z => by omega, fun _ => ?_⟩
    cases q : lotA (fun j => mn (ordI mn n j)) (fun j => HRP h kd mn ld wh s (bd s) (wl s) (ordI mn n j)) (AGN h s) a b k with
    | false =>
      rw [q] at nx
      exact ⟨fun _ => st false h1 hf nx, fun z => absurd rfl z⟩
    | true =>
      rw [q] at nx
      have hk0 : k ≠ 0 := by intro z; subst z; cases q
      obtain ⟨p1, p2⟩ := hmt (k - 1) (by omega)
      have h4 := hol (k - 1) (by omega)
      refine ⟨fun z => absurd z (by decide), fun _ => ?_⟩
      (repeat first | refine ck_ix (by omega) ?_ | refine ck_rg (by omega) ?_ | refine ck_rl (by omega) ?_)
      refine m_lot ?_
      rw [show ((k : Int) - 1).toNat = k - 1 by omega, Int.toNat_natCast, hf.at 167 (by decide) (by decide), ho (k - 1) (by omega), ho k (by omega), Int.toNat_natCast, Int.toNat_natCast, hf.at 164 (by decide) (by decide), m1, p1]
      (repeat first | refine ck_ix (by omega) ?_ | refine ck_rg (by omega) ?_ | refine ck_rl (by omega) ?_)
      refine m_asleepAgain (kp.pi P).1 (R.keep kp km) ⟨by omega, by rw [kp.at 16 (by decide)]; exact hs⟩ (fun h2 f2 => ?_)
      rw [kp.agn]
      refine ⟨fun le => st true h2 (hf.trans f2) (fun h' f' => ?_), fun gt => st false h2 (hf.trans f2) (fun h' f' => ?_)⟩
      · have := nx h' f'
        rw [Bool.true_and, decide_eq_true le] at this
        exact this
      · have := nx h' f'
        rw [Bool.true_and, decide_eq_false gt] at this
        exact this
theorem m_iup {N : Nat} {C : Int → aH → Prop} {h : aH} {s : Nat} {a d : Int} (P : PI h) (R : RelH h) (Q : RelP h) (ho : MOR h (h 58 10).toNat (h 60)) (hs : (s : Int) < h 16 16) (hh : ¬ h 23 s = -2) (hd : 0 ≤ d ∧ d ≤ 999)
    (hC : ∀ h', Fr [159, 160] [] h h' → C (bif LUP h a d s then 1 else 0) h') : WI N 344 0 [(0, .inr (.inr 130)), (1, .inl a), (2, .inl d), (3, .inl (s : Int))] h C := by
  have hz := P.1.1
  unfold okSz at hz
  have g2 := (P.1.2.2.2.1 s hs).2.1
  have M := Q.mpl P.2.2.1
  have O := P.2.2.1.okp
  have S := Q.msl P.2.1
  have hb : 0 ≤ (1000 : Int) * d + 40 * (s : Int) ∧ (1000 : Int) * d + 40 * (s : Int) ≤ 1000000 := by omega
  refine w_344_0 (m_hour P.1 R hs (m_until O.1 M.1 (fun j hj => (M.2 j hj).2.1) ho ?_))
  (repeat first | refine ck_ix (by omega) ?_ | refine ck_rg (by omega) ?_ | refine ck_rl (by omega) ?_)
  rw [LUP_all] at hC
  exact m_il P R M O S ho hs (by omega) hb rfl hC _ 0 h rfl (Nat.zero_le _) Fr.rfl
theorem LUP_kp {h h' : aH} (k : Kp h h') : LUP h' = LUP h := by
  funext a d s
  unfold LUP
  rw [k.mts, k.hrs, k.agn, k.cnt, k.at 23 (by decide)]
theorem HASH_kp {h h' : aH} (k : Kp h h') : HASH h' = HASH h := by
  funext s
  unfold HASH
  rw [k.at 23 (by decide)]
theorem m_dl {N : Nat} {C : Int → aH → Prop} {h : aH} {a d : Int} (P : PI h) (R : RelH h) (Q : RelP h) (ho : MOR h (h 58 10).toNat (h 60)) (hd : 0 ≤ d ∧ d ≤ 999) (hC : ∀ h', Fr [159, 160] [] h h' → C (DUP h a d : Nat) h') : ∀ (e k : Nat) (h1 : aH), e = NSL h - k → k ≤ NSL h → Fr [159, 160] [] h h1 →
    WI N 343 7 [(0, .inr (.inr 130)), (1, .inl a), (2, .inl d), (3, .inl (bset (fun s => HASH h s && LUP h a d s) k : Nat)), (4, .inl (k : Int))] h1 C := by
  have hz := P.1.1
  unfold okSz at hz
  have n12 : NSL h ≤ 12 := by unfold NSL; omega
  have en : h 16 16 = (NSL h : Int) := by unfold NSL; omega
  intro e
  induction e with
  | zero =>
    intro k h1 he hk hf
    have : k = NSL h := by omega
    subst this
    have kp := hf.kp (by decide)
    have n1 : NSL h1 = NSL h := by unfold NSL; rw [kp.at 16 (by decide)]
    obtain ⟨g1, g2, g3⟩ := m_nsl (kp.pi P) (R.mv hf (by decide) (by decide) (by decide))
    refine w_343_7 (ck_ix (by omega) ?_)
    rw [g2, n1]
    exact ⟨fun _ => hC h1 hf, fun z => absurd (Int.le_refl _) z⟩
  | succ e ih =>
    intro k h1 he hk hf
    have kp := hf.kp (by decide)
    have km := hf.km (by decide) (by decide)
    have n1 : NSL h1 = NSL h := by unfold NSL; rw [kp.at 16 (by decide)]
    have R1 := R.mv hf (by decide) (by decide) (by decide)
    obtain ⟨g1, g2, g3⟩ := m_nsl (kp.pi P) R1
    have nx := fun h2 => ih (k + 1) h2 (by omega) (by omega)
    have es : bset (fun s => HASH h s && LUP h a d s) (k + 1) = bif (HASH h k && LUP h a d k) then bset (fun s => HASH h s && LUP h a d s) k ||| 2 ^ k else bset (fun s => HASH h s && LUP h a d s) k := rfl
    rw [es] at nx
    have bl := bset_lt (fun s => HASH h s && LUP h a d s) k (show k ≤ NSL h by omega)
    have hk2 : (k : Int) < h 16 16 := by omega
    have q2 := (P.1.2.2.2.1 k hk2).2.1
    refine w_343_7 (ck_ix (by omega) ?_)
    rw [g2, n1]
    refine ⟨fun z => by omega, fun _ => m_hour (kp.pi P).1 R1 (by rw [kp.at 16 (by decide)]; exact hk2) ?_⟩
    rw [kp.at 23 (by decide)]
    refine ⟨fun lt => ?_, fun ge => ?_⟩
    · (repeat first | refine ck_ix (by omega) ?_ | refine ck_rg (by omega) ?_ | refine ck_rl (by omega) ?_)
      rw [HASH_f (by omega)] at nx
      exact nx h1 hf
    · rw [HASH_t (by omega), Bool.true_and] at nx
      refine m_iup (kp.pi P) R1 (Q.keep kp hf (by decide) (by decide)) (by unfold MOR; rw [hf.at 167 (by decide) (by decide), kp.at 58 (by decide), kp.at 60 (by decide)]; exact ho) (by rw [kp.at 16 (by decide)]; exact hk2) (by rw [kp.at 23 (by decide)]; omega) hd (fun h2 f2 => ?_)
      rw [LUP_kp kp]
      refine ⟨fun q => ?_, fun q => ?_⟩
      · (repeat first | refine ck_ix (by omega) ?_ | refine ck_rg (by omega) ?_ | refine ck_rl (by omega) ?_)
        rw [bif0.mp q] at nx
        exact nx h2 (hf.trans f2)
      · (repeat first | refine ck_ix (by omega) ?_ | refine ck_rg (by omega) ?_ | refine ck_rl (by omega) ?_)
        rw [bif_n0 q] at nx
        rw [bt_shl (show k < 31 by omega), bt_or (m31 n12 bl) (m31 n12 (two_lt (by omega)))]
        exact nx h2 (hf.trans f2)
theorem m_upOn {N : Nat} {C : Int → aH → Prop} {h : aH} {a d : Int} (P : PI h) (R : RelH h) (Q : RelP h) (hd : 0 ≤ d ∧ d ≤ 999) (hC : ∀ h', Fr [159, 160, 167] [] h h' → C (DUP h a d : Nat) h') : WI N 343 0 [(0, .inr (.inr 130)), (1, .inl a), (2, .inl d)] h C := by
  have M := Q.mpl P.2.2.1
  have O := P.2.2.1.okp
  refine w_343_0 (m_sorts O.1 M.1 (fun j hj => (M.2 j hj).2.1) (fun h1 hf ho => ?_))
  have kp := hf.kp (by decide)
  have e : DUP h1 a d = DUP h a d := by
    unfold DUP
    rw [HASH_kp kp, LUP_kp kp]
    unfold NSL
    rw [kp.at 16 (by decide)]
  refine m_dl (kp.pi P) (R.mv hf (by decide) (by decide) (by decide)) (Q.keep kp hf (by decide) (by decide)) (by rw [kp.at 58 (by decide), kp.at 60 (by decide)]; exact ho) hd (fun h2 f2 => ?_) _ 0 h1 rfl (Nat.zero_le _) Fr.rfl
  rw [e]
  exact hC h2 ((hf.mono (by decide) (by decide)).trans (f2.mono (by decide) (by decide)))
theorem m_day {N : Nat} {C : Int → aH → Prop} {h : aH} {a d : Int} (P : PI h) (R : RelH h) (Q : RelP h) (hC : ∀ h', Fr [159, 160, 167] [] h h' → C (vDay h a d) h') : WI N 342 0 [(0, .inr (.inr 130)), (1, .inl a), (2, .inl d)] h C := by
  unfold vDay at hC
  refine w_342_0 (m_in (fun q => z1 ?_) (fun q => z0 ?_))
  · rw [if_pos q] at hC; exact m_upOn P R Q q hC
  · rw [if_neg q] at hC; exact hC h Fr.rfl
