/-! a DAY by lots, the class's -/
/-- a set of those of whom it is so -/
def bset (p : Nat → Bool) : Nat → Nat
  | 0 => 0
  | n + 1 => bif p n then bset p n ||| 2 ^ n else bset p n
theorem bset_lt (p : Nat → Bool) {m : Nat} : ∀ n, n ≤ m → bset p n < 2 ^ m
  | 0, _ => Nat.pow_pos (by decide)
  | n + 1, h => by
    have := bset_lt p n (show n ≤ m by omega)
    unfold bset
    cases p n
    · exact this
    · exact Nat.or_lt_two_pow this (two_lt (by omega))
theorem bset_tb (p : Nat → Bool) : ∀ n i, (bset p n).testBit i = (decide (i < n) && p i)
  | 0, i => by unfold bset; simp
  | n + 1, i => by
    have ih := bset_tb p n i
    unfold bset
    by_cases e : i = n
    · subst e
      cases q : p i with
      | false => show (bset p i).testBit i = _; rw [ih, q]; simp
      | true => show (bset p i ||| 2 ^ i).testBit i = _; rw [Nat.testBit_or, tb_two]; simp
    · have e2 : decide (i < n + 1) = decide (i < n) := by rw [decide_eq_decide]; omega
      cases q : p n with
      | false => show (bset p n).testBit i = _; rw [ih, e2]
      | true => show (bset p n ||| 2 ^ n).testBit i = _; rw [Nat.testBit_or, tb_two, ih, e2, decide_eq_false (show ¬ n = i by omega), Bool.or_false]
theorem bset_congr {p q : Nat → Bool} : ∀ {n : Nat}, (∀ i, i < n → p i = q i) → bset p n = bset q n
  | 0, _ => rfl
  | n + 1, h => by unfold bset; rw [bset_congr (fun i hi => h i (by omega)), h n (by omega)]
def LUP (h : aH) (a d : Int) (s : Nat) : Bool := lotU (MTS h (-1) (CNT h (-1))) (HRS h s (-1) (CNT h (-1))) (AGN h s) a (1000 * d + 40 * (s : Int)) (h 23 s) (unt (MTS h (-1) (CNT h (-1))) (h 23 s) (CNT h (-1)))
def HASH (h : aH) (s : Nat) : Bool := !decide (h 23 s = -2)
def DUP (h : aH) (a d : Int) : Nat := bset (fun s => HASH h s && LUP h a d s) (NSL h)
def vDay (h : aH) (a d : Int) : Int := if 0 ≤ d ∧ d ≤ 999 then (DUP h a d : Nat) else -1
/-- what was heard of the night's sounds -/
def LH (h : aH) (s : Nat) (h1 : aH) : Prop := ∀ j, j < CNT h (-1) → h1 95 j = HRS h s (-1) (CNT h (-1)) j
def SNX : List Nat := [101, 127, 128, 129] ++ SN
/-- in the midst of a night -/
def NGT (h h1 : aH) : Prop := Fr SNX [] h h1 ∧ scr h1 ∧ ARR h (-1) (CNT h (-1)) h1
theorem c_lis {N : Nat} {C : aH → Prop} {h h1 : aH} {s : Nat} (P : PI h) (hs : (s : Int) < h 16 16) (G : NGT h h1) (hC : ∀ h', NGT h h' → LH h s h' → C h') : WV N 108 0 [(0, .inr (.inr 92)), (1, .inl (s : Int))] h1 C := by
  obtain ⟨hf, hsc, ha⟩ := G
  have kp := hf.kp (by decide)
  refine c_listen (c := CNT h (-1)) (num := NUM h (-1) (CNT h (-1))) (kp.pi P) hsc.2 (CNT_le P.2.2.1 _) ha.1 (fun j hj => ⟨(ha.2 j hj).1, by rw [kp.at 58 (by decide)]; exact NUM_lt P.2.2.1 hj⟩) (by rw [kp.at 16 (by decide)]; exact hs) (fun h2 hf2 h62 e2 => ?_)
  refine hC h2 ⟨hf.trans (hf2.mono (by decide) (by decide)), ⟨hf2.dz (by decide) (by decide) (by decide) hsc.1, h62⟩, ha.keep (hf2.at 92 (by decide) (by decide)) (hf2.at 93 (by decide) (by decide)) (hf2.at 94 (by decide) (by decide))⟩ (fun j hj => ?_)
  rw [e2 j hj, kp.hrd, kp.wof, kp.at 63 (by decide)]; rfl
theorem c_lup {N : Nat} {C : Int → aH → Prop} {h h1 : aH} {s : Nat} {a d : Int} (P : PI h) (hs : (s : Int) < h 16 16) (hh : ¬ h 23 s = -2) (hd : 0 ≤ d ∧ d ≤ 999) (G : NGT h h1) (L : LH h s h1)
    (hC : ∀ h', NGT h h' → LH h s h' → C (bif LUP h a d s then 1 else 0) h') : WI N 200 0 [(0, .inr (.inr 92)), (1, .inl a), (2, .inl d), (3, .inl (s : Int))] h1 C := by
  have hz := P.1.1
  unfold okSz at hz
  obtain ⟨hf, hsc, ha⟩ := G
  have kp := hf.kp (by decide)
  have g2 := (P.1.2.2.2.1 s hs).2.1
  have hb : 0 ≤ (1000 : Int) * d + 40 * (s : Int) ∧ (1000 : Int) * d + 40 * (s : Int) ≤ 1000000 := by omega
  refine w_200_0 ?_
  (repeat first | refine ck_ix (by omega) ?_ | refine ck_rg (by omega) ?_ | refine ck_rl (by omega) ?_)
  simp only [Int.toNat_natCast]
  have key := hC
  unfold LUP at key
  have r := c_ul (N := N) (C := C) (h := h1) (s := s) (c := CNT h (-1)) (mt := MTS h (-1) (CNT h (-1))) (hr := HRS h s (-1) (CNT h (-1))) (a := a) (b := (1000 : Int) * d + 40 * (s : Int)) (kp.pi P) (by rw [kp.at 16 (by decide)]; exact hs) (by rw [kp.at 23 (by decide)]; omega) hb (CNT_le P.2.2.1 _) ha.1 (fun j hj => ⟨(ha.2 j hj).2, MTS_rg P.2.2.1 hj⟩) L (MTS_srt h (-1) _) (fun h2 f2 d2 => ?_) (CNT h (-1)) 0 h1 rfl (Nat.zero_le _) (fun j hj => by omega) Fr.rfl hsc.1
  · exact r
  · rw [kp.agn, kp.at 23 (by decide)]
    exact key h2 ⟨hf.trans (f2.mono (by decide) (by decide)), ⟨d2, by rw [f2.at 28 (by decide) (by decide)]; exact hsc.2⟩, ha.keep (f2.at 92 (by decide) (by decide)) (f2.at 93 (by decide) (by decide)) (f2.at 94 (by decide) (by decide))⟩ (fun j hj => by rw [f2.at 95 (by decide) (by decide)]; exact L j hj)
theorem c_night {N : Nat} {C : aH → Prop} {h : aH} (P : PI h) (hs : scr h) (hC : ∀ h', NGT h h' → C h') : WV N 106 0 [(0, .inr (.inr 92)), (1, .inl (-1))] h C :=
  c_arrange P.2.2.1 (fun h1 hf ha => hC h1 ⟨hf.mono (by decide) (by decide), ⟨hf.dz (by decide) (by decide) (by decide) hs.1, by rw [hf.at 28 (by decide) (by decide)]; exact hs.2⟩, ha⟩)
theorem HASH_t {h : aH} {s : Nat} (e : ¬ h 23 s = -2) : HASH h s = true := by unfold HASH; rw [decide_eq_false e]; rfl
theorem HASH_f {h : aH} {s : Nat} (e : h 23 s = -2) : HASH h s = false := by unfold HASH; rw [decide_eq_true e]; rfl
theorem bif_n0 {b : Bool} (h : ¬ (bif b then (1 : Int) else 0) = 0) : b = true := by cases b; exact absurd rfl h; rfl
theorem c_dl {N : Nat} {C : Int → aH → Prop} {h : aH} {a d : Int} (P : PI h) (hd : 0 ≤ d ∧ d ≤ 999) (hC : ∀ h', NGT h h' → C (DUP h a d : Nat) h') : ∀ (e k : Nat) (h1 : aH), e = NSL h - k → k ≤ NSL h → NGT h h1 →
    WI N 199 16 [(0, .inr (.inr 9)), (1, .inl a), (2, .inl d), (3, .inl (bset (fun s => HASH h s && LUP h a d s) k : Nat)), (4, .inl (k : Int))] h1 C := by
  have hz := P.1.1
  unfold okSz at hz
  have n12 : NSL h ≤ 12 := by unfold NSL; omega
  have en : h 16 16 = (NSL h : Int) := by unfold NSL; omega
  intro e
  induction e with
  | zero =>
    intro k h1 he hk G
    have : k = NSL h := by omega
    subst this
    refine w_199_16 ?_
    rw [G.1.at 16 (by decide) (by decide), en]
    exact ⟨fun _ => hC h1 G, fun z => absurd (Int.le_refl _) z⟩
  | succ e ih =>
    intro k h1 he hk G
    have nx := fun h2 => ih (k + 1) h2 (by omega) (by omega)
    have es : bset (fun s => HASH h s && LUP h a d s) (k + 1) = bif (HASH h k && LUP h a d k) then bset (fun s => HASH h s && LUP h a d s) k ||| 2 ^ k else bset (fun s => HASH h s && LUP h a d s) k := rfl
    rw [es] at nx
    have bl := bset_lt (fun s => HASH h s && LUP h a d s) k (show k ≤ NSL h by omega)
    refine w_199_16 ?_
    rw [G.1.at 16 (by decide) (by decide), G.1.at 23 (by decide) (by decide), en]
    refine ⟨fun z => by omega, fun _ => ?_⟩
    (repeat first | refine ck_ix (by omega) ?_ | refine ck_rg (by omega) ?_ | refine ck_rl (by omega) ?_)
    simp only [Int.toNat_natCast]
    refine ⟨fun e2 => ?_, fun e2 => c_lis P (by omega) G (fun h2 G2 L2 => c_lup P (by omega) e2 hd G2 L2 (fun h3 G3 L3 => ?_))⟩
    · (repeat first | refine ck_ix (by omega) ?_ | refine ck_rg (by omega) ?_ | refine ck_rl (by omega) ?_)
      rw [HASH_f e2] at nx
      exact nx h1 G
    · rw [HASH_t e2, Bool.true_and] at nx
      refine ⟨fun q => ?_, fun q => ?_⟩
      · (repeat first | refine ck_ix (by omega) ?_ | refine ck_rg (by omega) ?_ | refine ck_rl (by omega) ?_)
        rw [bif0.mp q] at nx
        rw [show (0 : Int) = ((0 : Nat) : Int) by rfl, bt_or (m31 n12 bl) (by decide), Nat.or_zero]
        exact nx h3 G3
      · (repeat first | refine ck_ix (by omega) ?_ | refine ck_rg (by omega) ?_ | refine ck_rl (by omega) ?_)
        rw [bif_n0 q] at nx
        rw [bt_shl (show k < 31 by omega), bt_or (m31 n12 bl) (m31 n12 (two_lt (by omega)))]
        exact nx h3 G3
theorem c_day {N : Nat} {C : Int → aH → Prop} {h : aH} {a d : Int} (P : PI h) (hs : scr h) (hC : ∀ h', Fr SNX [] h h' → scr h' → C (vDay h a d) h') : WI N 199 0 [(0, .inr (.inr 9)), (1, .inl a), (2, .inl d)] h C := by
  unfold vDay at hC
  refine w_199_0 ⟨fun q => ?_, fun q => ⟨fun q2 => c_night P hs (fun h1 G => ?_), fun q2 => ?_⟩⟩
  · rw [if_neg (by omega)] at hC; exact hC h Fr.rfl hs
  · rw [if_pos (by omega)] at hC
    exact c_dl P ⟨by omega, q2⟩ (fun h2 G2 => hC h2 G2.1 G2.2.1) _ 0 h1 rfl (Nat.zero_le _) G
  · rw [if_neg (by omega)] at hC; exact hC h Fr.rfl hs
