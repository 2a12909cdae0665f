/-! .. until it stops -/
def FLn (h : aH) : Nat := 2 ^ NSL h - 1
/-- at most d minutes on: who is up when it stops; how many minutes -/
def fin (f : Nat → Nat) : Nat → Nat → Nat × Nat
  | 0, m => (m, 0)
  | d + 1, m => if f m = m then (m, 0) else ((fin f d (f m)).1, (fin f d (f m)).2 + 1)
theorem fin_eq {f : Nat → Nat} {m : Nat} (h : f m = m) : ∀ d, fin f d m = (m, 0)
  | 0 => rfl
  | d + 1 => by unfold fin; rw [if_pos h]
theorem fin_ne {f : Nat → Nat} {m d : Nat} (h : f m ≠ m) : fin f (d + 1) m = ((fin f d (f m)).1, (fin f d (f m)).2 + 1) := by
  rw [show fin f (d + 1) m = if f m = m then (m, 0) else ((fin f d (f m)).1, (fin f d (f m)).2 + 1) from rfl, if_neg h]
theorem cntB_lt {p q : Nat → Bool} : ∀ {n : Nat}, (∀ i, i < n → p i = true → q i = true) → (∃ i, i < n ∧ p i = false ∧ q i = true) → cntB p n < cntB q n
  | 0, _, ⟨i, h, _⟩ => absurd h (Nat.not_lt_zero i)
  | n + 1, h, ⟨i, hi, hp, hq⟩ => by
    have h1 := cntB_mono (n := n) (fun i hi => h i (by omega))
    show cntB p n + (bif p n then 1 else 0) < cntB q n + (bif q n then 1 else 0)
    by_cases e : i = n
    · subst e
      rw [hp, hq]
      show cntB p i + 0 < cntB q i + 1
      omega
    · have h2 := cntB_lt (n := n) (fun i hi => h i (by omega)) ⟨i, by omega, hp, hq⟩
      have h3 := h n (by omega)
      cases hpn : p n with
      | false => cases q n <;> simp <;> omega
      | true => rw [h3 hpn]; simp; omega
def BTS (m n : Nat) : Nat := cntB (fun t => m.testBit t) n
theorem bts_lt {m m' n : Nat} (hm : m < 2 ^ n) (hm' : m' < 2 ^ n) (hs : ∀ t, m.testBit t = true → m'.testBit t = true) (hne : m' ≠ m) : BTS m n < BTS m' n := by
  refine cntB_lt (fun i _ => hs i) ?_
  refine Decidable.byContradiction fun z => hne ?_
  refine Nat.eq_of_testBit_eq fun i => ?_
  by_cases hi : i < n
  · cases h1 : m.testBit i with
    | true => exact hs i h1
    | false =>
      cases h2 : m'.testBit i with
      | false => rfl
      | true => exact absurd ⟨i, hi, h1, h2⟩ z
  · rw [Nat.testBit_lt_two_pow (Nat.lt_of_lt_of_le hm (two_le (by omega))), Nat.testBit_lt_two_pow (Nat.lt_of_lt_of_le hm' (two_le (by omega)))]
theorem bts_le (m n : Nat) : BTS m n ≤ n := cntB_le _ n
theorem STEP_sup {h : aH} {v thr : Int} {m t : Nat} (ht : m.testBit t = true) : (STEP h v thr m).testBit t = true := stp_sup ht _
theorem bts_full {m n : Nat} (hm : m < 2 ^ n) (hb : n ≤ BTS m n) (m' : Nat) (hm' : m' < 2 ^ n) (hs : ∀ t, m.testBit t = true → m'.testBit t = true) : m' = m := by
  refine Decidable.byContradiction fun z => ?_
  have := bts_lt hm hm' hs z
  have := bts_le m' n
  omega
theorem STEP_full {h : aH} {v thr : Int} : STEP h v thr (FLn h) = FLn h := by
  have hp : 0 < 2 ^ NSL h := Nat.pow_pos (by decide)
  have hf : FLn h < 2 ^ NSL h := by unfold FLn; omega
  refine Nat.eq_of_testBit_eq fun i => ?_
  by_cases hi : i < NSL h
  · have : (FLn h).testBit i = true := by unfold FLn; rw [Nat.testBit_two_pow_sub_one]; exact decide_eq_true hi
    rw [this, STEP_sup this]
  · rw [Nat.testBit_lt_two_pow (Nat.lt_of_lt_of_le hf (two_le (by omega))), Nat.testBit_lt_two_pow (Nat.lt_of_lt_of_le (STEP_lt hf) (two_le (by omega)))]
def THR (x : Int) : Int := if x = 0 then 10 else 1
def vReach (h : aH) (s v x : Int) : Int := if (0 ≤ s ∧ s < h 16 16) ∧ (1 ≤ v ∧ v ≤ 12) then ((fin (STEP h v (THR x)) 12 (2 ^ s.toNat)).1 : Nat) else -1
def vFire (h : aH) (s v x : Int) : Int := if (0 ≤ s ∧ s < h 16 16) ∧ (1 ≤ v ∧ v ≤ 12) then (if (fin (STEP h v (THR x)) 12 (2 ^ s.toNat)).1 = FLn h then ((fin (STEP h v (THR x)) 12 (2 ^ s.toNat)).2 : Nat) else -2) else -1
theorem STEP_kp {h h' : aH} (k : Kp h h') (v thr : Int) : STEP h' v thr = STEP h v thr := by
  have n1 : NSL h' = NSL h := by unfold NSL; rw [k.at 16 (by decide)]
  have ec : CRY h' = CRY h := by
    funext a b s t
    unfold CRY
    rw [k.hear, k.wof, k.at 63 (by decide)]
  funext m
  unfold STEP
  rw [n1, ec]
theorem c_rl {N : Nat} {C : Int → aH → Prop} {h : aH} {v x : Int} (P : PI h) : ∀ (d i m : Nat) (h1 : aH), Fr [28, 31] [] h h1 → h1 28 6 = 0 → m < 2 ^ NSL h → NSL h ≤ BTS m (NSL h) + d → i + d ≤ 12 →
    (∀ h', Fr [28, 31] [] h h' → h' 28 6 = 0 → C ((fin (STEP h v (THR x)) d m).1 : Nat) h') → WI N 198 16 [(0, .inr (.inr 9)), (2, .inl v), (3, .inl x), (4, .inl (m : Int)), (5, .inl (i : Int))] h1 C := by
  intro d
  induction d with
  | zero =>
    intro i m h1 hf h6 hm hb hi hC
    have kp := hf.kp (by decide)
    have n1 : NSL h1 = NSL h := by unfold NSL; rw [kp.at 16 (by decide)]
    have e : STEP h v (THR x) m = m := bts_full hm (by omega) _ (STEP_lt hm) (fun t => STEP_sup)
    refine w_198_16 ⟨fun _ => hC h1 hf h6, fun _ => c_later (kp.pi P) h6 (by rw [n1]; exact hm) (fun h2 f2 e2 => ?_)⟩
    have e' : STEP h1 v (if x = 0 then 10 else 1) m = m := by rw [STEP_kp kp]; exact e
    rw [e']
    exact ⟨fun z => absurd rfl z, fun _ => hC h2 (hf.trans f2) e2⟩
  | succ d ih =>
    intro i m h1 hf h6 hm hb hi hC
    have kp := hf.kp (by decide)
    have n1 : NSL h1 = NSL h := by unfold NSL; rw [kp.at 16 (by decide)]
    refine w_198_16 ⟨fun z => by omega, fun _ => c_later (kp.pi P) h6 (by rw [n1]; exact hm) (fun h2 f2 e2 => ?_)⟩
    have e' : STEP h1 v (if x = 0 then 10 else 1) m = STEP h v (THR x) m := by rw [STEP_kp kp]; rfl
    rw [e']
    refine ⟨fun z => ck_rg (by omega) ?_, fun z => ?_⟩
    · have z : STEP h v (THR x) m ≠ m := fun q => z (by rw [q])
      have lt := bts_lt hm (STEP_lt (v := v) (thr := THR x) hm) (fun t => STEP_sup) z
      refine ih (i + 1) (STEP h v (THR x) m) h2 (hf.trans f2) e2 (STEP_lt hm) (by omega) (by omega) (fun h3 f3 e3 => ?_)
      have := hC h3 f3 e3
      rw [fin_ne z] at this
      exact this
    · have z : STEP h v (THR x) m = m := by have := Decidable.not_not.mp z; omega
      have := hC h2 (hf.trans f2) e2
      rw [fin_eq z] at this
      exact this
/-- one bit set -/
theorem bts_one {s n : Nat} (hs : s < n) : 1 ≤ BTS (2 ^ s) n := by
  have := cntB_lt (p := fun _ => false) (q := fun t => (2 ^ s).testBit t) (n := n) (fun i _ z => by cases z) ⟨s, hs, rfl, by rw [tb_two]; exact decide_eq_true rfl⟩
  unfold BTS
  omega
theorem c_reaches {N : Nat} {C : Int → aH → Prop} {h : aH} {s v x : Int} (P : PI h) (h6 : h 28 6 = 0) (hC : ∀ h', Fr [28, 31] [] h h' → h' 28 6 = 0 → C (vReach h s v x) h') : WI N 198 0 [(0, .inr (.inr 9)), (1, .inl s), (2, .inl v), (3, .inl x)] h C := by
  have hz := P.1.1
  unfold okSz at hz
  have n12 : NSL h ≤ 12 := by unfold NSL; omega
  have en : h 16 16 = (NSL h : Int) := by unfold NSL; omega
  unfold vReach at hC
  refine w_198_0 (c_isSleeper (fun q1 => z1 (c_isLoud (fun q2 => y1 ?_) (fun q => y0 ?_))) (fun q => z0 ?_))
  · rw [if_pos ⟨q1, q2⟩] at hC
    obtain ⟨s, rfl⟩ := Int.eq_ofNat_of_zero_le q1.1
    simp only [Int.toNat_natCast] at hC
    have hs : s < NSL h := by omega
    rw [bt_shl (show s < 31 by omega)]
    have := bts_one hs
    exact c_rl P 12 0 (2 ^ s) h Fr.rfl h6 (two_lt hs) (by omega) (by decide) hC
  · rw [if_neg (fun z => q z.2)] at hC
    exact hC h Fr.rfl h6
  · rw [if_neg (fun z => q z.1)] at hC
    exact hC h Fr.rfl h6
theorem c_fl {N : Nat} {C : Int → aH → Prop} {h : aH} {v x : Int} (P : PI h) : ∀ (e d i m : Nat) (h1 : aH), e = 13 - i → i ≤ 13 → Fr [28, 31] [] h h1 → h1 28 6 = 0 → m < 2 ^ NSL h → (STEP h v (THR x) m = m ∧ m ≠ FLn h ∨ (NSL h ≤ BTS m (NSL h) + d ∧ i + d ≤ 12)) →
    (∀ h', Fr [28, 31] [] h h' → h' 28 6 = 0 → C (if (fin (STEP h v (THR x)) d m).1 = FLn h then ((fin (STEP h v (THR x)) d m).2 + i : Nat) else -2) h') → WI N 195 24 [(0, .inr (.inr 9)), (2, .inl v), (3, .inl x), (4, .inl (FLn h : Int)), (5, .inl (m : Int)), (6, .inl (i : Int))] h1 C := by
  intro e
  induction e with
  | zero =>
    intro d i m h1 he hi hf h6 hm hb hC
    refine w_195_24 ⟨fun _ => ?_, fun z => by omega⟩
    rcases hb with ⟨b1, b2⟩ | b
    · have := hC h1 hf h6
      rw [fin_eq b1, if_neg b2] at this
      exact this
    · omega
  | succ e ih =>
    intro d i m h1 he hi hf h6 hm hb hC
    have kp := hf.kp (by decide)
    have n1 : NSL h1 = NSL h := by unfold NSL; rw [kp.at 16 (by decide)]
    refine w_195_24 ⟨fun z => by omega, fun _ => ⟨fun nf => ?_, fun fl => ?_⟩⟩
    · have nf : m ≠ FLn h := fun z => nf (by rw [z])
      refine c_later (kp.pi P) h6 (by rw [n1]; exact hm) (fun h2 f2 e2 => ck_rg (by omega) ?_)
      have e' : STEP h1 v (if x = 0 then 10 else 1) m = STEP h v (THR x) m := by rw [STEP_kp kp]; rfl
      rw [e']
      by_cases q : STEP h v (THR x) m = m
      · rw [q]
        refine ih d (i + 1) m h2 (by omega) (by omega) (hf.trans f2) e2 hm (Or.inl ⟨q, nf⟩) (fun h3 f3 e3 => ?_)
        have := hC h3 f3 e3
        rw [fin_eq q, if_neg nf] at this ⊢
        exact this
      · rcases hb with ⟨b1, b2⟩ | b
        · exact absurd b1 q
        · have lt := bts_lt hm (STEP_lt (v := v) (thr := THR x) hm) (fun t => STEP_sup) q
          have le := bts_le (STEP h v (THR x) m) (NSL h)
          obtain ⟨d', rfl⟩ : ∃ d', d = d' + 1 := ⟨d - 1, by omega⟩
          refine ih d' (i + 1) (STEP h v (THR x) m) h2 (by omega) (by omega) (hf.trans f2) e2 (STEP_lt hm) (Or.inr ⟨by omega, by omega⟩) (fun h3 f3 e3 => ?_)
          have := hC h3 f3 e3
          rw [fin_ne q] at this
          rw [show (fin (STEP h v (THR x)) d' (STEP h v (THR x) m)).2 + (i + 1) = (fin (STEP h v (THR x)) d' (STEP h v (THR x) m)).2 + 1 + i by omega]
          exact this
    · have fl : m = FLn h := by have := Decidable.not_not.mp fl; omega
      have := hC h1 hf h6
      rw [fl, fin_eq STEP_full, if_pos rfl] at this
      rw [show ((0 : Nat) + i : Nat) = i from Nat.zero_add i] at this
      exact this
theorem c_fire {N : Nat} {C : Int → aH → Prop} {h : aH} {s v x : Int} (P : PI h) (h6 : h 28 6 = 0) (hC : ∀ h', Fr [28, 31] [] h h' → h' 28 6 = 0 → C (vFire h s v x) h') : WI N 195 0 [(0, .inr (.inr 9)), (1, .inl s), (2, .inl v), (3, .inl x)] h C := by
  have hz := P.1.1
  unfold okSz at hz
  have n12 : NSL h ≤ 12 := by unfold NSL; omega
  have en : h 16 16 = (NSL h : Int) := by unfold NSL; omega
  unfold vFire at hC
  refine w_195_0 (c_isSleeper (fun q1 => z1 (c_isLoud (fun q2 => y1 ?_) (fun q => y0 ?_))) (fun q => z0 ?_))
  · rw [if_pos ⟨q1, q2⟩] at hC
    obtain ⟨s, rfl⟩ := Int.eq_ofNat_of_zero_le q1.1
    simp only [Int.toNat_natCast] at hC
    have hs : s < NSL h := by omega
    have h12 := two_le n12
    have e12 : (2 : Nat) ^ 12 = 4096 := by decide
    have hp : 0 < 2 ^ NSL h := Nat.pow_pos (by decide)
    rw [en, bt_shl (show s < 31 by omega), bt_shl (show NSL h < 31 by omega)]
    have := bts_one hs
    refine ck_rg (by omega) ?_
    rw [show ((2 ^ NSL h : Nat) : Int) - 1 = (FLn h : Int) by unfold FLn; omega]
    exact c_fl P 13 12 0 (2 ^ s) h rfl (by decide) Fr.rfl h6 (two_lt hs) (Or.inr ⟨by omega, by decide⟩) hC
  · rw [if_neg (fun z => q z.2)] at hC
    exact hC h Fr.rfl h6
  · rw [if_neg (fun z => q z.1)] at hC
    exact hC h Fr.rfl h6
