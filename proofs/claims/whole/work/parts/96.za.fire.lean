/-! a cry goes round: fire, reaches -/
def anyB (p : Nat → Bool) : Nat → Bool
  | 0 => false
  | n + 1 => anyB p n || p n
theorem anyB_s (p : Nat → Bool) (n : Nat) : anyB p (n + 1) = (anyB p n || p n) := rfl
/-- those who are up, one sleeper after the other -/
def stp (m : Nat) (g : Nat → Bool) : Nat → Nat
  | 0 => m
  | k + 1 => if g k && !(stp m g k).testBit k then stp m g k ||| 2 ^ k else stp m g k
def INN (c s : Nat) (p : Nat → Bool) (j : Nat) : Nat := if anyB p j && !c.testBit s then c ||| 2 ^ s else c
def CRY (h : aH) (v thr : Int) (s t : Nat) : Bool := decide (thr ≤ HEAR h s (h 63 s) (WOF h s) v (h 63 t) 0)
def NSL (h : aH) : Nat := (h 16 16).toNat
def STEP (h : aH) (v thr : Int) (m : Nat) : Nat := stp m (fun s => anyB (fun t => m.testBit t && CRY h v thr s t) (NSL h)) (NSL h)
theorem INN_lt {c s n : Nat} {p : Nat → Bool} {j : Nat} (hc : c < 2 ^ n) (hs : s < n) : INN c s p j < 2 ^ n := by
  unfold INN
  split
  · exact Nat.or_lt_two_pow hc (two_lt hs)
  · exact hc
theorem INN_t {c s : Nat} {p : Nat → Bool} {j : Nat} (h : (INN c s p j).testBit s = true) : INN c s p (j + 1) = INN c s p j := by
  unfold INN at *
  rw [anyB_s]
  cases hc : c.testBit s <;> cases ha : anyB p j <;> cases hp : p j <;> simp [hc, ha] at h ⊢
theorem INN_T {c s : Nat} {p : Nat → Bool} {j : Nat} (h : (INN c s p j).testBit s = true) : ∀ d, INN c s p (j + d) = INN c s p j
  | 0 => rfl
  | d + 1 => by
    have e := INN_T h d
    rw [← Nat.add_assoc, INN_t (by rw [e]; exact h), e]
theorem INN_f {c s : Nat} {p : Nat → Bool} {j : Nat} (h : (INN c s p j).testBit s = false) : INN c s p j = c ∧ INN c s p (j + 1) = if p j then c ||| 2 ^ s else c := by
  unfold INN at *
  rw [anyB_s]
  cases hc : c.testBit s <;> cases ha : anyB p j <;> cases hp : p j <;> simp [hc, ha, Nat.testBit_or, Nat.testBit_two_pow] at h ⊢
theorem stp_lt {m : Nat} {g : Nat → Bool} {n : Nat} (hm : m < 2 ^ n) : ∀ k, k ≤ n → stp m g k < 2 ^ n
  | 0, _ => hm
  | k + 1, h => by
    unfold stp
    have := stp_lt (g := g) hm k (by omega)
    split
    · exact Nat.or_lt_two_pow this (two_lt (by omega))
    · exact this
theorem stp_sup {m : Nat} {g : Nat → Bool} {t : Nat} (ht : m.testBit t = true) : ∀ k, (stp m g k).testBit t = true
  | 0 => ht
  | k + 1 => by
    unfold stp
    have := stp_sup (g := g) ht k
    split
    · rw [Nat.testBit_or, this]; rfl
    · exact this
theorem STEP_lt {h : aH} {v thr : Int} {m : Nat} (hm : m < 2 ^ NSL h) : STEP h v thr m < 2 ^ NSL h := stp_lt hm _ (Nat.le_refl _)
theorem c_cry {N : Nat} {C : Int → aH → Prop} {h : aH} {s t : Nat} {v : Int} (P : PI h) (h6 : h 28 6 = 0) (hs : s < NSL h) (ht : t < NSL h) (hC : ∀ h', Fr [28, 31] [] h h' → h' 28 6 = 0 → C (HEAR h s (h 63 s) (WOF h s) v (h 63 t) 0) h') : WI N 197 0 [(0, .inr (.inr 9)), (1, .inl (s : Int)), (2, .inl (t : Int)), (3, .inl v)] h C := by
  have hz := P.1.1
  unfold okSz at hz
  unfold NSL at hs ht
  have l1 := P.2.1.1 s (by omega)
  have l2 := P.2.1.1 t (by omega)
  refine w_197_0 (ck_ix (by omega) (w_77_0 (ck_ix (by omega) ?_)))
  simp only [Int.toNat_natCast]
  exact c_hearing P.1 h6 ⟨by omega, by omega⟩ ⟨l1.1, l1.2.1⟩ ⟨l2.1, l2.2.1⟩ (fun h' f e => hC h' f e)
theorem m31 {n m : Nat} (hn : n ≤ 12) (hm : m < 2 ^ n) : m < 2147483648 := by
  have := two_le hn
  have e12 : (2 : Nat) ^ 12 = 4096 := by decide
  omega
theorem if_bit {b : Bool} : ((if b = true then (1 : Int) else 0) = 0 ↔ b = false) ∧ ((if b = true then (1 : Int) else 0) = 1 ↔ b = true) := by cases b <;> decide
theorem c_in {N : Nat} {C : Int → aH → Prop} {h : aH} {v thr : Int} {m c s : Nat} (P : PI h) (hm : m < 2 ^ NSL h) (hc : c < 2 ^ NSL h) (hs : s < NSL h)
    (hC : ∀ h', Fr [28, 31] [] h h' → h' 28 6 = 0 → WI N 196 11 [(0, .inr (.inr 9)), (1, .inl (m : Int)), (2, .inl v), (4, .inl thr), (5, .inl (INN c s (fun t => m.testBit t && CRY h v thr s t) (NSL h) : Nat)), (6, .inl ((s : Int) + 1))] h' C) :
    ∀ (d j : Nat) (h1 : aH), d = NSL h - j → j ≤ NSL h → Fr [28, 31] [] h h1 → h1 28 6 = 0 → WI N 196 19 [(0, .inr (.inr 9)), (1, .inl (m : Int)), (2, .inl v), (4, .inl thr), (5, .inl (INN c s (fun t => m.testBit t && CRY h v thr s t) j : Nat)), (6, .inl (s : Int)), (7, .inl (j : Int))] h1 C := by
  have hz := P.1.1
  unfold okSz at hz
  have n12 : NSL h ≤ 12 := by unfold NSL; omega
  have en : h 16 16 = (NSL h : Int) := by unfold NSL; omega
  intro d
  induction d with
  | zero =>
    intro j h1 hd hj hf h6
    have : j = NSL h := by omega
    subst this
    refine w_196_19 ?_
    rw [hf.at 16 (by decide) (by decide), en]
    exact ⟨fun _ => ck_rg (by omega) (hC h1 hf h6), fun z => absurd (Int.le_refl _) z⟩
  | succ d ih =>
    intro j h1 hd hj hf h6
    have kp := hf.kp (by decide)
    have ci := INN_lt (p := fun t => m.testBit t && CRY h v thr s t) (j := j) hc hs
    refine w_196_19 ?_
    rw [hf.at 16 (by decide) (by decide), en, bt_tst (m31 n12 ci) (by omega), bt_tst (m31 n12 hm) (by omega)]
    refine ⟨fun z => by omega, fun _ => ⟨fun b1 => ?_, fun b0 => ?_⟩⟩
    · have b1 : (INN c s (fun t => m.testBit t && CRY h v thr s t) j).testBit s = true := by
        cases hb : (INN c s (fun t => m.testBit t && CRY h v thr s t) j).testBit s
        · exact absurd (if_bit.1.mpr hb) b1
        · rfl
      have nx := hC h1 hf h6
      have e := INN_T b1 (NSL h - j)
      rw [show j + (NSL h - j) = NSL h by omega] at e
      rw [e] at nx
      exact ck_rg (by omega) nx
    · have b0 := if_bit.1.mp (Decidable.not_not.mp b0)
      obtain ⟨e1, e2⟩ := INN_f b0
      refine ⟨fun q => ck_rg (by omega) ?_, fun q => ?_⟩
      · have nx := ih (j + 1) h1 (by omega) (by omega) hf h6
        have q : m.testBit j = false := by
          cases hb : m.testBit j
          · rfl
          · exact absurd (if_bit.2.mpr hb) q
        rw [e2, if_neg (by simp [q]), ← e1] at nx
        exact nx
      · have q := if_bit.2.mp (Decidable.not_not.mp q)
        have n1 : NSL h1 = NSL h := by unfold NSL; rw [kp.at 16 (by decide)]
        refine c_cry (kp.pi P) h6 (by rw [n1]; exact hs) (by rw [n1]; omega) (fun h2 f2 g6 => ?_)
        rw [kp.hear, kp.wof, kp.at 63 (by decide)]
        have nx := ih (j + 1) h2 (by omega) (by omega) (hf.trans f2) g6
        rw [e2] at nx
        refine ⟨fun lt => ck_rg (by omega) ?_, fun ge => ck_rg (by omega) ?_⟩
        · rw [if_neg (by simp [q, CRY]; omega), ← e1] at nx
          exact nx
        · rw [if_pos (by simp [q, CRY]; omega)] at nx
          rw [e1, bt_shl (show s < 31 by omega), bt_or (m31 n12 hc) (m31 n12 (two_lt hs))]
          exact nx
theorem c_later {N : Nat} {C : Int → aH → Prop} {h : aH} {v x : Int} {m : Nat} (P : PI h) (h6 : h 28 6 = 0) (hm : m < 2 ^ NSL h) (hC : ∀ h', Fr [28, 31] [] h h' → h' 28 6 = 0 → C (STEP h v (if x = 0 then 10 else 1) m : Nat) h') : WI N 196 0 [(0, .inr (.inr 9)), (1, .inl (m : Int)), (2, .inl v), (3, .inl x)] h C := by
  have hz := P.1.1
  unfold okSz at hz
  have n12 : NSL h ≤ 12 := by unfold NSL; omega
  have en : h 16 16 = (NSL h : Int) := by unfold NSL; omega
  have key : ∀ (thr : Int), (∀ h', Fr [28, 31] [] h h' → h' 28 6 = 0 → C (STEP h v thr m : Nat) h') → ∀ (d k : Nat) (h1 : aH), d = NSL h - k → k ≤ NSL h → Fr [28, 31] [] h h1 → h1 28 6 = 0 →
      WI N 196 11 [(0, .inr (.inr 9)), (1, .inl (m : Int)), (2, .inl v), (4, .inl thr), (5, .inl (stp m (fun s => anyB (fun t => m.testBit t && CRY h v thr s t) (NSL h)) k : Nat)), (6, .inl (k : Int))] h1 C := by
    intro thr hC d
    induction d with
    | zero =>
      intro k h1 hd hk hf g6
      have : k = NSL h := by omega
      subst this
      refine w_196_11 ?_
      rw [hf.at 16 (by decide) (by decide), en]
      exact ⟨fun _ => hC h1 hf g6, fun z => absurd (Int.le_refl _) z⟩
    | succ d ih =>
      intro k h1 hd hk hf g6
      have kp := hf.kp (by decide)
      have n1 : NSL h1 = NSL h := by unfold NSL; rw [kp.at 16 (by decide)]
      have ec : CRY h1 = CRY h := by
        funext a b s t
        unfold CRY
        rw [kp.hear, kp.wof, kp.at 63 (by decide)]
      refine w_196_11 ?_
      rw [hf.at 16 (by decide) (by decide), en]
      refine ⟨fun z => by omega, fun _ => ?_⟩
      have := c_in (N := N) (C := C) (h := h1) (v := v) (thr := thr) (m := m) (c := stp m (fun s => anyB (fun t => m.testBit t && CRY h v thr s t) (NSL h)) k) (s := k) (kp.pi P) (by rw [n1]; exact hm) (by rw [n1]; exact stp_lt hm _ (by omega)) (by rw [n1]; omega) (fun h2 f2 e2 => ?_) _ 0 h1 rfl (Nat.zero_le _) Fr.rfl g6
      · exact this
      · have nx := ih (k + 1) h2 (by omega) (by omega) (hf.trans f2) e2
        rw [n1, ec]
        exact nx
  refine w_196_0 ⟨fun e => ?_, fun e => ?_⟩
  · rw [if_pos e] at hC
    exact key 10 hC _ 0 h rfl (Nat.zero_le _) Fr.rfl h6
  · rw [if_neg e] at hC
    exact key 1 hC _ 0 h rfl (Nat.zero_le _) Fr.rfl h6
