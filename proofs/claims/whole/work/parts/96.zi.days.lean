/-! DAYS -/
def allB (p : Nat → Bool) : Nat → Bool
  | 0 => true
  | n + 1 => allB p n && p n
theorem allB_iff {p : Nat → Bool} : ∀ {n : Nat}, allB p n = true ↔ ∀ i, i < n → p i = true
  | 0 => ⟨fun _ i h => absurd h (Nat.not_lt_zero i), fun _ => rfl⟩
  | n + 1 => by
    rw [show allB p (n + 1) = (allB p n && p n) from rfl, Bool.and_eq_true, allB_iff (n := n)]
    refine ⟨fun h i hi => ?_, fun h => ⟨fun i hi => h i (by omega), h n (by omega)⟩⟩
    rcases Nat.eq_or_lt_of_le (Nat.le_of_lt_succ hi) with e | e
    · rw [e]; exact h.2
    · exact h.1 i e
def UPN (h : aH) (a : Int) (d s : Nat) : Bool := !HASH h s || LUP h a d s
def AUP (h : aH) (a : Int) (d : Nat) : Bool := allB (UPN h a d) (NSL h)
def vDays (h : aH) (a k s : Int) : Int := if 1 ≤ k ∧ k ≤ 50 then (if s = -1 then (cntB (AUP h a) k.toNat : Nat) else if (0 ≤ s ∧ s < h 16 16) ∧ ¬ h 23 s.toNat = -2 then (cntB (fun d => LUP h a d s.toNat) k.toNat : Nat) else -2) else -2
theorem bset_true (k : Nat) : bset (fun _ => true) k = 2 ^ k - 1 := by
  refine Nat.eq_of_testBit_eq fun i => ?_
  rw [bset_tb, Nat.testBit_two_pow_sub_one, Bool.and_true]
theorem bset_clr {p q : Nat → Bool} {k e : Nat} (hk : k ≤ 50) (he : e < k) (h : ∀ i, i < k → i ≠ e → q i = p i) (hq : q e = false) : bset p k &&& (2 ^ e ^^^ 18446744073709551615) = bset q k := by
  refine Nat.eq_of_testBit_eq fun i => ?_
  by_cases hi : i < k
  · rw [tl_clr (by omega), bset_tb, bset_tb, tb_two, decide_eq_true hi, Bool.true_and, Bool.true_and]
    by_cases e2 : i = e
    · rw [e2, hq, decide_eq_true rfl]; simp
    · rw [h i hi e2, decide_eq_false (show ¬ e = i by omega)]; simp
  · rw [Nat.testBit_and, bset_tb, bset_tb, decide_eq_false hi]; simp
theorem l50 {n m : Nat} (hn : n ≤ 50) (hm : m < 2 ^ n) : m < 9223372036854775808 := by
  have := two_le hn
  have e : (2 : Nat) ^ 50 = 1125899906842624 := by decide
  omega
theorem c_dai {N : Nat} {C : Int → aH → Prop} {h : aH} {a : Int} {k i : Nat} (P : PI h) (hk : k ≤ 50) (hi : i < NSL h) (hh : ¬ h 23 i = -2)
    (hC : ∀ h', NGT h h' → WI N 204 12 [(0, .inr (.inr 92)), (1, .inl a), (2, .inl (k : Int)), (3, .inr (.inl (bset (fun d => allB (UPN h a d) (i + 1)) k : Nat))), (5, .inl ((i : Int) + 1))] h' C) : ∀ (g e : Nat) (h1 : aH), g = k - e → e ≤ k → NGT h h1 → LH h i h1 →
    WI N 204 31 [(0, .inr (.inr 92)), (1, .inl a), (2, .inl (k : Int)), (3, .inr (.inl (bset (fun d => allB (UPN h a d) (if d < e then i + 1 else i)) k : Nat))), (5, .inl (i : Int)), (6, .inl (e : Int))] h1 C := by
  have hz := P.1.1
  unfold okSz at hz
  have n12 : NSL h ≤ 12 := by unfold NSL; omega
  have en : h 16 16 = (NSL h : Int) := by unfold NSL; omega
  intro g
  induction g with
  | zero =>
    intro e h1 hg he G L
    have : e = k := by omega
    subst this
    have key := hC h1 G
    rw [bset_congr (q := fun d => allB (UPN h a d) (if d < e then i + 1 else i)) (fun d hd => by rw [if_pos hd])] at key
    exact w_204_31 ⟨fun _ => ck_rg (by omega) key, fun z => absurd (Int.le_refl _) z⟩
  | succ g ih =>
    intro e h1 hg he G L
    have nx := fun h2 => ih (e + 1) h2 (by omega) (by omega)
    have bl := bset_lt (fun d => allB (UPN h a d) (if d < e then i + 1 else i)) k (Nat.le_refl k)
    have l50' := l50 hk bl
    have eb : (bset (fun d => allB (UPN h a d) (if d < e then i + 1 else i)) k).testBit e = allB (UPN h a e) i := by
      rw [bset_tb, decide_eq_true (show e < k by omega), Bool.true_and, if_neg (Nat.lt_irrefl e)]
    have eo : ∀ d, d ≠ e → allB (UPN h a d) (if d < e + 1 then i + 1 else i) = allB (UPN h a d) (if d < e then i + 1 else i) := by
      intro d hd
      by_cases c : d < e
      · rw [if_pos c, if_pos (by omega)]
      · rw [if_neg c, if_neg (by omega)]
    have e1 : allB (UPN h a e) (if e < e + 1 then i + 1 else i) = (allB (UPN h a e) i && LUP h a e i) := by
      rw [if_pos (by omega)]
      show (allB (UPN h a e) i && (!HASH h i || LUP h a e i)) = _
      rw [HASH_t hh]; simp
    have e0 : allB (UPN h a e) (if e < e then i + 1 else i) = allB (UPN h a e) i := by rw [if_neg (Nat.lt_irrefl e)]
    have same : (allB (UPN h a e) i && LUP h a e i) = allB (UPN h a e) i → bset (fun d => allB (UPN h a d) (if d < e + 1 then i + 1 else i)) k = bset (fun d => allB (UPN h a d) (if d < e then i + 1 else i)) k := by
      intro q
      refine bset_congr (fun d _ => ?_)
      by_cases c : d = e
      · subst c; rw [e1, e0, q]
      · exact eo d c
    refine w_204_31 ⟨fun z => by omega, fun _ => ?_⟩
    rw [bl_tst l50' (by omega), eb]
    cases q : allB (UPN h a e) i with
    | false =>
      rw [q] at same
      rw [same rfl] at nx
      refine ⟨fun _ => ck_rg (by omega) (nx h1 G L), fun z => absurd (by decide) z⟩
    | true =>
      rw [q] at same
      refine ⟨fun z => absurd (by decide) z, fun _ => c_lup P (by omega) hh ⟨by omega, by omega⟩ G L (fun h2 G2 L2 => ⟨fun u => ?_, fun u => ?_⟩)⟩
      · have u := bif_n0 u
        rw [same (by rw [u]; rfl)] at nx
        exact ck_rg (by omega) (nx h2 G2 L2)
      · have u := bif0.mp (Decidable.not_not.mp u)
        have tl := l50 hk (two_lt (show e < k by omega))
        rw [bl_shl (show e < 63 by omega), bl_clr l50' tl, bset_clr (q := fun d => allB (UPN h a d) (if d < e + 1 then i + 1 else i)) hk (by omega) (fun d _ hd => eo d hd) (by rw [e1, u, Bool.and_false])]
        exact ck_rg (by omega) (nx h2 G2 L2)
theorem c_dao {N : Nat} {C : Int → aH → Prop} {h : aH} {a : Int} {k : Nat} (P : PI h) (hk : k ≤ 50) (hC : ∀ h', NGT h h' → C (cntB (AUP h a) k : Nat) h') : ∀ (g i : Nat) (h1 : aH), g = NSL h - i → i ≤ NSL h → NGT h h1 →
    WI N 204 12 [(0, .inr (.inr 92)), (1, .inl a), (2, .inl (k : Int)), (3, .inr (.inl (bset (fun d => allB (UPN h a d) i) k : Nat))), (5, .inl (i : Int))] h1 C := by
  have hz := P.1.1
  unfold okSz at hz
  have n12 : NSL h ≤ 12 := by unfold NSL; omega
  have en : h 16 16 = (NSL h : Int) := by unfold NSL; omega
  intro g
  induction g with
  | zero =>
    intro i h1 hg hi G
    have : i = NSL h := by omega
    subst this
    refine w_204_12 ?_
    rw [G.1.at 16 (by decide) (by decide), en]
    refine ⟨fun _ => ?_, fun z => absurd (Int.le_refl _) z⟩
    refine c_bitsL (bset_lt _ k hk) ?_
    have e : cntB (fun t => (bset (fun d => allB (UPN h a d) (NSL h)) k).testBit t) 50 = cntB (AUP h a) k := by
      rw [cntB_ext hk (fun t h1 _ => by rw [bset_tb, decide_eq_false (by omega)]; rfl)]
      refine cnt_congr (fun t ht => ?_)
      rw [bset_tb, decide_eq_true ht]; rfl
    rw [e]
    exact hC h1 G
  | succ g ih =>
    intro i h1 hg hi G
    have nx := fun h2 => ih (i + 1) h2 (by omega) (by omega)
    refine w_204_12 ?_
    rw [G.1.at 16 (by decide) (by decide), G.1.at 23 (by decide) (by decide), en]
    refine ⟨fun z => by omega, fun _ => ?_⟩
    (repeat first | refine ck_ix (by omega) ?_ | refine ck_rg (by omega) ?_ | refine ck_rl (by omega) ?_)
    simp only [Int.toNat_natCast]
    refine ⟨fun hne => c_lis P (by omega) G (fun h2 G2 L2 => ?_), fun he => ?_⟩
    · have r := c_dai (N := N) (C := C) (a := a) P hk (show i < NSL h by omega) hne nx k 0 h2 rfl (Nat.zero_le _) G2 L2
      rw [bset_congr (q := fun d => allB (UPN h a d) i) (fun d _ => by rw [if_neg (Nat.not_lt_zero d)])] at r
      exact r
    · (repeat first | refine ck_ix (by omega) ?_ | refine ck_rg (by omega) ?_ | refine ck_rl (by omega) ?_)
      rw [bset_congr (q := fun d => allB (UPN h a d) i) (fun d _ => by
        show (allB (UPN h a d) i && (!HASH h i || LUP h a d i)) = _
        rw [HASH_f (Decidable.not_not.mp he)]; simp)] at nx
      exact nx h1 G
theorem c_dsl {N : Nat} {C : Int → aH → Prop} {h : aH} {a : Int} {k s : Nat} (P : PI h) (hk : k ≤ 50) (hs : (s : Int) < h 16 16) (hh : ¬ h 23 s = -2) (hC : ∀ h', NGT h h' → C (cntB (fun d => LUP h a d s) k : Nat) h') : ∀ (g d : Nat) (h1 : aH), g = k - d → d ≤ k → NGT h h1 → LH h s h1 →
    WI N 203 43 [(0, .inr (.inr 9)), (1, .inl a), (2, .inl (k : Int)), (3, .inl (s : Int)), (4, .inl (cntB (fun d => LUP h a d s) d : Nat)), (5, .inl (d : Int))] h1 C := by
  intro g
  induction g with
  | zero =>
    intro d h1 hg hd G L
    have : d = k := by omega
    subst this
    exact w_203_43 ⟨fun _ => hC h1 G, fun z => absurd (Int.le_refl _) z⟩
  | succ g ih =>
    intro d h1 hg hd G L
    have nx := fun h2 => ih (d + 1) h2 (by omega) (by omega)
    have c := cntB_le (fun d => LUP h a d s) d
    rw [cntB_s] at nx
    unfold bI at nx
    refine w_203_43 ⟨fun z => by omega, fun _ => c_lup P hs hh ⟨by omega, by omega⟩ G L (fun h2 G2 L2 => ⟨fun u => ?_, fun u => ?_⟩)⟩
    · rw [bif0.mp u] at nx
      exact ck_rg (by omega) (ck_rg (by omega) (nx h2 G2 L2))
    · rw [bif_n0 u] at nx
      exact ck_rg (by omega) (ck_rg (by omega) (nx h2 G2 L2))
theorem c_days {N : Nat} {C : Int → aH → Prop} {h : aH} {a k s : Int} (P : PI h) (hs : scr h) (hC : ∀ h', Fr SNX [] h h' → scr h' → C (vDays h a k s) h') : WI N 203 0 [(0, .inr (.inr 9)), (1, .inl a), (2, .inl k), (3, .inl s)] h C := by
  have hz := P.1.1
  unfold okSz at hz
  unfold vDays at hC
  refine w_203_0 ⟨fun q => ?_, fun q => ⟨fun q2 => ?_, fun q2 => ?_⟩⟩
  · rw [if_neg (by omega)] at hC; exact hC h Fr.rfl hs
  · rw [if_pos (by omega)] at hC
    obtain ⟨k, rfl⟩ := Int.eq_ofNat_of_zero_le (show 0 ≤ k by omega)
    simp only [Int.toNat_natCast] at hC
    refine ⟨fun hne => ?_, fun he => ?_⟩
    · rw [if_neg hne] at hC
      refine c_isSleeper (fun hin => z1 ?_) (fun hout => z0 ?_)
      · obtain ⟨s, rfl⟩ := Int.eq_ofNat_of_zero_le hin.1
        simp only [Int.toNat_natCast] at hC ⊢
        (repeat first | refine ck_ix (by omega) ?_ | refine ck_rg (by omega) ?_ | refine ck_rl (by omega) ?_)
        refine ⟨fun hh => ?_, fun hh => ?_⟩
        · rw [if_pos ⟨hin, hh⟩] at hC
          exact c_night P hs (fun h1 G => c_lis P hin.2 G (fun h2 G2 L2 => c_dsl P (by omega) hin.2 hh (fun h3 G3 => hC h3 G3.1 G3.2.1) k 0 h2 rfl (Nat.zero_le _) G2 L2))
        · rw [if_neg (fun z => hh z.2)] at hC
          exact hC h Fr.rfl hs
      · rw [if_neg (fun z => hout z.1)] at hC
        exact hC h Fr.rfl hs
    · rw [if_pos (Decidable.not_not.mp he)] at hC
      have h50 := two_le (n := k) (m := 50) (by omega)
      have e50 : (2 : Nat) ^ 50 = 1125899906842624 := by decide
      have hp : 0 < 2 ^ k := Nat.pow_pos (by decide)
      refine w_204_0 ?_
      rw [bl_shl (show k < 63 by omega)]
      refine ck_rl (by omega) (c_night P hs (fun h1 G => ?_))
      have r := c_dao (N := N) (C := C) (a := a) P (show k ≤ 50 by omega) (fun h2 G2 => hC h2 G2.1 G2.2.1) (NSL h) 0 h1 rfl (Nat.zero_le _) G
      rw [show bset (fun d => allB (UPN h a d) 0) k = 2 ^ k - 1 from bset_true k, show ((2 ^ k - 1 : Nat) : Int) = ((2 ^ k : Nat) : Int) - 1 by omega] at r
      exact r
  · rw [if_neg (by omega)] at hC; exact hC h Fr.rfl hs
theorem m_whl2 {N : Nat} {C : Int → aH → Prop} {h : aH} (P : PI h) (R : RelH h) (hC : C (bset (HASH h) (NSL h) : Nat) h) : ∀ (e k : Nat), e = NSL h - k → k ≤ NSL h →
    WI N 300 5 [(0, .inr (.inr 130)), (1, .inl (bset (HASH h) k : Nat)), (2, .inl (k : Int))] h C := by
  have hz := P.1.1
  unfold okSz at hz
  have n12 : NSL h ≤ 12 := by unfold NSL; omega
  have en : h 16 16 = (NSL h : Int) := by unfold NSL; omega
  obtain ⟨g1, g2, g3⟩ := m_nsl P R
  intro e
  induction e with
  | zero =>
    intro k he hk
    have : k = NSL h := by omega
    subst this
    refine w_300_5 (ck_ix (by omega) ?_)
    rw [g2]
    exact ⟨fun _ => hC, fun z => absurd (Int.le_refl _) z⟩
  | succ e ih =>
    intro k he hk
    have nx := ih (k + 1) (by omega) (by omega)
    have bl := bset_lt (HASH h) k (show k ≤ NSL h by omega)
    have q2 := (P.1.2.2.2.1 k (by omega)).2.1
    rw [show bset (HASH h) (k + 1) = bif HASH h k then bset (HASH h) k ||| 2 ^ k else bset (HASH h) k from rfl] at nx
    refine w_300_5 (ck_ix (by omega) ?_)
    rw [g2]
    refine ⟨fun z => by omega, fun _ => m_hour P.1 R (by omega) ⟨fun lt => ?_, fun ge => ?_⟩⟩
    · rw [HASH_f (by omega)] at nx
      exact ck_rg (by omega) nx
    · rw [HASH_t (by omega)] at nx
      rw [bt_shl (show k < 31 by omega), bt_or (m31 n12 bl) (m31 n12 (two_lt (by omega)))]
      exact ck_rg (by omega) nx
theorem m_withHours {N : Nat} {C : Int → aH → Prop} {h : aH} (P : PI h) (R : RelH h) (hC : C (bset (HASH h) (NSL h) : Nat) h) : WI N 300 0 [(0, .inr (.inr 130))] h C := w_300_0 (m_whl2 P R hC _ 0 rfl (Nat.zero_le _))
theorem dup_all {h : aH} {a : Int} {d : Nat} : DUP h a d = bset (HASH h) (NSL h) ↔ AUP h a d = true := by
  unfold AUP
  rw [allB_iff]
  refine ⟨fun e i hi => ?_, fun e => bset_congr (fun i hi => ?_)⟩
  · have this : (DUP h a d).testBit i = (bset (HASH h) (NSL h)).testBit i := by rw [e]
    unfold DUP at this
    rw [bset_tb, bset_tb, decide_eq_true hi, Bool.true_and, Bool.true_and] at this
    unfold UPN
    cases hq : HASH h i with
    | false => rfl
    | true => rw [hq] at this; exact this
  · have := e i hi
    unfold UPN at this
    cases hq : HASH h i with
    | false => rfl
    | true => rw [hq] at this; exact this
theorem DUP_kp {h h' : aH} (kp : Kp h h') : DUP h' = DUP h := by
  funext a d
  unfold DUP
  rw [HASH_kp kp, LUP_kp kp]
  unfold NSL
  rw [kp.at 16 (by decide)]
theorem m_dsl {N : Nat} {C : Int → aH → Prop} {h : aH} {a s : Int} {k : Nat} {p : Nat → Bool} (P : PI h) (R : RelH h) (Q : RelP h) (hk : k ≤ 50) (hp : (s = -1 ∧ p = AUP h a) ∨ ((0 ≤ s ∧ s < h 16 16) ∧ ¬ h 23 s.toNat = -2 ∧ p = fun (d : Nat) => LUP h a d s.toNat)) (hC : ∀ h', Fr [159, 160, 167] [] h h' → C (cntB p k : Nat) h') : ∀ (g d : Nat) (h1 : aH), g = k - d → d ≤ k → Fr [159, 160, 167] [] h h1 →
    WI N 347 23 [(0, .inr (.inr 130)), (1, .inl a), (2, .inl (k : Int)), (3, .inl s), (4, .inl (cntB p d : Nat)), (5, .inl (d : Int))] h1 C := by
  have hz := P.1.1
  unfold okSz at hz
  have n12 : NSL h ≤ 12 := by unfold NSL; omega
  have en : h 16 16 = (NSL h : Int) := by unfold NSL; omega
  intro g
  induction g with
  | zero =>
    intro d h1 hg hd hf
    have : d = k := by omega
    subst this
    exact w_347_23 ⟨fun _ => hC h1 hf, fun z => absurd (Int.le_refl _) z⟩
  | succ g ih =>
    intro d h1 hg hd hf
    have kp := hf.kp (by decide)
    have nx := fun h2 => ih (d + 1) h2 (by omega) (by omega)
    have c := cntB_le p d
    rw [cntB_s] at nx
    unfold bI at nx
    refine w_347_23 ⟨fun z => by omega, fun _ => m_upOn (kp.pi P) (R.mv hf (by decide) (by decide) (by decide)) (Q.keep kp hf (by decide) (by decide)) ⟨by omega, by omega⟩ (fun h2 f2 => ?_)⟩
    have f3 := hf.trans f2
    have kp3 := f3.kp (by decide)
    rw [DUP_kp kp]
    have bl : DUP h a d < 2 ^ NSL h := bset_lt _ _ (Nat.le_refl _)
    rcases hp with ⟨hs, hp⟩ | ⟨hs, hh, hp⟩
    · refine ⟨fun z => absurd hs z, fun _ => m_withHours (kp3.pi P) (R.mv f3 (by decide) (by decide) (by decide)) ?_⟩
      have eh : bset (HASH h2) (NSL h2) = bset (HASH h) (NSL h) := by
        rw [HASH_kp kp3]
        unfold NSL
        rw [kp3.at 16 (by decide)]
      rw [eh]
      refine ⟨fun q => ?_, fun q => ?_⟩
      · have : p d = false := by
          rw [hp]
          cases z : AUP h a d
          · rfl
          · exact absurd (congrArg (fun x : Nat => (x : Int)) (dup_all.mpr z)) q
        rw [this] at nx
        have nx2 := nx h2 f3
        rw [show ((cntB p d : Nat) : Int) + (bif false then 1 else 0) = (cntB p d : Nat) by show _ + (0 : Int) = _; omega] at nx2
        exact ck_rg (by omega) nx2
      · have : p d = true := by
          rw [hp]
          exact dup_all.mp (by have := Decidable.not_not.mp q; omega)
        rw [this] at nx
        exact ck_rg (by omega) (ck_rg (by omega) (nx h2 f3))
    · obtain ⟨s, rfl⟩ := Int.eq_ofNat_of_zero_le hs.1
      simp only [Int.toNat_natCast] at hh hp
      have hb : (DUP h a d).testBit s = p d := by
        unfold DUP
        rw [bset_tb, decide_eq_true (show s < NSL h by omega), HASH_t hh, hp]
        rfl
      refine ⟨fun _ => ?_, fun z => absurd (fun q => by omega) z⟩
      rw [bt_tst (m31 n12 bl) (by omega), hb]
      refine ⟨fun q => ?_, fun q => ?_⟩
      · have : p d = false := by
          cases z : p d
          · rfl
          · rw [z] at q; exact absurd rfl q
        rw [this] at nx
        have nx2 := nx h2 f3
        rw [show ((cntB p d : Nat) : Int) + (bif false then 1 else 0) = (cntB p d : Nat) by show _ + (0 : Int) = _; omega] at nx2
        exact ck_rg (by omega) nx2
      · have : p d = true := if_bit.2.mp (Decidable.not_not.mp q)
        rw [this] at nx
        exact ck_rg (by omega) (ck_rg (by omega) (nx h2 f3))
theorem m_days {N : Nat} {C : Int → aH → Prop} {h : aH} {a k s : Int} (P : PI h) (R : RelH h) (Q : RelP h) (hC : ∀ h', Fr [159, 160, 167] [] h h' → C (vDays h a k s) h') : WI N 347 0 [(0, .inr (.inr 130)), (1, .inl a), (2, .inl k), (3, .inl s)] h C := by
  have hz := P.1.1
  unfold okSz at hz
  unfold vDays at hC
  refine w_347_0 (m_in (fun q => z1 ?_) (fun q => z0 ?_))
  · rw [if_pos q] at hC
    obtain ⟨k, rfl⟩ := Int.eq_ofNat_of_zero_le (show 0 ≤ k by omega)
    simp only [Int.toNat_natCast] at hC
    refine ⟨fun he => ?_, fun hne => m_isSleeper P.1 R (fun hin => z1 ?_) (fun hout => z0 ?_)⟩
    · rw [if_pos he] at hC
      exact m_dsl P R Q (by omega) (Or.inl ⟨he, rfl⟩) hC k 0 h rfl (Nat.zero_le _) Fr.rfl
    · rw [if_neg hne] at hC
      obtain ⟨s, rfl⟩ := Int.eq_ofNat_of_zero_le hin.1
      have q2 := (P.1.2.2.2.1 s hin.2).2.1
      refine m_hour P.1 R hin.2 ⟨fun ge => ?_, fun lt => ?_⟩
      · rw [if_pos ⟨hin, by simp only [Int.toNat_natCast]; omega⟩] at hC
        exact m_dsl P R Q (by omega) (Or.inr ⟨hin, by simp only [Int.toNat_natCast]; omega, rfl⟩) hC k 0 h rfl (Nat.zero_le _) Fr.rfl
      · rw [if_neg (fun z => z.2 (by simp only [Int.toNat_natCast]; omega))] at hC
        exact hC h Fr.rfl
    · rw [if_neg hne, if_neg (fun z => hout z.1)] at hC
      exact hC h Fr.rfl
  · rw [if_neg q] at hC; exact hC h Fr.rfl
