/-! SWAPS: the class's -/
/-- the first from k on, of d -/
def ffst (q : Nat → Bool) : Nat → Nat → Option Nat
  | 0, _ => none
  | d + 1, k => bif q k then some k else ffst q d (k + 1)
theorem ffst_t {q : Nat → Bool} {d k : Nat} (h : q k = true) : ffst q (d + 1) k = some k := by unfold ffst; rw [h]; rfl
theorem ffst_f {q : Nat → Bool} {d k : Nat} (h : q k = false) : ffst q (d + 1) k = ffst q d (k + 1) := by rw [show ffst q (d + 1) k = bif q k then some k else ffst q d (k + 1) from rfl, h]; rfl
theorem ffst_rg {q : Nat → Bool} : ∀ {d k b : Nat}, ffst q d k = some b → k ≤ b ∧ b < k + d ∧ q b = true
  | 0, _, _, h => by cases h
  | d + 1, k, b, h => by
    cases e : q k with
    | true => rw [ffst_t e] at h; have := Option.some.inj h; subst this; exact ⟨Nat.le_refl _, by omega, e⟩
    | false => rw [ffst_f e] at h; have := ffst_rg h; exact ⟨by omega, by omega, this.2.2⟩
def INP (p : Nat → Nat → Bool) (n a : Nat) : Option Nat := ffst (p a) (n - (a + 1)) (a + 1)
/-- the first pair, from a on -/
def FPP (p : Nat → Nat → Bool) (n : Nat) : Nat → Nat → Option (Nat × Nat)
  | 0, _ => none
  | d + 1, a => match INP p n a with
    | some b => some (a, b)
    | none => FPP p n d (a + 1)
theorem FPP_some {p : Nat → Nat → Bool} {n d a b : Nat} (h : INP p n a = some b) : FPP p n (d + 1) a = some (a, b) := by unfold FPP; rw [h]
theorem FPP_none {p : Nat → Nat → Bool} {n d a : Nat} (h : INP p n a = none) : FPP p n (d + 1) a = FPP p n d (a + 1) := by
  rw [show FPP p n (d + 1) a = (match INP p n a with | some b => some (a, b) | none => FPP p n d (a + 1)) from rfl, h]
def FP (p : Nat → Nat → Bool) (n : Nat) : Option (Nat × Nat) := FPP p n n 0
theorem FPP_rg {p : Nat → Nat → Bool} {n : Nat} : ∀ {d a : Nat} {v : Nat × Nat}, d + a = n → FPP p n d a = some v → a ≤ v.1 ∧ v.1 < v.2 ∧ v.2 < n ∧ p v.1 v.2 = true
  | 0, _, _, _, h => by cases h
  | d + 1, a, v, hd, h => by
    cases e : INP p n a with
    | some b =>
      rw [FPP_some e] at h
      have := Option.some.inj h
      subst this
      have r := ffst_rg e
      exact ⟨Nat.le_refl _, by show a < b; omega, by show b < n; omega, r.2.2⟩
    | none =>
      rw [FPP_none e] at h
      have := FPP_rg (show d + (a + 1) = n by omega) h
      exact ⟨by omega, this.2⟩
theorem FP_rg {p : Nat → Nat → Bool} {n : Nat} {v : Nat × Nat} (h : FP p n = some v) : v.1 < v.2 ∧ v.2 < n ∧ p v.1 v.2 = true := (FPP_rg (Nat.add_zero n) h).2
def NBD (h : aH) : Nat := (h 16 14).toNat
def SWB (a b : Nat) (bd : Nat → Int) : Nat → Int := fun s => swB a b (bd s)
/-- beds as they may be -/
def BDO (h : aH) (bd : Nat → Int) : Prop := (∀ s, s < NSL h → 0 ≤ bd s ∧ bd s < h 16 14) ∧ ∀ i j, i < NSL h → j < NSL h → bd i = bd j → i = j
theorem BDO.sw {h : aH} {bd : Nat → Int} (B : BDO h bd) {a b : Nat} (ha : a < NBD h) (hb : b < NBD h) : BDO h (SWB a b bd) := by
  unfold NBD at ha hb
  refine ⟨fun s hs => swB_lt ⟨by omega, by omega⟩ ⟨by omega, by omega⟩ (B.1 s hs), fun i j hi hj e => B.2 i j hi hj ?_⟩
  have e : swB a b (bd i) = swB a b (bd j) := e
  have := congrArg (swB a b) e
  rw [swB_swB, swB_swB] at this
  exact this
theorem bdo_h {h : aH} (P : PI h) : BDO h (h 63) := by
  have hz := P.1.1
  unfold okSz at hz
  refine ⟨fun s hs => ?_, fun i j hi hj => P.2.1.inj i j ?_ ?_⟩
  · have := P.2.1.1 s (by unfold NSL at hs; omega); exact ⟨this.1, this.2.1⟩
  · unfold NSL at hi; omega
  · unfold NSL at hj; omega
/-- with those two BEDS changed COST is no more than that -/
def PR1 (h : aH) (L : Int) (bd : Nat → Int) (a b : Nat) : Bool := decide (CSB h (SWB a b bd) (WOF h ·) ≤ L)
def F1 (h : aH) (L : Int) (bd : Nat → Int) : Option (Nat × Nat) := FP (PR1 h L bd) (NBD h)
def PR2 (h : aH) (L : Int) (bd : Nat → Int) (a b : Nat) : Bool := (F1 h L (SWB a b bd)).isSome
def F2 (h : aH) (L : Int) (bd : Nat → Int) : Option (Nat × Nat) := FP (PR2 h L bd) (NBD h)
def cdP (v : Nat × Nat) : Int := 100 * (v.1 : Int) + (v.2 : Int)
def cdO : Option (Nat × Nat) → Int
  | some v => cdP v
  | none => 0
def LIM (h : aH) (l : Int) : Int := l * 100 ^ (h 58 10).toNat
def SWR (h : aH) (l : Int) : Int × Int × Int := if CSB h (h 63) (WOF h ·) ≤ LIM h l then (0, 0, 0) else match F1 h (LIM h l) (h 63) with
  | some v => (1, cdP v, 0)
  | none => match F2 h (LIM h l) (h 63) with
    | some v => (2, cdP v, cdO (F1 h (LIM h l) (SWB v.1 v.2 (h 63))))
    | none => (-2, 0, 0)
def vSwaps (h : aH) (l : Int) : Int := if 0 ≤ l ∧ l ≤ 99 then (SWR h l).1 else -1
def vSwapAt (h : aH) (l i : Int) : Int := if 0 ≤ l ∧ l ≤ 99 then (if 0 ≤ i ∧ i < (SWR h l).1 then (if i = 0 then (SWR h l).2.1 else (SWR h l).2.2) else -1) else -1
/-- what each would cost in each bed -/
def PRT (h h1 : aH) : Prop := ∀ i b : Nat, i < NSL h → b < NBD h → h1 127 (i * 12 + b) = SBW h i b (WOF h i)
theorem c_spb {N : Nat} {C : aH → Prop} {h : aH} {i : Nat} (P : PI h) (hi : i < NSL h) (hC : ∀ h', NGT h h' → (∀ k b : Nat, k < i + 1 → b < NBD h → h' 127 (k * 12 + b) = SBW h k b (WOF h k)) → WV N 162 7 [(0, .inr (.inr 126)), (1, .inl ((i : Int) + 1))] h' C) : ∀ (d b : Nat) (h1 : aH), d = NBD h - b → b ≤ NBD h → NGT h h1 → (∀ k c : Nat, (k < i ∧ c < NBD h) ∨ (k = i ∧ c < b) → h1 127 (k * 12 + c) = SBW h k c (WOF h k)) →
    WV N 162 15 [(0, .inr (.inr 126)), (1, .inl (i : Int)), (2, .inl (b : Int))] h1 C := by
  have hz := P.1.1
  unfold okSz at hz
  have n12 : NSL h ≤ 12 := by unfold NSL; omega
  have en : h 16 16 = (NSL h : Int) := by unfold NSL; omega
  have b12 : NBD h ≤ 12 := by unfold NBD; omega
  have eb : h 16 14 = (NBD h : Int) := by unfold NBD; omega
  intro d
  induction d with
  | zero =>
    intro b h1 hd hb G hp
    have : b = NBD h := by omega
    subst this
    refine w_162_15 ?_
    rw [G.1.at 16 (by decide) (by decide), eb]
    exact ⟨fun _ => ck_rg (by omega) (hC h1 G (fun k c hk hc => hp k c (by omega))), fun z => absurd (Int.le_refl _) z⟩
  | succ d ih =>
    intro b h1 hd hb G hp
    have kp := G.1.kp (by decide)
    refine w_162_15 ?_
    rw [G.1.at 16 (by decide) (by decide), eb]
    refine ⟨fun z => by omega, fun _ => w_77_0 ?_⟩
    have ew : am_and (am_shr (h1 58 11) (i : Int)) 1 = WOF h i := by
      have : WOF h1 i = WOF h i := by rw [kp.wof]
      exact this
    rw [ew]
    refine c_lisF P (by omega) ⟨by omega, by omega⟩ G (fun h2 G2 f2 L2 => ?_)
    (repeat first | refine ck_ix (by omega) ?_ | refine ck_rg (by omega) ?_ | refine ck_rl (by omega) ?_)
    refine c_shr P (by omega) G2 L2 (fun h3 G3 f3 => ?_)
    (repeat first | refine ck_ix (by omega) ?_ | refine ck_rg (by omega) ?_ | refine ck_rl (by omega) ?_)
    rw [show ((i : Int) * 12 + (b : Int)).toNat = i * 12 + b by omega]
    refine ih (b + 1) _ (by omega) (by omega) (G3.wr (by decide)) (fun k c hkc => ?_)
    rw [up_in]
    by_cases q : k * 12 + c = i * 12 + b
    · have q1 : k = i := by omega
      have q2 : c = b := by omega
      rw [if_pos q, q1, q2]
    · rw [if_neg q, (f2.trans f3).at 127 (by decide) (by decide)]
      exact hp k c (by omega)
theorem c_spi {N : Nat} {C : aH → Prop} {h : aH} (P : PI h) (hC : ∀ h', NGT h h' → PRT h h' → C h') : ∀ (d i : Nat) (h1 : aH), d = NSL h - i → i ≤ NSL h → NGT h h1 → (∀ k b : Nat, k < i → b < NBD h → h1 127 (k * 12 + b) = SBW h k b (WOF h k)) →
    WV N 162 7 [(0, .inr (.inr 126)), (1, .inl (i : Int))] h1 C := by
  have hz := P.1.1
  unfold okSz at hz
  have en : h 16 16 = (NSL h : Int) := by unfold NSL; omega
  intro d
  induction d with
  | zero =>
    intro i h1 hd hi G hp
    have : i = NSL h := by omega
    subst this
    refine w_162_7 ?_
    rw [G.1.at 16 (by decide) (by decide), en]
    exact ⟨fun _ => hC h1 G (fun k b hk hb => hp k b hk hb), fun z => absurd (Int.le_refl _) z⟩
  | succ d ih =>
    intro i h1 hd hi G hp
    refine w_162_7 ?_
    rw [G.1.at 16 (by decide) (by decide), en]
    exact ⟨fun z => by omega, fun _ => c_spb P (by omega) (fun h2 G2 p2 => ih (i + 1) h2 (by omega) (by omega) G2 p2) _ 0 h1 rfl (Nat.zero_le _) G (fun k c hkc => hp k c (by omega) (by omega))⟩
theorem c_setPrices {N : Nat} {C : aH → Prop} {h : aH} (P : PI h) (hs : scr h) (hC : ∀ h', NGT h h' → PRT h h' → C h') : WV N 162 0 [(0, .inr (.inr 126))] h C :=
  w_162_0 (c_night P hs (fun h1 G => c_spi P hC _ 0 h1 rfl (Nat.zero_le _) G (fun k b hk => by omega)))
/-- who lies where, turned -/
def LIN (h : aH) (bd : Nat → Int) (h1 : aH) : Prop := ∀ x, x < NBD h → (h1 128 x = -2 ∧ ∀ s, s < NSL h → bd s ≠ x) ∨ ∃ s, s < NSL h ∧ h1 128 x = (s : Nat) ∧ bd s = x
theorem c_priceOf {N : Nat} {C : Int → aH → Prop} {h h1 : aH} {s b : Nat} (P : PI h) (T : PRT h h1) (hs : s < NSL h) (hb : b < NBD h) (hC : C (SBW h s b (WOF h s)) h1) : WL N 163 0 [(0, .inr (.inr 126)), (1, .inl (s : Int)), (2, .inl (b : Int))] h1 C := by
  have hz := P.1.1
  unfold okSz at hz
  have n12 : NSL h ≤ 12 := by unfold NSL; omega
  have b12 : NBD h ≤ 12 := by unfold NBD; omega
  refine w_163_0 ⟨fun _ => ?_, fun z => by omega⟩
  (repeat first | refine ck_ix (by omega) ?_ | refine ck_rg (by omega) ?_ | refine ck_rl (by omega) ?_)
  rw [show ((s : Int) * 12 + (b : Int)).toNat = s * 12 + b by omega, T s b hs hb]
  exact hC
theorem c_priceNo {N : Nat} {C : Int → aH → Prop} {h1 : aH} {b : Int} (hC : C 0 h1) : WL N 163 0 [(0, .inr (.inr 126)), (1, .inl (-2)), (2, .inl b)] h1 C := w_163_0 ⟨fun z => absurd rfl z, fun _ => hC⟩
def SV1 (h : aH) (s a b : Nat) : Int := SBW h s a (WOF h s) - SBW h s b (WOF h s)
/-- what a change saves -/
def SAV (h : aH) (bd : Nat → Int) (a b : Nat) : Int := CSB h bd (WOF h ·) - CSB h (SWB a b bd) (WOF h ·)
theorem csb_one {h : aH} {bd bd' : Nat → Int} {s : Nat} (hs : s < NSL h) (e : ∀ j, j < NSL h → j ≠ s → bd j = bd' j) : CSB h bd (WOF h ·) - CSB h bd' (WOF h ·) = SBW h s (bd s) (WOF h s) - SBW h s (bd' s) (WOF h s) := by
  unfold CSB
  exact sumN_one hs (fun j hj hne => by dsimp only; rw [e j hj hne])
theorem csb_eq {h : aH} {bd bd' : Nat → Int} {wl : Nat → Int} (e : ∀ j, j < NSL h → bd j = bd' j) : CSB h bd wl = CSB h bd' wl := by
  unfold CSB
  exact sumN_congr (fun j hj => by rw [e j hj])
theorem c_saved {N : Nat} {C : Int → aH → Prop} {h h1 : aH} {bd : Nat → Int} {a b : Nat} (P : PI h) (T : PRT h h1) (B : BDO h bd) (L : LIN h bd h1) (ha : a < NBD h) (hb : b < NBD h) (hab : a ≠ b) (hC : C (SAV h bd a b) h1) : WL N 165 0 [(0, .inr (.inr 126)), (1, .inl (a : Int)), (2, .inl (b : Int))] h1 C := by
  have hz := P.1.1
  unfold okSz at hz
  have b12 : NBD h ≤ 12 := by unfold NBD; omega
  have en : h 16 16 = (NSL h : Int) := by unfold NSL; omega
  have bd1 : ∀ s x : Nat, s < NSL h → 0 ≤ SBW h s x (WOF h s) ∧ SBW h s x (WOF h s) ≤ 90000000000000000 := fun s x hs => SBW_bd P (by omega) _ _
  have sw1 : ∀ x : Int, x ≠ a → x ≠ b → swB a b x = x := fun x h1 h2 => by unfold swB; rw [if_neg h1, if_neg h2]
  have swa : swB a b (a : Int) = b := by unfold swB; rw [if_pos rfl]
  have swb : swB a b (b : Int) = a := by unfold swB; rw [if_neg (by omega), if_pos rfl]
  refine w_165_0 ?_
  (repeat first | refine ck_ix (by omega) ?_ | refine ck_rg (by omega) ?_ | refine ck_rl (by omega) ?_)
  simp only [Int.toNat_natCast]
  rcases L a ha with ⟨i1, i2⟩ | ⟨s, s1, s2, s3⟩ <;> rcases L b hb with ⟨j1, j2⟩ | ⟨t, t1, t2, t3⟩
  · rw [i1, j1]
    refine c_priceNo (c_priceNo (ck_rl (by omega) (c_priceNo (ck_rl (by omega) (c_priceNo (ck_rl (by omega) ?_))))))
    have e : SAV h bd a b = 0 := by
      unfold SAV
      rw [csb_eq (bd := SWB a b bd) (bd' := bd) (fun j hj => sw1 _ (i2 j hj) (j2 j hj))]
      omega
    rw [e] at hC
    exact hC
  · rw [i1, t2]
    have q1 := bd1 t a t1
    have q2 := bd1 t b t1
    refine c_priceNo (c_priceNo (ck_rl (by omega) (c_priceOf P T t1 hb (ck_rl (by omega) (c_priceOf P T t1 ha (ck_rl (by omega) ?_))))))
    have e : SAV h bd a b = 0 - 0 + SBW h t b (WOF h t) - SBW h t a (WOF h t) := by
      unfold SAV
      rw [csb_one (bd' := SWB a b bd) t1 (fun j hj hne => (sw1 _ (i2 j hj) (fun z => hne (B.2 j t hj t1 (z.trans t3.symm)))).symm), t3]
      show _ - SBW h t (swB a b (bd t)) (WOF h t) = _
      rw [t3, swb]
      omega
    rw [e] at hC
    exact hC
  · rw [s2, j1]
    have q1 := bd1 s a s1
    have q2 := bd1 s b s1
    refine c_priceOf P T s1 ha (c_priceOf P T s1 hb (ck_rl (by omega) (c_priceNo (ck_rl (by omega) (c_priceNo (ck_rl (by omega) ?_))))))
    have e : SAV h bd a b = SBW h s a (WOF h s) - SBW h s b (WOF h s) + 0 - 0 := by
      unfold SAV
      rw [csb_one (bd' := SWB a b bd) s1 (fun j hj hne => (sw1 _ (fun z => hne (B.2 j s hj s1 (z.trans s3.symm))) (j2 j hj)).symm), s3]
      show _ - SBW h s (swB a b (bd s)) (WOF h s) = _
      rw [s3, swa]
      omega
    rw [e] at hC
    exact hC
  · rw [s2, t2]
    have q1 := bd1 s a s1
    have q2 := bd1 s b s1
    have q3 := bd1 t a t1
    have q4 := bd1 t b t1
    refine c_priceOf P T s1 ha (c_priceOf P T s1 hb (ck_rl (by omega) (c_priceOf P T t1 hb (ck_rl (by omega) (c_priceOf P T t1 ha (ck_rl (by omega) ?_))))))
    have hst : s ≠ t := by intro z; rw [z, t3] at s3; omega
    have e : SAV h bd a b = SBW h s a (WOF h s) - SBW h s b (WOF h s) + SBW h t b (WOF h t) - SBW h t a (WOF h t) := by
      have e1 := csb_one (h := h) (bd := bd) (bd' := fun j => if j = s then (b : Int) else bd j) s1 (fun j hj hne => by rw [if_neg hne])
      have e2 := csb_one (h := h) (bd := fun j => if j = s then (b : Int) else bd j) (bd' := SWB a b bd) t1 (fun j hj hne => by
        show _ = swB a b (bd j)
        by_cases z : j = s
        · rw [if_pos z, z, s3, swa]
        · rw [if_neg z, sw1 _ (fun y => z (B.2 j s hj s1 (y.trans s3.symm))) (fun y => hne (B.2 j t hj t1 (y.trans t3.symm)))])
      rw [if_pos rfl, s3] at e1
      rw [if_neg (fun z => hst z.symm), t3, show SWB a b bd t = swB a b (bd t) from rfl, t3, swb] at e2
      unfold SAV
      omega
    rw [e] at hC
    exact hC
