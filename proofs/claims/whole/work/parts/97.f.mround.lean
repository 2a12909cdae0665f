/-! THE ROUND: the reference's -/
/-- the first eight that have an hour, of the first k -/
def e8 (hour : Nat → Int) : Nat → (Nat → Nat) × Nat
  | 0 => (fun _ => 0, 0)
  | k + 1 => if hour k ≠ -2 ∧ (e8 hour k).2 < 8 then (fun j => if j = (e8 hour k).2 then k else (e8 hour k).1 j, (e8 hour k).2 + 1) else e8 hour k
theorem e8_y {hour : Nat → Int} {k : Nat} (h : hour k ≠ -2 ∧ (e8 hour k).2 < 8) : e8 hour (k + 1) = (fun j => if j = (e8 hour k).2 then k else (e8 hour k).1 j, (e8 hour k).2 + 1) := if_pos h
theorem e8_n {hour : Nat → Int} {k : Nat} (h : ¬ (hour k ≠ -2 ∧ (e8 hour k).2 < 8)) : e8 hour (k + 1) = e8 hour k := if_neg h
theorem e8_ok (hour : Nat → Int) : ∀ k, (e8 hour k).2 ≤ 8 ∧ (e8 hour k).2 ≤ k ∧ ∀ j, j < (e8 hour k).2 → (e8 hour k).1 j < k ∧ hour ((e8 hour k).1 j) ≠ -2
  | 0 => ⟨Nat.zero_le _, Nat.le_refl _, fun j h => absurd h (Nat.not_lt_zero j)⟩
  | k + 1 => by
    obtain ⟨i1, i2, i3⟩ := e8_ok hour k
    by_cases c : hour k ≠ -2 ∧ (e8 hour k).2 < 8
    · rw [e8_y c]
      refine ⟨by show (e8 hour k).2 + 1 ≤ 8; omega, by show (e8 hour k).2 + 1 ≤ k + 1; omega, fun j hj => ?_⟩
      have hj : j < (e8 hour k).2 + 1 := hj
      dsimp only
      by_cases e : j = (e8 hour k).2
      · rw [if_pos e]; exact ⟨by omega, c.1⟩
      · rw [if_neg e]
        obtain ⟨a, b⟩ := i3 j (by omega)
        exact ⟨by omega, b⟩
    · rw [e8_n c]
      exact ⟨i1, by omega, fun j hj => by obtain ⟨a, b⟩ := i3 j hj; exact ⟨by omega, b⟩⟩
theorem e8_full {hour : Nat → Int} {k : Nat} (h : (e8 hour k).2 = 8) : ∀ d, e8 hour (k + d) = e8 hour k
  | 0 => rfl
  | d + 1 => by
    have ih := e8_full h d
    show e8 hour (k + d + 1) = _
    rw [e8_n (by rw [ih, h]; omega), ih]
def NE (h : aH) : Nat := (e8 (h 23) (NSL h)).2
def EI (h : aH) (j : Nat) : Nat := (e8 (h 23) (NSL h)).1 j
theorem EI_ok {h : aH} (P : PI h) {j : Nat} (hj : j < NE h) : EI h j < NSL h ∧ (0 ≤ h 23 (EI h j) ∧ h 23 (EI h j) ≤ 399) := by
  obtain ⟨a, b⟩ := (e8_ok (h 23) (NSL h)).2.2 j hj
  have := (P.1.2.2.2.1 (EI h j) (by unfold NSL at a; unfold EI NSL; omega)).2.1
  refine ⟨a, ?_⟩
  have b : h 23 (EI h j) ≠ -2 := b
  omega
theorem NE_le (h : aH) : NE h ≤ 8 := (e8_ok _ _).1
def SPT (h : aH) (i : Nat) : Int := h 18 (h 63 (EI h i)).toNat
def HRR (h : aH) (i : Nat) : Int := h 23 (EI h i)
/-- when he knocks, coming at a -/
def KN (H e a : Int) : Int := max a (H - e)
def WAY (s p : Int) : Int := max (s - p) (-(s - p))
/-- when, and where, he is behind k of them -/
def simN (H S : Nat → Int) (e : Int) (f : Nat → Nat) : Nat → Option (Int × Int)
  | 0 => some (0, 0)
  | k + 1 => match simN H S e f k with
    | some (a, p) => if KN (H (f k)) e (a + WAY (S (f k)) p) ≤ H (f k) then some (KN (H (f k)) e (a + WAY (S (f k)) p), S (f k)) else none
    | none => none
theorem simN_s {H S : Nat → Int} {e : Int} {f : Nat → Nat} {k : Nat} {a p : Int} (h : simN H S e f k = some (a, p)) : simN H S e f (k + 1) = if KN (H (f k)) e (a + WAY (S (f k)) p) ≤ H (f k) then some (KN (H (f k)) e (a + WAY (S (f k)) p), S (f k)) else none := by
  rw [show simN H S e f (k + 1) = (match simN H S e f k with | some (a, p) => if KN (H (f k)) e (a + WAY (S (f k)) p) ≤ H (f k) then some (KN (H (f k)) e (a + WAY (S (f k)) p), S (f k)) else none | none => none) from rfl, h]
theorem simN_none {H S : Nat → Int} {e : Int} {f : Nat → Nat} {k : Nat} (h : simN H S e f k = none) : ∀ d, simN H S e f (k + d) = none
  | 0 => h
  | d + 1 => by
    show simN H S e f (k + d + 1) = none
    unfold simN
    rw [simN_none h d]
theorem simN_congr {H S : Nat → Int} {e : Int} {f g : Nat → Nat} : ∀ {k : Nat}, (∀ j, j < k → f j = g j) → simN H S e f k = simN H S e g k
  | 0, _ => rfl
  | k + 1, h => by unfold simN; rw [simN_congr (fun j hj => h j (by omega)), h k (by omega)]
/-- when an order is done; -2: it can't be -/
def EV (H S : Nat → Int) (e : Int) (f : Nat → Nat) (n : Nat) : Int := match simN H S e f n with
  | some (a, _) => a
  | none => -2
theorem simN_rg {H S : Nat → Int} {e : Int} {f : Nat → Nat} {n : Nat} (hH : ∀ i, i < n → 0 ≤ H (f i) ∧ H (f i) ≤ 399) (hS : ∀ i, i < n → 0 ≤ S (f i) ∧ S (f i) ≤ 9) : ∀ k, k ≤ n → ∀ a p, simN H S e f k = some (a, p) → (0 ≤ a ∧ a ≤ 399) ∧ (0 ≤ p ∧ p ≤ 9)
  | 0, _, a, p, h => by
    have := Option.some.inj h
    injection this with e1 e2
    omega
  | k + 1, hk, a, p, h => by
    cases q : simN H S e f k with
    | none => have := simN_none q 1; rw [this] at h; cases h
    | some v =>
      obtain ⟨a', p'⟩ := v
      obtain ⟨i1, i2⟩ := simN_rg hH hS k (by omega) a' p' q
      rw [simN_s q] at h
      have h1 := hH k (by omega)
      have h2 := hS k (by omega)
      by_cases c : KN (H (f k)) e (a' + WAY (S (f k)) p') ≤ H (f k)
      · rw [if_pos c] at h
        have := Option.some.inj h
        injection this with e1 e2
        unfold KN WAY at e1 c
        omega
      · rw [if_neg c] at h; cases h
def RWH (h h1 : aH) : Prop := h1 130 72 = (NE h : Int) ∧ ∀ j, j < NE h → h1 182 j = (EI h j : Int)
def FRR (h h1 : aH) : Prop := Fr [182, 183, 184] [72] h h1
theorem m_rd {N : Nat} {C : Int → aH → Prop} {h h1 : aH} {e : Int} {f : Nat → Nat} (P : PI h) (R : RelH h) (Q : RelP h) (he : 0 ≤ e ∧ e ≤ 60) (fr : FRR h h1) (W : RWH h h1) (F : PERM (NE h) f) (hf : ∀ k, k < NE h → h1 183 k = (f k : Int)) (hC : C (EV (HRR h) (SPT h) e f (NE h)) h1) : ∀ (d k : Nat) (a p : Int), d = NE h - k → k ≤ NE h → simN (HRR h) (SPT h) e f k = some (a, p) →
    WI N 326 7 [(0, .inr (.inr 130)), (1, .inl e), (2, .inl a), (3, .inl p), (4, .inl (k : Int))] h1 C := by
  have hz := P.1.1
  unfold okSz at hz
  have n8 := NE_le h
  have n12 : NSL h ≤ 12 := by unfold NSL; omega
  have kp : Kp h h1 := Fr.kp fr (by decide)
  have R1 : RelH h1 := R.mv fr (by decide) (by decide) (by decide)
  have hL := R1.1
  have sp : ∀ i, i < NE h → 0 ≤ SPT h i ∧ SPT h i ≤ 9 := fun i hi => by
    obtain ⟨a, _⟩ := EI_ok P hi
    have l := P.2.1.1 (EI h i) (by unfold NSL at a; omega)
    have := P.1.2.1 (h 63 (EI h i)).toNat (by omega)
    exact this.2.2
  have rg := simN_rg (H := HRR h) (S := SPT h) (e := e) (f := f) (n := NE h) (fun i hi => (EI_ok P (F.1 i hi)).2) (fun i hi => sp _ (F.1 i hi))
  intro d
  induction d with
  | zero =>
    intro k a p hd hk hs
    have : k = NE h := by omega
    subst this
    refine w_326_7 ?_
    rw [W.1]
    refine ⟨fun _ => ?_, fun z => absurd (Int.le_refl _) z⟩
    unfold EV at hC
    rw [hs] at hC
    exact hC
  | succ d ih =>
    intro k a p hd hk hs
    have hk2 : k < NE h := by omega
    obtain ⟨r1, r2⟩ := rg k (by omega) a p hs
    have fk := F.1 k hk2
    obtain ⟨ei, eh⟩ := EI_ok P fk
    have hsl : (EI h (f k) : Int) < h 16 16 := by unfold NSL at ei; omega
    have l := P.2.1.1 (EI h (f k)) hsl
    obtain ⟨q1, _⟩ := Q.2.2 (EI h (f k)) hsl
    have bk : h1 161 (EI h (f k)) = h 63 (EI h (f k)) := by rw [Fr.at fr 161 (by decide) (by decide)]; exact q1
    have ep := (R1.2.2.1 (h 63 (EI h (f k))).toNat (by rw [kp.at 16 (by decide)]; omega)).2
    unfold Lv at ep
    rw [show 12 * (h1 130 18).toNat + (h 63 (EI h (f k))).toNat = ((12 : Int) * h1 130 18 + h 63 (EI h (f k))).toNat by omega, kp.at 18 (by decide)] at ep
    have es : h 18 (h 63 (EI h (f k))).toNat = SPT h (f k) := rfl
    have s9 := sp (f k) fk
    have hs1 : (EI h (f k) : Int) < h1 16 16 := by rw [kp.at 16 (by decide)]; exact hsl
    have eH : h1 23 (EI h (f k)) = HRR h (f k) := by rw [kp.at 23 (by decide)]; rfl
    have h399 : 0 ≤ HRR h (f k) ∧ HRR h (f k) ≤ 399 := eh
    have nx := fun a p => ih (k + 1) a p (by omega) (by omega)
    have eN := simN_s hs
    have bad : simN (HRR h) (SPT h) e f (k + 1) = none → C (-2) h1 := by
      intro q
      have := simN_none q (NE h - (k + 1))
      rw [show k + 1 + (NE h - (k + 1)) = NE h by omega] at this
      unfold EV at hC
      rw [this] at hC
      exact hC
    refine w_326_7 ?_
    rw [W.1, Int.toNat_natCast, hf k hk2]
    simp only [Int.toNat_natCast]
    rw [W.2 (f k) fk]
    simp only [Int.toNat_natCast]
    rw [bk, ep, es]
    refine ⟨fun z => by omega, fun _ => ?_⟩
    (repeat first | refine ck_ix (by omega) ?_ | refine ck_rg (by omega) ?_ | refine ck_rl (by omega) ?_)
    refine m_bare (by omega) ?_
    have eW : max (SPT h (f k) - p) (-(SPT h (f k) - p)) = WAY (SPT h (f k)) p := rfl
    have wr : 0 ≤ WAY (SPT h (f k)) p ∧ WAY (SPT h (f k)) p ≤ 9 := by unfold WAY; omega
    rw [eW]
    refine ck_rg (by omega) (m_hour (kp.pi P).1 R1 hs1 ?_)
    rw [eH]
    unfold KN at eN
    refine ck_rg (by omega) ⟨fun le => m_hour (kp.pi P).1 R1 hs1 ?_, fun gt => m_hour (kp.pi P).1 R1 hs1 (ck_rg (by omega) (m_hour (kp.pi P).1 R1 hs1 ?_))⟩
    · rw [eH]
      rw [show max (a + WAY (SPT h (f k)) p) (HRR h (f k) - e) = a + WAY (SPT h (f k)) p by omega] at eN
      refine ⟨fun ok => ?_, fun no => ?_⟩
      · rw [if_pos ok] at eN
        (repeat first | refine ck_ix (by omega) ?_ | refine ck_rg (by omega) ?_ | refine ck_rl (by omega) ?_)
        exact nx _ _ eN
      · rw [if_neg no] at eN
        exact bad eN
    · rw [eH]
      rw [show max (a + WAY (SPT h (f k)) p) (HRR h (f k) - e) = HRR h (f k) - e by omega] at eN
      refine ⟨fun ok => ?_, fun no => ?_⟩
      · rw [if_pos ok] at eN
        (repeat first | refine ck_ix (by omega) ?_ | refine ck_rg (by omega) ?_ | refine ck_rl (by omega) ?_)
        exact nx _ _ eN
      · rw [if_neg no] at eN
        exact bad eN
theorem m_roundDone {N : Nat} {C : Int → aH → Prop} {h h1 : aH} {e : Int} {f : Nat → Nat} (P : PI h) (R : RelH h) (Q : RelP h) (he : 0 ≤ e ∧ e ≤ 60) (fr : FRR h h1) (W : RWH h h1) (F : PERM (NE h) f) (hf : ∀ k, k < NE h → h1 183 k = (f k : Int)) (hC : C (EV (HRR h) (SPT h) e f (NE h)) h1) : WI N 326 0 [(0, .inr (.inr 130)), (1, .inl e)] h1 C :=
  w_326_0 (m_rd P R Q he fr W F hf hC _ 0 0 0 rfl (Nat.zero_le _) rfl)
/-! the next order, by the machine -/
theorem m_no65 {N : Nat} {C : Int → aH → Prop} {h1 : aH} {n i : Nat} {g : Nat → Nat} (n8 : n ≤ 8) (hi : i + 1 < n) (hn : h1 130 72 = (n : Int)) (hC : ∀ h', Fr [183] [] h1 h' → (∀ k, k < n → h' 183 k = ((if k ≤ i then g k else g (n + i - k) : Nat) : Int)) → C 1 h') : ∀ (d a : Nat) (h2 : aH), d = n - a → i < a → a ≤ n → 2 * a ≤ n + i + 1 → Fr [183] [] h1 h2 → (∀ k, k < n → h2 183 k = ((if k ≤ i then g k else if k < a ∨ n + i - a < k then g (n + i - k) else g k : Nat) : Int)) →
    WI N 327 65 [(0, .inr (.inr 130)), (1, .inl (i : Int)), (4, .inl (a : Int))] h2 C := by
  intro d
  induction d with
  | zero => intro a h2 hd ha hn2 hm f hr; omega
  | succ d ih =>
    intro a h2 hd ha hn2 hm f hr
    have an : a < n := by omega
    refine w_327_65 ?_
    rw [f.2 72 (by decide), hn, show ((n : Int) + (i : Int) - (a : Int)).toNat = n + i - a by omega]
    refine ck_rg (by omega) (ck_rg (by omega) ⟨fun le => ck_t1 (hC h2 f (fun k hk => ?_)), fun gt => ?_⟩)
    · rw [hr k hk]
      by_cases c1 : k ≤ i
      · rw [if_pos c1, if_pos c1]
      · rw [if_neg c1, if_neg c1]
        by_cases c2 : k < a ∨ n + i - a < k
        · rw [if_pos c2]
        · rw [if_neg c2, show n + i - k = k by omega]
    · simp only [Int.toNat_natCast]
      have ra := hr a an
      have rb := hr (n + i - a) (by omega)
      rw [if_neg (by omega), if_neg (by omega)] at ra
      rw [if_neg (by omega), if_neg (by omega)] at rb
      rw [ra, rb]
      (repeat first | refine ck_ix (by omega) ?_ | refine ck_rg (by omega) ?_ | refine ck_rl (by omega) ?_)
      refine ih (a + 1) _ (by omega) (by omega) (by omega) (by omega) ((f.up (by decide) (by decide)).up (by decide) (by decide)) (fun k hk => ?_)
      rw [up_in, up_in]
      by_cases e1 : k = n + i - a
      · rw [if_pos e1, if_neg (by omega), if_pos (by omega), e1, show n + i - (n + i - a) = a by omega]
      · rw [if_neg e1]
        by_cases e2 : k = a
        · rw [if_pos e2, if_neg (by omega), if_pos (by omega), e2]
        · rw [if_neg e2, hr k hk]
          by_cases c1 : k ≤ i
          · rw [if_pos c1, if_pos c1]
          · rw [if_neg c1, if_neg c1]
            by_cases c2 : k < a ∨ n + i - a < k
            · rw [if_pos c2, if_pos (by omega)]
            · rw [if_neg c2, if_neg (by omega)]
theorem m_no31 {N : Nat} {C : Int → aH → Prop} {h1 : aH} {n i : Nat} {p : Nat → Nat} (n8 : n ≤ 8) (P : PERM n p) (hi : i + 1 < n) (up : p i < p (i + 1)) (dn : ∀ k, i < k → k + 1 < n → p (k + 1) < p k) (hn : h1 130 72 = (n : Int)) (hr : ∀ k, k < n → h1 183 k = (p k : Int)) (hC : ∀ j, NXC n p i j → ∀ h', Fr [183] [] h1 h' → (∀ k, k < n → h' 183 k = (nxo n p i j k : Int)) → C 1 h') : ∀ (d j : Nat), d = j → i < j → j < n → (∀ k, j < k → k < n → p k < p i) →
    WI N 327 31 [(0, .inr (.inr 130)), (1, .inl (i : Int)), (2, .inl (j : Int))] h1 C := by
  intro d
  induction d with
  | zero => intro j hd hij; omega
  | succ d ih =>
    intro j hd hij hj lt
    refine w_327_31 ?_
    simp only [Int.toNat_natCast]
    rw [hr i (by omega), hr j hj]
    (repeat first | refine ck_ix (by omega) ?_ | refine ck_rg (by omega) ?_ | refine ck_rl (by omega) ?_)
    refine ⟨fun le => ?_, fun gt => ?_⟩
    · have ne : p i ≠ p j := fun z => by have := P.2 i j (by omega) hj z; omega
      have c : NXC n p i j := ⟨hi, up, dn, hij, hj, by omega, lt⟩
      (repeat first | refine ck_ix (by omega) ?_ | refine ck_rg (by omega) ?_ | refine ck_rl (by omega) ?_)
      rw [show ((i : Int) + 1) = ((i + 1 : Nat) : Int) by omega]
      refine m_no65 (g := swp p i j) n8 hi (by rw [up_row (by decide), up_row (by decide)]; exact hn) (fun h2 f2 q => hC j c h2 (((Fr.rfl.up (by decide) (by decide)).up (by decide) (by decide)).trans f2) (fun k hk => ?_)) (n - (i + 1)) (i + 1) _ rfl (by omega) (by omega) (by omega) Fr.rfl (fun k hk => ?_)
      · rw [q k hk]
        unfold nxo
        rw [if_pos hk]
      · rw [up_in, up_in]
        unfold swp
        by_cases e1 : k = j
        · rw [if_pos e1, if_neg (by omega), if_neg (by omega), if_neg (by omega), if_pos e1]
        · rw [if_neg e1]
          by_cases e2 : k = i
          · rw [if_pos e2, if_pos (by omega), if_pos e2]
          · rw [if_neg e2, hr k hk]
            by_cases c1 : k ≤ i
            · rw [if_pos c1, if_neg e2, if_neg e1]
            · rw [if_neg c1, if_neg (by omega), if_neg e2, if_neg e1]
    · (repeat first | refine ck_ix (by omega) ?_ | refine ck_rg (by omega) ?_ | refine ck_rl (by omega) ?_)
      rw [show ((j : Int) + (-1)) = ((j - 1 : Nat) : Int) by omega]
      have : j ≠ i + 1 := fun z => by rw [z] at gt; omega
      refine ih (j - 1) (by omega) (by omega) (by omega) (fun k h1 h2 => ?_)
      by_cases z : k = j
      · rw [z]; omega
      · exact lt k (by omega) h2
theorem m_no6 {N : Nat} {C : Int → aH → Prop} {h1 : aH} {n : Nat} {p : Nat → Nat} (n8 : n ≤ 8) (P : PERM n p) (hn : h1 130 72 = (n : Int)) (hr : ∀ k, k < n → h1 183 k = (p k : Int)) (hS : ∀ i j, NXC n p i j → ∀ h', Fr [183] [] h1 h' → (∀ k, k < n → h' 183 k = (nxo n p i j k : Int)) → C 1 h') (hN : (∀ k, k + 1 < n → p (k + 1) < p k) → C 0 h1) : ∀ (t : Nat), t ≤ n - 1 → (∀ k, t ≤ k → k + 1 < n → p (k + 1) < p k) →
    WI N 327 6 [(0, .inr (.inr 130)), (1, .inl ((t : Int) - 1))] h1 C := by
  intro t
  induction t with
  | zero =>
    intro ht dn
    exact w_327_6 ⟨fun _ => ⟨fun z => absurd z (by decide), fun _ => ck_t0 (hN (fun k hk => dn k (Nat.zero_le _) hk))⟩, fun z => absurd (by decide) z⟩
  | succ t ih =>
    intro ht dn
    have e : (((t + 1 : Nat) : Int) - 1) = (t : Int) := by omega
    rw [e]
    refine w_327_6 ⟨fun z => by omega, fun _ => ?_⟩
    rw [show ((t : Int) + 1).toNat = t + 1 by omega, Int.toNat_natCast, hr t (by omega), hr (t + 1) (by omega), hn]
    (repeat first | refine ck_ix (by omega) ?_ | refine ck_rg (by omega) ?_ | refine ck_rl (by omega) ?_)
    refine ⟨fun le => ⟨fun _ => ck_rg (by omega) ?_, fun z => by omega⟩, fun gt => ck_rg (by omega) ?_⟩
    · have ne : p t ≠ p (t + 1) := fun z => by have := P.2 t (t + 1) (by omega) (by omega) z; omega
      rw [show ((n : Int) - 1) = ((n - 1 : Nat) : Int) by omega]
      exact m_no31 n8 P (by omega) (by omega) (fun k h1 h2 => dn k (by omega) h2) hn hr (fun j c => hS t j c) _ (n - 1) rfl (by omega) (by omega) (fun k h1 h2 => by omega)
    · rw [show ((t : Int) + (-1)) = (t : Int) - 1 by omega]
      refine ih (by omega) (fun k h1 h2 => ?_)
      by_cases z : k = t
      · rw [z]; omega
      · exact dn k (by omega) h2
theorem m_nextOrder {N : Nat} {C : Int → aH → Prop} {h1 : aH} {n : Nat} {p : Nat → Nat} (n8 : n ≤ 8) (P : PERM n p) (hn : h1 130 72 = (n : Int)) (hr : ∀ k, k < n → h1 183 k = (p k : Int)) (hS : ∀ i j, NXC n p i j → ∀ h', Fr [183] [] h1 h' → (∀ k, k < n → h' 183 k = (nxo n p i j k : Int)) → C 1 h') (hN : (∀ k, k + 1 < n → p (k + 1) < p k) → C 0 h1) : WI N 327 0 [(0, .inr (.inr 130))] h1 C := by
  refine w_327_0 ?_
  rw [hn]
  refine ck_rg (by omega) ?_
  rcases Nat.eq_zero_or_pos n with z | z
  · subst z
    exact w_327_6 ⟨fun _ => ⟨fun y => absurd y (by decide), fun _ => ck_t0 (hN (fun k hk => absurd hk (by omega)))⟩, fun y => absurd (by decide) y⟩
  · rw [show ((n : Int) - 2) = ((n - 1 : Nat) : Int) - 1 by omega]
    exact m_no6 n8 P hn hr hS hN (n - 1) (Nat.le_refl _) (fun k h1 h2 => by omega)
