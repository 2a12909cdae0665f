/-! DEAF; the class's rings that are kept -/
def subB (a b : Nat) : Prop := ∀ t, a.testBit t = true → b.testBit t = true
theorem subB_iff {a p : Nat} (ha : a < 4096) : (a &&& (p ^^^ 4294967295)) = 0 ↔ subB a p := by
  have hi : ∀ t, ¬ t < 32 → a.testBit t = false := fun t ht => Nat.testBit_lt_two_pow (Nat.lt_of_lt_of_le ha (by
    have := two_le (n := 12) (m := t) (by omega)
    rw [show (2 : Nat) ^ 12 = 4096 by decide] at this
    exact this))
  refine ⟨fun h t ht => ?_, fun h => Nat.eq_of_testBit_eq fun t => ?_⟩
  · by_cases c : t < 32
    · have e := tb_clr (a := a) (p := p) c
      rw [h, Nat.zero_testBit, ht] at e
      cases q : p.testBit t
      · rw [q] at e; cases e
      · rfl
    · rw [hi t c] at ht; cases ht
  · rw [Nat.zero_testBit]
    by_cases c : t < 32
    · rw [tb_clr c]
      cases q : a.testBit t
      · rfl
      · rw [h t q]; rfl
    · rw [Nat.testBit_and, hi t c]; rfl
def INR (h : aH) (b j : Nat) : Prop := b < NBD h ∧ j < NHR h
/-- the rings kept: each is one, and each one gone through lies in one -/
def GTH (h : aH) (c : Nat) (pr : Nat → Nat → Prop) (m : Nat) (h1 : aH) : Prop := ∃ (r : Nat) (W : Nat → Nat), r ≤ m ∧ h1 110 5 = (r : Int) ∧ (∀ i, i < r → h1 111 i = (W i : Int) ∧ ∃ b j, INR h b j ∧ W i = RNG h c b j) ∧ ∀ b j, pr b j → RNG h c b j = 0 ∨ ∃ i, i < r ∧ subB (RNG h c b j) (W i)
theorem c_keep {N : Nat} {C : aH → Prop} {h : aH} {B r : Nat} {W : Nat → Nat} (hB : B < 4096) (hr : r < 144) (hn : h 110 5 = (r : Int)) (hW : ∀ i, i < r → h 111 i = (W i : Int) ∧ W i < 4096) (h1 : (B = 0 ∨ ∃ i, i < r ∧ subB B (W i)) → C h) (h2 : B ≠ 0 → C (am_up (am_up h 111 r (B : Int)) 110 5 ((r : Int) + 1))) : ∀ (d i : Nat), d = r - i → i ≤ r →
    WV N 137 3 [(0, .inr (.inr 110)), (1, .inl (B : Int)), (2, .inl (i : Int))] h C := by
  intro d
  induction d with
  | zero =>
    intro i hd hi
    refine w_137_3 ?_
    rw [hn]
    refine ⟨fun _ => ⟨fun z => h1 (Or.inl (by omega)), fun z => ck_rg (by omega) ⟨fun y => by omega, fun _ => ck_ix (by omega) (ck_rg (by omega) ?_)⟩⟩, fun z => by omega⟩
    rw [Int.toNat_natCast]
    exact h2 (by omega)
  | succ d ih =>
    intro i hd hi
    obtain ⟨e1, e2⟩ := hW i (by omega)
    have hs := subB_iff (a := B) (p := W i) hB
    refine w_137_3 ?_
    rw [hn]
    simp only [Int.toNat_natCast]
    rw [e1, bt_clr (by omega) (by omega)]
    refine ⟨fun z => by omega, fun _ => ck_ix (by omega) ⟨fun ne => ck_rg (by omega) (ih (i + 1) (by omega) (by omega)), fun e => h1 (Or.inr ⟨i, by omega, hs.mp (by omega)⟩)⟩⟩
def SNC : List Nat := [28, 31, 34, 96, 97, 110, 111, 112]
theorem b12x {a b x y : Nat} (ha : a < x) (hb : b < y) : a * y + b + 1 ≤ x * y := by
  have : (a + 1) * y ≤ x * y := Nat.mul_le_mul_right y ha
  rw [Nat.add_mul] at this
  omega
theorem RNG_4096 {h : aH} (P : PI h) (c b j : Nat) : RNG h c b j < 4096 := by
  have hz := P.1.1
  unfold okSz at hz
  have := RNG_lt h c b j
  have l := two_le (n := NSL h) (m := 12) (by unfold NSL; omega)
  rw [show (2 : Nat) ^ 12 = 4096 by decide] at l
  omega
theorem RNG_kp {h h' : aH} (kp : Kp h h') : RNG h' = RNG h := by
  funext c b j
  unfold RNG SAT HOU NSL
  rw [WKS_kp kp, kp.at 19 (by decide), kp.at 20 (by decide), kp.at 23 (by decide), kp.at 16 (by decide)]
theorem okHrs.hh {h h1 : aH} (O : okHrs h) (f16 : h1 16 = h 16) (f26 : h1 26 = h 26) : h1 16 17 = (NHR h : Int) ∧ ∀ j, j < NHR h → h1 26 j = HOU h j := by
  rw [f16, f26]
  exact ⟨O.1, fun j hj => O.2 j hj⟩
theorem c_gj {N : Nat} {C : aH → Prop} {h : aH} {c b : Nat} (P : PI h) (O : okHrs h) (hc : (c : Int) < h 16 15) (hb : b < NBD h) (hC : ∀ h', Fr SNC [] h h' → scr h' → GTH h c (fun b' j' => b' < b + 1 ∧ j' < NHR h) ((b + 1) * NHR h) h' → WV N 135 6 [(0, .inr (.inr 110)), (1, .inl (c : Int)), (2, .inl ((b : Int) + 1))] h' C) : ∀ (d j : Nat) (h1 : aH), d = NHR h - j → j ≤ NHR h → Fr SNC [] h h1 → scr h1 → GTH h c (fun b' j' => (b' < b ∧ j' < NHR h) ∨ (b' = b ∧ j' < j)) (b * NHR h + j) h1 →
    WV N 135 14 [(0, .inr (.inr 110)), (1, .inl (c : Int)), (2, .inl (b : Int)), (3, .inl (j : Int))] h1 C := by
  have hz := P.1.1
  unfold okSz at hz
  have n12 : NSL h ≤ 12 := by unfold NSL; omega
  have nh := NHR_le h
  have b12 : NBD h ≤ 12 := by unfold NBD; omega
  intro d
  induction d with
  | zero =>
    intro j h1 hd hj f sc G
    have : j = NHR h := by omega
    subst this
    obtain ⟨o1, o2⟩ := O.hh (f.at 16 (by decide) (by decide)) (f.at 26 (by decide) (by decide))
    refine w_135_14 ?_
    rw [o1]
    refine ⟨fun _ => ck_rg (by omega) (hC h1 f sc ?_), fun z => absurd (Int.le_refl _) z⟩
    obtain ⟨r, W, r1, r2, r3, r4⟩ := G
    refine ⟨r, W, by rw [Nat.add_mul, Nat.one_mul]; exact r1, r2, r3, fun b' j' q => r4 b' j' ?_⟩
    rcases Nat.eq_or_lt_of_le (Nat.le_of_lt_succ q.1) with e | e
    · exact Or.inr ⟨e, q.2⟩
    · exact Or.inl ⟨e, q.2⟩
  | succ d ih =>
    intro j h1 hd hj f sc G
    have kp := f.kp (by decide)
    obtain ⟨o1, o2⟩ := O.hh (f.at 16 (by decide) (by decide)) (f.at 26 (by decide) (by decide))
    have hj2 : j < NHR h := by omega
    have ho := HOU_rg P hj2
    refine w_135_14 ?_
    rw [o1, Int.toNat_natCast, o2 j hj2]
    refine ⟨fun z => by omega, fun _ => ck_ix (by omega) (c_soundsAt (kp.pi P).1 ⟨by omega, by rw [kp.at 16 (by decide)]; exact hc⟩ ho (ck_ix (by omega) ?_))⟩
    rw [Int.toNat_natCast, kp.at 19 (by decide), kp.at 20 (by decide)]
    have e1 : NBD h1 = NBD h := by unfold NBD; rw [kp.at 16 (by decide)]
    refine c_wokenBy (kp.pi P) sc (by rw [e1]; exact hb) (SAT_rg h c (HOU h j)) (fun h2 f2 s2 => ?_)
    rw [WKS_kp kp, show WKS h (h 19 c) b (max 0 (min 399 (HOU h j + h 20 c))) = RNG h c b j from rfl]
    have f12 := f.trans (f2.mono (C' := SNC) (D' := []) (by decide) (by decide))
    obtain ⟨r, W, r1, r2, r3, r4⟩ := G
    have r4 : ∀ b' j', ((b' < b ∧ j' < NHR h) ∨ (b' = b ∧ j' < j)) → RNG h c b' j' = 0 ∨ ∃ i, i < r ∧ subB (RNG h c b' j') (W i) := r4
    have lim := b12x (a := b) (b := j) (x := NBD h) (y := NHR h) hb hj2
    have lim2 : NBD h * NHR h ≤ 12 * 12 := Nat.mul_le_mul b12 (by omega)
    have rg1 : am_rg ((j : Int) + 1) := ⟨by omega, by omega⟩
    have hd1 : d = NHR h - (j + 1) := by omega
    have hj3 : j + 1 ≤ NHR h := by omega
    have hr1 : r ≤ b * NHR h + (j + 1) := by omega
    have hr2 : r + 1 ≤ b * NHR h + (j + 1) := by omega
    have prj : ∀ b' j', ((b' < b ∧ j' < NHR h) ∨ (b' = b ∧ j' < j + 1)) → (b' = b ∧ j' = j) ∨ ((b' < b ∧ j' < NHR h) ∨ (b' = b ∧ j' < j)) := fun b' j' z => by omega
    refine w_137_0 (c_keep (r := r) (W := W) (RNG_4096 P c b j) (by omega) (by rw [f2.at 110 (by decide) (by decide)]; exact r2) (fun i hi => ?_) (fun q => ⟨rg1, ih (j + 1) h2 hd1 hj3 f12 s2 ?_⟩) (fun q => ⟨rg1, ih (j + 1) _ hd1 hj3 ((f12.up (by decide) (by decide)).up (by decide) (by decide)) ?_ ?_⟩) _ 0 rfl (Nat.zero_le _))
    · obtain ⟨e, b', j', _, e2⟩ := r3 i hi
      rw [f2.at 111 (by decide) (by decide), e2]
      exact ⟨by rw [e, e2], RNG_4096 P c b' j'⟩
    · refine ⟨r, W, hr1, by rw [f2.at 110 (by decide) (by decide)]; exact r2, fun i hi => by rw [f2.at 111 (by decide) (by decide)]; exact r3 i hi, fun b' j' z => ?_⟩
      rcases prj b' j' z with hq | hq
      · rw [hq.1, hq.2]; exact q
      · exact r4 b' j' hq
    · have f3 : Fr [110, 111] [] h2 (am_up (am_up h2 111 r (RNG h c b j : Int)) 110 5 ((r : Int) + 1)) := (Fr.rfl.up (by decide) (by decide)).up (by decide) (by decide)
      exact ⟨f3.dz (by decide) (by decide) (by decide) s2.1, by rw [f3.at 28 (by decide) (by decide)]; exact s2.2⟩
    · refine ⟨r + 1, fun i => if i = r then RNG h c b j else W i, hr2, by rw [up_same]; omega, fun i hi => ?_, fun b' j' z => ?_⟩
      · rw [up_row (by decide), up_in]
        by_cases e : i = r
        · rw [if_pos e]; dsimp only; rw [if_pos e]
          exact ⟨rfl, b, j, ⟨hb, hj2⟩, rfl⟩
        · rw [if_neg e]; dsimp only; rw [if_neg e, f2.at 111 (by decide) (by decide)]
          exact r3 i (by omega)
      · rcases prj b' j' z with hq | hq
        · rw [hq.1, hq.2]
          refine Or.inr ⟨r, Nat.lt_succ_self r, fun t ht => ?_⟩
          show (if r = r then RNG h c b j else W r).testBit t = true
          rw [if_pos rfl]; exact ht
        · rcases r4 b' j' hq with y | ⟨i, i1, i2⟩
          · exact Or.inl y
          · refine Or.inr ⟨i, Nat.lt_succ_of_lt i1, fun t ht => ?_⟩
            show (if i = r then RNG h c b j else W i).testBit t = true
            rw [if_neg (Nat.ne_of_lt i1)]; exact i2 t ht
theorem c_gb {N : Nat} {C : aH → Prop} {h : aH} {c : Nat} (P : PI h) (O : okHrs h) (hc : (c : Int) < h 16 15) (hC : ∀ h', Fr SNC [] h h' → scr h' → GTH h c (INR h) 144 h' → C h') : ∀ (d b : Nat) (h1 : aH), d = NBD h - b → b ≤ NBD h → Fr SNC [] h h1 → scr h1 → GTH h c (fun b' j' => b' < b ∧ j' < NHR h) (b * NHR h) h1 →
    WV N 135 6 [(0, .inr (.inr 110)), (1, .inl (c : Int)), (2, .inl (b : Int))] h1 C := by
  have hz := P.1.1
  unfold okSz at hz
  have n12 : NSL h ≤ 12 := by unfold NSL; omega
  have nh := NHR_le h
  have b12 : NBD h ≤ 12 := by unfold NBD; omega
  have eb : h 16 14 = (NBD h : Int) := by unfold NBD; omega
  intro d
  induction d with
  | zero =>
    intro b h1 hd hb f sc G
    have : b = NBD h := by omega
    subst this
    have lim2 : NBD h * NHR h ≤ 12 * 12 := Nat.mul_le_mul b12 (by omega)
    refine w_135_6 ?_
    rw [f.at 16 (by decide) (by decide), eb]
    refine ⟨fun _ => hC h1 f sc ?_, fun z => absurd (Int.le_refl _) z⟩
    obtain ⟨r, W, r1, r2, r3, r4⟩ := G
    exact ⟨r, W, by omega, r2, r3, r4⟩
  | succ d ih =>
    intro b h1 hd hb f sc G
    refine w_135_6 ?_
    rw [f.at 16 (by decide) (by decide), eb]
    refine ⟨fun z => by omega, fun _ => c_gj P O hc (by omega) (fun h2 f2 s2 G2 => ih (b + 1) h2 (by omega) (by omega) f2 s2 G2) _ 0 h1 rfl (Nat.zero_le _) f sc ?_⟩
    obtain ⟨r, W, r1, r2, r3, r4⟩ := G
    exact ⟨r, W, by omega, r2, r3, fun b' j' z => r4 b' j' (by rcases z with z | z; exact z; exact absurd z.2 (Nat.not_lt_zero _))⟩
theorem c_gather {N : Nat} {C : aH → Prop} {h : aH} {c : Nat} (P : PI h) (O : okHrs h) (sc : scr h) (hc : (c : Int) < h 16 15) (hC : ∀ h', Fr SNC [] h h' → scr h' → GTH h c (INR h) 144 h' → C h') : WV N 135 0 [(0, .inr (.inr 110)), (1, .inl (c : Int))] h C := by
  have f : Fr [110] [] h (am_up h 110 5 0) := Fr.rfl.up (by decide) (by decide)
  exact w_135_0 (c_gb P O hc hC _ 0 _ rfl (Nat.zero_le _) (f.mono (by decide) (by decide)) ⟨f.dz (by decide) (by decide) (by decide) sc.1, by rw [f.at 28 (by decide) (by decide)]; exact sc.2⟩ ⟨0, fun _ => 0, by omega, up_same _ _ _ _, fun i hi => absurd hi (Nat.not_lt_zero i), fun b' j' z => absurd z.1 (Nat.not_lt_zero b')⟩)
theorem c_bnd {N : Nat} {C : Int → aH → Prop} {h : aH} (P : PI h) (hC : C (bset (HASH h) (NSL h) : Nat) h) : ∀ (e k : Nat), e = NSL h - k → k ≤ NSL h →
    WI N 138 5 [(0, .inr (.inr 110)), (1, .inl (bset (HASH h) k : Nat)), (2, .inl (k : Int))] h C := by
  have hz := P.1.1
  unfold okSz at hz
  have n12 : NSL h ≤ 12 := by unfold NSL; omega
  have en : h 16 16 = (NSL h : Int) := by unfold NSL; omega
  intro e
  induction e with
  | zero =>
    intro k he hk
    have : k = NSL h := by omega
    subst this
    refine w_138_5 ?_
    rw [en]
    exact ⟨fun _ => hC, fun z => absurd (Int.le_refl _) z⟩
  | succ e ih =>
    intro k he hk
    have nx := ih (k + 1) (by omega) (by omega)
    have bl := bset_lt (HASH h) k (show k ≤ NSL h by omega)
    rw [show bset (HASH h) (k + 1) = bif HASH h k then bset (HASH h) k ||| 2 ^ k else bset (HASH h) k from rfl] at nx
    refine w_138_5 ?_
    rw [en]
    refine ⟨fun z => by omega, fun _ => ck_ix (by omega) ?_⟩
    rw [Int.toNat_natCast]
    refine ⟨fun ne => ?_, fun e2 => ?_⟩
    · rw [HASH_t ne] at nx
      rw [bt_shl (show k < 31 by omega), bt_or (m31 n12 bl) (m31 n12 (two_lt (by omega)))]
      exact ck_rg (by omega) nx
    · rw [HASH_f (Decidable.not_not.mp e2)] at nx
      rw [show (0 : Int) = ((0 : Nat) : Int) by rfl, bt_or (m31 n12 bl) (by decide), Nat.or_zero]
      exact ck_rg (by omega) nx
theorem c_bound {N : Nat} {C : Int → aH → Prop} {h : aH} (P : PI h) (hC : C (bset (HASH h) (NSL h) : Nat) h) : WI N 138 0 [(0, .inr (.inr 110))] h C := w_138_0 (c_bnd P hC _ 0 rfl (Nat.zero_le _))
theorem bset_and {p : Nat → Bool} {q n : Nat} (hn : n ≤ 32) : bset p n &&& (q ^^^ 4294967295) = bset (fun t => p t && !q.testBit t) n := by
  refine Nat.eq_of_testBit_eq fun t => ?_
  by_cases c : t < 32
  · rw [tb_clr c, bset_tb, bset_tb, Bool.and_assoc]
  · rw [Nat.testBit_and, bset_tb, bset_tb, decide_eq_false (show ¬ t < n by omega)]; rfl
/-- a ring wakes him -/
def ANR (h : aH) (c t : Nat) : Bool := anyB (fun b => anyB (fun j => (RNG h c b j).testBit t) (NHR h)) (NBD h)
def DEAF (h : aH) (c : Nat) : Nat := bset (fun t => HASH h t && !ANR h c t) (NSL h)
theorem anyB_iff {p : Nat → Bool} : ∀ {n : Nat}, anyB p n = true ↔ ∃ i, i < n ∧ p i = true
  | 0 => ⟨fun h => (by cases h), fun ⟨i, h, _⟩ => absurd h (Nat.not_lt_zero i)⟩
  | n + 1 => by
    rw [anyB_s, Bool.or_eq_true, anyB_iff (n := n)]
    refine ⟨fun h => ?_, fun ⟨i, hi, hp⟩ => ?_⟩
    · rcases h with ⟨i, hi, hp⟩ | hp
      · exact ⟨i, by omega, hp⟩
      · exact ⟨n, by omega, hp⟩
    · rcases Nat.eq_or_lt_of_le (Nat.le_of_lt_succ hi) with e | e
      · rw [e] at hp; exact Or.inr hp
      · exact Or.inl ⟨i, e, hp⟩
theorem ANR_iff {h : aH} {c t : Nat} : ANR h c t = true ↔ ∃ b j, INR h b j ∧ (RNG h c b j).testBit t = true := by
  unfold ANR
  rw [anyB_iff]
  refine ⟨fun ⟨b, hb, q⟩ => ?_, fun ⟨b, j, ⟨hb, hj⟩, q⟩ => ⟨b, hb, anyB_iff.mpr ⟨j, hj, q⟩⟩⟩
  obtain ⟨j, hj, q⟩ := anyB_iff.mp q
  exact ⟨b, j, ⟨hb, hj⟩, q⟩
theorem bool_eq {a b : Bool} (h : a = true ↔ b = true) : a = b := by cases a <;> cases b <;> simp at h ⊢
theorem c_dfl {N : Nat} {C : Int → aH → Prop} {h h1 : aH} {r : Nat} {W : Nat → Nat} (P : PI h) (hn : h1 110 5 = (r : Int)) (hr : r ≤ 144) (hW : ∀ i, i < r → h1 111 i = (W i : Int) ∧ W i < 4096) (hC : C (bset (fun t => HASH h t && !anyB (fun i => (W i).testBit t) r) (NSL h) : Nat) h1) : ∀ (d i : Nat), d = r - i → i ≤ r →
    WI N 134 9 [(0, .inr (.inr 110)), (2, .inl (bset (fun t => HASH h t && !anyB (fun i => (W i).testBit t) i) (NSL h) : Nat)), (3, .inl (i : Int))] h1 C := by
  have hz := P.1.1
  unfold okSz at hz
  have n12 : NSL h ≤ 12 := by unfold NSL; omega
  intro d
  induction d with
  | zero =>
    intro i hd hi
    have : i = r := by omega
    subst this
    refine w_134_9 ?_
    rw [hn]
    exact ⟨fun _ => hC, fun z => absurd (Int.le_refl _) z⟩
  | succ d ih =>
    intro i hd hi
    have nx := ih (i + 1) (by omega) (by omega)
    obtain ⟨e1, e2⟩ := hW i (by omega)
    have bl := bset_lt (fun t => HASH h t && !anyB (fun i => (W i).testBit t) i) (NSL h) (Nat.le_refl _)
    refine w_134_9 ?_
    rw [hn, Int.toNat_natCast, e1, bt_clr (m31 n12 bl) (by omega), bset_and (by omega)]
    refine ⟨fun z => by omega, fun _ => ck_ix (by omega) (ck_rg (by omega) ?_)⟩
    rw [bset_congr (q := fun t => HASH h t && !anyB (fun i => (W i).testBit t) (i + 1)) (fun t _ => by rw [anyB_s, Bool.not_or, Bool.and_assoc])]
    exact nx
theorem c_deafOnes {N : Nat} {C : Int → aH → Prop} {h : aH} {c : Nat} (P : PI h) (O : okHrs h) (sc : scr h) (hc : (c : Int) < h 16 15) (hC : ∀ h', Fr SNC [] h h' → scr h' → GTH h c (INR h) 144 h' → C (DEAF h c : Nat) h') : WI N 134 0 [(0, .inr (.inr 110)), (1, .inl (c : Int))] h C := by
  refine w_134_0 (c_gather P O sc hc (fun h1 f s1 G => ?_))
  have kp := f.kp (by decide)
  have n1 : NSL h1 = NSL h := by unfold NSL; rw [kp.at 16 (by decide)]
  refine c_bound (kp.pi P) ?_
  rw [HASH_kp kp, n1]
  have key := hC h1 f s1 G
  obtain ⟨r, W, r1, r2, r3, r4⟩ := G
  have e0 : bset (HASH h) (NSL h) = bset (fun t => HASH h t && !anyB (fun i => (W i).testBit t) 0) (NSL h) := bset_congr (fun t _ => by show _ = (HASH h t && !false); simp)
  have eD : DEAF h c = bset (fun t => HASH h t && !anyB (fun i => (W i).testBit t) r) (NSL h) := by
    unfold DEAF
    refine bset_congr (fun t _ => ?_)
    congr 2
    refine bool_eq ?_
    rw [ANR_iff, anyB_iff]
    refine ⟨fun ⟨b, j, q1, q2⟩ => ?_, fun ⟨i, i1, i2⟩ => ?_⟩
    · rcases r4 b j q1 with z | ⟨i, i1, i2⟩
      · rw [z, Nat.zero_testBit] at q2; cases q2
      · exact ⟨i, i1, i2 t q2⟩
    · obtain ⟨_, b, j, q, e⟩ := r3 i i1
      exact ⟨b, j, q, by rw [← e]; exact i2⟩
  rw [eD] at key
  rw [e0]
  exact c_dfl P r2 r1 (fun i hi => by obtain ⟨e, b, j, _, e2⟩ := r3 i hi; exact ⟨e, by rw [e2]; exact RNG_4096 P c b j⟩) key r 0 rfl (Nat.zero_le _)
def vDeaf (h : aH) (c : Int) : Int := if 0 ≤ c ∧ c < h 16 15 then (DEAF h c.toNat : Nat) else -1
theorem c_deaf {N : Nat} {C : Int → aH → Prop} {h : aH} {c : Int} (P : PI h) (O : okHrs h) (sc : scr h) (hC : ∀ h', Fr SNC [] h h' → scr h' → C (vDeaf h c) h') : WI N 140 0 [(0, .inr (.inr 9)), (1, .inl c)] h C := by
  unfold vDeaf at hC
  refine w_140_0 (c_isClock (fun q => z1 ?_) (fun q => z0 ?_))
  · rw [if_pos q] at hC
    obtain ⟨c, rfl⟩ := Int.eq_ofNat_of_zero_le q.1
    exact c_deafOnes P O sc q.2 (fun h' f s _ => hC h' f s)
  · rw [if_neg q] at hC; exact hC h Fr.rfl sc
/-- the reference's rows of hours -/
def MHO (h h1 : aH) : Prop := h1 130 58 = (NHR h : Int) ∧ ∀ j, j < NHR h → h1 172 j = HOU h j
theorem m_dj {N : Nat} {C : Int → aH → Prop} {h : aH} {c b : Nat} {q : Nat → Bool} (P : PI h) (R : RelH h) (Q : RelP h) (hc : (c : Int) < h 16 15) (hb : b < NBD h) (hC : ∀ h', Fr [159, 160, 172] [58] h h' → MHO h h' → WI N 302 14 [(0, .inr (.inr 130)), (1, .inl (c : Int)), (2, .inl (bset (fun t => q t && !anyB (fun j => (RNG h c b j).testBit t) (NHR h)) (NSL h) : Nat)), (3, .inl ((b : Int) + 1))] h' C) : ∀ (d j : Nat) (h1 : aH), d = NHR h - j → j ≤ NHR h → Fr [159, 160, 172] [58] h h1 → MHO h h1 →
    WI N 302 24 [(0, .inr (.inr 130)), (1, .inl (c : Int)), (2, .inl (bset (fun t => q t && !anyB (fun j => (RNG h c b j).testBit t) j) (NSL h) : Nat)), (3, .inl (b : Int)), (4, .inl (j : Int))] h1 C := by
  have hz := P.1.1
  unfold okSz at hz
  have n12 : NSL h ≤ 12 := by unfold NSL; omega
  have nh := NHR_le h
  have b12 : NBD h ≤ 12 := by unfold NBD; omega
  intro d
  induction d with
  | zero =>
    intro j h1 hd hj f M
    have : j = NHR h := by omega
    subst this
    refine w_302_24 ?_
    rw [M.1]
    exact ⟨fun _ => ck_rg (by omega) (hC h1 f M), fun z => absurd (Int.le_refl _) z⟩
  | succ d ih =>
    intro j h1 hd hj f M
    have kp := f.kp (by decide)
    have hj2 : j < NHR h := by omega
    have nx := fun h2 => ih (j + 1) h2 (by omega) (by omega)
    have bl := bset_lt (fun t => q t && !anyB (fun j => (RNG h c b j).testBit t) j) (NSL h) (Nat.le_refl _)
    have e1 : NBD h1 = NBD h := by unfold NBD; rw [kp.at 16 (by decide)]
    refine w_302_24 ?_
    rw [M.1, Int.toNat_natCast, M.2 j hj2]
    refine ⟨fun z => by omega, fun _ => ck_ix (by omega) (m_wakes (kp.pi P) (R.mv f (by decide) (by decide) (by decide)) (Q.keep kp f (by decide) (by decide)) (by rw [kp.at 16 (by decide)]; exact hc) (by rw [e1]; exact hb) (HOU_rg P hj2) (fun h2 f2 => ck_rg (by omega) ?_))⟩
    have eR : WKS h1 (h1 19 c) b (SAT h1 c (HOU h j)) = RNG h c b j := by
      rw [WKS_kp kp, kp.at 19 (by decide)]
      unfold SAT
      rw [kp.at 20 (by decide)]
      rfl
    have rl := RNG_4096 P c b j
    rw [eR, bt_clr (m31 n12 bl) (by omega), bset_and (by omega), bset_congr (q := fun t => q t && !anyB (fun j => (RNG h c b j).testBit t) (j + 1)) (fun t _ => by rw [anyB_s, Bool.not_or, Bool.and_assoc])]
    exact nx h2 (f.trans (f2.mono (by decide) (by decide))) ⟨by rw [f2.2 58 (by decide)]; exact M.1, fun i hi => by rw [f2.at 172 (by decide) (by decide)]; exact M.2 i hi⟩
theorem m_db {N : Nat} {C : Int → aH → Prop} {h : aH} {c : Nat} (P : PI h) (R : RelH h) (Q : RelP h) (hc : (c : Int) < h 16 15) (hC : ∀ h', Fr [159, 160, 172] [58] h h' → C (DEAF h c : Nat) h') : ∀ (d b : Nat) (h1 : aH), d = NBD h - b → b ≤ NBD h → Fr [159, 160, 172] [58] h h1 → MHO h h1 →
    WI N 302 14 [(0, .inr (.inr 130)), (1, .inl (c : Int)), (2, .inl (bset (fun t => HASH h t && !anyB (fun b => anyB (fun j => (RNG h c b j).testBit t) (NHR h)) b) (NSL h) : Nat)), (3, .inl (b : Int))] h1 C := by
  intro d
  induction d with
  | zero =>
    intro b h1 hd hb f M
    have : b = NBD h := by omega
    subst this
    have kp := f.kp (by decide)
    have e1 : NBD h1 = NBD h := by unfold NBD; rw [kp.at 16 (by decide)]
    obtain ⟨g1, g2, g3⟩ := m_nbd (kp.pi P) (R.mv f (by decide) (by decide) (by decide))
    refine w_302_14 (ck_ix (by omega) ?_)
    rw [g2, e1]
    exact ⟨fun _ => hC h1 f, fun z => absurd (Int.le_refl _) z⟩
  | succ d ih =>
    intro b h1 hd hb f M
    have kp := f.kp (by decide)
    have e1 : NBD h1 = NBD h := by unfold NBD; rw [kp.at 16 (by decide)]
    obtain ⟨g1, g2, g3⟩ := m_nbd (kp.pi P) (R.mv f (by decide) (by decide) (by decide))
    refine w_302_14 (ck_ix (by omega) ?_)
    rw [g2, e1]
    refine ⟨fun z => by omega, fun _ => ?_⟩
    have r := m_dj (N := N) (C := C) (h := h) (c := c) (b := b) (q := fun t => HASH h t && !anyB (fun b => anyB (fun j => (RNG h c b j).testBit t) (NHR h)) b) P R Q hc (by omega) (fun h2 f2 M2 => ?_) _ 0 h1 rfl (Nat.zero_le _) f M
    · rw [bset_congr (q := fun t => HASH h t && !anyB (fun b => anyB (fun j => (RNG h c b j).testBit t) (NHR h)) b) (fun t _ => by show (_ && !false) = _; simp)] at r
      exact r
    · have := ih (b + 1) h2 (by omega) (by omega) f2 M2
      rw [bset_congr (q := fun t => (HASH h t && !anyB (fun b => anyB (fun j => (RNG h c b j).testBit t) (NHR h)) b) && !anyB (fun j => (RNG h c b j).testBit t) (NHR h)) (fun t _ => by rw [anyB_s, Bool.not_or, Bool.and_assoc])] at this
      exact this
theorem m_deaf {N : Nat} {C : Int → aH → Prop} {h : aH} {c : Int} (P : PI h) (R : RelH h) (Q : RelP h) (hC : ∀ h', Fr [159, 160, 172] [58] h h' → C (vDeaf h c) h') : WI N 302 0 [(0, .inr (.inr 130)), (1, .inl c)] h C := by
  unfold vDeaf at hC
  refine w_302_0 (m_isClock P.1 R (fun q => y1 ?_) (fun q => y0 ?_))
  · rw [if_pos q] at hC
    obtain ⟨c, rfl⟩ := Int.eq_ofNat_of_zero_le q.1
    rw [Int.toNat_natCast] at hC
    refine m_hoursNow P.1 R (fun h1 f hh hl => ?_)
    have kp := f.kp (by decide)
    refine m_withHours (kp.pi P) (R.mv f (by decide) (by decide) (by decide)) ?_
    have e : bset (HASH h1) (NSL h1) = bset (fun t => HASH h t && !anyB (fun b => anyB (fun j => (RNG h c b j).testBit t) (NHR h)) 0) (NSL h) := by
      rw [HASH_kp kp]
      unfold NSL
      rw [kp.at 16 (by decide)]
      exact bset_congr (fun t _ => by show _ = (HASH h t && !false); simp)
    rw [e]
    exact m_db P R Q q.2 hC _ 0 h1 rfl (Nat.zero_le _) (f.mono (by decide) (by decide)) ⟨hh, hl⟩
  · rw [if_neg q] at hC; exact hC h Fr.rfl
