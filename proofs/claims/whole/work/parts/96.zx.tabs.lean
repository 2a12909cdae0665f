/-! BEST TWO: the class's tables of what is heard -/
def LDM (h : aH) (l : Int) (i : Nat) : Int := max 0 (HOU h i - l)
def HF (h : aH) (c : Nat) (l : Int) (i b s : Nat) : Int := HEAR h s (h 63 s) (WOF h s) (h 19 c) b (SAT h c (LDM h l i))
theorem HF_rg (h : aH) (c : Nat) (l : Int) (i b s : Nat) : 0 ≤ HF h c l i b s ∧ HF h c l i b s ≤ 10 := HEAR_rg _ _ _ _ _ _ _
theorem LDM_rg {h : aH} (P : PI h) {l : Int} (hl : 0 ≤ l) {i : Nat} (hi : i < NHR h) : 0 ≤ LDM h l i ∧ LDM h l i ≤ 399 := by
  have := HOU_rg P hi
  unfold LDM
  omega
theorem c_setTo {N : Nat} {C : Int → aH → Prop} {h h1 : aH} {l : Int} {i : Nat} (P : PI h) (O : okHrs h) (f16 : h1 16 = h 16) (f26 : h1 26 = h 26) (hl : h1 102 15 = l) (l60 : 0 ≤ l ∧ l ≤ 60) (hi : i < NHR h) (hC : C (LDM h l i) h1) : WI N 124 0 [(0, .inr (.inr 102)), (1, .inl (i : Int))] h1 C := by
  have hz := P.1.1
  unfold okSz at hz
  have n12 : NSL h ≤ 12 := by unfold NSL; omega
  have nh := NHR_le h
  obtain ⟨o1, o2⟩ := O.hh f16 f26
  have ho := HOU_rg P hi
  refine w_124_0 ?_
  rw [o1, hl, Int.toNat_natCast, o2 i hi]
  exact ⟨fun z => by omega, fun _ => ⟨fun z => by omega, fun _ => ck_ix (by omega) (ck_rg (by omega) hC)⟩⟩
def HT103 (h : aH) (c : Nat) (l : Int) (pr : Nat → Nat → Nat → Prop) (h1 : aH) : Prop := ∀ i b s, i < NHR h → b < NBD h → s < NSL h → pr i b s → h1 103 ((i * 12 + b) * 12 + s) = HF h c l i b s
theorem c_hk27_103 {N : Nat} {C : aH → Prop} {h : aH} {l : Int} {c i b : Nat} (P : PI h) (hc : (c : Int) < h 16 15) (hi : i < NHR h) (hb : b < NBD h) (hC : ∀ h', Fr [28, 31, 103] [] h h' → h' 28 6 = 0 → HT103 h c l (fun i' b' _ => i' < i ∨ (i' = i ∧ b' < b + 1)) h' → WV N 123 19 [(0, .inr (.inr 102)), (1, .inl (c : Int)), (2, .inr (.inr 103)), (3, .inl (i : Int)), (4, .inl (SAT h c (LDM h l i))), (5, .inl ((b : Int) + 1))] h' C) : ∀ (d s : Nat) (h1 : aH), d = NSL h - s → s ≤ NSL h → Fr [28, 31, 103] [] h h1 → h1 28 6 = 0 → HT103 h c l (fun i' b' s' => i' < i ∨ (i' = i ∧ (b' < b ∨ (b' = b ∧ s' < s)))) h1 →
    WV N 123 27 [(0, .inr (.inr 102)), (1, .inl (c : Int)), (2, .inr (.inr 103)), (3, .inl (i : Int)), (4, .inl (SAT h c (LDM h l i))), (5, .inl (b : Int)), (6, .inl (s : Int))] h1 C := by
  have hz := P.1.1
  unfold okSz at hz
  have n12 : NSL h ≤ 12 := by unfold NSL; omega
  have nh := NHR_le h
  have b12 : NBD h ≤ 12 := by unfold NBD; omega
  have en : h 16 16 = (NSL h : Int) := by unfold NSL; omega
  have eb : h 16 14 = (NBD h : Int) := by unfold NBD; omega
  have hcl := P.1.2.2.1 c hc
  intro d
  induction d with
  | zero =>
    intro s h1 hd hs f e6 T
    have : s = NSL h := by omega
    subst this
    refine w_123_27_r102_103 ?_
    rw [f.at 16 (by decide) (by decide), en]
    refine ⟨fun _ => ck_rg (by omega) (hC h1 f e6 (fun i' b' s' q1 q2 q3 q => T i' b' s' q1 q2 q3 ?_)), fun z => absurd (Int.le_refl _) z⟩
    omega
  | succ d ih =>
    intro s h1 hd hs f e6 T
    have kp := f.kp (by decide)
    have hl := P.2.1.1 s (by omega)
    refine w_123_27_r102_103 ?_
    rw [f.at 16 (by decide) (by decide), en]
    refine ⟨fun z => by omega, fun _ => w_125_0 ?_⟩
    (repeat first | refine ck_ix (by omega) ?_ | refine ck_rg (by omega) ?_ | refine ck_rl (by omega) ?_)
    refine w_77_0 ?_
    have ew : am_and (am_shr (h1 58 11) (s : Int)) 1 = WOF h s := by
      have : WOF h1 s = WOF h s := by rw [kp.wof]
      exact this
    rw [ew]
    simp only [Int.toNat_natCast]
    rw [f.at 63 (by decide) (by decide), f.at 19 (by decide) (by decide)]
    refine ck_ix (by omega) (c_hearing (kp.pi P).1 e6 ⟨by omega, by rw [kp.at 16 (by decide)]; omega⟩ ⟨hl.1, by rw [kp.at 16 (by decide)]; exact hl.2.1⟩ ⟨by omega, by rw [kp.at 16 (by decide)]; omega⟩ (fun h2 f2 g6 => ?_))
    rw [kp.hear]
    (repeat first | refine ck_ix (by omega) ?_ | refine ck_rg (by omega) ?_ | refine ck_rl (by omega) ?_)
    rw [show (((i : Int) * 12 + (b : Int)) * 12 + (s : Int)).toNat = (i * 12 + b) * 12 + s by omega]
    refine ih (s + 1) _ (by omega) (by omega) ((f.trans (f2.mono (by decide) (by decide))).up (by decide) (by decide)) (by rw [up_row (by decide)]; exact g6) (fun i' b' s' q1 q2 q3 q => ?_)
    rw [up_in]
    by_cases z : (i' * 12 + b') * 12 + s' = (i * 12 + b) * 12 + s
    · have e1 : i' = i := by omega
      have e2 : b' = b := by omega
      have e3 : s' = s := by omega
      rw [if_pos z, e1, e2, e3]; rfl
    · rw [if_neg z, f2.at 103 (by decide) (by decide)]
      refine T i' b' s' q1 q2 q3 ?_
      have : ¬ (i' = i ∧ b' = b ∧ s' = s) := fun y => z (by rw [y.1, y.2.1, y.2.2])
      omega
theorem c_hk19_103 {N : Nat} {C : aH → Prop} {h : aH} {l : Int} {c i : Nat} (P : PI h) (hc : (c : Int) < h 16 15) (hi : i < NHR h) (hC : ∀ h', Fr [28, 31, 103] [] h h' → h' 28 6 = 0 → HT103 h c l (fun i' _ _ => i' < i + 1) h' → WV N 123 3 [(0, .inr (.inr 102)), (1, .inl (c : Int)), (2, .inr (.inr 103)), (3, .inl ((i : Int) + 1))] h' C) : ∀ (d b : Nat) (h1 : aH), d = NBD h - b → b ≤ NBD h → Fr [28, 31, 103] [] h h1 → h1 28 6 = 0 → HT103 h c l (fun i' b' _ => i' < i ∨ (i' = i ∧ b' < b)) h1 →
    WV N 123 19 [(0, .inr (.inr 102)), (1, .inl (c : Int)), (2, .inr (.inr 103)), (3, .inl (i : Int)), (4, .inl (SAT h c (LDM h l i))), (5, .inl (b : Int))] h1 C := by
  have hz := P.1.1
  unfold okSz at hz
  have n12 : NSL h ≤ 12 := by unfold NSL; omega
  have nh := NHR_le h
  have b12 : NBD h ≤ 12 := by unfold NBD; omega
  have eb : h 16 14 = (NBD h : Int) := by unfold NBD; omega
  intro d
  induction d with
  | zero =>
    intro b h1 hd hb f e6 T
    have : b = NBD h := by omega
    subst this
    refine w_123_19_r102_103 ?_
    rw [f.at 16 (by decide) (by decide), eb]
    refine ⟨fun _ => ck_rg (by omega) (hC h1 f e6 (fun i' b' s' q1 q2 q3 q => T i' b' s' q1 q2 q3 ?_)), fun z => absurd (Int.le_refl _) z⟩
    omega
  | succ d ih =>
    intro b h1 hd hb f e6 T
    refine w_123_19_r102_103 ?_
    rw [f.at 16 (by decide) (by decide), eb]
    refine ⟨fun z => by omega, fun _ => c_hk27_103 P hc hi (by omega) (fun h2 f2 g6 T2 => ih (b + 1) h2 (by omega) (by omega) f2 g6 T2) _ 0 h1 rfl (Nat.zero_le _) f e6 (fun i' b' s' q1 q2 q3 q => T i' b' s' q1 q2 q3 ?_)⟩
    omega
theorem c_hk3_103 {N : Nat} {C : aH → Prop} {h : aH} {l : Int} {c : Nat} (P : PI h) (O : okHrs h) (hc : (c : Int) < h 16 15) (hl : h 102 15 = l) (l60 : 0 ≤ l ∧ l ≤ 60) (hC : ∀ h', Fr [28, 31, 103] [] h h' → h' 28 6 = 0 → HT103 h c l (fun _ _ _ => True) h' → C h') : ∀ (d i : Nat) (h1 : aH), d = NHR h - i → i ≤ NHR h → Fr [28, 31, 103] [] h h1 → h1 28 6 = 0 → HT103 h c l (fun i' _ _ => i' < i) h1 →
    WV N 123 3 [(0, .inr (.inr 102)), (1, .inl (c : Int)), (2, .inr (.inr 103)), (3, .inl (i : Int))] h1 C := by
  intro d
  induction d with
  | zero =>
    intro i h1 hd hi f e6 T
    have : i = NHR h := by omega
    subst this
    obtain ⟨o1, o2⟩ := O.hh (f.at 16 (by decide) (by decide)) (f.at 26 (by decide) (by decide))
    refine w_123_3_r102_103 ?_
    rw [o1]
    exact ⟨fun _ => hC h1 f e6 (fun i' b' s' q1 q2 q3 _ => T i' b' s' q1 q2 q3 q1), fun z => absurd (Int.le_refl _) z⟩
  | succ d ih =>
    intro i h1 hd hi f e6 T
    have kp := f.kp (by decide)
    obtain ⟨o1, o2⟩ := O.hh (f.at 16 (by decide) (by decide)) (f.at 26 (by decide) (by decide))
    have hi2 : i < NHR h := by omega
    have lr := LDM_rg P l60.1 hi2
    refine w_123_3_r102_103 ?_
    rw [o1]
    refine ⟨fun z => by omega, fun _ => c_setTo P O (f.at 16 (by decide) (by decide)) (f.at 26 (by decide) (by decide)) (by rw [f.at 102 (by decide) (by decide)]; exact hl) l60 hi2 (c_soundsAt (kp.pi P).1 ⟨by omega, by rw [kp.at 16 (by decide)]; exact hc⟩ lr ?_)⟩
    rw [Int.toNat_natCast, kp.at 20 (by decide)]
    exact c_hk19_103 P hc hi2 (fun h2 f2 g6 T2 => ih (i + 1) h2 (by omega) (by omega) f2 g6 T2) _ 0 h1 rfl (Nat.zero_le _) f e6 (fun i' b' s' q1 q2 q3 q => T i' b' s' q1 q2 q3 (by omega))
theorem c_hearClock_103 {N : Nat} {C : aH → Prop} {h : aH} {l : Int} {c : Nat} (P : PI h) (O : okHrs h) (e6 : h 28 6 = 0) (hc : (c : Int) < h 16 15) (hl : h 102 15 = l) (l60 : 0 ≤ l ∧ l ≤ 60) (hC : ∀ h', Fr [28, 31, 103] [] h h' → h' 28 6 = 0 → HT103 h c l (fun _ _ _ => True) h' → C h') : WV N 123 0 [(0, .inr (.inr 102)), (1, .inl (c : Int)), (2, .inr (.inr 103))] h C :=
  w_123_0_r102_103 (c_hk3_103 P O hc hl l60 hC _ 0 h rfl (Nat.zero_le _) Fr.rfl e6 (fun i' b' s' q1 q2 q3 q => absurd q (Nat.not_lt_zero _)))
def HT104 (h : aH) (c : Nat) (l : Int) (pr : Nat → Nat → Nat → Prop) (h1 : aH) : Prop := ∀ i b s, i < NHR h → b < NBD h → s < NSL h → pr i b s → h1 104 ((i * 12 + b) * 12 + s) = HF h c l i b s
theorem c_hk27_104 {N : Nat} {C : aH → Prop} {h : aH} {l : Int} {c i b : Nat} (P : PI h) (hc : (c : Int) < h 16 15) (hi : i < NHR h) (hb : b < NBD h) (hC : ∀ h', Fr [28, 31, 104] [] h h' → h' 28 6 = 0 → HT104 h c l (fun i' b' _ => i' < i ∨ (i' = i ∧ b' < b + 1)) h' → WV N 123 19 [(0, .inr (.inr 102)), (1, .inl (c : Int)), (2, .inr (.inr 104)), (3, .inl (i : Int)), (4, .inl (SAT h c (LDM h l i))), (5, .inl ((b : Int) + 1))] h' C) : ∀ (d s : Nat) (h1 : aH), d = NSL h - s → s ≤ NSL h → Fr [28, 31, 104] [] h h1 → h1 28 6 = 0 → HT104 h c l (fun i' b' s' => i' < i ∨ (i' = i ∧ (b' < b ∨ (b' = b ∧ s' < s)))) h1 →
    WV N 123 27 [(0, .inr (.inr 102)), (1, .inl (c : Int)), (2, .inr (.inr 104)), (3, .inl (i : Int)), (4, .inl (SAT h c (LDM h l i))), (5, .inl (b : Int)), (6, .inl (s : Int))] h1 C := by
  have hz := P.1.1
  unfold okSz at hz
  have n12 : NSL h ≤ 12 := by unfold NSL; omega
  have nh := NHR_le h
  have b12 : NBD h ≤ 12 := by unfold NBD; omega
  have en : h 16 16 = (NSL h : Int) := by unfold NSL; omega
  have eb : h 16 14 = (NBD h : Int) := by unfold NBD; omega
  have hcl := P.1.2.2.1 c hc
  intro d
  induction d with
  | zero =>
    intro s h1 hd hs f e6 T
    have : s = NSL h := by omega
    subst this
    refine w_123_27_r102_104 ?_
    rw [f.at 16 (by decide) (by decide), en]
    refine ⟨fun _ => ck_rg (by omega) (hC h1 f e6 (fun i' b' s' q1 q2 q3 q => T i' b' s' q1 q2 q3 ?_)), fun z => absurd (Int.le_refl _) z⟩
    omega
  | succ d ih =>
    intro s h1 hd hs f e6 T
    have kp := f.kp (by decide)
    have hl := P.2.1.1 s (by omega)
    refine w_123_27_r102_104 ?_
    rw [f.at 16 (by decide) (by decide), en]
    refine ⟨fun z => by omega, fun _ => w_125_0 ?_⟩
    (repeat first | refine ck_ix (by omega) ?_ | refine ck_rg (by omega) ?_ | refine ck_rl (by omega) ?_)
    refine w_77_0 ?_
    have ew : am_and (am_shr (h1 58 11) (s : Int)) 1 = WOF h s := by
      have : WOF h1 s = WOF h s := by rw [kp.wof]
      exact this
    rw [ew]
    simp only [Int.toNat_natCast]
    rw [f.at 63 (by decide) (by decide), f.at 19 (by decide) (by decide)]
    refine ck_ix (by omega) (c_hearing (kp.pi P).1 e6 ⟨by omega, by rw [kp.at 16 (by decide)]; omega⟩ ⟨hl.1, by rw [kp.at 16 (by decide)]; exact hl.2.1⟩ ⟨by omega, by rw [kp.at 16 (by decide)]; omega⟩ (fun h2 f2 g6 => ?_))
    rw [kp.hear]
    (repeat first | refine ck_ix (by omega) ?_ | refine ck_rg (by omega) ?_ | refine ck_rl (by omega) ?_)
    rw [show (((i : Int) * 12 + (b : Int)) * 12 + (s : Int)).toNat = (i * 12 + b) * 12 + s by omega]
    refine ih (s + 1) _ (by omega) (by omega) ((f.trans (f2.mono (by decide) (by decide))).up (by decide) (by decide)) (by rw [up_row (by decide)]; exact g6) (fun i' b' s' q1 q2 q3 q => ?_)
    rw [up_in]
    by_cases z : (i' * 12 + b') * 12 + s' = (i * 12 + b) * 12 + s
    · have e1 : i' = i := by omega
      have e2 : b' = b := by omega
      have e3 : s' = s := by omega
      rw [if_pos z, e1, e2, e3]; rfl
    · rw [if_neg z, f2.at 104 (by decide) (by decide)]
      refine T i' b' s' q1 q2 q3 ?_
      have : ¬ (i' = i ∧ b' = b ∧ s' = s) := fun y => z (by rw [y.1, y.2.1, y.2.2])
      omega
theorem c_hk19_104 {N : Nat} {C : aH → Prop} {h : aH} {l : Int} {c i : Nat} (P : PI h) (hc : (c : Int) < h 16 15) (hi : i < NHR h) (hC : ∀ h', Fr [28, 31, 104] [] h h' → h' 28 6 = 0 → HT104 h c l (fun i' _ _ => i' < i + 1) h' → WV N 123 3 [(0, .inr (.inr 102)), (1, .inl (c : Int)), (2, .inr (.inr 104)), (3, .inl ((i : Int) + 1))] h' C) : ∀ (d b : Nat) (h1 : aH), d = NBD h - b → b ≤ NBD h → Fr [28, 31, 104] [] h h1 → h1 28 6 = 0 → HT104 h c l (fun i' b' _ => i' < i ∨ (i' = i ∧ b' < b)) h1 →
    WV N 123 19 [(0, .inr (.inr 102)), (1, .inl (c : Int)), (2, .inr (.inr 104)), (3, .inl (i : Int)), (4, .inl (SAT h c (LDM h l i))), (5, .inl (b : Int))] h1 C := by
  have hz := P.1.1
  unfold okSz at hz
  have n12 : NSL h ≤ 12 := by unfold NSL; omega
  have nh := NHR_le h
  have b12 : NBD h ≤ 12 := by unfold NBD; omega
  have eb : h 16 14 = (NBD h : Int) := by unfold NBD; omega
  intro d
  induction d with
  | zero =>
    intro b h1 hd hb f e6 T
    have : b = NBD h := by omega
    subst this
    refine w_123_19_r102_104 ?_
    rw [f.at 16 (by decide) (by decide), eb]
    refine ⟨fun _ => ck_rg (by omega) (hC h1 f e6 (fun i' b' s' q1 q2 q3 q => T i' b' s' q1 q2 q3 ?_)), fun z => absurd (Int.le_refl _) z⟩
    omega
  | succ d ih =>
    intro b h1 hd hb f e6 T
    refine w_123_19_r102_104 ?_
    rw [f.at 16 (by decide) (by decide), eb]
    refine ⟨fun z => by omega, fun _ => c_hk27_104 P hc hi (by omega) (fun h2 f2 g6 T2 => ih (b + 1) h2 (by omega) (by omega) f2 g6 T2) _ 0 h1 rfl (Nat.zero_le _) f e6 (fun i' b' s' q1 q2 q3 q => T i' b' s' q1 q2 q3 ?_)⟩
    omega
theorem c_hk3_104 {N : Nat} {C : aH → Prop} {h : aH} {l : Int} {c : Nat} (P : PI h) (O : okHrs h) (hc : (c : Int) < h 16 15) (hl : h 102 15 = l) (l60 : 0 ≤ l ∧ l ≤ 60) (hC : ∀ h', Fr [28, 31, 104] [] h h' → h' 28 6 = 0 → HT104 h c l (fun _ _ _ => True) h' → C h') : ∀ (d i : Nat) (h1 : aH), d = NHR h - i → i ≤ NHR h → Fr [28, 31, 104] [] h h1 → h1 28 6 = 0 → HT104 h c l (fun i' _ _ => i' < i) h1 →
    WV N 123 3 [(0, .inr (.inr 102)), (1, .inl (c : Int)), (2, .inr (.inr 104)), (3, .inl (i : Int))] h1 C := by
  intro d
  induction d with
  | zero =>
    intro i h1 hd hi f e6 T
    have : i = NHR h := by omega
    subst this
    obtain ⟨o1, o2⟩ := O.hh (f.at 16 (by decide) (by decide)) (f.at 26 (by decide) (by decide))
    refine w_123_3_r102_104 ?_
    rw [o1]
    exact ⟨fun _ => hC h1 f e6 (fun i' b' s' q1 q2 q3 _ => T i' b' s' q1 q2 q3 q1), fun z => absurd (Int.le_refl _) z⟩
  | succ d ih =>
    intro i h1 hd hi f e6 T
    have kp := f.kp (by decide)
    obtain ⟨o1, o2⟩ := O.hh (f.at 16 (by decide) (by decide)) (f.at 26 (by decide) (by decide))
    have hi2 : i < NHR h := by omega
    have lr := LDM_rg P l60.1 hi2
    refine w_123_3_r102_104 ?_
    rw [o1]
    refine ⟨fun z => by omega, fun _ => c_setTo P O (f.at 16 (by decide) (by decide)) (f.at 26 (by decide) (by decide)) (by rw [f.at 102 (by decide) (by decide)]; exact hl) l60 hi2 (c_soundsAt (kp.pi P).1 ⟨by omega, by rw [kp.at 16 (by decide)]; exact hc⟩ lr ?_)⟩
    rw [Int.toNat_natCast, kp.at 20 (by decide)]
    exact c_hk19_104 P hc hi2 (fun h2 f2 g6 T2 => ih (i + 1) h2 (by omega) (by omega) f2 g6 T2) _ 0 h1 rfl (Nat.zero_le _) f e6 (fun i' b' s' q1 q2 q3 q => T i' b' s' q1 q2 q3 (by omega))
theorem c_hearClock_104 {N : Nat} {C : aH → Prop} {h : aH} {l : Int} {c : Nat} (P : PI h) (O : okHrs h) (e6 : h 28 6 = 0) (hc : (c : Int) < h 16 15) (hl : h 102 15 = l) (l60 : 0 ≤ l ∧ l ≤ 60) (hC : ∀ h', Fr [28, 31, 104] [] h h' → h' 28 6 = 0 → HT104 h c l (fun _ _ _ => True) h' → C h') : WV N 123 0 [(0, .inr (.inr 102)), (1, .inl (c : Int)), (2, .inr (.inr 104))] h C :=
  w_123_0_r102_104 (c_hk3_104 P O hc hl l60 hC _ 0 h rfl (Nat.zero_le _) Fr.rfl e6 (fun i' b' s' q1 q2 q3 q => absurd q (Nat.not_lt_zero _)))
def HPT (h : aH) (pr : Nat → Nat → Prop) (h1 : aH) : Prop := ∀ s k : Nat, s < NSL h → k < (h 58 10).toNat → pr s k → h1 105 (s * 8 + k) = HRD h s (h 63 s) (WOF h s) k
theorem c_hp33 {N : Nat} {C : aH → Prop} {h : aH} {s : Nat} (P : PI h) (hs : s < NSL h) (hC : ∀ h', Fr [28, 31, 105] [] h h' → h' 28 6 = 0 → HPT h (fun s' _ => s' < s + 1) h' → WV N 122 19 [(0, .inr (.inr 102)), (1, .inl ((s : Int) + 1))] h' C) : ∀ (d k : Nat) (h1 : aH), d = (h 58 10).toNat - k → k ≤ (h 58 10).toNat → Fr [28, 31, 105] [] h h1 → h1 28 6 = 0 → HPT h (fun s' k' => s' < s ∨ (s' = s ∧ k' < k)) h1 →
    WV N 122 33 [(0, .inr (.inr 102)), (1, .inl (s : Int)), (2, .inl (h 63 s)), (3, .inl (k : Int))] h1 C := by
  have hz := P.1.1
  unfold okSz at hz
  have n12 : NSL h ≤ 12 := by unfold NSL; omega
  have en : h 16 16 = (NSL h : Int) := by unfold NSL; omega
  obtain ⟨s0, s8, -⟩ := P.2.2.1
  have es : h 58 10 = (((h 58 10).toNat : Nat) : Int) := by omega
  generalize hn : (h 58 10).toNat = n at *
  have hl := P.2.1.1 s (by omega)
  intro d
  induction d with
  | zero =>
    intro k h1 hd hk f e6 T
    have : k = n := by omega
    subst this
    refine w_122_33 ?_
    rw [f.at 58 (by decide) (by decide), es]
    refine ⟨fun _ => ck_rg (by omega) (hC h1 f e6 (fun s' k' q1 q2 q => T s' k' q1 q2 ?_)), fun z => absurd (Int.le_refl _) z⟩
    omega
  | succ d ih =>
    intro k h1 hd hk f e6 T
    have kp := f.kp (by decide)
    refine w_122_33 ?_
    rw [f.at 58 (by decide) (by decide), es]
    refine ⟨fun z => by omega, fun _ => ?_⟩
    (repeat first | refine ck_ix (by omega) ?_ | refine ck_rg (by omega) ?_ | refine ck_rl (by omega) ?_)
    refine w_77_0 ?_
    have ew : am_and (am_shr (h1 58 11) (s : Int)) 1 = WOF h s := by
      have : WOF h1 s = WOF h s := by rw [kp.wof]
      exact this
    have ew2 : am_and (am_shr (h 58 11) (s : Int)) 1 = WOF h s := rfl
    first | rw [ew] | rw [ew2]
    refine c_heardOf (kp.pi P).1 (kp.pi P).2.2.1 e6 (by rw [kp.at 58 (by decide)]; omega) ⟨by omega, by rw [kp.at 16 (by decide)]; omega⟩ ⟨hl.1, by rw [kp.at 16 (by decide)]; exact hl.2.1⟩ (fun h2 f2 g6 => ?_)
    rw [kp.hrd]
    (repeat first | refine ck_ix (by omega) ?_ | refine ck_rg (by omega) ?_ | refine ck_rl (by omega) ?_)
    rw [show ((s : Int) * 8 + (k : Int)).toNat = s * 8 + k by omega]
    refine ih (k + 1) _ (by omega) (by omega) ((f.trans (f2.mono (by decide) (by decide))).up (by decide) (by decide)) (by rw [up_row (by decide)]; exact g6) (fun s' k' q1 q2 q => ?_)
    rw [up_in]
    by_cases z : s' * 8 + k' = s * 8 + k
    · have e1 : s' = s := by omega
      have e2 : k' = k := by omega
      rw [if_pos z, e1, e2]
    · rw [if_neg z, f2.at 105 (by decide) (by decide)]
      refine T s' k' q1 q2 ?_
      have : ¬ (s' = s ∧ k' = k) := fun y => z (by rw [y.1, y.2])
      omega
theorem c_hp19 {N : Nat} {C : aH → Prop} {h : aH} (P : PI h) (hC : ∀ h', Fr [28, 31, 105] [] h h' → h' 28 6 = 0 → HPT h (fun _ _ => True) h' → C h') : ∀ (d s : Nat) (h1 : aH), d = NSL h - s → s ≤ NSL h → Fr [28, 31, 105] [] h h1 → h1 28 6 = 0 → HPT h (fun s' _ => s' < s) h1 →
    WV N 122 19 [(0, .inr (.inr 102)), (1, .inl (s : Int))] h1 C := by
  have hz := P.1.1
  unfold okSz at hz
  have n12 : NSL h ≤ 12 := by unfold NSL; omega
  have en : h 16 16 = (NSL h : Int) := by unfold NSL; omega
  intro d
  induction d with
  | zero =>
    intro s h1 hd hs f e6 T
    have : s = NSL h := by omega
    subst this
    refine w_122_19 ?_
    rw [f.at 16 (by decide) (by decide), en]
    exact ⟨fun _ => hC h1 f e6 (fun s' k' q1 q2 _ => T s' k' q1 q2 q1), fun z => absurd (Int.le_refl _) z⟩
  | succ d ih =>
    intro s h1 hd hs f e6 T
    refine w_122_19 ?_
    rw [f.at 16 (by decide) (by decide), f.at 63 (by decide) (by decide), en]
    refine ⟨fun z => by omega, fun _ => ck_ix (by omega) ?_⟩
    rw [Int.toNat_natCast]
    exact c_hp33 P (by omega) (fun h2 f2 g6 T2 => ih (s + 1) h2 (by omega) (by omega) f2 g6 T2) _ 0 h1 rfl (Nat.zero_le _) f e6 (fun s' k' q1 q2 q => T s' k' q1 q2 (by omega))
