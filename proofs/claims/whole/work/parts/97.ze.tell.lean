/-! SHAKES: the class tells it -/
theorem smI_ext {W : Nat → Int} {k : Nat} (z : ∀ s, k ≤ s → W s = 0) : ∀ d, smI W (k + d) = smI W k
  | 0 => rfl
  | d + 1 => by
    show smI W (k + d) + W (k + d) = smI W k
    rw [smI_ext z d, z _ (by omega)]
    exact Int.add_zero _
/-- nothing but the seats stands there -/
def STS (h : aH) (c : Nat) (σ : Nat → Nat) (A : Nat → Int) : Prop := INJ (NS h c) (NE h) σ ∧ (∀ r, r < NE h → A (σ r + 1) = ((r + 1 : Nat) : Int)) ∧ ∀ s, s < NS h c → A (s + 1) = 0 ∨ ∃ r, r < NE h ∧ σ r = s
theorem HUN.sts {h : aH} {c : Nat} {U V A : Nat → Int} (H : HUN h c (NE h + 1) U V A) : ∃ σ, STS h c σ A := by
  obtain ⟨σ, a, b⟩ := H.seats
  obtain ⟨-, b1, c1, -, -, -⟩ := H
  refine ⟨σ, a, b, fun s hs => ?_⟩
  rcases b1 (s + 1) (by omega) (by omega) with y | ⟨r, r1, r2, r3, -⟩
  · exact Or.inl y
  · have e := b (r - 1) (by omega)
    have := c1 (s + 1) (σ (r - 1) + 1) (by omega) (by omega) (by omega) (by have := a.1 (r - 1) (by omega); omega) (by rw [r1]; omega) (by rw [r1, e]; omega)
    exact Or.inr ⟨r - 1, by omega, by omega⟩
def TSH (h : aH) (c : Nat) (A : Nat → Int) (s : Nat) : Int := if s < NE h * c ∧ A (s + 1) ≠ 0 then 1 else 0
def TWK (h : aH) (c : Nat) (A : Nat → Int) (s : Nat) : Int := if s < NE h * c ∧ A (s + 1) ≠ 0 then WKE h (s / c) ((A (s + 1)).toNat - 1) else 0
theorem div_ne {c s n : Nat} (hc : 1 ≤ c ∧ c ≤ 2) : s / c < n ↔ s < n * c := by
  rcases (show c = 1 ∨ c = 2 by omega) with rfl | rfl <;> omega
theorem STS.sums {h : aH} (P : PI h) {c : Nat} (hc : 1 ≤ c ∧ c ≤ 2) {σ : Nat → Nat} {A : Nat → Int} (S : STS h c σ A) (F : SV h c (fOf h c σ)) : smI (TSH h c A) (NE h * c) = SMV (fOf h c σ) (NSL h) ∧ smI (TWK h c A) (NE h * c) = SWV h (fOf h c σ) (NSL h) := by
  obtain ⟨a, b, d⟩ := S
  obtain ⟨f1, f2, -, -⟩ := F.sums P
  have e : ∀ W : Nat → Int, (∀ s, NE h * c ≤ s → W s = 0) → (∀ s, A (s + 1) = 0 → W s = 0) → smI W (NE h * c) = smI (fun r => W (σ r)) (NE h) := by
    intro W w1 w2
    have x := smI_ext w1 (NE h)
    rw [← x]
    refine sum_eq (NE h) W (fun s hs z => ?_) a
    rcases d s hs with y | ⟨r, r1, r2⟩
    · exact w2 s y
    · exact absurd r2 (z r r1)
  refine ⟨?_, ?_⟩
  · rw [f1, e (TSH h c A) (fun s hs => if_neg (fun z => by omega)) (fun s hs => if_neg (fun z => z.2 hs))]
    refine smI_congr (fun r hr => ?_)
    rw [fOf_EI P hr]
    have nz : A (σ r + 1) ≠ 0 := by rw [b r hr]; omega
    by_cases y : σ r / c < NE h
    · rw [if_pos y, if_neg (EI_12 P y)]
      exact if_pos ⟨(div_ne hc).mp y, nz⟩
    · rw [if_neg y, if_pos rfl]
      exact if_neg (fun z => y ((div_ne hc).mpr z.1))
  · rw [f2, e (TWK h c A) (fun s hs => if_neg (fun z => by omega)) (fun s hs => if_neg (fun z => z.2 hs))]
    refine smI_congr (fun r hr => ?_)
    rw [fOf_EI P hr]
    have nz : A (σ r + 1) ≠ 0 := by rw [b r hr]; omega
    by_cases y : σ r / c < NE h
    · rw [if_pos y, if_neg (EI_12 P y), WSL_EI]
      unfold TWK
      rw [if_pos ⟨(div_ne hc).mp y, nz⟩, b r hr]
      rfl
    · rw [if_neg y, if_pos rfl]
      exact if_neg (fun z => y ((div_ne hc).mpr z.1))
/-- who is told so far: of the sides below s -/
def TOL (h : aH) (c : Nat) (σ : Nat → Nat) (s x : Nat) : Int := if (h 23 x ≠ -2 ∧ IX h x < 8) ∧ σ (IX h x) < s then (EI h (σ (IX h x) / c) : Int) else -2
theorem TOL_y {h : aH} {c : Nat} {σ : Nat → Nat} {s x : Nat} (y : FIRST h x ∧ σ (IX h x) < s) : TOL h c σ s x = (EI h (σ (IX h x) / c) : Int) := if_pos y
theorem TOL_n {h : aH} {c : Nat} {σ : Nat → Nat} {s x : Nat} (y : ¬ (FIRST h x ∧ σ (IX h x) < s)) : TOL h c σ s x = -2 := if_neg y
theorem TSH_rg (h : aH) (c : Nat) (A : Nat → Int) (s : Nat) : 0 ≤ TSH h c A s ∧ TSH h c A s ≤ 1 := by
  unfold TSH
  split <;> decide
theorem TWK_rg {h : aH} (P : PI h) {c : Nat} (hc : 1 ≤ c ∧ c ≤ 2) {σ : Nat → Nat} {A : Nat → Int} (S : STS h c σ A) (s : Nat) : 0 ≤ TWK h c A s ∧ TWK h c A s ≤ 19 := by
  unfold TWK
  split
  · rename_i y
    rcases S.2.2 s (by unfold NS; omega) with z | ⟨r, r1, r2⟩
    · exact absurd z y.2
    · have e := S.2.1 r r1
      rw [r2] at e
      have := WKE_rg P (a := s / c) (b := (A (s + 1)).toNat - 1) ((div_ne hc).mpr y.1) (by omega)
      omega
  · decide
theorem c_te17 {N : Nat} {C : aH → Prop} {h : aH} {c : Nat} {σ : Nat → Nat} {A : Nat → Int} (P : PI h) (O : okEight h) (hc : 1 ≤ c ∧ c ≤ 2) (S : STS h c σ A) (hC : ∀ h', FSH h h' → h' 113 11 = smI (TSH h c A) (NE h * c) → h' 113 12 = smI (TWK h c A) (NE h * c) → (∀ x, x < NSL h → h' 114 x = TOL h c σ (NE h * c) x) → C h') : ∀ (d s : Nat) (h1 : aH), d = NE h * c - s → s ≤ NE h * c → FSH h h1 → h1 119 = A → h1 113 11 = smI (TSH h c A) s → h1 113 12 = smI (TWK h c A) s → (∀ x, x < NSL h → h1 114 x = TOL h c σ s x) →
    WV N 152 17 [(0, .inr (.inr 113)), (1, .inl (c : Int)), (2, .inl (NE h : Int)), (3, .inl ((s : Int) + 1))] h1 C := by
  have n8 := NE_le h
  have hz := P.1.1
  unfold okSz at hz
  have n12 : NSL h ≤ 12 := by unfold NSL; omega
  have eN : (NE h : Int) * (c : Int) = ((NE h * c : Nat) : Int) := (Int.natCast_mul _ _).symm
  have m16 : NE h * c ≤ 16 := Nat.mul_le_mul n8 hc.2
  intro d
  induction d with
  | zero =>
    intro s h1 hd hs f e119 es ew et
    have : s = NE h * c := by omega
    subst this
    refine w_152_17 ?_
    rw [eN]
    exact ck_rg (by omega) ⟨fun _ => hC h1 f es ew et, fun z => absurd (by omega) z⟩
  | succ d ih =>
    intro s h1 hd hs f e119 es ew et
    have hs2 : s < NS h c := by unfold NS; omega
    have b1 := smI_pos (f := TSH h c A) (k := s) (fun i _ => (TSH_rg h c A i).1)
    have b2 := smI_hi (f := TSH h c A) (v := 1) (k := s) (fun i _ => (TSH_rg h c A i).2)
    have b3 := smI_pos (f := TWK h c A) (k := s) (fun i _ => (TWK_rg P hc S i).1)
    have b4 := smI_hi (f := TWK h c A) (v := 19) (k := s) (fun i _ => (TWK_rg P hc S i).2)
    have s1 : smI (TSH h c A) (s + 1) = smI (TSH h c A) s + TSH h c A s := rfl
    have s2 : smI (TWK h c A) (s + 1) = smI (TWK h c A) s + TWK h c A s := rfl
    refine w_152_17 ?_
    rw [eN, show ((s : Int) + 1).toNat = s + 1 by omega, e119]
    refine ck_rg (by omega) ⟨fun z => by omega, fun _ => ck_ix (by omega) ⟨fun z => ck_rg (by omega) ?_, fun nz => ?_⟩⟩
    · refine ih (s + 1) h1 (by omega) (by omega) f e119 ?_ ?_ (fun x hx => ?_)
      · rw [s1, es, show TSH h c A s = 0 from if_neg (fun q => q.2 z)]; omega
      · rw [s2, ew, show TWK h c A s = 0 from if_neg (fun q => q.2 z)]; omega
      · rw [et x hx]
        by_cases y : FIRST h x ∧ σ (IX h x) < s
        · rw [TOL_y y, TOL_y ⟨y.1, by omega⟩]
        · rw [TOL_n y, TOL_n (fun q => y ⟨q.1, ?_⟩)]
          have e := S.2.1 (IX h x) (FIRST_ix hx q.1).1
          rcases Nat.lt_or_ge (σ (IX h x)) s with l | l
          · exact l
          · exfalso
            have : σ (IX h x) = s := by omega
            rw [this, z] at e
            omega
    · rcases S.2.2 s hs2 with z | ⟨r, r1, r2⟩
      · exact absurd z nz
      · have er := S.2.1 r r1
        rw [r2] at er
        have kp : Kp h h1 := Fr.kp f (by decide)
        have k1 : s / c < NE h := (div_ne hc).mpr (by omega)
        obtain ⟨e1, e2, e3⟩ := EI_first P r1
        have wk := WKE_rg P k1 r1
        refine ck_rg (by omega) ?_
        rw [show (s : Int) + 1 - 1 = (s : Int) by omega]
        refine c_shakerAt hc (by omega) ?_
        rw [e119, er, show ((r + 1 : Nat) : Int) - 1 = (r : Int) by omega, kp.at 27 (by decide)]
        simp only [Int.toNat_natCast]
        rw [O.2 _ k1, O.2 r r1, es, ew]
        simp only [Int.toNat_natCast]
        refine ck_ix ⟨Int.natCast_nonneg _, Int.ofNat_lt.mpr (Nat.lt_of_lt_of_le k1 n8)⟩ (ck_ix (by omega) (ck_rg (by omega) (ck_ix (by omega) (ck_ix (by omega) (ck_rg (by omega) ?_)))))
        have f2 : FSH h (am_up (am_up h1 114 (EI h r) (EI h (s / c) : Int)) 113 11 (smI (TSH h c A) s + 1)) := Fr.up (Fr.up f (by decide) (by decide)) (by decide) (by decide)
        refine c_walkOf P f2 k1 r1 (ck_rg (by omega) (ck_rg (by omega) ?_))
        refine ih (s + 1) _ (by omega) (by omega) (Fr.up f2 (by decide) (by decide)) ?_ ?_ ?_ (fun x hx => ?_)
        · rw [up_row (by decide), up_row (by decide), up_row (by decide)]; exact e119
        · rw [up_ne (by decide), up_same, s1, show TSH h c A s = 1 from if_pos ⟨by omega, nz⟩]
        · rw [up_same, s2]
          unfold TWK
          rw [if_pos ⟨by omega, nz⟩, er]
          rfl
        · rw [up_row (by decide), up_row (by decide), up_in]
          by_cases q : x = EI h r
          · rw [if_pos q, q, TOL_y ⟨e2, by rw [e3, r2]; omega⟩, e3, r2]
          · rw [if_neg q, et x hx]
            by_cases y : FIRST h x ∧ σ (IX h x) < s
            · rw [TOL_y y, TOL_y ⟨y.1, by omega⟩]
            · rw [TOL_n y, TOL_n (fun t => y ⟨t.1, ?_⟩)]
              obtain ⟨i1, i2⟩ := FIRST_ix hx t.1
              rcases Nat.lt_or_ge (σ (IX h x)) s with l | l
              · exact l
              · exfalso
                have := S.1.2 (IX h x) r i1 r1 (by omega)
                rw [this] at i2
                exact q i2.symm
theorem c_fl114 {N : Nat} {C : aH → Prop} {h : aH} {v : Int} (hC : ∀ h', Fr [114] [] h h' → (∀ j, j < 12 → h' 114 j = v) → C h') : ∀ (d j : Nat) (h1 : aH), d = 12 - j → j ≤ 12 → Fr [114] [] h h1 → (∀ i, i < j → h1 114 i = v) →
    WV N 71 6 [(0, .inr (.inr 114)), (1, .inl v), (2, .inl (j : Int)), (3, .inl 12)] h1 C := by
  intro d
  induction d with
  | zero =>
    intro j h1 hd hj hf hv
    have : j = 12 := by omega
    subst this
    exact w_71_6_r114 ⟨fun _ => hC h1 hf hv, fun z => absurd (show (12 : Int) ≤ ((12 : Nat) : Int) by decide) z⟩
  | succ d ih =>
    intro j h1 hd hj hf hv
    refine w_71_6_r114 ⟨fun z => by omega, fun _ => ?_⟩
    (repeat first | refine ck_ix (by omega) ?_ | refine ck_rg (by omega) ?_ | refine ck_rl (by omega) ?_)
    simp only [Int.toNat_natCast]
    refine ih (j + 1) _ (by omega) (by omega) (hf.up (by decide) (by decide)) (fun i hi => ?_)
    rw [up_in]
    by_cases e : i = j
    · rw [if_pos e]
    · rw [if_neg e]; exact hv i (by omega)
/-- what the class keeps of SHAKES -/
def KSH (h : aH) (c : Nat) (h' : aH) : Prop := ∃ f, SOPT h c f ∧ h' 113 11 = SMV f (NSL h) ∧ h' 113 12 = SWV h f (NSL h) ∧ ∀ x, x < NSL h → h' 114 x = if f x = 12 then -2 else (f x : Int)
theorem c_tell {N : Nat} {C : aH → Prop} {h h1 : aH} {c : Nat} (P : PI h) (O : okEight h) (hc : 1 ≤ c ∧ c ≤ 2) (K : HCX h c h1) (H : HUN h c (NE h + 1) (h1 116) (h1 117) (h1 119)) (hC : ∀ h', FSH h h' → KSH h c h' → C h') : WV N 152 0 [(0, .inr (.inr 113)), (1, .inl (c : Int))] h1 C := by
  obtain ⟨σ, S⟩ := H.sts
  have kp : Kp h h1 := Fr.kp K.1 (by decide)
  have X := H.opt P hc S.1 S.2.1
  obtain ⟨t1, t2⟩ := S.sums P hc X.1
  have hz := P.1.1
  unfold okSz at hz
  have n12 : NSL h ≤ 12 := by unfold NSL; omega
  refine w_152_0 (w_71_0_r114 (ck_rg (by omega) (c_fl114 (fun h2 f2 v2 => ?_) 12 0 h1 rfl (Nat.zero_le _) Fr.rfl (fun i hi => absurd hi (Nat.not_lt_zero i)))))
  have e16 : h1 16 18 = (NE h : Int) := by rw [kp.at 16 (by decide)]; exact O.1
  have F2 : FSH h h2 := Fr.trans K.1 (f2.mono (by decide) (by decide))
  rw [e16]
  refine c_te17 P O hc S (fun h3 f3 es ew et => hC h3 f3 ⟨_, X, by rw [es, t1], by rw [ew, t2], fun x hx => ?_⟩) _ 0 _ rfl (Nat.zero_le _) (Fr.up (Fr.up F2 (by decide) (by decide)) (by decide) (by decide)) ?_ ?_ ?_ (fun x hx => ?_)
  · rw [et x hx]
    by_cases y : FIRST h x
    · obtain ⟨i1, i2⟩ := FIRST_ix hx y
      have e := fOf_EI (c := c) (σ := σ) P i1
      rw [i2] at e
      rw [e]
      by_cases z : σ (IX h x) / c < NE h
      · rw [if_pos z, if_neg (EI_12 P z)]
        exact TOL_y ⟨y, (div_ne hc).mp z⟩
      · rw [if_neg z, if_pos rfl]
        exact TOL_n (fun q => z ((div_ne hc).mpr q.2))
    · rw [fOf_out y, if_pos rfl]
      exact TOL_n (fun q => y q.1)
  · rw [up_row (by decide), up_row (by decide)]; exact f2.at 119 (by decide) (by decide)
  · rw [up_ne (by decide), up_same]; rfl
  · rw [up_same]; rfl
  · rw [up_row (by decide), up_row (by decide), v2 x (by omega)]
    exact (TOL_n (fun q => absurd q.2 (Nat.not_lt_zero _))).symm
theorem c_shm {N : Nat} {C : aH → Prop} {h : aH} {c : Nat} (P : PI h) (O : okEight h) (V : okNin h) (hc : 1 ≤ c ∧ c ≤ 2) (hC : ∀ h', FSH h h' → KSH h c h' → C h') : WV N 144 0 [(0, .inr (.inr 113)), (1, .inl (c : Int))] h C :=
  c_match P O V hc (fun _ K H => c_tell P O hc K H hC)
