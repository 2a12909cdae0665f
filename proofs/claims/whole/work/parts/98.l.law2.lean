/-! read: the class is told a law -/
/-- what is not yet closed -/
def brk : List Nat → Nat
  | [] => 0
  | s :: S => if 21 ≤ s ∧ s ≤ 24 then brk S else brk S + 1
theorem brk_y {s : Nat} {S : List Nat} (h : 21 ≤ s ∧ s ≤ 24) : brk (s :: S) = brk S := if_pos h
theorem brk_n {s : Nat} {S : List Nat} (h : ¬ (21 ≤ s ∧ s ≤ 24)) : brk (s :: S) = brk S + 1 := if_neg h
theorem brk_le : ∀ S, brk S ≤ S.length
  | [] => Nat.le_refl 0
  | s :: S => by
    have := brk_le S
    rw [List.length_cons]
    by_cases c : 21 ≤ s ∧ s ≤ 24
    · rw [brk_y c]; omega
    · rw [brk_n c]; omega
theorem brk_popW {lo : Nat} (h : 21 ≤ lo) : ∀ S, brk (popW lo S).1 = brk S
  | [] => rfl
  | s :: S => by
    by_cases c : lo ≤ s ∧ s ≤ 24
    · rw [popW_y c, brk_popW h S]
      exact (if_pos (show 21 ≤ s ∧ s ≤ 24 by omega)).symm
    · rw [popW_n c]
theorem LTK_brk {u : Bool} {k d : Nat} {v : Int} {S : List Nat} {E : List Int} (hb : d = brk S) (h0 : (LTK u k v S d E).1 = 0) : (LTK u k v S d E).2.2.2.1 = brk (LTK u k v S d E).2.2.1 := by
  unfold LTK at h0 ⊢
  have b21 := brk_popW (lo := 21) (by decide) S
  by_cases hu : u = true
  · rw [if_pos hu] at h0 ⊢
    by_cases c1 : k = 26 ∨ k = 28
    · rw [if_pos c1] at h0 ⊢
      by_cases c2 : 6 ≤ d
      · rw [if_pos c2] at h0; cases h0
      · rw [if_neg c2]
        show d + 1 = brk (k :: S)
        rw [brk_n (by omega), hb]
    · rw [if_neg c1] at h0 ⊢
      by_cases c2 : k = 19
      · rw [if_pos c2]; exact hb
      · rw [if_neg c2] at h0 ⊢
        by_cases c3 : k ≤ 6
        · rw [if_pos c3]; exact hb
        · rw [if_neg c3] at h0; cases h0
  · rw [if_neg hu] at h0 ⊢
    by_cases c1 : (21 ≤ k ∧ k ≤ 25) ∨ k = 30
    · rw [if_pos c1] at h0 ⊢
      by_cases c2 : k = 25 ∨ k = 30
      · rw [if_pos c2] at h0 ⊢
        cases hs : (popW 21 S).1 with
        | nil => rw [hs] at h0; cases h0
        | cons s S2 =>
          rw [hs] at h0 b21
          by_cases c3 : s = 28
          · rw [LTt_y c3]
            show d = brk (k :: S2)
            rw [c3, brk_n (by decide)] at b21
            rw [brk_n (by omega), hb, ← b21]
          · rw [LTt_n c3] at h0; cases h0
      · rw [if_neg c2]
        show d = brk (k :: (popW (if k = 23 ∨ k = 24 then 23 else 21) S).1)
        rw [brk_y (by omega), brk_popW (by split <;> decide), hb]
    · rw [if_neg c1] at h0 ⊢
      cases hs : (popW 21 S).1 with
      | nil =>
        rw [hs] at h0
        by_cases c3 : k = 20
        · rw [LTc_0 c3] at h0; cases h0
        · rw [LTc_n0 c3] at h0; cases h0
      | cons s S2 =>
        rw [hs] at h0 b21
        by_cases c3 : k = 27 ∧ s = 26
        · rw [LTc_1 c3]
          show d - 1 = brk S2
          rw [c3.2, brk_n (by decide)] at b21
          omega
        · by_cases c4 : k = 29 ∧ (s = 25 ∨ s = 30)
          · rw [LTc_2 c3 c4]
            show d - 1 = brk S2
            rw [brk_n (by omega)] at b21
            omega
          · rw [LTc_n c3 c4] at h0; cases h0
/-- within a law, a TOKEN done but not gone past -/
def LCT49 (K PL : Nat → Nat) (VL : Nat → Int) (t : Nat) (S : List Nat) (d : Nat) (E : List Int) (g : aH) : Prop := CSQ K PL VL t g ∧ g 35 7 = (S.length : Int) ∧ stN (g 57) S ∧ g 35 8 = (d : Int) ∧ g 49 2 = (E.length : Int) ∧ stE (g 50) E
/-- what a TOKEN of a law leaves: a fault, or what it asks -/
def LOUT49 (K PL : Nat → Nat) (VL : Nat → Int) (t : Nat) (R : Nat × Bool × List Nat × Nat × List Int) (g : aH) (r : Int) (g' : aH) : Prop := F5 [57, 49, 50] [7, 8, 11, 12] g g' ∧ ((r = 0 ∧ (R.1 = 1 ∨ R.1 = 2) ∧ FLG PL R.1 t g') ∨ (r = 1 ∧ (R.1 = 0 ∨ R.1 = 3) ∧ LCT49 K PL VL t R.2.2.1 R.2.2.2.1 R.2.2.2.2 g'))
theorem c_brack49 {N : Nat} {C : Int → aH → Prop} {K PL : Nat → Nat} {VL : Nat → Int} {t d k : Nat} {v : Int} {E : List Int} {S : List Nat} {g : aH} (X : LCS49 K PL VL t S d E g) (hk : k = 26 ∨ k = 28) (hC : ∀ r g', LOUT49 K PL VL t (LTK true k v S d E) g r g' → C r g') : WI N 58 0 [(0, .inr (.inr 35)), (1, .inl (k : Int))] g C := by
  obtain ⟨x1, x2, x3, x4, x5, x6, x7, x8⟩ := X
  have hR : LTK true k v S d E = if 6 ≤ d then (2, true, S, d, E) else (0, true, k :: S, d + 1, E) := by
    unfold LTK
    rw [if_pos rfl, if_pos hk]
  refine w_58_0 ?_
  rw [x4]
  refine ⟨fun lt => ck_rg (by omega) ?_, fun ge => c_fail (n := 2) x1 (fun g' f e => ck_t0 (hC 0 g' ?_))⟩
  · rw [if_neg (by omega)] at hR
    have f1 : F5 [] [8] g (am_up g 35 8 ((d : Int) + 1)) := F5.rfl.upM (by decide)
    refine c_pushSign49 (d := d + 1) (E := E) (S := S) ⟨x1.mv f1 (by decide) (by decide), by rw [f1.2 7 (by decide)]; exact x2, by rw [f1.at 57 (by decide) (by decide)]; exact x3, by rw [up_same]; omega, by rw [f1.at 49 (by decide) (by decide)]; exact x5, by rw [f1.at 50 (by decide) (by decide)]; exact x6, x7, x8⟩ (fun g' f Y => ck_t1 (hC 1 g' ⟨(f1.mono (by decide) (by decide)).trans (f.mono (by decide) (by decide)), Or.inr ⟨rfl, ?_⟩⟩))
    rw [hR]
    exact ⟨Or.inl rfl, Y⟩
  · rw [if_pos (by omega)] at hR
    refine ⟨f.mono (by decide) (by decide), Or.inl ⟨rfl, ?_⟩⟩
    rw [hR]
    exact ⟨Or.inr rfl, e⟩
theorem c_putUnit49 {N : Nat} {C : Int → aH → Prop} {K PL : Nat → Nat} {VL : Nat → Int} {t d : Nat} {E : List Int} {S : List Nat} {g : aH} (Q : TOKP K PL VL) (X : LCS49 K PL VL t S d E g) (hk : ¬ (K t = 26 ∨ K t = 28)) (hC : ∀ r g', LOUT49 K PL VL t (LTK true (K t) (VL t) S d E) g r g' → C r g') : WI N 60 0 [(0, .inr (.inr 35)), (1, .inr (.inr 49)), (2, .inl (K t : Int))] g C := by
  obtain ⟨x1, x2, x3, x4, x5, x6, x7, x8⟩ := X
  have hR : LTK true (K t) (VL t) S d E = if K t = 19 then (0, false, S, d, E ++ [VL t]) else if K t ≤ 6 then (0, false, S, d, E ++ [-1 - (K t : Int)]) else (1, true, S, d, E) := by
    unfold LTK
    rw [if_pos rfl, if_neg hk]
  have k32 := Q.1 t
  have put : ∀ z : Int, LTK true (K t) (VL t) S d E = (0, false, S, d, E ++ [z]) → WV N 42 0 [(0, .inr (.inr 49)), (1, .inl z)] g (fun h1 => (am_tf (1 : Int) ∧ C 1 h1)) := by
    intro z hz
    refine c_lput49 x5 x6 (by omega) (fun g' f a b c => ck_t1 (hC 1 g' ⟨f.mono (by decide) (by decide), Or.inr ⟨rfl, ?_⟩⟩))
    rw [hz]
    exact ⟨Or.inl rfl, x1.mv f (by decide) (by decide), by rw [f.2 7 (by decide)]; exact x2, by rw [f.at 57 (by decide) (by decide)]; exact x3, by rw [f.2 8 (by decide)]; exact x4, a, b⟩
  refine w_60_0_r35_49 ⟨fun n19 => ⟨fun le => ck_rg (by omega) (put _ ?_), fun gt => c_fail (n := 1) x1 (fun g' f e => ck_t0 (hC 0 g' ⟨f.mono (by decide) (by decide), Or.inl ⟨rfl, ?_⟩⟩))⟩, fun y19 => ?_⟩
  · rw [hR, if_neg (fun z => n19 (by rw [z]; rfl)), if_pos (by omega)]
  · rw [hR, if_neg (fun z => n19 (by rw [z]; rfl)), if_neg (by omega)]
    exact ⟨Or.inl rfl, e⟩
  · have e : K t = 19 := by have := Classical.byContradiction y19; omega
    have vr := Q.2.2.1 t e
    have w : w32 (VL t) = VL t := by unfold w32; omega
    have ts := (x1.1 t x1.2.2.1 x1.2.2.2.1).2.2
    rw [x1.2.1, Int.toNat_natCast, ts, w]
    refine ck_ix (by omega) (put _ ?_)
    rw [hR, if_pos e]
theorem LCS49.ct {K PL : Nat → Nat} {VL : Nat → Int} {t d : Nat} {E : List Int} {S : List Nat} {g : aH} (X : LCS49 K PL VL t S d E g) : LCT49 K PL VL t S d E g := ⟨X.1, X.2.1, X.2.2.1, X.2.2.2.1, X.2.2.2.2.1, X.2.2.2.2.2.1⟩
theorem c_putSign49 {N : Nat} {C : Int → aH → Prop} {K PL : Nat → Nat} {VL : Nat → Int} {t d : Nat} {E : List Int} {S : List Nat} {g : aH} (X : LCS49 K PL VL t S d E g) (hk : (21 ≤ K t ∧ K t ≤ 25) ∨ K t = 30) (hC : ∀ r g', LOUT49 K PL VL t (LTK false (K t) (VL t) S d E) g r g' → C r g') : WI N 61 0 [(0, .inr (.inr 35)), (1, .inr (.inr 49)), (2, .inl (K t : Int))] g C := by
  have hR : LTK false (K t) (VL t) S d E = (if K t = 25 ∨ K t = 30 then LTt (K t) S d E (popW 21 S).2 (popW 21 S).1
     else (0, true, K t :: (popW (if K t = 23 ∨ K t = 24 then 23 else 21) S).1, d, E ++ (popW (if K t = 23 ∨ K t = 24 then 23 else 21) S).2)) := by
    unfold LTK
    rw [if_neg (by decide), if_pos hk]
  -- behind all that waited
  have p24 : ∀ (x3 x4 : Int) (lo : Nat), (x3 = 0 ∧ lo = 21) ∨ (x3 ≠ 0 ∧ lo = 23) → lo = (if K t = 23 ∨ K t = 24 then 23 else 21) → (x4 = 1 ∧ (K t = 25 ∨ K t = 30)) ∨ (x4 = 0 ∧ ¬ (K t = 25 ∨ K t = 30)) → WI N 61 24 [(0, .inr (.inr 35)), (1, .inr (.inr 49)), (2, .inl (K t : Int)), (3, .inl x3), (4, .inl x4)] g C := by
    intro x3 x4 lo hl el o
    refine w_61_24_r35_49 (c_putWaiting49 X hl (fun g1 f1 X1 => ?_))
    have push : ∀ (S' : List Nat) g2, F5 [57, 49, 50] [7, 8, 11, 12] g g2 → LCS49 K PL VL t S' d (E ++ (popW lo S).2) g2 → LTK false (K t) (VL t) S d E = (0, true, K t :: S', d, E ++ (popW lo S).2) → WI N 61 39 [(0, .inr (.inr 35)), (2, .inl (K t : Int))] g2 C := by
      intro S' g2 f2 X2 eR
      refine w_61_39 (c_pushSign49 X2 (fun g3 f3 Y => ck_t1 (hC 1 g3 ⟨f2.trans (f3.mono (by decide) (by decide)), Or.inr ⟨rfl, ?_⟩⟩)))
      rw [eR]
      exact ⟨Or.inl rfl, Y⟩
    have F1 : F5 [57, 49, 50] [7, 8, 11, 12] g g1 := f1.mono (by decide) (by decide)
    refine ⟨fun z => ?_, fun z => ?_⟩
    · rcases o with ⟨o, _⟩ | ⟨_, o⟩
      · omega
      · refine push _ g1 F1 X1 ?_
        rw [hR, if_neg o, ← el]
    · rcases o with ⟨_, o⟩ | ⟨o, _⟩
      · have lo21 : lo = 21 := by rw [el, if_neg (by omega)]
        subst lo21
        rw [if_pos o] at hR
        refine c_closes49 (k := 28) X1 (fun S2 g2 e2 f2 X2 => ⟨fun _ => push S2 g2 (F1.trans (f2.mono (by decide) (by decide))) X2 ?_, fun q => absurd (by decide) q⟩) (fun n g2 f2 X2 => ⟨fun q => absurd rfl q, fun _ => c_fail (n := 1) X2.1 (fun g3 f3 e3 => ck_t0 (hC 0 g3 ⟨F1.trans ((f2.mono (by decide) (by decide)).trans (f3.mono (by decide) (by decide))), Or.inl ⟨rfl, ?_⟩⟩))⟩)
        · rw [hR, e2]
          exact LTt_y rfl
        · have : LTK false (K t) (VL t) S d E = (1, true, S, d, E) := by
            rw [hR]
            cases hs : (popW 21 S).1 with
            | nil => rfl
            | cons s S2 => exact LTt_n (fun q => n S2 (by rw [hs, q]))
          rw [this]
          exact ⟨Or.inl rfl, e3⟩
      · exact absurd o z
  have p12 : ∀ (x3 : Int) (lo : Nat), (x3 = 0 ∧ lo = 21) ∨ (x3 ≠ 0 ∧ lo = 23) → lo = (if K t = 23 ∨ K t = 24 then 23 else 21) → WI N 61 12 [(0, .inr (.inr 35)), (1, .inr (.inr 49)), (2, .inl (K t : Int)), (3, .inl x3)] g C := by
    intro x3 lo hl el
    refine w_61_12_r35_49 ⟨fun e => w_61_19_r35_49 (p24 x3 1 lo hl el (Or.inl ⟨rfl, Or.inl (by omega)⟩)), fun n1 => ⟨fun n2 => p24 x3 0 lo hl el (Or.inr ⟨rfl, by omega⟩), fun e => w_61_19_r35_49 (p24 x3 1 lo hl el (Or.inl ⟨rfl, Or.inr (by have := Classical.byContradiction e; omega)⟩))⟩⟩
  refine w_61_0_r35_49 ⟨fun e => w_61_7_r35_49 (p12 1 23 (Or.inr ⟨by decide, rfl⟩) (by rw [if_pos (Or.inl (by omega))])), fun n1 => ⟨fun n2 => p12 0 21 (Or.inl ⟨rfl, rfl⟩) (by rw [if_neg (by omega)]), fun e => w_61_7_r35_49 (p12 1 23 (Or.inr ⟨by decide, rfl⟩) (by rw [if_pos (Or.inr (by have := Classical.byContradiction e; omega))]))⟩⟩
theorem c_close49 {N : Nat} {C : Int → aH → Prop} {K PL : Nat → Nat} {VL : Nat → Int} {t d : Nat} {E : List Int} {S : List Nat} {g : aH} (X : LCS49 K PL VL t S d E g) (hb : d = brk S) (hk : ¬ ((21 ≤ K t ∧ K t ≤ 25) ∨ K t = 30)) (hC : ∀ r g', LOUT49 K PL VL t (LTK false (K t) (VL t) S d E) g r g' → C r g') : WI N 64 0 [(0, .inr (.inr 35)), (1, .inr (.inr 49)), (2, .inl (K t : Int))] g C := by
  have hR : LTK false (K t) (VL t) S d E = LTc (K t) S d E (popW 21 S).2 (popW 21 S).1 := by
    unfold LTK
    rw [if_neg (by decide), if_neg hk]
  have hbp := brk_popW (lo := 21) (by decide) S
  have dmx : d ≤ 400 := by
    have := brk_le S
    have := X.2.2.2.2.2.2
    omega
  refine w_64_0_r35_49 (c_putWaiting49 (lo := 21) X (Or.inl ⟨rfl, rfl⟩) (fun g1 f1 X1 => ?_))
  obtain ⟨S1, hS1⟩ : ∃ S1, S1 = (popW 21 S).1 := ⟨_, rfl⟩
  obtain ⟨e1, he1⟩ : ∃ e1, e1 = (popW 21 S).2 := ⟨_, rfl⟩
  rw [← hS1, ← he1] at X1 hR
  rw [← hS1] at hbp
  have F1 : F5 [57, 49, 50] [7, 8, 11, 12] g g1 := f1.mono (by decide) (by decide)
  have bad : LTK false (K t) (VL t) S d E = (1, true, S, d, E) → ∀ g2, F5 [57, 49, 50] [7, 8, 11, 12] g g2 → CSQ K PL VL t g2 → WI N 46 0 [(0, .inr (.inr 35)), (1, .inl 1)] g2 (fun r2 h2 => (am_tf r2 ∧ C r2 h2)) := by
    intro e g2 f2 s2
    refine c_fail (n := 1) s2 (fun g3 f3 e3 => ck_t0 (hC 0 g3 ⟨f2.trans (f3.mono (by decide) (by decide)), Or.inl ⟨rfl, ?_⟩⟩))
    rw [e]
    exact ⟨Or.inl rfl, e3⟩
  -- the end of a test
  have p57 : ∀ (s : Nat) (S2 : List Nat) g2, S1 = s :: S2 → K t = 29 → (s = 25 ∨ s = 30) → F5 [57, 49, 50] [7, 8, 11, 12] g g2 → LCS49 K PL VL t S2 d (E ++ e1) g2 → WI N 64 57 [(0, .inr (.inr 35)), (1, .inr (.inr 49)), (3, .inl (s : Int))] g2 C := by
    intro s S2 g2 e k29 o f2 X2
    have d1 : 1 ≤ d := by
      rw [e, brk_n (by omega)] at hbp
      omega
    rw [e, LTc_2 (by omega) ⟨k29, o⟩] at hR
    obtain ⟨y1, y2, y3, y4, y5, y6, y7, y8⟩ := X2
    refine w_64_57_r35_49 (ck_rg (by omega) (c_lput49 y5 y6 (by omega) (fun g3 f3 l2 l3 l4 => ?_)))
    rw [f3.2 8 (by decide), y4]
    have f4 : F5 [] [8] g3 (am_up g3 35 8 ((d : Int) - 1)) := F5.rfl.upM (by decide)
    refine ck_rg (by omega) (ck_t1 (hC 1 _ ⟨f2.trans ((f3.mono (by decide) (by decide)).trans (f4.mono (by decide) (by decide))), Or.inr ⟨rfl, ?_⟩⟩))
    rw [hR]
    exact ⟨Or.inl rfl, (y1.mv f3 (by decide) (by decide)).mv f4 (by decide) (by decide), by rw [f4.2 7 (by decide), f3.2 7 (by decide)]; exact y2, by rw [f4.at 57 (by decide) (by decide), f3.at 57 (by decide) (by decide)]; exact y3, by rw [up_same]; dsimp only; omega, by rw [f4.at 49 (by decide) (by decide)]; exact l2, by rw [f4.at 50 (by decide) (by decide)]; exact l3⟩
  have p29 : ∀ g2, F5 [57, 49, 50] [7, 8, 11, 12] g g2 → LCS49 K PL VL t S1 d (E ++ e1) g2 → (S1 = [] → K t ≠ 20) → (∀ S2, S1 = 26 :: S2 → K t ≠ 27) → WI N 64 29 [(0, .inr (.inr 35)), (1, .inr (.inr 49)), (2, .inl (K t : Int))] g2 C := by
    intro g2 f2 X2 n20 n27
    refine w_64_29_r35_49 ⟨fun y29 => ?_, fun n29 => bad ?_ g2 f2 X2.1⟩
    · have k29 : K t = 29 := by omega
      refine c_closes49 (k := 25) X2 (fun S2 g3 e3 f3 X3 => ⟨fun z => absurd z (by decide), fun _ => w_64_45_r35_49 ⟨fun _ => p57 25 S2 g3 e3 k29 (Or.inl rfl) (f2.trans (f3.mono (by decide) (by decide))) X3, fun z => absurd (by decide) z⟩⟩) (fun n25 g3 f3 X3 => ⟨fun _ => w_64_45_r35_49 ⟨fun z => absurd rfl z, fun _ => ?_⟩, fun z => absurd rfl z⟩)
      refine c_closes49 (k := 30) X3 (fun S2 g4 e4 f4 X4 => ⟨fun _ => p57 30 S2 g4 e4 k29 (Or.inr rfl) (f2.trans ((f3.mono (by decide) (by decide)).trans (f4.mono (by decide) (by decide)))) X4, fun z => absurd (by decide) z⟩) (fun n30 g4 f4 X4 => ⟨fun z => absurd rfl z, fun _ => bad ?_ g4 (f2.trans ((f3.mono (by decide) (by decide)).trans (f4.mono (by decide) (by decide)))) X4.1⟩)
      rw [hR]
      cases hs : S1 with
      | nil => exact LTc_n0 (by omega)
      | cons s S2 =>
        refine LTc_n (by omega) (fun z => ?_)
        rcases z.2 with q | q
        · exact n25 S2 (by rw [hs, q])
        · exact n30 S2 (by rw [hs, q])
    · rw [hR]
      cases hs : S1 with
      | nil => exact LTc_n0 (n20 hs)
      | cons s S2 => exact LTc_n (fun z => n27 S2 (by rw [hs, z.2]) z.1) (fun z => n29 (by rw [z.1]; rfl))
  have p13 : (S1 = [] → K t ≠ 20) → WI N 64 13 [(0, .inr (.inr 35)), (1, .inr (.inr 49)), (2, .inl (K t : Int))] g1 C := by
    intro n20
    refine w_64_13_r35_49 ⟨fun n27 => p29 g1 F1 X1 n20 (fun S2 _ z => n27 (by rw [z]; rfl)), fun y27 => ?_⟩
    have k27 : K t = 27 := by have := Classical.byContradiction y27; omega
    refine c_closes49 (k := 26) X1 (fun S2 g3 e3 f3 X3 => ⟨fun z => absurd z (by decide), fun _ => ?_⟩) (fun n26 g3 f3 X3 => ⟨fun _ => p29 g3 (F1.trans (f3.mono (by decide) (by decide))) X3 n20 (fun S2 e => absurd e (n26 S2)), fun z => absurd rfl z⟩)
    have d1 : 1 ≤ d := by
      rw [e3, brk_n (by decide)] at hbp
      omega
    rw [e3, LTc_1 ⟨k27, rfl⟩] at hR
    obtain ⟨y1, y2, y3, y4, y5, y6, y7, y8⟩ := X3
    rw [y4]
    have f4 : F5 [] [8] g3 (am_up g3 35 8 ((d : Int) - 1)) := F5.rfl.upM (by decide)
    refine ck_rg (by omega) (ck_t1 (hC 1 _ ⟨F1.trans ((f3.mono (by decide) (by decide)).trans (f4.mono (by decide) (by decide))), Or.inr ⟨rfl, ?_⟩⟩))
    rw [hR]
    exact ⟨Or.inl rfl, y1.mv f4 (by decide) (by decide), by rw [f4.2 7 (by decide)]; exact y2, by rw [f4.at 57 (by decide) (by decide)]; exact y3, by rw [up_same]; dsimp only; omega, by rw [f4.at 49 (by decide) (by decide)]; exact y5, by rw [f4.at 50 (by decide) (by decide)]; exact y6⟩
  refine ⟨fun n20 => p13 (fun _ z => n20 (by rw [z]; rfl)), fun y20 => ?_⟩
  rw [X1.2.1]
  refine ⟨fun nw => p13 (fun e => by rw [e] at nw; exact absurd rfl nw), fun w0 => ck_t1 (hC 1 g1 ⟨F1, Or.inr ⟨rfl, ?_⟩⟩)⟩
  have e0 : S1 = [] := by
    have := Classical.byContradiction w0
    cases hs : S1 with
    | nil => rfl
    | cons s S2 => rw [hs, List.length_cons] at this; omega
  have k20 : K t = 20 := by have := Classical.byContradiction y20; omega
  rw [e0] at hR X1
  rw [LTc_0 k20] at hR
  rw [hR]
  exact ⟨Or.inr rfl, X1.ct⟩
/-- within a law, a TOKEN done but not gone past -/
def LCT52 (K PL : Nat → Nat) (VL : Nat → Int) (t : Nat) (S : List Nat) (d : Nat) (E : List Int) (g : aH) : Prop := CSQ K PL VL t g ∧ g 35 7 = (S.length : Int) ∧ stN (g 57) S ∧ g 35 8 = (d : Int) ∧ g 52 2 = (E.length : Int) ∧ stE (g 53) E
/-- what a TOKEN of a law leaves: a fault, or what it asks -/
def LOUT52 (K PL : Nat → Nat) (VL : Nat → Int) (t : Nat) (R : Nat × Bool × List Nat × Nat × List Int) (g : aH) (r : Int) (g' : aH) : Prop := F5 [57, 52, 53] [7, 8, 11, 12] g g' ∧ ((r = 0 ∧ (R.1 = 1 ∨ R.1 = 2) ∧ FLG PL R.1 t g') ∨ (r = 1 ∧ (R.1 = 0 ∨ R.1 = 3) ∧ LCT52 K PL VL t R.2.2.1 R.2.2.2.1 R.2.2.2.2 g'))
theorem c_brack52 {N : Nat} {C : Int → aH → Prop} {K PL : Nat → Nat} {VL : Nat → Int} {t d k : Nat} {v : Int} {E : List Int} {S : List Nat} {g : aH} (X : LCS52 K PL VL t S d E g) (hk : k = 26 ∨ k = 28) (hC : ∀ r g', LOUT52 K PL VL t (LTK true k v S d E) g r g' → C r g') : WI N 58 0 [(0, .inr (.inr 35)), (1, .inl (k : Int))] g C := by
  obtain ⟨x1, x2, x3, x4, x5, x6, x7, x8⟩ := X
  have hR : LTK true k v S d E = if 6 ≤ d then (2, true, S, d, E) else (0, true, k :: S, d + 1, E) := by
    unfold LTK
    rw [if_pos rfl, if_pos hk]
  refine w_58_0 ?_
  rw [x4]
  refine ⟨fun lt => ck_rg (by omega) ?_, fun ge => c_fail (n := 2) x1 (fun g' f e => ck_t0 (hC 0 g' ?_))⟩
  · rw [if_neg (by omega)] at hR
    have f1 : F5 [] [8] g (am_up g 35 8 ((d : Int) + 1)) := F5.rfl.upM (by decide)
    refine c_pushSign52 (d := d + 1) (E := E) (S := S) ⟨x1.mv f1 (by decide) (by decide), by rw [f1.2 7 (by decide)]; exact x2, by rw [f1.at 57 (by decide) (by decide)]; exact x3, by rw [up_same]; omega, by rw [f1.at 52 (by decide) (by decide)]; exact x5, by rw [f1.at 53 (by decide) (by decide)]; exact x6, x7, x8⟩ (fun g' f Y => ck_t1 (hC 1 g' ⟨(f1.mono (by decide) (by decide)).trans (f.mono (by decide) (by decide)), Or.inr ⟨rfl, ?_⟩⟩))
    rw [hR]
    exact ⟨Or.inl rfl, Y⟩
  · rw [if_pos (by omega)] at hR
    refine ⟨f.mono (by decide) (by decide), Or.inl ⟨rfl, ?_⟩⟩
    rw [hR]
    exact ⟨Or.inr rfl, e⟩
theorem c_putUnit52 {N : Nat} {C : Int → aH → Prop} {K PL : Nat → Nat} {VL : Nat → Int} {t d : Nat} {E : List Int} {S : List Nat} {g : aH} (Q : TOKP K PL VL) (X : LCS52 K PL VL t S d E g) (hk : ¬ (K t = 26 ∨ K t = 28)) (hC : ∀ r g', LOUT52 K PL VL t (LTK true (K t) (VL t) S d E) g r g' → C r g') : WI N 60 0 [(0, .inr (.inr 35)), (1, .inr (.inr 52)), (2, .inl (K t : Int))] g C := by
  obtain ⟨x1, x2, x3, x4, x5, x6, x7, x8⟩ := X
  have hR : LTK true (K t) (VL t) S d E = if K t = 19 then (0, false, S, d, E ++ [VL t]) else if K t ≤ 6 then (0, false, S, d, E ++ [-1 - (K t : Int)]) else (1, true, S, d, E) := by
    unfold LTK
    rw [if_pos rfl, if_neg hk]
  have k32 := Q.1 t
  have put : ∀ z : Int, LTK true (K t) (VL t) S d E = (0, false, S, d, E ++ [z]) → WV N 42 0 [(0, .inr (.inr 52)), (1, .inl z)] g (fun h1 => (am_tf (1 : Int) ∧ C 1 h1)) := by
    intro z hz
    refine c_lput52 x5 x6 (by omega) (fun g' f a b c => ck_t1 (hC 1 g' ⟨f.mono (by decide) (by decide), Or.inr ⟨rfl, ?_⟩⟩))
    rw [hz]
    exact ⟨Or.inl rfl, x1.mv f (by decide) (by decide), by rw [f.2 7 (by decide)]; exact x2, by rw [f.at 57 (by decide) (by decide)]; exact x3, by rw [f.2 8 (by decide)]; exact x4, a, b⟩
  refine w_60_0_r35_52 ⟨fun n19 => ⟨fun le => ck_rg (by omega) (put _ ?_), fun gt => c_fail (n := 1) x1 (fun g' f e => ck_t0 (hC 0 g' ⟨f.mono (by decide) (by decide), Or.inl ⟨rfl, ?_⟩⟩))⟩, fun y19 => ?_⟩
  · rw [hR, if_neg (fun z => n19 (by rw [z]; rfl)), if_pos (by omega)]
  · rw [hR, if_neg (fun z => n19 (by rw [z]; rfl)), if_neg (by omega)]
    exact ⟨Or.inl rfl, e⟩
  · have e : K t = 19 := by have := Classical.byContradiction y19; omega
    have vr := Q.2.2.1 t e
    have w : w32 (VL t) = VL t := by unfold w32; omega
    have ts := (x1.1 t x1.2.2.1 x1.2.2.2.1).2.2
    rw [x1.2.1, Int.toNat_natCast, ts, w]
    refine ck_ix (by omega) (put _ ?_)
    rw [hR, if_pos e]
theorem LCS52.ct {K PL : Nat → Nat} {VL : Nat → Int} {t d : Nat} {E : List Int} {S : List Nat} {g : aH} (X : LCS52 K PL VL t S d E g) : LCT52 K PL VL t S d E g := ⟨X.1, X.2.1, X.2.2.1, X.2.2.2.1, X.2.2.2.2.1, X.2.2.2.2.2.1⟩
theorem c_putSign52 {N : Nat} {C : Int → aH → Prop} {K PL : Nat → Nat} {VL : Nat → Int} {t d : Nat} {E : List Int} {S : List Nat} {g : aH} (X : LCS52 K PL VL t S d E g) (hk : (21 ≤ K t ∧ K t ≤ 25) ∨ K t = 30) (hC : ∀ r g', LOUT52 K PL VL t (LTK false (K t) (VL t) S d E) g r g' → C r g') : WI N 61 0 [(0, .inr (.inr 35)), (1, .inr (.inr 52)), (2, .inl (K t : Int))] g C := by
  have hR : LTK false (K t) (VL t) S d E = (if K t = 25 ∨ K t = 30 then LTt (K t) S d E (popW 21 S).2 (popW 21 S).1
     else (0, true, K t :: (popW (if K t = 23 ∨ K t = 24 then 23 else 21) S).1, d, E ++ (popW (if K t = 23 ∨ K t = 24 then 23 else 21) S).2)) := by
    unfold LTK
    rw [if_neg (by decide), if_pos hk]
  -- behind all that waited
  have p24 : ∀ (x3 x4 : Int) (lo : Nat), (x3 = 0 ∧ lo = 21) ∨ (x3 ≠ 0 ∧ lo = 23) → lo = (if K t = 23 ∨ K t = 24 then 23 else 21) → (x4 = 1 ∧ (K t = 25 ∨ K t = 30)) ∨ (x4 = 0 ∧ ¬ (K t = 25 ∨ K t = 30)) → WI N 61 24 [(0, .inr (.inr 35)), (1, .inr (.inr 52)), (2, .inl (K t : Int)), (3, .inl x3), (4, .inl x4)] g C := by
    intro x3 x4 lo hl el o
    refine w_61_24_r35_52 (c_putWaiting52 X hl (fun g1 f1 X1 => ?_))
    have push : ∀ (S' : List Nat) g2, F5 [57, 52, 53] [7, 8, 11, 12] g g2 → LCS52 K PL VL t S' d (E ++ (popW lo S).2) g2 → LTK false (K t) (VL t) S d E = (0, true, K t :: S', d, E ++ (popW lo S).2) → WI N 61 39 [(0, .inr (.inr 35)), (2, .inl (K t : Int))] g2 C := by
      intro S' g2 f2 X2 eR
      refine w_61_39 (c_pushSign52 X2 (fun g3 f3 Y => ck_t1 (hC 1 g3 ⟨f2.trans (f3.mono (by decide) (by decide)), Or.inr ⟨rfl, ?_⟩⟩)))
      rw [eR]
      exact ⟨Or.inl rfl, Y⟩
    have F1 : F5 [57, 52, 53] [7, 8, 11, 12] g g1 := f1.mono (by decide) (by decide)
    refine ⟨fun z => ?_, fun z => ?_⟩
    · rcases o with ⟨o, _⟩ | ⟨_, o⟩
      · omega
      · refine push _ g1 F1 X1 ?_
        rw [hR, if_neg o, ← el]
    · rcases o with ⟨_, o⟩ | ⟨o, _⟩
      · have lo21 : lo = 21 := by rw [el, if_neg (by omega)]
        subst lo21
        rw [if_pos o] at hR
        refine c_closes52 (k := 28) X1 (fun S2 g2 e2 f2 X2 => ⟨fun _ => push S2 g2 (F1.trans (f2.mono (by decide) (by decide))) X2 ?_, fun q => absurd (by decide) q⟩) (fun n g2 f2 X2 => ⟨fun q => absurd rfl q, fun _ => c_fail (n := 1) X2.1 (fun g3 f3 e3 => ck_t0 (hC 0 g3 ⟨F1.trans ((f2.mono (by decide) (by decide)).trans (f3.mono (by decide) (by decide))), Or.inl ⟨rfl, ?_⟩⟩))⟩)
        · rw [hR, e2]
          exact LTt_y rfl
        · have : LTK false (K t) (VL t) S d E = (1, true, S, d, E) := by
            rw [hR]
            cases hs : (popW 21 S).1 with
            | nil => rfl
            | cons s S2 => exact LTt_n (fun q => n S2 (by rw [hs, q]))
          rw [this]
          exact ⟨Or.inl rfl, e3⟩
      · exact absurd o z
  have p12 : ∀ (x3 : Int) (lo : Nat), (x3 = 0 ∧ lo = 21) ∨ (x3 ≠ 0 ∧ lo = 23) → lo = (if K t = 23 ∨ K t = 24 then 23 else 21) → WI N 61 12 [(0, .inr (.inr 35)), (1, .inr (.inr 52)), (2, .inl (K t : Int)), (3, .inl x3)] g C := by
    intro x3 lo hl el
    refine w_61_12_r35_52 ⟨fun e => w_61_19_r35_52 (p24 x3 1 lo hl el (Or.inl ⟨rfl, Or.inl (by omega)⟩)), fun n1 => ⟨fun n2 => p24 x3 0 lo hl el (Or.inr ⟨rfl, by omega⟩), fun e => w_61_19_r35_52 (p24 x3 1 lo hl el (Or.inl ⟨rfl, Or.inr (by have := Classical.byContradiction e; omega)⟩))⟩⟩
  refine w_61_0_r35_52 ⟨fun e => w_61_7_r35_52 (p12 1 23 (Or.inr ⟨by decide, rfl⟩) (by rw [if_pos (Or.inl (by omega))])), fun n1 => ⟨fun n2 => p12 0 21 (Or.inl ⟨rfl, rfl⟩) (by rw [if_neg (by omega)]), fun e => w_61_7_r35_52 (p12 1 23 (Or.inr ⟨by decide, rfl⟩) (by rw [if_pos (Or.inr (by have := Classical.byContradiction e; omega))]))⟩⟩
theorem c_close52 {N : Nat} {C : Int → aH → Prop} {K PL : Nat → Nat} {VL : Nat → Int} {t d : Nat} {E : List Int} {S : List Nat} {g : aH} (X : LCS52 K PL VL t S d E g) (hb : d = brk S) (hk : ¬ ((21 ≤ K t ∧ K t ≤ 25) ∨ K t = 30)) (hC : ∀ r g', LOUT52 K PL VL t (LTK false (K t) (VL t) S d E) g r g' → C r g') : WI N 64 0 [(0, .inr (.inr 35)), (1, .inr (.inr 52)), (2, .inl (K t : Int))] g C := by
  have hR : LTK false (K t) (VL t) S d E = LTc (K t) S d E (popW 21 S).2 (popW 21 S).1 := by
    unfold LTK
    rw [if_neg (by decide), if_neg hk]
  have hbp := brk_popW (lo := 21) (by decide) S
  have dmx : d ≤ 400 := by
    have := brk_le S
    have := X.2.2.2.2.2.2
    omega
  refine w_64_0_r35_52 (c_putWaiting52 (lo := 21) X (Or.inl ⟨rfl, rfl⟩) (fun g1 f1 X1 => ?_))
  obtain ⟨S1, hS1⟩ : ∃ S1, S1 = (popW 21 S).1 := ⟨_, rfl⟩
  obtain ⟨e1, he1⟩ : ∃ e1, e1 = (popW 21 S).2 := ⟨_, rfl⟩
  rw [← hS1, ← he1] at X1 hR
  rw [← hS1] at hbp
  have F1 : F5 [57, 52, 53] [7, 8, 11, 12] g g1 := f1.mono (by decide) (by decide)
  have bad : LTK false (K t) (VL t) S d E = (1, true, S, d, E) → ∀ g2, F5 [57, 52, 53] [7, 8, 11, 12] g g2 → CSQ K PL VL t g2 → WI N 46 0 [(0, .inr (.inr 35)), (1, .inl 1)] g2 (fun r2 h2 => (am_tf r2 ∧ C r2 h2)) := by
    intro e g2 f2 s2
    refine c_fail (n := 1) s2 (fun g3 f3 e3 => ck_t0 (hC 0 g3 ⟨f2.trans (f3.mono (by decide) (by decide)), Or.inl ⟨rfl, ?_⟩⟩))
    rw [e]
    exact ⟨Or.inl rfl, e3⟩
  -- the end of a test
  have p57 : ∀ (s : Nat) (S2 : List Nat) g2, S1 = s :: S2 → K t = 29 → (s = 25 ∨ s = 30) → F5 [57, 52, 53] [7, 8, 11, 12] g g2 → LCS52 K PL VL t S2 d (E ++ e1) g2 → WI N 64 57 [(0, .inr (.inr 35)), (1, .inr (.inr 52)), (3, .inl (s : Int))] g2 C := by
    intro s S2 g2 e k29 o f2 X2
    have d1 : 1 ≤ d := by
      rw [e, brk_n (by omega)] at hbp
      omega
    rw [e, LTc_2 (by omega) ⟨k29, o⟩] at hR
    obtain ⟨y1, y2, y3, y4, y5, y6, y7, y8⟩ := X2
    refine w_64_57_r35_52 (ck_rg (by omega) (c_lput52 y5 y6 (by omega) (fun g3 f3 l2 l3 l4 => ?_)))
    rw [f3.2 8 (by decide), y4]
    have f4 : F5 [] [8] g3 (am_up g3 35 8 ((d : Int) - 1)) := F5.rfl.upM (by decide)
    refine ck_rg (by omega) (ck_t1 (hC 1 _ ⟨f2.trans ((f3.mono (by decide) (by decide)).trans (f4.mono (by decide) (by decide))), Or.inr ⟨rfl, ?_⟩⟩))
    rw [hR]
    exact ⟨Or.inl rfl, (y1.mv f3 (by decide) (by decide)).mv f4 (by decide) (by decide), by rw [f4.2 7 (by decide), f3.2 7 (by decide)]; exact y2, by rw [f4.at 57 (by decide) (by decide), f3.at 57 (by decide) (by decide)]; exact y3, by rw [up_same]; dsimp only; omega, by rw [f4.at 52 (by decide) (by decide)]; exact l2, by rw [f4.at 53 (by decide) (by decide)]; exact l3⟩
  have p29 : ∀ g2, F5 [57, 52, 53] [7, 8, 11, 12] g g2 → LCS52 K PL VL t S1 d (E ++ e1) g2 → (S1 = [] → K t ≠ 20) → (∀ S2, S1 = 26 :: S2 → K t ≠ 27) → WI N 64 29 [(0, .inr (.inr 35)), (1, .inr (.inr 52)), (2, .inl (K t : Int))] g2 C := by
    intro g2 f2 X2 n20 n27
    refine w_64_29_r35_52 ⟨fun y29 => ?_, fun n29 => bad ?_ g2 f2 X2.1⟩
    · have k29 : K t = 29 := by omega
      refine c_closes52 (k := 25) X2 (fun S2 g3 e3 f3 X3 => ⟨fun z => absurd z (by decide), fun _ => w_64_45_r35_52 ⟨fun _ => p57 25 S2 g3 e3 k29 (Or.inl rfl) (f2.trans (f3.mono (by decide) (by decide))) X3, fun z => absurd (by decide) z⟩⟩) (fun n25 g3 f3 X3 => ⟨fun _ => w_64_45_r35_52 ⟨fun z => absurd rfl z, fun _ => ?_⟩, fun z => absurd rfl z⟩)
      refine c_closes52 (k := 30) X3 (fun S2 g4 e4 f4 X4 => ⟨fun _ => p57 30 S2 g4 e4 k29 (Or.inr rfl) (f2.trans ((f3.mono (by decide) (by decide)).trans (f4.mono (by decide) (by decide)))) X4, fun z => absurd (by decide) z⟩) (fun n30 g4 f4 X4 => ⟨fun z => absurd rfl z, fun _ => bad ?_ g4 (f2.trans ((f3.mono (by decide) (by decide)).trans (f4.mono (by decide) (by decide)))) X4.1⟩)
      rw [hR]
      cases hs : S1 with
      | nil => exact LTc_n0 (by omega)
      | cons s S2 =>
        refine LTc_n (by omega) (fun z => ?_)
        rcases z.2 with q | q
        · exact n25 S2 (by rw [hs, q])
        · exact n30 S2 (by rw [hs, q])
    · rw [hR]
      cases hs : S1 with
      | nil => exact LTc_n0 (n20 hs)
      | cons s S2 => exact LTc_n (fun z => n27 S2 (by rw [hs, z.2]) z.1) (fun z => n29 (by rw [z.1]; rfl))
  have p13 : (S1 = [] → K t ≠ 20) → WI N 64 13 [(0, .inr (.inr 35)), (1, .inr (.inr 52)), (2, .inl (K t : Int))] g1 C := by
    intro n20
    refine w_64_13_r35_52 ⟨fun n27 => p29 g1 F1 X1 n20 (fun S2 _ z => n27 (by rw [z]; rfl)), fun y27 => ?_⟩
    have k27 : K t = 27 := by have := Classical.byContradiction y27; omega
    refine c_closes52 (k := 26) X1 (fun S2 g3 e3 f3 X3 => ⟨fun z => absurd z (by decide), fun _ => ?_⟩) (fun n26 g3 f3 X3 => ⟨fun _ => p29 g3 (F1.trans (f3.mono (by decide) (by decide))) X3 n20 (fun S2 e => absurd e (n26 S2)), fun z => absurd rfl z⟩)
    have d1 : 1 ≤ d := by
      rw [e3, brk_n (by decide)] at hbp
      omega
    rw [e3, LTc_1 ⟨k27, rfl⟩] at hR
    obtain ⟨y1, y2, y3, y4, y5, y6, y7, y8⟩ := X3
    rw [y4]
    have f4 : F5 [] [8] g3 (am_up g3 35 8 ((d : Int) - 1)) := F5.rfl.upM (by decide)
    refine ck_rg (by omega) (ck_t1 (hC 1 _ ⟨F1.trans ((f3.mono (by decide) (by decide)).trans (f4.mono (by decide) (by decide))), Or.inr ⟨rfl, ?_⟩⟩))
    rw [hR]
    exact ⟨Or.inl rfl, y1.mv f4 (by decide) (by decide), by rw [f4.2 7 (by decide)]; exact y2, by rw [f4.at 57 (by decide) (by decide)]; exact y3, by rw [up_same]; dsimp only; omega, by rw [f4.at 52 (by decide) (by decide)]; exact y5, by rw [f4.at 53 (by decide) (by decide)]; exact y6⟩
  refine ⟨fun n20 => p13 (fun _ z => n20 (by rw [z]; rfl)), fun y20 => ?_⟩
  rw [X1.2.1]
  refine ⟨fun nw => p13 (fun e => by rw [e] at nw; exact absurd rfl nw), fun w0 => ck_t1 (hC 1 g1 ⟨F1, Or.inr ⟨rfl, ?_⟩⟩)⟩
  have e0 : S1 = [] := by
    have := Classical.byContradiction w0
    cases hs : S1 with
    | nil => rfl
    | cons s S2 => rw [hs, List.length_cons] at this; omega
  have k20 : K t = 20 := by have := Classical.byContradiction y20; omega
  rw [e0] at hR X1
  rw [LTc_0 k20] at hR
  rw [hR]
  exact ⟨Or.inr rfl, X1.ct⟩
