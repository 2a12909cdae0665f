/-! read: the class is told a law, to its end -/
theorem LTK_k {u : Bool} {k d : Nat} {v : Int} {S : List Nat} {E : List Int} : ((LTK u k v S d E).1 = 0 → k ≠ 20 ∧ k < 31) ∧ ((LTK u k v S d E).1 = 3 → k = 20) ∧ ((LTK u k v S d E).1 = 0 ∨ (LTK u k v S d E).1 = 3 → (LTK u k v S d E).2.2.1.length + (LTK u k v S d E).2.2.2.2.length ≤ S.length + E.length + 1) := by
  unfold LTK
  have l21 := popW_len 21 S
  by_cases hu : u = true
  · rw [if_pos hu]
    by_cases c1 : k = 26 ∨ k = 28
    · rw [if_pos c1]
      by_cases c2 : 6 ≤ d
      · rw [if_pos c2]
        exact ⟨fun z => (by cases z), ⟨fun z => (by cases z), fun z => by rcases z with z | z <;> cases z⟩⟩
      · rw [if_neg c2]
        exact ⟨fun z => by omega, ⟨fun z => (by cases z), fun _ => by dsimp only; rw [List.length_cons]; omega⟩⟩
    · rw [if_neg c1]
      by_cases c2 : k = 19
      · rw [if_pos c2]
        exact ⟨fun z => by omega, ⟨fun z => (by cases z), fun _ => by dsimp only; rw [List.length_append, List.length_singleton]; omega⟩⟩
      · rw [if_neg c2]
        by_cases c3 : k ≤ 6
        · rw [if_pos c3]
          exact ⟨fun z => by omega, ⟨fun z => (by cases z), fun _ => by dsimp only; rw [List.length_append, List.length_singleton]; omega⟩⟩
        · rw [if_neg c3]
          exact ⟨fun z => (by cases z), ⟨fun z => (by cases z), fun z => by rcases z with z | z <;> cases z⟩⟩
  · rw [if_neg hu]
    by_cases c1 : (21 ≤ k ∧ k ≤ 25) ∨ k = 30
    · rw [if_pos c1]
      by_cases c2 : k = 25 ∨ k = 30
      · rw [if_pos c2]
        cases hs : (popW 21 S).1 with
        | nil => exact ⟨fun z => (by cases z), ⟨fun z => (by cases z), fun z => by rcases z with z | z <;> cases z⟩⟩
        | cons s S2 =>
          rw [hs, List.length_cons] at l21
          by_cases c3 : s = 28
          · rw [LTt_y c3]
            exact ⟨fun z => by omega, ⟨fun z => (by cases z), fun _ => by dsimp only; rw [List.length_append, List.length_cons]; omega⟩⟩
          · rw [LTt_n c3]
            exact ⟨fun z => (by cases z), ⟨fun z => (by cases z), fun z => by rcases z with z | z <;> cases z⟩⟩
      · rw [if_neg c2]
        have ll := popW_len (if k = 23 ∨ k = 24 then 23 else 21) S
        exact ⟨fun z => by omega, ⟨fun z => (by cases z), fun _ => by dsimp only; rw [List.length_append, List.length_cons]; omega⟩⟩
    · rw [if_neg c1]
      cases hs : (popW 21 S).1 with
      | nil =>
        rw [hs, List.length_nil] at l21
        by_cases c3 : k = 20
        · rw [LTc_0 c3]
          exact ⟨fun z => (by cases z), ⟨fun _ => c3, fun _ => by dsimp only; rw [List.length_append, List.length_nil]; omega⟩⟩
        · rw [LTc_n0 c3]
          exact ⟨fun z => (by cases z), ⟨fun z => (by cases z), fun z => by rcases z with z | z <;> cases z⟩⟩
      | cons s S2 =>
        rw [hs, List.length_cons] at l21
        by_cases c3 : k = 27 ∧ s = 26
        · rw [LTc_1 c3]
          exact ⟨fun z => by omega, ⟨fun z => (by cases z), fun _ => by dsimp only; rw [List.length_append]; omega⟩⟩
        · by_cases c4 : k = 29 ∧ (s = 25 ∨ s = 30)
          · rw [LTc_2 c3 c4]
            exact ⟨fun z => by omega, ⟨fun z => (by cases z), fun _ => by dsimp only; rw [List.length_append, List.length_append, List.length_singleton]; omega⟩⟩
          · rw [LTc_n c3 c4]
            exact ⟨fun z => (by cases z), ⟨fun z => (by cases z), fun z => by rcases z with z | z <;> cases z⟩⟩
def bUn (u : Bool) : Int := if u = true then 1 else 0
theorem LTK_u0 {k d : Nat} {v : Int} {S : List Nat} {E : List Int} (h : (LTK true k v S d E).1 = 0) : (LTK true k v S d E).2.1 = if k = 26 ∨ k = 28 then true else false := by
  unfold LTK at h ⊢
  rw [if_pos rfl] at h ⊢
  by_cases c1 : k = 26 ∨ k = 28
  · rw [if_pos c1] at h ⊢
    rw [if_pos c1]
    by_cases c2 : 6 ≤ d
    · rw [if_pos c2]
    · rw [if_neg c2]
  · rw [if_neg c1] at h ⊢
    rw [if_neg c1]
    by_cases c2 : k = 19
    · rw [if_pos c2]
    · rw [if_neg c2] at h ⊢
      by_cases c3 : k ≤ 6
      · rw [if_pos c3]
      · rw [if_neg c3] at h; cases h
theorem LTK_u1 {k d : Nat} {v : Int} {S : List Nat} {E : List Int} (h : (LTK false k v S d E).1 = 0) : (LTK false k v S d E).2.1 = if (21 ≤ k ∧ k ≤ 25) ∨ k = 30 then true else false := by
  unfold LTK at h ⊢
  rw [if_neg (by decide)] at h ⊢
  by_cases c1 : (21 ≤ k ∧ k ≤ 25) ∨ k = 30
  · rw [if_pos c1] at h ⊢
    rw [if_pos c1]
    by_cases c2 : k = 25 ∨ k = 30
    · rw [if_pos c2] at h ⊢
      cases hs : (popW 21 S).1 with
      | nil => rfl
      | cons s S2 =>
        by_cases c3 : s = 28
        · rw [LTt_y c3]
        · rw [LTt_n c3]
    · rw [if_neg c2]
  · rw [if_neg c1] at h ⊢
    rw [if_neg c1]
    cases hs : (popW 21 S).1 with
    | nil =>
      rw [hs] at h
      by_cases c3 : k = 20
      · rw [LTc_0 c3]
      · rw [LTc_n0 c3] at h; cases h
    | cons s S2 =>
      rw [hs] at h
      by_cases c3 : k = 27 ∧ s = 26
      · rw [LTc_1 c3]
      · by_cases c4 : k = 29 ∧ (s = 25 ∨ s = 30)
        · rw [LTc_2 c3 c4]
        · rw [LTc_n c3 c4] at h; cases h
/-- what a law leaves -/
def LRES49 (K PL : Nat → Nat) (VL : Nat → Int) (res : (Nat × Nat) ⊕ (List Int × Nat)) (r : Int) (g' : aH) : Prop := (∀ n q, res = .inl (n, q) → r = 0 ∧ FLG PL n q g') ∧ ∀ E' t', res = .inr (E', t') → r = 1 ∧ CSQ K PL VL t' g' ∧ g' 49 2 = (E'.length : Int) ∧ stE (g' 50) E'
theorem c_lr49 {N : Nat} {C : Int → aH → Prop} {K PL : Nat → Nat} {VL : Nat → Int} {g0 : aH} (Q : TOKP K PL VL) : ∀ (m : Nat) (u : Bool) (t : Nat) (S : List Nat) (d : Nat) (E : List Int) (g : aH) (i : Nat), F5 [57, 49, 50] [7, 8, 9, 11, 12] g0 g → LCS49 K PL VL t S d E g → d = brk S → 401 ≤ m + t → i ≤ t →
    (∀ r g', F5 [57, 49, 50] [7, 8, 9, 11, 12] g0 g' → LRES49 K PL VL (LR K VL m u t S d E) r g' → C r g') → WI N 57 17 [(0, .inr (.inr 35)), (1, .inr (.inr 49)), (2, .inl (bUn u)), (3, .inl 1), (4, .inl (i : Int))] g C
  | 0, u, t, S, d, E, g, i, f, X, hb, hm, hi, hC => by
    have := X.2.2.2.2.2.2.2
    omega
  | m + 1, u, t, S, d, E, g, i, f, X, hb, hm, hi, hC => by
    have t4 := X.2.2.2.2.2.2.2
    obtain ⟨R, hR⟩ : ∃ R, R = LTK u (K t) (VL t) S d E := ⟨_, rfl⟩
    have hLR : LR K VL (m + 1) u t S d E = (if R.1 = 1 ∨ R.1 = 2 then .inl (R.1, t) else if 400 ≤ t then .inl (2, t) else if R.1 = 3 then .inr (R.2.2.2.2, t + 1) else LR K VL m R.2.1 (t + 1) R.2.2.1 R.2.2.2.1 R.2.2.2.2) := by rw [hR]; rfl
    obtain ⟨lk0, lk3, lkl⟩ := LTK_k (u := u) (k := K t) (d := d) (v := VL t) (S := S) (E := E)
    have lkb := LTK_brk (u := u) (k := K t) (v := VL t) (E := E) hb
    rw [← hR] at lk0 lk3 lkl lkb
    -- it is over: no
    have over : ∀ (u' : Int) g', F5 [57, 49, 50] [7, 8, 9, 11, 12] g0 g' → (∀ r, r = 0 → LRES49 K PL VL (LR K VL (m + 1) u t S d E) r g') → WI N 57 91 [(0, .inr (.inr 35)), (1, .inr (.inr 49)), (2, .inl u'), (3, .inl 0), (4, .inl (i : Int)), (5, .inl (K t : Int))] g' C := by
      intro u' g' f' L
      have e := hC 0 g' f' (L 0 rfl)
      refine w_57_91_r35_49 ⟨fun _ => ck_rg (by omega) (w_57_17_r35_49 ⟨fun _ => w_57_98 (ck_t0 e), fun _ => ⟨fun _ => w_57_98 (ck_t0 e), fun z => absurd rfl z⟩⟩), fun _ => w_57_98 (ck_t0 e)⟩
    have p80 : ∀ (u' : Int) (r : Int) g', F5 [57, 49, 50] [7, 8, 11, 12] g g' → (R.1 = 0 → u' = bUn R.2.1) → ((r = 0 ∧ (R.1 = 1 ∨ R.1 = 2) ∧ FLG PL R.1 t g') ∨ (r = 1 ∧ (R.1 = 0 ∨ R.1 = 3) ∧ LCT49 K PL VL t R.2.2.1 R.2.2.2.1 R.2.2.2.2 g')) → WI N 57 80 [(0, .inr (.inr 35)), (1, .inr (.inr 49)), (2, .inl u'), (3, .inl r), (4, .inl (i : Int)), (5, .inl (K t : Int))] g' C := by
      intro u' r g' f' hu' o
      have F' : F5 [57, 49, 50] [7, 8, 9, 11, 12] g0 g' := f.trans (f'.mono (by decide) (by decide))
      rcases o with ⟨rfl, o1, o2⟩ | ⟨rfl, o1, o2⟩
      · refine w_57_80_r35_49 ⟨fun _ => w_57_88_r35_49 (over _ g' F' (fun r er => ⟨fun n q e => ?_, fun E' t' e => ?_⟩)), fun z => absurd rfl z⟩
        · rw [hLR, if_pos o1] at e
          injection e with e
          injection e with e1 e2
          subst e1 e2
          exact ⟨er, o2⟩
        · rw [hLR, if_pos o1] at e
          cases e
      · have n12 : ¬ (R.1 = 1 ∨ R.1 = 2) := by omega
        rw [if_neg n12] at hLR
        obtain ⟨y1, y2, y3, y4, y5, y6⟩ := o2
        have k31 : K t < 31 := by
          rcases o1 with z | z
          · exact (lk0 z).2
          · have := lk3 z; omega
        refine w_57_80_r35_49 ⟨fun z => absurd z (by decide), fun _ => c_goOn y1 k31 (fun lt g2 f2 s2 => ⟨fun z => absurd z (by decide), fun _ => ?_⟩) (fun ge g2 f2 e2 => ⟨fun _ => w_57_88_r35_49 (over _ g2 (F'.trans (f2.mono (by decide) (by decide))) (fun r er => ⟨fun n q e => ?_, fun E' t' e => ?_⟩)), fun z => absurd rfl z⟩)⟩
        · rw [if_neg (by omega)] at hLR
          have F2 : F5 [57, 49, 50] [7, 8, 9, 11, 12] g0 g2 := F'.trans (f2.mono (by decide) (by decide))
          rcases o1 with o1 | o1
          · rw [if_neg (by omega)] at hLR
            obtain ⟨k20, -⟩ := lk0 o1
            rw [hu' o1]
            refine w_57_91_r35_49 ⟨fun _ => ck_rg (by omega) ?_, fun z => by omega⟩
            have IH := c_lr49 (N := N) Q m R.2.1 (t + 1) R.2.2.1 R.2.2.2.1 R.2.2.2.2 g2 (i + 1) F2 ⟨s2, by rw [f2.2 7 (by decide)]; exact y2, by rw [f2.at 57 (by decide) (by decide)]; exact y3, by rw [f2.2 8 (by decide)]; exact y4, by rw [f2.at 49 (by decide) (by decide)]; exact y5, by rw [f2.at 50 (by decide) (by decide)]; exact y6, by have := lkl (Or.inl o1); have := X.2.2.2.2.2.2.1; omega, by omega⟩ (lkb o1) (by omega) (by omega) (fun r g' f3 L => hC r g' f3 (by rw [hLR]; exact L))
            exact IH
          · have k20 := lk3 o1
            rw [if_pos o1] at hLR
            refine w_57_91_r35_49 ⟨fun z => absurd (by rw [k20]; rfl) z, fun _ => w_57_98 (ck_t1 (hC 1 g2 F2 ⟨fun n q e => ?_, fun E' t' e => ?_⟩))⟩
            · rw [hLR] at e; cases e
            · rw [hLR] at e
              injection e with e
              injection e with e1 e2
              subst e1 e2
              exact ⟨rfl, s2, by rw [f2.at 49 (by decide) (by decide)]; exact y5, by rw [f2.at 50 (by decide) (by decide)]; exact y6⟩
        · rw [hLR, if_pos ge] at e
          injection e with e
          injection e with e1 e2
          subst e1 e2
          exact ⟨er, e2⟩
        · rw [hLR, if_pos ge] at e
          cases e
    refine w_57_17_r35_49 ⟨fun z => by omega, fun _ => ⟨fun z => absurd z (by decide), fun _ => c_kind X.1 ?_⟩⟩
    cases u with
    | true =>
      refine ⟨fun z => absurd z (by decide), fun _ => ?_⟩
      have brk1 : (K t = 26 ∨ K t = 28) → WI N 57 34 [(0, .inr (.inr 35)), (1, .inr (.inr 49)), (4, .inl (i : Int)), (5, .inl (K t : Int))] g C := by
        intro o
        refine w_57_34_r35_49 (w_57_39_r35_49 ⟨fun z => absurd z (by decide), fun _ => c_brack49 (v := VL t) X o (fun r g' L => p80 1 r g' L.1 (fun z => ?_) ?_)⟩)
        · rw [hR] at z ⊢
          rw [LTK_u0 z, if_pos o]; rfl
        · rw [hR]; exact L.2
      refine ⟨fun e => brk1 (Or.inl (by omega)), fun n26 => ⟨fun n28 => ?_, fun e => brk1 (Or.inr (by have := Classical.byContradiction e; omega))⟩⟩
      have no : ¬ (K t = 26 ∨ K t = 28) := by omega
      refine w_57_39_r35_49 ⟨fun _ => c_putUnit49 Q X no (fun r g' L => p80 0 r g' L.1 (fun z => ?_) ?_), fun z => absurd rfl z⟩
      · rw [hR] at z ⊢
        rw [LTK_u0 z, if_neg no]; rfl
      · rw [hR]; exact L.2
    | false =>
      refine ⟨fun _ => ?_, fun z => absurd rfl z⟩
      have sgn1 : ((21 ≤ K t ∧ K t ≤ 25) ∨ K t = 30) → WI N 57 62 [(0, .inr (.inr 35)), (1, .inr (.inr 49)), (4, .inl (i : Int)), (5, .inl (K t : Int))] g C := by
        intro o
        refine w_57_62_r35_49 (w_57_67_r35_49 ⟨fun z => absurd z (by decide), fun _ => c_putSign49 X o (fun r g' L => p80 1 r g' L.1 (fun z => ?_) ?_)⟩)
        · rw [hR] at z ⊢
          rw [LTK_u1 z, if_pos o]; rfl
        · rw [hR]; exact L.2
      have cls : ¬ (21 ≤ K t ∧ K t ≤ 25) → WI N 57 58 [(0, .inr (.inr 35)), (1, .inr (.inr 49)), (4, .inl (i : Int)), (5, .inl (K t : Int))] g C := by
        intro n
        refine w_57_58_r35_49 ⟨fun n30 => ?_, fun e => sgn1 (Or.inr (by have := Classical.byContradiction e; omega))⟩
        have no : ¬ ((21 ≤ K t ∧ K t ≤ 25) ∨ K t = 30) := by omega
        refine w_57_67_r35_49 ⟨fun _ => c_close49 X hb no (fun r g' L => p80 0 r g' L.1 (fun z => ?_) ?_), fun z => absurd rfl z⟩
        · rw [hR] at z ⊢
          rw [LTK_u1 z, if_neg no]; rfl
        · rw [hR]; exact L.2
      exact ⟨fun lt => cls (by omega), fun ge => ⟨fun le => sgn1 (Or.inl (by omega)), fun gt => cls (by omega)⟩⟩
/-- a law told, from its TOKEN on -/
def FLW49 (K : Nat → Nat) (VL : Nat → Int) (t : Nat) : (Nat × Nat) ⊕ (List Int × Nat) := if 400 ≤ t then .inl (2, t) else LR K VL 401 true (t + 1) [] 0 []
theorem c_tellLaw49 {N : Nat} {C : Int → aH → Prop} {K PL : Nat → Nat} {VL : Nat → Int} {t : Nat} {g : aH} (Q : TOKP K PL VL) (S : CSQ K PL VL t g) (k31 : K t < 31) (hC : ∀ r g', F5 [57, 49, 50] [7, 8, 9, 11, 12] g g' → LRES49 K PL VL (FLW49 K VL t) r g' → C r g') : WI N 57 0 [(0, .inr (.inr 35)), (1, .inr (.inr 49))] g C := by
  have f1 : F5 [57, 49, 50] [7, 8] g (am_up (am_up (am_up g 49 2 0) 35 7 0) 35 8 0) := ((F5.rfl.up (by decide) (by decide)).upM (by decide)).upM (by decide)
  refine w_57_0_r35_49 (c_goOn (S.mv f1 (by decide) (by decide)) k31 (fun lt g2 f2 s2 => ?_) (fun ge g2 f2 e2 => ?_))
  · have F2 : F5 [57, 49, 50] [7, 8, 9, 11, 12] g g2 := (f1.mono (by decide) (by decide)).trans (f2.mono (by decide) (by decide))
    have X : LCS49 K PL VL (t + 1) [] 0 [] g2 := by
      refine ⟨s2, ?_, trivial, ?_, ?_, fun i hi => absurd hi (Nat.not_lt_zero i), by simp, by omega⟩
      · rw [f2.2 7 (by decide), up_ne (by decide), up_same]; rfl
      · rw [f2.2 8 (by decide), up_same]; rfl
      · rw [f2.at 49 (by decide) (by decide), up_row (by decide), up_row (by decide), up_same]; rfl
    exact c_lr49 Q 401 true (t + 1) [] 0 [] g2 0 F2 X rfl (by omega) (by omega) (fun r g' f L => hC r g' f (by unfold FLW49; rw [if_neg (by omega)]; exact L))
  · refine w_57_17_r35_49 ⟨fun z => absurd z (by decide), fun _ => ⟨fun _ => w_57_98 (ck_t0 (hC 0 g2 ((f1.mono (by decide) (by decide)).trans (f2.mono (by decide) (by decide))) ⟨fun n q e => ?_, fun E' t' e => ?_⟩)), fun z => absurd rfl z⟩⟩
    · unfold FLW49 at e
      rw [if_pos ge] at e
      injection e with e
      injection e with e1 e2'
      subst e1 e2'
      exact ⟨rfl, e2⟩
    · unfold FLW49 at e
      rw [if_pos ge] at e
      cases e
/-- what a law leaves -/
def LRES52 (K PL : Nat → Nat) (VL : Nat → Int) (res : (Nat × Nat) ⊕ (List Int × Nat)) (r : Int) (g' : aH) : Prop := (∀ n q, res = .inl (n, q) → r = 0 ∧ FLG PL n q g') ∧ ∀ E' t', res = .inr (E', t') → r = 1 ∧ CSQ K PL VL t' g' ∧ g' 52 2 = (E'.length : Int) ∧ stE (g' 53) E'
theorem c_lr52 {N : Nat} {C : Int → aH → Prop} {K PL : Nat → Nat} {VL : Nat → Int} {g0 : aH} (Q : TOKP K PL VL) : ∀ (m : Nat) (u : Bool) (t : Nat) (S : List Nat) (d : Nat) (E : List Int) (g : aH) (i : Nat), F5 [57, 52, 53] [7, 8, 9, 11, 12] g0 g → LCS52 K PL VL t S d E g → d = brk S → 401 ≤ m + t → i ≤ t →
    (∀ r g', F5 [57, 52, 53] [7, 8, 9, 11, 12] g0 g' → LRES52 K PL VL (LR K VL m u t S d E) r g' → C r g') → WI N 57 17 [(0, .inr (.inr 35)), (1, .inr (.inr 52)), (2, .inl (bUn u)), (3, .inl 1), (4, .inl (i : Int))] g C
  | 0, u, t, S, d, E, g, i, f, X, hb, hm, hi, hC => by
    have := X.2.2.2.2.2.2.2
    omega
  | m + 1, u, t, S, d, E, g, i, f, X, hb, hm, hi, hC => by
    have t4 := X.2.2.2.2.2.2.2
    obtain ⟨R, hR⟩ : ∃ R, R = LTK u (K t) (VL t) S d E := ⟨_, rfl⟩
    have hLR : LR K VL (m + 1) u t S d E = (if R.1 = 1 ∨ R.1 = 2 then .inl (R.1, t) else if 400 ≤ t then .inl (2, t) else if R.1 = 3 then .inr (R.2.2.2.2, t + 1) else LR K VL m R.2.1 (t + 1) R.2.2.1 R.2.2.2.1 R.2.2.2.2) := by rw [hR]; rfl
    obtain ⟨lk0, lk3, lkl⟩ := LTK_k (u := u) (k := K t) (d := d) (v := VL t) (S := S) (E := E)
    have lkb := LTK_brk (u := u) (k := K t) (v := VL t) (E := E) hb
    rw [← hR] at lk0 lk3 lkl lkb
    -- it is over: no
    have over : ∀ (u' : Int) g', F5 [57, 52, 53] [7, 8, 9, 11, 12] g0 g' → (∀ r, r = 0 → LRES52 K PL VL (LR K VL (m + 1) u t S d E) r g') → WI N 57 91 [(0, .inr (.inr 35)), (1, .inr (.inr 52)), (2, .inl u'), (3, .inl 0), (4, .inl (i : Int)), (5, .inl (K t : Int))] g' C := by
      intro u' g' f' L
      have e := hC 0 g' f' (L 0 rfl)
      refine w_57_91_r35_52 ⟨fun _ => ck_rg (by omega) (w_57_17_r35_52 ⟨fun _ => w_57_98 (ck_t0 e), fun _ => ⟨fun _ => w_57_98 (ck_t0 e), fun z => absurd rfl z⟩⟩), fun _ => w_57_98 (ck_t0 e)⟩
    have p80 : ∀ (u' : Int) (r : Int) g', F5 [57, 52, 53] [7, 8, 11, 12] g g' → (R.1 = 0 → u' = bUn R.2.1) → ((r = 0 ∧ (R.1 = 1 ∨ R.1 = 2) ∧ FLG PL R.1 t g') ∨ (r = 1 ∧ (R.1 = 0 ∨ R.1 = 3) ∧ LCT52 K PL VL t R.2.2.1 R.2.2.2.1 R.2.2.2.2 g')) → WI N 57 80 [(0, .inr (.inr 35)), (1, .inr (.inr 52)), (2, .inl u'), (3, .inl r), (4, .inl (i : Int)), (5, .inl (K t : Int))] g' C := by
      intro u' r g' f' hu' o
      have F' : F5 [57, 52, 53] [7, 8, 9, 11, 12] g0 g' := f.trans (f'.mono (by decide) (by decide))
      rcases o with ⟨rfl, o1, o2⟩ | ⟨rfl, o1, o2⟩
      · refine w_57_80_r35_52 ⟨fun _ => w_57_88_r35_52 (over _ g' F' (fun r er => ⟨fun n q e => ?_, fun E' t' e => ?_⟩)), fun z => absurd rfl z⟩
        · rw [hLR, if_pos o1] at e
          injection e with e
          injection e with e1 e2
          subst e1 e2
          exact ⟨er, o2⟩
        · rw [hLR, if_pos o1] at e
          cases e
      · have n12 : ¬ (R.1 = 1 ∨ R.1 = 2) := by omega
        rw [if_neg n12] at hLR
        obtain ⟨y1, y2, y3, y4, y5, y6⟩ := o2
        have k31 : K t < 31 := by
          rcases o1 with z | z
          · exact (lk0 z).2
          · have := lk3 z; omega
        refine w_57_80_r35_52 ⟨fun z => absurd z (by decide), fun _ => c_goOn y1 k31 (fun lt g2 f2 s2 => ⟨fun z => absurd z (by decide), fun _ => ?_⟩) (fun ge g2 f2 e2 => ⟨fun _ => w_57_88_r35_52 (over _ g2 (F'.trans (f2.mono (by decide) (by decide))) (fun r er => ⟨fun n q e => ?_, fun E' t' e => ?_⟩)), fun z => absurd rfl z⟩)⟩
        · rw [if_neg (by omega)] at hLR
          have F2 : F5 [57, 52, 53] [7, 8, 9, 11, 12] g0 g2 := F'.trans (f2.mono (by decide) (by decide))
          rcases o1 with o1 | o1
          · rw [if_neg (by omega)] at hLR
            obtain ⟨k20, -⟩ := lk0 o1
            rw [hu' o1]
            refine w_57_91_r35_52 ⟨fun _ => ck_rg (by omega) ?_, fun z => by omega⟩
            have IH := c_lr52 (N := N) Q m R.2.1 (t + 1) R.2.2.1 R.2.2.2.1 R.2.2.2.2 g2 (i + 1) F2 ⟨s2, by rw [f2.2 7 (by decide)]; exact y2, by rw [f2.at 57 (by decide) (by decide)]; exact y3, by rw [f2.2 8 (by decide)]; exact y4, by rw [f2.at 52 (by decide) (by decide)]; exact y5, by rw [f2.at 53 (by decide) (by decide)]; exact y6, by have := lkl (Or.inl o1); have := X.2.2.2.2.2.2.1; omega, by omega⟩ (lkb o1) (by omega) (by omega) (fun r g' f3 L => hC r g' f3 (by rw [hLR]; exact L))
            exact IH
          · have k20 := lk3 o1
            rw [if_pos o1] at hLR
            refine w_57_91_r35_52 ⟨fun z => absurd (by rw [k20]; rfl) z, fun _ => w_57_98 (ck_t1 (hC 1 g2 F2 ⟨fun n q e => ?_, fun E' t' e => ?_⟩))⟩
            · rw [hLR] at e; cases e
            · rw [hLR] at e
              injection e with e
              injection e with e1 e2
              subst e1 e2
              exact ⟨rfl, s2, by rw [f2.at 52 (by decide) (by decide)]; exact y5, by rw [f2.at 53 (by decide) (by decide)]; exact y6⟩
        · rw [hLR, if_pos ge] at e
          injection e with e
          injection e with e1 e2
          subst e1 e2
          exact ⟨er, e2⟩
        · rw [hLR, if_pos ge] at e
          cases e
    refine w_57_17_r35_52 ⟨fun z => by omega, fun _ => ⟨fun z => absurd z (by decide), fun _ => c_kind X.1 ?_⟩⟩
    cases u with
    | true =>
      refine ⟨fun z => absurd z (by decide), fun _ => ?_⟩
      have brk1 : (K t = 26 ∨ K t = 28) → WI N 57 34 [(0, .inr (.inr 35)), (1, .inr (.inr 52)), (4, .inl (i : Int)), (5, .inl (K t : Int))] g C := by
        intro o
        refine w_57_34_r35_52 (w_57_39_r35_52 ⟨fun z => absurd z (by decide), fun _ => c_brack52 (v := VL t) X o (fun r g' L => p80 1 r g' L.1 (fun z => ?_) ?_)⟩)
        · rw [hR] at z ⊢
          rw [LTK_u0 z, if_pos o]; rfl
        · rw [hR]; exact L.2
      refine ⟨fun e => brk1 (Or.inl (by omega)), fun n26 => ⟨fun n28 => ?_, fun e => brk1 (Or.inr (by have := Classical.byContradiction e; omega))⟩⟩
      have no : ¬ (K t = 26 ∨ K t = 28) := by omega
      refine w_57_39_r35_52 ⟨fun _ => c_putUnit52 Q X no (fun r g' L => p80 0 r g' L.1 (fun z => ?_) ?_), fun z => absurd rfl z⟩
      · rw [hR] at z ⊢
        rw [LTK_u0 z, if_neg no]; rfl
      · rw [hR]; exact L.2
    | false =>
      refine ⟨fun _ => ?_, fun z => absurd rfl z⟩
      have sgn1 : ((21 ≤ K t ∧ K t ≤ 25) ∨ K t = 30) → WI N 57 62 [(0, .inr (.inr 35)), (1, .inr (.inr 52)), (4, .inl (i : Int)), (5, .inl (K t : Int))] g C := by
        intro o
        refine w_57_62_r35_52 (w_57_67_r35_52 ⟨fun z => absurd z (by decide), fun _ => c_putSign52 X o (fun r g' L => p80 1 r g' L.1 (fun z => ?_) ?_)⟩)
        · rw [hR] at z ⊢
          rw [LTK_u1 z, if_pos o]; rfl
        · rw [hR]; exact L.2
      have cls : ¬ (21 ≤ K t ∧ K t ≤ 25) → WI N 57 58 [(0, .inr (.inr 35)), (1, .inr (.inr 52)), (4, .inl (i : Int)), (5, .inl (K t : Int))] g C := by
        intro n
        refine w_57_58_r35_52 ⟨fun n30 => ?_, fun e => sgn1 (Or.inr (by have := Classical.byContradiction e; omega))⟩
        have no : ¬ ((21 ≤ K t ∧ K t ≤ 25) ∨ K t = 30) := by omega
        refine w_57_67_r35_52 ⟨fun _ => c_close52 X hb no (fun r g' L => p80 0 r g' L.1 (fun z => ?_) ?_), fun z => absurd rfl z⟩
        · rw [hR] at z ⊢
          rw [LTK_u1 z, if_neg no]; rfl
        · rw [hR]; exact L.2
      exact ⟨fun lt => cls (by omega), fun ge => ⟨fun le => sgn1 (Or.inl (by omega)), fun gt => cls (by omega)⟩⟩
/-- a law told, from its TOKEN on -/
def FLW52 (K : Nat → Nat) (VL : Nat → Int) (t : Nat) : (Nat × Nat) ⊕ (List Int × Nat) := if 400 ≤ t then .inl (2, t) else LR K VL 401 true (t + 1) [] 0 []
theorem c_tellLaw52 {N : Nat} {C : Int → aH → Prop} {K PL : Nat → Nat} {VL : Nat → Int} {t : Nat} {g : aH} (Q : TOKP K PL VL) (S : CSQ K PL VL t g) (k31 : K t < 31) (hC : ∀ r g', F5 [57, 52, 53] [7, 8, 9, 11, 12] g g' → LRES52 K PL VL (FLW52 K VL t) r g' → C r g') : WI N 57 0 [(0, .inr (.inr 35)), (1, .inr (.inr 52))] g C := by
  have f1 : F5 [57, 52, 53] [7, 8] g (am_up (am_up (am_up g 52 2 0) 35 7 0) 35 8 0) := ((F5.rfl.up (by decide) (by decide)).upM (by decide)).upM (by decide)
  refine w_57_0_r35_52 (c_goOn (S.mv f1 (by decide) (by decide)) k31 (fun lt g2 f2 s2 => ?_) (fun ge g2 f2 e2 => ?_))
  · have F2 : F5 [57, 52, 53] [7, 8, 9, 11, 12] g g2 := (f1.mono (by decide) (by decide)).trans (f2.mono (by decide) (by decide))
    have X : LCS52 K PL VL (t + 1) [] 0 [] g2 := by
      refine ⟨s2, ?_, trivial, ?_, ?_, fun i hi => absurd hi (Nat.not_lt_zero i), by simp, by omega⟩
      · rw [f2.2 7 (by decide), up_ne (by decide), up_same]; rfl
      · rw [f2.2 8 (by decide), up_same]; rfl
      · rw [f2.at 52 (by decide) (by decide), up_row (by decide), up_row (by decide), up_same]; rfl
    exact c_lr52 Q 401 true (t + 1) [] 0 [] g2 0 F2 X rfl (by omega) (by omega) (fun r g' f L => hC r g' f (by unfold FLW52; rw [if_neg (by omega)]; exact L))
  · refine w_57_17_r35_52 ⟨fun z => absurd z (by decide), fun _ => ⟨fun _ => w_57_98 (ck_t0 (hC 0 g2 ((f1.mono (by decide) (by decide)).trans (f2.mono (by decide) (by decide))) ⟨fun n q e => ?_, fun E' t' e => ?_⟩)), fun z => absurd rfl z⟩⟩
    · unfold FLW52 at e
      rw [if_pos ge] at e
      injection e with e
      injection e with e1 e2'
      subst e1 e2'
      exact ⟨rfl, e2⟩
    · unfold FLW52 at e
      rw [if_pos ge] at e
      cases e
