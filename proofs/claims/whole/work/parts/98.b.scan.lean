/-! read: the class's TOKENS -/
def SGB (j : Nat) : Int := [59, 43, 45, 42, 47, 60, 40, 41, 91, 93].getD j 0
/-- what the constructors laid for reading -/
def okWrd (h : aH) : Prop := (∀ j, j < 18 → h 12 j = WRD j) ∧ h 6 1 = 0 ∧ ∀ j, j < 10 → h 7 j = SGB j
/-- one TOKEN more -/
def PUTK (h1 : aH) (T kd pl : Nat) (vl : Int) (nx : Nat) (h' : aH) : Prop := Fr [10, 13, 14, 15] [] h1 h' ∧ h' 10 5 = h1 10 5 ∧ h' 10 6 = (nx : Int) ∧ h' 10 7 = (T : Int) + 1 ∧ (h' 13 T = (kd : Int) ∧ h' 14 T = (pl : Int) ∧ h' 15 T = vl) ∧ ∀ j, j < T → h' 13 j = h1 13 j ∧ h' 14 j = h1 14 j ∧ h' 15 j = h1 15 j
theorem c_tput {N : Nat} {C : aH → Prop} {h : aH} {T kd pl : Nat} {vl : Int} (hT : h 10 7 = (T : Int)) (T2 : T < 402) (hC : ∀ h', Fr [10, 13, 14, 15] [] h h' → h' 10 5 = h 10 5 → h' 10 6 = h 10 6 → h' 10 7 = (T : Int) + 1 → (h' 13 T = (kd : Int) ∧ h' 14 T = (pl : Int) ∧ h' 15 T = vl) → (∀ j, j < T → h' 13 j = h 13 j ∧ h' 14 j = h 14 j ∧ h' 15 j = h 15 j) → C h') : WV N 29 0 [(0, .inr (.inr 10)), (1, .inl (kd : Int)), (2, .inl (pl : Int)), (3, .inr (.inl vl))] h C := by
  refine w_29_0 ?_
  rw [hT]
  refine ck_rg (by omega) ⟨fun z => by omega, fun _ => ck_ix (by omega) (ck_ix (by omega) (ck_ix (by omega) (ck_rg (by omega) ?_)))⟩
  rw [Int.toNat_natCast]
  refine hC _ ((((Fr.rfl.up (by decide) (by decide)).up (by decide) (by decide)).up (by decide) (by decide)).up (by decide) (by decide)) ?_ ?_ ?_ ⟨?_, ?_, ?_⟩ (fun j hj => ⟨?_, ?_, ?_⟩)
  · simp [up_in, up_row]
  · simp [up_in, up_row]
  · simp [up_in, up_row]
  · simp [up_in, up_row]
  · simp [up_in, up_row]
  · simp [up_in, up_row]
  · simp [up_in, up_row, show j ≠ T by omega]
  · simp [up_in, up_row, show j ≠ T by omega]
  · simp [up_in, up_row, show j ≠ T by omega]
theorem c_isLetter {N : Nat} {C : Int → aH → Prop} {h : aH} {b : Int} (y : isLtr b → C 1 h) (n : ¬ isLtr b → C 0 h) : WI N 30 0 [(0, .inl b)] h C :=
  w_30_0 ⟨fun _ => ck_t0 (n (fun z => by have := z.1; omega)), fun _ => ⟨fun _ => ck_t0 (n (fun z => by have := z.2; omega)), fun _ => ck_t1 (y ⟨by omega, by omega⟩)⟩⟩
theorem c_isDigit {N : Nat} {C : Int → aH → Prop} {h : aH} {b : Int} (y : isDgt b → C 1 h) (n : ¬ isDgt b → C 0 h) : WI N 32 0 [(0, .inl b)] h C :=
  w_32_0 ⟨fun _ => ck_t0 (n (fun z => by have := z.1; omega)), fun _ => ⟨fun _ => ck_t0 (n (fun z => by have := z.2; omega)), fun _ => ck_t1 (y ⟨by omega, by omega⟩)⟩⟩
theorem c_isBlank {N : Nat} {C : Int → aH → Prop} {h : aH} {b : Int} (y : isBlk b → C 1 h) (n : ¬ isBlk b → C 0 h) : WI N 28 0 [(0, .inl b)] h C :=
  w_28_0 ⟨fun e => ck_t1 (y (Or.inl e)), fun e1 => ⟨fun e => ck_t1 (y (Or.inr (Or.inl e))), fun e2 => ⟨fun e => ck_t1 (y (Or.inr (Or.inr (Or.inl e)))), fun e3 => ⟨fun e => ck_t0 (n (fun z => by unfold isBlk at z; omega)), fun e => ck_t1 (y (Or.inr (Or.inr (Or.inr (Classical.byContradiction e)))))⟩⟩⟩⟩
theorem rnL_y {B : Nat → Int} {d i : Nat} (c : isLtr (B i)) : rnL B (d + 1) i = rnL B d (i + 1) + 1 := if_pos c
theorem rnL_n {B : Nat → Int} {d i : Nat} (c : ¬ isLtr (B i)) : rnL B (d + 1) i = 0 := if_neg c
theorem rnD_y {B : Nat → Int} {d i : Nat} (c : isDgt (B i)) : rnD B (d + 1) i = rnD B d (i + 1) + 1 := if_pos c
theorem rnD_n {B : Nat → Int} {d i : Nat} (c : ¬ isDgt (B i)) : rnD B (d + 1) i = 0 := if_neg c
/-- only the place where reading stands has moved -/
def NXB (h1 h' : aH) : Prop := Fr [10] [] h1 h' ∧ ∀ j, j ≠ 6 → h' 10 j = h1 10 j
theorem NXB.rfl {h : aH} : NXB h h := ⟨Fr.rfl, fun _ _ => Eq.refl _⟩
theorem NXB.up {h1 h' : aH} (n : NXB h1 h') (v : Int) : NXB h1 (am_up h' 10 6 v) := ⟨n.1.up (by decide) (by decide), fun j hj => by rw [up_ne hj]; exact n.2 j hj⟩
theorem c_l59 {N : Nat} {C : Int → aH → Prop} {h : aH} {T i : Nat} {c : Int} (W : okWrd h) (hT : h 10 7 = (T : Int)) (T2 : T < 402) (hc : 0 ≤ c ∧ c < 282429536481) (hC : ∀ h', Fr [10, 13, 14, 15] [] h h' → h' 10 5 = h 10 5 → h' 10 6 = h 10 6 → h' 10 7 = (T : Int) + 1 → (h' 13 T = ((wixF c 18 0 : Nat) : Int) ∧ h' 14 T = (i : Int) ∧ h' 15 T = c) → (∀ j, j < T → h' 13 j = h 13 j ∧ h' 14 j = h 14 j ∧ h' 15 j = h 15 j) → C 1 h') : ∀ (d j : Nat), j + d = 18 → wixF c 18 0 = wixF c d j →
    WI N 31 59 [(0, .inr (.inr 10)), (1, .inl (i : Int)), (2, .inr (.inl c)), (4, .inl 18), (5, .inl (j : Int))] h C := by
  have fin : ∀ (x5 : Int) (k : Nat), k = wixF c 18 0 → (18 ≤ x5 ∨ k ≠ 18) → WI N 31 59 [(0, .inr (.inr 10)), (1, .inl (i : Int)), (2, .inr (.inl c)), (4, .inl (k : Int)), (5, .inl x5)] h C := by
    intro x5 k e o
    have p := c_tput (N := N) (C := fun h' => am_tf (1 : Int) ∧ C 1 h') (kd := k) (pl := i) (vl := c) hT T2 (fun h' a b c' d e1 f => ck_t1 (hC h' a b c' d (by rw [← e]; exact e1) f))
    exact w_31_59 ⟨fun _ => p, fun z => ⟨fun _ => p, fun y => by omega⟩⟩
  intro d
  induction d with
  | zero =>
    intro j hj e
    exact fin _ 18 (by rw [e]; rfl) (Or.inl (by omega))
  | succ d ih =>
    intro j hj e
    have wr := W.1 j (by omega)
    have wb : 0 ≤ WRD j ∧ WRD j < 282429536481 := by
      have : ∀ j, j < 18 → 0 ≤ WRD j ∧ WRD j < 282429536481 := by decide
      exact this j (by omega)
    refine w_31_59 ⟨fun z => by omega, fun _ => ⟨fun z => absurd rfl z, fun _ => ck_ix (by omega) ?_⟩⟩
    rw [Int.toNat_natCast, wr]
    refine ⟨fun ne => ck_rg (by omega) (ih (j + 1) (by omega) ?_), fun eq => ck_rg (by omega) ?_⟩
    · rw [e]
      unfold wixF
      rw [if_neg (fun z => ne (sgn_eq.mpr (by omega)))]
      rw [show wixF c d (j + 1) = wixF c d (j + 1) from rfl]
      cases d <;> rfl
    · have q : WRD j = c := by have := sgn_eq.mp (Classical.byContradiction eq); omega
      refine fin _ j ?_ (Or.inr (by omega))
      rw [e]
      exact (if_pos q).symm
theorem c_scanLetters {N : Nat} {C : Int → aH → Prop} {h : aH} {L T i : Nat} (W : okWrd h) (hL : h 10 5 = (L : Int)) (L2 : L ≤ 2000) (hn : h 10 6 = (i : Int)) (iL : i < L) (hT : h 10 7 = (T : Int)) (T2 : T < 402) (lt : isLtr (h 11 i)) (hC : ∀ v h', (v = if tkd (h 11) L i < 31 then 1 else 0) → PUTK h T (tkd (h 11) L i) i (tvl (h 11) L i) (ten (h 11) L i) h' → C v h') : WI N 31 0 [(0, .inr (.inr 10))] h C := by
  obtain ⟨B, hB⟩ : ∃ B, B = h 11 := ⟨_, rfl⟩
  rw [← hB] at lt hC
  obtain ⟨ek, ev, ee⟩ := tk_L iL lt
  have lin := rnL_in B (L - i) i
  have lle := rnL_rg B (L - i) i
  obtain ⟨n, hn2⟩ : ∃ n, n = rnL B (L - i) i := ⟨_, rfl⟩
  rw [← hn2] at ek ev ee lin lle
  have fin : ∀ h1, NXB h h1 → h1 10 6 = ((i + n : Nat) : Int) → (((h1 10 6) - (i : Int)) ≤ 8 → WI N 31 59 [(0, .inr (.inr 10)), (1, .inl (i : Int)), (2, .inr (.inl (cde B i n))), (4, .inl 18), (5, .inl 0)] h1 C) ∧ (¬ (((h1 10 6) - (i : Int)) ≤ 8) → WV N 29 0 [(0, .inr (.inr 10)), (1, .inl 32), (2, .inl (i : Int)), (3, .inr (.inl 0))] h1 (fun h2 => (am_tf (0 : Int) ∧ C 0 h2))) := by
    intro h1 x e1
    have t1 : h1 10 7 = (T : Int) := by rw [x.2 7 (by decide)]; exact hT
    have pk : ∀ {h' : aH} {kd : Nat} {vl : Int}, Fr [10, 13, 14, 15] [] h1 h' → h' 10 5 = h1 10 5 → h' 10 6 = h1 10 6 → h' 10 7 = (T : Int) + 1 → (h' 13 T = (kd : Int) ∧ h' 14 T = (i : Int) ∧ h' 15 T = vl) → (∀ j, j < T → h' 13 j = h1 13 j ∧ h' 14 j = h1 14 j ∧ h' 15 j = h1 15 j) → PUTK h T kd i vl (i + n) h' := by
      intro h' kd vl a b c d e g
      refine ⟨(x.1.mono (by decide) (by decide)).trans a, by rw [b, x.2 5 (by decide)], by rw [c, e1], d, e, fun j hj => ?_⟩
      have := g j hj
      rw [x.1.at 13 (by decide) (by decide), x.1.at 14 (by decide) (by decide), x.1.at 15 (by decide) (by decide)] at this
      exact this
    refine ⟨fun le => ?_, fun gt => ?_⟩
    · have n8 : n ≤ 8 := by omega
      rw [if_pos n8] at ek ev
      have w1 : okWrd h1 := by
        obtain ⟨a, b, c⟩ := W
        refine ⟨fun j hj => by rw [x.1.at 12 (by decide) (by decide)]; exact a j hj, by rw [x.1.at 6 (by decide) (by decide)]; exact b, fun j hj => by rw [x.1.at 7 (by decide) (by decide)]; exact c j hj⟩
      refine c_l59 w1 t1 T2 (cde_hi lin) (fun h' a b c d e g => hC 1 h' ?_ ?_) 18 0 rfl rfl
      · have := (wixF_le (cde B i n) 18 0 rfl).1
        rw [ek, if_pos (by omega)]
      · rw [ek, ev, ee]; exact pk a b c d e g
    · have n8 : ¬ n ≤ 8 := by omega
      rw [if_neg n8] at ek ev
      refine c_tput (kd := 32) (pl := i) t1 T2 (fun h' a b c d e g => ck_t0 (hC 0 h' ?_ ?_))
      · rw [ek]; rfl
      · rw [ek, ev, ee]; exact pk a b c d e g
  have key : ∀ (d k : Nat) (h1 : aH), d = L - (i + k) → i + k ≤ L → NXB h h1 → h1 10 6 = ((i + k : Nat) : Int) → n = k + rnL B d (i + k) → WI N 31 6 [(0, .inr (.inr 10)), (1, .inl (i : Int)), (2, .inr (.inl (cde B i k)))] h1 C := by
    intro d
    induction d with
    | zero =>
      intro k h1 hd hk x e1 e2
      have nk : n = k := e2
      have l1 : h1 10 5 = (L : Int) := by rw [x.2 5 (by decide)]; exact hL
      have f := fin h1 x (by rw [e1, nk])
      rw [nk] at f
      refine w_31_6 ⟨fun _ => ck_rg (by omega) f, fun z => by omega⟩
    | succ d ih =>
      intro k h1 hd hk x e1 e2
      have l1 : h1 10 5 = (L : Int) := by rw [x.2 5 (by decide)]; exact hL
      have by1 : h1 11 = B := by rw [hB]; exact x.1.at 11 (by decide) (by decide)
      refine w_31_6 ⟨fun z => by omega, fun _ => ck_ix (by omega) ?_⟩
      rw [by1, e1, Int.toNat_natCast]
      refine c_isLetter (fun y => ⟨fun z => absurd z (by decide), fun _ => ck_rg (by omega) ?_⟩) (fun y => ⟨fun _ => ?_, fun z => absurd rfl z⟩)
      · rw [rnL_y y] at e2
        have ky : k < n := by omega
        have nx := ih (k + 1) (am_up h1 10 6 (((i + k : Nat) : Int) + 1)) (by omega) (by omega) (x.up _) (by rw [up_same]; omega) (by rw [show i + (k + 1) = i + k + 1 by omega]; omega)
        have cr := cde_hi (B := B) (i := i) (k := k) (fun j hj => lin j (by omega))
        have sc : cde B i (k + 1) = if k < 8 then cde B i k * 27 + (B (i + k) - 97 + 1) else cde B i k := rfl
        unfold isLtr at y
        simp only [e1, by1, Int.toNat_natCast]
        refine ⟨fun z => ck_rg (by omega) ?_, fun z => ck_ix (by omega) ?_⟩
        · rw [sc, if_neg (by omega)] at nx
          exact nx
        · rw [sc, if_pos (by omega)] at nx
          refine w_9_0 (ck_rl (by omega) (ck_rg (by omega) (ck_rg (by omega) (ck_rl (by omega) ?_))))
          rw [e1]
          exact ck_rg (by omega) nx
      · rw [rnL_n y] at e2
        have nk : n = k := e2
        have f := fin h1 x (by rw [e1, nk])
        rw [nk] at f
        rw [e1] at f
        rw [e1]
        exact ck_rg (by omega) f
  refine w_31_0 ?_
  rw [hn]
  exact key (L - i) 0 h rfl (by omega) NXB.rfl hn (by rw [Nat.add_zero]; omega)
theorem c_scanDigits {N : Nat} {C : Int → aH → Prop} {h : aH} {L T i : Nat} (hL : h 10 5 = (L : Int)) (L2 : L ≤ 2000) (hn : h 10 6 = (i : Int)) (iL : i < L) (hT : h 10 7 = (T : Int)) (T2 : T < 402) (lt : isDgt (h 11 i)) (hC : ∀ v h', (v = if tkd (h 11) L i < 31 then 1 else 0) → PUTK h T (tkd (h 11) L i) i (tvl (h 11) L i) (ten (h 11) L i) h' → C v h') : WI N 33 0 [(0, .inr (.inr 10))] h C := by
  obtain ⟨B, hB⟩ : ∃ B, B = h 11 := ⟨_, rfl⟩
  rw [← hB] at lt hC
  obtain ⟨ek, ev, ee⟩ := tk_D iL lt
  have lin := rnD_in B (L - i) i
  have lle := rnD_rg B (L - i) i
  obtain ⟨n, hn2⟩ : ∃ n, n = rnD B (L - i) i := ⟨_, rfl⟩
  rw [← hn2] at ek ev ee lin lle
  have fin : ∀ h1, NXB h h1 → h1 10 6 = ((i + n : Nat) : Int) → WI N 33 47 [(0, .inr (.inr 10)), (1, .inl (i : Int)), (2, .inl (vle B i n))] h1 C := by
    intro h1 x e1
    have t1 : h1 10 7 = (T : Int) := by rw [x.2 7 (by decide)]; exact hT
    have pk : ∀ {h' : aH} {kd : Nat} {vl : Int}, Fr [10, 13, 14, 15] [] h1 h' → h' 10 5 = h1 10 5 → h' 10 6 = h1 10 6 → h' 10 7 = (T : Int) + 1 → (h' 13 T = (kd : Int) ∧ h' 14 T = (i : Int) ∧ h' 15 T = vl) → (∀ j, j < T → h' 13 j = h1 13 j ∧ h' 14 j = h1 14 j ∧ h' 15 j = h1 15 j) → PUTK h T kd i vl (i + n) h' := by
      intro h' kd vl a b c d e g
      refine ⟨(x.1.mono (by decide) (by decide)).trans a, by rw [b, x.2 5 (by decide)], by rw [c, e1], d, e, fun j hj => ?_⟩
      have := g j hj
      rw [x.1.at 13 (by decide) (by decide), x.1.at 14 (by decide) (by decide), x.1.at 15 (by decide) (by decide)] at this
      exact this
    refine w_33_47 ?_
    rw [e1]
    refine ck_rg (by omega) ⟨fun gt => w_33_58 ⟨fun _ => ?_, fun z => absurd rfl z⟩, fun le => w_33_58 ⟨fun z => absurd z (by decide), fun _ => ?_⟩⟩
    · rw [if_neg (by omega)] at ek
      refine c_tput (kd := 32) (pl := i) t1 T2 (fun h' a b c d e g => w_33_69 (ck_t0 (hC 0 h' (by rw [ek]; rfl) ?_)))
      rw [ek, ev, ee]; exact pk a b c d e g
    · rw [if_pos (by omega)] at ek
      refine c_tput (kd := 19) (pl := i) t1 T2 (fun h' a b c d e g => w_33_69 (ck_t1 (hC 1 h' (by rw [ek]; rfl) ?_)))
      rw [ek, ev, ee]; exact pk a b c d e g
  have key : ∀ (d k : Nat) (h1 : aH), d = L - (i + k) → i + k ≤ L → NXB h h1 → h1 10 6 = ((i + k : Nat) : Int) → n = k + rnD B d (i + k) → WI N 33 6 [(0, .inr (.inr 10)), (1, .inl (i : Int)), (2, .inl (vle B i k))] h1 C := by
    intro d
    induction d with
    | zero =>
      intro k h1 hd hk x e1 e2
      have nk : n = k := e2
      have l1 : h1 10 5 = (L : Int) := by rw [x.2 5 (by decide)]; exact hL
      have f := fin h1 x (by rw [e1, nk])
      rw [nk] at f
      exact w_33_6 ⟨fun _ => f, fun z => by omega⟩
    | succ d ih =>
      intro k h1 hd hk x e1 e2
      have l1 : h1 10 5 = (L : Int) := by rw [x.2 5 (by decide)]; exact hL
      have by1 : h1 11 = B := by rw [hB]; exact x.1.at 11 (by decide) (by decide)
      refine w_33_6 ⟨fun z => by omega, fun _ => ck_ix (by omega) ?_⟩
      rw [by1, e1, Int.toNat_natCast]
      refine c_isDigit (fun y => ⟨fun z => absurd z (by decide), fun _ => ck_rg (by omega) ?_⟩) (fun y => ⟨fun _ => ?_, fun z => absurd rfl z⟩)
      · rw [rnD_y y] at e2
        have ky : k < n := by omega
        have nx := ih (k + 1) (am_up h1 10 6 (((i + k : Nat) : Int) + 1)) (by omega) (by omega) (x.up _) (by rw [up_same]; omega) (by rw [show i + (k + 1) = i + k + 1 by omega]; omega)
        have cr := vle_hi (B := B) (i := i) (k := k) (fun j hj => lin j (by omega))
        have sc : vle B i (k + 1) = if k < 4 then vle B i k * 10 + (B (i + k) - 48) else vle B i k := rfl
        unfold isDgt at y
        simp only [e1, by1, Int.toNat_natCast]
        refine ⟨fun z => w_33_39 ?_, fun z => ck_rg (by omega) (ck_ix (by omega) (ck_rg (by omega) (ck_rg (by omega) (w_33_39 ?_))))⟩
        · rw [e1]
          rw [sc, if_neg (by omega)] at nx
          exact ck_rg (by omega) nx
        · rw [e1]
          rw [sc, if_pos (by omega)] at nx
          exact ck_rg (by omega) nx
      · rw [rnD_n y] at e2
        have nk : n = k := e2
        have f := fin h1 x (by rw [e1, nk])
        rw [nk] at f
        exact f
  refine w_33_0 ?_
  rw [hn]
  exact key (L - i) 0 h rfl (by omega) NXB.rfl hn (by rw [Nat.add_zero]; omega)
