/-! read: the class splits the text -/
def KDT (h0 : aH) (L j : Nat) : Nat := tkd (h0 11) L (tps (h0 11) L j)
def PLT (h0 : aH) (L j : Nat) : Nat := tps (h0 11) L j
def VLT (h0 : aH) (L j : Nat) : Int := tvl (h0 11) L (tps (h0 11) L j)
theorem okWrd.mv {h h' : aH} (W : okWrd h) (e12 : h' 12 = h 12) (e6 : h' 6 = h 6) (e7 : h' 7 = h 7) : okWrd h' := by
  unfold okWrd at W ⊢
  rw [e12, e6, e7]; exact W
def okByt (h : aH) (L : Nat) : Prop := h 10 5 = (L : Int) ∧ L ≤ 2000 ∧ ∀ i, i < L → -128 ≤ h 11 i ∧ h 11 i < 128
theorem c_scan {N : Nat} {C : Int → aH → Prop} {h0 : aH} {L T : Nat} (W : okWrd h0) (Y : okByt h0 L) (T2 : T < 402) {h1 : aH} (K : TKN h0 L T h1) (hn : h1 10 6 = ((nxp (h0 11) L T : Nat) : Int)) (hC : ∀ v h', (v = if KDT h0 L T < 31 then 1 else 0) → TKN h0 L (T + 1) h' → h' 10 6 = ((nxp (h0 11) L (T + 1) : Nat) : Int) → C v h') : WI N 27 0 [(0, .inr (.inr 10))] h1 C := by
  obtain ⟨B, hB⟩ : ∃ B, B = h0 11 := ⟨_, rfl⟩
  obtain ⟨y1, y2, y3⟩ := Y
  have key : ∀ (d i : Nat) (h2 : aH), d = L - i → i ≤ L → TKN h0 L T h2 → h2 10 6 = (i : Int) → skB (h0 11) d i = tps (h0 11) L T → WI N 27 1 [(0, .inr (.inr 10))] h2 C := by
    intro d
    induction d with
    | zero =>
      intro i h2 hd hi K2 e1 e2
      have : i = L := by omega
      subst this
      have e2 : i = tps (h0 11) i T := e2
      obtain ⟨k1, k2, k3⟩ := tk_E (B := h0 11) (Nat.le_refl i)
      rw [e2] at k1 k2 k3
      rw [← e2] at k1 k2 k3
      have kd : KDT h0 i T = 31 := by unfold KDT; rw [← e2]; exact k1
      refine w_27_1 ⟨fun _ => ⟨fun z => by rw [K2.2.1, e1] at z; omega, fun _ => ?_⟩, fun z => by rw [K2.2.1, e1] at z; omega⟩
      rw [K2.2.1]
      refine c_tput (kd := 31) (pl := i) K2.2.2.1 T2 (fun h' a b c d e g => ck_t0 (hC 0 h' (by rw [kd]; rfl) (K2.put (nx := i) ⟨a, b, by rw [c, e1], d, ?_, g⟩) ?_))
      · rw [← e2, k1, k2]; exact e
      · rw [c, e1]
        show (i : Int) = ((ten (h0 11) i (tps (h0 11) i T) : Nat) : Int)
        rw [← e2, k3]
    | succ d ih =>
      intro i h2 hd hi K2 e1 e2
      have iL : i < L := by omega
      have by2 : h2 11 = h0 11 := K2.1.at 11 (by decide) (by decide)
      have len := K2.2.1
      have W2 : okWrd h2 := W.mv (K2.1.at 12 (by decide) (by decide)) (K2.1.at 6 (by decide) (by decide)) (K2.1.at 7 (by decide) (by decide))
      refine w_27_1 ⟨fun z => by omega, fun _ => ck_ix (by omega) ?_⟩
      simp only [e1, by2, Int.toNat_natCast]
      refine c_isBlank (fun y => ⟨fun z => absurd z (by decide), fun _ => ?_⟩) (fun y => ⟨fun _ => ⟨fun _ => ?_, fun z => by omega⟩, fun z => absurd rfl z⟩)
      · have e3 : skB (h0 11) (d + 1) i = skB (h0 11) d (i + 1) := if_pos y
        rw [e3] at e2
        simp only [e1]
        refine ck_rg (by omega) (ih (i + 1) _ (by omega) (by omega) ?_ (by rw [up_same]; omega) e2)
        obtain ⟨a, b, c, d'⟩ := K2
        exact ⟨a.up (by decide) (by decide), by rw [up_ne (by decide)]; exact b, by rw [up_ne (by decide)]; exact c, fun j hj => by rw [up_row (by decide), up_row (by decide), up_row (by decide)]; exact d' j hj⟩
      · have e3 : skB (h0 11) (d + 1) i = i := if_neg y
        rw [e3] at e2
        have out : ∀ v h', (v = if tkd (h2 11) L i < 31 then 1 else 0) → PUTK h2 T (tkd (h2 11) L i) i (tvl (h2 11) L i) (ten (h2 11) L i) h' → am_tf v ∧ C v h' := by
          intro v h' ev P
          rw [by2, e2] at P
          refine ⟨?_, hC v h' ?_ (K2.put P) P.2.2.1⟩
          · rw [ev]
            split
            · exact Or.inr rfl
            · exact Or.inl rfl
          · rw [by2, e2] at ev; exact ev
        simp only [e1, by2, Int.toNat_natCast]
        refine ck_ix (by omega) (c_isLetter (fun l => ⟨fun z => absurd z (by decide), fun _ => ?_⟩) (fun l => ⟨fun _ => c_isDigit (fun g => ⟨fun z => absurd z (by decide), fun _ => ?_⟩) (fun g => ⟨fun _ => ?_, fun z => absurd rfl z⟩), fun z => absurd rfl z⟩))
        · exact c_scanLetters W2 len y2 e1 iL K2.2.2.1 T2 (by rw [by2]; exact l) out
        · exact c_scanDigits len y2 e1 iL K2.2.2.1 T2 (by rw [by2]; exact g) out
        · have := c_scanSign (N := N) (C := fun v h' => am_tf v ∧ C v h') W2 len y2 e1 iL K2.2.2.1 T2 (by rw [by2]; exact y3 i iL) (by rw [by2]; exact l) (by rw [by2]; exact g) out
          rw [by2] at this
          exact this
  exact w_27_0 (key _ _ h1 rfl (nxp_le _ _ _).1 K hn rfl)
/-- the class's TOKENS, as far as they are looked at -/
def TKF (h0 : aH) (L : Nat) (h1 : aH) : Prop := Fr [10, 13, 14, 15] [] h0 h1 ∧ h1 10 5 = (L : Int) ∧ ∀ j, j ≤ 400 → (∀ i, i < j → KDT h0 L i < 31) → h1 13 j = ((KDT h0 L j : Nat) : Int) ∧ h1 14 j = ((PLT h0 L j : Nat) : Int) ∧ h1 15 j = VLT h0 L j
theorem c_split {N : Nat} {C : aH → Prop} {h0 : aH} {L : Nat} (W : okWrd h0) (Y : okByt h0 L) (hC : ∀ h', TKF h0 L h' → C h') : WV N 26 0 [(0, .inr (.inr 10))] h0 C := by
  have fin0 : ∀ T h1, TKN h0 L T h1 → 1 ≤ T → ¬ KDT h0 L (T - 1) < 31 → TKF h0 L h1 := by
    intro T h1 K t1 n
    refine ⟨K.1, K.2.1, fun j hj e => K.2.2.2 j ?_⟩
    rcases Nat.lt_or_ge j T with y | y
    · exact y
    · exact absurd (e (T - 1) (by omega)) n
  have key : ∀ (d T : Nat) (h1 : aH) (m : Int), d = 401 - T → T ≤ 401 → TKN h0 L T h1 → h1 10 6 = ((nxp (h0 11) L T : Nat) : Int) → (m = 1 ∨ m = 0 ∧ 1 ≤ T ∧ ¬ KDT h0 L (T - 1) < 31) → WV N 26 11 [(0, .inr (.inr 10)), (1, .inl m), (2, .inl (T : Int))] h1 C := by
    intro d
    induction d with
    | zero =>
      intro T h1 m hd hT K e1 o
      have : T = 401 := by omega
      subst this
      refine w_26_11 ⟨fun _ => ⟨fun z => ?_, fun z => ?_⟩, fun z => absurd (by decide) z⟩
      · rcases o with o | ⟨o, o1, o2⟩
        · omega
        · exact hC h1 (fin0 _ _ K o1 o2)
      · rw [K.2.1]
        refine c_tput (kd := 31) (pl := L) K.2.2.1 (by decide) (fun h' a b c d e g => hC h' ⟨K.1.trans a, by rw [b, K.2.1], fun j hj _ => ?_⟩)
        obtain ⟨q1, q2, q3⟩ := g j (by omega)
        rw [q1, q2, q3]
        exact K.2.2.2 j (by omega)
    | succ d ih =>
      intro T h1 m hd hT K e1 o
      refine w_26_11 ⟨fun z => by omega, fun _ => ⟨fun z => ⟨fun _ => ?_, fun y => absurd z y⟩, fun z => ?_⟩⟩
      · rcases o with o | ⟨o, o1, o2⟩
        · omega
        · exact hC h1 (fin0 _ _ K o1 o2)
      · refine c_scan W Y (by omega) K e1 (fun v h' ev K' e' => ck_rg (by omega) ?_)
        refine ih (T + 1) h' v (by omega) (by omega) K' e' ?_
        rw [ev, Nat.add_sub_cancel]
        by_cases q : KDT h0 L T < 31
        · rw [if_pos q]; exact Or.inl rfl
        · rw [if_neg q]; exact Or.inr ⟨rfl, by omega, q⟩
  refine w_26_0 (key 401 0 _ 1 rfl (by decide) ⟨(Fr.rfl.up (by decide) (by decide)).up (by decide) (by decide), ?_, ?_, fun j hj => absurd hj (Nat.not_lt_zero j)⟩ ?_ (Or.inl rfl))
  · rw [up_ne (by decide), up_ne (by decide)]; exact Y.1
  · rw [up_ne (by decide), up_same]; rfl
  · rw [up_same]; rfl
