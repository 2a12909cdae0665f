/-! read: the class's text; the reference's text; the reference begins -/
/-- the draft as it begins -/
def INI (g : aH) : Prop := (g 36 14 = 0 ∧ g 36 15 = 0 ∧ g 36 16 = 0) ∧ dflH (g 50) (g 49 2) ∧ dflA (g 53) (g 52 2) ∧ g 35 4 = 0 ∧ g 35 5 = 0 ∧ g 35 13 = 0
/-- what reading a text leaves -/
def RDT (h : aH) (L : Nat) (v : Int) (h' : aH) : Prop := ∃ gI res g1, INI gI ∧ PTR (KDT h L) (PLT h L) (VLT h L) 401 0 gI res g1 ∧ Fr [10, 13, 14, 15, 35, 36, 37, 38, 39, 40, 41, 42, 43, 44, 45, 49, 50, 52, 53, 55, 56, 57] [] h h' ∧ h' 10 5 = 0 ∧
  (∀ n q, res = some (n, q) → v = (n : Int) ∧ h' 35 12 = (PLT h L q : Int)) ∧ (res = none → (∀ r, r ≠ 10 → r ≠ 35 → h' r = g1 r) ∧ (g1 35 13 = 0 → v = 0 ∧ h' 35 12 = -1) ∧ (g1 35 13 ≠ 0 → v = g1 35 13 ∧ h' 35 12 = g1 35 14))
theorem c_readText {N : Nat} {C : Int → aH → Prop} {h : aH} {L : Nat} (W : okWrd h) (Y : okByt h L) (hC : ∀ v h', RDT h L v h' → C v h') : WI N 25 0 [(0, .inr (.inr 35))] h C := by
  have Q := tok_TOKP h L
  refine w_25_0 (c_split W Y (fun h1 T1 => c_clear (fun h2 f2 z2 dH dA => ?_)))
  obtain ⟨f1, l1, tk⟩ := T1
  obtain ⟨gI, hgI⟩ : ∃ gI, gI = am_up (am_up (am_up (am_up (am_up (am_up (am_up h2 35 4 0) 35 5 0) 35 9 0) 35 11 0) 35 12 (-1)) 35 13 0) 35 14 (-1) := ⟨_, rfl⟩
  rw [← hgI]
  have f3 : Fr [35] [] h2 gI := by
    rw [hgI]
    exact ((((((Fr.rfl.up (by decide) (by decide)).up (by decide) (by decide)).up (by decide) (by decide)).up (by decide) (by decide)).up (by decide) (by decide)).up (by decide) (by decide)).up (by decide) (by decide)
  have e35 : gI 35 4 = 0 ∧ gI 35 5 = 0 ∧ gI 35 9 = 0 ∧ gI 35 11 = 0 ∧ gI 35 12 = -1 ∧ gI 35 13 = 0 := by
    rw [hgI]
    simp [up_in]
  have I : INI gI := by
    unfold INI
    rw [f3.at 36 (by decide) (by decide), f3.at 49 (by decide) (by decide), f3.at 50 (by decide) (by decide), f3.at 52 (by decide) (by decide), f3.at 53 (by decide) (by decide)]
    exact ⟨z2, dH, dA, e35.1, e35.2.1, e35.2.2.2.2.2⟩
  have F : Fr [10, 13, 14, 15, 35, 36, 49, 50, 52, 53] [] h gI := (f1.mono (by decide) (by decide)).trans ((f2.mono (by decide) (by decide)).trans (f3.mono (by decide) (by decide)))
  have V : CIV (KDT h L) (PLT h L) (VLT h L) 0 gI := by
    refine ⟨⟨?_, e35.2.2.1, Nat.zero_le _, fun i hi => absurd hi (Nat.not_lt_zero i), e35.2.2.2.1, e35.2.2.2.2.1⟩, ⟨by rw [e35.1]; decide, by rw [e35.1]; decide, fun i hi => by rw [e35.1] at hi; omega⟩, 0, 0, 0, 0, ⟨I.1.1, by decide⟩, ⟨I.1.2.1, by decide⟩, ⟨I.1.2.2, by decide⟩, ⟨e35.2.1, by decide⟩, by rw [e35.1]; decide⟩
    unfold TOKC
    rw [f3.at 13 (by decide) (by decide), f3.at 14 (by decide) (by decide), f3.at 15 (by decide) (by decide), f2.at 13 (by decide) (by decide), f2.at 14 (by decide) (by decide), f2.at 15 (by decide) (by decide)]
    exact tk
  refine c_rt32 (g0 := gI) Q 401 0 gI 0 (by omega) (Nat.le_refl _) V Fr.rfl (fun res g1 v h' P f4 _ l4 e1 e2 => hC v h' ⟨gI, res, g1, I, P, ?_, l4, e1, e2⟩)
  exact (F.mono (by decide) (by decide)).trans (f4.mono (by decide) (by decide))
theorem dflH_ok {steps : Nat → Int} {n : Int} (d : dflH steps n) : okLaw steps n := by
  obtain ⟨e, s0, s1, s2, s3, s4, s5, s6, s7, s8, s9, s10⟩ := d
  subst e
  refine ⟨by decide, by decide, fun i hi => ?_⟩
  have : i = 0 ∨ i = 1 ∨ i = 2 ∨ i = 3 ∨ i = 4 ∨ i = 5 ∨ i = 6 ∨ i = 7 ∨ i = 8 ∨ i = 9 ∨ i = 10 := by omega
  rcases this with e | e | e | e | e | e | e | e | e | e | e <;> subst e <;> omega
theorem dflA_ok {steps : Nat → Int} {n : Int} (d : dflA steps n) : okLaw steps n := by
  obtain ⟨e, s0⟩ := d
  subst e
  refine ⟨by decide, by decide, fun i hi => ?_⟩
  have : i = 0 := by omega
  subst this
  omega
/-- the reference begins a house -/
theorem m_begins {N : Nat} {C : aH → Prop} {h : aH} {sd ns : Nat} (hl : h 130 18 = (sd : Int)) (sd2 : sd < 2) (hs : h 147 sd = (ns : Int)) (s12 : ns ≤ 12)
    (hC : ∀ h', Fr [161, 162, 189] [48, 76] h h' → h' 130 48 = 0 → h' 130 76 = 0 → (∀ s, s < ns → h' 161 s = h 148 (12 * sd + s)) → (∀ j, j < 12 → h' 162 j = 0) → h' 189 0 = -1 → h' 189 1 = -1 → C h') : WV N 246 0 [(0, .inr (.inr 130))] h C := by
  have key : ∀ (d k : Nat) (h1 : aH), d = 12 - k → k ≤ 12 → Fr [161, 162] [48, 76] h h1 → h1 130 48 = 0 → h1 130 76 = 0 → (∀ s, s < ns → s < k → h1 161 s = h 148 (12 * sd + s)) → (∀ j, j < k → h1 162 j = 0) → WV N 246 9 [(0, .inr (.inr 130)), (1, .inl (k : Int))] h1 C := by
    intro d
    induction d with
    | zero =>
      intro k h1 hd hk f e1 e2 e3 e4
      have : k = 12 := by omega
      subst this
      have f2 : Fr [189] [] h1 (am_up (am_up h1 189 0 (-1)) 189 1 (-1)) := (Fr.rfl.up (by decide) (by decide)).up (by decide) (by decide)
      refine w_246_9 ⟨fun _ => ck_ix (by decide) (ck_ix (by decide) (hC _ ((f.mono (by decide) (by decide)).trans (f2.mono (by decide) (by decide))) ?_ ?_ (fun s hs => ?_) (fun j hj => ?_) ?_ ?_)), fun z => absurd (show (12 : Int) ≤ ((12 : Nat) : Int) by decide) z⟩
      · rw [f2.2 48 (by decide)]; exact e1
      · rw [f2.2 76 (by decide)]; exact e2
      · rw [f2.at 161 (by decide) (by decide)]; exact e3 s hs (by omega)
      · rw [f2.at 162 (by decide) (by decide)]; exact e4 j hj
      · rw [up_ne (by decide), up_same]
      · rw [up_same]
    | succ d ih =>
      intro k h1 hd hk f e1 e2 e3 e4
      refine w_246_9 ⟨fun z => by omega, fun _ => ?_⟩
      rw [f.2 18 (by decide), hl, Int.toNat_natCast, f.at 147 (by decide) (by decide), hs, Int.toNat_natCast]
      have go : ∀ v : Int, (k < ns → v = h 148 (12 * sd + k)) → WV N 246 9 [(0, .inr (.inr 130)), (1, .inl ((k : Int) + 1))] (am_up (am_up h1 161 k v) 162 k 0) C := by
        intro v hv
        refine ih (k + 1) _ (by omega) (by omega) ((f.up (by decide) (by decide)).up (by decide) (by decide)) ?_ ?_ (fun s hs hk => ?_) (fun j hj => ?_)
        · rw [up_row (by decide), up_row (by decide)]; exact e1
        · rw [up_row (by decide), up_row (by decide)]; exact e2
        · rw [up_row (by decide), up_in]
          by_cases c : s = k
          · rw [if_pos c, c]; exact hv (by omega)
          · rw [if_neg c]; exact e3 s hs (by omega)
        · rw [up_in]
          by_cases c : j = k
          · rw [if_pos c]
          · rw [if_neg c, up_row (by decide)]; exact e4 j (by omega)
      refine ck_ix (by omega) ⟨fun le => ck_ix (by omega) (ck_ix (by omega) (ck_t0 (ck_rg (by omega) (go (-1) (fun z => by omega))))), fun gt => ck_rg (by omega) (ck_rg (by omega) (ck_ix (by omega) (ck_ix (by omega) (ck_ix (by omega) (ck_t0 (ck_rg (by omega) ?_))))))⟩
      rw [show ((12 : Int) * (sd : Int) + (k : Int)).toNat = 12 * sd + k by omega, f.at 148 (by decide) (by decide)]
      exact go _ (fun _ => rfl)
  exact w_246_0 (key 12 0 _ rfl (Nat.zero_le _) ((Fr.rfl.upM (by decide)).upM (by decide)) (by rw [up_ne (by decide), up_same]) (up_same _ _ _ _) (fun s _ hs => absurd hs (Nat.not_lt_zero s)) (fun j hj => absurd hj (Nat.not_lt_zero j)))
/-- before the first telling -/
theorem RDS.start {K PL : Nat → Nat} {VL : Nat → Int} {sd : Nat} {g h : aH} (I : INI g) (T : TOKR K PL VL h) (sd2 : sd < 2) (hsd : h 130 19 = (sd : Int)) (ht : h 130 11 = 0) (ho : h 130 12 = 0) (hf : h 130 13 = 0) (hw : h 130 15 = 0) (hn : h 130 20 = 0) (hb : h 141 sd = 0) (hc : h 144 sd = 0) (hs : h 147 sd = 0) (h0 : h 153 (2 * sd) = 0) (h1 : h 153 (2 * sd + 1) = 0) (hcc : h 130 39 = ((420 * sd : Nat) : Int)) : RDS K PL VL sd 0 g h := by
  obtain ⟨⟨i1, i2, i3⟩, dH, dA, i4, i5, i6⟩ := I
  refine ⟨0, 0, 0, 0, ⟨⟨T, ⟨Nat.zero_le _, fun i hi => absurd hi (Nat.not_lt_zero i)⟩, Or.inl ⟨Eq.refl _, hf, ht, fun z => absurd hw z⟩⟩, hsd, sd2, ho⟩, ⟨i1, hb, by decide⟩, ⟨i2, hc, by decide⟩, ⟨i3, hs, by decide⟩, ⟨hn, Eq.refl _, fun i hi => absurd hi (Nat.not_lt_zero i)⟩, ⟨420 * sd, hcc, Nat.le_refl _, Nat.le_add_right _ _⟩, ⟨Or.inl ⟨h0, dH⟩, dflH_ok dH⟩, ⟨Or.inl ⟨h1, dA⟩, dflA_ok dA⟩, ⟨?_, ?_, fun z => absurd i6 z⟩, fun _ => ⟨fun j hj => absurd hj (Nat.not_lt_zero j), fun j hj => absurd hj (Nat.not_lt_zero j), fun j hj => absurd hj (Nat.not_lt_zero j), ⟨i4, fun i hi => absurd hi (Nat.not_lt_zero i), fun i j _ hj => absurd hj (Nat.not_lt_zero j)⟩, 0, i5, by decide, fun b _ => ?_, fun s s' hs => absurd hs (Nat.not_lt_zero s)⟩⟩
  · show 0 ≤ g 35 13
    rw [i6]; decide
  · show g 35 13 = h 130 15
    rw [i6, hw]
  · rw [Nat.zero_testBit]
    exact ⟨fun z => (by cases z), fun ⟨s, hs, _⟩ => absurd hs (Nat.not_lt_zero s)⟩
/-- cells that the reference's reading may change -/
def ALR (sd r j : Nat) : Prop := ALW sd r j ∨ (r = 132 ∨ r = 133 ∨ r = 134 ∨ r = 135 ∨ r = 136) ∨ (r = 130 ∧ (j = 2 ∨ j = 4 ∨ j = 10 ∨ j = 19))
theorem m_readTop {N : Nat} {C : Int → aH → Prop} {h h0 : aH} {L sd : Nat} {gI g1 : aH} {res : Option (Nat × Nat)} (O : okKey h) (hL : h 130 2 = (L : Int)) (L2 : L ≤ 2000) (hB : ∀ i, i < L → h 131 i = h0 11 i ∧ -128 ≤ h0 11 i ∧ h0 11 i < 128) (hl : h 130 18 = 1 - (sd : Int)) (sd2 : sd < 2) (I : INI gI) (P : PTR (KDT h0 L) (PLT h0 L) (VLT h0 L) 401 0 gI res g1)
    (c0 : ∀ n q, res = some (n, q) → ∀ h', FrA (ALR sd) h h' → h' 130 2 = 0 → RFL (PLT h0 L) n q h' → WI N 218 101 [(0, .inr (.inr 130))] h' C) (c1 : res = none → ∀ h' t', FrA (ALR sd) h h' → h' 130 2 = 0 → RDS (KDT h0 L) (PLT h0 L) (VLT h0 L) sd t' g1 h' → WI N 218 101 [(0, .inr (.inr 130))] h' C) : WI N 218 0 [(0, .inr (.inr 130))] h C := by
  have Q := tok_TOKP h0 L
  have key : ∀ (d k : Nat) (h1 : aH), d = L - k → k ≤ L → Fr [132] [4] h h1 → h1 130 4 = (L : Int) → (∀ i, i < k → h1 132 i = h0 11 i) → WI N 218 7 [(0, .inr (.inr 130)), (1, .inl (k : Int))] h1 C := by
    intro d
    induction d with
    | zero =>
      intro k h1 hd hk f e et
      have : k = L := by omega
      subst this
      refine w_218_7 ?_
      rw [e]
      refine ⟨fun _ => ?_, fun z => absurd (Int.le_refl _) z⟩
      have f2 : Fr [] [2] h1 (am_up h1 130 2 0) := Fr.rfl.upM (by decide)
      refine m_cut (B := h0 11) (L := k) ?_ ⟨?_, L2, fun i hi => ?_, fun i hi => (hB i hi).2⟩ (fun h3 T3 => ?_)
      · unfold okKey
        rw [f2.at 137 (by decide) (by decide), f.at 137 (by decide) (by decide)]
        exact O
      · rw [f2.2 4 (by decide)]; exact e
      · rw [f2.at 132 (by decide) (by decide)]; exact et i hi
      · obtain ⟨f3, t3⟩ := T3
        have F3 : Fr [132, 133, 134, 135, 136] [2, 4, 10] h h3 := (f.mono (by decide) (by decide)).trans ((f2.mono (by decide) (by decide)).trans (f3.mono (by decide) (by decide)))
        have l3 : h3 130 18 = 1 - (sd : Int) := by rw [F3.2 18 (by decide)]; exact hl
        rw [l3, show (1 : Int) - (1 - (sd : Int)) = (sd : Int) by omega]
        have x2 : ((2 : Int) * (sd : Int)).toNat = 2 * sd := by omega
        have x3 : ((2 : Int) * (sd : Int) + 1).toNat = 2 * sd + 1 := by omega
        rw [x2, x3, Int.toNat_natCast]
        obtain ⟨a, ha⟩ : ∃ a, a = am_up (am_up (am_up (am_up (am_up (am_up (am_up (am_up (am_up (am_up (am_up (am_up h3 130 11 0) 130 12 0) 130 13 0) 130 15 0) 130 19 (sd : Int)) 130 20 0) 141 sd 0) 144 sd 0) 147 sd 0) 153 (2 * sd) 0) 153 (2 * sd + 1) 0) 130 39 ((420 : Int) * (sd : Int)) := ⟨_, rfl⟩
        rw [← ha]
        have fa : FrA (ALR sd) h3 a := by
          rw [ha]
          refine FrA.up (FrA.up (FrA.up (FrA.up (FrA.up (FrA.up (FrA.up (FrA.up (FrA.up (FrA.up (FrA.up (FrA.up FrA.rfl ?_) ?_) ?_) ?_) ?_) ?_) ?_) ?_) ?_) ?_) ?_) ?_ <;> (unfold ALR ALW; omega)
        have Fa : FrA (ALR sd) h a := by
          refine (FrA.of F3 (fun r hr j => ?_) (fun d hd => ?_)).trans fa
          · simp at hr
            unfold ALR; omega
          · simp at hd
            unfold ALR; omega
        have ta : a 130 2 = 0 := by
          rw [ha]
          simp [up_in, up_row]
          rw [f3.2 2 (by decide), up_same]
        refine ck_rg (by omega) (ck_ix (by omega) (ck_ix (by omega) (ck_ix (by omega) (ck_rg (by omega) (ck_ix (by omega) (ck_t0 (ck_rg (by omega) (ck_rg (by omega) (ck_ix (by omega) (ck_t0 (ck_rg (by omega) ?_)))))))))))
        have V : RDS (KDT h0 k) (PLT h0 k) (VLT h0 k) sd 0 gI a := by
          refine RDS.start I ?_ sd2 ?_ ?_ ?_ ?_ ?_ ?_ ?_ ?_ ?_ ?_ ?_ ?_
          · intro j hj hk
            have := t3 j hj hk
            rw [ha]
            simp only [up_row (show (133 : Nat) ≠ 156 by decide), up_row (show (133 : Nat) ≠ 130 by decide), up_row (show (133 : Nat) ≠ 153 by decide), up_row (show (133 : Nat) ≠ 147 by decide), up_row (show (133 : Nat) ≠ 144 by decide), up_row (show (133 : Nat) ≠ 141 by decide), up_row (show (134 : Nat) ≠ 130 by decide), up_row (show (134 : Nat) ≠ 153 by decide), up_row (show (134 : Nat) ≠ 147 by decide), up_row (show (134 : Nat) ≠ 144 by decide), up_row (show (134 : Nat) ≠ 141 by decide), up_row (show (135 : Nat) ≠ 130 by decide), up_row (show (135 : Nat) ≠ 153 by decide), up_row (show (135 : Nat) ≠ 147 by decide), up_row (show (135 : Nat) ≠ 144 by decide), up_row (show (135 : Nat) ≠ 141 by decide), up_row (show (136 : Nat) ≠ 130 by decide), up_row (show (136 : Nat) ≠ 153 by decide), up_row (show (136 : Nat) ≠ 147 by decide), up_row (show (136 : Nat) ≠ 144 by decide), up_row (show (136 : Nat) ≠ 141 by decide)]
            exact this
          all_goals (rw [ha]; simp [up_in, up_row])
        refine m_tells (h0 := a) Q 401 0 gI a res g1 P V FrA.rfl (fun n q e h' F' G => c0 n q e h' (Fa.trans (F'.mono (fun r j z => Or.inl z))) ?_ G) (fun e h' t' F' S => c1 e h' t' (Fa.trans (F'.mono (fun r j z => Or.inl z))) ?_ S)
        · rw [F' 130 2 (by unfold ALW; omega)]; exact ta
        · rw [F' 130 2 (by unfold ALW; omega)]; exact ta
    | succ d ih =>
      intro k h1 hd hk f e et
      refine w_218_7 ?_
      rw [e, Int.toNat_natCast, f.at 131 (by decide) (by decide), (hB k (by omega)).1]
      have w := (hB k (by omega)).2
      have e8 : w8 (h0 11 k) = h0 11 k := by unfold w8; omega
      rw [e8]
      refine ⟨fun z => by omega, fun _ => ck_ix (by omega) (ck_ix (by omega) (ck_rg (by omega) (ih (k + 1) _ (by omega) (by omega) (f.up (by decide) (by decide)) ?_ (fun i hi => ?_))))⟩
      · rw [up_row (by decide)]; exact e
      · rw [up_in]
        by_cases c : i = k
        · rw [if_pos c, c]
        · rw [if_neg c]; exact et i (by omega)
  refine w_218_0 ?_
  rw [hL]
  exact key L 0 _ rfl (Nat.zero_le _) (Fr.rfl.upM (by decide)) (up_same _ _ _ _) (fun i hi => absurd hi (Nat.not_lt_zero i))
