/-! the reference: what one hears, when he sleeps again -/
theorem m_bare {N : Nat} {C : Int → aH → Prop} {h : aH} {x : Int} (hx : -1000000 ≤ x ∧ x ≤ 1000000) (hC : C (max x (-x)) h) : WI N 259 0 [(0, .inl x)] h C := by
  refine w_259_0 ⟨fun a => ?_, fun a => ?_⟩
  · rw [show x = max x (-x) by omega]; exact hC
  · (repeat first | refine ck_ix (by omega) ?_ | refine ck_rg (by omega) ?_ | refine ck_rl (by omega) ?_)
    rw [show -x = max x (-x) by omega]; exact hC
theorem m_gapOf {N : Nat} {C : Int → aH → Prop} {h : aH} {a b : Int} (H : HI h) (R : RelH h) (ha : 0 ≤ a ∧ a < h 16 14) (hb : 0 ≤ b ∧ b < h 16 14) (hC : C (gapF h b a) h) : WI N 258 0 [(0, .inr (.inr 130)), (1, .inl a), (2, .inl b)] h C := by
  obtain ⟨hz, hB, -⟩ := H
  obtain ⟨hL, -, R1, -⟩ := R
  unfold okSz at hz
  have h1 := hB a.toNat (by omega)
  have h2 := hB b.toNat (by omega)
  have e1 := (R1 a.toNat (by omega)).2
  have e2 := (R1 b.toNat (by omega)).2
  unfold Lv at e1 e2
  rw [show 12 * (h 130 18).toNat + a.toNat = ((12 : Int) * h 130 18 + a).toNat by omega] at e1
  rw [show 12 * (h 130 18).toNat + b.toNat = ((12 : Int) * h 130 18 + b).toNat by omega] at e2
  refine w_258_0 ?_
  rw [e1, e2]
  (repeat first | refine ck_ix (by omega) ?_ | refine ck_rg (by omega) ?_ | refine ck_rl (by omega) ?_)
  refine m_bare (by omega) ?_
  unfold gapF at hC
  rw [show max (h 18 a.toNat - h 18 b.toNat) (-(h 18 a.toNat - h 18 b.toNat)) = max (h 18 b.toNat - h 18 a.toNat) (-(h 18 b.toNat - h 18 a.toNat)) by omega]
  exact hC
theorem m_floorsOf {N : Nat} {C : Int → aH → Prop} {h : aH} {a b : Int} (H : HI h) (R : RelH h) (ha : 0 ≤ a ∧ a < h 16 14) (hb : 0 ≤ b ∧ b < h 16 14) (hC : C (flrF h b a) h) : WI N 260 0 [(0, .inr (.inr 130)), (1, .inl a), (2, .inl b)] h C := by
  obtain ⟨hz, hB, -⟩ := H
  obtain ⟨hL, -, R1, -⟩ := R
  unfold okSz at hz
  have h1 := hB a.toNat (by omega)
  have h2 := hB b.toNat (by omega)
  have e1 := (R1 a.toNat (by omega)).1
  have e2 := (R1 b.toNat (by omega)).1
  unfold Lv at e1 e2
  rw [show 12 * (h 130 18).toNat + a.toNat = ((12 : Int) * h 130 18 + a).toNat by omega] at e1
  rw [show 12 * (h 130 18).toNat + b.toNat = ((12 : Int) * h 130 18 + b).toNat by omega] at e2
  refine w_260_0 ?_
  rw [e1, e2]
  (repeat first | refine ck_ix (by omega) ?_ | refine ck_rg (by omega) ?_ | refine ck_rl (by omega) ?_)
  refine m_bare (by omega) ?_
  unfold flrF at hC
  rw [show max (h 17 a.toNat - h 17 b.toNat) (-(h 17 a.toNat - h 17 b.toNat)) = max (h 17 b.toNat - h 17 a.toNat) (-(h 17 b.toNat - h 17 a.toNat)) by omega]
  exact hC
theorem gapF_rg {h : aH} (H : HI h) {a b : Int} (ha : 0 ≤ a ∧ a < h 16 14) (hb : 0 ≤ b ∧ b < h 16 14) : 0 ≤ gapF h a b ∧ gapF h a b ≤ 9 := by
  have h1 := H.2.1 a.toNat (by omega)
  have h2 := H.2.1 b.toNat (by omega)
  unfold gapF
  omega
theorem flrF_rg {h : aH} (H : HI h) {a b : Int} (ha : 0 ≤ a ∧ a < h 16 14) (hb : 0 ≤ b ∧ b < h 16 14) : 0 ≤ flrF h a b ∧ flrF h a b ≤ 3 := by
  have h1 := H.2.1 a.toNat (by omega)
  have h2 := H.2.1 b.toNat (by omega)
  unfold flrF
  omega
theorem m_held {N : Nat} {C : Int → aH → Prop} {h : aH} {x m : Int} (hm : 0 ≤ m) (hC : C (max 0 (min m x)) h) : WI N 262 0 [(0, .inl x), (1, .inl m)] h C := by
  refine w_262_0 ⟨fun a => ⟨fun b => ?_, fun b => ?_⟩, fun a => ?_⟩
  · rw [show max 0 (min m x) = x by omega] at hC; exact hC
  · rw [show max 0 (min m x) = m by omega] at hC; exact hC
  · rw [show max 0 (min m x) = 0 by omega] at hC; exact hC
theorem Fr.ups {C D : List Nat} {h h1 : aH} (a : Fr C D h h1) {r : Nat} (hr : r ∈ C) (h0 : r ≠ 130) {h2 : aH} (e : ∀ q, q ≠ r → h2 q = h1 q) : Fr C D h h2 := by
  refine ⟨fun q hq hc => ?_, fun j hj => ?_⟩
  · rw [e q (fun z => hc (by rw [z]; exact hr))]; exact a.1 q hq hc
  · rw [e 130 (fun z => h0 z.symm)]; exact a.2 j hj
theorem m_hearing {N : Nat} {C : Int → aH → Prop} {h : aH} {s loud b m : Int} (H : HI h) (R : RelH h) (hs : 0 ≤ s ∧ s < h 16 16) (hl : 0 ≤ h 161 s.toNat ∧ h 161 s.toNat < h 16 14) (hw : h 162 s.toNat = 0 ∨ h 162 s.toNat = 1) (hb : 0 ≤ b ∧ b < h 16 14) (hloud : 0 ≤ loud ∧ loud ≤ 12)
    (hC : ∀ h', Fr [159, 160] [] h h' → C (HEAR h s (h 161 s.toNat) (h 162 s.toNat) loud b m) h') : WI N 257 0 [(0, .inr (.inr 130)), (1, .inl s), (2, .inl loud), (3, .inl b), (4, .inl m)] h C := by
  have hz := H.1
  unfold okSz at hz
  have hL := R.1
  have hg := gapF_rg H hl hb
  have hf := flrF_rg H hl hb
  have hd := (R.2.2.2.2.1 s.toNat (by omega)).1
  have hT : (h 153 (2 * Lv h) = 0 ∧ dflH (h 30) (h 29 2)) ∨ (h 153 (2 * Lv h) = 1 ∧ RelL h (2 * Lv h) (h 30) (h 29 2)) := by
    rcases R.2.2.2.2.2.1 with y | y | y
    · exact Or.inl y
    · exact Or.inr y
    · exact absurd hs (fun z => by omega)
  have hOL := H.2.2.2.2.1
  unfold Lv at hd hT
  rw [show 12 * (h 130 18).toNat + s.toNat = ((12 : Int) * h 130 18 + s).toNat by omega] at hd
  rw [show 2 * (h 130 18).toNat = ((2 : Int) * h 130 18).toNat by omega] at hT
  refine w_257_0 ?_
  (repeat first | refine ck_ix (by omega) ?_ | refine ck_rg (by omega) ?_ | refine ck_rl (by omega) ?_)
  have f0 : Fr [159, 160] [] h (am_up h 159 0 loud) := Fr.rfl.up (by decide) (by decide)
  refine m_gapOf (h := am_up h 159 0 loud) H (R.keep (f0.kp (by decide)) (f0.km (by decide) (by decide))) hb hl ?_
  (repeat first | refine ck_ix (by omega) ?_ | refine ck_rg (by omega) ?_ | refine ck_rl (by omega) ?_)
  have f1 := f0.up (k := 1) (v := gapF h (h 161 s.toNat) b) (r := 159) (by decide) (by decide)
  refine m_floorsOf (h := am_up (am_up h 159 0 loud) 159 1 (gapF h (h 161 s.toNat) b)) H (R.keep (f1.kp (by decide)) (f1.km (by decide) (by decide))) hb hl ?_
  show am_ix 2 7 ∧ ¬ (60 : Int) = 0 ∧ _
  refine ck_ix (by omega) ⟨by decide, ?_⟩
  have r130 : ∀ v, am_up (am_up h 159 0 loud) 159 1 v 130 = h 130 := fun v => by rw [up_row (by decide), up_row (by decide)]
  have r149 : ∀ v, am_up (am_up h 159 0 loud) 159 1 v 149 = h 149 := fun v => by rw [up_row (by decide), up_row (by decide)]
  have r153 : ∀ v, am_up (am_up h 159 0 loud) 159 1 v 153 = h 153 := fun v => by rw [up_row (by decide), up_row (by decide)]
  have r161 : ∀ v, am_up (am_up h 159 0 loud) 159 1 v 161 = h 161 := fun v => by rw [up_row (by decide), up_row (by decide)]
  have r162 : ∀ v, am_up (am_up h 159 0 loud) 159 1 v 162 = h 162 := fun v => by rw [up_row (by decide), up_row (by decide)]
  have eg : gapF (am_up h 159 0 loud) ((am_up h 159 0 loud) 161 s.toNat) b = gapF h (h 161 s.toNat) b := rfl
  have ef : flrF (am_up (am_up h 159 0 loud) 159 1 (gapF h (h 161 s.toNat) b)) ((am_up h 159 0 loud) 161 s.toNat) b = flrF h (h 161 s.toNat) b := rfl
  simp only [eg, ef, r130, r149, r153, r161, r162]
  rw [hd]
  (repeat first | refine ck_ix (by omega) ?_ | refine ck_rg (by omega) ?_ | refine ck_rl (by omega) ?_)
  have ev1 : am_up (am_up h 159 0 loud) 159 1 (gapF h (h 161 s.toNat) b) 159 1 = gapF h (h 161 s.toNat) b := up_same _ _ _ _
  rw [ev1]
  have fin : ∀ (w : Int) (hX : aH), w = h 162 s.toNat → hX = am_up (am_up (am_up (am_up (am_up (am_up (am_up h 159 0 loud) 159 1 (gapF h (h 161 s.toNat) b)) 159 2 (flrF h (h 161 s.toNat) b)) 159 3 (w32 (m.tdiv 60))) 159 4 (h 22 s.toNat)) 159 5 w) 159 6 0 →
      Fr [159, 160] [] h hX ∧ (∀ j, j < 7 → hX 159 j = hwd loud (gapF h (h 161 s.toNat) b) (flrF h (h 161 s.toNat) b) (w32 (m.tdiv 60)) (h 22 s.toNat) (h 162 s.toNat) 0 j) := by
    intro w hX e1 e2
    subst e1 e2
    refine ⟨((((((f0.up (by decide) (by decide)).up (by decide) (by decide)).up (by decide) (by decide)).up (by decide) (by decide)).up (by decide) (by decide)).up (by decide) (by decide)), fun j hj => ?_⟩
    have : j = 0 ∨ j = 1 ∨ j = 2 ∨ j = 3 ∨ j = 4 ∨ j = 5 ∨ j = 6 := by omega
    rcases this with e | e | e | e | e | e | e <;> subst e <;> simp [up_in, hwd]
  have told : ∀ (w : Int) (hX : aH), w = h 162 s.toNat → hX = am_up (am_up (am_up (am_up (am_up (am_up (am_up h 159 0 loud) 159 1 (gapF h (h 161 s.toNat) b)) 159 2 (flrF h (h 161 s.toNat) b)) 159 3 (w32 (m.tdiv 60))) 159 4 (h 22 s.toNat)) 159 5 w) 159 6 0 →
      ¬ h 153 ((2 : Int) * h 130 18).toNat = 0 → WI N 261 0 [(0, .inr (.inr 130)), (1, .inl ((2 : Int) * h 130 18))] hX (fun r4 h4 => WI N 262 0 [(0, .inl r4), (1, .inl 10)] h4 (fun r5 h5 => C r5 h5)) := by
    intro w hX e1 e2 hto
    obtain ⟨fX, hv⟩ := fin w hX e1 e2
    have hRL := (hT.resolve_left (fun z => hto z.1)).2
    have eL : ((2 : Int) * h 130 18) = ((((2 : Int) * h 130 18).toNat : Nat) : Int) := by omega
    have kmX := fX.km (by decide) (by decide)
    rw [eL]
    refine m_value (by omega) (steps := h 30) (n := h 29 2) hOL ?_ hv (fun h' hf' => ?_)
    · unfold RelL at hRL ⊢
      rw [kmX.1 154 (by decide), kmX.1 155 (by decide), kmX.1 156 (by decide), kmX.1 157 (by decide)]
      exact hRL
    · refine m_held (by decide) (hC h' (fX.trans (hf'.mono (by decide) (by decide))))
  have dfl : ∀ (w : Int) (hX : aH), w = h 162 s.toNat → hX = am_up (am_up (am_up (am_up (am_up (am_up (am_up h 159 0 loud) 159 1 (gapF h (h 161 s.toNat) b)) 159 2 (flrF h (h 161 s.toNat) b)) 159 3 (w32 (m.tdiv 60))) 159 4 (h 22 s.toNat)) 159 5 w) 159 6 0 →
      h 153 ((2 : Int) * h 130 18).toNat = 0 → WI N 262 0 [(0, .inl (((loud - gapF h (h 161 s.toNat) b) - (flrF h (h 161 s.toNat) b * 3)) - (w * 4))), (1, .inl 10)] hX (fun r3 h3 => C r3 h3) := by
    intro w hX e1 e2 hto
    obtain ⟨fX, hv⟩ := fin w hX e1 e2
    have hD := (hT.resolve_right (fun z => by rw [z.1] at hto; exact absurd hto (by decide))).2
    refine m_held (by decide) ?_
    have key := hC hX fX
    unfold HEAR at key
    rw [dfl_val hD hloud hg hf hw] at key
    rw [e1]
    exact key
  refine ⟨fun h0 => ?_, fun h0 => ?_⟩
  · (repeat first | refine ck_ix (by omega) ?_ | refine ck_rg (by omega) ?_ | refine ck_rl (by omega) ?_)
    refine ⟨fun ht => ?_, fun ht => ?_⟩
    · (repeat first | refine ck_ix (by omega) ?_ | refine ck_rg (by omega) ?_ | refine ck_rl (by omega) ?_)
      exact dfl 0 _ h0.symm rfl ht
    · (repeat first | refine ck_ix (by omega) ?_ | refine ck_rg (by omega) ?_ | refine ck_rl (by omega) ?_)
      exact told 0 _ h0.symm rfl ht
  · have h1 := (hw.resolve_left h0).symm
    (repeat first | refine ck_ix (by omega) ?_ | refine ck_rg (by omega) ?_ | refine ck_rl (by omega) ?_)
    refine ⟨fun ht => ?_, fun ht => ?_⟩
    · (repeat first | refine ck_ix (by omega) ?_ | refine ck_rg (by omega) ?_ | refine ck_rl (by omega) ?_)
      exact dfl 1 _ h1 rfl ht
    · (repeat first | refine ck_ix (by omega) ?_ | refine ck_rg (by omega) ?_ | refine ck_rl (by omega) ?_)
      exact told 1 _ h1 rfl ht
theorem m_agl {N : Nat} {C : Int → aH → Prop} {h : aH} {s a : Int} (H : HI h) (R : RelH h) (hs : 0 ≤ s ∧ s < h 16 16)
    (hC : ∀ h', Fr [159, 160] [] h h' → C (AGN h s a) h') : ∀ (d j : Nat) (h1 : aH), d = 7 - j → j ≤ 7 → Fr [159, 160] [] h h1 → (∀ i, i < j → h1 159 i = 0) → WI N 264 3 [(0, .inr (.inr 130)), (1, .inl s), (2, .inl a), (3, .inl (j : Int))] h1 C := by
  have hz := H.1
  unfold okSz at hz
  have hL := R.1
  have hd := (R.2.2.2.2.1 s.toNat (by omega)).1
  have hT : (h 153 (2 * Lv h + 1) = 0 ∧ h 32 2 = 1 ∧ h 33 0 = 0) ∨ (h 153 (2 * Lv h + 1) = 1 ∧ RelL h (2 * Lv h + 1) (h 33) (h 32 2)) := by
    rcases R.2.2.2.2.2.2 with y | y | y
    · exact Or.inl y
    · exact Or.inr y
    · exact absurd hs (fun z => by omega)
  have hOL := H.2.2.2.2.2
  unfold Lv at hd hT
  rw [show 12 * (h 130 18).toNat + s.toNat = ((12 : Int) * h 130 18 + s).toNat by omega] at hd
  rw [show 2 * (h 130 18).toNat + 1 = ((2 : Int) * h 130 18 + 1).toNat by omega] at hT
  intro d
  induction d with
  | zero =>
    intro j h1 hdj hj hf hv
    have : j = 7 := by omega
    subst this
    have km := hf.km (by decide) (by decide)
    refine w_264_3 ⟨fun _ => ?_, fun z => absurd (by decide) z⟩
    rw [km.2, km.1 149 (by decide), km.1 153 (by decide), hd]
    (repeat first | refine ck_ix (by omega) ?_ | refine ck_rg (by omega) ?_ | refine ck_rl (by omega) ?_)
    have fX : Fr [159, 160] [] h (am_up (am_up h1 159 4 (h 22 s.toNat)) 159 6 a) := (hf.up (by decide) (by decide)).up (by decide) (by decide)
    have hX : ∀ j, j < 7 → am_up (am_up h1 159 4 (h 22 s.toNat)) 159 6 a 159 j = hwd 0 0 0 0 (h 22 s.toNat) 0 a j := by
      intro j hj
      have : j = 0 ∨ j = 1 ∨ j = 2 ∨ j = 3 ∨ j = 4 ∨ j = 5 ∨ j = 6 := by omega
      rcases this with e | e | e | e | e | e | e <;> subst e <;> simp [up_in, hwd, hv]
    refine ⟨fun ht => ?_, fun ht => ?_⟩
    · have hD := (hT.resolve_right (fun z => by rw [z.1] at ht; exact absurd ht (by decide))).2
      have key := hC _ fX
      have e0 : AGN h s a = 0 := by
        unfold AGN AGD
        rw [hD.1]
        have : lwV (h 33) (1 : Int).toNat (hwd 0 0 0 0 (h 22 s.toNat) 0 a) = 0 := by
          show (match lwN (h 33) (hwd 0 0 0 0 (h 22 s.toNat) 0 a) 1 with | some st => st.getLast?.getD 0 | none => 0) = 0
          simp only [lwN, hD.2]
          rfl
        rw [this]
        decide
      rw [e0] at key
      exact key
    · (repeat first | refine ck_ix (by omega) ?_ | refine ck_rg (by omega) ?_ | refine ck_rl (by omega) ?_)
      have hRL := (hT.resolve_left (fun z => ht z.1)).2
      have eL : ((2 : Int) * h 130 18 + 1) = ((((2 : Int) * h 130 18 + 1).toNat : Nat) : Int) := by omega
      have kmX := fX.km (by decide) (by decide)
      rw [eL]
      refine m_value (by omega) (steps := h 33) (n := h 32 2) hOL ?_ hX (fun h' hf' => ?_)
      · unfold RelL at hRL ⊢
        rw [kmX.1 154 (by decide), kmX.1 155 (by decide), kmX.1 156 (by decide), kmX.1 157 (by decide)]
        exact hRL
      · exact m_held (by decide) (hC h' (fX.trans (hf'.mono (by decide) (by decide))))
  | succ d ih =>
    intro j h1 hdj hj hf hv
    refine w_264_3 ⟨fun z => by omega, fun _ => ?_⟩
    (repeat first | refine ck_ix (by omega) ?_ | refine ck_rg (by omega) ?_ | refine ck_rl (by omega) ?_)
    simp only [Int.toNat_natCast]
    refine ih (j + 1) _ (by omega) (by omega) (hf.up (by decide) (by decide)) (fun i hi => ?_)
    rw [up_in]
    by_cases e : i = j
    · rw [if_pos e]
    · rw [if_neg e]; exact hv i (by omega)
theorem m_asleepAgain {N : Nat} {C : Int → aH → Prop} {h : aH} {s a : Int} (H : HI h) (R : RelH h) (hs : 0 ≤ s ∧ s < h 16 16)
    (hC : ∀ h', Fr [159, 160] [] h h' → C (AGN h s a) h') : WI N 264 0 [(0, .inr (.inr 130)), (1, .inl s), (2, .inl a)] h C :=
  w_264_0 (m_agl H R hs hC 7 0 h rfl (Nat.zero_le _) Fr.rfl (fun i hi => by omega))
