/-! mondays -/
theorem okMor.mv {C D : List Nat} {h h' : aH} (O : okMor h) (f : Fr C D h h') (hd : [16, 58, 65, 66, 67].all (fun r => !(C.contains r) && !(Nat.beq r 130)) = true) : okMor h' := by
  have k := f.rows hd
  unfold okMor at O ⊢
  rw [k 16 (by decide), k 58 (by decide), k 65 (by decide), k 66 (by decide), k 67 (by decide)]
  exact O
theorem KNB.mv {C D : List Nat} {h h' : aH} (f : Fr C D h h') (hd : [65, 67].all (fun r => !(C.contains r) && !(Nat.beq r 130)) = true) : KNB h' = KNB h := by
  have k := f.rows hd
  funext i n
  unfold KNB
  rw [k 65 (by decide), k 67 (by decide)]
theorem TIM.mv {C D : List Nat} {h h' : aH} (f : Fr C D h h') (hd : [23, 65, 67].all (fun r => !(C.contains r) && !(Nat.beq r 130)) = true) : TIM h' = TIM h := by
  have k := f.rows hd
  funext i
  unfold TIM
  rw [k 23 (by decide), k 65 (by decide), k 67 (by decide)]
def mwB (w : Nat) (a b : Bool) : Bool := match w with
  | 0 => true
  | 1 => a
  | 2 => b
  | _ => a && b
def MNB (h : aH) (n w i : Nat) : Bool := KNB h i n && mwB w (decide (h 66 i = 0)) (!TIM h i)
def bI (b : Bool) : Int := bif b then 1 else 0
theorem cntB_s (p : Nat → Bool) (n : Nat) : ((cntB p (n + 1) : Nat) : Int) = (cntB p n : Nat) + bI (p n) := by
  show ((cntB p n + (bif p n then 1 else 0) : Nat) : Int) = _
  unfold bI
  cases p n <;> rfl
theorem c_fl68 {N : Nat} {C : aH → Prop} {h : aH} {v : Int} (hC : ∀ h', Fr [68] [] h h' → (∀ j, j < 4 → h' 68 j = v) → C h') : ∀ (d j : Nat) (h1 : aH), d = 4 - j → j ≤ 4 → Fr [68] [] h h1 → (∀ i, i < j → h1 68 i = v) → WV N 71 6 [(0, .inr (.inr 68)), (1, .inl v), (2, .inl (j : Int)), (3, .inl 4)] h1 C := by
  intro d
  induction d with
  | zero =>
    intro j h1 hd hj hf hv
    have : j = 4 := by omega
    subst this
    exact w_71_6_r68 ⟨fun _ => hC h1 hf hv, fun z => absurd (by decide) z⟩
  | succ d ih =>
    intro j h1 hd hj hf hv
    refine w_71_6_r68 ⟨fun z => by omega, fun _ => ?_⟩
    (repeat first | refine ck_ix (by omega) ?_ | refine ck_rg (by omega) ?_ | refine ck_rl (by omega) ?_)
    simp only [Int.toNat_natCast]
    refine ih (j + 1) _ (by omega) (by omega) (hf.up (by decide) (by decide)) (fun i hi => ?_)
    rw [up_in]
    by_cases e : i = j
    · rw [if_pos e]
    · rw [if_neg e]; exact hv i (by omega)
theorem c_tml {N : Nat} {C : aH → Prop} {h : aH} {n : Nat} (H : HI h) (O : okMor h) (hn : (n : Int) ≤ h 58 12) (hC : ∀ h', Fr [68] [] h h' → (∀ w, w < 4 → h' 68 w = (cntB (MNB h n w) n : Nat)) → C h') : ∀ (d i : Nat) (h1 : aH), d = n - i → i ≤ n → Fr [68] [] h h1 → (∀ w, w < 4 → h1 68 w = (cntB (MNB h n w) i : Nat)) →
    WV N 191 7 [(0, .inr (.inr 58)), (1, .inr (.inr 16)), (2, .inl (n : Int)), (3, .inl (i : Int))] h1 C := by
  have h60 := O.2.1
  intro d
  induction d with
  | zero =>
    intro i h1 hd hi hf ht
    have : i = n := by omega
    subst this
    exact w_191_7 ⟨fun _ => hC h1 hf ht, fun z => absurd (Int.le_refl _) z⟩
  | succ d ih =>
    intro i h1 hd hi hf ht
    have O1 := O.mv hf (by decide)
    have H1 := H.mv hf (by decide)
    have k1 := KNB.mv hf (by decide)
    have t1 := TIM.mv hf (by decide)
    have r58 := hf.at 58 (by decide) (by decide)
    have r65 := hf.at 65 (by decide) (by decide)
    have r66 := hf.at 66 (by decide) (by decide)
    have hn1 : (n : Int) ≤ h1 58 12 := by rw [r58]; exact hn
    have c0 := cntB_le (MNB h n 0) i
    have c1 := cntB_le (MNB h n 1) i
    have c2 := cntB_le (MNB h n 2) i
    have c3 := cntB_le (MNB h n 3) i
    have e0 := ht 0 (by decide)
    have e1 := ht 1 (by decide)
    have e2 := ht 2 (by decide)
    have e3 := ht 3 (by decide)
    have fin : ∀ (h2 : aH) (v0 v1 v2 v3 : Int), v0 = (cntB (MNB h n 0) (i + 1) : Nat) → v1 = (cntB (MNB h n 1) (i + 1) : Nat) → v2 = (cntB (MNB h n 2) (i + 1) : Nat) → v3 = (cntB (MNB h n 3) (i + 1) : Nat) → h2 = am_up (am_up (am_up (am_up h1 68 0 v0) 68 1 v1) 68 2 v2) 68 3 v3 →
        WV N 191 7 [(0, .inr (.inr 58)), (1, .inr (.inr 16)), (2, .inl (n : Int)), (3, .inl ((i : Int) + 1))] h2 C := by
      intro h2 v0 v1 v2 v3 a0 a1 a2 a3 e
      subst e
      refine ih (i + 1) _ (by omega) (by omega) ((((hf.up (by decide) (by decide)).up (by decide) (by decide)).up (by decide) (by decide)).up (by decide) (by decide)) (fun w hw => ?_)
      have : w = 0 ∨ w = 1 ∨ w = 2 ∨ w = 3 := by omega
      rcases this with e | e | e | e <;> subst e <;> simp [up_in, a0, a1, a2, a3]
    refine w_191_7 ⟨fun z => by omega, fun _ => c_known O1 (by omega) hn1 (fun hk => z1 ?_) (fun hk => z0 ?_)⟩
    · rw [k1] at hk
      have hw1 : h1 65 i ≠ -1 := fun z => by rw [r65] at z; rw [KNB_no1 z] at hk; cases hk
      simp only [Int.toNat_natCast]
      rw [r66]
      have m0 : MNB h n 0 i = true := by unfold MNB; rw [hk]; rfl
      refine ck_ix (by omega) ⟨fun a => c_inTime H1 O1 (by omega) hw1 (fun q => z1 ?_) (fun q => z0 ?_), fun a => c_inTime H1 O1 (by omega) hw1 (fun q => z1 ?_) (fun q => z0 ?_)⟩
      · rw [t1] at q
        have m1 : MNB h n 1 i = false := by unfold MNB; rw [decide_eq_false a]; simp [mwB]
        have m2 : MNB h n 2 i = false := by unfold MNB; rw [q]; simp [mwB]
        have m3 : MNB h n 3 i = false := by unfold MNB; rw [decide_eq_false a]; simp [mwB]
        rw [e0, e1, e2, e3]
        (repeat first | refine ck_ix (by omega) ?_ | refine ck_rg (by omega) ?_ | refine ck_rl (by omega) ?_)
        exact fin _ _ _ _ _ (by rw [cntB_s, m0]; rfl) (by rw [cntB_s, m1]; rfl) (by rw [cntB_s, m2]; rfl) (by rw [cntB_s, m3]; rfl) rfl
      · rw [t1] at q
        have m1 : MNB h n 1 i = false := by unfold MNB; rw [decide_eq_false a]; simp [mwB]
        have m2 : MNB h n 2 i = true := by unfold MNB; rw [q, hk]; rfl
        have m3 : MNB h n 3 i = false := by unfold MNB; rw [decide_eq_false a]; simp [mwB]
        rw [e0, e1, e2, e3]
        (repeat first | refine ck_ix (by omega) ?_ | refine ck_rg (by omega) ?_ | refine ck_rl (by omega) ?_)
        exact fin _ _ _ _ _ (by rw [cntB_s, m0]; rfl) (by rw [cntB_s, m1]; rfl) (by rw [cntB_s, m2]; rfl) (by rw [cntB_s, m3]; rfl) rfl
      · rw [t1] at q
        have a := Decidable.not_not.mp a
        have m1 : MNB h n 1 i = true := by unfold MNB; rw [decide_eq_true a, hk]; rfl
        have m2 : MNB h n 2 i = false := by unfold MNB; rw [q]; simp [mwB]
        have m3 : MNB h n 3 i = false := by unfold MNB; rw [q]; simp [mwB]
        rw [e0, e1, e2, e3]
        (repeat first | refine ck_ix (by omega) ?_ | refine ck_rg (by omega) ?_ | refine ck_rl (by omega) ?_)
        exact fin _ _ _ _ _ (by rw [cntB_s, m0]; rfl) (by rw [cntB_s, m1]; rfl) (by rw [cntB_s, m2]; rfl) (by rw [cntB_s, m3]; rfl) rfl
      · rw [t1] at q
        have a := Decidable.not_not.mp a
        have m1 : MNB h n 1 i = true := by unfold MNB; rw [decide_eq_true a, hk]; rfl
        have m2 : MNB h n 2 i = true := by unfold MNB; rw [q, hk]; rfl
        have m3 : MNB h n 3 i = true := by unfold MNB; rw [q, decide_eq_true a, hk]; rfl
        rw [e0, e1, e2, e3]
        (repeat first | refine ck_ix (by omega) ?_ | refine ck_rg (by omega) ?_ | refine ck_rl (by omega) ?_)
        exact fin _ _ _ _ _ (by rw [cntB_s, m0]; rfl) (by rw [cntB_s, m1]; rfl) (by rw [cntB_s, m2]; rfl) (by rw [cntB_s, m3]; rfl) rfl
    · rw [k1] at hk
      (repeat first | refine ck_ix (by omega) ?_ | refine ck_rg (by omega) ?_ | refine ck_rl (by omega) ?_)
      refine ih (i + 1) h1 (by omega) (by omega) hf (fun w hw => ?_)
      rw [cntB_s, show MNB h n w i = false by unfold MNB; rw [hk]; rfl, ht w hw]
      show _ = ((cntB (MNB h n w) i : Nat) : Int) + 0
      omega
theorem c_tally {N : Nat} {C : aH → Prop} {h : aH} {n : Nat} (H : HI h) (O : okMor h) (hn : (n : Int) ≤ h 58 12) (hC : ∀ h', Fr [68] [] h h' → (∀ w, w < 4 → h' 68 w = (cntB (MNB h n w) n : Nat)) → C h') : WV N 191 0 [(0, .inr (.inr 58)), (1, .inr (.inr 16)), (2, .inl (n : Int))] h C := by
  refine w_191_0 (w_71_0_r68 ?_)
  (repeat first | refine ck_ix (by omega) ?_ | refine ck_rg (by omega) ?_ | refine ck_rl (by omega) ?_)
  exact c_fl68 (fun h1 hf ht => c_tml H O hn hC n 0 h1 rfl (Nat.zero_le _) hf ht) 4 0 h rfl (by decide) Fr.rfl (fun i hi => by omega)
def vMondays (h : aH) (n w : Int) : Int := if (0 ≤ n ∧ n ≤ h 58 12) ∧ (0 ≤ w ∧ w ≤ 3) then (cntB (MNB h n.toNat w.toNat) n.toNat : Nat) else -1
theorem c_mondays {N : Nat} {C : Int → aH → Prop} {h : aH} {n w : Int} (H : HI h) (O : okMor h) (hC : ∀ h', Fr [68] [] h h' → C (vMondays h n w) h') : WI N 190 0 [(0, .inr (.inr 9)), (1, .inl n), (2, .inl w)] h C := by
  have no : ¬ ((0 ≤ n ∧ n ≤ h 58 12) ∧ (0 ≤ w ∧ w ≤ 3)) → C (-1) h := fun z => by
    have := hC h Fr.rfl
    unfold vMondays at this
    rw [if_neg z] at this
    exact this
  refine w_190_0 (c_isKnown (fun q1 => z1 ⟨fun z => no (by omega), fun a => ⟨fun b => ?_, fun z => no (by omega)⟩⟩) (fun q => z0 (no (by omega))))
  obtain ⟨m, rfl⟩ := Int.eq_ofNat_of_zero_le q1.1
  refine c_tally H O q1.2 (fun h' hf ht => ck_ix (by omega) ?_)
  have := hC h' hf
  unfold vMondays at this
  rw [if_pos ⟨q1, by omega⟩] at this
  simp only [Int.toNat_natCast] at this
  rw [ht w.toNat (by omega)]
  exact this
theorem m_mol {N : Nat} {C : Int → aH → Prop} {h : aH} {w : Nat} {n : Nat} (hw : w < 4) (H : HI h) (R : RelH h) (O : okMor h) (M : RelM h) (hn : (n : Int) ≤ h 58 12) (hC : C (cntB (MNB h n w) n : Nat) h) : ∀ (e i : Nat), e = n - i → i ≤ n → WI N 336 5 [(0, .inr (.inr 130)), (1, .inl (n : Int)), (2, .inl (w : Int)), (3, .inl (cntB (MNB h n w) i : Nat)), (4, .inl (i : Int))] h C := by
  have h60 := O.2.1
  intro e
  induction e with
  | zero =>
    intro i he hi
    have : i = n := by omega
    subst this
    exact w_336_5 ⟨fun _ => hC, fun z => absurd (Int.le_refl _) z⟩
  | succ e ih =>
    intro i he hi
    have hcl := cntB_le (MNB h n w) i
    have IH := ih (i + 1) (by omega) (by omega)
    rw [cntB_s] at IH
    have hi2 : (i : Int) < h 58 12 := by omega
    have nf : MNB h n w i = false → WI N 336 59 [(0, .inr (.inr 130)), (1, .inl (n : Int)), (2, .inl (w : Int)), (3, .inl (cntB (MNB h n w) i : Nat)), (4, .inl (i : Int))] h C := by
      intro hb
      refine w_336_59 ?_
      rw [hb, show ((cntB (MNB h n w) i : Nat) : Int) + bI false = (cntB (MNB h n w) i : Nat) from Int.add_zero _] at IH
      (repeat first | refine ck_ix (by omega) ?_ | refine ck_rg (by omega) ?_ | refine ck_rl (by omega) ?_)
      exact IH
    have nt : MNB h n w i = true → WI N 336 57 [(0, .inr (.inr 130)), (1, .inl (n : Int)), (2, .inl (w : Int)), (3, .inl (cntB (MNB h n w) i : Nat)), (4, .inl (i : Int))] h C := by
      intro hb
      rw [hb] at IH
      refine w_336_57 ?_
      (repeat first | refine ck_ix (by omega) ?_ | refine ck_rg (by omega) ?_ | refine ck_rl (by omega) ?_)
      refine w_336_59 ?_
      (repeat first | refine ck_ix (by omega) ?_ | refine ck_rg (by omega) ?_ | refine ck_rl (by omega) ?_)
      exact IH
    refine w_336_5 ⟨fun z => by omega, fun _ => m_counts O M (by omega) hn (fun hk => y1 ?_) (fun hk => y0 (nf (by unfold MNB; rw [hk]; rfl)))⟩
    have hw1 : h 65 i ≠ -1 := fun z => by rw [KNB_no1 z] at hk; cases hk
    have mk := (M.2 i hi2).2 hw1
    rw [show ((120 : Int) + (i : Int)).toNat = 120 + i by omega, mk.2.2.1]
    have hdd : ∀ (a b : Int), (a = 0 ∨ a = 1) → (b = 0 ∨ b = 1) → (MNB h n w i = mwB w (decide (a = 1)) (decide (b = 1))) → WI N 336 35 [(0, .inr (.inr 130)), (1, .inl (n : Int)), (2, .inl (w : Int)), (3, .inl (cntB (MNB h n w) i : Nat)), (4, .inl (i : Int)), (5, .inl a), (6, .inl b)] h C := by
      intro a b ha hb hm
      have : w = 0 ∨ w = 1 ∨ w = 2 ∨ w = 3 := by omega
      rcases this with e | e | e | e <;> subst e
      · exact w_336_35 ⟨fun _ => nt hm, fun z => absurd rfl z⟩
      · refine w_336_35 ⟨fun z => absurd z (by decide), fun _ => ⟨fun z => absurd rfl z, fun _ => ⟨fun a0 => nt ?_, fun a0 => w_336_43 ⟨fun _ => w_336_49 ⟨fun _ => nf ?_, fun z => absurd (by decide) z⟩, fun z => absurd (by decide) z⟩⟩⟩⟩
        · rw [hm]; exact decide_eq_true (by omega)
        · rw [hm]; exact decide_eq_false (by omega)
      · refine w_336_35 ⟨fun z => absurd z (by decide), fun _ => ⟨fun _ => w_336_43 ⟨fun z => absurd rfl z, fun _ => ⟨fun b0 => nt ?_, fun b0 => w_336_49 ⟨fun _ => nf ?_, fun z => absurd (by decide) z⟩⟩⟩, fun z => absurd (by decide) z⟩⟩
        · rw [hm]; exact decide_eq_true (by omega)
        · rw [hm]; exact decide_eq_false (by omega)
      · refine w_336_35 ⟨fun z => absurd z (by decide), fun _ => ⟨fun _ => w_336_43 ⟨fun _ => w_336_49 ⟨fun z => absurd rfl z, fun _ => ⟨fun a0 => nf ?_, fun a0 => ⟨fun b0 => nf ?_, fun b0 => nt ?_⟩⟩⟩, fun z => absurd (by decide) z⟩, fun z => absurd (by decide) z⟩⟩
        · rw [hm, decide_eq_false (show ¬ a = 1 by omega)]; rfl
        · rw [hm, decide_eq_false (show ¬ b = 1 by omega)]; simp [mwB]
        · rw [hm, decide_eq_true (show a = 1 by omega), decide_eq_true (show b = 1 by omega)]; rfl
    (repeat first | refine ck_ix (by omega) ?_ | refine ck_rg (by omega) ?_ | refine ck_rl (by omega) ?_)
    refine ⟨fun a => w_336_26 (m_isInTime H R O M hi2 hw1 (fun q => y1 ?_) (fun q => y0 ?_)), fun a => w_336_26 (m_isInTime H R O M hi2 hw1 (fun q => y1 ?_) (fun q => y0 ?_))⟩
    · refine hdd 0 0 (Or.inl rfl) (Or.inl rfl) ?_
      unfold MNB; rw [hk, q, decide_eq_false a]; rfl
    · refine hdd 0 1 (Or.inl rfl) (Or.inr rfl) ?_
      unfold MNB; rw [hk, q, decide_eq_false a]; rfl
    · refine hdd 1 0 (Or.inr rfl) (Or.inl rfl) ?_
      unfold MNB; rw [hk, q, decide_eq_true (Decidable.not_not.mp a)]; rfl
    · refine hdd 1 1 (Or.inr rfl) (Or.inr rfl) ?_
      unfold MNB; rw [hk, q, decide_eq_true (Decidable.not_not.mp a)]; rfl
theorem m_mondaysOf {N : Nat} {C : Int → aH → Prop} {h : aH} {w : Nat} {n : Nat} (hw : w < 4) (H : HI h) (R : RelH h) (O : okMor h) (M : RelM h) (hn : (n : Int) ≤ h 58 12) (hC : C (cntB (MNB h n w) n : Nat) h) : WI N 336 0 [(0, .inr (.inr 130)), (1, .inl (n : Int)), (2, .inl (w : Int))] h C :=
  w_336_0 (m_mol hw H R O M hn hC n 0 rfl (Nat.zero_le _))
theorem m_mondays {N : Nat} {C : Int → aH → Prop} {h : aH} {n w : Int} (H : HI h) (R : RelH h) (O : okMor h) (M : RelM h) (hC : C (vMondays h n w) h) : WI N 335 0 [(0, .inr (.inr 130)), (1, .inl n), (2, .inl w)] h C := by
  have no : ¬ ((0 ≤ n ∧ n ≤ h 58 12) ∧ (0 ≤ w ∧ w ≤ 3)) → C (-1) h := fun z => by
    unfold vMondays at hC
    rw [if_neg z] at hC
    exact hC
  refine w_335_0 (m_isKnown M (fun q1 => z1 (m_in (fun q2 => z1 ?_) (fun q => z0 (no (by omega))))) (fun q => z0 (no (by omega))))
  unfold vMondays at hC
  rw [if_pos ⟨q1, q2⟩] at hC
  obtain ⟨m, rfl⟩ := Int.eq_ofNat_of_zero_le q1.1
  obtain ⟨v, rfl⟩ := Int.eq_ofNat_of_zero_le q2.1
  simp only [Int.toNat_natCast] at hC
  exact m_mondaysOf (by omega) H R O M q1.2 hC
