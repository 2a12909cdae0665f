/-! count -/
def bcI (x : Int) : Int :=
  let a := w32 (x - am_and (am_ushr x 1) 1431655765)
  let b := w32 (am_and a 858993459 + am_and (am_ushr a 2) 858993459)
  let c := am_and (w32 (b + am_ushr b 4)) 252645135
  let d := w32 (c + am_ushr c 8)
  am_and (w32 (d + am_ushr d 16)) 63
theorem bc_all : (List.range 4096).all (fun w => decide (bcI (w : Int) = (cntB (fun t => w.testBit t) 12 : Nat))) = true := by decide +kernel
theorem cntB_ext {p : Nat → Bool} {n : Nat} : ∀ {m : Nat}, n ≤ m → (∀ i, n ≤ i → i < m → p i = false) → cntB p m = cntB p n
  | 0, h, _ => by rw [Nat.le_zero.mp h]
  | m + 1, h, hp => by
    rcases Nat.eq_or_lt_of_le h with e | e
    · rw [e]
    · show cntB p m + (bif p m then 1 else 0) = _
      rw [hp m (by omega) (by omega), cntB_ext (n := n) (m := m) (by omega) (fun i h1 h2 => hp i h1 (by omega))]
      rfl
theorem c_bits {N : Nat} {C : Int → aH → Prop} {h : aH} {n w : Nat} (hn : n ≤ 12) (hw : w < 2 ^ n) (hC : C (cntB (fun t => w.testBit t) n : Nat) h) : WI N 211 0 [(0, .inl (w : Int))] h C := by
  have h12 := two_le (n := n) (m := 12) hn
  have e12 : (2 : Nat) ^ 12 = 4096 := by decide
  have e := of_decide_eq_true (all_lt bc_all (show w < 4096 by omega))
  rw [cntB_ext hn (fun i h1 _ => Nat.testBit_lt_two_pow (Nat.lt_of_lt_of_le hw (two_le h1)))] at e
  rw [← e] at hC
  exact w_211_0 hC
theorem m_ctl {N : Nat} {C : Int → aH → Prop} {h : aH} {n : Nat} {w : Nat} (hl : 0 ≤ h 130 18 ∧ h 130 18 ≤ 1) (hs : h 147 (h 130 18).toNat = (n : Int)) (hn : n ≤ 12) (hw : ∀ t : Nat, t < n → h 162 t = if w.testBit t then 1 else 0) (hC : C (cntB (fun t => w.testBit t) n : Nat) h) :
    ∀ (d k : Nat), d = n - k → k ≤ n → WI N 351 31 [(0, .inr (.inr 130)), (2, .inl (cntB (fun t => w.testBit t) k : Nat)), (3, .inl (k : Int))] h C := by
  intro d
  induction d with
  | zero =>
    intro k hd hk
    have : k = n := by omega
    subst this
    refine w_351_31 (ck_ix (by omega) ?_)
    rw [hs]
    exact ⟨fun _ => hC, fun z => absurd (Int.le_refl _) z⟩
  | succ d ih =>
    intro k hd hk
    have hk2 : k < n := by omega
    have c := cntB_le (fun t => w.testBit t) k
    have nx := ih (k + 1) (by omega) (by omega)
    have e : cntB (fun t => w.testBit t) (k + 1) = cntB (fun t => w.testBit t) k + (bif w.testBit k then 1 else 0) := rfl
    refine w_351_31 (ck_ix (by omega) ?_)
    rw [hs]
    refine ⟨fun z => by omega, fun _ => ck_ix (by omega) ?_⟩
    simp only [Int.toNat_natCast]
    rw [hw k hk2]
    cases hb : w.testBit k with
    | false =>
      rw [hb] at e
      rw [e] at nx
      refine ⟨fun _ => ck_rg (by omega) (ck_rg (by omega) nx), fun z => absurd rfl z⟩
    | true =>
      rw [hb] at e
      rw [e] at nx
      refine ⟨fun z => absurd z (by decide), fun _ => ck_rg (by omega) (ck_rg (by omega) nx)⟩
theorem pl_count {N : Nat} {D : Int → Int → aH → Prop} {h : aH} {x : Int} (P : PI h) (R : RelH h) (Q : RelP h) (M : RelM h) (S : SLS h) (T : RT h) (hD : ∀ v, D v v h) :
    WI N 210 0 [(0, .inr (.inr 9)), (1, .inl x)] h (fun v1 h1 => WI N 351 0 [(0, .inr (.inr 130)), (1, .inl x)] h1 (fun v2 h2 => D v1 v2 h2)) := by
  have hz := P.1.1
  unfold okSz at hz
  have hL := R.1
  obtain ⟨rb, rc, rs⟩ := R.2.1
  unfold Lv at rb rc rs
  have hold : ∀ i B, SLI h i B → (h B 13 = 0 ∧ ¬ 0 ≤ h 189 i) ∨ (¬ h B 13 = 0 ∧ 0 ≤ h 189 i) := by
    intro i B q
    rcases q with ⟨q1, q2⟩ | ⟨q, g, z1, z2, z3, z4⟩
    · exact Or.inl ⟨q1, by omega⟩
    · refine Or.inr ⟨by omega, ?_⟩
      rw [z4.1, z2.2.2.2.2.1.1]
      exact z2.2.1.1
  have s0 := hold 0 70 S.1
  have s1 := hold 1 81 S.2
  refine w_210_0 ⟨fun q => w_351_0 ⟨fun _ => hD _, fun z => absurd q z⟩, fun q => ?_⟩
  refine ⟨fun e => w_351_0 ⟨fun z => absurd z q, fun _ => ⟨fun _ => ck_ix (by omega) ?_, fun z => absurd e z⟩⟩, fun e0 => ⟨fun e => w_351_0 ⟨fun z => absurd z q, fun _ => ⟨fun z => absurd z e0, fun _ => ⟨fun _ => ck_ix (by omega) ?_, fun z => absurd e z⟩⟩⟩, fun e1 => ⟨fun e => w_351_0 ⟨fun z => absurd z q, fun _ => ⟨fun z => absurd z e0, fun _ => ⟨fun z => absurd z e1, fun _ => ⟨fun _ => ck_ix (by omega) ?_, fun z => absurd e z⟩⟩⟩⟩, fun e2 => ?_⟩⟩⟩
  · rw [rb]; exact hD _
  · rw [rc]; exact hD _
  · rw [rs]; exact hD _
  have mm : ∀ v : Int, ((x = 3 → v = h 130 48) ∧ (x = 4 → v = h 130 76) ∧ (x = 6 → v = h 130 2)) → x = 3 ∨ x = 4 ∨ x = 6 → WI N 351 0 [(0, .inr (.inr 130)), (1, .inl x)] h (fun v2 h2 => D v v2 h2) := by
    intro v hv hx
    refine w_351_0 ⟨fun z => absurd z q, fun _ => ⟨fun z => absurd z e0, fun _ => ⟨fun z => absurd z e1, fun _ => ⟨fun z => absurd z e2, fun _ => ⟨fun e => ?_, fun e3 => ⟨fun e => ?_, fun e4 => ⟨fun e => by omega, fun e5 => ⟨fun e => ?_, fun e6 => by omega⟩⟩⟩⟩⟩⟩⟩⟩
    · rw [← hv.1 e]; exact hD _
    · rw [← hv.2.1 e]; exact hD _
    · rw [← hv.2.2 e]; exact hD _
  refine ⟨fun e => mm _ ⟨fun _ => Q.1.symm, fun z => by omega, fun z => by omega⟩ (Or.inl e), fun e3 => ⟨fun e => mm _ ⟨fun z => by omega, fun _ => M.1.symm, fun z => by omega⟩ (Or.inr (Or.inl e)), fun e4 => ⟨fun e => ?_, fun e5 => ⟨fun e => mm _ ⟨fun z => by omega, fun z => by omega, fun _ => T.1.symm⟩ (Or.inr (Or.inr e)), fun e6 => ⟨fun e => ?_, fun z => by omega⟩⟩⟩⟩⟩
  · obtain ⟨w, hw, hw1, hw2⟩ := wool_bits (sl := (h 16 16).toNat) (by omega) P.2.2.2.1
    rw [hw]
    refine c_bits (n := (h 16 16).toNat) (by omega) hw1 ?_
    refine w_351_0 ⟨fun z => absurd z q, fun _ => ⟨fun z => absurd z e0, fun _ => ⟨fun z => absurd z e1, fun _ => ⟨fun z => absurd z e2, fun _ => ⟨fun z => absurd z e3, fun _ => ⟨fun z => absurd z e4, fun _ => ⟨fun _ => ?_, fun z => absurd e z⟩⟩⟩⟩⟩⟩⟩
    exact m_ctl (w := w) (by omega) (by rw [rs]; omega) (show (h 16 16).toNat ≤ 12 by omega) (fun t ht => by
      rw [(Q.2.2 t (by omega)).2]
      unfold WOF
      rw [hw, bt_tst hw2 (by omega)]
      ) (hD _) _ 0 rfl (Nat.zero_le _)
  · refine ck_ix (by decide) ⟨fun _ => ?_, fun z => absurd rfl z⟩
    have go : ∀ v : Int, v = (if h 70 13 = 0 then 0 else 1) + (if h 81 13 = 0 then 0 else 1) → WI N 351 0 [(0, .inr (.inr 130)), (1, .inl x)] h (fun v2 h2 => D v v2 h2) := by
      intro v hv
      refine w_351_0 ⟨fun z => absurd z q, fun _ => ⟨fun z => absurd z e0, fun _ => ⟨fun z => absurd z e1, fun _ => ⟨fun z => absurd z e2, fun _ => ⟨fun z => absurd z e3, fun _ => ⟨fun z => absurd z e4, fun _ => ⟨fun z => absurd z e5, fun _ => ⟨fun z => absurd z e6, fun _ => ⟨fun _ => ck_ix (by decide) ⟨fun g0 => ck_ix (by decide) ⟨fun g1 => ck_rg (by decide) ?_, fun g1 => ck_rg (by decide) ?_⟩, fun g0 => ck_ix (by decide) ⟨fun g1 => ck_rg (by decide) ?_, fun g1 => ck_rg (by decide) ?_⟩⟩, fun z => absurd e z⟩⟩⟩⟩⟩⟩⟩⟩⟩
      · have : v = 1 + 1 := by rw [hv, if_neg (by omega), if_neg (by omega)]
        rw [← this]; exact hD _
      · have : v = 1 + 0 := by rw [hv, if_neg (by omega), if_pos (by omega)]
        rw [← this]; exact hD _
      · have : v = 0 + 1 := by rw [hv, if_pos (by omega), if_neg (by omega)]
        rw [← this]; exact hD _
      · have : v = 0 + 0 := by rw [hv, if_pos (by omega), if_pos (by omega)]
        rw [← this]; exact hD _
    exact ⟨fun g0 => ck_ix (by decide) ⟨fun z => absurd z (by decide), fun _ => ⟨fun _ => ⟨fun g1 => ck_rg (by decide) (go _ (by rw [if_pos g0, if_pos g1])), fun g1 => ck_rg (by decide) (go _ (by rw [if_pos g0, if_neg g1]))⟩, fun z => absurd rfl z⟩⟩,
      fun g0 => ck_ix (by decide) ⟨fun z => absurd z (by decide), fun _ => ⟨fun _ => ⟨fun g1 => ck_rg (by decide) (go _ (by rw [if_neg g0, if_pos g1])), fun g1 => ck_rg (by decide) (go _ (by rw [if_neg g0, if_neg g1]))⟩, fun z => absurd rfl z⟩⟩⟩
