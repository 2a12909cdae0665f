/-! TWICE: the class's search -/
def SNT : List Nat := [28, 31, 34, 92, 93, 95, 96, 97, 98, 99, 100]
def TS (h : aH) (s : Nat) (loud st : Int) (k w : Nat) (t : Nat × Nat × Nat) (h1 : aH) : Prop := Fr SNT [] h h1 ∧ scr h1 ∧ h1 92 11 = (k : Int) ∧ (∀ j, j < k → h1 98 j = (TRI t j : Nat)) ∧ ∀ i, i ≤ w → h1 100 i = HEAR h s (h 63 s) (WOF h s) loud (h 63 s) (st + (i : Int))
theorem TRI_le {k w : Nat} {t : Nat × Nat × Nat} (v : VTF k w t) {j : Nat} (hj : j < k) : TRI t j ≤ w := by
  have hj3 : j = 0 ∨ j = 1 ∨ j = 2 := by rcases v with ⟨z, _⟩ | ⟨z, _⟩ | ⟨z, _⟩ <;> omega
  rcases hj3 with rfl | rfl | rfl
  · show t.1 ≤ w
    rcases v with ⟨z, z2⟩ | ⟨z, z2⟩ | ⟨z, z2⟩ <;> omega
  · show t.2.1 ≤ w
    rcases v with ⟨z, z2⟩ | ⟨z, z2⟩ | ⟨z, z2⟩ <;> omega
  · show t.2.2 ≤ w
    rcases v with ⟨z, z2⟩ | ⟨z, z2⟩ | ⟨z, z2⟩ <;> omega
theorem TRI_srt {k w : Nat} {t : Nat × Nat × Nat} (v : VTF k w t) {j : Nat} (hj : j + 1 < k) : TRI t j ≤ TRI t (j + 1) := by
  have hj3 : j = 0 ∨ j = 1 := by rcases v with ⟨z, _⟩ | ⟨z, _⟩ | ⟨z, _⟩ <;> omega
  rcases hj3 with rfl | rfl
  · show t.1 ≤ t.2.1
    rcases v with ⟨z, z2⟩ | ⟨z, z2⟩ | ⟨z, z2⟩ <;> omega
  · show t.2.1 ≤ t.2.2
    rcases v with ⟨z, z2⟩ | ⟨z, z2⟩ | ⟨z, z2⟩ <;> omega
theorem VTF_k {k w : Nat} {t : Nat × Nat × Nat} (v : VTF k w t) : k ≤ 3 ∧ 1 ≤ k ∧ k ≤ w + 1 := by rcases v with ⟨z, z2⟩ | ⟨z, z2⟩ | ⟨z, z2⟩ <;> omega
theorem TS.fr {h : aH} {s : Nat} {loud st : Int} {k w : Nat} {t : Nat × Nat × Nat} {h1 h2 : aH} (S : TS h s loud st k w t h1) (f : Fr [93, 95, 99] [] h1 h2) : TS h s loud st k w t h2 := by
  obtain ⟨s1, s2, s3, s4, s5⟩ := S
  refine ⟨s1.trans (f.mono (by decide) (by decide)), ⟨f.dz (by decide) (by decide) (by decide) s2.1, by rw [f.at 28 (by decide) (by decide)]; exact s2.2⟩, by rw [f.at 92 (by decide) (by decide)]; exact s3, fun j hj => by rw [f.at 98 (by decide) (by decide)]; exact s4 j hj, fun i hi => by rw [f.at 100 (by decide) (by decide)]; exact s5 i hi⟩
theorem c_t71 {N : Nat} {C : Int → aH → Prop} {h : aH} {s k w n : Nat} {loud st m : Int} {t : Nat × Nat × Nat} (v : VTF k w t) (hw : w ≤ 30) (hst : 0 ≤ st ∧ st ≤ 399) {h0 : aH} (S : TS h s loud st k w t h0)
    (hC : ∀ h', Fr [93, 95] [] h0 h' → (∀ j, j < k → h' 93 j = TMT st t j ∧ h' 95 j = THR2 h s loud st t j) → WL N 156 71 [(0, .inr (.inr 92)), (1, .inl (s : Int)), (3, .inl (k : Int)), (4, .inl (w : Int)), (5, .inl st), (7, .inr (.inl m)), (10, .inl (n : Int)), (11, .inl (k : Int))] h' C) : ∀ (d i : Nat) (h1 : aH), d = k - i → i ≤ k → Fr [93, 95] [] h0 h1 → (∀ j, j < i → h1 93 j = TMT st t j ∧ h1 95 j = THR2 h s loud st t j) →
    WL N 156 71 [(0, .inr (.inr 92)), (1, .inl (s : Int)), (3, .inl (k : Int)), (4, .inl (w : Int)), (5, .inl st), (7, .inr (.inl m)), (10, .inl (n : Int)), (11, .inl (i : Int))] h1 C := by
  obtain ⟨hk3, hk1, hkw⟩ := VTF_k v
  intro d
  induction d with
  | zero =>
    intro i h1 hd hi f hm
    have : i = k := by omega
    subst this
    exact hC h1 f hm
  | succ d ih =>
    intro i h1 hd hi f hm
    have S1 := S.fr (f.mono (by decide) (by decide))
    have e := S1.2.2.2.1 i (by omega)
    have le := TRI_le v (show i < k by omega)
    have e2 := S1.2.2.2.2 (TRI t i) le
    refine w_156_71 ⟨fun z => by omega, fun _ => ?_⟩
    simp only [Int.toNat_natCast]
    rw [e, Int.toNat_natCast, e2]
    (repeat first | refine ck_ix (by omega) ?_ | refine ck_rg (by omega) ?_ | refine ck_rl (by omega) ?_)
    refine ih (i + 1) _ (by omega) (by omega) ((f.up (by decide) (by decide)).up (by decide) (by decide)) (fun j hj => ?_)
    rw [up_row (by decide), up_in, up_in, up_row (by decide)]
    by_cases z : j = i
    · rw [if_pos z, if_pos z, z]; exact ⟨rfl, rfl⟩
    · rw [if_neg z, if_neg z]; exact hm j (by omega)
/-- what was chosen -/
def CHO (h1 : aH) (k : Nat) (st : Int) (x : Int × Nat × Nat × Nat) : Prop := 0 ≤ x.1 → ∀ i, i < k → h1 99 i = TMT st x.2 i
theorem c_t63 {N : Nat} {C : Int → aH → Prop} {h : aH} {s k w : Nat} {loud st : Int} {B : Int × Nat × Nat × Nat} {T : Nat} (P : PI h) (hs : (s : Int) < h 16 16) (hh : ¬ h 23 s = -2) (est : st = h 23 s - (w : Int)) (hst : 0 ≤ st) (hw : w ≤ 30) (hT : T ≤ 4999)
    (hC : ∀ h', Fr SNT [] h h' → scr h' → CHO h' k st B → C B.1 h') : ∀ (e n : Nat) (t : Nat × Nat × Nat) (x : Int × Nat × Nat × Nat) (h1 : aH), e = T - n → VTF k w t → RF cnF k w t n = T → TS h s loud st k w t h1 → CHO h1 k st x → (-1 ≤ x.1 ∧ x.1 ≤ 1000000) → RF (TUP h s loud st k) k w t x = B →
    WL N 156 63 [(0, .inr (.inr 92)), (1, .inl (s : Int)), (3, .inl (k : Int)), (4, .inl (w : Int)), (5, .inl st), (7, .inr (.inl x.1)), (9, .inl 1), (10, .inl (n : Int))] h1 C := by
  have hz := P.1.1
  unfold okSz at hz
  have g2 := (P.1.2.2.2.1 s hs).2.1
  intro e
  induction e with
  | zero =>
    intro n t x h1 he v hn S X xb hB
    have := RF_gt (n := n) v
    omega
  | succ e ih =>
    intro n t x h1 he v hn S X xb hB
    have gt := RF_gt (n := n) v
    obtain ⟨hk3, hk1, hkw⟩ := VTF_k v
    have ub := UB_bd h s loud st hk3 t
    refine w_156_63 ⟨fun z => by omega, fun _ => ⟨fun z => absurd z (by decide), fun _ => ?_⟩⟩
    refine c_t71 v hw ⟨hst, by omega⟩ S (fun h2 f2 hm => ?_) k 0 h1 rfl (Nat.zero_le _) Fr.rfl (fun j hj => by omega)
    have S2 := S.fr (f2.mono (by decide) (by decide))
    obtain ⟨s1, s2, s3, s4, s5⟩ := S2
    have kp := s1.kp (by decide)
    refine w_156_71 ⟨fun _ => ?_, fun z => absurd (Int.le_refl _) z⟩
    have X2 : CHO h2 k st x := by unfold CHO at X ⊢; rw [f2.at 99 (by decide) (by decide)]; exact X
    have r := c_upWays (N := N) (s := s) (c := k) (mt := TMT st t) (hr := THR2 h s loud st t) (kp.pi P) s2.1 (by rw [kp.at 16 (by decide)]; exact hs) (by rw [kp.at 23 (by decide)]; omega) (by omega) s3 (fun j hj => ⟨(hm j hj).1, (hm j hj).2, HEAR_rg _ _ _ _ _ _ _, by
      have := TRI_le v hj
      unfold TMT
      omega⟩) (fun j hj => by have := TRI_srt v hj; unfold TMT; omega) (C := fun r1 h1' =>
        ((am_sgn (r1 - x.1)) ≤ 0 → WI N 157 0 [(0, .inr (.inr 92)), (1, .inl (k : Int)), (2, .inl (w : Int))] h1' (fun r2 h2' => am_rg ((n : Int) + 1) ∧ WL N 156 63 [(0, .inr (.inr 92)), (1, .inl (s : Int)), (3, .inl (k : Int)), (4, .inl (w : Int)), (5, .inl st), (7, .inr (.inl x.1)), (9, .inl r2), (10, .inl ((n : Int) + 1))] h2' C)) ∧
        (¬ ((am_sgn (r1 - x.1)) ≤ 0) → (0 ≤ (k : Int) ∧ 0 ≤ (0 : Int) ∧ 0 ≤ (0 : Int) ∧ (0 : Int) + (k : Int) ≤ (8 : Nat) ∧ (0 : Int) + (k : Int) ≤ (3 : Nat)) ∧ WI N 157 0 [(0, .inr (.inr 92)), (1, .inl (k : Int)), (2, .inl (w : Int))] (am_cp h1' 93 0 99 0 (k : Int).toNat) (fun r3 h3' => am_rg ((n : Int) + 1) ∧ WL N 156 63 [(0, .inr (.inr 92)), (1, .inl (s : Int)), (3, .inl (k : Int)), (4, .inl (w : Int)), (5, .inl st), (7, .inr (.inl r1)), (9, .inl r3), (10, .inl ((n : Int) + 1))] h3' C))) (fun h3 f3 d3 => ?_)
    · exact r
    · have eU : UPV (TMT st t) (THR2 h s loud st t) (AGN h2 s) (h2 23 s) k = UB h s loud st k t := by rw [kp.agn, kp.at 23 (by decide)]; rfl
      rw [eU]
      have S3 : TS h s loud st k w t h3 := ⟨s1.trans (f3.mono (by decide) (by decide)), ⟨d3, by rw [f3.at 28 (by decide) (by decide)]; exact s2.2⟩, by rw [f3.at 92 (by decide) (by decide)]; exact s3, fun j hj => by rw [f3.at 98 (by decide) (by decide)]; exact s4 j hj, fun i hi => by rw [f3.at 100 (by decide) (by decide)]; exact s5 i hi⟩
      have X3 : CHO h3 k st x := by unfold CHO at X2 ⊢; rw [f3.at 99 (by decide) (by decide)]; exact X2
      have eT : TUP h s loud st k t.1 t.2.1 t.2.2 x = if x.1 < UB h s loud st k t then (UB h s loud st k t, t) else x := rfl
      -- what comes then, with the new best
      have nxt : ∀ (y : Int × Nat × Nat × Nat) (h4 : aH), y = TUP h s loud st k t.1 t.2.1 t.2.2 x → TS h s loud st k w t h4 → CHO h4 k st y → (-1 ≤ y.1 ∧ y.1 ≤ 1000000) → WI N 157 0 [(0, .inr (.inr 92)), (1, .inl (k : Int)), (2, .inl (w : Int))] h4 (fun r3 h3' => am_rg ((n : Int) + 1) ∧ WL N 156 63 [(0, .inr (.inr 92)), (1, .inl (s : Int)), (3, .inl (k : Int)), (4, .inl (w : Int)), (5, .inl st), (7, .inr (.inl y.1)), (9, .inl r3), (10, .inl ((n : Int) + 1))] h3' C) := by
        intro y h4 ey S4 X4 yb
        refine c_pickNext v hw S4.2.2.2.1 (fun t' q h5 f5 p5 => ck_rg (by omega) ?_) (fun q => ck_rg (by omega) ?_)
        · obtain ⟨v', eb⟩ := RF_some (u := TUP h s loud st k) (x := x) v q
          have ec := (RF_some (u := cnF) (x := n) v q).2
          rw [← ey] at eb
          refine ih (n + 1) t' y h5 (by omega) v' (by rw [← hn, ec]; rfl) ⟨S4.1.trans (f5.mono (by decide) (by decide)), ⟨f5.dz (by decide) (by decide) (by decide) S4.2.1.1, by rw [f5.at 28 (by decide) (by decide)]; exact S4.2.1.2⟩, by rw [f5.at 92 (by decide) (by decide)]; exact S4.2.2.1, p5, fun i hi => by rw [f5.at 100 (by decide) (by decide)]; exact S4.2.2.2.2 i hi⟩ ?_ yb (by rw [← hB, eb])
          unfold CHO at X4 ⊢
          rw [f5.at 99 (by decide) (by decide)]
          exact X4
        · have eb := RF_none (u := TUP h s loud st k) (x := x) v q
          rw [hB, ← ey] at eb
          rw [← eb]
          rw [← eb] at X4
          exact w_156_63 ⟨fun _ => hC h4 S4.1 S4.2.1 X4, fun _ => ⟨fun _ => hC h4 S4.1 S4.2.1 X4, fun z => absurd rfl z⟩⟩
      simp only [sgn_le]
      refine ⟨fun le => ?_, fun gt2 => ⟨by omega, ?_⟩⟩
      · refine nxt x h3 ?_ S3 X3 xb
        rw [eT, if_neg (by omega)]
      · have f4 : Fr [99] [] h3 (am_cp h3 93 0 99 0 (k : Int).toNat) := Fr.rfl.cp (by decide) (by decide)
        refine nxt (UB h s loud st k t, t) _ ?_ (S3.fr (f4.mono (by decide) (by decide))) (fun _ i hi => ?_) (by dsimp only; omega)
        · rw [eT, if_pos (by omega)]
        · rw [cp_in, if_pos ⟨Nat.zero_le _, by omega⟩, f3.at 93 (by decide) (by decide), show 0 + (i - 0) = i by omega]
          exact (hm i hi).1
theorem c_t43 {N : Nat} {C : Int → aH → Prop} {h : aH} {s k w : Nat} {loud st : Int} (P : PI h) (hs : (s : Int) < h 16 16) (hh : ¬ h 23 s = -2) (est : st = h 23 s - (w : Int)) (hst : 0 ≤ st) (hw : w ≤ 30) (h1k : 1 ≤ k) (hk3 : k ≤ 3) (hkw : k ≤ w + 1)
    (hC : ∀ h', Fr SNT [] h h' → scr h' → (∀ i, i < k → h' 99 i = TMT st (TBEST h s loud k w).2 i) → C (TBEST h s loud k w).1 h') : ∀ (d i : Nat) (h1 : aH), d = k - i → i ≤ k → Fr SNT [] h h1 → scr h1 → (∀ j, j < i → h1 98 j = (j : Int)) → (∀ i, i ≤ w → h1 100 i = HEAR h s (h 63 s) (WOF h s) loud (h 63 s) (st + (i : Int))) →
    WL N 156 43 [(0, .inr (.inr 92)), (1, .inl (s : Int)), (3, .inl (k : Int)), (4, .inl (w : Int)), (5, .inl st), (7, .inl (i : Int))] h1 C := by
  intro d
  induction d with
  | zero =>
    intro i h1 hd hi f sc hp ha
    have : i = k := by omega
    subst this
    have v := IN0_ok h1k hk3 hkw
    refine w_156_43 ⟨fun _ => ?_, fun z => absurd (Int.le_refl _) z⟩
    have f2 : Fr [92] [] h1 (am_up h1 92 11 (i : Int)) := Fr.rfl.up (by decide) (by decide)
    have hcn := of_decide_eq_true (all_rg (all_rg RF_cnt (show w < 31 by omega)) (show i < 4 by omega))
    rw [RF_all h1k hk3 hkw] at hcn
    have tb := (TB_ok (h := h) (s := s) (loud := loud) (st := st) (w := w) (t := IN0 i w) (x := (-1, (0, 0, 0))) hk3).1
    refine c_t63 (B := TBEST h s loud i w) P hs hh est hst hw hcn (fun h' fr sc' ch => hC h' fr sc' (ch ?_)) (RF cnF i w (IN0 i w) 0 - 0) 0 (IN0 i w) (-1, (0, 0, 0)) _ rfl v rfl ⟨f.trans (f2.mono (by decide) (by decide)), ⟨f2.dz (by decide) (by decide) (by decide) sc.1, by rw [f2.at 28 (by decide) (by decide)]; exact sc.2⟩, up_same _ _ _ _, fun j hj => ?_, fun j hj => by rw [f2.at 100 (by decide) (by decide)]; exact ha j hj⟩ (fun z => absurd z (by decide)) (by decide) (by rw [est]; rfl)
    · unfold TBEST
      cases q : NXF i w (IN0 i w) with
      | none =>
        rw [RF_none v q]
        have ub := UB_bd h s loud (h 23 s - (w : Int)) hk3 (IN0 i w)
        show 0 ≤ (if (-1 : Int) < UB h s loud (h 23 s - (w : Int)) i (IN0 i w) then (UB h s loud (h 23 s - (w : Int)) i (IN0 i w), IN0 i w) else (-1, (0, 0, 0))).1
        rw [if_pos (by omega)]
        exact ub.1
      | some t' =>
        rw [(RF_some v q).2]
        have ub := UB_bd h s loud (h 23 s - (w : Int)) hk3 (IN0 i w)
        refine (TB_ok hk3).1 ?_
        show 0 ≤ (if (-1 : Int) < UB h s loud (h 23 s - (w : Int)) i (IN0 i w) then (UB h s loud (h 23 s - (w : Int)) i (IN0 i w), IN0 i w) else (-1, (0, 0, 0))).1
        rw [if_pos (by omega)]
        exact ub.1
    · rw [up_row (by decide), hp j hj]
      have : i = 1 ∨ i = 2 ∨ i = 3 := by omega
      have hj3 : j = 0 ∨ j = 1 ∨ j = 2 := by omega
      rcases this with rfl | rfl | rfl <;> rcases hj3 with rfl | rfl | rfl <;> first | rfl | omega
  | succ d ih =>
    intro i h1 hd hi f sc hp ha
    refine w_156_43 ⟨fun z => by omega, fun _ => ?_⟩
    (repeat first | refine ck_ix (by omega) ?_ | refine ck_rg (by omega) ?_ | refine ck_rl (by omega) ?_)
    rw [Int.toNat_natCast]
    have f2 : Fr [98] [] h1 (am_up h1 98 i (i : Int)) := Fr.rfl.up (by decide) (by decide)
    refine ih (i + 1) _ (by omega) (by omega) (f.trans (f2.mono (by decide) (by decide))) ⟨f2.dz (by decide) (by decide) (by decide) sc.1, by rw [f2.at 28 (by decide) (by decide)]; exact sc.2⟩ (fun j hj => ?_) (fun j hj => by rw [f2.at 100 (by decide) (by decide)]; exact ha j hj)
    rw [up_in]
    by_cases z : j = i
    · rw [if_pos z, z]
    · rw [if_neg z]; exact hp j (by omega)
theorem c_t17 {N : Nat} {C : Int → aH → Prop} {h : aH} {s k w : Nat} {loud st : Int} (P : PI h) (hs : (s : Int) < h 16 16) (hh : ¬ h 23 s = -2) (est : st = h 23 s - (w : Int)) (hst : 0 ≤ st) (hw : w ≤ 30) (h1k : 1 ≤ k) (hk3 : k ≤ 3) (hkw : k ≤ w + 1)
    (hC : ∀ h', Fr SNT [] h h' → scr h' → (∀ i, i < k → h' 99 i = TMT st (TBEST h s loud k w).2 i) → C (TBEST h s loud k w).1 h') : ∀ (d i : Nat) (h1 : aH), d = w + 1 - i → i ≤ w + 1 → Fr SNT [] h h1 → scr h1 → (∀ j, j < i → h1 100 j = HEAR h s (h 63 s) (WOF h s) loud (h 63 s) (st + (j : Int))) →
    WL N 156 17 [(0, .inr (.inr 92)), (1, .inl (s : Int)), (2, .inl loud), (3, .inl (k : Int)), (4, .inl (w : Int)), (5, .inl st), (6, .inl (h 63 s)), (7, .inl (i : Int))] h1 C := by
  have hz := P.1.1
  unfold okSz at hz
  have g2 := (P.1.2.2.2.1 s hs).2.1
  have hl := P.2.1.1 s hs
  intro d
  induction d with
  | zero =>
    intro i h1 hd hi f sc ha
    have : i = w + 1 := by omega
    subst this
    exact w_156_17 ⟨fun _ => c_t43 P hs hh est hst hw h1k hk3 hkw hC k 0 h1 rfl (Nat.zero_le _) f sc (fun j hj => by omega) (fun j hj => ha j (by omega)), fun z => absurd (show (w : Int) < ((w + 1 : Nat) : Int) by omega) z⟩
  | succ d ih =>
    intro i h1 hd hi f sc ha
    have kp := f.kp (by decide)
    have ew : am_and (am_shr (h1 58 11) (s : Int)) 1 = WOF h s := by
      have : WOF h1 s = WOF h s := by rw [kp.wof]
      exact this
    refine w_156_17 ⟨fun z => by omega, fun _ => w_77_0 ?_⟩
    rw [ew]
    refine ck_rg (by omega) (c_hearing (kp.pi P).1 sc.2 ⟨by omega, by rw [kp.at 16 (by decide)]; exact hs⟩ ⟨hl.1, by rw [kp.at 16 (by decide)]; exact hl.2.1⟩ ⟨hl.1, by rw [kp.at 16 (by decide)]; exact hl.2.1⟩ (fun h2 f2 e6 => ?_))
    rw [kp.hear]
    (repeat first | refine ck_ix (by omega) ?_ | refine ck_rg (by omega) ?_ | refine ck_rl (by omega) ?_)
    rw [Int.toNat_natCast]
    have f3 : Fr [28, 31, 100] [] h1 (am_up h2 100 i (HEAR h s (h 63 s) (WOF h s) loud (h 63 s) (st + (i : Int)))) := (f2.mono (by decide) (by decide)).up (by decide) (by decide)
    refine ih (i + 1) _ (by omega) (by omega) (f.trans (f3.mono (by decide) (by decide))) ⟨f3.dz (by decide) (by decide) (by decide) sc.1, by rw [up_row (by decide)]; exact e6⟩ (fun j hj => ?_)
    rw [up_in]
    by_cases z : j = i
    · rw [if_pos z, z]
    · rw [if_neg z, f2.at 100 (by decide) (by decide)]; exact ha j (by omega)
theorem c_ringOften {N : Nat} {C : Int → aH → Prop} {h : aH} {s k w : Nat} {loud : Int} (P : PI h) (sc : scr h) (ok : TOK h s loud k w)
    (hC : ∀ h', Fr SNT [] h h' → scr h' → (∀ i, i < k → h' 99 i = TMT (h 23 s - (w : Int)) (TBEST h s loud k w).2 i) → C (TBEST h s loud k w).1 h') : WL N 156 0 [(0, .inr (.inr 92)), (1, .inl (s : Int)), (2, .inl loud), (3, .inl (k : Int)), (4, .inl (w : Int))] h C := by
  have hz := P.1.1
  unfold okSz at hz
  obtain ⟨o1, o2, o3, o4, o5, o6, o7⟩ := ok
  rw [Int.toNat_natCast] at o5 o6
  have g2 := (P.1.2.2.2.1 s o1.2).2.1
  refine w_156_0 ?_
  (repeat first | refine ck_ix (by omega) ?_ | refine ck_rg (by omega) ?_ | refine ck_rl (by omega) ?_)
  rw [Int.toNat_natCast]
  refine ck_rg (by omega) (ck_ix (by omega) ?_)
  exact c_t17 P o1.2 o5 rfl o6 (by omega) (by omega) (by omega) (by omega) hC (w + 1) 0 h rfl (Nat.zero_le _) Fr.rfl sc (fun j hj => by omega)
theorem c_twice {N : Nat} {C : Int → aH → Prop} {h : aH} {s loud k w : Int} (P : PI h) (sc : scr h) (hC : ∀ h', Fr SNT [] h h' → scr h' → C (vTwice h s loud k w) h') : WL N 154 0 [(0, .inr (.inr 9)), (1, .inl s), (2, .inl loud), (3, .inl k), (4, .inl w)] h C := by
  unfold vTwice at hC
  refine w_154_0 (c_mrt P (fun ok => z1 ?_) (fun no => z0 ?_))
  · rw [if_pos ok] at hC
    obtain ⟨s, rfl⟩ := Int.eq_ofNat_of_zero_le ok.1.1
    obtain ⟨k, rfl⟩ := Int.eq_ofNat_of_zero_le (show 0 ≤ k by have := ok.2.2.1; omega)
    obtain ⟨w, rfl⟩ := Int.eq_ofNat_of_zero_le ok.2.2.2.1.1
    exact c_ringOften P sc ok (fun h' f s' _ => hC h' f s')
  · rw [if_neg no] at hC; exact hC h Fr.rfl sc
theorem c_twiceAt {N : Nat} {C : Int → aH → Prop} {h : aH} {s loud k w i : Int} (P : PI h) (sc : scr h) (hC : ∀ h', Fr SNT [] h h' → scr h' → C (vTwiceAt h s loud k w i) h') : WI N 158 0 [(0, .inr (.inr 9)), (1, .inl s), (2, .inl loud), (3, .inl k), (4, .inl w), (5, .inl i)] h C := by
  unfold vTwiceAt at hC
  refine w_158_0 (c_mrt P (fun ok => z1 ?_) (fun no => z0 ?_))
  · refine ⟨fun a => ?_, fun a => ⟨fun b => ?_, fun b => ?_⟩⟩
    · rw [if_neg (fun z => by have := z.2; omega)] at hC; exact hC h Fr.rfl sc
    · rw [if_pos ⟨ok, by omega, b⟩] at hC
      obtain ⟨s, rfl⟩ := Int.eq_ofNat_of_zero_le ok.1.1
      obtain ⟨k, rfl⟩ := Int.eq_ofNat_of_zero_le (show 0 ≤ k by have := ok.2.2.1; omega)
      obtain ⟨w, rfl⟩ := Int.eq_ofNat_of_zero_le ok.2.2.2.1.1
      have k3 := ok.2.2.1
      refine c_ringOften P sc ok (fun h' f s' e => ck_ix (by omega) ?_)
      rw [e i.toNat (by omega)]
      exact hC h' f s'
    · rw [if_neg (fun z => b z.2.2)] at hC; exact hC h Fr.rfl sc
  · rw [if_neg (fun z => no z.1)] at hC; exact hC h Fr.rfl sc
