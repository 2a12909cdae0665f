/-! TWICE: the reference's -/
theorem UB_prm {h : aH} {s k : Nat} {loud st : Int} {t : Nat × Nat × Nat} (h1k : 1 ≤ k) (hle : ∀ j, j < k → TMT st t j ≤ h 23 s) : UB h s loud st k t = (prm (TMT st t) (THR2 h s loud st t) (AGN h s) (h 23 s) k k).1 := by
  have hu : unt (TMT st t) (h 23 s) k = k := unt_eq (Nat.le_refl _) hle (Or.inl rfl)
  unfold UB UPV
  rw [hu]
  obtain ⟨k, rfl⟩ : ∃ m, k = m + 1 := ⟨k - 1, by omega⟩
  rw [prm_succ, if_neg (Nat.lt_irrefl _)]
  show (nsH (TMT st t) (THR2 h s loud st t) (AGN h s) k).1 * (10 - AGN h s (h 23 s - TMT st t k)) * 100 ^ (k + 1 - (k + 1)) = (10 - AGN h s (h 23 s - TMT st t k)) * (nsH (TMT st t) (THR2 h s loud st t) (AGN h s) k).1
  rw [Nat.sub_self, Int.pow_zero, Int.mul_one, Int.mul_comm]
theorem m_ub {N : Nat} {C : Int → aH → Prop} {h : aH} {s k : Nat} {loud st : Int} {t : Nat × Nat × Nat} (P : PI h) (R : RelH h) (Q : RelP h) (hs : (s : Int) < h 16 16) (hloud : 1 ≤ loud ∧ loud ≤ 12) (hk3 : k ≤ 3) (hst : 0 ≤ st) (hle : ∀ j, j < k → TMT st t j ≤ h 23 s) (hra : ∀ j, j < k → h 179 j = TMT st t j)
    (hC : ∀ h', Fr [159, 160] [] h h' → C (prm (TMT st t) (THR2 h s loud st t) (AGN h s) (h 23 s) k k).1 h') : ∀ (d j : Nat) (h1 : aH), d = k - j → j ≤ k → Fr [159, 160] [] h h1 →
    WL N 314 7 [(0, .inr (.inr 130)), (1, .inl (s : Int)), (2, .inl loud), (3, .inl (k : Int)), (4, .inr (.inl (prm (TMT st t) (THR2 h s loud st t) (AGN h s) (h 23 s) k j).2)), (6, .inr (.inl (prm (TMT st t) (THR2 h s loud st t) (AGN h s) (h 23 s) k j).1)), (8, .inl (j : Int))] h1 C := by
  have hz := P.1.1
  unfold okSz at hz
  have h399 : h 23 s ≤ 399 := by have := (P.1.2.2.2.1 s hs).2.1; omega
  have hag : ∀ x, 0 ≤ AGN h s x ∧ AGN h s x ≤ 10 := fun x => AGD_rg _ _ _
  have hhr : ∀ j, 0 ≤ THR2 h s loud st t j ∧ THR2 h s loud st t j ≤ 10 := fun j => HEAR_rg _ _ _ _ _ _ _
  have hmt : ∀ j, j < k → 0 ≤ TMT st t j ∧ TMT st t j ≤ 399 := fun j hj => by have := hle j hj; unfold TMT at this ⊢; omega
  have hl := P.2.1.1 s hs
  obtain ⟨q1, q2⟩ := Q.2.2 s hs
  intro d
  induction d with
  | zero =>
    intro j h1 hd hj hf
    have : j = k := by omega
    subst this
    exact w_314_7 ⟨fun _ => hC h1 hf, fun z => absurd (Int.le_refl _) z⟩
  | succ d ih =>
    intro j h1 hd hj hf
    have kp := hf.kp (by decide)
    have km := hf.km (by decide) (by decide)
    have hjk : j < k := by omega
    have b161 : h1 161 s = h 63 s := by rw [hf.at 161 (by decide) (by decide)]; exact q1
    have b162 : h1 162 s = WOF h s := by rw [hf.at 162 (by decide) (by decide)]; exact q2
    refine w_314_7 ⟨fun z => by omega, fun _ => ?_⟩
    (repeat first | refine ck_ix (by omega) ?_ | refine ck_rg (by omega) ?_ | refine ck_rl (by omega) ?_)
    simp only [Int.toNat_natCast]
    rw [hf.at 179 (by decide) (by decide), hra j hjk, b161]
    refine m_hearing (kp.pi P).1 (R.keep kp km) ⟨by omega, by rw [kp.at 16 (by decide)]; exact hs⟩ (by rw [Int.toNat_natCast, b161, kp.at 16 (by decide)]; exact ⟨hl.1, hl.2.1⟩) (by rw [Int.toNat_natCast, b162]; exact WOF_tf h s) (by rw [kp.at 16 (by decide)]; exact ⟨hl.1, hl.2.1⟩) (by omega) (fun h2 hf2 => ?_)
    have f2 := hf.trans hf2
    have kp2 := f2.kp (by decide)
    have km2 := f2.km (by decide) (by decide)
    rw [Int.toNat_natCast, b161, b162, kp.hear, f2.at 179 (by decide) (by decide), hra j hjk, show HEAR h s (h 63 s) (WOF h s) loud (h 63 s) (TMT st t j) = THR2 h s loud st t j from rfl]
    obtain ⟨b1, b2, b3⟩ := prm_bd (mt := TMT st t) (hr := THR2 h s loud st t) (hour := h 23 s) (u := k) hag (k := j) (fun j _ => hhr j)
    have hp7 : (100 : Int) ^ j ≤ 100 ^ 3 := p100_le (by omega)
    have h7 : (100 : Int) ^ 3 = 1000000 := by decide
    have E := fun h3 => ih (j + 1) h3 (by omega) (by omega)
    have hH := prm_H (mt := TMT st t) (hr := THR2 h s loud st t) (ag := AGN h s) (hour := h 23 s) hjk
    simp only [prm] at E
    rw [← hH] at E
    simp only [evH, evA] at E
    have hx := hhr j
    have hmj := hmt j hjk
    have hlj := hle j hjk
    generalize (prm (TMT st t) (THR2 h s loud st t) (AGN h s) (h 23 s) k j).1 = a at *
    generalize (prm (TMT st t) (THR2 h s loud st t) (AGN h s) (h 23 s) k j).2 = b at *
    generalize hxx : THR2 h s loud st t j = x at *
    have m1 := mul_bd (a := x) (b := b) (A := 10) (B := 1000000) hx.1 hx.2 b2 (by omega)
    have m2 := mul_bd (a := 10 - x) (b := b) (A := 10) (B := 1000000) (by omega) (by omega) b2 (by omega)
    generalize hq1 : 10 * a + x * b = q1 at *
    generalize hq2 : (10 - x) * b = q2 at *
    have tail : ∀ (g : Int) (h3 : aH), 0 ≤ g → g ≤ 10 → Fr [159, 160] [] h h3 → AGN h s ((if j + 1 < k then TMT st t (j + 1) else h 23 s) - TMT st t j) = g →
        am_rl ((10 : Int) * q2) ∧ am_rl (g * q1) ∧ am_rl ((10 : Int) * q2 + g * q1) ∧ am_rg ((10 : Int) - g) ∧ am_rl (((10 : Int) - g) * q1) ∧ am_rg ((j : Int) + 1) ∧ WL N 314 7 [(0, .inr (.inr 130)), (1, .inl (s : Int)), (2, .inl loud), (3, .inl (k : Int)), (4, .inr (.inl ((10 : Int) * q2 + g * q1))), (6, .inr (.inl (((10 : Int) - g) * q1))), (8, .inl ((j : Int) + 1))] h3 C := by
      intro g h3 g0 g10 hf3 hg
      have t1 := mul_bd (a := g) (b := q1) (A := 10) (B := 20000000) g0 g10 (by omega) (by omega)
      have t2 := mul_bd (a := 10 - g) (b := q1) (A := 10) (B := 20000000) (by omega) (by omega) (by omega) (by omega)
      (repeat first | refine ck_ix (by omega) ?_ | refine ck_rg (by omega) ?_ | refine ck_rl (by omega) ?_)
      have := E h3 hf3
      rw [hg] at this
      exact this
    (repeat first | refine ck_ix (by omega) ?_ | refine ck_rg (by omega) ?_ | refine ck_rl (by omega) ?_)
    refine ⟨fun hge => ?_, fun hlt => ?_⟩
    · have hg : ¬ j + 1 < k := by omega
      refine m_hour (kp2.pi P).1 (R.keep kp2 km2) (by rw [kp2.at 16 (by decide)]; exact hs) ?_
      rw [kp2.at 23 (by decide), f2.at 179 (by decide) (by decide), hra j hjk]
      (repeat first | refine ck_ix (by omega) ?_ | refine ck_rg (by omega) ?_ | refine ck_rl (by omega) ?_)
      refine m_asleepAgain (kp2.pi P).1 (R.keep kp2 km2) ⟨by omega, by rw [kp2.at 16 (by decide)]; exact hs⟩ (fun h3 hf3 => ?_)
      rw [kp2.agn]
      have := hag (h 23 s - TMT st t j)
      exact tail _ h3 this.1 this.2 (f2.trans hf3) (by rw [if_neg hg])
    · have hg : j + 1 < k := by omega
      have hm2 := hmt (j + 1) hg
      rw [show ((j : Int) + 1).toNat = j + 1 by omega, hra (j + 1) hg]
      (repeat first | refine ck_ix (by omega) ?_ | refine ck_rg (by omega) ?_ | refine ck_rl (by omega) ?_)
      refine m_asleepAgain (kp2.pi P).1 (R.keep kp2 km2) ⟨by omega, by rw [kp2.at 16 (by decide)]; exact hs⟩ (fun h3 hf3 => ?_)
      rw [kp2.agn]
      have := hag (TMT st t (j + 1) - TMT st t j)
      exact tail _ h3 this.1 this.2 (f2.trans hf3) (by rw [if_pos hg])
theorem m_upBy {N : Nat} {C : Int → aH → Prop} {h : aH} {s k : Nat} {loud st : Int} {t : Nat × Nat × Nat} (P : PI h) (R : RelH h) (Q : RelP h) (hs : (s : Int) < h 16 16) (hloud : 1 ≤ loud ∧ loud ≤ 12) (h1k : 1 ≤ k) (hk3 : k ≤ 3) (hst : 0 ≤ st) (hle : ∀ j, j < k → TMT st t j ≤ h 23 s) (hra : ∀ j, j < k → h 179 j = TMT st t j)
    (hC : ∀ h', Fr [159, 160] [] h h' → C (UB h s loud st k t) h') : WL N 314 0 [(0, .inr (.inr 130)), (1, .inl (s : Int)), (2, .inl loud), (3, .inl (k : Int))] h C := by
  rw [UB_prm h1k hle] at hC
  exact w_314_0 (m_ub P R Q hs hloud hk3 hst hle hra hC k 0 h rfl (Nat.zero_le _) Fr.rfl)
theorem UB_kp {h h' : aH} (kp : Kp h h') : UB h' = UB h := by
  funext s loud st k t
  have e : THR2 h' = THR2 h := by
    funext s loud st t j
    unfold THR2
    rw [kp.hear, kp.wof, kp.at 63 (by decide)]
  unfold UB
  rw [e, kp.agn, kp.at 23 (by decide)]
def MTW : List Nat := [159, 160, 179, 180]
/-- what is kept of the best -/
def RBE (h1 : aH) (st : Int) (x : Int × Nat × Nat × Nat) : Prop := 0 ≤ x.1 → ∀ i, i < 3 → h1 180 i = TMT st x.2 i
theorem m_tcp {N : Nat} {C : Int → aH → Prop} {h : aH} {s k w a b c : Nat} {loud st m : Int} {t : Nat × Nat × Nat} (hra : ∀ j, j < 3 → h 179 j = TMT st t j) (hC : ∀ h', Fr [180] [] h h' → (∀ i, i < 3 → h' 180 i = TMT st t i) → WL N 313 126 [(0, .inr (.inr 130)), (1, .inl (s : Int)), (2, .inl loud), (3, .inl (k : Int)), (4, .inl (w : Int)), (5, .inl st), (6, .inr (.inl m)), (8, .inl (a : Int)), (9, .inl (b : Int)), (10, .inl (c : Int))] h' C) : ∀ (d i : Nat) (h1 : aH), d = 3 - i → i ≤ 3 → Fr [180] [] h h1 → (∀ j, j < i → h1 180 j = TMT st t j) →
    WL N 313 112 [(0, .inr (.inr 130)), (1, .inl (s : Int)), (2, .inl loud), (3, .inl (k : Int)), (4, .inl (w : Int)), (5, .inl st), (6, .inr (.inl m)), (8, .inl (a : Int)), (9, .inl (b : Int)), (10, .inl (c : Int)), (13, .inl (i : Int))] h1 C := by
  intro d
  induction d with
  | zero =>
    intro i h1 hd hi f hj
    have : i = 3 := by omega
    subst this
    exact w_313_112 ⟨fun _ => hC h1 f hj, fun z => absurd (Int.le_refl _) z⟩
  | succ d ih =>
    intro i h1 hd hi f hj
    refine w_313_112 ⟨fun z => by omega, fun _ => ?_⟩
    (repeat first | refine ck_ix (by omega) ?_ | refine ck_rg (by omega) ?_ | refine ck_rl (by omega) ?_)
    rw [Int.toNat_natCast, f.at 179 (by decide) (by decide), hra i (by omega)]
    refine ih (i + 1) _ (by omega) (by omega) (f.up (by decide) (by decide)) (fun j hj2 => ?_)
    rw [up_in]
    by_cases z : j = i
    · rw [if_pos z, z]
    · rw [if_neg z]; exact hj j (by omega)
theorem m_t72 {N : Nat} {C : Int → aH → Prop} {h : aH} {s k w a b : Nat} {loud st : Int} (P : PI h) (R : RelH h) (Q : RelP h) (hs : (s : Int) < h 16 16) (hh : ¬ h 23 s = -2) (est : st = h 23 s - (w : Int)) (hst : 0 ≤ st) (hw : w ≤ 30) (hloud : 1 ≤ loud ∧ loud ≤ 12) (h1k : 1 ≤ k) (hk3 : k ≤ 3) (ha : a ≤ w) (hb : b ≤ w) {y : Int × Nat × Nat × Nat}
    (hC : ∀ h', Fr MTW [] h h' → RBE h' st y → WL N 313 59 [(0, .inr (.inr 130)), (1, .inl (s : Int)), (2, .inl loud), (3, .inl (k : Int)), (4, .inl (w : Int)), (5, .inl st), (6, .inr (.inl y.1)), (8, .inl (a : Int)), (9, .inl ((b : Int) + 1))] h' C) : ∀ (d c : Nat) (x : Int × Nat × Nat × Nat) (h1 : aH), d = w + 1 - c → c ≤ w + 1 → Fr MTW [] h h1 → RBE h1 st x → (-1 ≤ x.1 ∧ x.1 ≤ 1000000) → E3F (TUP h s loud st k) w a b c x = y →
    WL N 313 72 [(0, .inr (.inr 130)), (1, .inl (s : Int)), (2, .inl loud), (3, .inl (k : Int)), (4, .inl (w : Int)), (5, .inl st), (6, .inr (.inl x.1)), (8, .inl (a : Int)), (9, .inl (b : Int)), (10, .inl (c : Int))] h1 C := by
  have hz := P.1.1
  unfold okSz at hz
  have g2 := (P.1.2.2.2.1 s hs).2.1
  intro d
  induction d with
  | zero =>
    intro c x h1 hd hc f rb xb e
    rw [E3_e (by omega)] at e
    subst e
    exact w_313_72 ⟨fun _ => ck_rg (by omega) (hC h1 f rb), fun z => absurd (show (w : Int) < (c : Int) by omega) z⟩
  | succ d ih =>
    intro c x h1 hd hc f rb xb e
    rw [E3_c (show c ≤ w by omega)] at e
    have kp := f.kp (by decide)
    refine w_313_72 ⟨fun z => by omega, fun _ => ?_⟩
    (repeat first | refine ck_ix (by omega) ?_ | refine ck_rg (by omega) ?_ | refine ck_rl (by omega) ?_)
    have f2 : Fr [179] [] h1 (am_up (am_up (am_up h1 179 0 (st + (a : Int))) 179 1 (st + (b : Int))) 179 2 (st + (c : Int))) := ((Fr.rfl.up (by decide) (by decide)).up (by decide) (by decide)).up (by decide) (by decide)
    have f12 := f.trans (f2.mono (C' := MTW) (D' := []) (by decide) (by decide))
    have kp2 := f12.kp (by decide)
    have hra : ∀ j, j < 3 → am_up (am_up (am_up h1 179 0 (st + (a : Int))) 179 1 (st + (b : Int))) 179 2 (st + (c : Int)) 179 j = TMT st (a, b, c) j := by
      intro j hj
      rw [up_in, up_in, up_in]
      have : j = 0 ∨ j = 1 ∨ j = 2 := by omega
      rcases this with rfl | rfl | rfl <;> rfl
    have hle : ∀ j, TMT st (a, b, c) j ≤ h 23 s := by
      intro j
      unfold TMT TRI
      dsimp only
      split
      · omega
      · split <;> omega
    refine m_upBy (t := (a, b, c)) (kp2.pi P) (R.mv f12 (by decide) (by decide) (by decide)) (Q.keep kp2 f12 (by decide) (by decide)) (by rw [kp2.at 16 (by decide)]; exact hs) hloud h1k hk3 hst (fun j _ => by rw [kp2.at 23 (by decide)]; exact hle j) (fun j hj => hra j (by omega)) (fun h3 f3 => ?_)
    rw [UB_kp kp2]
    have f13 := f12.trans (f3.mono (C' := MTW) (D' := []) (by decide) (by decide))
    have ub := UB_bd h s loud st hk3 (a, b, c)
    have eT : TUP h s loud st k a b c x = if x.1 < UB h s loud st k (a, b, c) then (UB h s loud st k (a, b, c), (a, b, c)) else x := rfl
    simp only [sgn_gt]
    refine ⟨fun gt => ?_, fun le => ?_⟩
    · rw [eT, if_pos (by omega)] at e
      refine m_tcp (t := (a, b, c)) (fun j hj => by rw [f3.at 179 (by decide) (by decide)]; exact hra j hj) (fun h4 f4 rb4 => w_313_126 (ck_rg (by omega) ?_)) 3 0 h3 rfl (Nat.zero_le _) Fr.rfl (fun j hj => by omega)
      exact ih (c + 1) _ h4 (by omega) (by omega) (f13.trans (f4.mono (by decide) (by decide))) (fun _ => rb4) (by dsimp only; omega) e
    · rw [eT, if_neg (by omega)] at e
      refine w_313_126 (ck_rg (by omega) ?_)
      refine ih (c + 1) x h3 (by omega) (by omega) f13 ?_ xb e
      unfold RBE at rb ⊢
      rw [f3.at 180 (by decide) (by decide), f2.at 180 (by decide) (by decide)]
      exact rb
theorem E3_bd {h : aH} {s k w a b c : Nat} {loud st : Int} (hk3 : k ≤ 3) {x : Int × Nat × Nat × Nat} (xb : -1 ≤ x.1 ∧ x.1 ≤ 1000000) : -1 ≤ (E3F (TUP h s loud st k) w a b c x).1 ∧ (E3F (TUP h s loud st k) w a b c x).1 ≤ 1000000 := by
  refine lp_inv (I := fun x : Int × Nat × Nat × Nat => -1 ≤ x.1 ∧ x.1 ≤ 1000000) (fun c x hx => ?_) _ _ _ xb
  have := UB_bd h s loud st hk3 (a, b, c)
  unfold TUP
  split
  · dsimp only; omega
  · exact hx
theorem m_t59 {N : Nat} {C : Int → aH → Prop} {h : aH} {s k w a : Nat} {loud st : Int} (P : PI h) (R : RelH h) (Q : RelP h) (hs : (s : Int) < h 16 16) (hh : ¬ h 23 s = -2) (est : st = h 23 s - (w : Int)) (hst : 0 ≤ st) (hw : w ≤ 30) (hloud : 1 ≤ loud ∧ loud ≤ 12) (h1k : 1 ≤ k) (hk3 : k ≤ 3) (ha : a ≤ w) {y : Int × Nat × Nat × Nat}
    (hC : ∀ h', Fr MTW [] h h' → RBE h' st y → WL N 313 46 [(0, .inr (.inr 130)), (1, .inl (s : Int)), (2, .inl loud), (3, .inl (k : Int)), (4, .inl (w : Int)), (5, .inl st), (6, .inr (.inl y.1)), (8, .inl ((a : Int) + 1))] h' C) : ∀ (d b : Nat) (x : Int × Nat × Nat × Nat) (h1 : aH), d = w + 1 - b → b ≤ w + 1 → Fr MTW [] h h1 → RBE h1 st x → (-1 ≤ x.1 ∧ x.1 ≤ 1000000) → E2F (TUP h s loud st k) k w a b x = y →
    WL N 313 59 [(0, .inr (.inr 130)), (1, .inl (s : Int)), (2, .inl loud), (3, .inl (k : Int)), (4, .inl (w : Int)), (5, .inl st), (6, .inr (.inl x.1)), (8, .inl (a : Int)), (9, .inl (b : Int))] h1 C := by
  intro d
  induction d with
  | zero =>
    intro b x h1 hd hb f rb xb e
    rw [E2_e (by omega)] at e
    subst e
    exact w_313_59 ⟨fun _ => ck_rg (by omega) (hC h1 f rb), fun z => absurd (show (w : Int) < (b : Int) by omega) z⟩
  | succ d ih =>
    intro b x h1 hd hb f rb xb e
    rw [E2_c (show b ≤ w by omega)] at e
    have nx : c0F k w b ≤ w + 1 → WL N 313 72 [(0, .inr (.inr 130)), (1, .inl (s : Int)), (2, .inl loud), (3, .inl (k : Int)), (4, .inl (w : Int)), (5, .inl st), (6, .inr (.inl x.1)), (8, .inl (a : Int)), (9, .inl (b : Int)), (10, .inl (c0F k w b : Int))] h1 C := by
      intro hc
      exact m_t72 P R Q hs hh est hst hw hloud h1k hk3 ha (show b ≤ w by omega) (fun h2 f2 rb2 => ih (b + 1) _ h2 (by omega) (by omega) f2 rb2 (E3_bd hk3 xb) e) _ (c0F k w b) x h1 rfl hc f rb xb rfl
    refine w_313_59 ⟨fun z => by omega, fun _ => ⟨fun le => ?_, fun gt => ?_⟩⟩
    · have : c0F k w b = w := by unfold c0F; rw [if_neg (by omega)]
      rw [this] at nx
      exact nx (by omega)
    · have : c0F k w b = b + 1 := by unfold c0F; rw [if_pos (by omega)]
      rw [this] at nx
      exact ck_rg (by omega) (nx (by omega))
theorem E2_bd {h : aH} {s k w a b : Nat} {loud st : Int} (hk3 : k ≤ 3) {x : Int × Nat × Nat × Nat} (xb : -1 ≤ x.1 ∧ x.1 ≤ 1000000) : -1 ≤ (E2F (TUP h s loud st k) k w a b x).1 ∧ (E2F (TUP h s loud st k) k w a b x).1 ≤ 1000000 :=
  lp_inv (I := fun x : Int × Nat × Nat × Nat => -1 ≤ x.1 ∧ x.1 ≤ 1000000) (fun _ _ hx => E3_bd hk3 hx) _ _ _ xb
theorem m_t46 {N : Nat} {C : Int → aH → Prop} {h : aH} {s k w : Nat} {loud st : Int} (P : PI h) (R : RelH h) (Q : RelP h) (hs : (s : Int) < h 16 16) (hh : ¬ h 23 s = -2) (est : st = h 23 s - (w : Int)) (hst : 0 ≤ st) (hw : w ≤ 30) (hloud : 1 ≤ loud ∧ loud ≤ 12) (h1k : 1 ≤ k) (hk3 : k ≤ 3) {y : Int × Nat × Nat × Nat}
    (hC : ∀ h', Fr MTW [] h h' → RBE h' st y → C y.1 h') : ∀ (d a : Nat) (x : Int × Nat × Nat × Nat) (h1 : aH), d = w + 1 - a → a ≤ w + 1 → Fr MTW [] h h1 → RBE h1 st x → (-1 ≤ x.1 ∧ x.1 ≤ 1000000) → E1F (TUP h s loud st k) k w a x = y →
    WL N 313 46 [(0, .inr (.inr 130)), (1, .inl (s : Int)), (2, .inl loud), (3, .inl (k : Int)), (4, .inl (w : Int)), (5, .inl st), (6, .inr (.inl x.1)), (8, .inl (a : Int))] h1 C := by
  intro d
  induction d with
  | zero =>
    intro a x h1 hd ha f rb xb e
    rw [E1_e (by omega)] at e
    subst e
    exact w_313_46 ⟨fun _ => hC h1 f rb, fun z => absurd (show (w : Int) < (a : Int) by omega) z⟩
  | succ d ih =>
    intro a x h1 hd ha f rb xb e
    rw [E1_c (show a ≤ w by omega)] at e
    have nx : b0F k w a ≤ w + 1 → WL N 313 59 [(0, .inr (.inr 130)), (1, .inl (s : Int)), (2, .inl loud), (3, .inl (k : Int)), (4, .inl (w : Int)), (5, .inl st), (6, .inr (.inl x.1)), (8, .inl (a : Int)), (9, .inl (b0F k w a : Int))] h1 C := by
      intro hc
      exact m_t59 P R Q hs hh est hst hw hloud h1k hk3 (show a ≤ w by omega) (fun h2 f2 rb2 => ih (a + 1) _ h2 (by omega) (by omega) f2 rb2 (E2_bd hk3 xb) e) _ (b0F k w a) x h1 rfl hc f rb xb rfl
    refine w_313_46 ⟨fun z => by omega, fun _ => ⟨fun le => ?_, fun gt => ?_⟩⟩
    · have : b0F k w a = w := by unfold b0F; rw [if_neg (by omega)]
      rw [this] at nx
      exact nx (by omega)
    · have : b0F k w a = a + 1 := by unfold b0F; rw [if_pos (by omega)]
      rw [this] at nx
      exact ck_rg (by omega) (nx (by omega))
theorem m_twiceBest {N : Nat} {C : Int → aH → Prop} {h : aH} {s loud k w : Int} (P : PI h) (R : RelH h) (Q : RelP h) (hY : TOK h s loud k w → ∀ h', Fr MTW [] h h' → RBE h' (h 23 s.toNat - w) (TBEST h s.toNat loud k.toNat w.toNat) → C (TBEST h s.toNat loud k.toNat w.toNat).1 h') (hN : ¬ TOK h s loud k w → C (-1) h) : WL N 313 0 [(0, .inr (.inr 130)), (1, .inl s), (2, .inl loud), (3, .inl k), (4, .inl w)] h C := by
  have hz := P.1.1
  unfold okSz at hz
  refine w_313_0 (m_isSleeper P.1 R (fun o1 => z1 (m_isLoud (fun o2 => z1 (m_in (fun o3 => z1 (m_in (fun o4 => z1 ?_) (fun q => z0 (w_313_33 (hN (fun z => q z.2.2.2.1)))))) (fun q => z0 (w_313_33 (hN (fun z => q z.2.2.1)))))) (fun q => z0 (w_313_33 (hN (fun z => q z.2.1)))))) (fun q => z0 (w_313_33 (hN (fun z => q z.1)))))
  obtain ⟨s, rfl⟩ := Int.eq_ofNat_of_zero_le o1.1
  obtain ⟨k, rfl⟩ := Int.eq_ofNat_of_zero_le (show 0 ≤ k by omega)
  obtain ⟨w, rfl⟩ := Int.eq_ofNat_of_zero_le o4.1
  simp only [Int.toNat_natCast] at hY
  have g2 := (P.1.2.2.2.1 s o1.2).2.1
  refine m_hour P.1 R o1.2 ⟨fun lt => w_313_33 (hN (fun z => z.2.2.2.2.1 (by rw [Int.toNat_natCast]; omega))), fun ge => m_hour P.1 R o1.2 (ck_rg (by omega) ⟨fun lt => w_313_33 (hN (fun z => by have := z.2.2.2.2.2.1; rw [Int.toNat_natCast] at this; omega)), fun ge2 => ck_rg (by omega) ⟨fun le => m_hour P.1 R o1.2 (ck_rg (by omega) ?_), fun gt => w_313_33 (hN (fun z => gt z.2.2.2.2.2.2))⟩⟩)⟩
  have ok : TOK h s loud k w := ⟨o1, o2, o3, o4, by rw [Int.toNat_natCast]; omega, by rw [Int.toNat_natCast]; omega, le⟩
  refine m_t46 (y := TBEST h s loud k w) (x := (-1, (0, 0, 0))) P R Q o1.2 (by omega) rfl (by omega) (by omega) o2 (by omega) (by omega) (hY ok) (w + 1) 0 h rfl (Nat.zero_le _) Fr.rfl (fun z => absurd z (by decide)) (by decide) ?_
  unfold TBEST
  exact RF_all (by omega) (by omega) (by omega)
theorem m_twice {N : Nat} {C : Int → aH → Prop} {h : aH} {s loud k w : Int} (P : PI h) (R : RelH h) (Q : RelP h) (hC : ∀ h', Fr MTW [] h h' → C (vTwice h s loud k w) h') : WL N 312 0 [(0, .inr (.inr 130)), (1, .inl s), (2, .inl loud), (3, .inl k), (4, .inl w)] h C := by
  unfold vTwice at hC
  refine w_312_0 (m_twiceBest P R Q (fun ok h' f _ => ?_) (fun no => ?_))
  · rw [if_pos ok] at hC; exact hC h' f
  · rw [if_neg no] at hC; exact hC h Fr.rfl
theorem TBEST_nn {h : aH} {s k w : Nat} {loud : Int} (h1k : 1 ≤ k) (hk3 : k ≤ 3) (hkw : k ≤ w + 1) : 0 ≤ (TBEST h s loud k w).1 := by
  have v := IN0_ok h1k hk3 hkw
  have ub := UB_bd h s loud (h 23 s - (w : Int)) hk3 (IN0 k w)
  unfold TBEST
  cases q : NXF k w (IN0 k w) with
  | none =>
    rw [RF_none v q]
    show 0 ≤ (if (-1 : Int) < UB h s loud (h 23 s - (w : Int)) k (IN0 k w) then (UB h s loud (h 23 s - (w : Int)) k (IN0 k w), IN0 k w) else (-1, (0, 0, 0))).1
    rw [if_pos (by omega)]
    exact ub.1
  | some t' =>
    rw [(RF_some v q).2]
    refine (TB_ok hk3).1 ?_
    show 0 ≤ (if (-1 : Int) < UB h s loud (h 23 s - (w : Int)) k (IN0 k w) then (UB h s loud (h 23 s - (w : Int)) k (IN0 k w), IN0 k w) else (-1, (0, 0, 0))).1
    rw [if_pos (by omega)]
    exact ub.1
theorem m_twiceAt {N : Nat} {C : Int → aH → Prop} {h : aH} {s loud k w i : Int} (P : PI h) (R : RelH h) (Q : RelP h) (hk : am_rg (k - 1)) (hC : ∀ h', Fr MTW [] h h' → C (vTwiceAt h s loud k w i) h') : WI N 315 0 [(0, .inr (.inr 130)), (1, .inl s), (2, .inl loud), (3, .inl k), (4, .inl w), (5, .inl i)] h C := by
  unfold vTwiceAt at hC
  refine w_315_0 (m_twiceBest P R Q (fun ok h' f rb => ?_) (fun no => ?_))
  · have k3 := ok.2.2.1
    have w3 := ok.2.2.2.1
    have nn := TBEST_nn (h := h) (s := s.toNat) (loud := loud) (k := k.toNat) (w := w.toNat) (by omega) (by omega) (by have := ok.2.2.2.2.2.2; omega)
    simp only [sgn_lt]
    refine ⟨fun z => by omega, fun _ => ⟨hk, m_in (fun q => y1 ?_) (fun q => y0 ?_)⟩⟩
    · rw [if_pos ⟨ok, by omega⟩] at hC
      refine ck_ix (by omega) ?_
      rw [rb nn i.toNat (by omega)]
      exact hC h' f
    · rw [if_neg (fun z => q (by have := z.2; omega))] at hC
      exact hC h' f
  · simp only [sgn_lt]
    refine ⟨fun _ => ?_, fun z => absurd (by decide) z⟩
    rw [if_neg (fun z => no z.1)] at hC
    exact hC h Fr.rfl
