/-! BEST TWO: the class weighs -/
def NMX (n k : Nat) : Nat := if k < n then k else if k = n then 8 else 9
def NRW (h : aH) (n c : Nat) (m1 m2 : Int) (h1 : aH) : Prop := h1 92 11 = (c : Int) ∧ ∀ j, j < c → h1 93 j = MX h n c m1 m2 j ∧ h1 94 j = (NMX n (ordI (KX h n m1 m2) c j) : Int)
theorem NRW.fr {h h1 h2 : aH} {n c : Nat} {m1 m2 : Int} {C D : List Nat} (a : NRW h n c m1 m2 h1) (f : Fr C D h1 h2) (c2 : 92 ∉ C) (c3 : 93 ∉ C) (c4 : 94 ∉ C) : NRW h n c m1 m2 h2 := by
  unfold NRW at a ⊢
  rw [f.at 92 c2 (by decide), f.at 93 c3 (by decide), f.at 94 c4 (by decide)]
  exact a
/-- one more is put into the night -/
theorem c_put {N : Nat} {C : Int → aH → Prop} {h h1 : aH} {n m : Nat} {m1 m2 x a : Int} (hm : m < 8) (R : NRW h n m m1 m2 h1) (ea : a = KX h n m1 m2 m) (ex : x = (NMX n m : Int)) (hC : ∀ h', Fr [92, 93, 94] [] h1 h' → NRW h n (m + 1) m1 m2 h' → C (ipos (fun j => KX h n m1 m2 (ordI (KX h n m1 m2) m j)) a m : Nat) h') : WI N 107 0 [(0, .inr (.inr 92)), (1, .inl x), (2, .inl a)] h1 C := by
  obtain ⟨r1, r2⟩ := R
  have hip : ipos (h1 93) a m = ipos (fun j => KX h n m1 m2 (ordI (KX h n m1 m2) m j)) a m := ipos_congr (fun j hj => (r2 j hj).1)
  have hpl := ipos_le (h1 93) a m
  refine c_insert hm r1 (fun h2 hf2 e1 e2 e3 => ?_)
  rw [hip]
  refine hC h2 hf2 ⟨by rw [e1]; omega, fun j hj => ?_⟩
  have e2 := e2 j (by omega)
  have e3 := e3 j (by omega)
  have eo : ordI (KX h n m1 m2) (m + 1) = insF (ordI (KX h n m1 m2) m) (ipos (fun j => KX h n m1 m2 (ordI (KX h n m1 m2) m j)) a m) m := by rw [ea]; rfl
  rw [e2, e3]
  unfold MX
  rw [eo, ← hip]
  unfold insF
  by_cases g1 : j < ipos (h1 93) a m
  · rw [if_pos g1, if_pos g1, if_pos g1]
    exact r2 j (by omega)
  · rw [if_neg g1, if_neg g1, if_neg g1]
    by_cases g2 : j = ipos (h1 93) a m
    · rw [if_pos g2, if_pos g2, if_pos g2]
      exact ⟨ea, ex⟩
    · rw [if_neg g2, if_neg g2, if_neg g2]
      exact r2 (j - 1) (by omega)
theorem HX_rg (h : aH) (n c : Nat) (m1 m2 : Int) (s : Nat) {x y : Int} (hx : 0 ≤ x ∧ x ≤ 10) (hy : 0 ≤ y ∧ y ≤ 10) (j : Nat) : 0 ≤ HX h n c m1 m2 s x y j ∧ HX h n c m1 m2 s x y j ≤ 10 := by
  unfold HX
  split
  · exact HRD_rg _ _ _ _ _
  · split
    · exact hx
    · exact hy
theorem KX_rg {h : aH} (P : PI h) {n : Nat} (hn : (n : Int) ≤ h 58 10) {m1 m2 : Int} (h1 : 0 ≤ m1 ∧ m1 ≤ 399) (h2 : 0 ≤ m2 ∧ m2 ≤ 399) (k : Nat) : 0 ≤ KX h n m1 m2 k ∧ KX h n m1 m2 k ≤ 399 := by
  unfold KX
  split
  · exact (P.2.2.1.2.2 k (by omega)).2.1
  · split
    · exact h1
    · exact h2
theorem SX_bd {h : aH} (P : PI h) {n c : Nat} (hc : c ≤ 8) {m1 m2 : Int} {s : Nat} (hs : s < NSL h) {x y : Int} (hx : 0 ≤ x ∧ x ≤ 10) (hy : 0 ≤ y ∧ y ≤ 10) : 0 ≤ SX h n c m1 m2 s x y ∧ SX h n c m1 m2 s x y ≤ 90000000000000000 := by
  have hp := p100_8 hc
  have := SHV_bd P.1 (s := s) (by unfold NSL at hs; omega) (mt := MX h n c m1 m2) (hr := HX h n c m1 m2 s x y) hc (fun j _ => HX_rg h n c m1 m2 s hx hy j)
  unfold SX
  omega
theorem c_sx {N : Nat} {C : Int → aH → Prop} {h h1 : aH} {n c s : Nat} {m1 m2 x y : Int} (P : PI h) (kp : Kp h h1) (d1 : okDz h1) (hn : (n : Int) ≤ h 58 10) (hc : c ≤ 8) (b1 : 0 ≤ m1 ∧ m1 ≤ 399) (b2 : 0 ≤ m2 ∧ m2 ≤ 399) (hs : s < NSL h) (hx : 0 ≤ x ∧ x ≤ 10) (hy : 0 ≤ y ∧ y ≤ 10) (R : NRW h n c m1 m2 h1) (L : ∀ j, j < c → h1 95 j = HX h n c m1 m2 s x y j) (hC : ∀ h', Fr [34, 96, 97] [] h1 h' → okDz h' → C (SX h n c m1 m2 s x y) h') : WL N 116 0 [(0, .inr (.inr 92)), (1, .inl (s : Int))] h1 C := by
  refine c_share (c := c) (mt := MX h n c m1 m2) (hr := HX h n c m1 m2 s x y) (kp.pi P) d1 (by rw [kp.at 16 (by decide)]; unfold NSL at hs; omega) hc R.1 (fun j hj => ⟨(R.2 j hj).1, L j hj, HX_rg h n c m1 m2 s hx hy j, KX_rg P hn b1 b2 _⟩) (fun j hj => ordI_srt (KX h n m1 m2) c j hj) (fun h2 f2 d2 => ?_)
  rw [kp.shv]
  exact hC h2 f2 d2
theorem hat_up {h1 : aH} {c p : Nat} {v : Nat → Int} {x : Int} (L : ∀ j, j < c → h1 95 j = v j) : ∀ j, j < c → am_up h1 95 p x 95 j = HAT v p x j := fun j hj => by
  rw [up_in]
  unfold HAT
  by_cases e : j = p
  · rw [if_pos e, if_pos e]
  · rw [if_neg e, if_neg e]; exact L j hj
/-- all that stays while one weighs -/
def WFR (h0 h1 : aH) : Prop := Fr [34, 95, 96, 97, 102, 106, 107, 108] [] h0 h1 ∧ okDz h1 ∧ ∀ j, j ≠ 10 → h1 102 j = h0 102 j
theorem c_wg74 {N : Nat} {C : aH → Prop} {h h0 : aH} {n c s : Nat} {m1 m2 q1 q2 : Int} (hn7 : n ≤ 8) (hns : n ≤ (h 58 10).toNat) (hc : c ≤ 8) (hs : s < NSL h) (n12 : NSL h ≤ 12) (R : NRW h n c m1 m2 h0) (T : HPT h (fun _ _ => True) h0)
    (hC : ∀ h', Fr [95] [] h0 h' → (∀ j, j < c → h' 95 j = HX h n c m1 m2 s 0 0 j) → WV N 126 74 [(0, .inr (.inr 102)), (3, .inl q1), (4, .inl q2), (5, .inl (s : Int)), (6, .inl (c : Int))] h' C) : ∀ (d j : Nat) (h1 : aH), d = c - j → j ≤ c → Fr [95] [] h0 h1 → (∀ i, i < j → h1 95 i = HX h n c m1 m2 s 0 0 i) →
    WV N 126 74 [(0, .inr (.inr 102)), (3, .inl q1), (4, .inl q2), (5, .inl (s : Int)), (6, .inl (j : Int))] h1 C := by
  intro d
  induction d with
  | zero =>
    intro j h1 hd hj f L
    have : j = c := by omega
    subst this
    exact hC h1 f L
  | succ d ih =>
    intro j h1 hd hj f L
    have hj2 : j < c := by omega
    have r2 := (R.2 j hj2).2
    have step : ∀ v : Int, v = HX h n c m1 m2 s 0 0 j → WV N 126 104 [(0, .inr (.inr 102)), (3, .inl q1), (4, .inl q2), (5, .inl (s : Int)), (6, .inl (j : Int))] (am_up h1 95 j v) C := by
      intro v ev
      refine w_126_104 (ck_rg (by omega) (ih (j + 1) _ (by omega) (by omega) (f.up (by decide) (by decide)) (fun i hi => ?_)))
      rw [up_in]
      by_cases z : i = j
      · rw [if_pos z, z]; exact ev
      · rw [if_neg z]; exact L i (by omega)
    refine w_126_74 ?_
    rw [f.at 92 (by decide) (by decide), R.1]
    refine ⟨fun z => by omega, fun _ => ck_ix (by omega) ?_⟩
    rw [Int.toNat_natCast, f.at 94 (by decide) (by decide), r2]
    by_cases k : ordI (KX h n m1 m2) c j < n
    · have e : NMX n (ordI (KX h n m1 m2) c j) = ordI (KX h n m1 m2) c j := by unfold NMX; rw [if_pos k]
      rw [e]
      refine ⟨fun z => by omega, fun _ => ?_⟩
      (repeat first | refine ck_ix (by omega) ?_ | refine ck_rg (by omega) ?_ | refine ck_rl (by omega) ?_)
      rw [f.at 105 (by decide) (by decide), show ((s : Int) * 8 + (ordI (KX h n m1 m2) c j : Int)).toNat = s * 8 + ordI (KX h n m1 m2) c j by omega, T s _ hs (by omega) trivial]
      refine step _ ?_
      unfold HX
      rw [if_pos k]
    · have e : 8 ≤ NMX n (ordI (KX h n m1 m2) c j) := by
        unfold NMX
        rw [if_neg k]
        split <;> omega
      refine ⟨fun _ => ck_ix (by omega) (step 0 ?_), fun z => by omega⟩
      unfold HX
      rw [if_neg k]
      split <;> rfl
/-- what weighing finds -/
def WGT (h : aH) (n c : Nat) (m1 m2 : Int) (two : Prop) (k : Nat) (h1 : aH) : Prop := h1 102 10 = sumN (fun s => SX h n c m1 m2 s 0 0) k ∧ ∀ s, s < k → h1 106 s = SX h n c m1 m2 s 1 0 - SX h n c m1 m2 s 0 0 ∧ (two → h1 107 s = SX h n c m1 m2 s 0 1 - SX h n c m1 m2 s 0 0 ∧ h1 108 s = SX h n c m1 m2 s 1 1 - SX h n c m1 m2 s 1 0 - SX h n c m1 m2 s 0 1 + SX h n c m1 m2 s 0 0)
/-- rows that may be old -/
def BBD (h1 : aH) : Prop := ∀ k, k < 12 → (-90000000000000000 ≤ h1 107 k ∧ h1 107 k ≤ 90000000000000000) ∧ (-180000000000000000 ≤ h1 108 k ∧ h1 108 k ≤ 180000000000000000)
theorem WFR.fr {h0 h1 h2 : aH} (a : WFR h0 h1) (f : Fr [34, 95, 96, 97, 106, 107, 108] [] h1 h2) (d : okDz h2) : WFR h0 h2 := ⟨a.1.trans (f.mono (by decide) (by decide)), d, fun j hj => by rw [f.at 102 (by decide) (by decide)]; exact a.2.2 j hj⟩
theorem c_wg66a {N : Nat} {C : aH → Prop} {h h0 : aH} {n : Nat} {m1 m2 : Int} (P : PI h) (kp0 : Kp h h0) (hn : (n : Int) = h 58 10) (hn7 : n ≤ 7) (b1 : 0 ≤ m1 ∧ m1 ≤ 399) (b2 : 0 ≤ m2 ∧ m2 ≤ 399) (R : NRW h n (n + 1) m1 m2 h0) (T : HPT h (fun _ _ => True) h0)
    (hC : ∀ h', WFR h0 h' → BBD h' → WGT h n (n + 1) m1 m2 False (NSL h) h' → C h') : ∀ (d s : Nat) (h1 : aH), d = NSL h - s → s ≤ NSL h → WFR h0 h1 → BBD h1 → WGT h n (n + 1) m1 m2 False s h1 →
    WV N 126 66 [(0, .inr (.inr 102)), (3, .inl (PX1 h n m1 m2 : Int)), (4, .inl (-1)), (5, .inl (s : Int))] h1 C := by
  have hz := P.1.1
  unfold okSz at hz
  have n12 : NSL h ≤ 12 := by unfold NSL; omega
  have en : h 16 16 = (NSL h : Int) := by unfold NSL; omega
  have pl := (PX_le h n m1 m2).1
  intro d
  induction d with
  | zero =>
    intro s h1 hd hs W B G
    have : s = NSL h := by omega
    subst this
    have kp := kp0.trans (W.1.kp (by decide))
    refine w_126_66 ?_
    rw [kp.at 16 (by decide), en]
    exact ⟨fun _ => hC h1 W B G, fun z => absurd (Int.le_refl _) z⟩
  | succ d ih =>
    intro s h1 hd hs W B G
    have kp := kp0.trans (W.1.kp (by decide))
    have hs2 : s < NSL h := by omega
    refine w_126_66 ?_
    rw [kp.at 16 (by decide), en]
    refine ⟨fun z => by omega, fun _ => ?_⟩
    refine c_wg74 (h := h) (h0 := h1) (n := n) (c := n + 1) (m1 := m1) (m2 := m2) (by omega) (by omega) (by omega) hs2 n12 (R.fr W.1 (by decide) (by decide) (by decide)) (by unfold HPT at T ⊢; rw [W.1.at 105 (by decide) (by decide)]; exact T) (fun h2 f2 L2 => ?_) (n + 1) 0 h1 rfl (Nat.zero_le _) Fr.rfl (fun i hi => absurd hi (Nat.not_lt_zero i))
    have W2 := W.fr (f2.mono (by decide) (by decide)) (f2.dz (by decide) (by decide) (by decide) W.2.1)
    have R2 := R.fr W2.1 (by decide) (by decide) (by decide)
    have kp2 := kp0.trans (W2.1.kp (by decide))
    refine w_126_74 ?_
    rw [R2.1]
    refine ⟨fun _ => ?_, fun z => absurd (Int.le_refl _) z⟩
    refine c_sx (x := 0) (y := 0) P kp2 W2.2.1 (by omega) (by omega) b1 b2 hs2 (by omega) (by omega) R2 L2 (fun h3 f3 d3 => ?_)
    have W3 := W2.fr (f3.mono (by decide) (by decide)) d3
    have L3 : ∀ j, j < n + 1 → h3 95 j = HX h n (n + 1) m1 m2 s 0 0 j := fun j hj => by rw [f3.at 95 (by decide) (by decide)]; exact L2 j hj
    rw [Int.toNat_natCast]
    refine ck_ix (by omega) ?_
    have f4 : Fr [95] [] h3 (am_up h3 95 (PX1 h n m1 m2) 1) := Fr.rfl.up (by decide) (by decide)
    have W4 := W3.fr (f4.mono (by decide) (by decide)) (f4.dz (by decide) (by decide) (by decide) W3.2.1)
    have L4 : ∀ j, j < n + 1 → am_up h3 95 (PX1 h n m1 m2) 1 95 j = HX h n (n + 1) m1 m2 s 1 0 j := fun j hj => by rw [hat_up L3 j hj, ← HX_1 (y := 0) hj]
    have R4 := R.fr W4.1 (by decide) (by decide) (by decide)
    refine c_sx (x := 1) (y := 0) P (kp0.trans (W4.1.kp (by decide))) W4.2.1 (by omega) (by omega) b1 b2 hs2 (by omega) (by omega) R4 L4 (fun h5 f5 d5 => ?_)
    have W5 := W4.fr (f5.mono (by decide) (by decide)) d5
    have s0 := SX_bd P (n := n) (c := n + 1) (by omega) (m1 := m1) (m2 := m2) hs2 (x := 0) (y := 0) (by omega) (by omega)
    have s1 := SX_bd P (n := n) (c := n + 1) (by omega) (m1 := m1) (m2 := m2) hs2 (x := 1) (y := 0) (by omega) (by omega)
    have f15 : Fr [34, 95, 96, 97] [] h1 h5 := ((f2.mono (by decide) (by decide)).trans (f3.mono (by decide) (by decide))).trans ((f4.mono (by decide) (by decide)).trans (f5.mono (by decide) (by decide)))
    have eS : h5 102 10 = sumN (fun s => SX h n (n + 1) m1 m2 s 0 0) s := by rw [f15.at 102 (by decide) (by decide)]; exact G.1
    have sm := sumN_bd (f := fun s => SX h n (n + 1) m1 m2 s 0 0) (B := 90000000000000000) (by omega) (n := s) (fun j hj => SX_bd P (by omega) (by omega) (by omega) (by omega))
    rw [eS]
    (repeat first | refine ck_ix (by omega) ?_ | refine ck_rg (by omega) ?_ | refine ck_rl (by omega) ?_)
    refine ⟨fun _ => w_126_179 (ck_rg (by omega) ?_), fun z => absurd rfl z⟩
    rw [Int.toNat_natCast]
    refine ih (s + 1) _ (by omega) (by omega) ⟨(W5.1.up (by decide) (by decide)).up (by decide) (by decide), ?_, fun j hj => ?_⟩ ?_ ⟨?_, fun s' hs' => ⟨?_, fun z => z.elim⟩⟩
    · have f6 : Fr [102, 106] [] h5 (am_up (am_up h5 102 10 (sumN (fun s => SX h n (n + 1) m1 m2 s 0 0) s + SX h n (n + 1) m1 m2 s 0 0)) 106 s (SX h n (n + 1) m1 m2 s 1 0 - SX h n (n + 1) m1 m2 s 0 0)) := (Fr.rfl.up (by decide) (by decide)).up (by decide) (by decide)
      exact f6.dz (by decide) (by decide) (by decide) W5.2.1
    · rw [up_row (by decide), up_ne hj]; exact W5.2.2 j hj
    · intro k hk
      rw [up_row (by decide), up_row (by decide), up_row (by decide), up_row (by decide), f15.at 107 (by decide) (by decide), f15.at 108 (by decide) (by decide)]
      exact B k hk
    · rw [up_row (by decide), up_same]; rfl
    · rw [up_in]
      by_cases z : s' = s
      · rw [if_pos z, z]
      · rw [if_neg z, up_row (by decide), f15.at 106 (by decide) (by decide)]
        exact (G.2 s' (by omega)).1
theorem c_wg66b {N : Nat} {C : aH → Prop} {h h0 : aH} {n : Nat} {m1 m2 : Int} (P : PI h) (kp0 : Kp h h0) (hn : (n : Int) = h 58 10) (hn7 : n ≤ 6) (b1 : 0 ≤ m1 ∧ m1 ≤ 399) (b2 : 0 ≤ m2 ∧ m2 ≤ 399) (R : NRW h n (n + 2) m1 m2 h0) (T : HPT h (fun _ _ => True) h0)
    (hC : ∀ h', WFR h0 h' → BBD h' → WGT h n (n + 2) m1 m2 True (NSL h) h' → C h') : ∀ (d s : Nat) (h1 : aH), d = NSL h - s → s ≤ NSL h → WFR h0 h1 → BBD h1 → WGT h n (n + 2) m1 m2 True s h1 →
    WV N 126 66 [(0, .inr (.inr 102)), (3, .inl (PX1b h n m1 m2 : Int)), (4, .inl (PX2 h n m1 m2 : Int)), (5, .inl (s : Int))] h1 C := by
  have hz := P.1.1
  unfold okSz at hz
  have n12 : NSL h ≤ 12 := by unfold NSL; omega
  have en : h 16 16 = (NSL h : Int) := by unfold NSL; omega
  obtain ⟨pl, pl2⟩ := PX_le h n m1 m2
  have plb : PX1b h n m1 m2 ≤ n + 1 := by unfold PX1b; split <;> omega
  intro d
  induction d with
  | zero =>
    intro s h1 hd hs W B G
    have : s = NSL h := by omega
    subst this
    have kp := kp0.trans (W.1.kp (by decide))
    refine w_126_66 ?_
    rw [kp.at 16 (by decide), en]
    exact ⟨fun _ => hC h1 W B G, fun z => absurd (Int.le_refl _) z⟩
  | succ d ih =>
    intro s h1 hd hs W B G
    have kp := kp0.trans (W.1.kp (by decide))
    have hs2 : s < NSL h := by omega
    refine w_126_66 ?_
    rw [kp.at 16 (by decide), en]
    refine ⟨fun z => by omega, fun _ => ?_⟩
    refine c_wg74 (h := h) (h0 := h1) (n := n) (c := n + 2) (m1 := m1) (m2 := m2) (by omega) (by omega) (by omega) hs2 n12 (R.fr W.1 (by decide) (by decide) (by decide)) (by unfold HPT at T ⊢; rw [W.1.at 105 (by decide) (by decide)]; exact T) (fun h2 f2 L2 => ?_) (n + 2) 0 h1 rfl (Nat.zero_le _) Fr.rfl (fun i hi => absurd hi (Nat.not_lt_zero i))
    have W2 := W.fr (f2.mono (by decide) (by decide)) (f2.dz (by decide) (by decide) (by decide) W.2.1)
    have R2 := R.fr W2.1 (by decide) (by decide) (by decide)
    have kp2 := kp0.trans (W2.1.kp (by decide))
    refine w_126_74 ?_
    rw [R2.1]
    refine ⟨fun _ => ?_, fun z => absurd (Int.le_refl _) z⟩
    refine c_sx (x := 0) (y := 0) P kp2 W2.2.1 (by omega) (by omega) b1 b2 hs2 (by omega) (by omega) R2 L2 (fun h3 f3 d3 => ?_)
    have W3 := W2.fr (f3.mono (by decide) (by decide)) d3
    have L3 : ∀ j, j < n + 2 → h3 95 j = HX h n (n + 2) m1 m2 s 0 0 j := fun j hj => by rw [f3.at 95 (by decide) (by decide)]; exact L2 j hj
    simp only [Int.toNat_natCast]
    refine ck_ix (by omega) ?_
    have f4 : Fr [95] [] h3 (am_up h3 95 (PX1b h n m1 m2) 1) := Fr.rfl.up (by decide) (by decide)
    have W4 := W3.fr (f4.mono (by decide) (by decide)) (f4.dz (by decide) (by decide) (by decide) W3.2.1)
    have L4 : ∀ j, j < n + 2 → am_up h3 95 (PX1b h n m1 m2) 1 95 j = HX h n (n + 2) m1 m2 s 1 0 j := fun j hj => by rw [hat_up L3 j hj, ← HX_2a hj]
    have R4 := R.fr W4.1 (by decide) (by decide) (by decide)
    refine c_sx (x := 1) (y := 0) P (kp0.trans (W4.1.kp (by decide))) W4.2.1 (by omega) (by omega) b1 b2 hs2 (by omega) (by omega) R4 L4 (fun h5 f5 d5 => ?_)
    have W5 := W4.fr (f5.mono (by decide) (by decide)) d5
    have L5 : ∀ j, j < n + 2 → h5 95 j = HX h n (n + 2) m1 m2 s 1 0 j := fun j hj => by rw [f5.at 95 (by decide) (by decide)]; exact L4 j hj
    have s0 := SX_bd P (n := n) (c := n + 2) (by omega) (m1 := m1) (m2 := m2) hs2 (x := 0) (y := 0) (by omega) (by omega)
    have s1 := SX_bd P (n := n) (c := n + 2) (by omega) (m1 := m1) (m2 := m2) hs2 (x := 1) (y := 0) (by omega) (by omega)
    have s2 := SX_bd P (n := n) (c := n + 2) (by omega) (m1 := m1) (m2 := m2) hs2 (x := 0) (y := 1) (by omega) (by omega)
    have s3 := SX_bd P (n := n) (c := n + 2) (by omega) (m1 := m1) (m2 := m2) hs2 (x := 1) (y := 1) (by omega) (by omega)
    have f15 : Fr [34, 95, 96, 97] [] h1 h5 := ((f2.mono (by decide) (by decide)).trans (f3.mono (by decide) (by decide))).trans ((f4.mono (by decide) (by decide)).trans (f5.mono (by decide) (by decide)))
    have eS : h5 102 10 = sumN (fun s => SX h n (n + 2) m1 m2 s 0 0) s := by rw [f15.at 102 (by decide) (by decide)]; exact G.1
    have sm := sumN_bd (f := fun s => SX h n (n + 2) m1 m2 s 0 0) (B := 90000000000000000) (by omega) (n := s) (fun j hj => SX_bd P (by omega) (by omega) (by omega) (by omega))
    rw [eS]
    (repeat first | refine ck_ix (by omega) ?_ | refine ck_rg (by omega) ?_ | refine ck_rl (by omega) ?_)
    refine ⟨fun z => by omega, fun _ => ck_ix (by omega) ?_⟩
    have eN : sumN (fun s => SX h n (n + 2) m1 m2 s 0 0) s + SX h n (n + 2) m1 m2 s 0 0 = sumN (fun s => SX h n (n + 2) m1 m2 s 0 0) (s + 1) := rfl
    rw [eN]
    have W6 : WFR h0 (am_up (am_up h5 102 10 (sumN (fun s => SX h n (n + 2) m1 m2 s 0 0) (s + 1))) 106 s (SX h n (n + 2) m1 m2 s 1 0 - SX h n (n + 2) m1 m2 s 0 0)) := by
      refine ⟨(W5.1.up (by decide) (by decide)).up (by decide) (by decide), ?_, fun j hj => ?_⟩
      · have f6 : Fr [102, 106] [] h5 (am_up (am_up h5 102 10 (sumN (fun s => SX h n (n + 2) m1 m2 s 0 0) (s + 1))) 106 s (SX h n (n + 2) m1 m2 s 1 0 - SX h n (n + 2) m1 m2 s 0 0)) := (Fr.rfl.up (by decide) (by decide)).up (by decide) (by decide)
        exact f6.dz (by decide) (by decide) (by decide) W5.2.1
      · rw [up_row (by decide), up_ne hj]; exact W5.2.2 j hj
    have L6 : ∀ j, j < n + 2 → am_up (am_up h5 102 10 (sumN (fun s => SX h n (n + 2) m1 m2 s 0 0) (s + 1))) 106 s (SX h n (n + 2) m1 m2 s 1 0 - SX h n (n + 2) m1 m2 s 0 0) 95 j = HX h n (n + 2) m1 m2 s 1 0 j := fun j hj => by rw [up_row (by decide), up_row (by decide)]; exact L5 j hj
    have g1 : am_up (am_up h5 102 10 (sumN (fun s => SX h n (n + 2) m1 m2 s 0 0) (s + 1))) 106 s (SX h n (n + 2) m1 m2 s 1 0 - SX h n (n + 2) m1 m2 s 0 0) 102 10 = sumN (fun s => SX h n (n + 2) m1 m2 s 0 0) (s + 1) := by rw [up_row (by decide), up_same]
    have g2 : ∀ s', s' < s + 1 → am_up (am_up h5 102 10 (sumN (fun s => SX h n (n + 2) m1 m2 s 0 0) (s + 1))) 106 s (SX h n (n + 2) m1 m2 s 1 0 - SX h n (n + 2) m1 m2 s 0 0) 106 s' = SX h n (n + 2) m1 m2 s' 1 0 - SX h n (n + 2) m1 m2 s' 0 0 := fun s' hs' => by
      rw [up_in]
      by_cases z : s' = s
      · rw [if_pos z, z]
      · rw [if_neg z, up_row (by decide), f15.at 106 (by decide) (by decide)]
        exact (G.2 s' (by omega)).1
    have g3 : am_up (am_up h5 102 10 (sumN (fun s => SX h n (n + 2) m1 m2 s 0 0) (s + 1))) 106 s (SX h n (n + 2) m1 m2 s 1 0 - SX h n (n + 2) m1 m2 s 0 0) 107 = h1 107 := by rw [up_row (by decide), up_row (by decide), f15.at 107 (by decide) (by decide)]
    have g4 : am_up (am_up h5 102 10 (sumN (fun s => SX h n (n + 2) m1 m2 s 0 0) (s + 1))) 106 s (SX h n (n + 2) m1 m2 s 1 0 - SX h n (n + 2) m1 m2 s 0 0) 108 = h1 108 := by rw [up_row (by decide), up_row (by decide), f15.at 108 (by decide) (by decide)]
    generalize am_up (am_up h5 102 10 (sumN (fun s => SX h n (n + 2) m1 m2 s 0 0) (s + 1))) 106 s (SX h n (n + 2) m1 m2 s 1 0 - SX h n (n + 2) m1 m2 s 0 0) = h6 at *
    have f7 : Fr [95] [] h6 (am_up h6 95 (PX2 h n m1 m2) 1) := Fr.rfl.up (by decide) (by decide)
    have W7 := W6.fr (f7.mono (by decide) (by decide)) (f7.dz (by decide) (by decide) (by decide) W6.2.1)
    have L7 : ∀ j, j < n + 2 → am_up h6 95 (PX2 h n m1 m2) 1 95 j = HX h n (n + 2) m1 m2 s 1 1 j := fun j hj => by rw [hat_up L6 j hj, ← HX_2b hj]
    refine c_sx (x := 1) (y := 1) P (kp0.trans (W7.1.kp (by decide))) W7.2.1 (by omega) (by omega) b1 b2 hs2 (by omega) (by omega) (R.fr W7.1 (by decide) (by decide) (by decide)) L7 (fun h8 f8 d8 => ?_)
    have W8 := W7.fr (f8.mono (by decide) (by decide)) d8
    have L8 : ∀ j, j < n + 2 → h8 95 j = HX h n (n + 2) m1 m2 s 1 1 j := fun j hj => by rw [f8.at 95 (by decide) (by decide)]; exact L7 j hj
    refine ck_ix (by omega) ?_
    have f9 : Fr [95] [] h8 (am_up h8 95 (PX1b h n m1 m2) 0) := Fr.rfl.up (by decide) (by decide)
    have W9 := W8.fr (f9.mono (by decide) (by decide)) (f9.dz (by decide) (by decide) (by decide) W8.2.1)
    have L9 : ∀ j, j < n + 2 → am_up h8 95 (PX1b h n m1 m2) 0 95 j = HX h n (n + 2) m1 m2 s 0 1 j := fun j hj => by rw [hat_up L8 j hj, ← HX_2a hj]
    refine c_sx (x := 0) (y := 1) P (kp0.trans (W9.1.kp (by decide))) W9.2.1 (by omega) (by omega) b1 b2 hs2 (by omega) (by omega) (R.fr W9.1 (by decide) (by decide) (by decide)) L9 (fun h10 f10 d10 => ?_)
    have W10 := W9.fr (f10.mono (by decide) (by decide)) d10
    have f610 : Fr [34, 95, 96, 97] [] h6 h10 := ((f7.mono (by decide) (by decide)).trans (f8.mono (by decide) (by decide))).trans ((f9.mono (by decide) (by decide)).trans (f10.mono (by decide) (by decide)))
    (repeat first | refine ck_ix (by omega) ?_ | refine ck_rg (by omega) ?_ | refine ck_rl (by omega) ?_)
    refine w_126_179 (ck_rg (by omega) ?_)
    have f11 : Fr [107, 108] [] h10 (am_up (am_up h10 107 s (SX h n (n + 2) m1 m2 s 0 1 - SX h n (n + 2) m1 m2 s 0 0)) 108 s (SX h n (n + 2) m1 m2 s 1 1 - SX h n (n + 2) m1 m2 s 1 0 - SX h n (n + 2) m1 m2 s 0 1 + SX h n (n + 2) m1 m2 s 0 0)) := (Fr.rfl.up (by decide) (by decide)).up (by decide) (by decide)
    refine ih (s + 1) _ (by omega) (by omega) (W10.fr (f11.mono (by decide) (by decide)) (f11.dz (by decide) (by decide) (by decide) W10.2.1)) (fun k hk => ?_) ⟨?_, fun s' hs' => ⟨?_, fun _ => ?_⟩⟩
    · rw [up_row (by decide), up_in, up_in, up_row (by decide), f610.at 107 (by decide) (by decide), f610.at 108 (by decide) (by decide), g3, g4]
      have := B k hk
      by_cases z : k = s
      · rw [if_pos z, if_pos z]; omega
      · rw [if_neg z, if_neg z]; exact this
    · rw [up_row (by decide), up_row (by decide), f610.at 102 (by decide) (by decide)]; exact g1
    · rw [up_row (by decide), up_row (by decide), f610.at 106 (by decide) (by decide)]; exact g2 s' hs'
    · rw [up_row (by decide), up_in, up_in, up_row (by decide), f610.at 107 (by decide) (by decide), f610.at 108 (by decide) (by decide), g3, g4]
      by_cases z : s' = s
      · rw [if_pos z, if_pos z, z]; exact ⟨rfl, rfl⟩
      · rw [if_neg z, if_neg z]; exact (G.2 s' (by omega)).2 trivial
