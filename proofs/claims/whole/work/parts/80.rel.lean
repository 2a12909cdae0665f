/-! the plan, the beds, the wool: the reference's are the class's; ways, up, woken, cost of the reference -/
theorem and_one (x : Int) : am_and x 1 = x % 2 := by
  unfold am_and
  have e : (Int32.ofInt x &&& Int32.ofInt 1).toBitVec = BitVec.ofInt 32 x &&& 1#32 := rfl
  rw [show (Int32.ofInt x &&& Int32.ofInt 1).toInt = (Int32.ofInt x &&& Int32.ofInt 1).toBitVec.toInt from rfl, e]
  have h1 : (BitVec.ofInt 32 x &&& 1#32).toNat = (x % 4294967296).toNat % 2 := by
    rw [BitVec.toNat_and, BitVec.toNat_ofInt]
    show (x % 4294967296).toNat &&& 1 = _
    rw [Nat.and_one_is_mod]
  rw [BitVec.toInt_eq_toNat_cond, h1]
  omega
theorem WOF_tf (h : aH) (s : Int) : WOF h s = 0 ∨ WOF h s = 1 := by
  unfold WOF
  rw [and_one]
  omega
def RelP (h : aH) : Prop := h 130 48 = h 58 10 ∧ (∀ j : Nat, (j : Int) < h 58 10 → h 163 j = h 59 j ∧ h 164 j = h 60 j ∧ h 165 j = h 61 j ∧ h 166 j = h 62 j) ∧
  ∀ s : Nat, (s : Int) < h 16 16 → h 161 s = h 63 s ∧ h 162 s = WOF h s
theorem RelP.mpl {h : aH} (R : RelP h) (hs : okSnd h) : MPL h (h 58 10).toNat (h 59) (h 60) (h 61) (h 62) := by
  have := hs.1
  exact ⟨by rw [R.1]; omega, fun j hj => R.2.1 j (by omega)⟩
theorem RelP.msl {h : aH} (R : RelP h) (hl : okLie h) : MSL h (h 63) (WOF h ·) := fun s hs => ⟨(R.2.2 s hs).1, (R.2.2 s hs).2, ⟨(hl.1 s hs).1, (hl.1 s hs).2.1⟩, WOF_tf h s⟩
theorem okSnd.okp {h : aH} (hs : okSnd h) : OKP h (h 58 10).toNat (h 59) (h 60) (h 61) (h 62) := by
  have h0 := hs.1
  have h8 := hs.2.1
  refine ⟨by omega, fun k hk => ?_⟩
  obtain ⟨a1, a2, a3, a4, a5⟩ := hs.2.2 k (by omega)
  exact ⟨a2, a3, a4, a5⟩
/-- the reference's rows of the plan and the beds -/
theorem RelP.keep {h h' : aH} (R : RelP h) (kp : Kp h h') {C D : List Nat} (f : Fr C D h h') (h48 : 48 ∉ D) (hd : [161, 162, 163, 164, 165, 166].all (fun r => !(C.contains r)) = true) : RelP h' := by
  have k : ∀ r, r ∈ [161, 162, 163, 164, 165, 166] → h' r = h r := by
    intro r hr
    have h1 := List.all_eq_true.mp hd r hr
    refine f.1 r ?_ ?_
    · intro e
      subst e
      revert hr
      decide
    · intro hc
      rw [Bool.not_eq_true', List.contains_eq_mem, decide_eq_false_iff_not] at h1
      exact h1 hc
  unfold RelP at R ⊢
  rw [f.2 48 h48, k 161 (by decide), k 162 (by decide), k 163 (by decide), k 164 (by decide), k 165 (by decide), k 166 (by decide), kp.wof, kp.at 16 (by decide), kp.at 58 (by decide), kp.at 59 (by decide), kp.at 60 (by decide), kp.at 61 (by decide), kp.at 62 (by decide), kp.at 63 (by decide)]
  exact R
theorem itm_all : itm (-1) = fun j => j := by
  funext j
  unfold itm
  rw [if_neg (by omega)]
theorem CNT_all (h : aH) : CNT h (-1) = (h 58 10).toNat := by
  unfold CNT cntW
  rw [if_neg (by omega)]
theorem NUM_all (h : aH) (m j : Nat) : NUM h (-1) m j = ordI (h 60) m j := by
  unfold NUM
  rw [itm_all]
theorem COSTW_P (h : aH) (wo : Int) : COSTW h wo = COSTP h (CNT h wo) (fun j => h 59 (itm wo j)) (fun j => h 60 (itm wo j)) (fun j => h 61 (itm wo j)) (fun j => h 62 (itm wo j)) (h 63) (WOF h ·) := rfl
theorem COSTW_all (h : aH) : COSTW h (-1) = COSTP h (h 58 10).toNat (h 59) (h 60) (h 61) (h 62) (h 63) (WOF h ·) := by
  rw [COSTW_P, itm_all, CNT_all]
theorem UPS_all (h : aH) (s : Nat) : UPS h s = UPV (fun j => h 60 (ordI (h 60) (h 58 10).toNat j)) (fun j => HRP h (h 59) (h 60) (h 61) (h 62) s (h 63 s) (WOF h s) (ordI (h 60) (h 58 10).toNat j)) (AGN h s) (h 23 s) (h 58 10).toNat := by
  unfold UPS
  rw [CNT_all]
  refine UPV_congr (fun _ => rfl) (fun j _ => ⟨?_, ?_⟩)
  · unfold MTS; rw [NUM_all]
  · unfold HRS; rw [NUM_all]; rfl
theorem WOS_all (h : aH) (s : Nat) : WOS h s = WOKV (fun j => HRP h (h 59) (h 60) (h 61) (h 62) s (h 63 s) (WOF h s) (ordI (h 60) (h 58 10).toNat j)) (h 58 10).toNat := by
  unfold WOS WOKV
  rw [CNT_all]
  congr 1
theorem m_in {N : Nat} {C : Int → aH → Prop} {h : aH} {x a b : Int} (h1 : a ≤ x ∧ x ≤ b → C 1 h) (h0 : ¬ (a ≤ x ∧ x ≤ b) → C 0 h) : WI N 250 0 [(0, .inl x), (1, .inl a), (2, .inl b)] h C :=
  w_250_0 ⟨fun q => ck_t0 (h0 (by omega)), fun q => ⟨fun r => ck_t0 (h0 (by omega)), fun r => ck_t1 (h1 (by omega))⟩⟩
theorem m_isSleeper {N : Nat} {C : Int → aH → Prop} {h : aH} {s : Int} (H : HI h) (R : RelH h) (h1 : 0 ≤ s ∧ s < h 16 16 → C 1 h) (h0 : ¬ (0 ≤ s ∧ s < h 16 16) → C 0 h) : WI N 249 0 [(0, .inr (.inr 130)), (1, .inl s)] h C := by
  have hz := H.1
  unfold okSz at hz
  have hL := R.1
  have hS := R.2.1.2.2
  unfold Lv at hS
  refine w_249_0 ?_
  rw [hS]
  (repeat first | refine ck_ix (by omega) ?_ | refine ck_rg (by omega) ?_ | refine ck_rl (by omega) ?_)
  exact m_in (fun q => ck_t1 (h1 (by omega))) (fun q => ck_t0 (h0 (by omega)))
def FM (h h' : aH) : Prop := Fr [159, 160, 167] [] h h'
theorem m_ways {N : Nat} {C : Int → aH → Prop} {h : aH} (P : PI h) (R : RelP h) (hC : C (100 ^ (h 58 10).toNat) h) : WL N 278 0 [(0, .inr (.inr 130))] h C := by
  obtain ⟨h0, h8, -⟩ := P.2.2.1
  refine w_278_0 ?_
  rw [R.1, show h 58 10 = (((h 58 10).toNat : Nat) : Int) by omega]
  exact m_power (by omega) hC
theorem m_cost {N : Nat} {C : Int → aH → Prop} {h : aH} (P : PI h) (R : RelH h) (Q : RelP h) (hC : ∀ h', Fr [159, 160, 167] [] h h' → C (COSTW h (-1)) h') : WL N 288 0 [(0, .inr (.inr 130))] h C := by
  rw [COSTW_all] at hC
  exact w_288_0 (m_costNow P R (Q.mpl P.2.2.1) P.2.2.1.okp (Q.msl P.2.1) hC)
theorem m_up {N : Nat} {C : Int → aH → Prop} {h : aH} {s : Int} (P : PI h) (R : RelH h) (Q : RelP h) (hC : ∀ h', Fr [159, 160, 167] [] h h' → C (vUp h s) h') : WL N 280 0 [(0, .inr (.inr 130)), (1, .inl s)] h C := by
  refine w_280_0 (m_isSleeper P.1 R (fun hin => ?_) (fun hout => ?_))
  · refine ⟨fun _ => ?_, fun z => absurd (by decide) z⟩
    obtain ⟨n, rfl⟩ := Int.eq_ofNat_of_zero_le hin.1
    have key := hC
    unfold vUp at key
    rw [if_pos hin] at key
    simp only [Int.toNat_natCast] at key
    have hh := (P.1.2.2.2.1 n hin.2).2.1
    refine m_hour P.1 R hin.2 ⟨fun hge => ?_, fun hlt => ?_⟩
    · rw [if_neg (by omega), UPS_all] at key
      have M := Q.mpl P.2.2.1
      have O := P.2.2.1.okp
      have S := Q.msl P.2.1
      refine m_sorts O.1 M.1 (fun j hj => (M.2 j hj).2.1) (fun h1 hf ho => ?_)
      have kp := hf.kp (by decide)
      have km := hf.km (by decide) (by decide)
      refine m_upOf (kp.pi P) (R.keep kp km) (M.keep hf (by decide) (by decide) (by decide) (by decide) (by decide)) (O.keep kp) (S.keep hf (by decide) (by decide) (by decide)) ho (by rw [kp.at 16 (by decide)]; exact hin.2) (by rw [kp.at 23 (by decide)]; exact hge) (fun h2 hf2 => ?_)
      rw [kp.hrp, kp.agn, kp.at 23 (by decide)]
      exact key h2 ((hf.mono (by decide) (by decide)).trans (hf2.mono (by decide) (by decide)))
    · rw [if_pos (by omega)] at key
      exact key h Fr.rfl
  · refine ⟨fun z => absurd rfl z, fun _ => ?_⟩
    have key := hC h Fr.rfl
    unfold vUp at key
    rw [if_neg hout] at key
    exact key
theorem m_woken {N : Nat} {C : Int → aH → Prop} {h : aH} {s : Int} (P : PI h) (R : RelH h) (Q : RelP h) (hC : ∀ h', Fr [159, 160, 167] [] h h' → C (vWoken h s) h') : WL N 286 0 [(0, .inr (.inr 130)), (1, .inl s)] h C := by
  refine w_286_0 (m_isSleeper P.1 R (fun hin => ?_) (fun hout => ?_))
  · refine ⟨fun z => absurd z (by decide), fun _ => ?_⟩
    obtain ⟨n, rfl⟩ := Int.eq_ofNat_of_zero_le hin.1
    have key := hC
    unfold vWoken at key
    rw [if_pos hin] at key
    simp only [Int.toNat_natCast] at key
    rw [WOS_all] at key
    exact m_wokenOf P R (Q.mpl P.2.2.1) P.2.2.1.okp (Q.msl P.2.1) hin.2 (fun h2 hf2 => key h2 (hf2.mono (by decide) (by decide)))
  · refine ⟨fun _ => ?_, fun z => absurd rfl z⟩
    have key := hC h Fr.rfl
    unfold vWoken at key
    rw [if_neg hout] at key
    exact key
/-- four rows, the first k places as said -/
def P4 (h : aH) (r1 r2 r3 r4 : Nat) (k : Nat) (kd mn ld wh : Nat → Int) : Prop := ∀ j, j < k → h r1 j = kd j ∧ h r2 j = mn j ∧ h r3 j = ld j ∧ h r4 j = wh j
theorem m_kpl {N : Nat} {C : aH → Prop} {h : aH} {n : Nat} {kd mn ld wh : Nat → Int} (h8 : n ≤ 8) (M : MPL h n kd mn ld wh) (hC : ∀ h', Fr [168, 169, 170, 171] [] h h' → P4 h' 168 169 170 171 n kd mn ld wh → C h') : ∀ (d k : Nat) (h1 : aH), d = n - k → k ≤ n → Fr [168, 169, 170, 171] [] h h1 → P4 h1 168 169 170 171 k kd mn ld wh →
    WV N 291 3 [(0, .inr (.inr 130)), (1, .inl (k : Int))] h1 C := by
  intro d
  induction d with
  | zero =>
    intro k h1 hd hk hf hp
    have : k = n := by omega
    subst this
    refine w_291_3 ?_
    rw [hf.2 48 (by decide), M.1]
    exact ⟨fun _ => hC h1 hf hp, fun z => absurd (Int.le_refl _) z⟩
  | succ d ih =>
    intro k h1 hd hk hf hp
    obtain ⟨e1, e2, e3, e4⟩ := M.2 k (by omega)
    refine w_291_3 ?_
    rw [hf.2 48 (by decide), M.1]
    simp only [Int.toNat_natCast]
    refine ⟨fun z => by omega, fun _ => ?_⟩
    (repeat first | refine ck_ix (by omega) ?_ | refine ck_rg (by omega) ?_ | refine ck_rl (by omega) ?_)
    rw [hf.at 163 (by decide) (by decide), hf.at 164 (by decide) (by decide), hf.at 165 (by decide) (by decide), hf.at 166 (by decide) (by decide), e1, e2, e3, e4]
    refine ih (k + 1) _ (by omega) (by omega) ((((hf.up (by decide) (by decide)).up (by decide) (by decide)).up (by decide) (by decide)).up (by decide) (by decide)) (fun j hj => ?_)
    by_cases e : j = k
    · subst e
      refine ⟨?_, ?_, ?_, ?_⟩ <;> simp [up_in, up_row]
    · have := hp j (by omega)
      simp [up_in, up_row, e, this]
theorem m_keeps {N : Nat} {C : aH → Prop} {h : aH} {n : Nat} {kd mn ld wh : Nat → Int} (h8 : n ≤ 8) (M : MPL h n kd mn ld wh) (hC : ∀ h', Fr [168, 169, 170, 171] [] h h' → P4 h' 168 169 170 171 n kd mn ld wh → C h') : WV N 291 0 [(0, .inr (.inr 130))] h C :=
  w_291_0 (m_kpl h8 M hC n 0 h rfl (Nat.zero_le _) Fr.rfl (fun j hj => by omega))
theorem m_pbl {N : Nat} {C : aH → Prop} {h : aH} {n : Nat} {kd mn ld wh : Nat → Int} (h8 : n ≤ 8) (hp : P4 h 168 169 170 171 n kd mn ld wh) (hC : ∀ h', Fr [163, 164, 165, 166] [48] h h' → MPL h' n kd mn ld wh → C h') : ∀ (d k : Nat) (h1 : aH), d = n - k → k ≤ n → Fr [163, 164, 165, 166] [48] h h1 → h1 130 48 = (n : Int) → P4 h1 163 164 165 166 k kd mn ld wh →
    WV N 292 6 [(0, .inr (.inr 130)), (2, .inl (k : Int))] h1 C := by
  intro d
  induction d with
  | zero =>
    intro k h1 hd hk hf hn hq
    have : k = n := by omega
    subst this
    refine w_292_6 ?_
    rw [hn]
    exact ⟨fun _ => hC h1 hf ⟨hn, hq⟩, fun z => absurd (Int.le_refl _) z⟩
  | succ d ih =>
    intro k h1 hd hk hf hn hq
    obtain ⟨e1, e2, e3, e4⟩ := hp k (by omega)
    refine w_292_6 ?_
    rw [hn]
    simp only [Int.toNat_natCast]
    refine ⟨fun z => by omega, fun _ => ?_⟩
    (repeat first | refine ck_ix (by omega) ?_ | refine ck_rg (by omega) ?_ | refine ck_rl (by omega) ?_)
    rw [hf.at 168 (by decide) (by decide), hf.at 169 (by decide) (by decide), hf.at 170 (by decide) (by decide), hf.at 171 (by decide) (by decide), e1, e2, e3, e4]
    refine ih (k + 1) _ (by omega) (by omega) ((((hf.up (by decide) (by decide)).up (by decide) (by decide)).up (by decide) (by decide)).up (by decide) (by decide)) (by simp [up_row, hn]) (fun j hj => ?_)
    by_cases e : j = k
    · subst e
      refine ⟨?_, ?_, ?_, ?_⟩ <;> simp [up_in, up_row]
    · have := hq j (by omega)
      simp [up_in, up_row, e, this]
theorem m_putsBack {N : Nat} {C : aH → Prop} {h : aH} {n : Nat} {kd mn ld wh : Nat → Int} (h8 : n ≤ 8) (hp : P4 h 168 169 170 171 n kd mn ld wh) (hC : ∀ h', Fr [163, 164, 165, 166] [48] h h' → MPL h' n kd mn ld wh → C h') : WV N 292 0 [(0, .inr (.inr 130)), (1, .inl (n : Int))] h C :=
  w_292_0 (m_pbl h8 hp hC n 0 _ rfl (Nat.zero_le _) (Fr.rfl.upM (by decide)) (up_same _ _ _ _) (fun j hj => by omega))
theorem m_gol {N : Nat} {C : aH → Prop} {h : aH} {n k : Nat} {kd mn ld wh : Nat → Int} (h8 : n < 8) (hk : k ≤ n) (M : P4 h 163 164 165 166 (n + 1) kd mn ld wh) (hC : ∀ h', Fr [163, 164, 165, 166] [48] h h' → MPL h' n (fun j => kd (itm k j)) (fun j => mn (itm k j)) (fun j => ld (itm k j)) (fun j => wh (itm k j)) → C h') : ∀ (d i : Nat) (h1 : aH), d = n - i → k ≤ i → i ≤ n → Fr [163, 164, 165, 166] [48] h h1 → h1 130 48 = (n : Int) →
    P4 h1 163 164 165 166 i (fun j => kd (itm k j)) (fun j => mn (itm k j)) (fun j => ld (itm k j)) (fun j => wh (itm k j)) → (∀ j, i < j → j ≤ n → h1 163 j = kd j ∧ h1 164 j = mn j ∧ h1 165 j = ld j ∧ h1 166 j = wh j) →
    WV N 273 9 [(0, .inr (.inr 130)), (2, .inl (i : Int))] h1 C := by
  intro d
  induction d with
  | zero =>
    intro i h1 hd hki hi hf hn hq hr
    have : i = n := by omega
    subst this
    refine w_273_9 ?_
    rw [hn]
    exact ⟨fun _ => hC h1 hf ⟨hn, hq⟩, fun z => absurd (Int.le_refl _) z⟩
  | succ d ih =>
    intro i h1 hd hki hi hf hn hq hr
    obtain ⟨e1, e2, e3, e4⟩ := hr (i + 1) (by omega) (by omega)
    refine w_273_9 ?_
    rw [hn, show ((i : Int) + 1).toNat = i + 1 by omega]
    simp only [Int.toNat_natCast]
    refine ⟨fun z => by omega, fun _ => ?_⟩
    (repeat first | refine ck_ix (by omega) ?_ | refine ck_rg (by omega) ?_ | refine ck_rl (by omega) ?_)
    rw [e1, e2, e3, e4]
    have hit : itm k i = i + 1 := by unfold itm; rw [if_pos (by omega)]
    refine ih (i + 1) _ (by omega) (by omega) (by omega) ((((hf.up (by decide) (by decide)).up (by decide) (by decide)).up (by decide) (by decide)).up (by decide) (by decide)) (by simp [up_row, hn]) (fun j hj => ?_) (fun j hj hj2 => ?_)
    · by_cases e : j = i
      · subst e
        refine ⟨?_, ?_, ?_, ?_⟩ <;> simp [up_in, up_row, hit]
      · have := hq j (by omega)
        simp [up_in, up_row, e, this]
    · have := hr j (by omega) hj2
      have e : j ≠ i := by omega
      simp [up_in, up_row, e, this]
theorem m_goesOut {N : Nat} {C : aH → Prop} {h : aH} {n k : Nat} {kd mn ld wh : Nat → Int} (h8 : n < 8) (hk : k ≤ n) (M : MPL h (n + 1) kd mn ld wh) (hC : ∀ h', Fr [163, 164, 165, 166] [48] h h' → MPL h' n (fun j => kd (itm k j)) (fun j => mn (itm k j)) (fun j => ld (itm k j)) (fun j => wh (itm k j)) → C h') : WV N 273 0 [(0, .inr (.inr 130)), (1, .inl (k : Int))] h C := by
  refine w_273_0 ?_
  rw [M.1, show (((n + 1 : Nat) : Int) - 1) = (n : Int) by omega]
  (repeat first | refine ck_ix (by omega) ?_ | refine ck_rg (by omega) ?_ | refine ck_rl (by omega) ?_)
  refine m_gol h8 hk M.2 hC (n - k) k _ rfl (Nat.le_refl _) hk (Fr.rfl.upM (by decide)) (up_same _ _ _ _) (fun j hj => ?_) (fun j hj hj2 => ?_)
  · have := M.2 j (by omega)
    have hit : itm k j = j := by unfold itm; rw [if_neg (by omega)]
    simp [up_row, hit, this]
  · have := M.2 j (by omega)
    simp [up_row, this]
theorem m_wst {N : Nat} {C : Int → aH → Prop} {h : aH} {n : Nat} (P : PI h) (R : RelH h) (Q : RelP h) (hn : (n : Int) = h 58 10) (hC : ∀ h', Fr [159, 160, 163, 164, 165, 166, 167, 168, 169, 170, 171] [48] h h' → MPL h' n (h 59) (h 60) (h 61) (h 62) → C (vWorst h) h') : ∀ (d k : Nat) (h1 : aH), d = n - k → k ≤ n → Fr [159, 160, 163, 164, 165, 166, 167, 168, 169, 170, 171] [48] h h1 → MPL h1 n (h 59) (h 60) (h 61) (h 62) → P4 h1 168 169 170 171 n (h 59) (h 60) (h 61) (h 62) →
    WI N 290 12 [(0, .inr (.inr 130)), (1, .inl (n : Int)), (2, .inl (wrs (fun k => COSTW h k) k).1), (3, .inr (.inl (wrs (fun k => COSTW h k) k).2)), (5, .inl (k : Int))] h1 C := by
  have h8 := P.2.2.1.2.1
  intro d
  induction d with
  | zero =>
    intro k h1 hd hk hf M1 K1
    have : k = n := by omega
    subst this
    refine w_290_12 ⟨fun _ => ?_, fun z => absurd (Int.le_refl _) z⟩
    have key := hC h1 hf M1
    unfold vWorst at key
    rw [show (h 58 10).toNat = k by omega] at key
    exact key
  | succ d ih =>
    intro k h1 hd hk hf M1 K1
    obtain ⟨n, rfl⟩ : ∃ m, n = m + 1 := ⟨n - 1, by omega⟩
    refine w_290_12 ⟨fun z => by omega, fun _ => ?_⟩
    refine m_goesOut (by omega) (by omega) M1 (fun h2 hf2 M2 => ?_)
    have f2 := hf.trans (hf2.mono (by decide) (by decide))
    have kp := f2.kp (by decide)
    have km := f2.km (by decide) (by decide)
    have O2 : OKP h2 n (fun j => h 59 (itm k j)) (fun j => h 60 (itm k j)) (fun j => h 61 (itm k j)) (fun j => h 62 (itm k j)) := by
      have O := P.2.2.1.okp.keep kp
      refine ⟨by omega, fun j hj => O.2 (itm k j) ?_⟩
      unfold itm
      split <;> omega
    have S2 := (Q.msl P.2.1).keep f2 (by decide) (by decide) (by decide)
    refine m_costNow (kp.pi P) (R.keep kp km) M2 O2 S2 (fun h3 hf3 => ?_)
    have f3 := f2.trans (hf3.mono (by decide) (by decide))
    have e : COSTP h2 n (fun j => h 59 (itm k j)) (fun j => h 60 (itm k j)) (fun j => h 61 (itm k j)) (fun j => h 62 (itm k j)) (h 63) (WOF h ·) = COSTW h k := by
      rw [COSTW_P]
      have : CNT h k = n := by unfold CNT cntW; rw [if_pos (by omega)]; omega
      rw [this]
      unfold COSTP SHP
      rw [kp.hrp, kp.shv, kp.at 16 (by decide)]
    rw [e]
    have K3 : P4 h3 168 169 170 171 (n + 1) (h 59) (h 60) (h 61) (h 62) := by
      unfold P4 at K1 ⊢
      rw [hf3.at 168 (by decide) (by decide), hf3.at 169 (by decide) (by decide), hf3.at 170 (by decide) (by decide), hf3.at 171 (by decide) (by decide), hf2.at 168 (by decide) (by decide), hf2.at 169 (by decide) (by decide), hf2.at 170 (by decide) (by decide), hf2.at 171 (by decide) (by decide)]
      exact K1
    refine m_putsBack (by omega) K3 (fun h4 hf4 M4 => ?_)
    have f4 := f3.trans (hf4.mono (by decide) (by decide))
    have K4 : P4 h4 168 169 170 171 (n + 1) (h 59) (h 60) (h 61) (h 62) := by
      unfold P4 at K3 ⊢
      rw [hf4.at 168 (by decide) (by decide), hf4.at 169 (by decide) (by decide), hf4.at 170 (by decide) (by decide), hf4.at 171 (by decide) (by decide)]
      exact K3
    have hw := wrs_rg (f := fun k => COSTW h k) (fun k => COSTW_bd P k) (by omega) k
    have hb := COSTW_bd P (k : Int)
    have IH := ih (k + 1) h4 (by omega) (by omega) f4 M4 K4
    have e2 : wrs (fun k => COSTW h k) (k + 1) = if (wrs (fun k => COSTW h k) k).1 = -2 ∨ COSTW h k < (wrs (fun k => COSTW h k) k).2 then ((k : Int), COSTW h k) else wrs (fun k => COSTW h k) k := rfl
    have hneg : ∀ m, (wrs (fun k => COSTW h k) m).1 < 0 → (wrs (fun k => COSTW h k) m).1 = -2 := by
      intro m
      induction m with
      | zero => intro _; rfl
      | succ m ihm =>
        intro z
        have e3 : wrs (fun k => COSTW h k) (m + 1) = if (wrs (fun k => COSTW h k) m).1 = -2 ∨ COSTW h m < (wrs (fun k => COSTW h k) m).2 then ((m : Int), COSTW h m) else wrs (fun k => COSTW h k) m := rfl
        by_cases c : (wrs (fun k => COSTW h k) m).1 = -2 ∨ COSTW h m < (wrs (fun k => COSTW h k) m).2
        · rw [e3, if_pos c] at z; dsimp only at z; omega
        · rw [e3, if_neg c] at z ⊢; exact ihm z
    rw [e2] at IH
    simp only [sgn_lt]
    refine ⟨fun h1 => ?_, fun h1 => ⟨fun h2 => ?_, fun h2 => ?_⟩⟩
    · rw [if_pos (Or.inl (hneg k h1))] at IH
      (repeat first | refine ck_ix (by omega) ?_ | refine ck_rg (by omega) ?_ | refine ck_rl (by omega) ?_)
      exact IH
    · rw [if_pos (by omega)] at IH
      (repeat first | refine ck_ix (by omega) ?_ | refine ck_rg (by omega) ?_ | refine ck_rl (by omega) ?_)
      exact IH
    · rw [if_neg (by omega)] at IH
      (repeat first | refine ck_ix (by omega) ?_ | refine ck_rg (by omega) ?_ | refine ck_rl (by omega) ?_)
      exact IH
theorem m_worst {N : Nat} {C : Int → aH → Prop} {h : aH} (P : PI h) (R : RelH h) (Q : RelP h) (hC : ∀ h', Fr [159, 160, 163, 164, 165, 166, 167, 168, 169, 170, 171] [48] h h' → RelP h' → C (vWorst h) h') : WI N 290 0 [(0, .inr (.inr 130))] h C := by
  obtain ⟨h0, h8, -⟩ := P.2.2.1
  have M := Q.mpl P.2.2.1
  refine w_290_0 (m_keeps (by omega) M (fun h1 hf K1 => ?_))
  have M1 := M.keep hf (by decide) (by decide) (by decide) (by decide) (by decide)
  rw [M.1]
  refine m_wst P R Q (by omega) (fun h2 hf2 M2 => hC h2 hf2 ?_) _ 0 h1 rfl (Nat.zero_le _) (hf.mono (by decide) (by decide)) M1 K1
  have kp := hf2.kp (by decide)
  unfold RelP
  rw [kp.wof, kp.at 16 (by decide), kp.at 58 (by decide), kp.at 59 (by decide), kp.at 60 (by decide), kp.at 61 (by decide), kp.at 62 (by decide), kp.at 63 (by decide), hf2.at 161 (by decide) (by decide), hf2.at 162 (by decide) (by decide), M2.1]
  exact ⟨by omega, fun j hj => M2.2 j (by omega), Q.2.2⟩
