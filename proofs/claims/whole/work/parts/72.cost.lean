/-! the class: up, woken, cost, worst -/
def sumN (f : Nat → Int) : Nat → Int
  | 0 => 0
  | n + 1 => sumN f n + f n
theorem sumN_bd {f : Nat → Int} {B : Int} (hB : 0 ≤ B) : ∀ {n : Nat}, (∀ j, j < n → 0 ≤ f j ∧ f j ≤ B) → 0 ≤ sumN f n ∧ sumN f n ≤ n * B
  | 0, _ => by unfold sumN; omega
  | n + 1, h => by
    have h1 := sumN_bd hB (n := n) (fun j hj => h j (by omega))
    have h2 := h n (by omega)
    have e : (((n + 1 : Nat) : Int)) * B = n * B + B := by rw [show (((n + 1 : Nat) : Int)) = (n : Int) + 1 by omega, Int.add_mul]; omega
    unfold sumN
    rw [e]
    omega
theorem sumN_congr {f g : Nat → Int} : ∀ {n : Nat}, (∀ j, j < n → f j = g j) → sumN f n = sumN g n
  | 0, _ => rfl
  | n + 1, h => by unfold sumN; rw [sumN_congr (fun j hj => h j (by omega)), h n (by omega)]
def SN : List Nat := [28, 31, 34, 92, 93, 94, 95, 96, 97]
def MTS (h : aH) (wo : Int) (c j : Nat) : Int := h 60 (NUM h wo c j)
def HRS (h : aH) (s : Nat) (wo : Int) (c j : Nat) : Int := HRD h s (h 63 s) (WOF h s) (NUM h wo c j)
def SHW (h : aH) (wo : Int) (s : Nat) : Int := SHV h s (MTS h wo (CNT h wo)) (HRS h s wo (CNT h wo)) (CNT h wo)
/-- COST without a sound -/
def COSTW (h : aH) (wo : Int) : Int := sumN (SHW h wo) (h 16 16).toNat
def UPS (h : aH) (s : Nat) : Int := UPV (MTS h (-1) (CNT h (-1))) (HRS h s (-1) (CNT h (-1))) (AGN h s) (h 23 s) (CNT h (-1))
def WOS (h : aH) (s : Nat) : Int := WOKV (HRS h s (-1) (CNT h (-1))) (CNT h (-1))
theorem CNT_le {h : aH} (hs : okSnd h) (wo : Int) : CNT h wo ≤ 8 := by
  have := hs.2.1
  unfold CNT cntW
  split <;> omega
theorem NUM_lt {h : aH} (hs : okSnd h) {wo : Int} {j : Nat} (hj : j < CNT h wo) : (NUM h wo (CNT h wo) j : Int) < h 58 10 := by
  have h1 := ordI_lt (fun j => h 60 (itm wo j)) (CNT h wo) j hj
  have h0 := hs.1
  show ((itm wo (ordI (fun j => h 60 (itm wo j)) (CNT h wo) j) : Nat) : Int) < h 58 10
  generalize ordI (fun j => h 60 (itm wo j)) (CNT h wo) j = o at h1
  unfold CNT cntW at h1
  unfold itm
  split <;> split at h1 <;> omega
theorem MTS_rg {h : aH} (hs : okSnd h) {wo : Int} {j : Nat} (hj : j < CNT h wo) : 0 ≤ MTS h wo (CNT h wo) j ∧ MTS h wo (CNT h wo) j ≤ 399 := (hs.2.2 _ (NUM_lt hs hj)).2.1
theorem MTS_srt (h : aH) (wo : Int) (c : Nat) : ∀ j, j + 1 < c → MTS h wo c j ≤ MTS h wo c (j + 1) := fun j hj => ordI_srt (fun j => h 60 (itm wo j)) c j hj
theorem Kp.num {h h' : aH} (a : Kp h h') : NUM h' = NUM h := by
  funext wo m j
  unfold NUM
  rw [a.at 60 (by decide)]
theorem Kp.cnt {h h' : aH} (a : Kp h h') : CNT h' = CNT h := by
  funext wo
  unfold CNT
  rw [a.at 58 (by decide)]
theorem Kp.mts {h h' : aH} (a : Kp h h') : MTS h' = MTS h := by
  funext wo c j
  unfold MTS
  rw [a.num, a.at 60 (by decide)]
theorem Kp.hrs {h h' : aH} (a : Kp h h') : HRS h' = HRS h := by
  funext s wo c j
  unfold HRS
  rw [a.num, a.hrd, a.wof, a.at 63 (by decide)]
theorem Kp.shv {h h' : aH} (a : Kp h h') : SHV h' = SHV h := by
  funext s mt hr c
  unfold SHV
  rw [a.agn, a.at 23 (by decide), a.at 24 (by decide), a.at 25 (by decide)]
theorem Kp.costw {h h' : aH} (a : Kp h h') : COSTW h' = COSTW h := by
  funext wo
  unfold COSTW SHW
  rw [a.mts, a.hrs, a.shv, a.cnt, a.at 16 (by decide)]
theorem Kp.ups {h h' : aH} (a : Kp h h') : UPS h' = UPS h := by
  funext s
  unfold UPS
  rw [a.mts, a.hrs, a.agn, a.cnt, a.at 23 (by decide)]
theorem Kp.wos {h h' : aH} (a : Kp h h') : WOS h' = WOS h := by
  funext s
  unfold WOS
  rw [a.hrs, a.cnt]
/-- behind arrange: the night's rows stay while one listens -/
theorem ARR.keep {h : aH} {wo : Int} {m : Nat} {h1 h2 : aH} (a : ARR h wo m h1) (e1 : h2 92 = h1 92) (e2 : h2 93 = h1 93) (e3 : h2 94 = h1 94) : ARR h wo m h2 := by
  unfold ARR at a ⊢
  rw [e1, e2, e3]
  exact a
theorem c_isSleeper {N : Nat} {C : Int → aH → Prop} {h : aH} {s : Int} (h1 : 0 ≤ s ∧ s < h 16 16 → C 1 h) (h0 : ¬ (0 ≤ s ∧ s < h 16 16) → C 0 h) : WI N 76 0 [(0, .inr (.inr 9)), (1, .inl s)] h C :=
  w_76_0 ⟨fun a => ck_t0 (h0 (by omega)), fun a => ⟨fun b => ck_t0 (h0 (by omega)), fun b => ck_t1 (h1 (by omega))⟩⟩
theorem c_cst {N : Nat} {C : Int → aH → Prop} {h : aH} {wo : Int} (P : PI h) (hC : ∀ h', Fr SN [] h h' → scr h' → C (COSTW h wo) h') : ∀ (d i : Nat) (h1 : aH), d = (h 16 16).toNat - i → (i : Int) ≤ h 16 16 → Fr SN [] h h1 → scr h1 → ARR h wo (CNT h wo) h1 →
    WL N 115 8 [(0, .inr (.inr 92)), (2, .inr (.inl (sumN (SHW h wo) i))), (4, .inl (i : Int))] h1 C := by
  have hz := P.1.1
  unfold okSz at hz
  have hc8 := CNT_le P.2.2.1 wo
  have hp := p100_8 hc8
  intro d
  induction d with
  | zero =>
    intro i h1 hd hi hf hs ha
    refine w_115_8 ?_
    rw [hf.at 16 (by decide) (by decide)]
    refine ⟨fun _ => ?_, fun z => by omega⟩
    have := hC h1 hf hs
    unfold COSTW at this
    rw [show (h 16 16).toNat = i by omega] at this
    exact this
  | succ d ih =>
    intro i h1 hd hi hf hs ha
    have kp := hf.kp (by decide)
    have P1 := kp.pi P
    refine w_115_8 ?_
    rw [hf.at 16 (by decide) (by decide)]
    refine ⟨fun z => by omega, fun _ => ?_⟩
    refine c_listen (c := CNT h wo) (num := NUM h wo (CNT h wo)) P1 hs.2 hc8 ha.1 (fun j hj => ⟨(ha.2 j hj).1, by rw [kp.at 58 (by decide)]; exact NUM_lt P.2.2.1 hj⟩) (by rw [kp.at 16 (by decide)]; omega) (fun h2 hf2 h62 e2 => ?_)
    have kp2 := hf2.kp (by decide)
    have ha2 := ha.keep (hf2.at 92 (by decide) (by decide)) (hf2.at 93 (by decide) (by decide)) (hf2.at 94 (by decide) (by decide))
    refine c_share (c := CNT h wo) (mt := MTS h wo (CNT h wo)) (hr := HRS h i wo (CNT h wo)) (kp2.pi P1) (hf2.dz (by decide) (by decide) (by decide) hs.1) (by rw [(kp.trans kp2).at 16 (by decide)]; omega) hc8 ha2.1 (fun j hj => ⟨(ha2.2 j hj).2, ?_, HRD_rg _ _ _ _ _, MTS_rg P.2.2.1 hj⟩) (MTS_srt h wo _) (fun h3 hf3 hdz3 => ?_)
    · rw [e2 j hj, kp.hrd, kp.wof, kp.at 63 (by decide)]; rfl
    · rw [(kp.trans kp2).shv]
      have hB : ∀ i : Nat, (i : Int) < h 16 16 → 0 ≤ SHW h wo i ∧ SHW h wo i ≤ 9 * 100 ^ (CNT h wo) := fun i hi => SHV_bd P.1 hi hc8 (fun j hj => HRD_rg _ _ _ _ _)
      have hS := sumN_bd (f := SHW h wo) (B := 9 * 100 ^ (CNT h wo)) (by omega) (n := i + 1) (fun j hj => hB j (by omega))
      have hS2 : sumN (SHW h wo) (i + 1) = sumN (SHW h wo) i + SHV h i (MTS h wo (CNT h wo)) (HRS h i wo (CNT h wo)) (CNT h wo) := rfl
      have hle : (((i + 1 : Nat) : Int)) * (9 * 100 ^ (CNT h wo)) ≤ 12 * (9 * 100 ^ (CNT h wo)) := Int.mul_le_mul_of_nonneg_right (by omega) (by omega)
      rw [hS2] at hS
      (repeat first | refine ck_ix (by omega) ?_ | refine ck_rg (by omega) ?_ | refine ck_rl (by omega) ?_)
      refine ih (i + 1) h3 (by omega) (by omega) ((hf.trans (hf2.mono (by decide) (by decide))).trans (hf3.mono (by decide) (by decide))) ⟨hdz3, ?_⟩ (ha2.keep (hf3.at 92 (by decide) (by decide)) (hf3.at 93 (by decide) (by decide)) (hf3.at 94 (by decide) (by decide)))
      rw [hf3.at 28 (by decide) (by decide)]
      exact h62
theorem c_costWithout {N : Nat} {C : Int → aH → Prop} {h : aH} {wo : Int} (P : PI h) (hs : scr h) (hC : ∀ h', Fr SN [] h h' → scr h' → C (COSTW h wo) h') : WL N 115 0 [(0, .inr (.inr 92)), (1, .inl wo)] h C := by
  have hz := P.1.1
  unfold okSz at hz
  refine w_115_0 (c_arrange P.2.2.1 (fun h1 hf ha => ?_))
  refine c_cst P hC (h 16 16).toNat 0 h1 rfl (by omega) (hf.mono (by decide) (by decide)) ⟨hf.dz (by decide) (by decide) (by decide) hs.1, ?_⟩ ha
  rw [hf.at 28 (by decide) (by decide)]
  exact hs.2
theorem c_cost {N : Nat} {C : Int → aH → Prop} {h : aH} (P : PI h) (hs : scr h) (hC : ∀ h', Fr SN [] h h' → scr h' → C (COSTW h (-1)) h') : WL N 114 0 [(0, .inr (.inr 9))] h C := w_114_0 (c_costWithout P hs hC)
def vUp (h : aH) (s : Int) : Int := if 0 ≤ s ∧ s < h 16 16 then (if h 23 s.toNat = -2 then -2 else UPS h s.toNat) else -1
def vWoken (h : aH) (s : Int) : Int := if 0 ≤ s ∧ s < h 16 16 then WOS h s.toNat else -1
theorem c_up {N : Nat} {C : Int → aH → Prop} {h : aH} {s : Int} (P : PI h) (hs : scr h) (hC : ∀ h', Fr SN [] h h' → scr h' → C (vUp h s) h') : WL N 105 0 [(0, .inr (.inr 9)), (1, .inl s)] h C := by
  have hz := P.1.1
  unfold okSz at hz
  have hc8 := CNT_le P.2.2.1 (-1)
  refine w_105_0 (c_isSleeper (fun hin => ?_) (fun hout => ?_))
  · refine ⟨fun _ => ?_, fun z => absurd (by decide) z⟩
    obtain ⟨n, rfl⟩ := Int.eq_ofNat_of_zero_le hin.1
    (repeat first | refine ck_ix (by omega) ?_ | refine ck_rg (by omega) ?_ | refine ck_rl (by omega) ?_)
    have key := hC
    unfold vUp at key
    rw [if_pos hin] at key
    simp only [Int.toNat_natCast] at key ⊢
    have hh := (P.1.2.2.2.1 n hin.2).2.1
    refine ⟨fun hne => ?_, fun he => ?_⟩
    · rw [if_neg hne] at key
      refine c_arrange P.2.2.1 (fun h1 hf ha => ?_)
      have kp := hf.kp (by decide)
      have P1 := kp.pi P
      refine c_listen (c := CNT h (-1)) (num := NUM h (-1) (CNT h (-1))) P1 (by rw [hf.at 28 (by decide) (by decide)]; exact hs.2) hc8 ha.1 (fun j hj => ⟨(ha.2 j hj).1, by rw [kp.at 58 (by decide)]; exact NUM_lt P.2.2.1 hj⟩) (by rw [kp.at 16 (by decide)]; exact hin.2) (fun h2 hf2 h62 e2 => ?_)
      have kp2 := hf2.kp (by decide)
      have ha2 := ha.keep (hf2.at 92 (by decide) (by decide)) (hf2.at 93 (by decide) (by decide)) (hf2.at 94 (by decide) (by decide))
      have hdz2 : okDz h2 := hf2.dz (by decide) (by decide) (by decide) (hf.dz (by decide) (by decide) (by decide) hs.1)
      have k12 := kp.trans kp2
      refine c_upWays (c := CNT h (-1)) (mt := MTS h (-1) (CNT h (-1))) (hr := HRS h n (-1) (CNT h (-1))) (kp2.pi P1) hdz2 (by rw [k12.at 16 (by decide)]; exact hin.2) (by rw [k12.at 23 (by decide)]; omega) hc8 ha2.1 (fun j hj => ⟨(ha2.2 j hj).2, ?_, HRD_rg _ _ _ _ _, MTS_rg P.2.2.1 hj⟩) (MTS_srt h (-1) _) (fun h3 hf3 hdz3 => ?_)
      · rw [e2 j hj, kp.hrd, kp.wof, kp.at 63 (by decide)]; rfl
      · rw [k12.agn, k12.at 23 (by decide)]
        refine key h3 (((hf.mono (by decide) (by decide)).trans (hf2.mono (by decide) (by decide))).trans (hf3.mono (by decide) (by decide))) ⟨hdz3, ?_⟩
        rw [hf3.at 28 (by decide) (by decide)]; exact h62
    · rw [if_pos (Decidable.not_not.mp he)] at key
      exact key h Fr.rfl hs
  · refine ⟨fun z => absurd rfl z, fun _ => ?_⟩
    have key := hC h Fr.rfl hs
    unfold vUp at key
    rw [if_neg hout] at key
    exact key
theorem c_woken {N : Nat} {C : Int → aH → Prop} {h : aH} {s : Int} (P : PI h) (hs : scr h) (hC : ∀ h', Fr SN [] h h' → scr h' → C (vWoken h s) h') : WL N 112 0 [(0, .inr (.inr 9)), (1, .inl s)] h C := by
  have hz := P.1.1
  unfold okSz at hz
  have hc8 := CNT_le P.2.2.1 (-1)
  refine w_112_0 (c_isSleeper (fun hin => ?_) (fun hout => ?_))
  · refine ⟨fun _ => ?_, fun z => absurd (by decide) z⟩
    obtain ⟨n, rfl⟩ := Int.eq_ofNat_of_zero_le hin.1
    have key := hC
    unfold vWoken at key
    rw [if_pos hin] at key
    simp only [Int.toNat_natCast] at key ⊢
    refine c_arrange P.2.2.1 (fun h1 hf ha => ?_)
    have kp := hf.kp (by decide)
    have P1 := kp.pi P
    refine c_listen (c := CNT h (-1)) (num := NUM h (-1) (CNT h (-1))) P1 (by rw [hf.at 28 (by decide) (by decide)]; exact hs.2) hc8 ha.1 (fun j hj => ⟨(ha.2 j hj).1, by rw [kp.at 58 (by decide)]; exact NUM_lt P.2.2.1 hj⟩) (by rw [kp.at 16 (by decide)]; exact hin.2) (fun h2 hf2 h62 e2 => ?_)
    have ha2 := ha.keep (hf2.at 92 (by decide) (by decide)) (hf2.at 93 (by decide) (by decide)) (hf2.at 94 (by decide) (by decide))
    have kp2 := hf2.kp (by decide)
    refine c_wokenWays (c := CNT h (-1)) (hr := HRS h n (-1) (CNT h (-1))) (kp2.pi P1).2.2.2.2 hc8 ha2.1 (fun j hj => ⟨?_, HRD_rg _ _ _ _ _⟩) ?_
    · rw [e2 j hj, kp.hrd, kp.wof, kp.at 63 (by decide)]; rfl
    · exact key h2 ((hf.mono (by decide) (by decide)).trans (hf2.mono (by decide) (by decide))) ⟨hf2.dz (by decide) (by decide) (by decide) (hf.dz (by decide) (by decide) (by decide) hs.1), h62⟩
  · refine ⟨fun z => absurd rfl z, fun _ => ?_⟩
    have key := hC h Fr.rfl hs
    unfold vWoken at key
    rw [if_neg hout] at key
    exact key
/-- the first of the least -/
def wrs (f : Nat → Int) : Nat → Int × Int
  | 0 => (-2, 0)
  | n + 1 => if (wrs f n).1 = -2 ∨ f n < (wrs f n).2 then ((n : Int), f n) else wrs f n
def vWorst (h : aH) : Int := (wrs (fun k => COSTW h k) (h 58 10).toNat).1
theorem COSTW_bd {h : aH} (P : PI h) (wo : Int) : 0 ≤ COSTW h wo ∧ COSTW h wo ≤ 1080000000000000000 := by
  have hz := P.1.1
  unfold okSz at hz
  have hc8 := CNT_le P.2.2.1 wo
  have hp := p100_8 hc8
  have hS := sumN_bd (f := SHW h wo) (B := 90000000000000000) (by omega) (n := (h 16 16).toNat) (fun j hj => by
    have := SHV_bd P.1 (s := j) (by omega) (mt := MTS h wo (CNT h wo)) (hr := HRS h j wo (CNT h wo)) hc8 (fun j hj => HRD_rg _ _ _ _ _)
    unfold SHW
    omega)
  unfold COSTW
  omega
theorem wrs_rg {f : Nat → Int} {B : Int} (hf : ∀ k, 0 ≤ f k ∧ f k ≤ B) (hB : 0 ≤ B) : ∀ n, (-2 ≤ (wrs f n).1 ∧ (wrs f n).1 < n) ∧ 0 ≤ (wrs f n).2 ∧ (wrs f n).2 ≤ B
  | 0 => by unfold wrs; omega
  | n + 1 => by
    have h1 := wrs_rg hf hB n
    have h2 := hf n
    by_cases c : (wrs f n).1 = -2 ∨ f n < (wrs f n).2
    · rw [show wrs f (n + 1) = ((n : Int), f n) from if_pos c]
      dsimp only
      omega
    · rw [show wrs f (n + 1) = wrs f n from if_neg c]
      omega
theorem c_wst {N : Nat} {C : Int → aH → Prop} {h : aH} (P : PI h) (hC : ∀ h', Fr SN [] h h' → scr h' → C (vWorst h) h') : ∀ (d i : Nat) (h1 : aH), d = (h 58 10).toNat - i → (i : Int) ≤ h 58 10 → Fr SN [] h h1 → scr h1 →
    WI N 117 7 [(0, .inr (.inr 9)), (1, .inl (wrs (fun k => COSTW h k) i).1), (2, .inr (.inl (wrs (fun k => COSTW h k) i).2)), (4, .inl (i : Int))] h1 C := by
  have hsn := P.2.2.1
  obtain ⟨hs0, hs8, -⟩ := hsn
  intro d
  induction d with
  | zero =>
    intro i h1 hd hi hf hs
    refine w_117_7 ?_
    rw [hf.at 58 (by decide) (by decide)]
    refine ⟨fun _ => ?_, fun z => by omega⟩
    have := hC h1 hf hs
    unfold vWorst at this
    rw [show (h 58 10).toNat = i by omega] at this
    exact this
  | succ d ih =>
    intro i h1 hd hi hf hs
    have kp := hf.kp (by decide)
    refine w_117_7 ?_
    rw [hf.at 58 (by decide) (by decide)]
    refine ⟨fun z => by omega, fun _ => c_costWithout (kp.pi P) hs (fun h2 hf2 hs2 => ?_)⟩
    rw [kp.costw]
    have hb := COSTW_bd P (i : Int)
    have hw := wrs_rg (f := fun k => COSTW h k) (fun k => COSTW_bd P k) (by omega) i
    have IH := ih (i + 1) h2 (by omega) (by omega) (hf.trans hf2) hs2
    have e : wrs (fun k => COSTW h k) (i + 1) = if (wrs (fun k => COSTW h k) i).1 = -2 ∨ COSTW h i < (wrs (fun k => COSTW h k) i).2 then ((i : Int), COSTW h i) else wrs (fun k => COSTW h k) i := rfl
    rw [e] at IH
    simp only [sgn_ge]
    refine ⟨fun h1 => ?_, fun h1 => ⟨fun h2 => ?_, fun h2 => ?_⟩⟩
    · rw [if_pos (Or.inl h1)] at IH
      (repeat first | refine ck_ix (by omega) ?_ | refine ck_rg (by omega) ?_ | refine ck_rl (by omega) ?_)
      exact IH
    · rw [if_neg (by omega)] at IH
      (repeat first | refine ck_ix (by omega) ?_ | refine ck_rg (by omega) ?_ | refine ck_rl (by omega) ?_)
      exact IH
    · rw [if_pos (by omega)] at IH
      (repeat first | refine ck_ix (by omega) ?_ | refine ck_rg (by omega) ?_ | refine ck_rl (by omega) ?_)
      exact IH
theorem c_worst {N : Nat} {C : Int → aH → Prop} {h : aH} (P : PI h) (hs : scr h) (hC : ∀ h', Fr SN [] h h' → scr h' → C (vWorst h) h') : WI N 117 0 [(0, .inr (.inr 9))] h C :=
  w_117_0 (c_wst P hC (h 58 10).toNat 0 h rfl P.2.2.1.1 Fr.rfl hs)
