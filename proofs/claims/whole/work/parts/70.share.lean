/-! the class: what one hears, WAYS, COST -/
theorem c_heardOf {N : Nat} {C : Int → aH → Prop} {h : aH} {s l w : Int} {k : Nat} (H : HI h) (hS : okSnd h) (h6 : h 28 6 = 0) (hk : (k : Int) < h 58 10) (hs : 0 ≤ s ∧ s < h 16 16) (hl : 0 ≤ l ∧ l < h 16 14)
    (hC : ∀ h', Fr [28, 31] [] h h' → h' 28 6 = 0 → C (HRD h s l w k) h') : WI N 110 0 [(0, .inr (.inr 92)), (1, .inl (k : Int)), (2, .inl s), (3, .inl l), (4, .inl w)] h C := by
  obtain ⟨g0, g8, gS⟩ := hS
  obtain ⟨g1, g2, g3, g4, g5⟩ := gS k hk
  refine w_110_0 ?_
  (repeat first | refine ck_ix (by omega) ?_ | refine ck_rg (by omega) ?_ | refine ck_rl (by omega) ?_)
  simp only [Int.toNat_natCast]
  refine ⟨fun hne => ?_, fun he => ?_⟩
  · (repeat first | refine ck_ix (by omega) ?_ | refine ck_rg (by omega) ?_ | refine ck_rl (by omega) ?_)
    refine c_hearing H h6 hs hl (g5 hne) (fun h' hf e6 => ?_)
    have := hC h' hf e6
    unfold HRD at this
    rw [if_neg hne] at this
    exact this
  · have he := Decidable.not_not.mp he
    refine ⟨fun hn => ?_, fun hn => ?_⟩
    · have := hC h Fr.rfl h6
      unfold HRD at this
      rw [if_pos he, if_neg hn] at this
      exact this
    · have := hC h Fr.rfl h6
      unfold HRD at this
      rw [if_pos he, if_pos (Decidable.not_not.mp hn)] at this
      exact this
theorem c_lsn {N : Nat} {C : aH → Prop} {h : aH} {s l w : Int} {c : Nat} {num : Nat → Nat} (P : PI h) (hc : c ≤ 8) (hn : h 92 11 = (c : Int)) (hnum : ∀ j, j < c → h 94 j = (num j : Nat) ∧ (num j : Int) < h 58 10) (hs : 0 ≤ s ∧ s < h 16 16) (hl : 0 ≤ l ∧ l < h 16 14)
    (hC : ∀ h', Fr [28, 31, 95] [] h h' → h' 28 6 = 0 → (∀ j, j < c → h' 95 j = HRD h s l w (num j)) → C h') : ∀ (d j : Nat) (h1 : aH), d = c - j → j ≤ c → Fr [28, 31, 95] [] h h1 → h1 28 6 = 0 → (∀ i, i < j → h1 95 i = HRD h s l w (num i)) →
    WV N 109 3 [(0, .inr (.inr 92)), (1, .inl s), (2, .inl l), (3, .inl w), (4, .inl (j : Int))] h1 C := by
  intro d
  induction d with
  | zero =>
    intro j h1 hd hj hf h6 ha
    refine w_109_3 ?_
    rw [hf.at 92 (by decide) (by decide), hn]
    refine ⟨fun _ => hC h1 hf h6 (fun i hi => ha i (by omega)), fun z => by omega⟩
  | succ d ih =>
    intro j h1 hd hj hf h6 ha
    have kp := hf.kp (by decide)
    have P1 := kp.pi P
    refine w_109_3 ?_
    rw [hf.at 92 (by decide) (by decide), hf.at 94 (by decide) (by decide), hn]
    refine ⟨fun z => by omega, fun _ => ?_⟩
    (repeat first | refine ck_ix (by omega) ?_ | refine ck_rg (by omega) ?_ | refine ck_rl (by omega) ?_)
    simp only [Int.toNat_natCast]
    obtain ⟨e1, e2⟩ := hnum j (by omega)
    rw [e1]
    refine c_heardOf P1.1 P1.2.2.1 h6 (by rw [kp.at 58 (by decide)]; exact e2) (by rw [kp.at 16 (by decide)]; exact hs) (by rw [kp.at 16 (by decide)]; exact hl) (fun h2 hf2 h62 => ?_)
    (repeat first | refine ck_ix (by omega) ?_ | refine ck_rg (by omega) ?_ | refine ck_rl (by omega) ?_)
    rw [kp.hrd]
    refine ih (j + 1) _ (by omega) (by omega) ((hf.trans (hf2.mono (by decide) (by decide))).up (by decide) (by decide)) ?_ (fun i hi => ?_)
    · rw [up_row (by decide)]; exact h62
    · rw [up_in]
      by_cases e : i = j
      · rw [if_pos e, e]
      · rw [if_neg e, hf2.at 95 (by decide) (by decide)]
        exact ha i (by omega)
theorem c_listenFrom {N : Nat} {C : aH → Prop} {h : aH} {s l w : Int} {c : Nat} {num : Nat → Nat} (P : PI h) (h6 : h 28 6 = 0) (hc : c ≤ 8) (hn : h 92 11 = (c : Int)) (hnum : ∀ j, j < c → h 94 j = (num j : Nat) ∧ (num j : Int) < h 58 10) (hs : 0 ≤ s ∧ s < h 16 16) (hl : 0 ≤ l ∧ l < h 16 14)
    (hC : ∀ h', Fr [28, 31, 95] [] h h' → h' 28 6 = 0 → (∀ j, j < c → h' 95 j = HRD h s l w (num j)) → C h') : WV N 109 0 [(0, .inr (.inr 92)), (1, .inl s), (2, .inl l), (3, .inl w)] h C :=
  w_109_0 (c_lsn P hc hn hnum hs hl hC c 0 h rfl (Nat.zero_le _) Fr.rfl h6 (fun i hi => by omega))
/-- wool, of one -/
def WOF (h : aH) (s : Int) : Int := am_and (am_shr (h 58 11) s) 1
theorem Kp.wof {h h' : aH} (a : Kp h h') : WOF h' = WOF h := by
  funext s
  unfold WOF
  rw [a.at 58 (by decide)]
theorem c_listen {N : Nat} {C : aH → Prop} {h : aH} {s : Nat} {c : Nat} {num : Nat → Nat} (P : PI h) (h6 : h 28 6 = 0) (hc : c ≤ 8) (hn : h 92 11 = (c : Int)) (hnum : ∀ j, j < c → h 94 j = (num j : Nat) ∧ (num j : Int) < h 58 10) (hs : (s : Int) < h 16 16)
    (hC : ∀ h', Fr [28, 31, 95] [] h h' → h' 28 6 = 0 → (∀ j, j < c → h' 95 j = HRD h s (h 63 s) (WOF h s) (num j)) → C h') : WV N 108 0 [(0, .inr (.inr 92)), (1, .inl (s : Int))] h C := by
  have hz := P.1.1
  unfold okSz at hz
  have hl := P.2.1.1 s hs
  refine w_108_0 ?_
  (repeat first | refine ck_ix (by omega) ?_ | refine ck_rg (by omega) ?_ | refine ck_rl (by omega) ?_)
  refine w_77_0 ?_
  exact c_listenFrom P h6 hc hn hnum ⟨by omega, hs⟩ ⟨hl.1, hl.2.1⟩ hC
def pst (mt hr : Nat → Int) (ag : Int → Int) : Nat → Int × Int
  | 0 => (0, 1)
  | k + 1 => nsH mt hr ag k
theorem c_ups {N : Nat} {C : Int → aH → Prop} {h : aH} {s : Nat} {c : Nat} {mt hr : Nat → Int} (P : PI h) (hs : (s : Int) < h 16 16) (hh : 0 ≤ h 23 s) (hc : c ≤ 8) (hn : h 92 11 = (c : Int)) (hm : ∀ j, j < c → h 93 j = mt j ∧ h 95 j = hr j ∧ (0 ≤ hr j ∧ hr j ≤ 10) ∧ (0 ≤ mt j ∧ mt j ≤ 399)) (hso : ∀ j, j + 1 < c → mt j ≤ mt (j + 1))
    (hC : ∀ h', Fr [34, 96, 97] [] h h' → okDz h' → C (UPV mt hr (AGN h s) (h 23 s) c) h') : ∀ (d n : Nat) (h1 : aH), d = c - n → n ≤ c → Fr [34, 96, 97] [] h h1 → okDz h1 → (∀ j, j < n → mt j ≤ h 23 s) →
    WL N 111 13 [(0, .inr (.inr 92)), (1, .inl (s : Int)), (2, .inl (h 23 s)), (3, .inr (.inl (pst mt hr (AGN h s) n).1)), (5, .inr (.inl ((pst mt hr (AGN h s) n).1 + (pst mt hr (AGN h s) n).2))), (7, .inl (n : Int))] h1 C := by
  have hz := P.1.1
  unfold okSz at hz
  have h399 : h 23 s ≤ 399 := by have := (P.1.2.2.2.1 s hs).2.1; omega
  have hag : ∀ x, 0 ≤ AGN h s x ∧ AGN h s x ≤ 10 := fun x => AGD_rg _ _ _
  intro d
  induction d with
  | zero =>
    intro n h1 hd hle hf hdz hb
    have kp := hf.kp (by decide)
    have P1 := kp.pi P
    refine w_111_13 ?_
    rw [hf.at 92 (by decide) (by decide), hf.at 93 (by decide) (by decide), hn]
    refine ⟨fun _ => ?_, fun z => by omega⟩
    have hu : unt mt (h 23 s) c = n := unt_eq hle hb (Or.inl (by omega))
    have key := hC
    unfold UPV at key
    rw [hu] at key
    rcases n with _ | k
    · exact ⟨fun z => absurd rfl z, fun _ => key h1 hf hdz⟩
    · refine ⟨fun _ => ?_, fun z => by omega⟩
      have e1 : (((k + 1 : Nat) : Int) - 1) = (k : Int) := by omega
      rw [e1]
      simp only [Int.toNat_natCast]
      have hk := hm k (by omega)
      have hbk := hb k (by omega)
      rw [hk.1]
      (repeat first | refine ck_ix (by omega) ?_ | refine ck_rg (by omega) ?_ | refine ck_rl (by omega) ?_)
      refine c_asleepAgain P1.1 hdz ⟨by omega, by rw [kp.at 16 (by decide)]; exact hs⟩ ⟨by omega, by omega⟩ (fun h2 hf2 hdz2 => ?_)
      rw [kp.agn, hf2.at 92 (by decide) (by decide), hf.at 92 (by decide) (by decide), hn, hf2.at 2 (by decide) (by decide), hf.at 2 (by decide) (by decide)]
      have hr1 := hag (h 23 s - mt k)
      obtain ⟨b1, b2, b3⟩ := nsH_bd (mt := mt) hag (n := k) (fun j hj => (hm j (by omega)).2.2.1)
      have hp := p100_8 (n := k) (by omega)
      have m1 := mul_bd (a := (nsH mt hr (AGN h s) k).1) (b := 10 - AGN h s (h 23 s - mt k)) (A := 100000000000000000) (B := 10) b1 (by omega) (by omega) (by omega)
      have hK := P.2.2.2.2 (c - (k + 1)) (by omega)
      have eK : ((c : Int) - ((k + 1 : Nat) : Int)).toNat = c - (k + 1) := by omega
      rw [eK, hK]
      have hU := UPV_bd (mt := mt) (hr := hr) (ag := AGN h s) (hour := h 23 s) (c := c) hag (fun j hj => (hm j hj).2.2.1)
      unfold UPV at hU
      rw [hu] at hU
      have hp8 := p100_8 hc
      have key2 := key h2 (hf.trans hf2) hdz2
      show am_rg _ ∧ am_rl ((nsH mt hr (AGN h s) k).1 * _) ∧ _
      have hU2 : 0 ≤ (nsH mt hr (AGN h s) k).1 * (10 - AGN h s (h 23 s - mt k)) * 100 ^ (c - (k + 1)) ∧ (nsH mt hr (AGN h s) k).1 * (10 - AGN h s (h 23 s - mt k)) * 100 ^ (c - (k + 1)) ≤ 100 ^ c := hU
      (repeat first | refine ck_ix (by omega) ?_ | refine ck_rg (by omega) ?_ | refine ck_rl (by omega) ?_)
      show am_rl ((nsH mt hr (AGN h s) k).1 * (10 - AGN h s (h 23 s - mt k)) * 100 ^ (c - (k + 1))) ∧ _
      refine ck_rl (by omega) ?_
      exact key2
  | succ d ih =>
    intro n h1 hd hle hf hdz hb
    have kp := hf.kp (by decide)
    have P1 := kp.pi P
    refine w_111_13 ?_
    rw [hf.at 92 (by decide) (by decide), hf.at 93 (by decide) (by decide), hf.at 95 (by decide) (by decide), hn]
    refine ⟨fun z => by omega, fun _ => ?_⟩
    (repeat first | refine ck_ix (by omega) ?_ | refine ck_rg (by omega) ?_ | refine ck_rl (by omega) ?_)
    simp only [Int.toNat_natCast]
    have hmn := hm n (by omega)
    rw [hmn.1, hmn.2.1]
    refine ⟨fun hlt => ?_, fun hge => ?_⟩
    · have hu : unt mt (h 23 s) c = n := unt_eq hle hb (Or.inr hlt)
      have key := hC
      unfold UPV at key
      rw [hu] at key
      rcases n with _ | k
      · exact ⟨fun z => absurd rfl z, fun _ => key h1 hf hdz⟩
      · refine ⟨fun _ => ?_, fun z => by omega⟩
        have e1 : (((k + 1 : Nat) : Int) - 1) = (k : Int) := by omega
        rw [e1]
        simp only [Int.toNat_natCast]
        have hk := hm k (by omega)
        have hbk := hb k (by omega)
        rw [hk.1]
        (repeat first | refine ck_ix (by omega) ?_ | refine ck_rg (by omega) ?_ | refine ck_rl (by omega) ?_)
        refine c_asleepAgain P1.1 hdz ⟨by omega, by rw [kp.at 16 (by decide)]; exact hs⟩ ⟨by omega, by omega⟩ (fun h2 hf2 hdz2 => ?_)
        rw [kp.agn, hf2.at 92 (by decide) (by decide), hf.at 92 (by decide) (by decide), hn, hf2.at 2 (by decide) (by decide), hf.at 2 (by decide) (by decide)]
        have hr1 := hag (h 23 s - mt k)
        obtain ⟨b1, b2, b3⟩ := nsH_bd (mt := mt) hag (n := k) (fun j hj => (hm j (by omega)).2.2.1)
        have hp := p100_8 (n := k) (by omega)
        have m1 := mul_bd (a := (nsH mt hr (AGN h s) k).1) (b := 10 - AGN h s (h 23 s - mt k)) (A := 100000000000000000) (B := 10) b1 (by omega) (by omega) (by omega)
        have hK := P.2.2.2.2 (c - (k + 1)) (by omega)
        have eK : ((c : Int) - ((k + 1 : Nat) : Int)).toNat = c - (k + 1) := by omega
        rw [eK, hK]
        have hU := UPV_bd (mt := mt) (hr := hr) (ag := AGN h s) (hour := h 23 s) (c := c) hag (fun j hj => (hm j hj).2.2.1)
        unfold UPV at hU
        rw [hu] at hU
        have hp8 := p100_8 hc
        have key2 := key h2 (hf.trans hf2) hdz2
        have hU2 : 0 ≤ (nsH mt hr (AGN h s) k).1 * (10 - AGN h s (h 23 s - mt k)) * 100 ^ (c - (k + 1)) ∧ (nsH mt hr (AGN h s) k).1 * (10 - AGN h s (h 23 s - mt k)) * 100 ^ (c - (k + 1)) ≤ 100 ^ c := hU
        show am_rg _ ∧ am_rl ((nsH mt hr (AGN h s) k).1 * _) ∧ _
        (repeat first | refine ck_ix (by omega) ?_ | refine ck_rg (by omega) ?_ | refine ck_rl (by omega) ?_)
        show am_rl ((nsH mt hr (AGN h s) k).1 * (10 - AGN h s (h 23 s - mt k)) * 100 ^ (c - (k + 1))) ∧ _
        refine ck_rl (by omega) ?_
        exact key2
    · have hb' : ∀ j, j < n + 1 → mt j ≤ h 23 s := fun j hj => by
        rcases Nat.eq_or_lt_of_le (Nat.le_of_lt_succ hj) with e | e
        · rw [e]; omega
        · exact hb j e
      have hx := hmn.2.2.1
      rcases n with _ | k
      · refine ⟨fun _ => ?_, fun z => absurd (Int.le_refl _) z⟩
        show am_rl ((0 : Int) * 10) ∧ am_rl ((0 + 1 : Int) - 0) ∧ _
        have e1 : ((0 + 1 : Int) - 0) * hr 0 = hr 0 := by omega
        refine ck_rl (by omega) (ck_rl (by omega) (ck_ix (by omega) ?_))
        show am_rl (((0 + 1 : Int) - 0) * hr 0) ∧ am_rl ((0 : Int) * 10 + ((0 + 1 : Int) - 0) * hr 0) ∧ am_rl ((0 + 1 : Int) * 10) ∧ _
        rw [e1]
        refine ck_rl (by omega) (ck_rl (by omega) (ck_rl (by omega) (ck_rg (by omega) ?_)))
        have := ih 1 h1 (by omega) (by omega) hf hdz hb'
        have e3 : (pst mt hr (AGN h s) 1).1 = 0 * 10 + ((0 + 1 : Int) - 0) * hr 0 := by rw [e1]; simp only [pst, nsH, evH]; omega
        have e4 : (pst mt hr (AGN h s) 1).1 + (pst mt hr (AGN h s) 1).2 = (0 + 1) * 10 := by simp only [pst, nsH, evH]; omega
        rw [e4, e3] at this
        exact this
      · refine ⟨fun z => by omega, fun _ => ?_⟩
        have e1 : (((k + 1 : Nat) : Int) - 1) = (k : Int) := by omega
        rw [e1]
        simp only [Int.toNat_natCast]
        have hk := hm k (by omega)
        have hbk := hso k (by omega)
        rw [hk.1]
        (repeat first | refine ck_ix (by omega) ?_ | refine ck_rg (by omega) ?_ | refine ck_rl (by omega) ?_)
        refine c_asleepAgain P1.1 hdz ⟨by omega, by rw [kp.at 16 (by decide)]; exact hs⟩ ⟨by omega, by omega⟩ (fun h2 hf2 hdz2 => ?_)
        rw [kp.agn, hf2.at 95 (by decide) (by decide), hf.at 95 (by decide) (by decide), hmn.2.1]
        have hr1 := hag (mt (k + 1) - mt k)
        obtain ⟨b1, b2, b3⟩ := nsH_bd (mt := mt) hag (n := k) (fun j hj => (hm j (by omega)).2.2.1)
        have hp := p100_8 (n := k) (by omega)
        have hp7 : (100 : Int) ^ k ≤ 100 ^ 7 := p100_le (by omega)
        have h7 : (100 : Int) ^ 7 = 100000000000000 := by decide
        have E := fun x => ih (k + 1 + 1) h2 (by omega) (by omega) (hf.trans hf2) x hb'
        have E := E hdz2
        simp only [pst] at E ⊢
        rw [show nsH mt hr (AGN h s) (k + 1) = evH (hr (k + 1)) (evA (AGN h s (mt (k + 1) - mt k)) (nsH mt hr (AGN h s) k)) from rfl] at E
        simp only [evH, evA] at E
        generalize (nsH mt hr (AGN h s) k).1 = a at *
        generalize (nsH mt hr (AGN h s) k).2 = b at *
        generalize AGN h s (mt (k + 1) - mt k) = g at *
        generalize hr (k + 1) = x at *
        have m1 := mul_bd (a := a) (b := 10 - g) (A := 1000000000000000) (B := 10) b1 (by omega) (by omega) (by omega)
        have m3 : (10 - g) * a = a * (10 - g) := Int.mul_comm _ _
        have m4 : (10 - g) * a = 10 * a - g * a := by rw [Int.sub_mul]
        have m5 : 0 ≤ g * a := Int.mul_nonneg (by omega) b1
        have m2 := mul_bd (a := (a + b) * 10 - a * (10 - g)) (b := x) (A := 10000000000000000) (B := 10) (by omega) (by omega) (by omega) (by omega)
        have m6 : 10 * b + g * a = (a + b) * 10 - a * (10 - g) := by omega
        have m7 : x * (10 * b + g * a) = ((a + b) * 10 - a * (10 - g)) * x := by rw [m6, Int.mul_comm]
        have m8 : (10 - x) * (10 * b + g * a) = 10 * ((a + b) * 10 - a * (10 - g)) - ((a + b) * 10 - a * (10 - g)) * x := by rw [Int.sub_mul, m7, m6]
        have q1 : 10 * ((10 - g) * a) + x * (10 * b + g * a) = a * (10 - g) * 10 + ((a + b) * 10 - a * (10 - g)) * x := by rw [m7]; omega
        have q2 : 10 * ((10 - g) * a) + x * (10 * b + g * a) + (10 - x) * (10 * b + g * a) = (a + b) * 10 * 10 := by rw [m8, m7]; omega
        rw [q2, q1] at E
        (repeat first | refine ck_ix (by omega) ?_ | refine ck_rg (by omega) ?_ | refine ck_rl (by omega) ?_)
        exact E
theorem c_upWays {N : Nat} {C : Int → aH → Prop} {h : aH} {s : Nat} {c : Nat} {mt hr : Nat → Int} (P : PI h) (hd : okDz h) (hs : (s : Int) < h 16 16) (hh : 0 ≤ h 23 s) (hc : c ≤ 8) (hn : h 92 11 = (c : Int)) (hm : ∀ j, j < c → h 93 j = mt j ∧ h 95 j = hr j ∧ (0 ≤ hr j ∧ hr j ≤ 10) ∧ (0 ≤ mt j ∧ mt j ≤ 399)) (hso : ∀ j, j + 1 < c → mt j ≤ mt (j + 1))
    (hC : ∀ h', Fr [34, 96, 97] [] h h' → okDz h' → C (UPV mt hr (AGN h s) (h 23 s) c) h') : WL N 111 0 [(0, .inr (.inr 92)), (1, .inl (s : Int))] h C := by
  have hz := P.1.1
  unfold okSz at hz
  refine w_111_0 (ck_ix (by omega) ?_)
  exact c_ups P hs hh hc hn hm hso hC c 0 h rfl (Nat.zero_le _) Fr.rfl hd (fun j hj => by omega)
theorem c_wks {N : Nat} {C : Int → aH → Prop} {h : aH} {c : Nat} {hr : Nat → Int} (hK : okK h) (hc : c ≤ 8) (hn : h 92 11 = (c : Int)) (hm : ∀ j, j < c → h 95 j = hr j ∧ 0 ≤ hr j ∧ hr j ≤ 10) (hC : C (WOKV hr c) h) : ∀ (d j : Nat), d = c - j → j ≤ c →
    WL N 113 5 [(0, .inr (.inr 92)), (1, .inr (.inl (prodN (fun j => 10 * (10 - hr j)) j))), (3, .inl (j : Int))] h C := by
  intro d
  induction d with
  | zero =>
    intro j hd hj
    have hW := WOKV_bd (hr := hr) (c := c) (fun j hj => (hm j hj).2)
    have hp := p100_8 hc
    have : j = c := by omega
    subst this
    refine w_113_5 ⟨fun _ => ?_, fun z => by rw [hn] at z; omega⟩
    rw [hn]
    (repeat first | refine ck_ix (by omega) ?_ | refine ck_rg (by omega) ?_ | refine ck_rl (by omega) ?_)
    simp only [Int.toNat_natCast]
    rw [hK j (by omega)]
    refine ck_rl (show _ by have := hW; unfold WOKV at this; omega) hC
  | succ d ih =>
    intro j hd hj
    have hj2 := hm j (by omega)
    refine w_113_5 ⟨fun z => by rw [hn] at z; omega, fun _ => ?_⟩
    (repeat first | refine ck_ix (by omega) ?_ | refine ck_rg (by omega) ?_ | refine ck_rl (by omega) ?_)
    simp only [Int.toNat_natCast]
    rw [hj2.1]
    have hb := prodN_bd (f := fun j => 10 * (10 - hr j)) (n := j + 1) (fun i hi => by have := hm i (by omega); show 0 ≤ 10 * (10 - hr i) ∧ 10 * (10 - hr i) ≤ 100; omega)
    have hp := p100_8 (n := j + 1) (by omega)
    have e : prodN (fun j => 10 * (10 - hr j)) (j + 1) = prodN (fun j => 10 * (10 - hr j)) j * (10 * (10 - hr j)) := rfl
    rw [e] at hb
    (repeat first | refine ck_ix (by omega) ?_ | refine ck_rg (by omega) ?_ | refine ck_rl (by omega) ?_)
    exact ih (j + 1) (by omega) (by omega)
theorem c_wokenWays {N : Nat} {C : Int → aH → Prop} {h : aH} {c : Nat} {hr : Nat → Int} (hK : okK h) (hc : c ≤ 8) (hn : h 92 11 = (c : Int)) (hm : ∀ j, j < c → h 95 j = hr j ∧ 0 ≤ hr j ∧ hr j ≤ 10) (hC : C (WOKV hr c) h) : WL N 113 0 [(0, .inr (.inr 92))] h C :=
  w_113_0 (c_wks hK hc hn hm hC c 0 rfl (Nat.zero_le _))
/-- what one costs -/
def SHV (h : aH) (s : Nat) (mt hr : Nat → Int) (c : Nat) : Int := if h 23 s = -2 then h 25 s * WOKV hr c else h 24 s * (100 ^ c - UPV mt hr (AGN h s) (h 23 s) c)
theorem SHV_bd {h : aH} (H : HI h) {s : Nat} (hs : (s : Int) < h 16 16) {mt hr : Nat → Int} {c : Nat} (hc : c ≤ 8) (hm : ∀ j, j < c → 0 ≤ hr j ∧ hr j ≤ 10) : 0 ≤ SHV h s mt hr c ∧ SHV h s mt hr c ≤ 9 * 100 ^ c := by
  obtain ⟨-, -, g3, g4⟩ := H.2.2.2.1 s hs
  have h1 := WOKV_bd (hr := hr) (c := c) hm
  have h2 := UPV_bd (mt := mt) (hr := hr) (ag := AGN h s) (hour := h 23 s) (c := c) (fun x => AGD_rg _ _ _) hm
  unfold SHV
  split
  · exact mul_bd g4.1 g4.2 h1.1 h1.2
  · exact mul_bd g3.1 g3.2 (by omega) (by omega)
theorem c_share {N : Nat} {C : Int → aH → Prop} {h : aH} {s : Nat} {c : Nat} {mt hr : Nat → Int} (P : PI h) (hd : okDz h) (hs : (s : Int) < h 16 16) (hc : c ≤ 8) (hn : h 92 11 = (c : Int)) (hm : ∀ j, j < c → h 93 j = mt j ∧ h 95 j = hr j ∧ (0 ≤ hr j ∧ hr j ≤ 10) ∧ (0 ≤ mt j ∧ mt j ≤ 399)) (hso : ∀ j, j + 1 < c → mt j ≤ mt (j + 1))
    (hC : ∀ h', Fr [34, 96, 97] [] h h' → okDz h' → C (SHV h s mt hr c) h') : WL N 116 0 [(0, .inr (.inr 92)), (1, .inl (s : Int))] h C := by
  have hz := P.1.1
  unfold okSz at hz
  obtain ⟨-, g2, g3, g4⟩ := P.1.2.2.2.1 s hs
  have hp := p100_8 hc
  have hm2 : ∀ j, j < c → 0 ≤ hr j ∧ hr j ≤ 10 := fun j hj => (hm j hj).2.2.1
  have hB := SHV_bd (mt := mt) P.1 hs hc hm2
  refine w_116_0 (ck_ix (by omega) ?_)
  simp only [Int.toNat_natCast]
  rw [hn]
  refine ⟨fun hne => ?_, fun he => ?_⟩
  · (repeat first | refine ck_ix (by omega) ?_ | refine ck_rg (by omega) ?_ | refine ck_rl (by omega) ?_)
    simp only [Int.toNat_natCast]
    refine c_upWays P hd hs (by omega) hc hn hm hso (fun h' hf hdz => ?_)
    have hU := UPV_bd (mt := mt) (hr := hr) (ag := AGN h s) (hour := h 23 s) (c := c) (fun x => AGD_rg _ _ _) hm2
    have key := hC h' hf hdz
    unfold SHV at key hB
    rw [if_neg hne] at key hB
    rw [P.2.2.2.2 c (by omega)]
    (repeat first | refine ck_ix (by omega) ?_ | refine ck_rg (by omega) ?_ | refine ck_rl (by omega) ?_)
    exact key
  · (repeat first | refine ck_ix (by omega) ?_ | refine ck_rg (by omega) ?_ | refine ck_rl (by omega) ?_)
    have he := Decidable.not_not.mp he
    refine c_wokenWays P.2.2.2.2 hc hn (fun j hj => ⟨(hm j hj).2.1, hm2 j hj⟩) ?_
    have key := hC h Fr.rfl hd
    unfold SHV at key hB
    rw [if_pos he] at key hB
    (repeat first | refine ck_ix (by omega) ?_ | refine ck_rg (by omega) ?_ | refine ck_rl (by omega) ?_)
    exact key
