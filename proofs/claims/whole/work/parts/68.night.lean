/-! the class: a night -/
theorem ipos_spec (f : Nat → Int) (a : Int) : ∀ c, (∀ j, ipos f a c ≤ j → j < c → a < f j) ∧ (ipos f a c = 0 ∨ f (ipos f a c - 1) ≤ a)
  | 0 => ⟨fun j h1 h2 => by omega, Or.inl rfl⟩
  | c + 1 => by
    obtain ⟨h1, h2⟩ := ipos_spec f a c
    unfold ipos
    by_cases h : a < f c
    · rw [if_pos h]
      refine ⟨fun j hj hc => ?_, h2⟩
      rcases Nat.eq_or_lt_of_le (Nat.le_of_lt_succ hc) with e | e
      · rw [e]; exact h
      · exact h1 j hj e
    · rw [if_neg h]
      exact ⟨fun j h1 h2 => by omega, Or.inr (by simpa using h)⟩
theorem ordI_srt (key : Nat → Int) : ∀ m j, j + 1 < m → key (ordI key m j) ≤ key (ordI key m (j + 1))
  | 0, j, h => by omega
  | m + 1, j, h => by
    have ih := ordI_srt key m
    obtain ⟨h1, h2⟩ := ipos_spec (fun j => key (ordI key m j)) (key m) m
    have hp := ipos_le (fun j => key (ordI key m j)) (key m) m
    unfold ordI
    generalize ipos (fun j => key (ordI key m j)) (key m) m = p at *
    unfold insF
    by_cases e1 : j + 1 < p
    · rw [if_pos (by omega), if_pos e1]; exact ih j (by omega)
    · by_cases e2 : j + 1 = p
      · rw [if_pos (by omega), if_neg e1, if_pos e2]
        rcases h2 with h2 | h2
        · omega
        · rw [← e2] at h2; simpa using h2
      · by_cases e3 : j < p
        · omega
        · rw [if_neg e3, if_neg e1, if_neg e2]
          by_cases e4 : j = p
          · rw [if_pos e4]
            have := h1 j (by omega) (by omega)
            simpa using Int.le_of_lt this
          · rw [if_neg e4]
            have := ih (j - 1) (by omega)
            rw [show j - 1 + 1 = j by omega] at this
            exact this
def okK (h : aH) : Prop := ∀ k : Nat, k < 9 → h 2 k = 100 ^ k
def scr (h : aH) : Prop := okDz h ∧ h 28 6 = 0
def PI (h : aH) : Prop := HI h ∧ okLie h ∧ okSnd h ∧ okWool h ∧ okK h
/-- the rows that say what is so -/
def PR : List Nat := [2, 16, 17, 18, 19, 20, 22, 23, 24, 25, 26, 27, 29, 30, 32, 33, 58, 59, 60, 61, 62, 63, 64, 65, 66, 67]
def Kp (h h' : aH) : Prop := ∀ r ∈ PR, h' r = h r
theorem Kp.rfl {h : aH} : Kp h h := fun _ _ => Eq.refl _
theorem Kp.trans {h h1 h2 : aH} (a : Kp h h1) (b : Kp h1 h2) : Kp h h2 := fun r hr => (b r hr).trans (a r hr)
theorem Fr.kp {C D : List Nat} {h h' : aH} (a : Fr C D h h') (hd : PR.all (fun r => !(C.contains r)) = true) : Kp h h' := by
  intro r hr
  have h1 := List.all_eq_true.mp hd r hr
  refine a.1 r ?_ ?_
  · intro e
    subst e
    revert hr
    decide
  · intro hc
    rw [Bool.not_eq_true', List.contains_eq_mem, decide_eq_false_iff_not] at h1
    exact h1 hc
theorem Kp.at {h h' : aH} (a : Kp h h') (r : Nat) (hr : r ∈ PR) : h' r = h r := a r hr
theorem Kp.pi {h h' : aH} (a : Kp h h') (H : PI h) : PI h' := by
  have e2 := a.at 2 (by decide)
  have e16 := a.at 16 (by decide)
  have e17 := a.at 17 (by decide)
  have e18 := a.at 18 (by decide)
  have e19 := a.at 19 (by decide)
  have e20 := a.at 20 (by decide)
  have e22 := a.at 22 (by decide)
  have e23 := a.at 23 (by decide)
  have e24 := a.at 24 (by decide)
  have e25 := a.at 25 (by decide)
  have e29 := a.at 29 (by decide)
  have e30 := a.at 30 (by decide)
  have e32 := a.at 32 (by decide)
  have e33 := a.at 33 (by decide)
  have e58 := a.at 58 (by decide)
  have e59 := a.at 59 (by decide)
  have e60 := a.at 60 (by decide)
  have e61 := a.at 61 (by decide)
  have e62 := a.at 62 (by decide)
  have e63 := a.at 63 (by decide)
  have e64 := a.at 64 (by decide)
  unfold PI HI okSz okBeds okClk okSlp okLie okSnd okWool okK at H ⊢
  rw [e2, e16, e17, e18, e19, e20, e22, e23, e24, e25, e29, e30, e32, e33, e58, e59, e60, e61, e62, e63, e64]
  exact H
theorem Kp.hear {h h' : aH} (a : Kp h h') : HEAR h' = HEAR h := by
  funext s l w loud b m
  unfold HEAR gapF flrF
  rw [a.at 30 (by decide), a.at 29 (by decide), a.at 18 (by decide), a.at 17 (by decide), a.at 22 (by decide)]
theorem Kp.agn {h h' : aH} (a : Kp h h') : AGN h' = AGN h := by
  funext s x
  unfold AGN AGD
  rw [a.at 33 (by decide), a.at 32 (by decide), a.at 22 (by decide)]
theorem Kp.agd {h h' : aH} (a : Kp h h') : AGD h' = AGD h := by
  funext d x
  unfold AGD
  rw [a.at 33 (by decide), a.at 32 (by decide)]
theorem Fr.dz {C D : List Nat} {h h' : aH} (a : Fr C D h h') (hd : PR.all (fun r => !(C.contains r)) = true) (h96 : 96 ∉ C) (h97 : 97 ∉ C) (H : okDz h) : okDz h' := by
  unfold okDz at H ⊢
  rw [a.at 96 h96 (by decide), a.at 97 h97 (by decide), (a.kp hd).agd]
  exact H
/-- what is heard of a sound -/
def HRD (h : aH) (s l w : Int) (k : Nat) : Int := if h 59 k = 1 then (if h 62 k = s then 10 else 0) else HEAR h s l w (h 61 k) (h 62 k) (h 60 k)
theorem HRD_rg (h : aH) (s l w : Int) (k : Nat) : 0 ≤ HRD h s l w k ∧ HRD h s l w k ≤ 10 := by
  unfold HRD
  have := HEAR_rg h s l w (h 61 k) (h 62 k) (h 60 k)
  split <;> (try split) <;> omega
theorem Kp.hrd {h h' : aH} (a : Kp h h') : HRD h' = HRD h := by
  funext s l w k
  unfold HRD
  rw [a.hear, a.at 59 (by decide), a.at 60 (by decide), a.at 61 (by decide), a.at 62 (by decide)]
theorem c_ins {N : Nat} {C : Int → aH → Prop} {x a : Int} {c : Nat} (hc : c < 8) {h : aH} (hC : ∀ h', Fr [92, 93, 94] [] h h' → h' 92 11 = (c : Int) + 1 → (∀ j, j ≤ c → h' 93 j = insF (h 93) (ipos (h 93) a c) a j) → (∀ j, j ≤ c → h' 94 j = insF (h 94) (ipos (h 93) a c) x j) → C (ipos (h 93) a c : Nat) h') :
    ∀ (i : Nat) (h1 : aH), i ≤ c → Fr [92, 93, 94] [] h h1 → h1 92 11 = (c : Int) → (∀ j, j < i → h1 93 j = h 93 j ∧ h1 94 j = h 94 j) → (∀ j, i < j → j ≤ c → h1 93 j = h 93 (j - 1) ∧ h1 94 j = h 94 (j - 1)) → ipos (h 93) a c = ipos (h 93) a i →
    WI N 107 10 [(0, .inr (.inr 92)), (1, .inl x), (2, .inl a), (3, .inl (i : Int))] h1 C := by
  intro i
  induction i with
  | zero =>
    intro h1 hi hf hn hlo hhi hp
    have hp0 : ipos (h 93) a c = 0 := by rw [hp]; rfl
    refine w_107_10 ⟨fun _ => ?_, fun z => absurd (Int.le_refl _) z⟩
    rw [hn]
    (repeat first | refine ck_ix (by omega) ?_ | refine ck_rg (by omega) ?_ | refine ck_rl (by omega) ?_)
    have := hC (am_up (am_up (am_up h1 93 0 a) 94 0 x) 92 11 ((c : Int) + 1)) (((hf.up (by decide) (by decide)).up (by decide) (by decide)).up (by decide) (by decide)) (up_same _ _ _ _) (fun j hj => ?_) (fun j hj => ?_)
    · rw [hp0] at this; exact this
    · rw [up_row (by decide), up_row (by decide), up_in, hp0]
      unfold insF
      by_cases e : j = 0
      · simp [e]
      · simp only [if_neg e, Nat.not_lt_zero, if_false]; exact (hhi j (by omega) hj).1
    · rw [up_row (by decide), up_in, up_row (by decide), hp0]
      unfold insF
      by_cases e : j = 0
      · simp [e]
      · simp only [if_neg e, Nat.not_lt_zero, if_false]; exact (hhi j (by omega) hj).2
  | succ i ih =>
    intro h1 hi hf hn hlo hhi hp
    have ei : (((i + 1 : Nat) : Int) - 1) = (i : Int) := by omega
    have ei2 : (((i + 1 : Nat) : Int) + (-1)) = (i : Int) := by omega
    have hm := (hlo i (by omega)).1
    have hnn := (hlo i (by omega)).2
    refine w_107_10 ?_
    rw [hn, ei, ei2]
    simp only [Int.toNat_natCast]
    refine ⟨fun z => by omega, fun _ => ?_⟩
    (repeat first | refine ck_ix (by omega) ?_ | refine ck_rg (by omega) ?_ | refine ck_rl (by omega) ?_)
    rw [hm, hnn]
    refine ⟨fun hle => ?_, fun hgt => ?_⟩
    · have hp1 : ipos (h 93) a c = i + 1 := by rw [hp]; unfold ipos; rw [if_neg (by omega)]
      (repeat first | refine ck_ix (by omega) ?_ | refine ck_rg (by omega) ?_ | refine ck_rl (by omega) ?_)
      have := hC (am_up (am_up (am_up h1 93 (i + 1) a) 94 (i + 1) x) 92 11 ((c : Int) + 1)) (((hf.up (by decide) (by decide)).up (by decide) (by decide)).up (by decide) (by decide)) (up_same _ _ _ _) (fun j hj => ?_) (fun j hj => ?_)
      · rw [hp1] at this; exact this
      · rw [up_row (by decide), up_row (by decide), up_in, hp1]
        unfold insF
        by_cases e : j = i + 1
        · simp [e]
        · by_cases e2 : j < i + 1
          · rw [if_neg e, if_pos e2]; exact (hlo j e2).1
          · rw [if_neg e, if_neg e2, if_neg e]; exact (hhi j (by omega) hj).1
      · rw [up_row (by decide), up_in, up_row (by decide), hp1]
        unfold insF
        by_cases e : j = i + 1
        · simp [e]
        · by_cases e2 : j < i + 1
          · rw [if_neg e, if_pos e2]; exact (hlo j e2).2
          · rw [if_neg e, if_neg e2, if_neg e]; exact (hhi j (by omega) hj).2
    · (repeat first | refine ck_ix (by omega) ?_ | refine ck_rg (by omega) ?_ | refine ck_rl (by omega) ?_)
      refine ih _ (by omega) ((hf.up (by decide) (by decide)).up (by decide) (by decide)) ?_ (fun j hj => ?_) (fun j hj hj2 => ?_) ?_
      · rw [up_row (by decide), up_row (by decide)]; exact hn
      · rw [up_row (by decide), up_ne (by omega), up_ne (by omega), up_row (by decide)]
        exact hlo j (by omega)
      · rw [up_row (by decide), up_in, up_in, up_row (by decide)]
        by_cases e : j = i + 1
        · rw [if_pos e, if_pos e, e]; exact ⟨rfl, rfl⟩
        · rw [if_neg e, if_neg e]; exact hhi j (by omega) hj2
      · rw [hp]
        show ipos (h 93) a (i + 1) = ipos (h 93) a i
        conv => lhs; unfold ipos
        rw [if_pos (by omega)]
theorem c_insert {N : Nat} {C : Int → aH → Prop} {x a : Int} {c : Nat} (hc : c < 8) {h : aH} (hn : h 92 11 = (c : Int)) (hC : ∀ h', Fr [92, 93, 94] [] h h' → h' 92 11 = (c : Int) + 1 → (∀ j, j ≤ c → h' 93 j = insF (h 93) (ipos (h 93) a c) a j) → (∀ j, j ≤ c → h' 94 j = insF (h 94) (ipos (h 93) a c) x j) → C (ipos (h 93) a c : Nat) h') :
    WI N 107 0 [(0, .inr (.inr 92)), (1, .inl x), (2, .inl a)] h C := by
  refine w_107_0 ⟨fun _ => ?_, fun z => absurd (show h 92 11 < 8 by rw [hn]; omega) z⟩
  rw [hn]
  exact c_ins hc hC c h (Nat.le_refl _) Fr.rfl hn (fun j _ => ⟨rfl, rfl⟩) (fun j h1 h2 => by omega) rfl
/-- the j-th of the sounds but one -/
def itm (wo : Int) (j : Nat) : Nat := if 0 ≤ wo ∧ wo ≤ j then j + 1 else j
/-- how many of the first n there are without that one -/
def cntW (wo : Int) (n : Nat) : Nat := if 0 ≤ wo ∧ wo < n then n - 1 else n
def CNT (h : aH) (wo : Int) : Nat := cntW wo (h 58 10).toNat
def NUM (h : aH) (wo : Int) (m j : Nat) : Nat := itm wo (ordI (fun j => h 60 (itm wo j)) m j)
/-- the night's rows: the sounds but one in their order -/
def ARR (h : aH) (wo : Int) (m : Nat) (h' : aH) : Prop := h' 92 11 = (m : Int) ∧ ∀ j, j < m → h' 94 j = (NUM h wo m j : Nat) ∧ h' 93 j = h 60 (NUM h wo m j)
theorem c_arr {N : Nat} {C : aH → Prop} {wo : Int} {h : aH} (hs : okSnd h) (hC : ∀ h', Fr [92, 93, 94] [] h h' → ARR h wo (CNT h wo) h' → C h') : ∀ (d s : Nat) (h1 : aH), d = (h 58 10).toNat - s → (s : Int) ≤ h 58 10 → Fr [92, 93, 94] [] h h1 → ARR h wo (cntW wo s) h1 →
    WV N 106 6 [(0, .inr (.inr 92)), (1, .inl wo), (2, .inl (s : Int))] h1 C := by
  obtain ⟨hs0, hs8, -⟩ := hs
  intro d
  induction d with
  | zero =>
    intro s h1 hd hle hf ha
    refine w_106_6 ?_
    rw [hf.at 58 (by decide) (by decide)]
    refine ⟨fun _ => hC h1 hf ?_, fun z => by omega⟩
    unfold CNT
    rw [show (h 58 10).toNat = s by omega]
    exact ha
  | succ d ih =>
    intro s h1 hd hle hf ha
    have hlt : (s : Int) < h 58 10 := by omega
    refine w_106_6 ?_
    rw [hf.at 58 (by decide) (by decide), hf.at 60 (by decide) (by decide)]
    refine ⟨fun z => by omega, fun _ => ⟨fun he => ?_, fun hne => ?_⟩⟩
    · (repeat first | refine ck_ix (by omega) ?_ | refine ck_rg (by omega) ?_ | refine ck_rl (by omega) ?_)
      refine ih (s + 1) h1 (by omega) (by omega) hf ?_
      have : cntW wo (s + 1) = cntW wo s := by unfold cntW; rw [if_pos (by omega), if_neg (by omega)]; omega
      rw [this]; exact ha
    · (repeat first | refine ck_ix (by omega) ?_ | refine ck_rg (by omega) ?_ | refine ck_rl (by omega) ?_)
      simp only [Int.toNat_natCast]
      have hm : cntW wo s < 8 := by unfold cntW; split <;> omega
      have hit : itm wo (cntW wo s) = s := by unfold itm cntW; split <;> split <;> omega
      have hm1 : cntW wo (s + 1) = cntW wo s + 1 := by unfold cntW; split <;> split <;> omega
      generalize hmm : cntW wo s = m at *
      obtain ⟨ha1, ha2⟩ := ha
      have hip : ipos (h1 93) (h 60 s) m = ipos (fun j => h 60 (itm wo (ordI (fun j => h 60 (itm wo j)) m j))) (h 60 (itm wo m)) m := by
        rw [hit]
        exact ipos_congr (fun j hj => (ha2 j hj).2)
      have hpl := ipos_le (h1 93) (h 60 s) m
      refine c_insert hm ha1 (fun h2 hf2 e1 e2 e3 => ?_)
      (repeat first | refine ck_ix (by omega) ?_ | refine ck_rg (by omega) ?_ | refine ck_rl (by omega) ?_)
      refine ih (s + 1) h2 (by omega) (by omega) (hf.trans hf2) ?_
      rw [hm1]
      refine ⟨by rw [e1]; omega, fun j hj => ?_⟩
      have e2 := e2 j (by omega)
      have e3 := e3 j (by omega)
      rw [e2, e3]
      unfold NUM
      rw [show ordI (fun j => h 60 (itm wo j)) (m + 1) = insF (ordI (fun j => h 60 (itm wo j)) m) (ipos (fun j => h 60 (itm wo (ordI (fun j => h 60 (itm wo j)) m j))) (h 60 (itm wo m)) m) m from rfl, ← hip]
      unfold insF
      by_cases g1 : j < ipos (h1 93) (h 60 s) m
      · rw [if_pos g1, if_pos g1, if_pos g1]
        exact ha2 j (by omega)
      · rw [if_neg g1, if_neg g1, if_neg g1]
        by_cases g2 : j = ipos (h1 93) (h 60 s) m
        · rw [if_pos g2, if_pos g2, if_pos g2, hit]
          exact ⟨rfl, rfl⟩
        · rw [if_neg g2, if_neg g2, if_neg g2]
          exact ha2 (j - 1) (by omega)
theorem c_arrange {N : Nat} {C : aH → Prop} {wo : Int} {h : aH} (hs : okSnd h) (hC : ∀ h', Fr [92, 93, 94] [] h h' → ARR h wo (CNT h wo) h' → C h') : WV N 106 0 [(0, .inr (.inr 92)), (1, .inl wo)] h C := by
  have h0 := hs.1
  refine w_106_0 ?_
  refine c_arr hs hC (h 58 10).toNat 0 _ (by omega) (by omega) (Fr.rfl.up (by decide) (by decide)) ?_
  have : cntW wo 0 = 0 := by unfold cntW; split <;> rfl
  rw [this]
  exact ⟨up_same _ _ _ _, fun j hj => by omega⟩
