/-! the reference: HEARING and AGAIN -/
def dpt (steps : Nat → Int) : Nat → Nat
  | 0 => 0
  | i + 1 => if -7 ≤ steps i then dpt steps i + 1 else dpt steps i - 1
/-- a law that never wants a value, and leaves one -/
def okRpn (steps : Nat → Int) (n : Int) : Prop := (∀ i : Nat, (i : Int) < n → ¬ (-7 ≤ steps i) → 2 ≤ dpt steps i) ∧ 1 ≤ dpt steps n.toNat
/-- a code of the reference is a step -/
def cdR (c v z : Int) : Prop := (c = 0 ∧ v = z ∧ 0 ≤ z) ∨ (c = 1 ∧ 0 ≤ v ∧ v ≤ 6 ∧ z = -1 - v) ∨ (c = 2 ∧ z = -21) ∨ (c = 3 ∧ z = -22) ∨ (c = 4 ∧ z = -23) ∨ (c = 5 ∧ z = -24) ∨ (c = 6 ∧ z = -25) ∨ (c = 7 ∧ z = -30)
def RelL (h : aH) (law : Nat) (steps : Nat → Int) (n : Int) : Prop := 0 ≤ h 154 law ∧ h 155 law = h 154 law + n ∧ h 155 law ≤ 840 ∧ (∀ i : Nat, (i : Int) < n → cdR (h 156 ((h 154 law).toNat + i)) (h 157 ((h 154 law).toNat + i)) (steps i)) ∧ okRpn steps n
def dflH (steps : Nat → Int) (n : Int) : Prop := n = 11 ∧ steps 0 = -1 ∧ steps 1 = -2 ∧ steps 2 = -22 ∧ steps 3 = -3 ∧ steps 4 = 3 ∧ steps 5 = -23 ∧ steps 6 = -22 ∧ steps 7 = -6 ∧ steps 8 = 4 ∧ steps 9 = -23 ∧ steps 10 = -22
def Lv (h : aH) : Nat := (h 130 18).toNat
/-- the reference's house is the class's -/
def RelH (h : aH) : Prop :=
  (h 130 18 = 0 ∨ h 130 18 = 1) ∧ (h 141 (Lv h) = h 16 14 ∧ h 144 (Lv h) = h 16 15 ∧ h 147 (Lv h) = h 16 16) ∧
  (∀ b : Nat, (b : Int) < h 16 14 → h 142 (12 * Lv h + b) = h 17 b ∧ h 143 (12 * Lv h + b) = h 18 b) ∧
  (∀ c : Nat, (c : Int) < h 16 15 → h 145 (9 * Lv h + c) = h 19 c ∧ h 146 (9 * Lv h + c) = h 20 c) ∧
  (∀ s : Nat, (s : Int) < h 16 16 → h 149 (12 * Lv h + s) = h 22 s ∧ h 150 (12 * Lv h + s) = h 23 s ∧ h 151 (12 * Lv h + s) = h 24 s ∧ h 152 (12 * Lv h + s) = h 25 s) ∧
  ((h 153 (2 * Lv h) = 0 ∧ dflH (h 30) (h 29 2)) ∨ (h 153 (2 * Lv h) = 1 ∧ RelL h (2 * Lv h) (h 30) (h 29 2)) ∨ h 16 16 = 0) ∧
  ((h 153 (2 * Lv h + 1) = 0 ∧ h 32 2 = 1 ∧ h 33 0 = 0) ∨ (h 153 (2 * Lv h + 1) = 1 ∧ RelL h (2 * Lv h + 1) (h 33) (h 32 2)) ∨ h 16 16 = 0)
def MH : List Nat := [141, 142, 143, 144, 145, 146, 147, 149, 150, 151, 152, 153, 154, 155, 156, 157]
def Km (h h' : aH) : Prop := (∀ r ∈ MH, h' r = h r) ∧ h' 130 18 = h 130 18
theorem Km.rfl {h : aH} : Km h h := ⟨fun _ _ => Eq.refl _, Eq.refl _⟩
theorem Km.trans {h h1 h2 : aH} (a : Km h h1) (b : Km h1 h2) : Km h h2 := ⟨fun r hr => (b.1 r hr).trans (a.1 r hr), b.2.trans a.2⟩
theorem Fr.km {C D : List Nat} {h h' : aH} (a : Fr C D h h') (hd : MH.all (fun r => !(C.contains r)) = true) (h18 : 18 ∉ D) : Km h h' := by
  refine ⟨fun r hr => ?_, a.2 18 h18⟩
  have h1 := List.all_eq_true.mp hd r hr
  refine a.1 r ?_ ?_
  · intro e
    subst e
    revert hr
    decide
  · intro hc
    rw [Bool.not_eq_true', List.contains_eq_mem, decide_eq_false_iff_not] at h1
    exact h1 hc
theorem RelH.keep {h h' : aH} (R : RelH h) (kp : Kp h h') (km : Km h h') : RelH h' := by
  have k := fun r hr => km.1 r hr
  unfold RelH RelL Lv at R ⊢
  rw [km.2, k 141 (by decide), k 142 (by decide), k 143 (by decide), k 144 (by decide), k 145 (by decide), k 146 (by decide), k 147 (by decide), k 149 (by decide), k 150 (by decide), k 151 (by decide), k 152 (by decide), k 153 (by decide), k 154 (by decide), k 155 (by decide), k 156 (by decide), k 157 (by decide),
    kp.at 16 (by decide), kp.at 17 (by decide), kp.at 18 (by decide), kp.at 19 (by decide), kp.at 20 (by decide), kp.at 22 (by decide), kp.at 23 (by decide), kp.at 24 (by decide), kp.at 25 (by decide), kp.at 29 (by decide), kp.at 30 (by decide), kp.at 32 (by decide), kp.at 33 (by decide)]
  exact R
theorem lwN_len {steps w : Nat → Int} {n : Nat} (hw : ∀ i : Nat, i < n → ¬ (-7 ≤ steps i) → 2 ≤ dpt steps i) : ∀ (i : Nat) (st : List Int), i ≤ n → lwN steps w i = some st → st.length = dpt steps i
  | 0, st, _, h => by
    have : st = [] := (Option.some.inj h).symm
    rw [this]; rfl
  | i + 1, st, hi, h => by
    unfold lwN at h
    unfold dpt
    cases hx : lwN steps w i with
    | none => rw [hx] at h; cases h
    | some s =>
      have ih := lwN_len hw i s (by omega) hx
      rw [hx] at h
      have h : lw1 w (steps i) s = some st := h
      by_cases hz : -7 ≤ steps i
      · unfold lw1 at h
        rw [if_pos hz] at h ⊢
        rw [← Option.some.inj h, List.length_cons, ih]
      · rw [if_neg hz]
        have h2 := hw i (by omega) hz
        unfold lw1 at h
        rw [if_neg hz] at h
        rcases s with _ | ⟨b, _ | ⟨a, s⟩⟩
        · simp at ih; omega
        · simp at ih; omega
        · simp only [List.length_cons] at ih
          dsimp only at h
          have key : ∀ v : Int, some (v :: s) = some st → st.length = dpt steps i - 1 := fun v hv => by
            rw [← Option.some.inj hv, List.length_cons]; omega
          by_cases c1 : steps i = -21
          · rw [if_pos c1] at h; exact key _ h
          · rw [if_neg c1] at h
            by_cases c2 : steps i = -22
            · rw [if_pos c2] at h; exact key _ h
            · rw [if_neg c2] at h
              by_cases c3 : steps i = -23
              · rw [if_pos c3] at h; exact key _ h
              · rw [if_neg c3] at h
                by_cases c4 : steps i = -25
                · rw [if_pos c4] at h; exact key _ h
                · rw [if_neg c4] at h
                  by_cases c5 : steps i = -30
                  · rw [if_pos c5] at h; exact key _ h
                  · rw [if_neg c5] at h
                    by_cases c6 : b = 0
                    · rw [if_pos c6] at h; cases h
                    · rw [if_neg c6] at h; exact key _ h
theorem m_val {N : Nat} {law : Nat} (hlaw : law < 4) (steps w : Nat → Int) (n : Int) (hl : okLaw steps n) {C : Int → aH → Prop} {h0 : aH} (R : RelL h0 law steps n) (hw : ∀ j, j < 7 → h0 159 j = w j) (hC : ∀ h', Fr [160] [] h0 h' → C (lwV steps n.toNat w) h') : ∀ (d : Nat) (i : Nat) (st : List Int) (h : aH), d = (n - i).toNat → (i : Int) ≤ n →
    lwN steps w i = some st → st.length ≤ i → stk (h 160) st → Fr [160] [] h0 h →
    WI N 261 8 [(0, .inr (.inr 130)), (1, .inl (law : Int)), (2, .inl (st.length : Int)), (3, .inl (h0 154 law + i))] h C := by
  obtain ⟨r0, r1, r2, r3, r4, r5⟩ := R
  obtain ⟨hl0, hl400, hls⟩ := hl
  intro d
  induction d using Nat.strongRecOn with
  | _ d ih =>
    intro i st h hd hi hN hlen hk hf
    have next : ∀ (st2 : List Int) (h2 : aH), (i : Int) < n → lwN steps w (i + 1) = some st2 → st2.length ≤ i + 1 → stk (h2 160) st2 → Fr [160] [] h h2 → WI N 261 112 [(0, .inr (.inr 130)), (1, .inl (law : Int)), (2, .inl (st2.length : Int)), (3, .inl (h0 154 law + i))] h2 C := by
      intro st2 h2 hin g1 g2 g3 g4
      refine w_261_112 ?_
      (repeat first | refine ck_ix (by omega) ?_ | refine ck_rg (by omega) ?_ | refine ck_rl (by omega) ?_)
      have := ih (n - (i + 1 : Nat)).toNat (by omega) (i + 1) st2 h2 rfl (by omega) g1 g2 g3 (hf.trans g4)
      have e : h0 154 law + ((i + 1 : Nat) : Int) = h0 154 law + (i : Int) + 1 := by omega
      rw [e] at this
      exact this
    refine w_261_8 ?_
    (repeat first | refine ck_ix (by omega) ?_ | refine ck_rg (by omega) ?_ | refine ck_rl (by omega) ?_)
    simp only [Int.toNat_natCast]
    rw [hf.at 155 (by decide) (by decide), hf.at 156 (by decide) (by decide), hf.at 157 (by decide) (by decide), hf.at 159 (by decide) (by decide), r1]
    have ei : (h0 154 law + (i : Int)).toNat = (h0 154 law).toNat + i := by omega
    rw [ei]
    have hlen2 := lwN_len (n := n.toNat) (fun j hj => r4 j (by omega)) i st (by omega) hN
    refine ⟨fun hc => ?_, fun hc => ?_⟩
    · have hin : i = n.toNat := by omega
      have hv : lwV steps n.toNat w = st.getLast?.getD 0 := by unfold lwV; rw [← hin, hN]
      have hne : st ≠ [] := by intro e; rw [e] at hlen2; rw [← hin] at r5; simp at hlen2; omega
      (repeat first | refine ck_ix (by omega) ?_ | refine ck_rg (by omega) ?_ | refine ck_rl (by omega) ?_)
      have := hC h hf
      rw [hv, stk_last hk hne] at this
      exact this
    · have hin : (i : Int) < n := by omega
      have hcd := r3 i hin
      have hs : lwN steps w (i + 1) = lw1 w (steps i) st := by rw [show lwN steps w (i + 1) = (match lwN steps w i with | some st => lw1 w (steps i) st | none => none) from rfl, hN]
      generalize h0 156 ((h0 154 law).toNat + i) = cd at *
      generalize h0 157 ((h0 154 law).toNat + i) = cv at *
      (repeat first | refine ck_ix (by omega) ?_ | refine ck_rg (by omega) ?_ | refine ck_rl (by omega) ?_)
      refine ⟨fun h2c => ?_, fun h2c => ?_⟩
      · have hz7 : ¬ (-7 ≤ steps i) := by unfold cdR at hcd; omega
        have h2 := r4 i hin hz7
        rcases st with _ | ⟨b, _ | ⟨a, st⟩⟩
        · simp at hlen2; omega
        · simp at hlen2; omega
        · obtain ⟨kb, ka, kst⟩ := hk
          have kb : h 160 (st.length + 1) = b := kb
          have eb : ((((b :: a :: st).length : Nat) : Int) + (-1)) = ((st.length + 1 : Nat) : Int) := by simp; omega
          have ea : w32 (((st.length + 1 : Nat) : Int) - 1) = (st.length : Int) := by unfold w32; simp at hlen; omega
          have hlen : st.length + 2 ≤ i := by simpa using hlen
          simp only [eb, ea, Int.toNat_natCast, ka, kb]
          have fin : ∀ (h2 : aH) (v : Int), h2 = am_up h 160 st.length v → lw1 w (steps i) (b :: a :: st) = some (v :: st) → WI N 261 112 [(0, .inr (.inr 130)), (1, .inl (law : Int)), (2, .inl ((st.length + 1 : Nat) : Int)), (3, .inl (h0 154 law + i))] h2 C := by
            intro h2 v e hv
            subst e
            exact next (v :: st) _ hin (by rw [hs]; exact hv) (by simp; omega) ⟨up_same _ _ _ _, stk_up (Nat.le_refl _) kst⟩ (Fr.rfl.up (by decide) (by decide))
          have step : ¬ (cd = 5 ∧ b = 0) → WI N 261 64 [(0, .inr (.inr 130)), (1, .inl (law : Int)), (2, .inl ((st.length + 1 : Nat) : Int)), (3, .inl (h0 154 law + i)), (4, .inl cd), (5, .inl a), (6, .inl b)] h C := by
            intro hdz
            refine w_261_64 ?_
            simp only [ea, Int.toNat_natCast]
            unfold lw1 at fin
            rw [if_neg hz7] at fin
            dsimp only at fin
            unfold cdR at hcd
            refine ⟨fun c2 => ⟨fun c3 => ⟨fun c4 => ⟨fun c5 => ⟨fun c6 => ⟨fun hx => ?_, fun hx => ?_⟩, fun c6 => ⟨fun hx => ?_, fun hx => ?_⟩⟩, fun c5 => ?_⟩, fun c4 => ?_⟩, fun c3 => ?_⟩, fun c2 => ?_⟩
            · (repeat first | refine ck_ix (by omega) ?_ | refine ck_rg (by omega) ?_ | refine ck_rl (by omega) ?_)
              refine fin _ _ rfl ?_
              rw [show steps i = -30 by omega]
              simp [hx]
            · (repeat first | refine ck_ix (by omega) ?_ | refine ck_rg (by omega) ?_ | refine ck_rl (by omega) ?_)
              refine fin _ _ rfl ?_
              rw [show steps i = -30 by omega]
              simp [Decidable.not_not.mp hx]
            · (repeat first | refine ck_ix (by omega) ?_ | refine ck_rg (by omega) ?_ | refine ck_rl (by omega) ?_)
              refine fin _ _ rfl ?_
              rw [show steps i = -25 by omega]
              simp [show ¬ a < b by omega]
            · (repeat first | refine ck_ix (by omega) ?_ | refine ck_rg (by omega) ?_ | refine ck_rl (by omega) ?_)
              refine fin _ _ rfl ?_
              rw [show steps i = -25 by omega]
              simp [show a < b by omega]
            · have hb : ¬ b = 0 := fun e => hdz ⟨by omega, e⟩
              refine ⟨hb, ?_⟩
              (repeat first | refine ck_ix (by omega) ?_ | refine ck_rg (by omega) ?_ | refine ck_rl (by omega) ?_)
              refine fin _ _ rfl ?_
              rw [show steps i = -24 by omega]
              simp [hb]
            · (repeat first | refine ck_ix (by omega) ?_ | refine ck_rg (by omega) ?_ | refine ck_rl (by omega) ?_)
              refine fin _ _ rfl ?_
              rw [show steps i = -23 by omega]
              simp
            · (repeat first | refine ck_ix (by omega) ?_ | refine ck_rg (by omega) ?_ | refine ck_rl (by omega) ?_)
              refine fin _ _ rfl ?_
              rw [show steps i = -22 by omega]
              simp
            · (repeat first | refine ck_ix (by omega) ?_ | refine ck_rg (by omega) ?_ | refine ck_rl (by omega) ?_)
              refine fin _ _ rfl ?_
              rw [show steps i = -21 by omega]
              simp
          (repeat first | refine ck_ix (by omega) ?_ | refine ck_rg (by omega) ?_ | refine ck_rl (by omega) ?_)
          refine ⟨fun hn5 => step (fun z => hn5 z.1), fun h5 => ⟨fun hb => step (fun z => hb z.2), fun hb => ?_⟩⟩
          have hnone : lwN steps w (i + 1) = none := by
            rw [hs]
            unfold lw1
            unfold cdR at hcd
            rw [if_neg hz7, show steps i = -24 by omega]
            simp [Decidable.not_not.mp hb]
          have := hC h hf
          unfold lwV at this
          rw [lwN_none hnone n.toNat (by omega)] at this
          exact this
      · have hz7 : -7 ≤ steps i := by unfold cdR at hcd; omega
        unfold lw1 at hs
        rw [if_pos hz7] at hs
        unfold cdR at hcd
        refine ⟨fun c0 => ?_, fun c0 => ?_⟩
        · rw [if_neg (by omega)] at hs
          (repeat first | refine ck_ix (by omega) ?_ | refine ck_rg (by omega) ?_ | refine ck_rl (by omega) ?_)
          refine w_261_41 ?_
          (repeat first | refine ck_ix (by omega) ?_ | refine ck_rg (by omega) ?_ | refine ck_rl (by omega) ?_)
          have e : (-1 - steps i).toNat = cv.toNat := by omega
          rw [hw _ (by omega)]
          rw [e] at hs
          exact next _ _ hin hs (by simp; omega) ⟨up_same _ _ _ _, stk_up (Nat.le_refl _) hk⟩ (Fr.rfl.up (by decide) (by decide))
        · rw [if_pos (by omega)] at hs
          (repeat first | refine ck_ix (by omega) ?_ | refine ck_rg (by omega) ?_ | refine ck_rl (by omega) ?_)
          refine w_261_41 ?_
          (repeat first | refine ck_ix (by omega) ?_ | refine ck_rg (by omega) ?_ | refine ck_rl (by omega) ?_)
          rw [show cv = steps i by omega]
          exact next _ _ hin hs (by simp; omega) ⟨up_same _ _ _ _, stk_up (Nat.le_refl _) hk⟩ (Fr.rfl.up (by decide) (by decide))
theorem m_value {N : Nat} {law : Nat} (hlaw : law < 4) {steps w : Nat → Int} {n : Int} (hl : okLaw steps n) {C : Int → aH → Prop} {h : aH} (R : RelL h law steps n) (hw : ∀ j, j < 7 → h 159 j = w j) (hC : ∀ h', Fr [160] [] h h' → C (lwV steps n.toNat w) h') :
    WI N 261 0 [(0, .inr (.inr 130)), (1, .inl (law : Int))] h C := by
  refine w_261_0 ?_
  (repeat first | refine ck_ix (by omega) ?_ | refine ck_rg (by omega) ?_ | refine ck_rl (by omega) ?_)
  simp only [Int.toNat_natCast]
  have := m_val (N := N) hlaw steps w n hl R hw hC n.toNat 0 [] h (by simp) hl.1 rfl (Nat.le_refl _) trivial Fr.rfl
  rw [show h 154 law + ((0 : Nat) : Int) = h 154 law by omega] at this
  exact this
theorem dfl_val {steps : Nat → Int} {n : Int} (hd : dflH steps n) {l g f o d w a : Int} (hl : 0 ≤ l ∧ l ≤ 12) (hg : 0 ≤ g ∧ g ≤ 9) (hf : 0 ≤ f ∧ f ≤ 3) (hw : w = 0 ∨ w = 1) : lwV steps n.toNat (hwd l g f o d w a) = l - g - f * 3 - w * 4 := by
  obtain ⟨rfl, s0, s1, s2, s3, s4, s5, s6, s7, s8, s9, s10⟩ := hd
  have e : lwN steps (hwd l g f o d w a) 11 = some [w32 (w32 (w32 (l - g) - w32 (f * 3)) - w32 (w * 4))] := by
    simp only [lwN, s0, s1, s2, s3, s4, s5, s6, s7, s8, s9, s10]
    rfl
  show (match lwN steps (hwd l g f o d w a) 11 with | some st => st.getLast?.getD 0 | none => 0) = _
  rw [e]
  show w32 (w32 (w32 (l - g) - w32 (f * 3)) - w32 (w * 4)) = _
  unfold w32
  omega
