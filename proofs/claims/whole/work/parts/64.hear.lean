/-! the class: HEARING and AGAIN -/
theorem val_29 {N : Nat} (steps w : Nat → Int) (n : Int) (hl : okLaw steps n) {C : Int → aH → Prop} {h0 : aH} : ∀ (d : Nat) (i : Nat) (st : List Int) (h : aH), d = (n - i).toNat → (i : Int) ≤ n → h 30 = steps → h 29 2 = n → (∀ j, j < 7 → h 28 j = w j) →
    lwN steps w i = some st → st.length ≤ i → stk (h 31) st → Fr [31] [] h0 h → (∀ h', Fr [31] [] h0 h' → C (lwV steps n.toNat w) h') →
    WI N 85 5 [(0, .inr (.inr 29)), (1, .inr (.inr 28)), (2, .inl (st.length : Int)), (3, .inl (i : Int))] h C := by
  intro d
  induction d using Nat.strongRecOn with
  | _ d ih =>
    intro i st h hd hi hst hn hw hN hlen hk hf hC
    have e1 : ∀ x : Nat, h 30 x = steps x := fun x => by rw [hst]
    have next : ∀ (st2 : List Int) (h2 : aH), (i : Int) < n → lwN steps w (i + 1) = some st2 → st2.length ≤ i + 1 → stk (h2 31) st2 → Fr [31] [] h h2 → WI N 85 103 [(0, .inr (.inr 29)), (1, .inr (.inr 28)), (2, .inl (st2.length : Int)), (3, .inl (i : Int))] h2 C := by
      intro st2 h2 hin g1 g2 g3 g4
      refine w_85_103_r29_28 ?_
      have hl400 := hl.2.1
      refine ck_rg (by omega) ?_
      have := ih (n - (i + 1 : Nat)).toNat (by omega) (i + 1) st2 h2 rfl (by omega) (by rw [g4.at 30 (by decide) (by decide)]; exact hst) (by rw [g4.at 29 (by decide) (by decide)]; exact hn) (fun j hj => by rw [g4.at 28 (by decide) (by decide)]; exact hw j hj) g1 g2 g3 (hf.trans g4) hC
      exact this
    refine w_85_5_r29_28 ?_
    rw [hn]
    simp only [Int.toNat_natCast, e1]
    refine ⟨fun hc => ?_, fun hc => ?_⟩
    · have hin : i = n.toNat := by omega
      have hv : lwV steps n.toNat w = st.getLast?.getD 0 := by unfold lwV; rw [← hin, hN]
      refine ⟨fun h0 => ?_, fun h0 => ?_⟩
      · have : st = [] := by rcases st with _ | ⟨a, st⟩; rfl; simp at h0; omega
        have := hC h hf
        rw [hv] at this
        simpa [‹st = []›] using this
      · refine ck_ix (by omega) ?_
        have := hC h hf
        rw [hv, stk_last hk (by intro e; rw [e] at h0; simp at h0)] at this
        exact this
    · have hin : (i : Int) < n := by omega
      obtain ⟨hl0, hl400, hls⟩ := hl
      have hz := hls i hin
      have hs : lwN steps w (i + 1) = lw1 w (steps i) st := by rw [show lwN steps w (i + 1) = (match lwN steps w i with | some st => lw1 w (steps i) st | none => none) from rfl, hN]
      refine ck_ix (by omega) ?_
      refine ⟨fun hz7 => ?_, fun hz7 => ?_⟩
      · unfold lw1 at hs
        rw [if_neg (by omega)] at hs
        refine ⟨fun h2 => ?_, fun h2 => ?_⟩
        · rcases st with _ | ⟨b, _ | ⟨a, st⟩⟩
          · simp at h2
          · simp at h2
          · obtain ⟨kb, ka, kst⟩ := hk
            have kb : h 31 (st.length + 1) = b := kb
            have ea : w32 (((st.length + 1 : Nat) : Int) - 1) = (st.length : Int) := by unfold w32; simp at hlen; omega
            have eb : ((((b :: a :: st).length : Nat) : Int) + (-1)) = ((st.length + 1 : Nat) : Int) := by simp; omega
            have hlen : st.length + 2 ≤ i := by simpa using hlen
            simp only [eb, ea, Int.toNat_natCast, ka, kb]
            have fin : ∀ v : Int, lw1 w (steps i) (b :: a :: st) = some (v :: st) → WI N 85 95 [(0, .inr (.inr 29)), (1, .inr (.inr 28)), (2, .inl ((st.length + 1 : Nat) : Int)), (3, .inl (i : Int)), (6, .inl v)] h C := by
              intro v hv
              refine w_85_95_r29_28 ?_
              have ec : w32 (((st.length + 1 : Nat) : Int) - 1) = (st.length : Int) := by unfold w32; omega
              rw [ec]
              refine ck_ix (by omega) ?_
              refine next (v :: st) _ hin (by rw [show lwN steps w (i + 1) = (match lwN steps w i with | some st => lw1 w (steps i) st | none => none) from rfl, hN]; exact hv) (by simp; omega) ⟨up_same _ _ _ _, stk_up (Nat.le_refl _) kst⟩ (Fr.rfl.up (by decide) (by decide))
            have dv : steps i = -24 → WI N 85 86 [(0, .inr (.inr 29)), (1, .inr (.inr 28)), (2, .inl ((st.length + 1 : Nat) : Int)), (3, .inl (i : Int)), (5, .inl b), (6, .inl a)] h C := by
              intro hz24
              refine w_85_86_r29_28 ⟨fun hb => ⟨hb, fin _ ?_⟩, fun hb => ?_⟩
              · unfold lw1
                rw [if_neg (by omega), hz24]
                simp [hb]
              · have hnone : lwN steps w (i + 1) = none := by
                  rw [hs, hz24]
                  simp [Decidable.not_not.mp hb]
                have := hC h hf
                unfold lwV at this
                rw [lwN_none hnone n.toNat (by omega)] at this
                exact this
            refine ck_rg (by omega) (ck_ix (by omega) (ck_ix (by omega) (ck_rg (by omega) ?_)))
            refine ⟨fun hq => by exfalso; omega, fun _ => ⟨fun hq => fin _ ?_, fun _ => ⟨fun hq => fin _ ?_, fun _ => ⟨fun hq => fin _ ?_, fun _ => ⟨fun hq => dv (by omega), fun _ => ⟨fun hq => ⟨fun hx => fin _ ?_, fun hx => fin _ ?_⟩, fun _ => ⟨fun hq => by exfalso; omega, fun _ => ⟨fun hq => by exfalso; omega, fun _ => ⟨fun hq => by exfalso; omega, fun _ => ⟨fun hq => by exfalso; omega, fun _ => ⟨fun hq => ⟨fun hx => fin _ ?_, fun hx => fin _ ?_⟩, fun hq => by omega⟩⟩⟩⟩⟩⟩⟩⟩⟩⟩⟩
            · unfold lw1; rw [if_neg (by omega), show steps i = -21 by omega]; rfl
            · unfold lw1; rw [if_neg (by omega), show steps i = -22 by omega]; rfl
            · unfold lw1; rw [if_neg (by omega), show steps i = -23 by omega]; rfl
            · unfold lw1; rw [if_neg (by omega), show steps i = -25 by omega]; simp [show ¬ a < b by omega]
            · unfold lw1; rw [if_neg (by omega), show steps i = -25 by omega]; simp [show a < b by omega]
            · unfold lw1; rw [if_neg (by omega), show steps i = -30 by omega]; simp [hx]
            · unfold lw1; rw [if_neg (by omega), show steps i = -30 by omega]; simp [Decidable.not_not.mp hx]
        · have hnone : lwN steps w (i + 1) = none := by
            rw [hs]
            rcases st with _ | ⟨b, _ | ⟨a, st⟩⟩
            · rfl
            · rfl
            · simp at h2; omega
          have := hC h hf
          unfold lwV at this
          rw [lwN_none hnone n.toNat (by omega)] at this
          exact this
      · unfold lw1 at hs
        rw [if_pos (by omega)] at hs
        refine ⟨fun h0 => ?_, fun h0 => ?_⟩
        · rw [if_neg (by omega)] at hs
          have ew : w32 ((-1 : Int) - steps i) = -1 - steps i := by unfold w32; omega
          rw [ew]
          refine ck_ix (by omega) (ck_ix (by omega) ?_)
          refine w_85_31_r29_28 (ck_rg (by omega) ?_)
          rw [hw _ (by omega)]
          exact next _ _ hin hs (by simp; omega) ⟨up_same _ _ _ _, stk_up (Nat.le_refl _) hk⟩ (Fr.rfl.up (by decide) (by decide))
        · rw [if_pos (by omega)] at hs
          refine ck_ix (by omega) ?_
          refine w_85_31_r29_28 (ck_rg (by omega) ?_)
          exact next _ _ hin hs (by simp; omega) ⟨up_same _ _ _ _, stk_up (Nat.le_refl _) hk⟩ (Fr.rfl.up (by decide) (by decide))
theorem value_29 {N : Nat} {w : Nat → Int} {h : aH} {C : Int → aH → Prop} (hl : okLaw (h 30) (h 29 2)) (hw : ∀ j, j < 7 → h 28 j = w j) (hC : ∀ h', Fr [31] [] h h' → C (lwV (h 30) (h 29 2).toNat w) h') :
    WI N 85 0 [(0, .inr (.inr 29)), (1, .inr (.inr 28))] h C := by
  refine w_85_0_r29_28 ?_
  exact val_29 (h 30) w (h 29 2) hl _ 0 [] h rfl hl.1 rfl rfl hw rfl (Nat.le_refl _) trivial Fr.rfl hC
theorem val_32 {N : Nat} (steps w : Nat → Int) (n : Int) (hl : okLaw steps n) {C : Int → aH → Prop} {h0 : aH} : ∀ (d : Nat) (i : Nat) (st : List Int) (h : aH), d = (n - i).toNat → (i : Int) ≤ n → h 33 = steps → h 32 2 = n → (∀ j, j < 7 → h 97 j = w j) →
    lwN steps w i = some st → st.length ≤ i → stk (h 34) st → Fr [34] [] h0 h → (∀ h', Fr [34] [] h0 h' → C (lwV steps n.toNat w) h') →
    WI N 85 5 [(0, .inr (.inr 32)), (1, .inr (.inr 97)), (2, .inl (st.length : Int)), (3, .inl (i : Int))] h C := by
  intro d
  induction d using Nat.strongRecOn with
  | _ d ih =>
    intro i st h hd hi hst hn hw hN hlen hk hf hC
    have e1 : ∀ x : Nat, h 33 x = steps x := fun x => by rw [hst]
    have next : ∀ (st2 : List Int) (h2 : aH), (i : Int) < n → lwN steps w (i + 1) = some st2 → st2.length ≤ i + 1 → stk (h2 34) st2 → Fr [34] [] h h2 → WI N 85 103 [(0, .inr (.inr 32)), (1, .inr (.inr 97)), (2, .inl (st2.length : Int)), (3, .inl (i : Int))] h2 C := by
      intro st2 h2 hin g1 g2 g3 g4
      refine w_85_103_r32_97 ?_
      have hl400 := hl.2.1
      refine ck_rg (by omega) ?_
      have := ih (n - (i + 1 : Nat)).toNat (by omega) (i + 1) st2 h2 rfl (by omega) (by rw [g4.at 33 (by decide) (by decide)]; exact hst) (by rw [g4.at 32 (by decide) (by decide)]; exact hn) (fun j hj => by rw [g4.at 97 (by decide) (by decide)]; exact hw j hj) g1 g2 g3 (hf.trans g4) hC
      exact this
    refine w_85_5_r32_97 ?_
    rw [hn]
    simp only [Int.toNat_natCast, e1]
    refine ⟨fun hc => ?_, fun hc => ?_⟩
    · have hin : i = n.toNat := by omega
      have hv : lwV steps n.toNat w = st.getLast?.getD 0 := by unfold lwV; rw [← hin, hN]
      refine ⟨fun h0 => ?_, fun h0 => ?_⟩
      · have : st = [] := by rcases st with _ | ⟨a, st⟩; rfl; simp at h0; omega
        have := hC h hf
        rw [hv] at this
        simpa [‹st = []›] using this
      · refine ck_ix (by omega) ?_
        have := hC h hf
        rw [hv, stk_last hk (by intro e; rw [e] at h0; simp at h0)] at this
        exact this
    · have hin : (i : Int) < n := by omega
      obtain ⟨hl0, hl400, hls⟩ := hl
      have hz := hls i hin
      have hs : lwN steps w (i + 1) = lw1 w (steps i) st := by rw [show lwN steps w (i + 1) = (match lwN steps w i with | some st => lw1 w (steps i) st | none => none) from rfl, hN]
      refine ck_ix (by omega) ?_
      refine ⟨fun hz7 => ?_, fun hz7 => ?_⟩
      · unfold lw1 at hs
        rw [if_neg (by omega)] at hs
        refine ⟨fun h2 => ?_, fun h2 => ?_⟩
        · rcases st with _ | ⟨b, _ | ⟨a, st⟩⟩
          · simp at h2
          · simp at h2
          · obtain ⟨kb, ka, kst⟩ := hk
            have kb : h 34 (st.length + 1) = b := kb
            have ea : w32 (((st.length + 1 : Nat) : Int) - 1) = (st.length : Int) := by unfold w32; simp at hlen; omega
            have eb : ((((b :: a :: st).length : Nat) : Int) + (-1)) = ((st.length + 1 : Nat) : Int) := by simp; omega
            have hlen : st.length + 2 ≤ i := by simpa using hlen
            simp only [eb, ea, Int.toNat_natCast, ka, kb]
            have fin : ∀ v : Int, lw1 w (steps i) (b :: a :: st) = some (v :: st) → WI N 85 95 [(0, .inr (.inr 32)), (1, .inr (.inr 97)), (2, .inl ((st.length + 1 : Nat) : Int)), (3, .inl (i : Int)), (6, .inl v)] h C := by
              intro v hv
              refine w_85_95_r32_97 ?_
              have ec : w32 (((st.length + 1 : Nat) : Int) - 1) = (st.length : Int) := by unfold w32; omega
              rw [ec]
              refine ck_ix (by omega) ?_
              refine next (v :: st) _ hin (by rw [show lwN steps w (i + 1) = (match lwN steps w i with | some st => lw1 w (steps i) st | none => none) from rfl, hN]; exact hv) (by simp; omega) ⟨up_same _ _ _ _, stk_up (Nat.le_refl _) kst⟩ (Fr.rfl.up (by decide) (by decide))
            have dv : steps i = -24 → WI N 85 86 [(0, .inr (.inr 32)), (1, .inr (.inr 97)), (2, .inl ((st.length + 1 : Nat) : Int)), (3, .inl (i : Int)), (5, .inl b), (6, .inl a)] h C := by
              intro hz24
              refine w_85_86_r32_97 ⟨fun hb => ⟨hb, fin _ ?_⟩, fun hb => ?_⟩
              · unfold lw1
                rw [if_neg (by omega), hz24]
                simp [hb]
              · have hnone : lwN steps w (i + 1) = none := by
                  rw [hs, hz24]
                  simp [Decidable.not_not.mp hb]
                have := hC h hf
                unfold lwV at this
                rw [lwN_none hnone n.toNat (by omega)] at this
                exact this
            refine ck_rg (by omega) (ck_ix (by omega) (ck_ix (by omega) (ck_rg (by omega) ?_)))
            refine ⟨fun hq => by exfalso; omega, fun _ => ⟨fun hq => fin _ ?_, fun _ => ⟨fun hq => fin _ ?_, fun _ => ⟨fun hq => fin _ ?_, fun _ => ⟨fun hq => dv (by omega), fun _ => ⟨fun hq => ⟨fun hx => fin _ ?_, fun hx => fin _ ?_⟩, fun _ => ⟨fun hq => by exfalso; omega, fun _ => ⟨fun hq => by exfalso; omega, fun _ => ⟨fun hq => by exfalso; omega, fun _ => ⟨fun hq => by exfalso; omega, fun _ => ⟨fun hq => ⟨fun hx => fin _ ?_, fun hx => fin _ ?_⟩, fun hq => by omega⟩⟩⟩⟩⟩⟩⟩⟩⟩⟩⟩
            · unfold lw1; rw [if_neg (by omega), show steps i = -21 by omega]; rfl
            · unfold lw1; rw [if_neg (by omega), show steps i = -22 by omega]; rfl
            · unfold lw1; rw [if_neg (by omega), show steps i = -23 by omega]; rfl
            · unfold lw1; rw [if_neg (by omega), show steps i = -25 by omega]; simp [show ¬ a < b by omega]
            · unfold lw1; rw [if_neg (by omega), show steps i = -25 by omega]; simp [show a < b by omega]
            · unfold lw1; rw [if_neg (by omega), show steps i = -30 by omega]; simp [hx]
            · unfold lw1; rw [if_neg (by omega), show steps i = -30 by omega]; simp [Decidable.not_not.mp hx]
        · have hnone : lwN steps w (i + 1) = none := by
            rw [hs]
            rcases st with _ | ⟨b, _ | ⟨a, st⟩⟩
            · rfl
            · rfl
            · simp at h2; omega
          have := hC h hf
          unfold lwV at this
          rw [lwN_none hnone n.toNat (by omega)] at this
          exact this
      · unfold lw1 at hs
        rw [if_pos (by omega)] at hs
        refine ⟨fun h0 => ?_, fun h0 => ?_⟩
        · rw [if_neg (by omega)] at hs
          have ew : w32 ((-1 : Int) - steps i) = -1 - steps i := by unfold w32; omega
          rw [ew]
          refine ck_ix (by omega) (ck_ix (by omega) ?_)
          refine w_85_31_r32_97 (ck_rg (by omega) ?_)
          rw [hw _ (by omega)]
          exact next _ _ hin hs (by simp; omega) ⟨up_same _ _ _ _, stk_up (Nat.le_refl _) hk⟩ (Fr.rfl.up (by decide) (by decide))
        · rw [if_pos (by omega)] at hs
          refine ck_ix (by omega) ?_
          refine w_85_31_r32_97 (ck_rg (by omega) ?_)
          exact next _ _ hin hs (by simp; omega) ⟨up_same _ _ _ _, stk_up (Nat.le_refl _) hk⟩ (Fr.rfl.up (by decide) (by decide))
theorem value_32 {N : Nat} {w : Nat → Int} {h : aH} {C : Int → aH → Prop} (hl : okLaw (h 33) (h 32 2)) (hw : ∀ j, j < 7 → h 97 j = w j) (hC : ∀ h', Fr [34] [] h h' → C (lwV (h 33) (h 32 2).toNat w) h') :
    WI N 85 0 [(0, .inr (.inr 32)), (1, .inr (.inr 97))] h C := by
  refine w_85_0_r32_97 ?_
  exact val_32 (h 33) w (h 32 2) hl _ 0 [] h rfl hl.1 rfl rfl hw rfl (Nat.le_refl _) trivial Fr.rfl hC
theorem c_apart {N : Nat} {h : aH} {C : Int → aH → Prop} {a b : Int} (H : HI h) (ha : 0 ≤ a ∧ a < h 16 14) (hb : 0 ≤ b ∧ b < h 16 14) (hC : C (gapF h a b) h) : WI N 84 0 [(0, .inr (.inr 16)), (1, .inl a), (2, .inl b)] h C := by
  obtain ⟨hz, hB, -⟩ := H
  unfold okSz at hz
  have h1 := hB a.toNat (by omega)
  have h2 := hB b.toNat (by omega)
  refine w_84_0 ?_
  (repeat first | refine ck_ix (by omega) ?_ | refine ck_rg (by omega) ?_ | refine ck_rl (by omega) ?_)
  exact hC
theorem c_hearing {N : Nat} {h : aH} {C : Int → aH → Prop} {s l w loud b m : Int} (H : HI h) (h6 : h 28 6 = 0) (hs : 0 ≤ s ∧ s < h 16 16) (hl : 0 ≤ l ∧ l < h 16 14) (hb : 0 ≤ b ∧ b < h 16 14)
    (hC : ∀ h', Fr [28, 31] [] h h' → h' 28 6 = 0 → C (HEAR h s l w loud b m) h') : WI N 83 0 [(0, .inr (.inr 16)), (1, .inl s), (2, .inl l), (3, .inl w), (4, .inl loud), (5, .inl b), (6, .inl m)] h C := by
  have H0 := H
  obtain ⟨hz, hB, -, -, hL, -⟩ := H
  unfold okSz at hz
  have h1 := hB l.toNat (by omega)
  have h2 := hB b.toNat (by omega)
  refine w_83_0 (ck_ix (by omega) ?_)
  have hup : am_up h 28 0 loud 16 = h 16 := up_row (by decide)
  have hup17 : am_up h 28 0 loud 17 = h 17 := up_row (by decide)
  have hup18 : am_up h 28 0 loud 18 = h 18 := up_row (by decide)
  have HU : HI (am_up h 28 0 loud) := H0
  refine c_apart HU (by rw [hup]; exact hl) (by rw [hup]; exact hb) ?_
  rw [hup17]
  (repeat first | refine ck_ix (by omega) ?_ | refine ck_rg (by omega) ?_ | refine ck_rl (by omega) ?_)
  refine ⟨by decide, ?_⟩
  (repeat first | refine ck_ix (by omega) ?_ | refine ck_rg (by omega) ?_ | refine ck_rl (by omega) ?_)
  refine value_29 (w := hwd loud (gapF h l b) (flrF h l b) (w32 (m.tdiv 60)) (h 22 s.toNat) w 0) hL ?_ ?_
  · intro j hj
    have : j = 0 ∨ j = 1 ∨ j = 2 ∨ j = 3 ∨ j = 4 ∨ j = 5 ∨ j = 6 := by omega
    rcases this with e | e | e | e | e | e | e <;> subst e <;> simp [up_in, hwd, up_row, h6] <;> rfl
  · intro h' hf
    refine w_86_0 (hC h' ⟨fun r hr hc => ?_, fun j hj => ?_⟩ ?_)
    · have := hf.1 r hr (fun z => hc (by simp at z; simp [z]))
      rw [this]
      have h28 : r ≠ 28 := fun e => hc (by simp [e])
      simp only [up_row h28]
    · exact hf.2 j hj
    · rw [hf.at 28 (by decide) (by decide)]
      simp [up_in, h6]
theorem c_asleepAgain {N : Nat} {h : aH} {C : Int → aH → Prop} {s a : Int} (H : HI h) (hd : okDz h) (hs : 0 ≤ s ∧ s < h 16 16) (ha : 0 ≤ a ∧ a < 400)
    (hC : ∀ h', Fr [34, 96, 97] [] h h' → okDz h' → C (AGN h s a) h') : WI N 88 0 [(0, .inr (.inr 92)), (1, .inl s), (2, .inl a)] h C := by
  obtain ⟨hz, -, -, hS, -, hL⟩ := H
  unfold okSz at hz
  have h1 := (hS s.toNat (by omega)).1
  obtain ⟨hd1, hd2⟩ := hd
  have hcell : (h 22 s.toNat * 400 + a).toNat = (h 22 s.toNat).toNat * 400 + a.toNat := by omega
  have hcase := hd2 (h 22 s.toNat).toNat a.toNat (by omega) (by omega)
  have ea : ((a.toNat : Nat) : Int) = a := by omega
  have ed : (((h 22 s.toNat).toNat : Nat) : Int) = h 22 s.toNat := by omega
  rw [ea, ed] at hcase
  refine w_88_0 ?_
  rw [hcell]
  (repeat first | refine ck_ix (by omega) ?_ | refine ck_rg (by omega) ?_ | refine ck_rl (by omega) ?_)
  refine ⟨fun hne => ?_, fun he => ?_⟩
  · (repeat first | refine ck_ix (by omega) ?_ | refine ck_rg (by omega) ?_ | refine ck_rl (by omega) ?_)
    rw [hcase.resolve_left hne]
    exact hC h Fr.rfl ⟨hd1, hd2⟩
  · (repeat first | refine ck_ix (by omega) ?_ | refine ck_rg (by omega) ?_ | refine ck_rl (by omega) ?_)
    refine value_32 (w := hwd 0 0 0 0 (h 22 s.toNat) 0 a) hL ?_ ?_
    · intro j hj
      have : j = 0 ∨ j = 1 ∨ j = 2 ∨ j = 3 ∨ j = 4 ∨ j = 5 ∨ j = 6 := by omega
      rcases this with e | e | e | e | e | e | e <;> subst e <;> simp [up_in, hwd, hd1]
    · intro h' hf
      refine w_86_0 ?_
      (repeat first | refine ck_ix (by omega) ?_ | refine ck_rg (by omega) ?_ | refine ck_rl (by omega) ?_)
      have hv : max 0 (min 10 (lwV (am_up (am_up h 97 4 (h 22 s.toNat)) 97 6 a 33) (am_up (am_up h 97 4 (h 22 s.toNat)) 97 6 a 32 2).toNat (hwd 0 0 0 0 (h 22 s.toNat) 0 a))) = AGD h (h 22 s.toNat) a := rfl
      rw [hv, up_same]
      have hr := AGD_rg h (h 22 s.toNat) a
      have h8 : w8 (w8 (AGD h (h 22 s.toNat) a)) = AGD h (h 22 s.toNat) a := by unfold w8; omega
      rw [h8]
      have hF : Fr [34, 96, 97] [] h h' := by
        refine ⟨fun r hr hc => ?_, fun j hj => hf.2 j hj⟩
        rw [hf.1 r hr (fun z => hc (by simp at z; simp [z]))]
        have h97 : r ≠ 97 := fun e => hc (by simp [e])
        simp only [up_row h97]
      refine hC _ (hF.up (by decide) (by decide)) ⟨fun j hj h4 h6 => ?_, fun d x hd hx => ?_⟩
      · rw [up_row (by decide), hf.at 97 (by decide) (by decide)]
        rw [up_ne h6, up_ne h4]
        exact hd1 j hj h4 h6
      · rw [up_in, hf.at 96 (by decide) (by decide)]
        have hAG : ∀ d x : Int, AGD (am_up h' 96 ((h 22 s.toNat).toNat * 400 + a.toNat) (AGD h (h 22 s.toNat) a)) d x = AGD h d x := by
          intro d x
          unfold AGD
          rw [up_row (show (33 : Nat) ≠ 96 by decide), up_row (show (32 : Nat) ≠ 96 by decide), hF.at 33 (by decide) (by decide), hF.at 32 (by decide) (by decide)]
        rw [hAG]
        by_cases e : d * 400 + x = (h 22 s.toNat).toNat * 400 + a.toNat
        · rw [if_pos e]
          right
          have e1 : d = (h 22 s.toNat).toNat := by omega
          have e2 : x = a.toNat := by omega
          rw [e1, e2, ed, ea]
        · rw [if_neg e]
          exact hd2 d x hd hx
theorem c_soundsAt {N : Nat} {h : aH} {C : Int → aH → Prop} {c m : Int} (H : HI h) (hc : 0 ≤ c ∧ c < h 16 15) (hm : 0 ≤ m ∧ m ≤ 399) (hC : C (max 0 (min 399 (m + h 20 c.toNat))) h) : WI N 91 0 [(0, .inr (.inr 16)), (1, .inl c), (2, .inl m)] h C := by
  obtain ⟨hz, -, hK, -⟩ := H
  unfold okSz at hz
  have h1 := hK c.toNat (by omega)
  refine w_91_0 ?_
  (repeat first | refine ck_ix (by omega) ?_ | refine ck_rg (by omega) ?_ | refine ck_rl (by omega) ?_)
  exact w_86_0 hC
