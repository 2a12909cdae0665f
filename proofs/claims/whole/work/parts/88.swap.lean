/-! swap -/
/-- two beds changed -/
def swB (a b x : Int) : Int := if x = a then b else if x = b then a else x
theorem swB_swB (a b x : Int) : swB a b (swB a b x) = x := by
  unfold swB
  split <;> split <;> (try split) <;> omega
theorem m_changes {N : Nat} {C : aH → Prop} {h : aH} {a b : Int} {n : Nat} {bd : Nat → Int} (H : HI h) (R : RelH h) (hn : (n : Int) = h 16 16) (hb : ∀ s, s < n → h 161 s = bd s) (hi : ∀ i j, i < n → j < n → bd i = bd j → i = j) (hab : a ≠ b)
    (hC : ∀ h', Fr [161] [] h h' → (∀ s, s < n → h' 161 s = swB a b (bd s)) → C h') : WV N 277 0 [(0, .inr (.inr 130)), (1, .inl a), (2, .inl b)] h C := by
  have hz := H.1
  unfold okSz at hz
  have who : ∀ x, (∃ s, s < n ∧ bd s = x ∧ LIES n bd x n = (s : Int)) ∨ ((∀ s, s < n → bd s ≠ x) ∧ LIES n bd x n = -2) := by
    intro x
    rcases Classical.em (∃ s, s < n ∧ bd s = x) with ⟨s, h1, h2⟩ | hno
    · exact Or.inl ⟨s, h1, h2, LIES_at (Nat.le_refl _) (by omega) h1 h2 (fun i hi' hh => hi i s hi' h1 (hh.trans h2.symm))⟩
    · exact Or.inr ⟨fun s h1 h2 => hno ⟨s, h1, h2⟩, LIES_no (fun s h1 h2 => hno ⟨s, h1, h2⟩) (Nat.le_refl _)⟩
  refine w_277_0 (m_whoLies H R hn hb (m_whoLies H R hn hb ?_))
  rcases who a with ⟨s, s1, s2, s3⟩ | ⟨s2, s3⟩ <;> rcases who b with ⟨t, t1, t2, t3⟩ | ⟨t2, t3⟩ <;> rw [s3, t3]
  · refine ⟨fun z => by omega, fun _ => ck_ix (by omega) ⟨fun z => by omega, fun _ => ck_ix (by omega) ?_⟩⟩
    simp only [Int.toNat_natCast]
    refine hC _ ((Fr.rfl.up (by decide) (by decide)).up (by decide) (by decide)) (fun i hi' => ?_)
    rw [up_in, up_in, hb i hi']
    unfold swB
    by_cases e1 : i = t
    · rw [if_pos e1, e1, t2, if_neg (fun z => hab z.symm), if_pos rfl]
    · rw [if_neg e1]
      by_cases e2 : i = s
      · rw [if_pos e2, e2, s2, if_pos rfl]
      · rw [if_neg e2, if_neg (fun z => e2 (hi i s hi' s1 (z.trans s2.symm))), if_neg (fun z => e1 (hi i t hi' t1 (z.trans t2.symm)))]
  · refine ⟨fun z => by omega, fun _ => ck_ix (by omega) ⟨fun _ => ?_, fun z => absurd (by decide) z⟩⟩
    simp only [Int.toNat_natCast]
    refine hC _ (Fr.rfl.up (by decide) (by decide)) (fun i hi' => ?_)
    rw [up_in, hb i hi']
    unfold swB
    by_cases e2 : i = s
    · rw [if_pos e2, e2, s2, if_pos rfl]
    · rw [if_neg e2, if_neg (fun z => e2 (hi i s hi' s1 (z.trans s2.symm))), if_neg (t2 i hi')]
  · refine ⟨fun _ => ⟨fun z => by omega, fun _ => ck_ix (by omega) ?_⟩, fun z => absurd (by decide) z⟩
    simp only [Int.toNat_natCast]
    refine hC _ (Fr.rfl.up (by decide) (by decide)) (fun i hi' => ?_)
    rw [up_in, hb i hi']
    unfold swB
    by_cases e1 : i = t
    · rw [if_pos e1, e1, t2, if_neg (fun z => hab z.symm), if_pos rfl]
    · rw [if_neg e1, if_neg (s2 i hi'), if_neg (fun z => e1 (hi i t hi' t1 (z.trans t2.symm)))]
  · refine ⟨fun _ => ⟨fun _ => ?_, fun z => absurd (by decide) z⟩, fun z => absurd (by decide) z⟩
    refine hC _ Fr.rfl (fun i hi' => ?_)
    rw [hb i hi']
    unfold swB
    rw [if_neg (s2 i hi'), if_neg (t2 i hi')]
theorem okLie.inj {h : aH} (L : okLie h) : ∀ i j : Nat, (i : Int) < h 16 16 → (j : Int) < h 16 16 → h 63 i = h 63 j → i = j := by
  intro i j hi hj e
  have a := (L.1 i hi).2.2
  have b := (L.1 j hj).2.2
  rw [e] at a
  omega
theorem c_change {N : Nat} {C : aH → Prop} {h : aH} {a b : Nat} (hz : okSz h) (L : okLie h) (ha : (a : Int) < h 16 14) (hb : (b : Int) < h 16 14) (hab : a ≠ b)
    (hC : ∀ h', Fr [63, 64] [] h h' → (∀ s : Nat, (s : Int) < h 16 16 → h' 63 s = swB a b (h 63 s)) → (∀ x : Nat, (x : Int) < h 16 14 → h' 64 x = h 64 (swB a b x).toNat) → C h') : WV N 103 0 [(0, .inr (.inr 58)), (1, .inl (a : Int)), (2, .inl (b : Int))] h C := by
  unfold okSz at hz
  obtain ⟨l1, l2⟩ := L
  have sin : ∀ h1 : aH, (∀ x : Nat, h1 64 x = am_up (am_up h 64 a (h 64 b)) 64 b (h 64 a) 64 x) → ∀ x : Nat, (x : Int) < h 16 14 → h1 64 x = h 64 (swB a b x).toNat := by
    intro h1 e x hx
    rw [e, up_in, up_in]
    unfold swB
    by_cases e1 : x = b
    · subst e1
      rw [if_pos rfl, if_neg (by omega), if_pos rfl]; simp
    · rw [if_neg e1]
      by_cases e2 : x = a
      · subst e2
        rw [if_pos rfl, if_pos rfl]; simp
      · rw [if_neg e2, if_neg (by omega), if_neg (by omega)]; simp
  have key : ∀ s : Nat, (s : Int) < h 16 16 → (h 63 s = a → h 64 a = s) ∧ (h 63 s = b → h 64 b = s) := by
    intro s hs
    have := (l1 s hs).2.2
    refine ⟨fun e => ?_, fun e => ?_⟩ <;> (rw [e] at this; simpa using this)
  refine w_103_0 ?_
  (repeat first | refine ck_ix (by omega) ?_ | refine ck_rg (by omega) ?_ | refine ck_rl (by omega) ?_)
  simp only [Int.toNat_natCast]
  rcases l2 a ha with ea | ⟨ea1, ea2, ea3⟩
  · rcases l2 b hb with eb | ⟨eb1, eb2, eb3⟩
    · refine ⟨fun _ => ⟨fun _ => ?_, fun z => absurd eb z⟩, fun z => absurd ea z⟩
      refine hC _ ((Fr.rfl.up (by decide) (by decide)).up (by decide) (by decide)) (fun s hs => ?_) (sin _ (fun x => rfl))
      have := key s hs
      show h 63 s = _
      unfold swB
      rw [if_neg (fun z => by have := this.1 z; omega), if_neg (fun z => by have := this.2 z; omega)]
    · refine ⟨fun _ => ⟨fun z => by omega, fun _ => ck_ix (by omega) ?_⟩, fun z => absurd ea z⟩
      refine hC _ (((Fr.rfl.up (by decide) (by decide)).up (by decide) (by decide)).up (by decide) (by decide)) (fun s hs => ?_) (sin _ (fun x => by rw [up_row (by decide)]))
      have := key s hs
      rw [up_in]
      show (if s = (h 64 b).toNat then (a : Int) else h 63 s) = _
      unfold swB
      by_cases e : s = (h 64 b).toNat
      · rw [if_pos e, e, eb3, if_neg (by omega), if_pos rfl]
      · rw [if_neg e, if_neg (fun z => by have := this.1 z; omega), if_neg (fun z => by have := this.2 z; omega)]
  · rcases l2 b hb with eb | ⟨eb1, eb2, eb3⟩
    · refine ⟨fun z => by omega, fun _ => ck_ix (by omega) ⟨fun _ => ?_, fun z => absurd eb z⟩⟩
      refine hC _ (((Fr.rfl.up (by decide) (by decide)).up (by decide) (by decide)).up (by decide) (by decide)) (fun s hs => ?_) (sin _ (fun x => by rw [up_row (by decide)]))
      have := key s hs
      rw [up_in]
      show (if s = (h 64 a).toNat then (b : Int) else h 63 s) = _
      unfold swB
      by_cases e : s = (h 64 a).toNat
      · rw [if_pos e, e, ea3, if_pos rfl]
      · rw [if_neg e, if_neg (fun z => by have := this.1 z; omega), if_neg (fun z => by have := this.2 z; omega)]
    · refine ⟨fun z => by omega, fun _ => ck_ix (by omega) ⟨fun z => by omega, fun _ => ck_ix (by omega) ?_⟩⟩
      refine hC _ ((((Fr.rfl.up (by decide) (by decide)).up (by decide) (by decide)).up (by decide) (by decide)).up (by decide) (by decide)) (fun s hs => ?_) (sin _ (fun x => by rw [up_row (by decide), up_row (by decide)]))
      have := key s hs
      rw [up_in, up_in]
      show (if s = (h 64 b).toNat then (a : Int) else if s = (h 64 a).toNat then (b : Int) else h 63 s) = _
      unfold swB
      by_cases e1 : s = (h 64 b).toNat
      · rw [if_pos e1, e1, eb3, if_neg (by omega), if_pos rfl]
      · rw [if_neg e1]
        by_cases e2 : s = (h 64 a).toNat
        · rw [if_pos e2, e2, ea3, if_pos rfl]
        · rw [if_neg e2, if_neg (fun z => by have := this.1 z; omega), if_neg (fun z => by have := this.2 z; omega)]
/-- what holds behind swap -/
def SWN (h h' : aH) : Prop := Fr [9, 63, 64, 161] [] h h' ∧ PI h' ∧ RelP h' ∧ Ed h h'
theorem swB_lt {a b x n : Int} (ha : 0 ≤ a ∧ a < n) (hb : 0 ≤ b ∧ b < n) (hx : 0 ≤ x ∧ x < n) : 0 ≤ swB a b x ∧ swB a b x < n := by
  unfold swB
  split
  · exact hb
  · split
    · exact ha
    · exact hx
theorem pl_swap {N : Nat} {D : Int → Int → aH → Prop} {h : aH} {a b : Int} (P : PI h) (R : RelH h) (Q : RelP h) (he : okEd h) (hD : ∀ v h', SWN h h' → D v v h') :
    WI N 102 0 [(0, .inr (.inr 9)), (1, .inl a), (2, .inl b)] h (fun v1 h1 => WI N 276 0 [(0, .inr (.inr 130)), (1, .inl a), (2, .inl b)] h1 (fun v2 h2 => D v1 v2 h2)) := by
  obtain ⟨he0, he1⟩ := he
  have hz := P.1.1
  have hz' := hz
  unfold okSz at hz
  have same : SWN h h := ⟨Fr.rfl, P, Q, Or.inr ⟨rfl, Kp.rfl⟩⟩
  have no : ¬ ((0 ≤ a ∧ a < h 16 14) ∧ (0 ≤ b ∧ b < h 16 14) ∧ a ≠ b) → WI N 276 0 [(0, .inr (.inr 130)), (1, .inl a), (2, .inl b)] h (fun v2 h2 => D 0 v2 h2) := by
    intro z
    exact w_276_0 (m_isBed P.1 R (fun q1 => z1 (m_isBed P.1 R (fun q2 => z1 ⟨fun hne => absurd ⟨q1, q2, hne⟩ z, fun _ => ck_t0 (hD 0 h same)⟩) (fun _ => z0 (ck_t0 (hD 0 h same))))) (fun _ => z0 (ck_t0 (hD 0 h same))))
  refine w_102_0 (c_isBed (fun q1 => z1 (c_isBed (fun q2 => z1 ⟨fun hne => ?_, fun he => ck_t0 (no (fun z => he z.2.2))⟩) (fun q => z0 (ck_t0 (no (fun z => q z.2.1)))))) (fun q => z0 (ck_t0 (no (fun z => q z.1)))))
  obtain ⟨a, rfl⟩ := Int.eq_ofNat_of_zero_le q1.1
  obtain ⟨b, rfl⟩ := Int.eq_ofNat_of_zero_le q2.1
  (repeat first | refine ck_ix (by omega) ?_ | refine ck_rg (by omega) ?_ | refine ck_rl (by omega) ?_)
  have L0 := P.2.1
  refine c_change (h := am_up h 9 11 (h 9 11 + 1)) hz' L0 q1.2 q2.2 (by omega) (fun h1 hf g1 g2 => ck_t1 ?_)
  have f0 : Fr [9, 63, 64] [] h h1 := (Fr.rfl.up (k := 11) (v := h 9 11 + 1) (r := 9) (by decide) (by decide)).trans (hf.mono (by decide) (by decide))
  have H1 := P.1.mv f0 (by decide)
  have R1 := R.mv f0 (by decide) (by decide) (by decide)
  have e16 : h1 16 = h 16 := f0.at 16 (by decide) (by decide)
  have g1 : ∀ s : Nat, (s : Int) < h 16 16 → h1 63 s = swB a b (h 63 s) := g1
  have g2 : ∀ x : Nat, (x : Int) < h 16 14 → h1 64 x = h 64 (swB a b x).toNat := g2
  refine w_276_0 (m_isBed H1 R1 (fun _ => z1 (m_isBed H1 R1 (fun _ => z1 ⟨fun _ => ?_, fun z => absurd hne z⟩) (fun z => absurd (by rw [e16]; exact q2) z))) (fun z => absurd (by rw [e16]; exact q1) z))
  refine m_changes (n := (h 16 16).toNat) (bd := h 63) H1 R1 (by rw [e16]; omega) (fun s hs => ?_) (fun i j hi hj e => L0.inj i j (show (i : Int) < h 16 16 by omega) (show (j : Int) < h 16 16 by omega) e) hne (fun h2 hf2 g3 => ck_t1 ?_)
  · rw [f0.at 161 (by decide) (by decide)]
    exact (Q.2.2 s (by omega)).1
  · have f2 : Fr [9, 63, 64, 161] [] h h2 := (f0.mono (by decide) (by decide)).trans (hf2.mono (by decide) (by decide))
    have r63 : h2 63 = h1 63 := hf2.at 63 (by decide) (by decide)
    have r64 : h2 64 = h1 64 := hf2.at 64 (by decide) (by decide)
    have r16 : h2 16 = h 16 := f2.at 16 (by decide) (by decide)
    have r9 : h2 9 11 = h 9 11 + 1 := by rw [hf2.at 9 (by decide) (by decide), hf.at 9 (by decide) (by decide)]; exact up_same _ _ _ _
    obtain ⟨H, L, S, W, K⟩ := P
    refine hD _ _ ⟨f2, ⟨H.mv f2 (by decide), ⟨fun s hs => ?_, fun x hx => ?_⟩, ?_, ?_, ?_⟩, ⟨?_, ?_, fun s hs => ?_⟩, Or.inl r9⟩
    · rw [r16] at hs ⊢
      obtain ⟨a1, a2, a3⟩ := L.1 s hs
      have hb := swB_lt (x := h 63 s) q1 q2 ⟨a1, a2⟩
      rw [r63, r64, g1 s hs]
      refine ⟨hb.1, hb.2, ?_⟩
      rw [g2 _ (by omega), show (((swB a b (h 63 s)).toNat : Nat) : Int) = swB a b (h 63 s) by omega, swB_swB]
      exact a3
    · rw [r16] at hx ⊢
      rw [r63, r64, g2 x hx]
      have hb := swB_lt (x := (x : Int)) q1 q2 ⟨by omega, hx⟩
      rcases L.2 (swB a b x).toNat (by omega) with e | ⟨e1, e2, e3⟩
      · exact Or.inl e
      · refine Or.inr ⟨e1, e2, ?_⟩
        rw [g1 _ (by omega), e3, show (((swB a b (x : Int)).toNat : Nat) : Int) = swB a b x by omega, swB_swB]
    · unfold okSnd at S ⊢
      rw [r16, f2.at 58 (by decide) (by decide), f2.at 59 (by decide) (by decide), f2.at 60 (by decide) (by decide), f2.at 61 (by decide) (by decide), f2.at 62 (by decide) (by decide)]
      exact S
    · unfold okWool at W ⊢
      rw [r16, f2.at 58 (by decide) (by decide)]
      exact W
    · unfold okK at K ⊢
      rw [f2.at 2 (by decide) (by decide)]
      exact K
    · rw [f2.2 48 (by decide), f2.at 58 (by decide) (by decide)]
      exact Q.1
    · rw [f2.at 58 (by decide) (by decide), f2.at 59 (by decide) (by decide), f2.at 60 (by decide) (by decide), f2.at 61 (by decide) (by decide), f2.at 62 (by decide) (by decide), f2.at 163 (by decide) (by decide), f2.at 164 (by decide) (by decide), f2.at 165 (by decide) (by decide), f2.at 166 (by decide) (by decide)]
      exact Q.2.1
    · rw [r16] at hs
      unfold WOF
      rw [f2.at 58 (by decide) (by decide), f2.at 162 (by decide) (by decide), r63, g1 s hs, g3 s (by omega)]
      exact ⟨rfl, (Q.2.2 s hs).2⟩
