/-! the slots: hold, restore -/
def okTf (h : aH) : Prop := ∀ j, j < 12 → h 162 j = 0 ∨ h 162 j = 1
def okSt (h : aH) : Prop := okLie h ∧ okSnd h ∧ okWool h ∧ okMor h ∧ RelP h ∧ RelM h ∧ okTf h
/-- the state in b's cells is the one in a's cells -/
def AGC (h : aH) (B : Nat) (g : aH) (A : Nat) : Prop := h B 10 = g A 10 ∧ h B 11 = g A 11 ∧ h B 12 = g A 12 ∧
  (∀ j : Nat, (j : Int) < g A 10 → h (B + 1) j = g (A + 1) j ∧ h (B + 2) j = g (A + 2) j ∧ h (B + 3) j = g (A + 3) j ∧ h (B + 4) j = g (A + 4) j) ∧
  (∀ j : Nat, j < 12 → h (B + 5) j = g (A + 5) j ∧ h (B + 6) j = g (A + 6) j) ∧
  ∀ j : Nat, (j : Int) < g A 12 → h (B + 7) j = g (A + 7) j ∧ h (B + 8) j = g (A + 8) j ∧ h (B + 9) j = g (A + 9) j
theorem AGC.rfl {h : aH} {B : Nat} : AGC h B h B := ⟨Eq.refl _, Eq.refl _, Eq.refl _, fun _ _ => ⟨Eq.refl _, Eq.refl _, Eq.refl _, Eq.refl _⟩, fun _ _ => ⟨Eq.refl _, Eq.refl _⟩, fun _ _ => ⟨Eq.refl _, Eq.refl _, Eq.refl _⟩⟩
theorem AGC.trans {h g f : aH} {B A E : Nat} (a : AGC h B g A) (b : AGC g A f E) : AGC h B f E := by
  obtain ⟨a1, a2, a3, a4, a5, a6⟩ := a
  obtain ⟨b1, b2, b3, b4, b5, b6⟩ := b
  refine ⟨a1.trans b1, a2.trans b2, a3.trans b3, fun j hj => ?_, fun j hj => ?_, fun j hj => ?_⟩
  · obtain ⟨x1, x2, x3, x4⟩ := a4 j (by rw [b1]; exact hj)
    obtain ⟨y1, y2, y3, y4⟩ := b4 j hj
    exact ⟨x1.trans y1, x2.trans y2, x3.trans y3, x4.trans y4⟩
  · obtain ⟨x1, x2⟩ := a5 j hj
    obtain ⟨y1, y2⟩ := b5 j hj
    exact ⟨x1.trans y1, x2.trans y2⟩
  · obtain ⟨x1, x2, x3⟩ := a6 j (by rw [b3]; exact hj)
    obtain ⟨y1, y2, y3⟩ := b6 j hj
    exact ⟨x1.trans y1, x2.trans y2, x3.trans y3⟩
/-- .. of the reference: what now is; slot i -/
def AGR (h g : aH) : Prop := h 130 48 = g 130 48 ∧ h 130 76 = g 130 76 ∧
  (∀ j : Nat, (j : Int) < g 130 48 → h 163 j = g 163 j ∧ h 164 j = g 164 j ∧ h 165 j = g 165 j ∧ h 166 j = g 166 j) ∧
  (∀ j : Nat, j < 12 → h 161 j = g 161 j ∧ h 162 j = g 162 j) ∧
  ∀ j : Nat, (j : Int) < g 130 76 → h 185 (120 + j) = g 185 (120 + j) ∧ h 186 (120 + j) = g 186 (120 + j) ∧ h 187 (120 + j) = g 187 (120 + j) ∧ h 188 (120 + j) = g 188 (120 + j)
def AGS (h : aH) (i : Nat) (g : aH) : Prop := h 189 i = g 130 48 ∧ h 196 i = g 130 76 ∧
  (∀ j : Nat, (j : Int) < g 130 48 → h 190 (8 * i + j) = g 163 j ∧ h 191 (8 * i + j) = g 164 j ∧ h 192 (8 * i + j) = g 165 j ∧ h 193 (8 * i + j) = g 166 j) ∧
  (∀ j : Nat, j < 12 → h 194 (12 * i + j) = g 161 j ∧ h 195 (12 * i + j) = g 162 j) ∧
  ∀ j : Nat, (j : Int) < g 130 76 → h 185 (60 * i + j) = g 185 (120 + j) ∧ h 186 (60 * i + j) = g 186 (120 + j) ∧ h 187 (60 * i + j) = g 187 (120 + j) ∧ h 188 (60 * i + j) = g 188 (120 + j)
theorem okSt.ag {h g : aH} (H : okSz h) (k16 : g 16 = h 16) (a : AGC h 58 g 58) (b : AGR h g) (S : okSt g) : okSt h := by
  obtain ⟨a1, a2, a3, a4, a5, a6⟩ := a
  simp only [Nat.reduceAdd] at a4 a5 a6
  obtain ⟨b1, b2, b3, b4, b5⟩ := b
  obtain ⟨L, P, W, O, Q, M, T⟩ := S
  unfold okSz at H
  have kw : WOF h = WOF g := by
    funext s
    unfold WOF
    rw [a2]
  refine ⟨?_, ?_, ?_, ?_, ?_, ?_, fun j hj => ?_⟩
  · obtain ⟨x, y⟩ := L
    rw [k16] at x y
    refine ⟨fun s hs => ?_, fun q hq => ?_⟩
    · obtain ⟨h1, h2, h3⟩ := x s hs
      rw [(a5 s (by omega)).1]
      refine ⟨h1, h2, ?_⟩
      rw [(a5 _ (by omega)).2]
      exact h3
    · rw [(a5 q (by omega)).2]
      rcases y q hq with z | ⟨h1, h2, h3⟩
      · exact Or.inl z
      · refine Or.inr ⟨h1, h2, ?_⟩
        rw [(a5 _ (by omega)).1]
        exact h3
  · obtain ⟨x, y, z⟩ := P
    rw [k16] at z
    refine ⟨by rw [a1]; exact x, by rw [a1]; exact y, fun k hk => ?_⟩
    rw [a1] at hk
    obtain ⟨e1, e2, e3, e4⟩ := a4 k hk
    rw [e1, e2, e3, e4]
    exact z k hk
  · unfold okWool at W ⊢
    rw [a2, ← k16]
    exact W
  · obtain ⟨x, y, z⟩ := O
    rw [k16] at z
    refine ⟨by rw [a3]; exact x, by rw [a3]; exact y, fun k hk => ?_⟩
    rw [a3] at hk
    obtain ⟨e1, e2, e3⟩ := a6 k hk
    rw [e1, e2, e3]
    exact z k hk
  · obtain ⟨x, y, z⟩ := Q
    rw [k16] at z
    refine ⟨by rw [b1, a1]; exact x, fun j hj => ?_, fun s hs => ?_⟩
    · rw [a1] at hj
      obtain ⟨e1, e2, e3, e4⟩ := a4 j hj
      obtain ⟨f1, f2, f3, f4⟩ := b3 j (by rw [x]; exact hj)
      rw [e1, e2, e3, e4, f1, f2, f3, f4]
      exact y j hj
    · rw [(b4 s (by omega)).1, (b4 s (by omega)).2, (a5 s (by omega)).1, kw]
      exact z s hs
  · obtain ⟨x, y⟩ := M
    refine ⟨by rw [b2, a3]; exact x, fun j hj => ?_⟩
    rw [a3] at hj
    obtain ⟨e1, e2, e3⟩ := a6 j hj
    obtain ⟨f1, f2, f3, f4⟩ := b5 j (by rw [x]; exact hj)
    rw [e1, e2, e3, f1, f2, f3, f4]
    exact y j hj
  · rw [(b4 j hj).2]
    exact T j hj
/-- what a slot may be -/
def SLI (h : aH) (i B : Nat) : Prop := (h B 13 = 0 ∧ h 189 i < 0) ∨ (h B 13 = 1 ∧ ∃ g : aH, (∀ r ∈ HR, g r = h r) ∧ okSt g ∧ AGC h B g 58 ∧ AGS h i g)
def SLS (h : aH) : Prop := SLI h 0 70 ∧ SLI h 1 81
def SLR : List Nat := [70, 71, 72, 73, 74, 75, 76, 77, 78, 79, 81, 82, 83, 84, 85, 86, 87, 88, 89, 90, 189, 190, 191, 192, 193, 194, 195, 196]
theorem SLI.keep {h h' : aH} {i B : Nat} (S : SLI h i B) (hr : ∀ r ∈ HR, h' r = h r) (hb : ∀ d, d < 10 → h' (B + d) = h (B + d)) (hp : h' 189 i = h 189 i ∧ h' 196 i = h 196 i)
    (h4 : ∀ j, j < 8 → h' 190 (8 * i + j) = h 190 (8 * i + j) ∧ h' 191 (8 * i + j) = h 191 (8 * i + j) ∧ h' 192 (8 * i + j) = h 192 (8 * i + j) ∧ h' 193 (8 * i + j) = h 193 (8 * i + j))
    (h2 : ∀ j, j < 12 → h' 194 (12 * i + j) = h 194 (12 * i + j) ∧ h' 195 (12 * i + j) = h 195 (12 * i + j))
    (lo : ∀ j, j < 60 → h' 185 (60 * i + j) = h 185 (60 * i + j) ∧ h' 186 (60 * i + j) = h 186 (60 * i + j) ∧ h' 187 (60 * i + j) = h 187 (60 * i + j) ∧ h' 188 (60 * i + j) = h 188 (60 * i + j)) : SLI h' i B := by
  have hB : h' B = h B := hb 0 (by decide)
  unfold SLI AGC AGS at S ⊢
  rw [hB, hb 1 (by decide), hb 2 (by decide), hb 3 (by decide), hb 4 (by decide), hb 5 (by decide), hb 6 (by decide), hb 7 (by decide), hb 8 (by decide), hb 9 (by decide), hp.1, hp.2]
  rcases S with z | ⟨z, g, k, s, c, m1, m2, m3, m4, m5⟩
  · exact Or.inl z
  · have s8 := s.2.1.2.1
    have sM := s.2.2.2.2.1.1
    have h60 := s.2.2.2.1.2.1
    have hM := s.2.2.2.2.2.1.1
    refine Or.inr ⟨z, g, fun r q => (k r q).trans (hr r q).symm, s, c, m1, m2, fun j hj => ?_, fun j hj => ?_, fun j hj => ?_⟩
    · obtain ⟨l1, l2, l3, l4⟩ := h4 j (by omega)
      rw [l1, l2, l3, l4]
      exact m3 j hj
    · rw [(h2 j hj).1, (h2 j hj).2]
      exact m4 j hj
    · obtain ⟨l1, l2, l3, l4⟩ := lo j (by omega)
      rw [l1, l2, l3, l4]
      exact m5 j hj
theorem SLS.mv {C D : List Nat} {h h' : aH} (S : SLS h) (f : Fr C D h h') (hd : HR.all (fun r => !(C.contains r) && !(Nat.beq r 130)) = true) (hs : SLR.all (fun r => !(C.contains r) && !(Nat.beq r 130)) = true) (lo : Lo h h') : SLS h' := by
  have k := f.rows hd
  have s := f.rows hs
  have s189 := s 189 (by decide)
  have s190 := s 190 (by decide)
  have s191 := s 191 (by decide)
  have s192 := s 192 (by decide)
  have s193 := s 193 (by decide)
  have s194 := s 194 (by decide)
  have s195 := s 195 (by decide)
  have s196 := s 196 (by decide)
  refine ⟨S.1.keep k (fun d hd => s _ ?_) (by rw [s189, s196]; exact ⟨rfl, rfl⟩) (fun j _ => by rw [s190, s191, s192, s193]; exact ⟨rfl, rfl, rfl, rfl⟩) (fun j _ => by rw [s194, s195]; exact ⟨rfl, rfl⟩) (fun j hj => lo _ (by omega)),
    S.2.keep k (fun d hd => s _ ?_) (by rw [s189, s196]; exact ⟨rfl, rfl⟩) (fun j _ => by rw [s190, s191, s192, s193]; exact ⟨rfl, rfl, rfl, rfl⟩) (fun j _ => by rw [s194, s195]; exact ⟨rfl, rfl⟩) (fun j hj => lo _ (by omega))⟩ <;>
  · have : d = 0 ∨ d = 1 ∨ d = 2 ∨ d = 3 ∨ d = 4 ∨ d = 5 ∨ d = 6 ∨ d = 7 ∨ d = 8 ∨ d = 9 := by omega
    rcases this with rfl | rfl | rfl | rfl | rfl | rfl | rfl | rfl | rfl | rfl <;> decide
theorem c_take_70_58 {N : Nat} {C : aH → Prop} {h : aH} (hs : 0 ≤ h 58 10 ∧ h 58 10 ≤ 8) (hr : 0 ≤ h 58 12 ∧ h 58 12 ≤ 60) (hC : ∀ h', Fr [70, 71, 72, 73, 74, 75, 76, 77, 78, 79] [] h h' → AGC h' 70 h 58 → h' 70 13 = h 70 13 → C h') : WV N 208 0 [(0, .inr (.inr 70)), (1, .inr (.inr 58))] h C := by
  refine w_208_0_r70_58 ⟨by omega, by omega, by omega, by omega, by omega, by omega, by omega, by omega, by omega, hC _ ?_ ?_ ?_⟩
  · exact ((((((((((((Fr.rfl.up (by decide) (by decide)).up (by decide) (by decide)).up (by decide) (by decide)).cp (by decide) (by decide)).cp (by decide) (by decide)).cp (by decide) (by decide)).cp (by decide) (by decide)).cp (by decide) (by decide)).cp (by decide) (by decide)).cp (by decide) (by decide)).cp (by decide) (by decide)).cp (by decide) (by decide))
  · refine ⟨?_, ?_, ?_, fun j hj => ⟨?_, ?_, ?_, ?_⟩, fun j hj => ⟨?_, ?_⟩, fun j hj => ⟨?_, ?_, ?_⟩⟩ <;> simp [cp_in, cp_row, up_row, up_in] <;> intro q <;> exact absurd q (by omega)
  · simp [cp_row, up_in]
theorem c_take_81_58 {N : Nat} {C : aH → Prop} {h : aH} (hs : 0 ≤ h 58 10 ∧ h 58 10 ≤ 8) (hr : 0 ≤ h 58 12 ∧ h 58 12 ≤ 60) (hC : ∀ h', Fr [81, 82, 83, 84, 85, 86, 87, 88, 89, 90] [] h h' → AGC h' 81 h 58 → h' 81 13 = h 81 13 → C h') : WV N 208 0 [(0, .inr (.inr 81)), (1, .inr (.inr 58))] h C := by
  refine w_208_0_r81_58 ⟨by omega, by omega, by omega, by omega, by omega, by omega, by omega, by omega, by omega, hC _ ?_ ?_ ?_⟩
  · exact ((((((((((((Fr.rfl.up (by decide) (by decide)).up (by decide) (by decide)).up (by decide) (by decide)).cp (by decide) (by decide)).cp (by decide) (by decide)).cp (by decide) (by decide)).cp (by decide) (by decide)).cp (by decide) (by decide)).cp (by decide) (by decide)).cp (by decide) (by decide)).cp (by decide) (by decide)).cp (by decide) (by decide))
  · refine ⟨?_, ?_, ?_, fun j hj => ⟨?_, ?_, ?_, ?_⟩, fun j hj => ⟨?_, ?_⟩, fun j hj => ⟨?_, ?_, ?_⟩⟩ <;> simp [cp_in, cp_row, up_row, up_in] <;> intro q <;> exact absurd q (by omega)
  · simp [cp_row, up_in]
theorem c_take_58_70 {N : Nat} {C : aH → Prop} {h : aH} (hs : 0 ≤ h 70 10 ∧ h 70 10 ≤ 8) (hr : 0 ≤ h 70 12 ∧ h 70 12 ≤ 60) (hC : ∀ h', Fr [58, 59, 60, 61, 62, 63, 64, 65, 66, 67] [] h h' → AGC h' 58 h 70 → h' 58 13 = h 58 13 → C h') : WV N 208 0 [(0, .inr (.inr 58)), (1, .inr (.inr 70))] h C := by
  refine w_208_0_r58_70 ⟨by omega, by omega, by omega, by omega, by omega, by omega, by omega, by omega, by omega, hC _ ?_ ?_ ?_⟩
  · exact ((((((((((((Fr.rfl.up (by decide) (by decide)).up (by decide) (by decide)).up (by decide) (by decide)).cp (by decide) (by decide)).cp (by decide) (by decide)).cp (by decide) (by decide)).cp (by decide) (by decide)).cp (by decide) (by decide)).cp (by decide) (by decide)).cp (by decide) (by decide)).cp (by decide) (by decide)).cp (by decide) (by decide))
  · refine ⟨?_, ?_, ?_, fun j hj => ⟨?_, ?_, ?_, ?_⟩, fun j hj => ⟨?_, ?_⟩, fun j hj => ⟨?_, ?_, ?_⟩⟩ <;> simp [cp_in, cp_row, up_row, up_in] <;> intro q <;> exact absurd q (by omega)
  · simp [cp_row, up_in]
theorem c_take_58_81 {N : Nat} {C : aH → Prop} {h : aH} (hs : 0 ≤ h 81 10 ∧ h 81 10 ≤ 8) (hr : 0 ≤ h 81 12 ∧ h 81 12 ≤ 60) (hC : ∀ h', Fr [58, 59, 60, 61, 62, 63, 64, 65, 66, 67] [] h h' → AGC h' 58 h 81 → h' 58 13 = h 58 13 → C h') : WV N 208 0 [(0, .inr (.inr 58)), (1, .inr (.inr 81))] h C := by
  refine w_208_0_r58_81 ⟨by omega, by omega, by omega, by omega, by omega, by omega, by omega, by omega, by omega, hC _ ?_ ?_ ?_⟩
  · exact ((((((((((((Fr.rfl.up (by decide) (by decide)).up (by decide) (by decide)).up (by decide) (by decide)).cp (by decide) (by decide)).cp (by decide) (by decide)).cp (by decide) (by decide)).cp (by decide) (by decide)).cp (by decide) (by decide)).cp (by decide) (by decide)).cp (by decide) (by decide)).cp (by decide) (by decide)).cp (by decide) (by decide))
  · refine ⟨?_, ?_, ?_, fun j hj => ⟨?_, ?_, ?_, ?_⟩, fun j hj => ⟨?_, ?_⟩, fun j hj => ⟨?_, ?_, ?_⟩⟩ <;> simp [cp_in, cp_row, up_row, up_in] <;> intro q <;> exact absurd q (by omega)
  · simp [cp_row, up_in]
theorem c_hold {N : Nat} {C : Int → aH → Prop} {h : aH} {x : Int} (hs : 0 ≤ h 58 10 ∧ h 58 10 ≤ 8) (hr : 0 ≤ h 58 12 ∧ h 58 12 ≤ 60)
    (h0 : x = 0 → ∀ h', Fr [70, 71, 72, 73, 74, 75, 76, 77, 78, 79] [] h h' → AGC h' 70 h 58 → h' 70 13 = 1 → C 1 h')
    (h1 : x = 1 → ∀ h', Fr [81, 82, 83, 84, 85, 86, 87, 88, 89, 90] [] h h' → AGC h' 81 h 58 → h' 81 13 = 1 → C 1 h')
    (hn : ¬ (0 ≤ x ∧ x ≤ 1) → C 0 h) : WI N 206 0 [(0, .inr (.inr 9)), (1, .inl x)] h C := by
  refine w_206_0 (w_207_0 ⟨fun q => ck_t0 (y0 (ck_t0 (hn (by omega)))), fun q => ⟨fun q2 => ck_t0 (y0 (ck_t0 (hn (by omega)))), fun q2 => ck_t1 (y1 (ck_ix (by omega) ⟨fun e => ?_, fun e => ⟨fun e1 => ?_, fun z => by omega⟩⟩))⟩⟩)
  · refine c_take_70_58 hs hr (fun h' f a _ => ck_ix (by omega) ⟨fun _ => ck_t1 (ck_t1 (h0 e _ (f.up (by decide) (by decide)) ?_ (up_same _ _ _ _))), fun z => absurd e z⟩)
    exact a
  · refine c_take_81_58 hs hr (fun h' f a _ => ck_ix (by omega) ⟨fun z => absurd z e, fun _ => ⟨fun _ => ck_t1 (ck_t1 (h1 e1 _ (f.up (by decide) (by decide)) ?_ (up_same _ _ _ _))), fun z => absurd e1 z⟩⟩)
    exact a
theorem c_restore {N : Nat} {C : Int → aH → Prop} {h : aH} {x : Int} (he : okEd h)
    (h0 : x = 0 → (h 70 13 = 0 → C 0 h) ∧ (h 70 13 ≠ 0 → (0 ≤ h 70 10 ∧ h 70 10 ≤ 8) ∧ (0 ≤ h 70 12 ∧ h 70 12 ≤ 60) ∧ ∀ h', Fr [9, 58, 59, 60, 61, 62, 63, 64, 65, 66, 67] [] h h' → AGC h' 58 h 70 → h' 58 13 = h 58 13 → h' 9 11 = h 9 11 + 1 → C 1 h'))
    (h1 : x = 1 → (h 81 13 = 0 → C 0 h) ∧ (h 81 13 ≠ 0 → (0 ≤ h 81 10 ∧ h 81 10 ≤ 8) ∧ (0 ≤ h 81 12 ∧ h 81 12 ≤ 60) ∧ ∀ h', Fr [9, 58, 59, 60, 61, 62, 63, 64, 65, 66, 67] [] h h' → AGC h' 58 h 81 → h' 58 13 = h 58 13 → h' 9 11 = h 9 11 + 1 → C 1 h'))
    (hn : ¬ (0 ≤ x ∧ x ≤ 1) → C 0 h) : WI N 209 0 [(0, .inr (.inr 9)), (1, .inl x)] h C := by
  obtain ⟨e0, e1⟩ := he
  refine w_209_0 (w_207_0 ⟨fun q => ck_t0 (z0 (ck_t0 (hn (by omega)))), fun q => ⟨fun q2 => ck_t0 (z0 (ck_t0 (hn (by omega)))), fun q2 => ck_t1 (z1 (ck_ix (by omega) ⟨fun e => ⟨fun hh => ck_rg (by omega) (ck_ix (by omega) ⟨fun _ => ?_, fun z => absurd e z⟩), fun hh => ck_t0 ((h0 e).1 (Decidable.not_not.mp hh))⟩, fun e => ⟨fun e2 => ⟨fun hh => ck_rg (by omega) (ck_ix (by omega) ⟨fun z => absurd z e, fun _ => ⟨fun _ => ?_, fun z => absurd e2 z⟩⟩), fun hh => ck_t0 ((h1 e2).1 (Decidable.not_not.mp hh))⟩, fun z => by omega⟩⟩))⟩⟩)
  · obtain ⟨b1, b2, k⟩ := (h0 e).2 hh
    exact c_take_58_70 b1 b2 (fun h' f a q => ck_t1 (k h' ((Fr.rfl.up (by decide) (by decide)).trans (f.mono (by decide) (by decide))) a q (by rw [f.at 9 (by decide) (by decide), up_same])))
  · obtain ⟨b1, b2, k⟩ := (h1 e2).2 hh
    exact c_take_58_81 b1 b2 (fun h' f a q => ck_t1 (k h' ((Fr.rfl.up (by decide) (by decide)).trans (f.mono (by decide) (by decide))) a q (by rw [f.at 9 (by decide) (by decide), up_same])))
