/-! the slots, the reference's -/
/-- n places from b on laid over those from a on -/
def CPY (f g : Nat → Int) (a b n : Nat) (j : Nat) : Int := if a ≤ j ∧ j < a + n then g (b + (j - a)) else f j
theorem CPY_0 (f g : Nat → Int) (a b j : Nat) : CPY f g a b 0 j = f j := by unfold CPY; rw [if_neg (by omega)]
theorem CPY_s (f g : Nat → Int) (a b n j : Nat) : CPY f g a b (n + 1) j = if j = a + n then g (b + n) else CPY f g a b n j := by
  unfold CPY
  by_cases e : j = a + n
  · subst e
    rw [if_pos ⟨by omega, by omega⟩, if_pos rfl]
    congr 1
    omega
  · rw [if_neg e]
    by_cases q : a ≤ j ∧ j < a + n
    · rw [if_pos q, if_pos ⟨q.1, by omega⟩]
    · rw [if_neg q, if_neg (by omega)]
theorem CPY_out {f g : Nat → Int} {a b n j : Nat} (h : ¬ (a ≤ j ∧ j < a + n)) : CPY f g a b n j = f j := by unfold CPY; rw [if_neg h]
theorem CPY_in {f g : Nat → Int} {a b n j : Nat} (h : j < n) : CPY f g a b n (a + j) = g (b + j) := by
  unfold CPY
  rw [if_pos ⟨by omega, by omega⟩]
  congr 1
  omega
theorem CPY_in0 {f g : Nat → Int} {a n j : Nat} (h : j < n) : CPY f g a 0 n (a + j) = g j := by
  rw [CPY_in h, Nat.zero_add]
theorem CPY_to0 {f g : Nat → Int} {b n j : Nat} (h : j < n) : CPY f g 0 b n j = g (b + j) := by
  have := CPY_in (f := f) (g := g) (a := 0) (b := b) h
  rw [Nat.zero_add] at this
  exact this
/-- the mornings of the reference from a to b -/
theorem m_copies {N : Nat} {C : aH → Prop} {h : aH} {a b n : Nat} (ha : a + n ≤ 180) (hb : b + n ≤ 180) (hd : b + n ≤ a ∨ a + n ≤ b) (hC : ∀ h', Fr [185, 186, 187, 188] [] h h' → (∀ j, h' 185 j = CPY (h 185) (h 185) b a n j ∧ h' 186 j = CPY (h 186) (h 186) b a n j ∧ h' 187 j = CPY (h 187) (h 187) b a n j ∧ h' 188 j = CPY (h 188) (h 188) b a n j) → C h') : WV N 349 0 [(0, .inr (.inr 130)), (1, .inl (a : Int)), (2, .inl (b : Int)), (3, .inl (n : Int))] h C := by
  have key : ∀ (d k : Nat) (h1 : aH), d = n - k → k ≤ n → Fr [185, 186, 187, 188] [] h h1 → (∀ j, h1 185 j = CPY (h 185) (h 185) b a k j ∧ h1 186 j = CPY (h 186) (h 186) b a k j ∧ h1 187 j = CPY (h 187) (h 187) b a k j ∧ h1 188 j = CPY (h 188) (h 188) b a k j) →
      WV N 349 3 [(0, .inr (.inr 130)), (1, .inl (a : Int)), (2, .inl (b : Int)), (3, .inl (n : Int)), (4, .inl (k : Int))] h1 C := by
    intro d
    induction d with
    | zero =>
      intro k h1 hd hk hf he
      have : k = n := by omega
      subst this
      exact w_349_3 ⟨fun _ => hC h1 hf he, fun z => absurd (Int.le_refl _) z⟩
    | succ d ih =>
      intro k h1 hd hk hf he
      refine w_349_3 ⟨fun z => by omega, fun _ => ?_⟩
      (repeat first | refine ck_ix (by omega) ?_ | refine ck_rg (by omega) ?_ | refine ck_rl (by omega) ?_)
      rw [show ((b : Int) + (k : Int)).toNat = b + k by omega, show ((a : Int) + (k : Int)).toNat = a + k by omega]
      obtain ⟨e1, e2, e3, e4⟩ := he (a + k)
      rw [CPY_out (by omega)] at e1 e2 e3 e4
      refine ih (k + 1) _ (by omega) (by omega) ((((hf.up (by decide) (by decide)).up (by decide) (by decide)).up (by decide) (by decide)).up (by decide) (by decide)) (fun j => ?_)
      obtain ⟨g1, g2, g3, g4⟩ := he j
      rw [CPY_s, CPY_s, CPY_s, CPY_s, ← g1, ← g2, ← g3, ← g4]
      refine ⟨?_, ?_, ?_, ?_⟩ <;> simp [up_in, up_row, e1, e2, e3, e4]
  exact w_349_0 (key n 0 h rfl (Nat.zero_le _) Fr.rfl (fun j => ⟨(CPY_0 _ _ _ _ _).symm, (CPY_0 _ _ _ _ _).symm, (CPY_0 _ _ _ _ _).symm, (CPY_0 _ _ _ _ _).symm⟩))
/-- four rows, two rows, copied -/
def C4 (h1 h : aH) (r1 s1 r2 s2 r3 s3 r4 s4 a b n : Nat) : Prop := ∀ j, h1 r1 j = CPY (h r1) (h s1) a b n j ∧ h1 r2 j = CPY (h r2) (h s2) a b n j ∧ h1 r3 j = CPY (h r3) (h s3) a b n j ∧ h1 r4 j = CPY (h r4) (h s4) a b n j
def C2 (h1 h : aH) (r1 s1 r2 s2 a b n : Nat) : Prop := ∀ j, h1 r1 j = CPY (h r1) (h s1) a b n j ∧ h1 r2 j = CPY (h r2) (h s2) a b n j
theorem m_hl2 {N : Nat} {C : Int → aH → Prop} {h : aH} {x n : Nat} (hx : x < 2) (hm : h 130 76 = (n : Int)) (h60 : n ≤ 60) (hw : ∀ j, j < 12 → h 162 j = 0 ∨ h 162 j = 1)
    (hC : ∀ h', Fr [185, 186, 187, 188, 194, 195, 196] [] h h' → C2 h' h 194 161 195 162 (12 * x) 0 12 → (∀ j, h' 196 j = if j = x then (n : Int) else h 196 j) → C4 h' h 185 185 186 186 187 187 188 188 (60 * x) 120 n → C 1 h') :
    ∀ (d k : Nat) (h1 : aH), d = 12 - k → k ≤ 12 → Fr [194, 195] [] h h1 → C2 h1 h 194 161 195 162 (12 * x) 0 k → WI N 348 73 [(0, .inr (.inr 130)), (1, .inl (x : Int)), (2, .inl (k : Int))] h1 C := by
  intro d
  induction d with
  | zero =>
    intro k h1 hd hk hf he
    have : k = 12 := by omega
    subst this
    refine w_348_73 ⟨fun _ => ?_, fun z => by omega⟩
    rw [hf.2 76 (by decide), hm]
    (repeat first | refine ck_ix (by omega) ?_ | refine ck_rg (by omega) ?_ | refine ck_rl (by omega) ?_)
    rw [show ((60 : Int) * (x : Int)) = ((60 * x : Nat) : Int) by omega]
    refine m_copies (a := 120) (by omega) (by omega) (by omega) (fun h' f' e' => ck_t1 (hC h' (((hf.mono (by decide) (by decide)).up (by decide) (by decide)).trans (f'.mono (by decide) (by decide))) (fun j => ?_) (fun j => ?_) (fun j => ?_)))
    · rw [f'.at 194 (by decide) (by decide), f'.at 195 (by decide) (by decide), up_row (by decide), up_row (by decide)]
      exact he j
    · rw [f'.at 196 (by decide) (by decide), up_in, Int.toNat_natCast, hf.at 196 (by decide) (by decide)]
    · have := e' j
      rw [up_row (by decide), up_row (by decide), up_row (by decide), up_row (by decide), hf.at 185 (by decide) (by decide), hf.at 186 (by decide) (by decide), hf.at 187 (by decide) (by decide), hf.at 188 (by decide) (by decide)] at this
      exact this
  | succ d ih =>
    intro k h1 hd hk hf he
    refine w_348_73 ⟨fun z => by omega, fun _ => ?_⟩
    rw [hf.at 161 (by decide) (by decide), hf.at 162 (by decide) (by decide)]
    (repeat first | refine ck_ix (by omega) ?_ | refine ck_rg (by omega) ?_ | refine ck_rl (by omega) ?_)
    rw [show ((12 : Int) * (x : Int) + (k : Int)).toNat = 12 * x + k by omega]
    simp only [Int.toNat_natCast]
    refine ⟨hw k (by omega), ck_rg (by omega) ?_⟩
    refine ih (k + 1) _ (by omega) (by omega) ((hf.up (by decide) (by decide)).up (by decide) (by decide)) (fun j => ?_)
    obtain ⟨g1, g2⟩ := he j
    rw [CPY_s, CPY_s, ← g1, ← g2]
    refine ⟨?_, ?_⟩ <;> simp [up_in, up_row]
theorem m_hl1 {N : Nat} {C : Int → aH → Prop} {h : aH} {x n s : Nat} (hx : x < 2) (hs : h 130 48 = (s : Int)) (h8 : s ≤ 8) (hm : h 130 76 = (n : Int)) (h60 : n ≤ 60) (hw : ∀ j, j < 12 → h 162 j = 0 ∨ h 162 j = 1)
    (hC : ∀ h', Fr [185, 186, 187, 188, 190, 191, 192, 193, 194, 195, 196] [] h h' → C4 h' h 190 163 191 164 192 165 193 166 (8 * x) 0 s → C2 h' h 194 161 195 162 (12 * x) 0 12 → (∀ j, h' 196 j = if j = x then (n : Int) else h 196 j) → C4 h' h 185 185 186 186 187 187 188 188 (60 * x) 120 n → C 1 h') :
    ∀ (d k : Nat) (h1 : aH), d = s - k → k ≤ s → Fr [190, 191, 192, 193] [] h h1 → C4 h1 h 190 163 191 164 192 165 193 166 (8 * x) 0 k → WI N 348 16 [(0, .inr (.inr 130)), (1, .inl (x : Int)), (2, .inl (k : Int))] h1 C := by
  intro d
  induction d with
  | zero =>
    intro k h1 hd hk hf he
    have : k = s := by omega
    subst this
    refine w_348_16 ?_
    rw [hf.2 48 (by decide), hs]
    refine ⟨fun _ => ?_, fun z => by omega⟩
    refine m_hl2 hx (by rw [hf.2 76 (by decide)]; exact hm) h60 (fun j hj => by rw [hf.at 162 (by decide) (by decide)]; exact hw j hj) (fun h' f' q1 q2 q3 => hC h' ((hf.mono (by decide) (by decide)).trans (f'.mono (by decide) (by decide))) (fun j => ?_) (fun j => ?_) (fun j => ?_) (fun j => ?_)) 12 0 h1 rfl (by decide) Fr.rfl (fun j => ⟨(CPY_0 _ _ _ _ _).symm, (CPY_0 _ _ _ _ _).symm⟩)
    · rw [f'.at 190 (by decide) (by decide), f'.at 191 (by decide) (by decide), f'.at 192 (by decide) (by decide), f'.at 193 (by decide) (by decide)]
      exact he j
    · have := q1 j
      rw [hf.at 194 (by decide) (by decide), hf.at 195 (by decide) (by decide), hf.at 161 (by decide) (by decide), hf.at 162 (by decide) (by decide)] at this
      exact this
    · have := q2 j
      rw [hf.at 196 (by decide) (by decide)] at this
      exact this
    · have := q3 j
      rw [hf.at 185 (by decide) (by decide), hf.at 186 (by decide) (by decide), hf.at 187 (by decide) (by decide), hf.at 188 (by decide) (by decide)] at this
      exact this
  | succ d ih =>
    intro k h1 hd hk hf he
    refine w_348_16 ?_
    rw [hf.2 48 (by decide), hs, hf.at 163 (by decide) (by decide), hf.at 164 (by decide) (by decide), hf.at 165 (by decide) (by decide), hf.at 166 (by decide) (by decide)]
    refine ⟨fun z => by omega, fun _ => ?_⟩
    (repeat first | refine ck_ix (by omega) ?_ | refine ck_rg (by omega) ?_ | refine ck_rl (by omega) ?_)
    rw [show ((8 : Int) * (x : Int) + (k : Int)).toNat = 8 * x + k by omega]
    simp only [Int.toNat_natCast]
    refine ih (k + 1) _ (by omega) (by omega) ((((hf.up (by decide) (by decide)).up (by decide) (by decide)).up (by decide) (by decide)).up (by decide) (by decide)) (fun j => ?_)
    obtain ⟨g1, g2, g3, g4⟩ := he j
    rw [CPY_s, CPY_s, CPY_s, CPY_s, ← g1, ← g2, ← g3, ← g4]
    refine ⟨?_, ?_, ?_, ?_⟩ <;> simp [up_in, up_row]
def SLM : List Nat := [185, 186, 187, 188, 189, 190, 191, 192, 193, 194, 195, 196]
/-- what holds behind the reference's hold: slot x is what is, the other one as it was -/
theorem m_hold {N : Nat} {C : Int → aH → Prop} {h : aH} {x : Int} {n s : Nat} (hs : h 130 48 = (s : Int)) (h8 : s ≤ 8) (hm : h 130 76 = (n : Int)) (h60 : n ≤ 60) (hw : ∀ j, j < 12 → h 162 j = 0 ∨ h 162 j = 1)
    (h1 : ∀ k : Nat, x = (k : Int) → k < 2 → ∀ h', Fr [185, 186, 187, 188, 189, 190, 191, 192, 193, 194, 195, 196] [] h h' → (∀ j, h' 189 j = if j = k then (s : Int) else h 189 j) → C4 h' h 190 163 191 164 192 165 193 166 (8 * k) 0 s → C2 h' h 194 161 195 162 (12 * k) 0 12 → (∀ j, h' 196 j = if j = k then (n : Int) else h 196 j) → C4 h' h 185 185 186 186 187 187 188 188 (60 * k) 120 n → C 1 h')
    (h0 : ¬ (0 ≤ x ∧ x ≤ 1) → C 0 h) : WI N 348 0 [(0, .inr (.inr 130)), (1, .inl x)] h C := by
  refine w_348_0 (m_in (fun q => y1 ?_) (fun q => y0 (ck_t0 (h0 q))))
  obtain ⟨k, rfl⟩ := Int.eq_ofNat_of_zero_le q.1
  refine ck_ix (by omega) ?_
  rw [hs]
  simp only [Int.toNat_natCast]
  refine m_hl1 (x := k) (s := s) (n := n) (h := am_up h 189 k (s : Int)) (by omega) hs h8 hm h60 hw (fun h' f' q1 q2 q3 q4 => h1 k rfl (by omega) h' ((Fr.rfl.up (by decide) (by decide)).trans (f'.mono (by decide) (by decide))) (fun j => ?_) q1 q2 q3 q4) s 0 _ rfl (Nat.zero_le _) Fr.rfl (fun j => ⟨(CPY_0 _ _ _ _ _).symm, (CPY_0 _ _ _ _ _).symm, (CPY_0 _ _ _ _ _).symm, (CPY_0 _ _ _ _ _).symm⟩)
  rw [f'.at 189 (by decide) (by decide), up_in]
/-- the other way -/
def AGM4 (h1 h : aH) (x n : Nat) : Prop := ∀ j, h1 163 j = CPY (h 163) (h 190) 0 (8 * x) n j ∧ h1 164 j = CPY (h 164) (h 191) 0 (8 * x) n j ∧ h1 165 j = CPY (h 165) (h 192) 0 (8 * x) n j ∧ h1 166 j = CPY (h 166) (h 193) 0 (8 * x) n j
theorem m_rl2 {N : Nat} {C : Int → aH → Prop} {h : aH} {x n : Nat} (hx : x < 2) (hm : h 196 x = (n : Int)) (h60 : n ≤ 60) (hw : ∀ j, j < 12 → h 195 (12 * x + j) = 0 ∨ h 195 (12 * x + j) = 1)
    (hC : ∀ h', Fr [161, 162, 185, 186, 187, 188] [76] h h' → C2 h' h 161 194 162 195 0 (12 * x) 12 → h' 130 76 = (n : Int) → C4 h' h 185 185 186 186 187 187 188 188 120 (60 * x) n → C 1 h') :
    ∀ (d k : Nat) (h1 : aH), d = 12 - k → k ≤ 12 → Fr [161, 162] [] h h1 → C2 h1 h 161 194 162 195 0 (12 * x) k → WI N 350 78 [(0, .inr (.inr 130)), (1, .inl (x : Int)), (2, .inl (k : Int))] h1 C := by
  intro d
  induction d with
  | zero =>
    intro k h1 hd hk hf he
    have : k = 12 := by omega
    subst this
    refine w_350_78 ⟨fun _ => ?_, fun z => by omega⟩
    rw [hf.at 196 (by decide) (by decide)]
    simp only [Int.toNat_natCast]
    rw [hm]
    (repeat first | refine ck_ix (by omega) ?_ | refine ck_rg (by omega) ?_ | refine ck_rl (by omega) ?_)
    rw [show ((60 : Int) * (x : Int)) = ((60 * x : Nat) : Int) by omega]
    refine m_copies (a := 60 * x) (b := 120) (by omega) (by omega) (by omega) (fun h' f' e' => ck_t1 (hC h' (((hf.mono (by decide) (by decide)).upM (by decide)).trans (f'.mono (by decide) (by decide))) (fun j => ?_) ?_ (fun j => ?_)))
    · rw [f'.at 161 (by decide) (by decide), f'.at 162 (by decide) (by decide), up_row (by decide), up_row (by decide)]
      exact he j
    · rw [f'.2 76 (by decide), up_same]
    · have := e' j
      rw [up_row (by decide), up_row (by decide), up_row (by decide), up_row (by decide), hf.at 185 (by decide) (by decide), hf.at 186 (by decide) (by decide), hf.at 187 (by decide) (by decide), hf.at 188 (by decide) (by decide)] at this
      exact this
  | succ d ih =>
    intro k h1 hd hk hf he
    refine w_350_78 ⟨fun z => by omega, fun _ => ?_⟩
    rw [hf.at 194 (by decide) (by decide), hf.at 195 (by decide) (by decide)]
    (repeat first | refine ck_ix (by omega) ?_ | refine ck_rg (by omega) ?_ | refine ck_rl (by omega) ?_)
    rw [show ((12 : Int) * (x : Int) + (k : Int)).toNat = 12 * x + k by omega]
    simp only [Int.toNat_natCast]
    refine ⟨hw k (by omega), ck_rg (by omega) ?_⟩
    refine ih (k + 1) _ (by omega) (by omega) ((hf.up (by decide) (by decide)).up (by decide) (by decide)) (fun j => ?_)
    obtain ⟨g1, g2⟩ := he j
    rw [CPY_s, CPY_s, ← g1, ← g2]
    refine ⟨?_, ?_⟩ <;> simp [up_in, up_row]
theorem m_rl1 {N : Nat} {C : Int → aH → Prop} {h : aH} {x n s : Nat} (hx : x < 2) (hs : h 130 48 = (s : Int)) (h8 : s ≤ 8) (hm : h 196 x = (n : Int)) (h60 : n ≤ 60) (hw : ∀ j, j < 12 → h 195 (12 * x + j) = 0 ∨ h 195 (12 * x + j) = 1)
    (hC : ∀ h', Fr [161, 162, 163, 164, 165, 166, 185, 186, 187, 188] [76] h h' → AGM4 h' h x s → C2 h' h 161 194 162 195 0 (12 * x) 12 → h' 130 76 = (n : Int) → C4 h' h 185 185 186 186 187 187 188 188 120 (60 * x) n → C 1 h') :
    ∀ (d k : Nat) (h1 : aH), d = s - k → k ≤ s → Fr [163, 164, 165, 166] [] h h1 → AGM4 h1 h x k → WI N 350 21 [(0, .inr (.inr 130)), (1, .inl (x : Int)), (2, .inl (k : Int))] h1 C := by
  intro d
  induction d with
  | zero =>
    intro k h1 hd hk hf he
    have : k = s := by omega
    subst this
    refine w_350_21 ?_
    rw [hf.2 48 (by decide), hs]
    refine ⟨fun _ => ?_, fun z => by omega⟩
    refine m_rl2 hx (by rw [hf.at 196 (by decide) (by decide)]; exact hm) h60 (fun j hj => by rw [hf.at 195 (by decide) (by decide)]; exact hw j hj) (fun h' f' q1 q2 q3 => hC h' ((hf.mono (by decide) (by decide)).trans (f'.mono (by decide) (by decide))) (fun j => ?_) (fun j => ?_) q2 (fun j => ?_)) 12 0 h1 rfl (by decide) Fr.rfl (fun j => ⟨(CPY_0 _ _ _ _ _).symm, (CPY_0 _ _ _ _ _).symm⟩)
    · rw [f'.at 163 (by decide) (by decide), f'.at 164 (by decide) (by decide), f'.at 165 (by decide) (by decide), f'.at 166 (by decide) (by decide)]
      exact he j
    · have := q1 j
      rw [hf.at 194 (by decide) (by decide), hf.at 195 (by decide) (by decide), hf.at 161 (by decide) (by decide), hf.at 162 (by decide) (by decide)] at this
      exact this
    · have := q3 j
      rw [hf.at 185 (by decide) (by decide), hf.at 186 (by decide) (by decide), hf.at 187 (by decide) (by decide), hf.at 188 (by decide) (by decide)] at this
      exact this
  | succ d ih =>
    intro k h1 hd hk hf he
    refine w_350_21 ?_
    rw [hf.2 48 (by decide), hs, hf.at 190 (by decide) (by decide), hf.at 191 (by decide) (by decide), hf.at 192 (by decide) (by decide), hf.at 193 (by decide) (by decide)]
    refine ⟨fun z => by omega, fun _ => ?_⟩
    (repeat first | refine ck_ix (by omega) ?_ | refine ck_rg (by omega) ?_ | refine ck_rl (by omega) ?_)
    rw [show ((8 : Int) * (x : Int) + (k : Int)).toNat = 8 * x + k by omega]
    simp only [Int.toNat_natCast]
    refine ih (k + 1) _ (by omega) (by omega) ((((hf.up (by decide) (by decide)).up (by decide) (by decide)).up (by decide) (by decide)).up (by decide) (by decide)) (fun j => ?_)
    obtain ⟨g1, g2, g3, g4⟩ := he j
    rw [CPY_s, CPY_s, CPY_s, CPY_s, ← g1, ← g2, ← g3, ← g4]
    refine ⟨?_, ?_, ?_, ?_⟩ <;> simp [up_in, up_row]
theorem m_restore {N : Nat} {C : Int → aH → Prop} {h : aH} {x : Int}
    (h1 : ∀ k : Nat, x = (k : Int) → k < 2 → 0 ≤ h 189 k → ∃ s n : Nat, h 189 k = (s : Int) ∧ s ≤ 8 ∧ h 196 k = (n : Int) ∧ n ≤ 60 ∧ (∀ j, j < 12 → h 195 (12 * k + j) = 0 ∨ h 195 (12 * k + j) = 1) ∧ ∀ h', Fr [161, 162, 163, 164, 165, 166, 185, 186, 187, 188] [48, 76] h h' → h' 130 48 = (s : Int) → AGM4 h' h k s → C2 h' h 161 194 162 195 0 (12 * k) 12 → h' 130 76 = (n : Int) → C4 h' h 185 185 186 186 187 187 188 188 120 (60 * k) n → C 1 h')
    (h2 : ∀ k : Nat, x = (k : Int) → k < 2 → ¬ 0 ≤ h 189 k → C 0 h)
    (h0 : ¬ (0 ≤ x ∧ x ≤ 1) → C 0 h) : WI N 350 0 [(0, .inr (.inr 130)), (1, .inl x)] h C := by
  refine w_350_0 (m_in (fun q => z1 ?_) (fun q => z0 (ck_t0 (h0 q))))
  obtain ⟨k, rfl⟩ := Int.eq_ofNat_of_zero_le q.1
  refine ck_ix (by omega) ?_
  simp only [Int.toNat_natCast]
  refine ⟨fun hp => ck_ix (by omega) ?_, fun hp => ck_t0 (h2 k rfl (by omega) hp)⟩
  obtain ⟨s, n, hs, h8, hm, h60, hw, hc⟩ := h1 k rfl (by omega) hp
  rw [hs]
  refine m_rl1 (x := k) (s := s) (n := n) (h := am_up h 130 48 (s : Int)) (by omega) (up_same _ _ _ _) h8 hm h60 hw (fun h' f' q1 q2 q3 q4 => hc h' ((Fr.rfl.upM (by decide)).trans (f'.mono (by decide) (by decide))) ?_ q1 q2 q3 q4) s 0 _ rfl (Nat.zero_le _) Fr.rfl (fun j => ⟨(CPY_0 _ _ _ _ _).symm, (CPY_0 _ _ _ _ _).symm, (CPY_0 _ _ _ _ _).symm, (CPY_0 _ _ _ _ _).symm⟩)
  rw [f'.2 48 (by decide), up_same]
