/-! SHAKES: both sides -/
def SWO (h : aH) (c : Nat) (f : Nat → Nat) : Prop := SV h c f ∧ ∀ g, SV h c g → SBE h f g
/-- what shakes answers -/
def SAN (h : aH) (c w v : Int) : Prop := (¬ ((1 ≤ c ∧ c ≤ 2) ∧ (0 ≤ w ∧ w ≤ 1)) → v = -1) ∧ ((1 ≤ c ∧ c ≤ 2) ∧ (0 ≤ w ∧ w ≤ 1) → ∃ f, SWO h c.toNat f ∧ v = if w = 0 then SMV f (NSL h) else SWV h f (NSL h))
theorem SAN_uniq {h : aH} {c w v v' : Int} (a : SAN h c w v) (b : SAN h c w v') : v = v' := by
  rcases Classical.em ((1 ≤ c ∧ c ≤ 2) ∧ (0 ≤ w ∧ w ≤ 1)) with e | e
  · obtain ⟨f, f1, f2⟩ := a.2 e
    obtain ⟨g, g1, g2⟩ := b.2 e
    have x := f1.2 g g1.1
    have y := g1.2 f f1.1
    unfold SBE at x y
    rw [f2, g2]
    by_cases z : w = 0
    · rw [if_pos z, if_pos z]; omega
    · rw [if_neg z, if_neg z]; omega
  · rw [a.1 e, b.1 e]
/-- what shaker answers -/
def SHA (h : aH) (c s v : Int) : Prop := (¬ ((1 ≤ c ∧ c ≤ 2) ∧ (0 ≤ s ∧ s < h 16 16)) → v = -1) ∧ ((1 ≤ c ∧ c ≤ 2) ∧ (0 ≤ s ∧ s < h 16 16) → ∃ f, SOPT h c.toNat f ∧ v = if f s.toNat = 12 then -2 else (f s.toNat : Int))
theorem SHA_uniq {h : aH} {c s v v' : Int} (a : SHA h c s v) (b : SHA h c s v') : v = v' := by
  rcases Classical.em ((1 ≤ c ∧ c ≤ 2) ∧ (0 ≤ s ∧ s < h 16 16)) with e | e
  · obtain ⟨f, f1, f2⟩ := a.2 e
    obtain ⟨g, g1, g2⟩ := b.2 e
    have x := (SOPT_uniq f1 g1).2.2 s.toNat (by unfold NSL; omega)
    rw [f2, g2, x]
  · rw [a.1 e, b.1 e]
theorem c_shakes {N : Nat} {C : Int → aH → Prop} {h : aH} {c w : Int} (P : PI h) (O : okEight h) (V : okNin h) (hC : ∀ v h', FSH h h' → SAN h c w v → C v h') : WI N 143 0 [(0, .inr (.inr 9)), (1, .inl c), (2, .inl w)] h C := by
  have out : ¬ ((1 ≤ c ∧ c ≤ 2) ∧ (0 ≤ w ∧ w ≤ 1)) → C (-1) h := fun z => hC _ h Fr.rfl ⟨fun _ => rfl, fun y => absurd y z⟩
  refine w_143_0 ⟨fun _ => out (fun y => by omega), fun c1 => ⟨fun _ => out (fun y => by omega), fun c2 => ⟨fun _ => out (fun y => by omega), fun w1 => ⟨fun w2 => ?_, fun _ => out (fun y => by omega)⟩⟩⟩⟩
  obtain ⟨n, rfl⟩ := Int.eq_ofNat_of_zero_le (show 0 ≤ c by omega)
  refine c_shm P O V (by omega) (fun h' f K => ?_)
  obtain ⟨g, g1, g2, g3, g4⟩ := K
  rw [g2, g3]
  have key : ∀ v, (v = if w = 0 then SMV g (NSL h) else SWV h g (NSL h)) → C v h' := fun v e => hC v h' f ⟨fun z => absurd ⟨by omega, by omega⟩ z, fun _ => ⟨g, ⟨g1.1, fun g' V' => SBE_of (g1.2 g' V')⟩, e⟩⟩
  exact ⟨fun z => key _ (if_neg z).symm, fun z => key _ (if_pos (Classical.byContradiction z)).symm⟩
theorem c_shaker {N : Nat} {C : Int → aH → Prop} {h : aH} {c s : Int} (P : PI h) (O : okEight h) (V : okNin h) (hC : ∀ v h', FSH h h' → SHA h c s v → C v h') : WI N 153 0 [(0, .inr (.inr 9)), (1, .inl c), (2, .inl s)] h C := by
  have hz := P.1.1
  unfold okSz at hz
  have out : ¬ ((1 ≤ c ∧ c ≤ 2) ∧ (0 ≤ s ∧ s < h 16 16)) → C (-1) h := fun z => hC _ h Fr.rfl ⟨fun _ => rfl, fun y => absurd y z⟩
  refine w_153_0 ⟨fun _ => out (fun y => by omega), fun c1 => ⟨fun _ => out (fun y => by omega), fun c2 => c_isSleeper (fun y => ⟨fun _ => ?_, fun z => absurd (by decide) z⟩) (fun n => ⟨fun z => absurd rfl z, fun _ => out (fun y => n y.2)⟩)⟩⟩
  obtain ⟨n, rfl⟩ := Int.eq_ofNat_of_zero_le (show 0 ≤ c by omega)
  refine c_shm P O V (by omega) (fun h' f K => ?_)
  obtain ⟨g, g1, g2, g3, g4⟩ := K
  rw [g4 s.toNat (by unfold NSL; omega)]
  exact ck_ix (by omega) (hC _ h' f ⟨fun z => absurd ⟨by omega, by omega⟩ z, fun _ => ⟨g, g1, rfl⟩⟩)
theorem m_shakes {N : Nat} {C : Int → aH → Prop} {h : aH} {c w : Int} (X : X3 h) (hC : ∀ v h', FSM h h' → SAN h c w v → C v h') : WI N 305 0 [(0, .inr (.inr 130)), (1, .inl c), (2, .inl w)] h C := by
  have out : ¬ ((1 ≤ c ∧ c ≤ 2) ∧ (0 ≤ w ∧ w ≤ 1)) → C (-1) h := fun z => hC _ h Fr.rfl ⟨fun _ => rfl, fun y => absurd y z⟩
  refine w_305_0 (m_in (fun c1 => z1 (m_in (fun w1 => ⟨fun _ => ?_, fun z => absurd (by decide) z⟩) (fun w1 => ⟨fun z => absurd rfl z, fun _ => out (fun y => w1 y.2)⟩))) (fun c1 => z0 (out (fun y => c1 y.1))))
  obtain ⟨n, rfl⟩ := Int.eq_ofNat_of_zero_le (show 0 ≤ c by omega)
  have on := m_shakesOn (N := N) (h1 := h) (k := 0) (c := n) (p := fun _ => 12) X (Nat.zero_le _) Fr.rfl (PFX.zero h n _) (fun x hx => absurd hx (Nat.not_lt_zero x)) (C := fun h3 => (¬ w = 0 → C (h3 130 68) h3) ∧ (¬ ¬ w = 0 → C (h3 130 67) h3)) (fun h' S => ?_)
  · exact on
  · obtain ⟨M, f2, m1, m2, m3, m4, m5, m6⟩ := S
    rw [m5, m6]
    have key : ∀ v, (v = if w = 0 then SMV M (NSL h) else SWV h M (NSL h)) → C v h' := fun v e => hC v h' f2 ⟨fun z => absurd ⟨c1, w1⟩ z, fun _ => ⟨M, ⟨m2, fun g' V' => m4 g' V' (fun x hx => absurd hx (Nat.not_lt_zero x))⟩, e⟩⟩
    exact ⟨fun z => key _ (if_neg z).symm, fun z => key _ (if_pos (Classical.byContradiction z)).symm⟩
theorem m_shaker {N : Nat} {C : Int → aH → Prop} {h : aH} {c s : Int} (X : X3 h) (hC : ∀ v h', FSM h h' → SHA h c s v → C v h') : WI N 310 0 [(0, .inr (.inr 130)), (1, .inl c), (2, .inl s)] h C := by
  have out : ¬ ((1 ≤ c ∧ c ≤ 2) ∧ (0 ≤ s ∧ s < h 16 16)) → C (-1) h := fun z => hC _ h Fr.rfl ⟨fun _ => rfl, fun y => absurd y z⟩
  have n12 := X.n
  refine w_310_0 (m_in (fun c1 => z1 (m_isSleeper X.1.1 X.2.1 (fun y => ⟨fun _ => ?_, fun z => absurd (by decide) z⟩) (fun n => ⟨fun z => absurd rfl z, fun _ => out (fun y => n y.2)⟩))) (fun c1 => z0 (out (fun y => c1 y.1))))
  obtain ⟨n, rfl⟩ := Int.eq_ofNat_of_zero_le (show 0 ≤ c by omega)
  refine m_shakesAll X (fun h' K => ?_)
  obtain ⟨g, g1, f, g4⟩ := K
  rw [g4 s.toNat (by unfold NSL; omega)]
  have key : ∀ v, (v = if g s.toNat = 12 then -2 else (g s.toNat : Int)) → C v h' := fun v e => hC v h' f ⟨fun z => absurd ⟨c1, y⟩ z, fun _ => ⟨g, g1, e⟩⟩
  refine ck_ix (by omega) ⟨fun z => ck_ix (by omega) (key _ ?_), fun z => key _ ?_⟩
  · have : g s.toNat ≠ 12 := fun e => z (by rw [e]; rfl)
    rw [if_neg this, ENC_n this]
  · rw [if_pos (ENC_m.mp (Classical.byContradiction z))]
