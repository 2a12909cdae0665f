/-! SHAKES: the class's is the one that is asked for -/
def cntN (g : Nat → Nat) (a : Nat) : Nat → Nat
  | 0 => 0
  | k + 1 => if g k = a then cntN g a k + 1 else cntN g a k
theorem cntN_sm (g : Nat → Nat) (a : Nat) : ∀ k, ((cntN g a k : Nat) : Int) = smI (fun r => if g r = a then 1 else 0) k
  | 0 => rfl
  | k + 1 => by
    have := cntN_sm g a k
    unfold cntN smI
    by_cases e : g k = a
    · rw [if_pos e, if_pos e]; omega
    · rw [if_neg e, if_neg e]; omega
theorem cntN_lt {g : Nat → Nat} {a r : Nat} (e : g r = a) : ∀ {k : Nat}, r < k → cntN g a r + 1 ≤ cntN g a k
  | 0, h => absurd h (Nat.not_lt_zero r)
  | k + 1, h => by
    by_cases c : r = k
    · subst c
      rw [show cntN g a (r + 1) = if g r = a then cntN g a r + 1 else cntN g a r from rfl, if_pos e]
      exact Nat.le_refl _
    · have := cntN_lt e (show r < k by omega)
      rw [show cntN g a (k + 1) = if g k = a then cntN g a k + 1 else cntN g a k from rfl]
      split <;> omega
theorem div_blk {c j t : Nat} (hc : 1 ≤ c ∧ c ≤ 2) (ht : t < c) : (j * c + t) / c = j := by
  rcases (show c = 1 ∨ c = 2 by omega) with rfl | rfl <;> omega
theorem SV.load {h : aH} (P : PI h) {c : Nat} {g : Nat → Nat} (S : SV h c g) {r : Nat} (hr : r < NE h) (n : g (EI h r) ≠ 12) : cntN (fun r => g (EI h r)) (g (EI h r)) r < c := by
  have hz := P.1.1
  unfold okSz at hz
  have n12 : NSL h ≤ 12 := by unfold NSL; omega
  have a := S.at (EI_first P hr).1
  have a2 : g (EI h r) < NSL h := by
    rcases a with y | y
    · exact absurd y n
    · exact y.2
  have l := S.2 _ a2
  rw [EI_sum P (fun x hx nf => if_neg (by rw [S.out hx nf]; omega))] at l
  have e := cntN_sm (fun r => g (EI h r)) (g (EI h r)) (NE h)
  have k := cntN_lt (g := fun r => g (EI h r)) (a := g (EI h r)) (r := r) rfl hr
  omega
/-- sides for any matching -/
def tOf (h : aH) (c : Nat) (g : Nat → Nat) (r : Nat) : Nat := if g (EI h r) = 12 then NE h * c + r else IX h (g (EI h r)) * c + cntN (fun r => g (EI h r)) (g (EI h r)) r
theorem tOf_ok {h : aH} (P : PI h) {c : Nat} (hc : 1 ≤ c ∧ c ≤ 2) {g : Nat → Nat} (S : SV h c g) : INJ (NS h c) (NE h) (tOf h c g) ∧ SDS h c g (tOf h c g) := by
  have n8 := NE_le h
  have at1 : ∀ r, r < NE h → (g (EI h r) = 12 ∧ tOf h c g r = NE h * c + r) ∨ ∃ j t, j < NE h ∧ g (EI h r) = EI h j ∧ t < c ∧ tOf h c g r = j * c + t ∧ t = cntN (fun r => g (EI h r)) (g (EI h r)) r := by
    intro r hr
    by_cases e : g (EI h r) = 12
    · exact Or.inl ⟨e, if_pos e⟩
    · rcases S.at (EI_first P hr).1 with y | ⟨y, y2⟩
      · exact absurd y e
      · obtain ⟨x1, x2⟩ := FIRST_ix y2 y
        exact Or.inr ⟨IX h (g (EI h r)), _, x1, x2.symm, S.load P hr e, if_neg e, rfl⟩
  refine ⟨⟨fun r hr => ?_, fun r r' hr hr' e => ?_⟩, fun r hr => ?_⟩
  · rcases at1 r hr with ⟨-, b⟩ | ⟨j, t, j1, -, t1, b, -⟩
    · rw [b]; unfold NS; omega
    · rw [b]; unfold NS
      rcases (show c = 1 ∨ c = 2 by omega) with rfl | rfl <;> omega
  · rcases at1 r hr with ⟨-, b⟩ | ⟨j, t, j1, g1, t1, b, q1⟩
    · rcases at1 r' hr' with ⟨-, b'⟩ | ⟨j', t', j1', -, t1', b', -⟩
      · omega
      · exfalso
        rw [b, b'] at e
        rcases (show c = 1 ∨ c = 2 by omega) with rfl | rfl <;> omega
    · rcases at1 r' hr' with ⟨-, b'⟩ | ⟨j', t', j1', g1', t1', b', q1'⟩
      · exfalso
        rw [b, b'] at e
        rcases (show c = 1 ∨ c = 2 by omega) with rfl | rfl <;> omega
      · rw [b, b'] at e
        have ej : j = j' ∧ t = t' := by rcases (show c = 1 ∨ c = 2 by omega) with rfl | rfl <;> omega
        obtain ⟨rfl, rfl⟩ := ej
        rw [g1] at q1
        rw [g1'] at q1'
        rcases Nat.lt_trichotomy r r' with l | l | l
        · exfalso
          have := cntN_lt (g := fun r => g (EI h r)) (a := EI h j) (r := r) g1 l
          omega
        · exact l
        · exfalso
          have := cntN_lt (g := fun r => g (EI h r)) (a := EI h j) (r := r') g1' l
          omega
  · rcases at1 r hr with ⟨a, b⟩ | ⟨j, t, j1, g1, t1, b, q1⟩
    · refine Or.inl ⟨a, ?_⟩
      rw [b]
      rcases (show c = 1 ∨ c = 2 by omega) with rfl | rfl <;> omega
    · refine Or.inr ⟨j, j1, g1, by rw [b]; exact div_blk hc t1, ?_⟩
      obtain ⟨a, -, -⟩ := EI_first P hr
      rcases S.1 _ a with y | ⟨-, y⟩
      · rw [g1] at y; exact absurd y (EI_12 P j1)
      · rw [g1] at y; exact (CAN_S P j1 hr).mp y
/-- nobody sits where he cannot -/
theorem HUN.can {h : aH} (P : PI h) {c : Nat} (hc : 1 ≤ c ∧ c ≤ 2) {U V A : Nat → Int} (H : HUN h c (NE h + 1) U V A) {σ : Nat → Nat} (S : INJ (NS h c) (NE h) σ) (hσ : ∀ r, r < NE h → A (σ r + 1) = ((r + 1 : Nat) : Int)) {r : Nat} (hr : r < NE h) (k : σ r / c < NE h) : CAN h (σ r / c) r := by
  have n8 := NE_le h
  by_cases y : CAN h (σ r / c) r
  · exact y
  · exfalso
    have dv : ∀ i, NE h ≤ (NE h * c + i) / c := fun i => by rcases (show c = 1 ∨ c = 2 by omega) with rfl | rfl <;> omega
    have l := H.least S hσ (τ := fun i => NE h * c + i) ⟨fun i hi => by show NE h * c + i < NS h c; unfold NS; omega, fun i j hi hj e => by have e : NE h * c + i = NE h * c + j := e; omega⟩
    have a := smI_lo1 (f := fun r => PRC h c r (σ r)) hr (fun i hi => (PRC_rg P hi).1)
    have b := smI_hi (f := fun r => PRC h c r (NE h * c + r)) (v := 38263752) (k := NE h) (fun i hi => by
      rw [PRC_no (dv i)]
      have := nin_le i
      omega)
    rw [PRC_not (by omega) y] at a
    omega
theorem fOf_SV {h : aH} (P : PI h) {c : Nat} (hc : 1 ≤ c ∧ c ≤ 2) {U V A : Nat → Int} (H : HUN h c (NE h + 1) U V A) {σ : Nat → Nat} (S : INJ (NS h c) (NE h) σ) (hσ : ∀ r, r < NE h → A (σ r + 1) = ((r + 1 : Nat) : Int)) : SV h c (fOf h c σ) ∧ SDS h c (fOf h c σ) σ := by
  have hz := P.1.1
  unfold okSz at hz
  have n12 : NSL h ≤ 12 := by unfold NSL; omega
  refine ⟨⟨fun x hx => ?_, fun a ha => ?_⟩, fun r hr => ?_⟩
  · by_cases f : FIRST h x
    · obtain ⟨x1, x2⟩ := FIRST_ix hx f
      have e := fOf_EI (c := c) (σ := σ) P x1
      rw [x2] at e
      rw [e]
      by_cases y : σ (IX h x) / c < NE h
      · rw [if_pos y]
        have := (CAN_S P y x1).mpr (H.can P hc S hσ x1 y)
        rw [x2] at this
        exact Or.inr ⟨(EI_first P y).1, this⟩
      · rw [if_neg y]; exact Or.inl rfl
    · exact Or.inl (fOf_out f)
  · rw [EI_sum P (fun x hx nf => if_neg (by rw [fOf_out nf]; omega))]
    have l := sum_ge (m := NS h c) (τ := σ) (NE h) (fun s => if s / c = IX h a then -1 else 0) (fun s => by show (if s / c = IX h a then (-1 : Int) else 0) ≤ 0; split <;> decide) S
    have b := (blk_c (j := IX h a) hc (NS h c)).1
    have m : ∀ k, k ≤ NE h → smI (fun r => if fOf h c σ (EI h r) = a then 1 else 0) k ≤ - smI (fun r => if σ r / c = IX h a then -1 else 0) k := by
      intro k
      induction k with
      | zero => intro _; exact Int.le_refl 0
      | succ k ih =>
        intro hk
        have := ih (by omega)
        have e := fOf_EI (c := c) (σ := σ) P (show k < NE h by omega)
        unfold smI
        by_cases y : σ k / c < NE h
        · rw [if_pos y] at e
          by_cases z : fOf h c σ (EI h k) = a
          · rw [if_pos z, if_pos (by rw [← z, e, (EI_first P y).2.2])]
            omega
          · rw [if_neg z]
            split <;> omega
        · rw [if_neg y] at e
          rw [if_neg (by rw [e]; omega)]
          split <;> omega
    have := m (NE h) (Nat.le_refl _)
    omega
  · rw [fOf_EI P hr]
    by_cases y : σ r / c < NE h
    · rw [if_pos y]
      exact Or.inr ⟨_, y, rfl, rfl, H.can P hc S hσ hr y⟩
    · rw [if_neg y]
      exact Or.inl ⟨rfl, by omega⟩
theorem HUN.opt {h : aH} (P : PI h) {c : Nat} (hc : 1 ≤ c ∧ c ≤ 2) {U V A : Nat → Int} (H : HUN h c (NE h + 1) U V A) {σ : Nat → Nat} (S : INJ (NS h c) (NE h) σ) (hσ : ∀ r, r < NE h → A (σ r + 1) = ((r + 1 : Nat) : Int)) : SOPT h c (fOf h c σ) := by
  have n8 := NE_le h
  obtain ⟨F, D⟩ := fOf_SV P hc H S hσ
  refine ⟨F, fun g G => ?_⟩
  obtain ⟨T, E⟩ := tOf_ok P hc G
  have l := H.least S hσ T
  rw [D.sum P (NE h) (Nat.le_refl _), E.sum P (NE h) (Nat.le_refl _)] at l
  obtain ⟨f1, f2, f3, f4⟩ := F.sums P
  obtain ⟨g1, g2, g3, g4⟩ := G.sums P
  rw [← f1, ← f2, ← g1, ← g2, hor_sum (fun r => DGV h (fOf h c σ (EI h r))) _ n8, hor_sum (fun r => DGV h (g (EI h r))) _ n8] at l
  have t1 := hor_top (a := fun r => DGV h (fOf h c σ (EI h r))) n8 (fun i hi => DGV_le ((F.at (EI_first P hi).1).imp_right (·.1)))
  have t2 := hor_top (a := fun r => DGV h (g (EI h r))) n8 (fun i hi => DGV_le ((G.at (EI_first P hi).1).imp_right (·.1)))
  have lx := LXL_of P F G
  obtain ⟨Df, hDf⟩ : ∃ D, D = hor (fun r => DGV h (fOf h c σ (EI h r))) (NE h) * 9 ^ (8 - NE h) := ⟨_, rfl⟩
  obtain ⟨Dg, hDg⟩ : ∃ D, D = hor (fun r => DGV h (g (EI h r))) (NE h) * 9 ^ (8 - NE h) := ⟨_, rfl⟩
  rw [← hDf, ← hDg] at l
  rw [← hDf] at t1
  rw [← hDg] at t2
  have x : SWV h (fOf h c σ) (NSL h) - 153 * SMV (fOf h c σ) (NSL h) ≤ SWV h g (NSL h) - 153 * SMV g (NSL h) := by omega
  unfold SBT
  rcases Int.lt_trichotomy (SMV g (NSL h)) (SMV (fOf h c σ) (NSL h)) with q | q | q
  · exact Or.inl q
  · refine Or.inr ⟨q, ?_⟩
    rcases Int.lt_trichotomy (SWV h (fOf h c σ) (NSL h)) (SWV h g (NSL h)) with w | w | w
    · exact Or.inl w
    · refine Or.inr ⟨w, LXL_of P F G (hor_mul_le n8 ?_)⟩
      rw [← hDf, ← hDg]
      omega
    · exfalso; omega
  · exfalso; omega
