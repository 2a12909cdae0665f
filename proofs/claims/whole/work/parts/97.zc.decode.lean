/-! SHAKES: the cheapest seats are what is asked for -/
theorem WALKF_sym (h : aH) (a b : Int) : WALKF h a b = WALKF h b a := by
  unfold WALKF gapF flrF
  omega
theorem WSL_EI (h : aH) (i j : Nat) : WSL h (EI h i) (EI h j) = WKE h i j := by
  unfold WSL WKE
  exact WALKF_sym h _ _
theorem CAN_S {h : aH} (P : PI h) {i j : Nat} (hi : i < NE h) (hj : j < NE h) : CANS h (EI h i) (EI h j) ↔ CAN h i j := by
  have a := EI_first P hi
  have b := EI_first P hj
  unfold CANS CAN
  rw [WSL_EI]
  have e1 : h 23 (EI h i) = HRR h i := rfl
  have e2 : h 23 (EI h j) = HRR h j := rfl
  rw [e1, e2]
  exact ⟨fun z => ⟨fun q => z.1 (by rw [q]), z.2.2.2⟩, fun z => ⟨fun q => z.1 ((EI_inj P).2 i j hi hj q), a.2.1, b.2.1, z.2⟩⟩
theorem smI_lo {f : Nat → Int} : ∀ {k : Nat}, (∀ i, i < k → -6586148313 ≤ f i) → -6586148313 * (k : Int) ≤ smI f k
  | 0, _ => by simp [smI]
  | k + 1, e => by
    have := smI_lo (fun i hi => e i (Nat.lt_succ_of_lt hi))
    have := e k (Nat.lt_succ_self k)
    unfold smI
    omega
theorem smI_lo1 {f : Nat → Int} {r : Nat} : ∀ {k : Nat}, r < k → (∀ i, i < k → -6586148313 ≤ f i) → f r - 6586148313 * (k : Int) ≤ smI f k
  | 0, h, _ => absurd h (Nat.not_lt_zero r)
  | k + 1, h, e => by
    have a := smI_lo (fun i hi => e i (Nat.lt_succ_of_lt hi))
    have b := e k (Nat.lt_succ_self k)
    unfold smI
    by_cases c : r = k
    · subst c; omega
    · have := smI_lo1 (show r < k by omega) (fun i hi => e i (Nat.lt_succ_of_lt hi))
      omega
theorem smI_hi {f : Nat → Int} {v : Int} : ∀ {k : Nat}, (∀ i, i < k → f i ≤ v) → smI f k ≤ v * (k : Int)
  | 0, _ => by simp [smI]
  | k + 1, e => by
    have := smI_hi (fun i hi => e i (Nat.lt_succ_of_lt hi))
    have := e k (Nat.lt_succ_self k)
    unfold smI
    rw [show ((k + 1 : Nat) : Int) = (k : Int) + 1 by omega, Int.mul_add]
    omega
theorem smI_pos {f : Nat → Int} : ∀ {k : Nat}, (∀ i, i < k → 0 ≤ f i) → 0 ≤ smI f k
  | 0, _ => Int.le_refl 0
  | k + 1, e => by
    have := smI_pos (fun i hi => e i (Nat.lt_succ_of_lt hi))
    have := e k (Nat.lt_succ_self k)
    unfold smI
    omega
theorem blk_c {c j : Nat} (hc : 1 ≤ c ∧ c ≤ 2) : ∀ m, -(c : Int) ≤ smI (fun s => if s / c = j then -1 else 0) m ∧ (m ≤ j * c → smI (fun s => if s / c = j then -1 else 0) m = 0) ∧ (m < j * c + c → -((m : Int) - (j * c : Nat)) ≤ smI (fun s => if s / c = j then -1 else 0) m ∨ m < j * c)
  | 0 => ⟨by unfold smI; omega, fun _ => rfl, fun _ => by unfold smI; omega⟩
  | m + 1 => by
    obtain ⟨a, b, d⟩ := blk_c (j := j) hc m
    unfold smI
    rcases (show c = 1 ∨ c = 2 by omega) with rfl | rfl
    · by_cases e : m / 1 = j
      · rw [if_pos e]; refine ⟨?_, fun z => ?_, fun z => ?_⟩ <;> omega
      · rw [if_neg e]; refine ⟨?_, fun z => ?_, fun z => ?_⟩ <;> omega
    · by_cases e : m / 2 = j
      · rw [if_pos e]; refine ⟨?_, fun z => ?_, fun z => ?_⟩ <;> omega
      · rw [if_neg e]; refine ⟨?_, fun z => ?_, fun z => ?_⟩ <;> omega
/-- the side that each row has -/
theorem HUN.seats {h : aH} {c : Nat} {U V A : Nat → Int} (H : HUN h c (NE h + 1) U V A) : ∃ σ, INJ (NS h c) (NE h) σ ∧ ∀ r, r < NE h → A (σ r + 1) = ((r + 1 : Nat) : Int) := by
  obtain ⟨-, -, -, c2, -, -⟩ := H
  have ex : ∀ r : Nat, ∃ s, r < NE h → s < NS h c ∧ A (s + 1) = ((r + 1 : Nat) : Int) := by
    intro r
    by_cases y : r < NE h
    · obtain ⟨s, s1, s2, s3⟩ := c2 (r + 1) (by omega) (by omega)
      exact ⟨s - 1, fun _ => ⟨by omega, by rw [show s - 1 + 1 = s by omega]; exact s3⟩⟩
    · exact ⟨0, fun z => absurd z y⟩
  obtain ⟨σ, hs⟩ := Classical.axiomOfChoice ex
  refine ⟨σ, ⟨fun i hi => (hs i hi).1, fun i j hi hj e => ?_⟩, fun r hr => (hs r hr).2⟩
  have a := (hs i hi).2
  have b := (hs j hj).2
  have e : σ i = σ j := e
  rw [e] at a
  rw [a] at b
  omega
/-- a matching and sides of it -/
def SDS (h : aH) (c : Nat) (g τ : Nat → Nat) : Prop := ∀ r, r < NE h → (g (EI h r) = 12 ∧ NE h ≤ τ r / c) ∨ ∃ j, j < NE h ∧ g (EI h r) = EI h j ∧ τ r / c = j ∧ CAN h j r
def DGV (h : aH) (v : Nat) : Nat := if v = 12 then 8 else IX h v
theorem EI_12 {h : aH} (P : PI h) {j : Nat} (hj : j < NE h) : EI h j ≠ 12 := by
  have hz := P.1.1
  unfold okSz at hz
  have := (EI_first P hj).1
  unfold NSL at this
  omega
theorem SDS.sum {h : aH} (P : PI h) {c : Nat} {g τ : Nat → Nat} (S : SDS h c g τ) : ∀ k, k ≤ NE h → smI (fun r => PRC h c r (τ r)) k = 43046721 * (smI (fun r => if g (EI h r) = 12 then 0 else WSL h (g (EI h r)) (EI h r)) k - 153 * smI (fun r => if g (EI h r) = 12 then 0 else 1) k) + smI (fun r => ((DGV h (g (EI h r)) : Nat) : Int) * ((9 ^ (7 - r) : Nat) : Int)) k
  | 0, _ => by simp [smI]
  | k + 1, hk => by
    have ih := S.sum P k (by omega)
    unfold smI
    rw [ih]
    rcases S k (by omega) with ⟨a, b⟩ | ⟨j, j1, j2, j3, j4⟩
    · rw [PRC_no b, a]
      simp only [DGV, if_pos]
      omega
    · rw [PRC_can (by omega) (by rw [j3]; exact j4), j2, j3]
      have e := EI_12 P j1
      unfold DGV
      simp only [if_neg e]
      rw [WSL_EI, (EI_first P j1).2.2]
      omega
theorem DGV_le {h : aH} {v : Nat} (e : v = 12 ∨ FIRST h v) : DGV h v ≤ 8 := by
  unfold DGV
  split
  · exact Nat.le_refl 8
  · rcases e with e | e
    · contradiction
    · have := e.2; unfold IX; omega
theorem SV.at {h : aH} {c : Nat} {g : Nat → Nat} (S : SV h c g) {x : Nat} (hx : x < NSL h) : g x = 12 ∨ FIRST h (g x) ∧ g x < NSL h := by
  rcases S.1 x hx with e | ⟨a, b⟩
  · exact Or.inl e
  · exact Or.inr ⟨b.2.1, a⟩
theorem SV.lt {h : aH} {c : Nat} {g : Nat → Nat} (S : SV h c g) {x : Nat} (hx : x < NSL h) (n : g x ≠ 12) : g x < NSL h := by
  rcases S.at hx with y | y
  · exact absurd y n
  · exact y.2
theorem SV.can {h : aH} {c : Nat} {g : Nat → Nat} (S : SV h c g) {x : Nat} (hx : x < NSL h) (n : g x ≠ 12) : CANS h (g x) x := by
  rcases S.1 x hx with y | y
  · exact absurd y n
  · exact y.2
theorem SV.out {h : aH} {c : Nat} {g : Nat → Nat} (S : SV h c g) {x : Nat} (hx : x < NSL h) (n : ¬ FIRST h x) : g x = 12 := by
  rcases S.1 x hx with e | ⟨a, b⟩
  · exact e
  · exact absurd b.2.2.1 n
theorem SV.sums {h : aH} (P : PI h) {c : Nat} {g : Nat → Nat} (S : SV h c g) : SMV g (NSL h) = smI (fun r => if g (EI h r) = 12 then 0 else 1) (NE h) ∧ SWV h g (NSL h) = smI (fun r => if g (EI h r) = 12 then 0 else WSL h (g (EI h r)) (EI h r)) (NE h) ∧ 0 ≤ SWV h g (NSL h) ∧ SWV h g (NSL h) ≤ 152 := by
  have n8 := NE_le h
  have e2 : SWV h g (NSL h) = smI (fun r => if g (EI h r) = 12 then 0 else WSL h (g (EI h r)) (EI h r)) (NE h) := EI_sum P (fun x hx n => if_pos (S.out hx n))
  have rg : ∀ r, r < NE h → 0 ≤ (if g (EI h r) = 12 then 0 else WSL h (g (EI h r)) (EI h r)) ∧ (if g (EI h r) = 12 then 0 else WSL h (g (EI h r)) (EI h r)) ≤ 19 := by
    intro r hr
    obtain ⟨a, b, -⟩ := EI_first P hr
    by_cases e : g (EI h r) = 12
    · rw [if_pos e]; decide
    · rw [if_neg e]
      have l := S.lt a e
      have := WSL_rg P (s := g (EI h r)) (x := EI h r) (by unfold NSL at l; omega) (by unfold NSL at a; omega)
      omega
  refine ⟨EI_sum P (fun x hx n => if_pos (S.out hx n)), e2, ?_, ?_⟩
  · rw [e2]; exact smI_pos (fun i hi => (rg i hi).1)
  · rw [e2]
    have := smI_hi (v := 19) (fun i hi => (rg i hi).2)
    omega
theorem DGV_inj {h : aH} {v w : Nat} (hv : v = 12 ∨ FIRST h v ∧ v < NSL h) (hw : w = 12 ∨ FIRST h w ∧ w < NSL h) (e : DGV h v = DGV h w) : v = w := by
  unfold DGV at e
  rcases hv with rfl | ⟨a, b⟩
  · rcases hw with rfl | ⟨c, d⟩
    · rfl
    · by_cases q : w = 12
      · exact q.symm
      · rw [if_pos rfl, if_neg q] at e
        have := c.2; unfold IX at e; omega
  · rcases hw with rfl | ⟨c, d⟩
    · by_cases q : v = 12
      · exact q
      · rw [if_pos rfl, if_neg q] at e
        have := a.2; unfold IX at e; omega
    · by_cases q : v = 12
      · by_cases q' : w = 12
        · omega
        · rw [if_pos q, if_neg q'] at e
          have := c.2; unfold IX at e; omega
      · by_cases q' : w = 12
        · rw [if_neg q, if_pos q'] at e
          have := a.2; unfold IX at e; omega
        · rw [if_neg q, if_neg q'] at e
          have x1 := (FIRST_ix b a).2
          have x2 := (FIRST_ix d c).2
          rw [← x1, ← x2, e]
theorem DGV_lt {h : aH} (P : PI h) {v w : Nat} (hv : v = 12 ∨ FIRST h v ∧ v < NSL h) (hw : w = 12 ∨ FIRST h w ∧ w < NSL h) (e : DGV h v < DGV h w) : v < w := by
  have hz := P.1.1
  unfold okSz at hz
  have n12 : NSL h ≤ 12 := by unfold NSL; omega
  have l8 := DGV_le (h := h) (v := w) (hw.imp_right (·.1))
  have hv2 : FIRST h v ∧ v < NSL h := by
    rcases hv with rfl | y
    · exfalso
      have : DGV h 12 = 8 := rfl
      omega
    · exact y
  rcases hw with rfl | ⟨c, d⟩
  · omega
  · unfold DGV at e
    rw [if_neg (by omega), if_neg (by omega)] at e
    obtain ⟨x1, x2⟩ := FIRST_ix hv2.2 hv2.1
    obtain ⟨y1, y2⟩ := FIRST_ix d c
    rw [← x2, ← y2]
    exact (EI_lt P x1 y1).mp e
/-- how digits stand to each other, so sleepers do -/
theorem LXL_of {h : aH} (P : PI h) {c c' : Nat} {f g : Nat → Nat} (F : SV h c f) (G : SV h c' g) (l : hor (fun r => DGV h (f (EI h r))) (NE h) ≤ hor (fun r => DGV h (g (EI h r))) (NE h)) : LXL f g (NSL h) := by
  have d8 : ∀ i, i < NE h → (fun r => DGV h (g (EI h r))) i ≤ 8 := fun i hi => DGV_le ((G.at (EI_first P hi).1).imp_right (·.1))
  have eqs : ∀ x, x < NSL h → (FIRST h x → DGV h (f x) = DGV h (g x)) → f x = g x := by
    intro x hx e
    by_cases y : FIRST h x
    · exact DGV_inj (F.at hx) (G.at hx) (e y)
    · rw [F.out hx y, G.out hx y]
  rcases hor_lex (a := fun r => DGV h (f (EI h r))) d8 l with y | ⟨r, r1, r2, r3⟩
  · refine Or.inl (fun x hx => eqs x hx (fun z => ?_))
    obtain ⟨a, b⟩ := FIRST_ix hx z
    have := y _ a
    rw [b] at this
    exact this
  · have e := (EI_first P r1).1
    refine Or.inr ⟨EI h r, e, fun x hx => eqs x (by omega) (fun z => ?_), DGV_lt P (F.at e) (G.at e) r3⟩
    obtain ⟨a, b⟩ := FIRST_ix (by omega) z
    have := r2 _ ((EI_lt P a r1).mpr (by rw [b]; exact hx))
    rw [b] at this
    exact this
/-- what the seats say -/
def fOf (h : aH) (c : Nat) (σ : Nat → Nat) (x : Nat) : Nat := if (h 23 x ≠ -2 ∧ IX h x < 8) ∧ σ (IX h x) / c < NE h then EI h (σ (IX h x) / c) else 12
theorem fOf_EI {h : aH} (P : PI h) {c : Nat} {σ : Nat → Nat} {r : Nat} (hr : r < NE h) : fOf h c σ (EI h r) = if σ r / c < NE h then EI h (σ r / c) else 12 := by
  obtain ⟨a, b, d⟩ := EI_first P hr
  unfold fOf
  rw [d]
  by_cases y : σ r / c < NE h
  · rw [if_pos y, if_pos ⟨⟨b.1, by have := NE_le h; omega⟩, y⟩]
  · rw [if_neg y, if_neg (fun z => y z.2)]
theorem fOf_out {h : aH} {c : Nat} {σ : Nat → Nat} {x : Nat} (n : ¬ FIRST h x) : fOf h c σ x = 12 := if_neg (fun z => n z.1)
