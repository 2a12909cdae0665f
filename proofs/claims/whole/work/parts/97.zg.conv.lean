/-! SHAKES: going round often enough -/
/-- from b on to those below m nothing is nearer -/
def RLX (h : aH) (k : Nat) (M : Nat → Nat) (far : Nat → Int) (b m : Nat) : Prop := ∀ o, k ≤ o → o < m → o < NSL h → o ≠ b → M o ≠ 12 → CANS h (M o) b → far b ≠ 100000 → far o ≤ far b + WSL h (M o) b - WSL h (M o) o
def DNE (h : aH) (k : Nat) (M : Nat → Nat) (far : Nat → Int) : Prop := ∀ b, k ≤ b → b < NSL h → RLX h k M far b (NSL h)
/-- r of them are done for good -/
def CVI (h : aH) (k : Nat) (M : Nat → Nat) (al far : Nat → Int) (r : Nat) : Prop := DNE h k M far ∨ ∃ σ : Nat → Nat, (∀ i, i < r → k ≤ σ i ∧ σ i < NSL h ∧ far (σ i) ≠ 100000 ∧ RLX h k M far (σ i) (NSL h)) ∧ (∀ i j, i < r → j < r → σ i = σ j → i = j) ∧ ∀ i v, i < r → k ≤ v → v < NSL h → far v ≠ 100000 → (∀ j, j < r → σ j ≠ v) → far (σ i) + al (σ i) ≤ far v + al v
/-- within a round: at b, o; the next one to be done is u -/
def CVR (h : aH) (k : Nat) (M : Nat → Nat) (al far : Nat → Int) (r b o : Nat) : Prop := DNE h k M far ∨ ∃ (σ : Nat → Nat) (u : Nat), (∀ i, i < r → k ≤ σ i ∧ σ i < NSL h ∧ far (σ i) ≠ 100000 ∧ RLX h k M far (σ i) (NSL h)) ∧ (∀ i j, i < r → j < r → σ i = σ j → i = j) ∧ (∀ i, i < r → far (σ i) + al (σ i) ≤ far u + al u) ∧
  (k ≤ u ∧ u < NSL h ∧ far u ≠ 100000 ∧ ∀ j, j < r → σ j ≠ u) ∧ (∀ v, k ≤ v → v < NSL h → far v ≠ 100000 → (∀ j, j < r → σ j ≠ v) → far u + al u ≤ far v + al v) ∧ (u < b → RLX h k M far u (NSL h)) ∧ (u = b → RLX h k M far u o)
theorem argmin {p : Nat → Prop} {f : Nat → Int} : ∀ n, (∃ x, x < n ∧ p x) → ∃ x, x < n ∧ p x ∧ ∀ y, y < n → p y → f x ≤ f y
  | 0, ⟨x, hx, _⟩ => absurd hx (Nat.not_lt_zero x)
  | n + 1, ⟨x, hx, px⟩ => by
    rcases Classical.em (∃ x, x < n ∧ p x) with e | e
    · obtain ⟨y, y1, y2, y3⟩ := argmin (f := f) n e
      rcases Classical.em (p n ∧ f n < f y) with q | q
      · refine ⟨n, Nat.lt_succ_self n, q.1, fun z hz pz => ?_⟩
        by_cases t : z = n
        · rw [t]; exact Int.le_refl _
        · have a := y3 z (by omega) pz
          exact Int.le_trans (Int.le_of_lt q.2) a
      · refine ⟨y, by omega, y2, fun z hz pz => ?_⟩
        by_cases t : z = n
        · subst t
          rcases Int.lt_or_le (f z) (f y) with w | w
          · exact absurd ⟨pz, w⟩ q
          · exact w
        · exact y3 z (by omega) pz
    · have : x = n := by
        rcases Nat.lt_or_ge x n with w | w
        · exact absurd ⟨x, w, px⟩ e
        · clear e; omega
      subst this
      refine ⟨x, hx, px, fun z hz pz => ?_⟩
      by_cases t : z = x
      · rw [t]; exact Int.le_refl _
      · exact absurd ⟨z, by clear e; omega, pz⟩ e
theorem CVR.start {h : aH} {k : Nat} {M : Nat → Nat} {al far : Nat → Int} {r : Nat} (I : CVI h k M al far r) : CVR h k M al far r k k := by
  rcases I with I | ⟨σ, a, b, c⟩
  · exact Or.inl I
  · rcases Classical.em (∃ u, u < NSL h ∧ (k ≤ u ∧ far u ≠ 100000 ∧ ∀ j, j < r → σ j ≠ u)) with e | e
    · obtain ⟨u, u1, ⟨u2, u3, u4⟩, u5⟩ := argmin (f := fun x => far x + al x) (NSL h) e
      clear e
      refine Or.inr ⟨σ, u, a, b, fun i hi => c i u hi u2 u1 u3 u4, ⟨u2, u1, u3, u4⟩, fun v v1 v2 v3 v4 => u5 v v2 ⟨v1, v3, v4⟩, fun l => by omega, fun q o o1 o2 => by omega⟩
    · refine Or.inl (fun x x1 x2 o o1 o2 o3 o4 o5 o6 o7 => ?_)
      rcases Classical.em (∃ j, j < r ∧ σ j = x) with ⟨j, j1, j2⟩ | q
      · have := (a j j1).2.2.2
        rw [j2] at this
        exact this o o1 o2 o3 o4 o5 o6 o7
      · exact absurd ⟨x, x2, x1, o7, fun j hj z => q ⟨j, hj, z⟩⟩ e
theorem CVR.done {h : aH} {k : Nat} {M : Nat → Nat} {al far : Nat → Int} {r b o : Nat} (I : CVR h k M al far r b o) (hb : NSL h ≤ b) : CVI h k M al far (r + 1) := by
  rcases I with I | ⟨σ, u, a, b1, c, d, e, f, g⟩
  · exact Or.inl I
  · have ru := f (by omega)
    refine Or.inr ⟨fun i => if i = r then u else σ i, fun i hi => ?_, fun i j hi hj z => ?_, fun i v hi v1 v2 v3 v4 => ?_⟩
    · dsimp only
      by_cases q : i = r
      · rw [if_pos q]; exact ⟨d.1, d.2.1, d.2.2.1, ru⟩
      · rw [if_neg q]; exact a i (by omega)
    · dsimp only at z
      by_cases q : i = r
      · rw [if_pos q] at z
        by_cases q' : j = r
        · omega
        · rw [if_neg q'] at z
          exact absurd z.symm (d.2.2.2 j (by omega))
      · rw [if_neg q] at z
        by_cases q' : j = r
        · rw [if_pos q'] at z
          exact absurd z (d.2.2.2 i (by omega))
        · rw [if_neg q'] at z
          exact b1 i j (by omega) (by omega) z
    · have vo : ∀ j, j < r → σ j ≠ v := fun j hj => by
        have := v4 j (by omega)
        exact fun z => this ((if_neg (show ¬ j = r by omega)).trans z)
      have l := e v v1 v2 v3 vo
      dsimp only
      by_cases q : i = r
      · rw [if_pos q]; exact l
      · rw [if_neg q]
        have := c i (by omega)
        omega
/-- to the next b -/
theorem CVR.nextB {h : aH} {k : Nat} {M : Nat → Nat} {al far : Nat → Int} {r b : Nat} (I : CVR h k M al far r b (NSL h) ∨ far b = 100000 ∧ CVR h k M al far r b k) : CVR h k M al far r (b + 1) k := by
  rcases I with I | ⟨fb, I⟩
  · rcases I with I | ⟨σ, u, a, b1, c, d, e, f, g⟩
    · exact Or.inl I
    · refine Or.inr ⟨σ, u, a, b1, c, d, e, fun l => ?_, fun q o o1 o2 => by omega⟩
      by_cases q : u = b
      · exact g q
      · exact f (by omega)
  · rcases I with I | ⟨σ, u, a, b1, c, d, e, f, g⟩
    · exact Or.inl I
    · refine Or.inr ⟨σ, u, a, b1, c, d, e, fun l => ?_, fun q o o1 o2 => by omega⟩
      by_cases q : u = b
      · rw [q] at d; exact absurd fb d.2.2.1
      · exact f (by omega)
/-- an o from which nothing comes -/
theorem CVR.skip {h : aH} {k : Nat} {M : Nat → Nat} {al far : Nat → Int} {r b o : Nat} (I : CVR h k M al far r b o) (n : o ≠ b → M o ≠ 12 → CANS h (M o) b → far o ≤ far b + WSL h (M o) b - WSL h (M o) o) : CVR h k M al far r b (o + 1) := by
  rcases I with I | ⟨σ, u, a, b1, c, d, e, f, g⟩
  · exact Or.inl I
  · refine Or.inr ⟨σ, u, a, b1, c, d, e, f, fun q x x1 x2 x3 x4 x5 x6 x7 => ?_⟩
    by_cases z : x = o
    · subst z
      subst q
      exact n x4 x5 x6
    · exact g q x x1 (by omega) x3 x4 x5 x6 x7
theorem CVR.relax {h : aH} {k c : Nat} {M : Nat → Nat} {lam : Int} {al be far : Nat → Int} {r b o : Nat} (D : DUA h k c M lam al be) (V : SV h c M) (I : CVR h k M al far r b o) (b1 : k ≤ b) (b2 : b < NSL h) (o1 : k ≤ o) (o2 : o < NSL h) (ne : o ≠ b) (fb : far b ≠ 100000) (m : M o ≠ 12) (cn : CANS h (M o) b) (less : far b + WSL h (M o) b - WSL h (M o) o < far o) (fin : far b + WSL h (M o) b - WSL h (M o) o ≠ 100000) :
    CVR h k M al (fun x => if x = o then far b + WSL h (M o) b - WSL h (M o) o else far x) r b (o + 1) := by
  have ed := D.edge V b1 b2 o1 o2 m cn
  rcases I with I | ⟨σ, u, a, b1', c', d, e, f, g⟩
  · have := I b b1 b2 o o1 o2 o2 ne m cn fb
    omega
  · have bo : ∀ j, j < r → σ j ≠ b := by
      intro j hj q
      have := (a j hj).2.2.2
      rw [q] at this
      have := this o o1 o2 o2 ne m cn fb
      omega
    have ub := e b b1 b2 fb bo
    have ou : u ≠ o := by intro q; subst q; omega
    have os : ∀ j, j < r → σ j ≠ o := by
      intro j hj q
      have := c' j hj
      rw [q] at this
      omega
    have rl : ∀ x m', x ≠ o → RLX h k M far x m' → RLX h k M (fun x => if x = o then far b + WSL h (M o) b - WSL h (M o) o else far x) x m' := by
      intro x m' xo R y y1 y2 y3 y4 y5 y6 y7
      dsimp only at y7 ⊢
      rw [if_neg xo] at y7 ⊢
      have := R y y1 y2 y3 y4 y5 y6 y7
      by_cases z : y = o
      · rw [if_pos z]; subst z; omega
      · rw [if_neg z]; exact this
    refine Or.inr ⟨σ, u, fun i hi => ?_, b1', fun i hi => ?_, ?_, fun v v1 v2 v3 v4 => ?_, fun l => rl u _ ou (f l), fun q x x1 x2 x3 x4 x5 x6 x7 => ?_⟩
    · obtain ⟨s1, s2, s3, s4⟩ := a i hi
      exact ⟨s1, s2, by dsimp only; rw [if_neg (os i hi)]; exact s3, rl _ _ (os i hi) s4⟩
    · dsimp only
      rw [if_neg (os i hi), if_neg ou]; exact c' i hi
    · exact ⟨d.1, d.2.1, by dsimp only; rw [if_neg ou]; exact d.2.2.1, d.2.2.2⟩
    · dsimp only at v3 ⊢
      rw [if_neg ou]
      by_cases z : v = o
      · subst z
        rw [if_pos rfl]; omega
      · rw [if_neg z] at v3 ⊢
        exact e v v1 v2 v3 v4
    · by_cases z : x = o
      · subst z
        subst q
        dsimp only
        rw [if_pos rfl, if_neg (fun z => x4 z.symm)]
        exact Int.le_refl _
      · exact rl u o ou (g q) x x1 (by omega) x3 x4 x5 x6 x7
/-- behind as many rounds as there are sleepers all is done -/
theorem CVI.all {h : aH} {k : Nat} {M : Nat → Nat} {al far : Nat → Int} (I : CVI h k M al far (NSL h)) : DNE h k M far := by
  rcases I with I | ⟨σ, a, b, c⟩
  · exact I
  · intro x x1 x2
    obtain ⟨i, i1, i2⟩ := prm_surj (n := NSL h) (f := σ) ⟨fun i hi => (a i hi).2.1, b⟩ x x2
    have := (a i i1).2.2.2
    rw [i2] at this
    exact this
theorem CVI.zero (h : aH) (k : Nat) (M : Nat → Nat) (al far : Nat → Int) : CVI h k M al far 0 := Or.inr ⟨fun _ => 0, fun i hi => absurd hi (Nat.not_lt_zero i), fun i j hi => absurd hi (Nat.not_lt_zero i), fun i v hi => absurd hi (Nat.not_lt_zero i)⟩
