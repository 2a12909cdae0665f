/-! TWICE: all ways to choose up to three of w + 1 -/
def lp {α : Type} (u : Nat → α → α) : Nat → Nat → α → α
  | 0, _, x => x
  | d + 1, k, x => lp u d (k + 1) (u k x)
theorem lp_inv {α : Type} {u : Nat → α → α} {I : α → Prop} (hu : ∀ k x, I x → I (u k x)) : ∀ d k x, I x → I (lp u d k x)
  | 0, _, _, h => h
  | d + 1, k, x, h => lp_inv hu d (k + 1) (u k x) (hu k x h)
def c0F (k w b : Nat) : Nat := if 2 < k then b + 1 else w
def b0F (k w a : Nat) : Nat := if 1 < k then a + 1 else w
def E3F {α : Type} (u : Nat → Nat → Nat → α → α) (w a b c : Nat) (x : α) : α := lp (u a b) (w + 1 - c) c x
def E2F {α : Type} (u : Nat → Nat → Nat → α → α) (k w a b : Nat) (x : α) : α := lp (fun b x => E3F u w a b (c0F k w b) x) (w + 1 - b) b x
def E1F {α : Type} (u : Nat → Nat → Nat → α → α) (k w a : Nat) (x : α) : α := lp (fun a x => E2F u k w a (b0F k w a) x) (w + 1 - a) a x
/-- from one choice on -/
def RF {α : Type} (u : Nat → Nat → Nat → α → α) (k w : Nat) (t : Nat × Nat × Nat) (x : α) : α := E1F u k w (t.1 + 1) (E2F u k w t.1 (t.2.1 + 1) (E3F u w t.1 t.2.1 t.2.2 x))
theorem E3_c {α : Type} {u : Nat → Nat → Nat → α → α} {w a b c : Nat} {x : α} (h : c ≤ w) : E3F u w a b c x = E3F u w a b (c + 1) (u a b c x) := by
  unfold E3F
  rw [show w + 1 - c = (w + 1 - (c + 1)) + 1 by omega]
  rfl
theorem E3_e {α : Type} {u : Nat → Nat → Nat → α → α} {w a b c : Nat} {x : α} (h : w < c) : E3F u w a b c x = x := by
  unfold E3F
  rw [show w + 1 - c = 0 by omega]
  rfl
theorem E2_c {α : Type} {u : Nat → Nat → Nat → α → α} {k w a b : Nat} {x : α} (h : b ≤ w) : E2F u k w a b x = E2F u k w a (b + 1) (E3F u w a b (c0F k w b) x) := by
  unfold E2F
  rw [show w + 1 - b = (w + 1 - (b + 1)) + 1 by omega]
  rfl
theorem E2_e {α : Type} {u : Nat → Nat → Nat → α → α} {k w a b : Nat} {x : α} (h : w < b) : E2F u k w a b x = x := by
  unfold E2F
  rw [show w + 1 - b = 0 by omega]
  rfl
theorem E1_c {α : Type} {u : Nat → Nat → Nat → α → α} {k w a : Nat} {x : α} (h : a ≤ w) : E1F u k w a x = E1F u k w (a + 1) (E2F u k w a (b0F k w a) x) := by
  unfold E1F
  rw [show w + 1 - a = (w + 1 - (a + 1)) + 1 by omega]
  rfl
theorem E1_e {α : Type} {u : Nat → Nat → Nat → α → α} {k w a : Nat} {x : α} (h : w < a) : E1F u k w a x = x := by
  unfold E1F
  rw [show w + 1 - a = 0 by omega]
  rfl
/-- a choice -/
def VTF (k w : Nat) (t : Nat × Nat × Nat) : Prop := (k = 1 ∧ t.1 ≤ w ∧ t.2.1 = w ∧ t.2.2 = w) ∨ (k = 2 ∧ t.1 < t.2.1 ∧ t.2.1 ≤ w ∧ t.2.2 = w) ∨ (k = 3 ∧ t.1 < t.2.1 ∧ t.2.1 < t.2.2 ∧ t.2.2 ≤ w)
/-- the next one -/
def NXF (k w : Nat) (t : Nat × Nat × Nat) : Option (Nat × Nat × Nat) :=
  if k = 1 then (if t.1 < w then some (t.1 + 1, w, w) else none)
  else if k = 2 then (if t.2.1 < w then some (t.1, t.2.1 + 1, w) else if t.1 + 1 < w then some (t.1 + 1, t.1 + 2, w) else none)
  else (if t.2.2 < w then some (t.1, t.2.1, t.2.2 + 1) else if t.2.1 + 1 < w then some (t.1, t.2.1 + 1, t.2.1 + 2) else if t.1 + 2 < w then some (t.1 + 1, t.1 + 2, t.1 + 3) else none)
theorem RF_some {α : Type} {u : Nat → Nat → Nat → α → α} {k w : Nat} {t t' : Nat × Nat × Nat} {x : α} (v : VTF k w t) (e : NXF k w t = some t') : VTF k w t' ∧ RF u k w t x = RF u k w t' (u t.1 t.2.1 t.2.2 x) := by
  obtain ⟨a, b, c⟩ := t
  unfold NXF at e
  dsimp only at e
  rcases v with ⟨rfl, v1, v2, v3⟩ | ⟨rfl, v1, v2, v3⟩ | ⟨rfl, v1, v2, v3⟩
  · dsimp only at v1 v2 v3
    subst v2 v3
    rw [if_pos rfl] at e
    by_cases q : a < c
    · rw [if_pos q] at e
      have e := Option.some.inj e
      subst e
      refine ⟨Or.inl ⟨rfl, by dsimp only; omega, rfl, rfl⟩, ?_⟩
      unfold RF
      dsimp only
      rw [E3_c (Nat.le_refl _), E3_e (by omega), E2_e (by omega), E1_c (by omega), E2_c (show b0F 1 c (a + 1) ≤ c from Nat.le_refl _)]
      rfl
    · rw [if_neg q] at e; cases e
  · dsimp only at v1 v2 v3
    subst v3
    rw [if_neg (by omega), if_pos rfl] at e
    by_cases q : b < c
    · rw [if_pos q] at e
      have e := Option.some.inj e
      subst e
      refine ⟨Or.inr (Or.inl ⟨rfl, by dsimp only; omega, by dsimp only; omega, rfl⟩), ?_⟩
      unfold RF
      dsimp only
      rw [E3_c (Nat.le_refl _), E3_e (show c < c + 1 by omega), E2_c (show b + 1 ≤ c by omega)]
      rfl
    · rw [if_neg q] at e
      by_cases q2 : a + 1 < c
      · rw [if_pos q2] at e
        have e := Option.some.inj e
        subst e
        refine ⟨Or.inr (Or.inl ⟨rfl, by dsimp only; omega, by dsimp only; omega, rfl⟩), ?_⟩
        unfold RF
        dsimp only
        rw [E3_c (Nat.le_refl _), E3_e (show c < c + 1 by omega), E2_e (show c < b + 1 by omega), E1_c (show a + 1 ≤ c by omega), E2_c (show b0F 2 c (a + 1) ≤ c from (show a + 2 ≤ c by omega))]
        rfl
      · rw [if_neg q2] at e; cases e
  · dsimp only at v1 v2 v3
    rw [if_neg (by omega), if_neg (by omega)] at e
    by_cases q : c < w
    · rw [if_pos q] at e
      have e := Option.some.inj e
      subst e
      refine ⟨Or.inr (Or.inr ⟨rfl, by dsimp only; omega, by dsimp only; omega, by dsimp only; omega⟩), ?_⟩
      unfold RF
      dsimp only
      rw [E3_c v3]
    · have : c = w := by omega
      subst this
      rw [if_neg q] at e
      by_cases q2 : b + 1 < c
      · rw [if_pos q2] at e
        have e := Option.some.inj e
        subst e
        refine ⟨Or.inr (Or.inr ⟨rfl, by dsimp only; omega, by dsimp only; omega, by dsimp only; omega⟩), ?_⟩
        unfold RF
        dsimp only
        rw [E3_c (Nat.le_refl _), E3_e (show c < c + 1 by omega), E2_c (show b + 1 ≤ c by omega)]
        rfl
      · rw [if_neg q2] at e
        have : b + 1 = c := by omega
        by_cases q3 : a + 2 < c
        · rw [if_pos q3] at e
          have e := Option.some.inj e
          subst e
          refine ⟨Or.inr (Or.inr ⟨rfl, by dsimp only; omega, by dsimp only; omega, by dsimp only; omega⟩), ?_⟩
          unfold RF
          dsimp only
          rw [E3_c (Nat.le_refl _), E3_e (show c < c + 1 by omega), E2_c (show b + 1 ≤ c by omega), E3_e (show c < c0F 3 c (b + 1) from (show c < b + 2 by omega)), E2_e (show c < b + 1 + 1 by omega), E1_c (show a + 1 ≤ c by omega), E2_c (show b0F 3 c (a + 1) ≤ c from (show a + 2 ≤ c by omega))]
          rfl
        · rw [if_neg q3] at e; cases e
theorem RF_none {α : Type} {u : Nat → Nat → Nat → α → α} {k w : Nat} {t : Nat × Nat × Nat} {x : α} (v : VTF k w t) (e : NXF k w t = none) : RF u k w t x = u t.1 t.2.1 t.2.2 x := by
  obtain ⟨a, b, c⟩ := t
  unfold NXF at e
  dsimp only at e
  rcases v with ⟨rfl, v1, v2, v3⟩ | ⟨rfl, v1, v2, v3⟩ | ⟨rfl, v1, v2, v3⟩
  · dsimp only at v1 v2 v3
    subst v2 v3
    rw [if_pos rfl] at e
    by_cases q : a < c
    · rw [if_pos q] at e; cases e
    · have : a = c := by omega
      subst this
      unfold RF
      dsimp only
      rw [E3_c (Nat.le_refl _), E3_e (by omega), E2_e (by omega), E1_e (by omega)]
  · dsimp only at v1 v2 v3
    subst v3
    rw [if_neg (by omega), if_pos rfl] at e
    by_cases q : b < c
    · rw [if_pos q] at e; cases e
    · rw [if_neg q] at e
      by_cases q2 : a + 1 < c
      · rw [if_pos q2] at e; cases e
      · have : a + 1 = c := by omega
        unfold RF
        dsimp only
        rw [E3_c (Nat.le_refl _), E3_e (show c < c + 1 by omega), E2_e (show c < b + 1 by omega), E1_c (show a + 1 ≤ c by omega), E2_e (show c < b0F 2 c (a + 1) from (show c < a + 2 by omega)), E1_e (show c < a + 1 + 1 by omega)]
  · dsimp only at v1 v2 v3
    rw [if_neg (by omega), if_neg (by omega)] at e
    by_cases q : c < w
    · rw [if_pos q] at e; cases e
    · have : c = w := by omega
      subst this
      rw [if_neg q] at e
      by_cases q2 : b + 1 < c
      · rw [if_pos q2] at e; cases e
      · rw [if_neg q2] at e
        by_cases q3 : a + 2 < c
        · rw [if_pos q3] at e; cases e
        · have : b + 1 = c := by omega
          have : a + 2 = c := by omega
          unfold RF
          dsimp only
          rw [E3_c (Nat.le_refl _), E3_e (show c < c + 1 by omega), E2_c (show b + 1 ≤ c by omega), E3_e (show c < c0F 3 c (b + 1) from (show c < b + 2 by omega)), E2_e (show c < b + 1 + 1 by omega), E1_c (show a + 1 ≤ c by omega), E2_c (show b0F 3 c (a + 1) ≤ c from (show a + 2 ≤ c by omega)), E3_e (show c < c0F 3 c (b0F 3 c (a + 1)) from (show c < a + 3 by omega)), E2_e (show c < b0F 3 c (a + 1) + 1 from (show c < a + 3 by omega)), E1_c (show a + 1 + 1 ≤ c by omega), E2_e (show c < b0F 3 c (a + 1 + 1) from (show c < a + 3 by omega)), E1_e (show c < a + 1 + 1 + 1 by omega)]
/-- the first choice -/
def IN0 (k w : Nat) : Nat × Nat × Nat := (0, b0F k w 0, c0F k w (b0F k w 0))
theorem IN0_ok {k w : Nat} (h1 : 1 ≤ k) (h3 : k ≤ 3) (hw : k ≤ w + 1) : VTF k w (IN0 k w) := by
  have : k = 1 ∨ k = 2 ∨ k = 3 := by omega
  rcases this with rfl | rfl | rfl
  · exact Or.inl ⟨rfl, Nat.zero_le _, rfl, rfl⟩
  · exact Or.inr (Or.inl ⟨rfl, (show 0 < 1 by decide), (show 1 ≤ w by omega), rfl⟩)
  · exact Or.inr (Or.inr ⟨rfl, (show 0 < 1 by decide), (show 1 < 2 by decide), (show 2 ≤ w by omega)⟩)
theorem RF_all {α : Type} {u : Nat → Nat → Nat → α → α} {k w : Nat} {x : α} (h1 : 1 ≤ k) (h3 : k ≤ 3) (hw : k ≤ w + 1) : E1F u k w 0 x = RF u k w (IN0 k w) x := by
  have hb : b0F k w 0 ≤ w := by unfold b0F; split <;> omega
  rw [E1_c (Nat.zero_le _), E2_c hb]
  rfl
theorem RF_inv {α : Type} {u : Nat → Nat → Nat → α → α} {k w : Nat} {I : α → Prop} (hu : ∀ a b c x, I x → I (u a b c x)) (t : Nat × Nat × Nat) (x : α) (h : I x) : I (RF u k w t x) := by
  have h3 : ∀ a b c x, I x → I (E3F u w a b c x) := fun a b c x hx => lp_inv (fun c x hx => hu a b c x hx) _ _ _ hx
  have h2 : ∀ a b x, I x → I (E2F u k w a b x) := fun a b x hx => lp_inv (fun b x hx => h3 a b _ x hx) _ _ _ hx
  have h1 : ∀ a x, I x → I (E1F u k w a x) := fun a x hx => lp_inv (fun a x hx => h2 a _ x hx) _ _ _ hx
  exact h1 _ _ (h2 _ _ _ (h3 _ _ _ _ h))
def cnF (_ _ _ : Nat) (n : Nat) : Nat := n + 1
theorem RF_cnt : (List.range 31).all (fun w => (List.range 4).all (fun k => decide (E1F cnF k w 0 0 ≤ 4999))) = true := by decide +kernel
theorem RF_gt {k w : Nat} {t : Nat × Nat × Nat} {n : Nat} (v : VTF k w t) : n < RF cnF k w t n := by
  cases e : NXF k w t with
  | none => rw [RF_none v e]; exact Nat.lt_succ_self n
  | some t' =>
    rw [(RF_some (u := cnF) (x := n) v e).2]
    exact RF_inv (I := fun x => n < x) (fun _ _ _ x h => Nat.lt_succ_of_lt h) t' _ (Nat.lt_succ_self n)
