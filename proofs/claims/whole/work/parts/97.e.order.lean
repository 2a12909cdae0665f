/-! THE ROUND: orders -/
def PERM (n : Nat) (f : Nat → Nat) : Prop := (∀ i, i < n → f i < n) ∧ ∀ i j, i < n → j < n → f i = f j → i = j
theorem prm_surj : ∀ {n : Nat} {f : Nat → Nat}, PERM n f → ∀ v, v < n → ∃ i, i < n ∧ f i = v
  | 0, _, _, v, h => absurd h (Nat.not_lt_zero v)
  | n + 1, f, ⟨h1, h2⟩, v, hv => by
    have g : PERM n (fun i => if f i = n then f n else f i) := by
      refine ⟨fun i hi => ?_, fun i j hi hj e => ?_⟩
      · have a := h1 i (by omega)
        have b := h1 n (by omega)
        dsimp only
        by_cases c : f i = n
        · rw [if_pos c]
          have : f n ≠ n := fun z => absurd (h2 i n (by omega) (by omega) (c.trans z.symm)) (by omega)
          omega
        · rw [if_neg c]; omega
      · dsimp only at e
        by_cases c : f i = n <;> by_cases d : f j = n
        · exact h2 i j (by omega) (by omega) (c.trans d.symm)
        · rw [if_pos c, if_neg d] at e
          exact absurd (h2 n j (by omega) (by omega) e) (by omega)
        · rw [if_neg c, if_pos d] at e
          exact absurd (h2 i n (by omega) (by omega) e) (by omega)
        · rw [if_neg c, if_neg d] at e
          exact h2 i j (by omega) (by omega) e
    by_cases e : v = f n
    · exact ⟨n, by omega, e.symm⟩
    · by_cases e2 : v = n
      · have b := h1 n (by omega)
        obtain ⟨i, hi, q⟩ := prm_surj g (f n) (by omega)
        by_cases c : f i = n
        · exact ⟨i, by omega, by omega⟩
        · rw [if_neg c] at q
          exact absurd (h2 i n (by omega) (by omega) q) (by omega)
      · obtain ⟨i, hi, q⟩ := prm_surj g v (by omega)
        by_cases c : f i = n
        · rw [if_pos c] at q; exact absurd q.symm e
        · rw [if_neg c] at q; exact ⟨i, by omega, q⟩
/-- an order as a number -/
def cod (f : Nat → Nat) : Nat → Nat
  | 0 => 0
  | k + 1 => cod f k * 8 + f k
theorem cod_congr {f g : Nat → Nat} : ∀ {m : Nat}, (∀ j, j < m → f j = g j) → cod f m = cod g m
  | 0, _ => rfl
  | m + 1, h => by unfold cod; rw [cod_congr (fun j hj => h j (by omega)), h m (by omega)]
theorem cod_lt {f g : Nat → Nat} {k : Nat} (he : ∀ j, j < k → f j = g j) (hk : f k < g k) : ∀ {m : Nat}, k < m → (∀ j, j < m → f j < 8) → cod f m < cod g m
  | 0, h, _ => absurd h (Nat.not_lt_zero k)
  | m + 1, h, h8 => by
    unfold cod
    rcases Nat.eq_or_lt_of_le (Nat.le_of_lt_succ h) with e | e
    · subst e
      rw [cod_congr he]; omega
    · have := cod_lt he hk e (fun j hj => h8 j (by omega))
      have := h8 m (by omega)
      omega
theorem cod_inj {f g : Nat → Nat} : ∀ {m : Nat}, (∀ j, j < m → f j < 8 ∧ g j < 8) → cod f m = cod g m → ∀ j, j < m → f j = g j
  | 0, _, _, j, h => absurd h (Nat.not_lt_zero j)
  | m + 1, h8, e, j, hj => by
    unfold cod at e
    have := h8 m (by omega)
    rcases Nat.eq_or_lt_of_le (Nat.le_of_lt_succ hj) with q | q
    · rw [q]; omega
    · exact cod_inj (fun j hj => h8 j (by omega)) (by omega) j q
theorem cod_diff {f g : Nat → Nat} : ∀ {m : Nat}, (∀ j, j < m → f j < 8 ∧ g j < 8) → cod f m < cod g m → ∃ k, k < m ∧ (∀ j, j < k → f j = g j) ∧ f k < g k
  | 0, _, h => absurd h (Nat.lt_irrefl 0)
  | m + 1, h8, h => by
    unfold cod at h
    have := h8 m (by omega)
    by_cases c : cod f m < cod g m
    · obtain ⟨k, k1, k2, k3⟩ := cod_diff (fun j hj => h8 j (by omega)) c
      exact ⟨k, by omega, k2, k3⟩
    · have e : cod f m = cod g m := by omega
      exact ⟨m, by omega, cod_inj (fun j hj => h8 j (by omega)) e, by omega⟩
theorem cod_bd {f : Nat → Nat} : ∀ {m : Nat}, (∀ j, j < m → f j < 8) → cod f m < 8 ^ m
  | 0, _ => by show 0 < 1; decide
  | m + 1, h => by
    have := cod_bd (m := m) (fun j hj => h j (by omega))
    have := h m (by omega)
    unfold cod
    rw [Nat.pow_succ]
    omega
theorem dec_of {p : Nat → Nat} {a n : Nat} (h : ∀ k, a < k → k + 1 < n → p (k + 1) < p k) : ∀ (d x : Nat), a < x → x + (d + 1) < n → p (x + (d + 1)) < p x
  | 0, x, h1, h2 => h x h1 h2
  | d + 1, x, h1, h2 => by
    have a1 := dec_of h d x h1 (by omega)
    have a2 := h (x + (d + 1)) (by omega) (by omega)
    rw [show x + (d + 1 + 1) = x + (d + 1) + 1 by omega]
    omega
theorem dec_lt {p : Nat → Nat} {a n x y : Nat} (h : ∀ k, a < k → k + 1 < n → p (k + 1) < p k) (h1 : a < x) (h2 : x < y) (h3 : y < n) : p y < p x := by
  have := dec_of h (y - x - 1) x h1 (by omega)
  rw [show x + (y - x - 1 + 1) = y by omega] at this
  exact this
/-- two places changed -/
def swp (p : Nat → Nat) (i j : Nat) : Nat → Nat := fun x => if x = i then p j else if x = j then p i else p x
/-- the next order: two places changed, the rest turned round -/
def nxo (n : Nat) (p : Nat → Nat) (i j : Nat) : Nat → Nat := fun x => if x ≤ i then swp p i j x else if x < n then swp p i j (n + i - x) else p x
/-- where the next order changes -/
def NXC (n : Nat) (p : Nat → Nat) (i j : Nat) : Prop := i + 1 < n ∧ p i < p (i + 1) ∧ (∀ k, i < k → k + 1 < n → p (k + 1) < p k) ∧ i < j ∧ j < n ∧ p i < p j ∧ ∀ k, j < k → k < n → p k < p i
theorem swp_prm {n : Nat} {p : Nat → Nat} {i j : Nat} (P : PERM n p) (hi : i < n) (hj : j < n) (hij : i ≠ j) : PERM n (swp p i j) := by
  refine ⟨fun x hx => ?_, fun x y hx hy e => ?_⟩
  · unfold swp
    split
    · exact P.1 j hj
    · split
      · exact P.1 i hi
      · exact P.1 x hx
  · have q := P.2
    unfold swp at e
    by_cases a : x = i <;> by_cases b : y = i
    · omega
    · rw [if_pos a, if_neg b] at e
      by_cases c : y = j
      · rw [if_pos c] at e; have := q j i hj hi e; omega
      · rw [if_neg c] at e; have := q j y hj hy e; omega
    · rw [if_neg a, if_pos b] at e
      by_cases c : x = j
      · rw [if_pos c] at e; have := q i j hi hj e; omega
      · rw [if_neg c] at e; have := q x j hx hj e; omega
    · rw [if_neg a, if_neg b] at e
      by_cases c : x = j <;> by_cases d : y = j
      · omega
      · rw [if_pos c, if_neg d] at e; have := q i y hi hy e; omega
      · rw [if_neg c, if_pos d] at e; have := q x i hx hi e; omega
      · rw [if_neg c, if_neg d] at e; exact q x y hx hy e
theorem nxo_prm {n : Nat} {p : Nat → Nat} {i j : Nat} (P : PERM n p) (hi : i < n) (hj : j < n) (hij : i ≠ j) : PERM n (nxo n p i j) := by
  have S := swp_prm P hi hj hij
  refine ⟨fun x hx => ?_, fun x y hx hy e => ?_⟩
  · unfold nxo
    by_cases a : x ≤ i
    · rw [if_pos a]; exact S.1 x hx
    · rw [if_neg a, if_pos hx]; exact S.1 _ (by omega)
  · unfold nxo at e
    by_cases a : x ≤ i <;> by_cases b : y ≤ i
    · rw [if_pos a, if_pos b] at e; exact S.2 x y hx hy e
    · rw [if_pos a, if_neg b, if_pos hy] at e; have := S.2 _ _ hx (by omega) e; omega
    · rw [if_neg a, if_pos hx, if_pos b] at e; have := S.2 _ _ (by omega) hy e; omega
    · rw [if_neg a, if_pos hx, if_neg b, if_pos hy] at e; have := S.2 _ _ (by omega) (by omega) e; omega
theorem later_in {n : Nat} {p q : Nat → Nat} (P : PERM n p) (Q : PERM n q) {k x : Nat} (he : ∀ j, j < k → p j = q j) (hk : k ≤ x) (hx : x < n) : ∃ y, k ≤ y ∧ y < n ∧ p y = q x := by
  obtain ⟨y, hy, e⟩ := prm_surj P (q x) (Q.1 x hx)
  refine ⟨y, ?_, hy, e⟩
  refine Decidable.byContradiction fun z => ?_
  have : q y = q x := by rw [← he y (by omega)]; exact e
  have := Q.2 y x hy hx this
  omega
theorem next_ok {n : Nat} (n8 : n ≤ 8) {p : Nat → Nat} {i j : Nat} (P : PERM n p) (c : NXC n p i j) : cod p n < cod (nxo n p i j) n ∧ ∀ q, PERM n q → cod p n < cod q n → cod (nxo n p i j) n ≤ cod q n := by
  obtain ⟨c1, c2, c3, c4, c5, c6, c7⟩ := c
  have X := nxo_prm P (show i < n by omega) c5 (show i ≠ j by omega)
  have lo : ∀ x, x < i → nxo n p i j x = p x := fun x hx => by unfold nxo swp; rw [if_pos (by omega), if_neg (by omega), if_neg (by omega)]
  have at_ : nxo n p i j i = p j := by unfold nxo swp; rw [if_pos (Nat.le_refl i), if_pos rfl]
  have p8 : ∀ x, x < n → p x < 8 := fun x hx => by have := P.1 x hx; omega
  have x8 : ∀ x, x < n → nxo n p i j x < 8 := fun x hx => by have := X.1 x hx; omega
  -- behind the place it rises
  have up : ∀ x y, i < x → x < y → y < n → nxo n p i j x < nxo n p i j y := by
    intro x y h1 h2 h3
    unfold nxo
    rw [if_neg (by omega), if_pos (by omega), if_neg (by omega), if_pos (by omega)]
    have ux : i < n + i - x := by omega
    have uy : i < n + i - y := by omega
    have lt : n + i - y < n + i - x := by omega
    have lx : n + i - x < n := by omega
    generalize n + i - x = a at *
    generalize n + i - y = b at *
    unfold swp
    rw [if_neg (show ¬ a = i by omega), if_neg (show ¬ b = i by omega)]
    by_cases e1 : a = j
    · rw [if_pos e1, if_neg (show ¬ b = j by omega)]
      have := dec_lt c3 uy (show b < j by omega) c5
      omega
    · rw [if_neg e1]
      by_cases e2 : b = j
      · rw [if_pos e2]
        exact c7 a (by omega) lx
      · rw [if_neg e2]
        exact dec_lt c3 uy lt lx
  refine ⟨cod_lt (k := i) (fun x hx => (lo x hx).symm) (by rw [at_]; exact c6) (by omega) p8, fun q Q hq => ?_⟩
  have q8 : ∀ x, x < n → q x < 8 := fun x hx => by have := Q.1 x hx; omega
  obtain ⟨k, k1, k2, k3⟩ := cod_diff (fun x hx => ⟨p8 x hx, q8 x hx⟩) hq
  obtain ⟨y, y1, y2, y3⟩ := later_in P Q k2 (Nat.le_refl k) k1
  rcases Nat.lt_trichotomy k i with e | e | e
  · exact Nat.le_of_lt (cod_lt (k := k) (fun x hx => by rw [lo x (by omega)]; exact k2 x hx) (by rw [lo k e]; exact k3) k1 x8)
  · subst e
    have yk : k < y := by
      rcases Nat.eq_or_lt_of_le y1 with z | z
      · rw [← z] at y3; omega
      · exact z
    have yj : y ≤ j := by
      refine Decidable.byContradiction fun z => ?_
      have := c7 y (by omega) y2
      omega
    have ge : p j ≤ q k := by
      rw [← y3]
      rcases Nat.eq_or_lt_of_le yj with z | z
      · rw [z]; exact Nat.le_refl _
      · exact Nat.le_of_lt (dec_lt c3 yk z c5)
    rcases Nat.eq_or_lt_of_le ge with z | z
    · refine Nat.le_of_not_lt fun w => ?_
      have ag : ∀ x, x < k + 1 → nxo n p k j x = q x := fun x hx => by
        rcases Nat.eq_or_lt_of_le (Nat.le_of_lt_succ hx) with v | v
        · rw [v, at_]; exact z
        · rw [lo x v]; exact k2 x v
      obtain ⟨k', w1, w2, w3⟩ := cod_diff (fun x hx => ⟨q8 x hx, x8 x hx⟩) w
      have hk' : k < k' := by
        refine Decidable.byContradiction fun v => ?_
        have := ag k' (by omega)
        omega
      obtain ⟨y', u1, u2, u3⟩ := later_in X Q (fun x hx => (w2 x hx).symm) (Nat.le_refl k') w1
      rcases Nat.eq_or_lt_of_le u1 with v | v
      · rw [← v] at u3; omega
      · have := up k' y' hk' v u2
        omega
    · exact Nat.le_of_lt (cod_lt (k := k) (fun x hx => by rw [lo x hx]; exact k2 x hx) (by rw [at_]; exact z) k1 x8)
  · rcases Nat.eq_or_lt_of_le y1 with z | z
    · rw [← z] at y3; omega
    · have := dec_lt c3 e z y2
      omega
theorem last_ok {n : Nat} (n8 : n ≤ 8) {p : Nat → Nat} (P : PERM n p) (c : ∀ k, k + 1 < n → p (k + 1) < p k) (q : Nat → Nat) (Q : PERM n q) : cod q n ≤ cod p n := by
  refine Nat.le_of_not_lt fun w => ?_
  obtain ⟨k, k1, k2, k3⟩ := cod_diff (fun x hx => ⟨by have := P.1 x hx; omega, by have := Q.1 x hx; omega⟩) w
  obtain ⟨y, y1, y2, y3⟩ := later_in P Q k2 (Nat.le_refl k) k1
  rcases Nat.eq_or_lt_of_le y1 with z | z
  · rw [← z] at y3; omega
  · have : p y < p k := by
      have h : ∀ (d x : Nat), x + (d + 1) < n → p (x + (d + 1)) < p x := by
        intro d
        induction d with
        | zero => intro x hx; exact c x hx
        | succ d ih =>
          intro x hx
          have a1 := ih x (by omega)
          have a2 := c (x + (d + 1)) (by omega)
          rw [show x + (d + 1 + 1) = x + (d + 1) + 1 by omega]
          omega
      have := h (y - k - 1) k (by omega)
      rw [show k + (y - k - 1 + 1) = y by omega] at this
      exact this
    omega
theorem id_prm (n : Nat) : PERM n (fun i => i) := ⟨fun i hi => hi, fun i j _ _ e => e⟩
theorem id_first {n : Nat} (n8 : n ≤ 8) (q : Nat → Nat) (Q : PERM n q) : cod (fun i => i) n ≤ cod q n := by
  refine Nat.le_of_not_lt fun w => ?_
  obtain ⟨k, k1, k2, k3⟩ := cod_diff (fun x hx => ⟨by have := Q.1 x hx; omega, by omega⟩) w
  obtain ⟨y, y1, y2, y3⟩ := later_in (id_prm n) Q (fun x hx => (k2 x hx).symm) (Nat.le_refl k) k1
  omega
