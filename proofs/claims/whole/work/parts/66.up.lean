/-! a night: two numbers that go from sound to sound -/
theorem mul_bd {a b A B : Int} (h1 : 0 ≤ a) (h2 : a ≤ A) (h3 : 0 ≤ b) (h4 : b ≤ B) : 0 ≤ a * b ∧ a * b ≤ A * B :=
  ⟨Int.mul_nonneg h1 h3, Int.mul_le_mul h2 h4 h3 (Int.le_trans h1 h2)⟩
def evH (x : Int) (p : Int × Int) : Int × Int := (10 * p.1 + x * p.2, (10 - x) * p.2)
def evA (g : Int) (p : Int × Int) : Int × Int := ((10 - g) * p.1, 10 * p.2 + g * p.1)
/-- awake and asleep behind the n-th sound -/
def nsH (mt hr : Nat → Int) (ag : Int → Int) : Nat → Int × Int
  | 0 => evH (hr 0) (0, 1)
  | n + 1 => evH (hr (n + 1)) (evA (ag (mt (n + 1) - mt n)) (nsH mt hr ag n))
/-- how many sounds of c are at a minute or ahead -/
def unt (mt : Nat → Int) (hour : Int) : Nat → Nat
  | 0 => 0
  | c + 1 => if unt mt hour c = c ∧ mt c ≤ hour then c + 1 else unt mt hour c
theorem unt_le (mt : Nat → Int) (hour : Int) : ∀ c, unt mt hour c ≤ c
  | 0 => Nat.le_refl _
  | c + 1 => by
    unfold unt
    have := unt_le mt hour c
    split <;> omega
theorem unt_eq {mt : Nat → Int} {hour : Int} {n : Nat} : ∀ {c : Nat}, n ≤ c → (∀ j, j < n → mt j ≤ hour) → (n = c ∨ hour < mt n) → unt mt hour c = n
  | 0, h, _, _ => by unfold unt; omega
  | c + 1, h, h1, h2 => by
    unfold unt
    rcases Nat.eq_or_lt_of_le h with e | e
    · subst e
      have := unt_eq (c := c) (n := c) (hour := hour) (mt := mt) (Nat.le_refl _) (fun j hj => h1 j (by omega)) (Or.inl rfl)
      rw [this, if_pos ⟨rfl, h1 c (by omega)⟩]
    · have hlt : hour < mt n := by omega
      have := unt_eq (c := c) (n := n) (hour := hour) (mt := mt) (by omega) h1 (Or.inr hlt)
      rw [this, if_neg]
      rintro ⟨rfl, h3⟩
      omega
theorem unt_congr {mt mt' : Nat → Int} {hour : Int} : ∀ {c : Nat}, (∀ j, j < c → mt j = mt' j) → unt mt hour c = unt mt' hour c
  | 0, _ => rfl
  | c + 1, h => by
    unfold unt
    rw [unt_congr (fun j hj => h j (by omega)), h c (by omega)]
theorem nsH_congr {mt mt' hr hr' : Nat → Int} {ag ag' : Int → Int} (ha : ∀ x, ag x = ag' x) : ∀ {n : Nat}, (∀ j, j ≤ n → mt j = mt' j ∧ hr j = hr' j) → nsH mt hr ag n = nsH mt' hr' ag' n
  | 0, h => by unfold nsH; rw [(h 0 (by omega)).2]
  | n + 1, h => by
    unfold nsH
    rw [nsH_congr ha (fun j hj => h j (by omega)), (h (n + 1) (by omega)).2, (h (n + 1) (by omega)).1, (h n (by omega)).1, ha]
/-- the WAYS by which one is UP: of c sounds in order, their minutes, what is heard of each -/
def UPV (mt hr : Nat → Int) (ag : Int → Int) (hour : Int) (c : Nat) : Int := match unt mt hour c with
  | 0 => 0
  | n + 1 => (nsH mt hr ag n).1 * (10 - ag (hour - mt n)) * 100 ^ (c - (n + 1))
theorem UPV_congr {mt mt' hr hr' : Nat → Int} {ag ag' : Int → Int} {hour : Int} {c : Nat} (ha : ∀ x, ag x = ag' x) (h : ∀ j, j < c → mt j = mt' j ∧ hr j = hr' j) : UPV mt hr ag hour c = UPV mt' hr' ag' hour c := by
  unfold UPV
  have e : unt mt hour c = unt mt' hour c := unt_congr (fun j hj => (h j hj).1)
  have hle := unt_le mt' hour c
  rw [e]
  generalize unt mt' hour c = u at hle
  rcases u with _ | n
  · rfl
  · show (nsH mt hr ag n).1 * (10 - ag (hour - mt n)) * 100 ^ (c - (n + 1)) = (nsH mt' hr' ag' n).1 * (10 - ag' (hour - mt' n)) * 100 ^ (c - (n + 1))
    rw [nsH_congr ha (fun j hj => h j (by omega)), ha, (h n (by omega)).1]
theorem nsH_bd {mt hr : Nat → Int} {ag : Int → Int} (hag : ∀ x, 0 ≤ ag x ∧ ag x ≤ 10) : ∀ {n : Nat}, (∀ j, j ≤ n → 0 ≤ hr j ∧ hr j ≤ 10) → 0 ≤ (nsH mt hr ag n).1 ∧ 0 ≤ (nsH mt hr ag n).2 ∧ (nsH mt hr ag n).1 + (nsH mt hr ag n).2 = 10 * 100 ^ n
  | 0, h => by
    have := h 0 (by omega)
    simp only [nsH, evH]
    omega
  | n + 1, h => by
    obtain ⟨h1, h2, h3⟩ := nsH_bd (mt := mt) hag (n := n) (fun j hj => h j (by omega))
    have hx := h (n + 1) (by omega)
    have hg := hag (mt (n + 1) - mt n)
    simp only [nsH, evH, evA]
    generalize (nsH mt hr ag n).1 = a at *
    generalize (nsH mt hr ag n).2 = b at *
    generalize ag (mt (n + 1) - mt n) = g at *
    generalize hr (n + 1) = x at *
    have e1 : 0 ≤ (10 - g) * a := Int.mul_nonneg (by omega) h1
    have e2 : 0 ≤ g * a := Int.mul_nonneg (by omega) h1
    have e3 : (10 - g) * a = 10 * a - g * a := by rw [Int.sub_mul]
    have e4 : 0 ≤ x * (10 * b + g * a) := Int.mul_nonneg (by omega) (by omega)
    have e5 : (10 - x) * (10 * b + g * a) = 10 * (10 * b + g * a) - x * (10 * b + g * a) := by rw [Int.sub_mul]
    have e6 : 0 ≤ (10 - x) * (10 * b + g * a) := Int.mul_nonneg (by omega) (by omega)
    have e7 : (100 : Int) ^ (n + 1) = 100 * 100 ^ n := by rw [Int.pow_succ, Int.mul_comm]
    refine ⟨by omega, by omega, ?_⟩
    rw [e7]
    omega
theorem p100_pos (n : Nat) : 0 < (100 : Int) ^ n := by
  induction n with
  | zero => decide
  | succ n ih => rw [Int.pow_succ]; omega
theorem p100_le {n m : Nat} (h : n ≤ m) : (100 : Int) ^ n ≤ 100 ^ m := by
  obtain ⟨d, rfl⟩ : ∃ d, m = n + d := ⟨m - n, by omega⟩
  induction d with
  | zero => exact Int.le_refl _
  | succ d ih =>
    have := ih (by omega)
    have h2 := p100_pos (n + d)
    rw [show n + (d + 1) = (n + d) + 1 by omega, Int.pow_succ]
    omega
theorem p100_8 {n : Nat} (h : n ≤ 8) : 0 < (100 : Int) ^ n ∧ (100 : Int) ^ n ≤ 10000000000000000 := ⟨p100_pos n, p100_le h⟩
theorem UPV_bd {mt hr : Nat → Int} {ag : Int → Int} {hour : Int} {c : Nat} (hag : ∀ x, 0 ≤ ag x ∧ ag x ≤ 10) (h : ∀ j, j < c → 0 ≤ hr j ∧ hr j ≤ 10) : 0 ≤ UPV mt hr ag hour c ∧ UPV mt hr ag hour c ≤ 100 ^ c := by
  unfold UPV
  have hle := unt_le mt hour c
  generalize unt mt hour c = u at hle
  rcases u with _ | n
  · exact ⟨Int.le_refl _, Int.le_of_lt (p100_pos c)⟩
  · show 0 ≤ (nsH mt hr ag n).1 * (10 - ag (hour - mt n)) * 100 ^ (c - (n + 1)) ∧ (nsH mt hr ag n).1 * (10 - ag (hour - mt n)) * 100 ^ (c - (n + 1)) ≤ 100 ^ c
    obtain ⟨h1, h2, h3⟩ := nsH_bd (mt := mt) hag (n := n) (fun j hj => h j (by omega))
    have hg := hag (hour - mt n)
    have e1 := mul_bd (a := (nsH mt hr ag n).1) (b := 10 - ag (hour - mt n)) (A := 10 * 100 ^ n) (B := 10) h1 (by omega) (by omega) (by omega)
    have e2 := mul_bd (a := (nsH mt hr ag n).1 * (10 - ag (hour - mt n))) (b := 100 ^ (c - (n + 1))) (A := 10 * 100 ^ n * 10) (B := 100 ^ (c - (n + 1))) e1.1 e1.2 (Int.le_of_lt (p100_pos _)) (Int.le_refl _)
    have e3 : (10 : Int) * 100 ^ n * 10 * 100 ^ (c - (n + 1)) = 100 ^ c := by
      rw [show c = n + 1 + (c - (n + 1)) by omega, Int.pow_add, Int.pow_succ, show n + 1 + (c - (n + 1)) - (n + 1) = c - (n + 1) by omega]
      have : (10 : Int) * 100 ^ n * 10 = 100 ^ n * 100 := by omega
      rw [this]
    rw [e3] at e2
    exact e2
/-- a product -/
def prodN (f : Nat → Int) : Nat → Int
  | 0 => 1
  | n + 1 => prodN f n * f n
theorem prodN_congr {f g : Nat → Int} : ∀ {n : Nat}, (∀ j, j < n → f j = g j) → prodN f n = prodN g n
  | 0, _ => rfl
  | n + 1, h => by unfold prodN; rw [prodN_congr (fun j hj => h j (by omega)), h n (by omega)]
/-- the WAYS by which one hears some sound -/
def WOKV (hr : Nat → Int) (c : Nat) : Int := 100 ^ c - prodN (fun j => 10 * (10 - hr j)) c
theorem prodN_bd {f : Nat → Int} : ∀ {n : Nat}, (∀ j, j < n → 0 ≤ f j ∧ f j ≤ 100) → 0 ≤ prodN f n ∧ prodN f n ≤ 100 ^ n
  | 0, _ => by unfold prodN; decide
  | n + 1, h => by
    have h1 := prodN_bd (n := n) (fun j hj => h j (by omega))
    have h2 := h n (by omega)
    have := mul_bd h1.1 h1.2 h2.1 h2.2
    unfold prodN
    rw [Int.pow_succ]
    exact this
theorem WOKV_bd {hr : Nat → Int} {c : Nat} (h : ∀ j, j < c → 0 ≤ hr j ∧ hr j ≤ 10) : 0 ≤ WOKV hr c ∧ WOKV hr c ≤ 100 ^ c := by
  have := prodN_bd (f := fun j => 10 * (10 - hr j)) (n := c) (fun j hj => by have := h j hj; omega)
  unfold WOKV
  omega
/-! the sounds in their order -/
def insF {α : Type} (f : Nat → α) (p : Nat) (x : α) : Nat → α := fun j => if j < p then f j else if j = p then x else f (j - 1)
/-- where one of a minute comes, behind all that are not later -/
def ipos (f : Nat → Int) (a : Int) : Nat → Nat
  | 0 => 0
  | c + 1 => if a < f c then ipos f a c else c + 1
theorem ipos_le (f : Nat → Int) (a : Int) : ∀ c, ipos f a c ≤ c
  | 0 => Nat.le_refl _
  | c + 1 => by
    unfold ipos
    have := ipos_le f a c
    split <;> omega
theorem ipos_congr {f g : Nat → Int} {a : Int} : ∀ {c : Nat}, (∀ j, j < c → f j = g j) → ipos f a c = ipos g a c
  | 0, _ => rfl
  | c + 1, h => by
    unfold ipos
    rw [h c (by omega), ipos_congr (fun j hj => h j (by omega))]
/-- which of m items with these minutes is the j-th -/
def ordI (key : Nat → Int) : Nat → Nat → Nat
  | 0 => fun _ => 0
  | m + 1 => insF (ordI key m) (ipos (fun j => key (ordI key m j)) (key m) m) m
theorem ordI_lt (key : Nat → Int) : ∀ (m j : Nat), j < m → ordI key m j < m
  | 0, j, h => by omega
  | m + 1, j, h => by
    unfold ordI insF
    have hp := ipos_le (fun j => key (ordI key m j)) (key m) m
    by_cases h1 : j < ipos (fun j => key (ordI key m j)) (key m) m
    · rw [if_pos h1]
      have := ordI_lt key m j (by omega)
      omega
    · rw [if_neg h1]
      by_cases h2 : j = ipos (fun j => key (ordI key m j)) (key m) m
      · rw [if_pos h2]; omega
      · rw [if_neg h2]
        have := ordI_lt key m (j - 1) (by omega)
        omega
theorem ordI_congr {key key' : Nat → Int} : ∀ {m : Nat}, (∀ j, j < m → key j = key' j) → ∀ j, j < m → ordI key m j = ordI key' m j
  | 0, _, j, hj => by omega
  | m + 1, h, j, hj => by
    have ih := ordI_congr (m := m) (fun j hj => h j (by omega))
    have e : ipos (fun j => key (ordI key m j)) (key m) m = ipos (fun j => key' (ordI key' m j)) (key' m) m := by
      rw [h m (by omega)]
      refine ipos_congr (fun j hj => ?_)
      rw [ih j hj]
      exact h _ (by have := ordI_lt key' m j hj; omega)
    have hp := ipos_le (fun j => key' (ordI key' m j)) (key' m) m
    unfold ordI insF
    rw [e]
    by_cases h1 : j < ipos (fun j => key' (ordI key' m j)) (key' m) m
    · rw [if_pos h1, if_pos h1, ih j (by omega)]
    · rw [if_neg h1, if_neg h1]
      by_cases h2 : j = ipos (fun j => key' (ordI key' m j)) (key' m) m
      · rw [if_pos h2, if_pos h2]
      · rw [if_neg h2, if_neg h2, ih (j - 1) (by omega)]
/-- a product over an order is the product -/
theorem prodN_ins (g : Nat → Nat) (f : Nat → Int) (x : Nat) : ∀ (m p : Nat), p ≤ m → prodN (fun j => f (insF g p x j)) (m + 1) = prodN (fun j => f (g j)) m * f x
  | 0, p, h => by
    have : p = 0 := by omega
    subst this
    simp [prodN, insF]
  | m + 1, p, h => by
    rcases Nat.eq_or_lt_of_le h with e | e
    · subst e
      show prodN (fun j => f (insF g (m + 1) x j)) (m + 1) * f (insF g (m + 1) x (m + 1)) = _
      rw [show insF g (m + 1) x (m + 1) = x by unfold insF; simp]
      rw [prodN_congr (g := fun j => f (g j)) (fun j hj => by unfold insF; rw [if_pos hj])]
    · show prodN (fun j => f (insF g p x j)) (m + 1) * f (insF g p x (m + 1)) = prodN (fun j => f (g j)) m * f (g m) * f x
      rw [prodN_ins g f x m p (by omega), show insF g p x (m + 1) = g m by unfold insF; rw [if_neg (by omega), if_neg (by omega)]; rfl]
      rw [Int.mul_assoc, Int.mul_assoc, Int.mul_comm (f x)]
theorem prodN_ord (key f : Nat → Int) : ∀ m, prodN (fun j => f (ordI key m j)) m = prodN f m
  | 0 => rfl
  | m + 1 => by
    have := prodN_ins (ordI key m) f m m (ipos (fun j => key (ordI key m j)) (key m) m) (ipos_le _ _ _)
    show prodN (fun j => f (insF (ordI key m) (ipos (fun j => key (ordI key m j)) (key m) m) m j)) (m + 1) = _
    rw [this, prodN_ord key f m]
    rfl
