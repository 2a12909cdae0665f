/-! BEST TWO: what one costs is linear in what is heard of each sound -/
def Aff (f : Int → Int) : Prop := ∀ x, f x = f 0 + x * (f 1 - f 0)
theorem Aff.cst (c : Int) : Aff (fun _ => c) := fun x => by show c = c + x * (c - c); rw [Int.sub_self, Int.mul_zero, Int.add_zero]
theorem Aff.add {f g : Int → Int} (a : Aff f) (b : Aff g) : Aff (fun x => f x + g x) := fun x => by
  show f x + g x = f 0 + g 0 + x * (f 1 + g 1 - (f 0 + g 0))
  have h1 := a x
  have h2 := b x
  have : x * (f 1 + g 1 - (f 0 + g 0)) = x * (f 1 - f 0) + x * (g 1 - g 0) := by rw [← Int.mul_add]; congr 1; omega
  omega
theorem Aff.mul {f : Int → Int} (a : Aff f) (c : Int) : Aff (fun x => f x * c) := fun x => by
  show f x * c = f 0 * c + x * (f 1 * c - f 0 * c)
  have h1 := a x
  rw [h1, Int.add_mul, ← Int.sub_mul, Int.mul_assoc]
theorem Aff.mulL {f : Int → Int} (a : Aff f) (c : Int) : Aff (fun x => c * f x) := fun x => by
  have := a.mul c x
  show c * f x = c * f 0 + x * (c * f 1 - c * f 0)
  rw [Int.mul_comm c, Int.mul_comm c, Int.mul_comm c]
  exact this
theorem Aff.idm (c : Int) : Aff (fun x => x * c) := fun x => by
  show x * c = 0 * c + x * (1 * c - 0 * c)
  rw [Int.zero_mul, Int.one_mul, Int.zero_add, Int.sub_zero]
theorem Aff.sub {f g : Int → Int} (a : Aff f) (b : Aff g) : Aff (fun x => f x - g x) := fun x => by
  show f x - g x = f 0 - g 0 + x * (f 1 - g 1 - (f 0 - g 0))
  have h1 := a x
  have h2 := b x
  have : x * (f 1 - g 1 - (f 0 - g 0)) = x * (f 1 - f 0) - x * (g 1 - g 0) := by rw [← Int.mul_sub]; congr 1; omega
  omega
theorem Aff.of {f g : Int → Int} (a : Aff f) (e : ∀ x, g x = f x) : Aff g := by
  have : g = f := funext e
  rw [this]
  exact a
/-- of one place it is x -/
def HAT (v : Nat → Int) (p : Nat) (x : Int) (j : Nat) : Int := if j = p then x else v j
theorem nsH_aff {mt v : Nat → Int} {ag : Int → Int} {p : Nat} : ∀ n, Aff (fun x => (nsH mt (HAT v p x) ag n).1) ∧ Aff (fun x => (nsH mt (HAT v p x) ag n).2)
  | 0 => by
    by_cases e : 0 = p
    · refine ⟨(Aff.idm 1).of (fun x => ?_), ((Aff.cst 10).sub (Aff.idm 1)).of (fun x => ?_)⟩
      · show 10 * 0 + (if 0 = p then x else v 0) * 1 = x * 1
        rw [if_pos e]; omega
      · show (10 - (if 0 = p then x else v 0)) * 1 = 10 - x * 1
        rw [if_pos e]; omega
    · refine ⟨(Aff.cst (v 0)).of (fun x => ?_), (Aff.cst (10 - v 0)).of (fun x => ?_)⟩
      · show 10 * 0 + (if 0 = p then x else v 0) * 1 = v 0
        rw [if_neg e]; omega
      · show (10 - (if 0 = p then x else v 0)) * 1 = 10 - v 0
        rw [if_neg e]; omega
  | n + 1 => by
    obtain ⟨i1, i2⟩ := nsH_aff (mt := mt) (v := v) (ag := ag) (p := p) n
    by_cases e : n + 1 = p
    · have c : ∀ x, nsH mt (HAT v p x) ag n = nsH mt v ag n := fun x => nsH_congr (fun _ => rfl) (fun j hj => ⟨rfl, by unfold HAT; rw [if_neg (by omega)]⟩)
      refine ⟨((Aff.cst (10 * (evA (ag (mt (n + 1) - mt n)) (nsH mt v ag n)).1)).add (Aff.idm (evA (ag (mt (n + 1) - mt n)) (nsH mt v ag n)).2)).of (fun x => ?_), (((Aff.cst 10).sub (Aff.idm 1)).mul (evA (ag (mt (n + 1) - mt n)) (nsH mt v ag n)).2).of (fun x => ?_)⟩
      · show 10 * (evA (ag (mt (n + 1) - mt n)) (nsH mt (HAT v p x) ag n)).1 + (if n + 1 = p then x else v (n + 1)) * (evA (ag (mt (n + 1) - mt n)) (nsH mt (HAT v p x) ag n)).2 = _
        rw [if_pos e, c]
      · show (10 - (if n + 1 = p then x else v (n + 1))) * (evA (ag (mt (n + 1) - mt n)) (nsH mt (HAT v p x) ag n)).2 = (10 - x * 1) * _
        rw [if_pos e, c, Int.mul_one]
    · refine ⟨(((i1.mulL (10 - ag (mt (n + 1) - mt n))).mulL 10).add (((i2.mulL 10).add (i1.mulL (ag (mt (n + 1) - mt n)))).mulL (v (n + 1)))).of (fun x => ?_), (((i2.mulL 10).add (i1.mulL (ag (mt (n + 1) - mt n)))).mulL (10 - v (n + 1))).of (fun x => ?_)⟩
      · show 10 * ((10 - ag (mt (n + 1) - mt n)) * (nsH mt (HAT v p x) ag n).1) + (if n + 1 = p then x else v (n + 1)) * (10 * (nsH mt (HAT v p x) ag n).2 + ag (mt (n + 1) - mt n) * (nsH mt (HAT v p x) ag n).1) = _
        rw [if_neg e]
      · show (10 - (if n + 1 = p then x else v (n + 1))) * (10 * (nsH mt (HAT v p x) ag n).2 + ag (mt (n + 1) - mt n) * (nsH mt (HAT v p x) ag n).1) = _
        rw [if_neg e]
theorem UPV_aff {mt v : Nat → Int} {ag : Int → Int} {p : Nat} {hour : Int} {c : Nat} : Aff (fun x => UPV mt (HAT v p x) ag hour c) := by
  unfold UPV
  generalize unt mt hour c = u
  rcases u with _ | n
  · exact Aff.cst 0
  · exact ((nsH_aff n).1.mul _).mul _
theorem prodN_aff {v : Nat → Int} {p : Nat} : ∀ n, Aff (fun x => prodN (fun j => 10 * (10 - HAT v p x j)) n)
  | 0 => Aff.cst 1
  | n + 1 => by
    have ih := prodN_aff (v := v) (p := p) n
    by_cases e : n = p
    · have c : ∀ x, prodN (fun j => 10 * (10 - HAT v p x j)) n = prodN (fun j => 10 * (10 - v j)) n := fun x => prodN_congr (fun j hj => by unfold HAT; rw [if_neg (by omega)])
      refine (((Aff.cst 100).sub (Aff.idm 10)).mulL (prodN (fun j => 10 * (10 - v j)) n)).of (fun x => ?_)
      show prodN (fun j => 10 * (10 - HAT v p x j)) n * (10 * (10 - (if n = p then x else v n))) = _ * (100 - x * 10)
      rw [if_pos e, c]
      congr 1
      omega
    · refine (ih.mul (10 * (10 - v n))).of (fun x => ?_)
      show prodN (fun j => 10 * (10 - HAT v p x j)) n * (10 * (10 - (if n = p then x else v n))) = _
      rw [if_neg e]
theorem SHV_aff {h : aH} {s : Nat} {mt v : Nat → Int} {p c : Nat} : Aff (fun x => SHV h s mt (HAT v p x) c) := by
  by_cases e : h 23 s = -2
  · refine (((Aff.cst (100 ^ c)).sub (prodN_aff (v := v) (p := p) c)).mulL (h 25 s)).of (fun x => ?_)
    unfold SHV WOKV
    rw [if_pos e]
  · refine (((Aff.cst (100 ^ c)).sub (UPV_aff (mt := mt) (v := v) (ag := AGN h s) (p := p) (hour := h 23 s) (c := c))).mulL (h 24 s)).of (fun x => ?_)
    unfold SHV
    rw [if_neg e]
theorem SHV_congr {h : aH} {s : Nat} {mt mt' hr hr' : Nat → Int} {c : Nat} (e : ∀ j, j < c → mt j = mt' j ∧ hr j = hr' j) : SHV h s mt hr c = SHV h s mt' hr' c := by
  unfold SHV WOKV
  rw [UPV_congr (fun _ => rfl) e, prodN_congr (f := fun j => 10 * (10 - hr j)) (g := fun j => 10 * (10 - hr' j)) (fun j hj => by rw [(e j hj).2])]
theorem bil {F : Int → Int → Int} (h1 : ∀ y, Aff (fun x => F x y)) (h2 : ∀ x, Aff (fun y => F x y)) (x y : Int) : F x y = F 0 0 + (F 1 0 - F 0 0) * x + ((F 0 1 - F 0 0) + (F 1 1 - F 1 0 - F 0 1 + F 0 0) * x) * y := by
  have a : F x y = F 0 y + x * (F 1 y - F 0 y) := h1 y x
  have b : F 0 y = F 0 0 + y * (F 0 1 - F 0 0) := h2 0 y
  have c : F 1 y = F 1 0 + y * (F 1 1 - F 1 0) := h2 1 y
  generalize F x y = G at *
  generalize F 0 y = A at *
  generalize F 1 y = B at *
  generalize F 0 0 = p at *
  generalize F 0 1 = q at *
  generalize F 1 0 = r at *
  generalize F 1 1 = t at *
  have e1 : x * (B - A) = x * (r - p) + x * (y * (t - r)) - x * (y * (q - p)) := by
    rw [← Int.mul_add, ← Int.mul_sub]
    congr 1
    omega
  have e2 : ((q - p) + (t - r - q + p) * x) * y = y * (q - p) + x * (y * (t - r)) - x * (y * (q - p)) := by
    have z1 : (t - r - q + p) * x = (t - r) * x - (q - p) * x := by rw [← Int.sub_mul]; congr 1; omega
    rw [z1, Int.add_mul, Int.mul_comm (q - p) y, Int.sub_mul ((t - r) * x) ((q - p) * x) y]
    have z2 : (t - r) * x * y = x * (y * (t - r)) := by rw [Int.mul_comm (t - r) x, Int.mul_assoc, Int.mul_comm (t - r) y]
    have z3 : (q - p) * x * y = x * (y * (q - p)) := by rw [Int.mul_comm (q - p) x, Int.mul_assoc, Int.mul_comm (q - p) y]
    rw [z2, z3]
    omega
  have e3 : (r - p) * x = x * (r - p) := Int.mul_comm _ _
  omega
/-! the plan with rings behind it -/
/-- the minutes of a plan of n with two more -/
def KX (h : aH) (n : Nat) (m1 m2 : Int) (k : Nat) : Int := if k < n then h 60 k else if k = n then m1 else m2
def HX (h : aH) (n c : Nat) (m1 m2 : Int) (s : Nat) (x y : Int) (j : Nat) : Int := if ordI (KX h n m1 m2) c j < n then HRD h s (h 63 s) (WOF h s) (ordI (KX h n m1 m2) c j) else if ordI (KX h n m1 m2) c j = n then x else y
def MX (h : aH) (n c : Nat) (m1 m2 : Int) (j : Nat) : Int := KX h n m1 m2 (ordI (KX h n m1 m2) c j)
/-- what one costs, hearing so much of the two -/
def SX (h : aH) (n c : Nat) (m1 m2 : Int) (s : Nat) (x y : Int) : Int := SHV h s (MX h n c m1 m2) (HX h n c m1 m2 s x y) c
/-- where the first is, the second is -/
def PX1 (h : aH) (n : Nat) (m1 m2 : Int) : Nat := ipos (fun j => KX h n m1 m2 (ordI (KX h n m1 m2) n j)) m1 n
def PX2 (h : aH) (n : Nat) (m1 m2 : Int) : Nat := ipos (fun j => KX h n m1 m2 (ordI (KX h n m1 m2) (n + 1) j)) m2 (n + 1)
theorem KX_n (h : aH) (n : Nat) (m1 m2 : Int) : KX h n m1 m2 n = m1 := by unfold KX; rw [if_neg (Nat.lt_irrefl n), if_pos rfl]
theorem KX_n1 (h : aH) (n : Nat) (m1 m2 : Int) : KX h n m1 m2 (n + 1) = m2 := by unfold KX; rw [if_neg (by omega), if_neg (by omega)]
theorem ord1 (h : aH) (n : Nat) (m1 m2 : Int) : ordI (KX h n m1 m2) (n + 1) = insF (ordI (KX h n m1 m2) n) (PX1 h n m1 m2) n := by
  show insF (ordI (KX h n m1 m2) n) (ipos (fun j => KX h n m1 m2 (ordI (KX h n m1 m2) n j)) (KX h n m1 m2 n) n) n = _
  rw [KX_n]; rfl
theorem ord2 (h : aH) (n : Nat) (m1 m2 : Int) : ordI (KX h n m1 m2) (n + 2) = insF (ordI (KX h n m1 m2) (n + 1)) (PX2 h n m1 m2) (n + 1) := by
  show insF (ordI (KX h n m1 m2) (n + 1)) (ipos (fun j => KX h n m1 m2 (ordI (KX h n m1 m2) (n + 1) j)) (KX h n m1 m2 (n + 1)) (n + 1)) (n + 1) = _
  rw [KX_n1]; rfl
theorem PX_le (h : aH) (n : Nat) (m1 m2 : Int) : PX1 h n m1 m2 ≤ n ∧ PX2 h n m1 m2 ≤ n + 1 := ⟨ipos_le _ _ _, ipos_le _ _ _⟩
theorem at1 {h : aH} {n : Nat} {m1 m2 : Int} {j : Nat} (hj : j < n + 1) : ordI (KX h n m1 m2) (n + 1) j = n ↔ j = PX1 h n m1 m2 := by
  have le := (PX_le h n m1 m2).1
  rw [ord1]
  unfold insF
  by_cases c1 : j < PX1 h n m1 m2
  · rw [if_pos c1]
    have := ordI_lt (KX h n m1 m2) n j (by omega)
    omega
  · rw [if_neg c1]
    by_cases c2 : j = PX1 h n m1 m2
    · rw [if_pos c2]; exact ⟨fun _ => c2, fun _ => rfl⟩
    · rw [if_neg c2]
      have := ordI_lt (KX h n m1 m2) n (j - 1) (by omega)
      omega
/-- where the first is when both are there -/
def PX1b (h : aH) (n : Nat) (m1 m2 : Int) : Nat := if PX2 h n m1 m2 ≤ PX1 h n m1 m2 then PX1 h n m1 m2 + 1 else PX1 h n m1 m2
theorem at2 {h : aH} {n : Nat} {m1 m2 : Int} {j : Nat} (hj : j < n + 2) : (ordI (KX h n m1 m2) (n + 2) j = n + 1 ↔ j = PX2 h n m1 m2) ∧ (ordI (KX h n m1 m2) (n + 2) j = n ↔ j = PX1b h n m1 m2) := by
  obtain ⟨l1, l2⟩ := PX_le h n m1 m2
  rw [ord2]
  unfold insF PX1b
  by_cases c1 : j < PX2 h n m1 m2
  · rw [if_pos c1]
    have lt := ordI_lt (KX h n m1 m2) (n + 1) j (by omega)
    have a := at1 (h := h) (m1 := m1) (m2 := m2) (show j < n + 1 by omega)
    refine ⟨by omega, a.trans ?_⟩
    split <;> omega
  · rw [if_neg c1]
    by_cases c2 : j = PX2 h n m1 m2
    · rw [if_pos c2]
      refine ⟨⟨fun _ => c2, fun _ => rfl⟩, ?_⟩
      split <;> omega
    · rw [if_neg c2]
      have lt := ordI_lt (KX h n m1 m2) (n + 1) (j - 1) (by omega)
      have a := at1 (h := h) (m1 := m1) (m2 := m2) (show j - 1 < n + 1 by omega)
      refine ⟨by omega, a.trans ?_⟩
      split <;> omega
theorem HX_1 {h : aH} {n : Nat} {m1 m2 : Int} {s : Nat} {x y : Int} {j : Nat} (hj : j < n + 1) : HX h n (n + 1) m1 m2 s x y j = HAT (HX h n (n + 1) m1 m2 s 0 0) (PX1 h n m1 m2) x j := by
  have a := at1 (h := h) (m1 := m1) (m2 := m2) hj
  have lt := ordI_lt (KX h n m1 m2) (n + 1) j hj
  unfold HAT HX
  by_cases c : j = PX1 h n m1 m2
  · rw [if_pos c, if_neg (by have := a.mpr c; omega), if_pos (a.mpr c)]
  · have : ordI (KX h n m1 m2) (n + 1) j < n := by
      have : ¬ ordI (KX h n m1 m2) (n + 1) j = n := fun z => c (a.mp z)
      omega
    rw [if_neg c, if_pos this, if_pos this]
theorem HX_2a {h : aH} {n : Nat} {m1 m2 : Int} {s : Nat} {x x' y : Int} {j : Nat} (hj : j < n + 2) : HX h n (n + 2) m1 m2 s x y j = HAT (HX h n (n + 2) m1 m2 s x' y) (PX1b h n m1 m2) x j := by
  obtain ⟨a, b⟩ := at2 (h := h) (m1 := m1) (m2 := m2) hj
  unfold HAT HX
  by_cases c : j = PX1b h n m1 m2
  · rw [if_pos c, if_neg (by have := b.mpr c; omega), if_pos (b.mpr c)]
  · have : ¬ ordI (KX h n m1 m2) (n + 2) j = n := fun z => c (b.mp z)
    rw [if_neg c, if_neg this, if_neg this]
theorem HX_2b {h : aH} {n : Nat} {m1 m2 : Int} {s : Nat} {x y y' : Int} {j : Nat} (hj : j < n + 2) : HX h n (n + 2) m1 m2 s x y j = HAT (HX h n (n + 2) m1 m2 s x y') (PX2 h n m1 m2) y j := by
  obtain ⟨a, b⟩ := at2 (h := h) (m1 := m1) (m2 := m2) hj
  have lt := ordI_lt (KX h n m1 m2) (n + 2) j hj
  unfold HAT HX
  by_cases c : j = PX2 h n m1 m2
  · rw [if_pos c, if_neg (by have := a.mpr c; omega), if_neg (by have := a.mpr c; omega)]
  · have : ¬ ordI (KX h n m1 m2) (n + 2) j = n + 1 := fun z => c (a.mp z)
    rw [if_neg c]
    by_cases c2 : ordI (KX h n m1 m2) (n + 2) j < n
    · rw [if_pos c2, if_pos c2]
    · rw [if_neg c2, if_neg c2, if_pos (by omega), if_pos (by omega)]
theorem SX_1 (h : aH) (n : Nat) (m1 m2 : Int) (s : Nat) (x y : Int) : SX h n (n + 1) m1 m2 s x y = SX h n (n + 1) m1 m2 s 0 0 + (SX h n (n + 1) m1 m2 s 1 0 - SX h n (n + 1) m1 m2 s 0 0) * x := by
  have e : ∀ x y, SX h n (n + 1) m1 m2 s x y = SHV h s (MX h n (n + 1) m1 m2) (HAT (HX h n (n + 1) m1 m2 s 0 0) (PX1 h n m1 m2) x) (n + 1) := fun x y => SHV_congr (fun j hj => ⟨rfl, HX_1 hj⟩)
  have a := SHV_aff (h := h) (s := s) (mt := MX h n (n + 1) m1 m2) (v := HX h n (n + 1) m1 m2 s 0 0) (p := PX1 h n m1 m2) (c := n + 1) x
  dsimp only at a
  rw [e x y, e 0 0, e 1 0, a, Int.mul_comm]
theorem SX_2 (h : aH) (n : Nat) (m1 m2 : Int) (s : Nat) (x y : Int) : SX h n (n + 2) m1 m2 s x y = SX h n (n + 2) m1 m2 s 0 0 + (SX h n (n + 2) m1 m2 s 1 0 - SX h n (n + 2) m1 m2 s 0 0) * x + ((SX h n (n + 2) m1 m2 s 0 1 - SX h n (n + 2) m1 m2 s 0 0) + (SX h n (n + 2) m1 m2 s 1 1 - SX h n (n + 2) m1 m2 s 1 0 - SX h n (n + 2) m1 m2 s 0 1 + SX h n (n + 2) m1 m2 s 0 0) * x) * y := by
  refine bil (F := SX h n (n + 2) m1 m2 s) (fun y => ?_) (fun x => ?_) x y
  · exact SHV_aff.of (fun x => SHV_congr (fun j hj => ⟨rfl, HX_2a (x' := 0) hj⟩))
  · exact SHV_aff.of (fun y => SHV_congr (fun j hj => ⟨rfl, HX_2b (y' := 0) hj⟩))
