/-! contents: reading behind writing, what stays -/
theorem up_same (h : aH) (r k : Nat) (v : Int) : am_up h r k v r k = v := by rw [am_up_at, if_pos ⟨rfl, rfl⟩]
theorem up_ne {h : aH} {r k : Nat} {v : Int} {j : Nat} (hj : j ≠ k) : am_up h r k v r j = h r j := by rw [am_up_at, if_neg (fun e => hj e.2)]
theorem up_row {h : aH} {r k : Nat} {v : Int} {q : Nat} (hq : q ≠ r) : am_up h r k v q = h q := by
  funext j
  rw [am_up_at, if_neg (fun e => hq e.1)]
theorem up_in (h : aH) (r k : Nat) (v : Int) (j : Nat) : am_up h r k v r j = if j = k then v else h r j := by
  rw [am_up_at]
  by_cases e : j = k
  · rw [if_pos ⟨rfl, e⟩, if_pos e]
  · rw [if_neg (fun z => e z.2), if_neg e]
theorem cp_row {h : aH} {s sp d dp n q : Nat} (hq : q ≠ d) : am_cp h s sp d dp n q = h q := by
  funext j
  unfold am_cp
  rw [nb_ne hq]; rfl
theorem cp_in (h : aH) (s sp d dp n j : Nat) : am_cp h s sp d dp n d j = if dp ≤ j ∧ j < dp + n then h s (sp + (j - dp)) else h d j := by
  unfold am_cp
  by_cases e : dp ≤ j ∧ j < dp + n
  · rw [if_pos e]
    have h1 : Nat.ble dp j = true := Nat.ble_eq_true_of_le e.1
    have h2 : Nat.blt j (dp + n) = true := Nat.ble_eq_true_of_le e.2
    have h3 : Nat.beq d d = true := Nat.beq_refl d
    rw [h1, h2, h3]; rfl
  · rw [if_neg e]
    have : (Nat.ble dp j && Nat.blt j (dp + n)) = false := by
      rw [Bool.and_eq_false_iff]
      rcases Nat.lt_or_ge j dp with g | g
      · left
        cases hh : Nat.ble dp j with
        | false => rfl
        | true => exact absurd (Nat.le_of_ble_eq_true hh) (by omega)
      · right
        cases hh : Nat.blt j (dp + n) with
        | false => rfl
        | true => exact absurd ⟨g, Nat.le_of_ble_eq_true hh⟩ e
    rw [this, Bool.and_false]; rfl
theorem ck_ix {i : Int} {n : Nat} {A : Prop} (h : 0 ≤ i ∧ i < (n : Int)) (a : A) : am_ix i n ∧ A := ⟨h, a⟩
theorem ck_rg {z : Int} {A : Prop} (h : -2147483648 ≤ z ∧ z < 2147483648) (a : A) : am_rg z ∧ A := ⟨h, a⟩
theorem ck_rl {z : Int} {A : Prop} (h : -9223372036854775808 ≤ z ∧ z < 9223372036854775808) (a : A) : am_rl z ∧ A := ⟨h, a⟩
theorem ck_t1 {A : Prop} (a : A) : am_tf (1 : Int) ∧ A := ⟨Or.inr rfl, a⟩
theorem ck_t0 {A : Prop} (a : A) : am_tf (0 : Int) ∧ A := ⟨Or.inl rfl, a⟩
/-- what stays: all rows but those of C; of the reference's own cell all but the fields D -/
def Fr (C D : List Nat) (h h' : aH) : Prop := (∀ r, r ≠ 130 → r ∉ C → h' r = h r) ∧ ∀ j, j ∉ D → h' 130 j = h 130 j
theorem Fr.rfl {C D : List Nat} {h : aH} : Fr C D h h := ⟨fun _ _ _ => Eq.refl _, fun _ _ => Eq.refl _⟩
theorem Fr.trans {C D : List Nat} {h h1 h2 : aH} (a : Fr C D h h1) (b : Fr C D h1 h2) : Fr C D h h2 := ⟨fun r hr hc => (b.1 r hr hc).trans (a.1 r hr hc), fun j hj => (b.2 j hj).trans (a.2 j hj)⟩
theorem Fr.mono {C D C' D' : List Nat} {h h1 : aH} (a : Fr C D h h1) (hC : ∀ r ∈ C, r ∈ C') (hD : ∀ r ∈ D, r ∈ D') : Fr C' D' h h1 := ⟨fun r hr hc => a.1 r hr (fun z => hc (hC r z)), fun j hj => a.2 j (fun z => hj (hD j z))⟩
theorem Fr.up {C D : List Nat} {h h1 : aH} (a : Fr C D h h1) {r k : Nat} {v : Int} (hr : r ∈ C) (h0 : r ≠ 130) : Fr C D h (am_up h1 r k v) := by
  refine ⟨fun q hq hc => ?_, fun j hj => ?_⟩
  · rw [up_row (show q ≠ r from fun e => hc (by rw [e]; exact hr))]; exact a.1 q hq hc
  · rw [up_row (fun e => h0 e.symm)]; exact a.2 j hj
theorem Fr.cp {C D : List Nat} {h h1 : aH} (a : Fr C D h h1) {s sp d dp n : Nat} (hr : d ∈ C) (h0 : d ≠ 130) : Fr C D h (am_cp h1 s sp d dp n) := by
  refine ⟨fun q hq hc => ?_, fun j hj => ?_⟩
  · rw [cp_row (show q ≠ d from fun e => hc (by rw [e]; exact hr))]; exact a.1 q hq hc
  · rw [cp_row (fun e => h0 e.symm)]; exact a.2 j hj
theorem Fr.upM {C D : List Nat} {h h1 : aH} (a : Fr C D h h1) {k : Nat} {v : Int} (hk : k ∈ D) : Fr C D h (am_up h1 130 k v) := by
  refine ⟨fun q hq hc => ?_, fun j hj => ?_⟩
  · rw [up_row hq]; exact a.1 q hq hc
  · rw [up_ne (show j ≠ k from fun e => hj (by rw [e]; exact hk))]; exact a.2 j hj
theorem Fr.at {C D : List Nat} {h h1 : aH} (a : Fr C D h h1) (r : Nat) (hr : r ∉ C) (h0 : r ≠ 130) : h1 r = h r := a.1 r h0 hr
theorem sgn_lt {z : Int} : am_sgn z < 0 ↔ z < 0 := by unfold am_sgn; split <;> (try split) <;> omega
theorem sgn_le {z : Int} : am_sgn z ≤ 0 ↔ z ≤ 0 := by unfold am_sgn; split <;> (try split) <;> omega
theorem sgn_gt {z : Int} : 0 < am_sgn z ↔ 0 < z := by unfold am_sgn; split <;> (try split) <;> omega
theorem sgn_ge {z : Int} : 0 ≤ am_sgn z ↔ 0 ≤ z := by unfold am_sgn; split <;> (try split) <;> omega
theorem sgn_eq {z : Int} : am_sgn z = 0 ↔ z = 0 := by unfold am_sgn; split <;> (try split) <;> omega
/-! laws gone through with a pile -/
/-- the pile as a list, its top first -/
def stk (f : Nat → Int) : List Int → Prop
  | [] => True
  | a :: st => f st.length = a ∧ stk f st
theorem stk_up {h : aH} {r : Nat} {v : Int} : ∀ {st : List Int} {k : Nat}, st.length ≤ k → stk (h r) st → stk (am_up h r k v r) st
  | [], _, _, _ => trivial
  | a :: st, k, hk, ⟨h1, h2⟩ => by
    have hk : st.length + 1 ≤ k := hk
    refine ⟨?_, stk_up (by omega) h2⟩
    rw [up_ne (by omega)]; exact h1
theorem stk_last {f : Nat → Int} : ∀ {st : List Int}, stk f st → st ≠ [] → st.getLast?.getD 0 = f 0
  | [], _, h => absurd rfl h
  | [a], ⟨h1, _⟩, _ => h1.symm
  | a :: b :: st, ⟨_, h2⟩, _ => by
    rw [List.getLast?_cons_cons]
    exact stk_last h2 (by simp)
def lw1 (w : Nat → Int) (z : Int) (st : List Int) : Option (List Int) :=
  if -7 ≤ z then some ((if 0 ≤ z then z else w (-1 - z).toNat) :: st)
  else match st with
    | b :: a :: st =>
      if z = -21 then some (w32 (a + b) :: st)
      else if z = -22 then some (w32 (a - b) :: st)
      else if z = -23 then some (w32 (a * b) :: st)
      else if z = -25 then some ((if a < b then 1 else 0) :: st)
      else if z = -30 then some ((if a = b then 1 else 0) :: st)
      else if b = 0 then none else some (w32 (a.tdiv b) :: st)
    | _ => none
def lwN (steps w : Nat → Int) : Nat → Option (List Int)
  | 0 => some []
  | n + 1 => match lwN steps w n with
    | some st => lw1 w (steps n) st
    | none => none
/-- the value of a law of n steps -/
def lwV (steps : Nat → Int) (n : Nat) (w : Nat → Int) : Int := match lwN steps w n with
  | some st => st.getLast?.getD 0
  | none => 0
theorem lwN_none {steps w : Nat → Int} {n : Nat} (h : lwN steps w n = none) : ∀ m, n ≤ m → lwN steps w m = none := by
  intro m hm
  induction m with
  | zero => rw [Nat.le_zero.mp hm] at h; exact h
  | succ m ih =>
    rcases Nat.eq_or_lt_of_le hm with e | hlt
    · rw [← e]; exact h
    · unfold lwN
      rw [ih (by omega)]
theorem lw1_congr {w w' : Nat → Int} (hw : ∀ j, j < 7 → w j = w' j) (z : Int) (st : List Int) : lw1 w z st = lw1 w' z st := by
  unfold lw1
  by_cases h : -7 ≤ z
  · rw [if_pos h, if_pos h]
    by_cases h0 : 0 ≤ z
    · rw [if_pos h0, if_pos h0]
    · rw [if_neg h0, if_neg h0, hw _ (by omega)]
  · rw [if_neg h, if_neg h]
theorem lwN_congr {steps w w' : Nat → Int} (hw : ∀ j, j < 7 → w j = w' j) : ∀ n, lwN steps w n = lwN steps w' n
  | 0 => rfl
  | n + 1 => by
    unfold lwN
    rw [lwN_congr hw n]
    cases lwN steps w' n with
    | none => rfl
    | some st => exact lw1_congr hw _ _
theorem lwV_congr {steps w w' : Nat → Int} (hw : ∀ j, j < 7 → w j = w' j) (n : Nat) : lwV steps n w = lwV steps n w' := by
  unfold lwV
  rw [lwN_congr hw]
/-- its steps as they may be -/
def okLaw (steps : Nat → Int) (n : Int) : Prop := 0 ≤ n ∧ n ≤ 400 ∧ ∀ i : Nat, (i : Int) < n → (-7 ≤ steps i ∧ steps i ≤ 9999) ∨ steps i = -21 ∨ steps i = -22 ∨ steps i = -23 ∨ steps i = -24 ∨ steps i = -25 ∨ steps i = -30
/-! what a text tells, as it may be -/
def okSz (h : aH) : Prop := 0 ≤ h 16 14 ∧ h 16 14 ≤ 12 ∧ 0 ≤ h 16 15 ∧ h 16 15 ≤ 9 ∧ 0 ≤ h 16 16 ∧ h 16 16 ≤ 12
def okBeds (h : aH) : Prop := ∀ b : Nat, (b : Int) < h 16 14 → 0 ≤ h 17 b ∧ h 17 b ≤ 3 ∧ 0 ≤ h 18 b ∧ h 18 b ≤ 9
def okClk (h : aH) : Prop := ∀ c : Nat, (c : Int) < h 16 15 → 1 ≤ h 19 c ∧ h 19 c ≤ 12 ∧ -30 ≤ h 20 c ∧ h 20 c ≤ 30
def okSlp (h : aH) : Prop := ∀ s : Nat, (s : Int) < h 16 16 → (0 ≤ h 22 s ∧ h 22 s ≤ 9) ∧ (h 23 s = -2 ∨ 0 ≤ h 23 s ∧ h 23 s ≤ 399) ∧ (0 ≤ h 24 s ∧ h 24 s ≤ 9) ∧ (0 ≤ h 25 s ∧ h 25 s ≤ 9)
def HI (h : aH) : Prop := okSz h ∧ okBeds h ∧ okClk h ∧ okSlp h ∧ okLaw (h 30) (h 29 2) ∧ okLaw (h 33) (h 32 2)
/-- who lies where -/
def okLie (h : aH) : Prop := (∀ s : Nat, (s : Int) < h 16 16 → 0 ≤ h 63 s ∧ h 63 s < h 16 14 ∧ h 64 (h 63 s).toNat = s) ∧
  ∀ b : Nat, (b : Int) < h 16 14 → h 64 b = -2 ∨ 0 ≤ h 64 b ∧ h 64 b < h 16 16 ∧ h 63 (h 64 b).toNat = b
/-- the plan -/
def okSnd (h : aH) : Prop := 0 ≤ h 58 10 ∧ h 58 10 ≤ 8 ∧ ∀ k : Nat, (k : Int) < h 58 10 → (0 ≤ h 59 k ∧ h 59 k ≤ 2) ∧ (0 ≤ h 60 k ∧ h 60 k ≤ 399) ∧ (0 ≤ h 61 k ∧ h 61 k ≤ 12) ∧ (h 59 k = 1 → 0 ≤ h 62 k ∧ h 62 k < h 16 16) ∧ (h 59 k ≠ 1 → 0 ≤ h 62 k ∧ h 62 k < h 16 14)
/-- wool, as bits -/
def okWool (h : aH) : Prop := 0 ≤ h 58 11 ∧ h 58 11 < 2 ^ (h 16 16).toNat
/-- the words of a law -/
def hwd (loud gap floors hour deep wool after : Int) : Nat → Int
  | 0 => loud
  | 1 => gap
  | 2 => floors
  | 3 => hour
  | 4 => deep
  | 5 => wool
  | _ => after
def gapF (h : aH) (a b : Int) : Int := max (h 18 a.toNat - h 18 b.toNat) (-(h 18 a.toNat - h 18 b.toNat))
def flrF (h : aH) (a b : Int) : Int := max (h 17 a.toNat - h 17 b.toNat) (-(h 17 a.toNat - h 17 b.toNat))
/-- HEARING of sleeper s who lies in bed l with wool w, of a sound of that loud from bed b's place at minute m -/
def HEAR (h : aH) (s l w loud b m : Int) : Int := max 0 (min 10 (lwV (h 30) (h 29 2).toNat (hwd loud (gapF h l b) (flrF h l b) (w32 (m.tdiv 60)) (h 22 s.toNat) w 0)))
/-- AGAIN by deep and minutes -/
def AGD (h : aH) (d a : Int) : Int := max 0 (min 10 (lwV (h 33) (h 32 2).toNat (hwd 0 0 0 0 d 0 a)))
def AGN (h : aH) (s a : Int) : Int := AGD h (h 22 s.toNat) a
/-- what the night keeps in mind of AGAIN is right -/
def okDz (h : aH) : Prop := (∀ j : Nat, j < 7 → j ≠ 4 → j ≠ 6 → h 97 j = 0) ∧ ∀ d a : Nat, d ≤ 9 → a < 400 → h 96 (d * 400 + a) = -1 ∨ h 96 (d * 400 + a) = AGD h d a
theorem HEAR_rg (h : aH) (s l w loud b m : Int) : 0 ≤ HEAR h s l w loud b m ∧ HEAR h s l w loud b m ≤ 10 := by unfold HEAR; omega
theorem AGD_rg (h : aH) (d a : Int) : 0 ≤ AGD h d a ∧ AGD h d a ≤ 10 := by unfold AGD; omega
