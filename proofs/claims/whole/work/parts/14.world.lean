/-! the abstract machine's states as worlds of the kit -/
theorem am_up_at (h : aH) (r k : Nat) (v : Int) (q j : Nat) : am_up h r k v q j = if q = r ∧ j = k then v else h q j := by
  unfold am_up
  by_cases e : q = r ∧ j = k
  · rw [if_pos e, e.1, e.2]; simp
  · rw [if_neg e]
    have : (Nat.beq q r && Nat.beq j k) = false := by
      rw [Bool.and_eq_false_iff]
      by_cases e1 : q = r
      · exact Or.inr (nb_ne fun z => e ⟨e1, z⟩)
      · exact Or.inl (nb_ne e1)
    rw [this]; rfl
/-- a value -/
def cv (ad : Nat → Nat) : aV → Value
  | .inl x => .int (Int32.ofInt x)
  | .inr (.inl x) => .long (Int64.ofInt x)
  | .inr (.inr r) => bif Nat.beq r 0 || (Nat.beq r 8 && Nat.beq (ad 0) 0) then .null else .ref (ad r)
theorem cv_ref {ad : Nat → Nat} {r : Nat} (h0 : r ≠ 0) (h8 : r ≠ 8) : cv ad (.inr (.inr r)) = .ref (ad r) := by
  simp [cv, nb_ne h0, nb_ne h8]
def ok_v : aV → Prop
  | .inl x => am_rg x
  | .inr (.inl x) => am_rl x
  | .inr (.inr _) => True
def ok_t (ty : Nat) (z : Int) : Prop := match ty with
  | 0 => True
  | 2 => am_rl z
  | 3 => am_tf z
  | 4 => -128 ≤ z ∧ z < 128
  | _ => am_rg z
/-- what a place of a cell holds -/
def am_ty (ft : Nat → Nat → Nat) (sh : List aC) (r k : Nat) : Nat := match am_kd sh r with
  | 1 => 1
  | 2 => 2
  | 3 => 4
  | 4 => 3
  | 5 => 0
  | 6 => 1
  | 7 => 2
  | 8 => 4
  | n => ft (n - 10) k
def ok_h (ft : Nat → Nat → Nat) (S : aS) : Prop := ∀ r k : Nat, ok_t (am_ty ft S.1 r k) (S.2 r k)
def am_opt (ad : Nat → Nat) (r : Nat) : Option Nat := bif Nat.beq r 0 || (Nat.beq r 8 && Nat.beq (ad 0) 0) then none else some (ad r)
theorem am_opt_cv (ad : Nat → Nat) (r : Nat) : va_rf (am_opt ad r) = cv ad (.inr (.inr r)) := by
  show va_rf (am_opt ad r) = (bif Nat.beq r 0 || (Nat.beq r 8 && Nat.beq (ad 0) 0) then .null else .ref (ad r))
  unfold am_opt
  cases (Nat.beq r 0 || (Nat.beq r 8 && Nat.beq (ad 0) 0)) <;> rfl
def am_fv (ad : Nat → Nat) (ty : Nat) (rs : List Nat) (h : Nat → Int) (k : Nat) : Value := match ty with
  | 0 => cv ad (.inr (.inr (am_nth 0 rs k)))
  | 2 => .long (Int64.ofInt (h k))
  | _ => .int (Int32.ofInt (h k))
/-- a cell as the kit has it -/
def am_e (ft : Nat → Nat → Nat) (ct : Nat → ClassId) (ad : Nat → Nat) (c : aC) (h : Nat → Int) : va_E := match c.1 with
  | 1 => .inl (ct 1, c.2.1, .inl fun j => Int32.ofInt (h j))
  | 2 => .inl (ct 2, c.2.1, .inr (.inl fun j => Int64.ofInt (h j)))
  | 3 => .inl (ct 3, c.2.1, .inl fun j => Int32.ofInt (h j))
  | 4 => .inl (ct 4, c.2.1, .inl fun j => Int32.ofInt (h j))
  | 5 => .inl (ct 5, c.2.1, .inr (.inr (.inr (.inr fun j => am_opt ad (am_nth 0 c.2.2 j)))))
  | n => .inr (n - 10, (List.range c.2.1).map fun k => am_fv ad (ft (n - 10) k) c.2.2 h k)
def am_w (ft : Nat → Nat → Nat) (ct : Nat → ClassId) (ad : Nat → Nat) (S : aS) : va_W := (List.range (S.1.length - 9)).map fun j => (ad (9 + j), am_e ft ct ad (am_nth am_o0 S.1 (9 + j)) (S.2 (9 + j)))
section WD
variable {ft : Nat → Nat → Nat} {ct : Nat → ClassId} {ad : Nat → Nat}
theorem am_w_len (S : aS) : (am_w ft ct ad S).length = S.1.length - 9 := by simp [am_w]
theorem am_w_get {S : aS} {r : Nat} (h8 : 9 ≤ r) (hr : r < S.1.length) : (am_w ft ct ad S)[r - 9]? = some (ad r, am_e ft ct ad (am_nth am_o0 S.1 r) (S.2 r)) := by
  simp only [am_w, List.getElem?_map]
  rw [List.getElem?_range (by omega)]
  show some (ad (9 + (r - 9)), am_e ft ct ad (am_nth am_o0 S.1 (9 + (r - 9))) (S.2 (9 + (r - 9)))) = _
  rw [show 9 + (r - 9) = r by omega]
theorem am_w_inv {S : aS} {k : Nat} {q : Nat × va_E} (h : (am_w ft ct ad S)[k]? = some q) : 9 + k < S.1.length ∧ q = (ad (9 + k), am_e ft ct ad (am_nth am_o0 S.1 (9 + k)) (S.2 (9 + k))) := by
  have hl : k < (am_w ft ct ad S).length := (List.getElem?_eq_some_iff.mp h).1
  rw [am_w_len] at hl
  have h2 := am_w_get (ft := ft) (ct := ct) (ad := ad) (S := S) (r := 9 + k) (by omega) (by omega)
  rw [show 9 + k - 9 = k by omega] at h2
  rw [h2] at h
  exact ⟨by omega, (Option.some.inj h).symm⟩
/-- the addresses stand one behind the other -/
def am_row (ad : Nat → Nat) : Prop := ∀ r, 9 ≤ r → ad r = ad 9 + (r - 9)
theorem am_w_D (hrow : am_row ad) (S : aS) : va_D (fun q => ad 9 ≤ q) (am_w ft ct ad S) := by
  refine ⟨fun i j p q hi hj hpq => ?_, fun k q hk => ?_⟩
  · obtain ⟨-, e1⟩ := am_w_inv hi
    obtain ⟨-, e2⟩ := am_w_inv hj
    rw [e1, e2] at hpq
    have h1 := hrow (9 + i) (by omega)
    have h2 := hrow (9 + j) (by omega)
    simp only at hpq
    omega
  · obtain ⟨-, e1⟩ := am_w_inv hk
    rw [e1, hrow (9 + k) (by omega)]
    show ad 9 ≤ _
    omega
/-- one cell anew -/
theorem am_w_set {S T : aS} {r : Nat} {x : va_E} (h8 : 9 ≤ r) (hr : r < S.1.length) (hl : T.1.length = S.1.length) (hx : am_e ft ct ad (am_nth am_o0 T.1 r) (T.2 r) = x)
    (ho : ∀ q, q ≠ r → 9 ≤ q → am_e ft ct ad (am_nth am_o0 T.1 q) (T.2 q) = am_e ft ct ad (am_nth am_o0 S.1 q) (S.2 q)) : (am_w ft ct ad S).set (r - 9) (ad r, x) = am_w ft ct ad T := by
  apply List.ext_getElem?
  intro k
  by_cases hk : k = r - 9
  · subst hk
    rw [List.getElem?_set_self (by rw [am_w_len]; omega), am_w_get h8 (by omega), hx]
  · rw [List.getElem?_set_ne (fun z => hk z.symm)]
    by_cases hlt : 9 + k < S.1.length
    · have e1 := am_w_get (ft := ft) (ct := ct) (ad := ad) (S := S) (r := 9 + k) (by omega) hlt
      have e2 := am_w_get (ft := ft) (ct := ct) (ad := ad) (S := T) (r := 9 + k) (by omega) (by omega)
      rw [show 9 + k - 9 = k by omega] at e1 e2
      rw [e1, e2, ho (9 + k) (by omega) (by omega)]
    · rw [List.getElem?_eq_none (by rw [am_w_len]; omega), List.getElem?_eq_none (by rw [am_w_len]; omega)]
theorem am_w_push {S T : aS} {c : aC} {x : va_E} (h8 : 9 ≤ S.1.length) (hT : T.1 = S.1 ++ [c]) (hx : am_e ft ct ad c (T.2 S.1.length) = x)
    (ho : ∀ q, q < S.1.length → T.2 q = S.2 q) : am_w ft ct ad S ++ [(ad S.1.length, x)] = am_w ft ct ad T := by
  have hlT : T.1.length = S.1.length + 1 := by rw [hT]; simp
  apply List.ext_getElem?
  intro k
  by_cases hlt : 9 + k < S.1.length
  · have e1 := am_w_get (ft := ft) (ct := ct) (ad := ad) (S := S) (r := 9 + k) (by omega) hlt
    have e2 := am_w_get (ft := ft) (ct := ct) (ad := ad) (S := T) (r := 9 + k) (by omega) (by omega)
    rw [show 9 + k - 9 = k by omega] at e1 e2
    rw [List.getElem?_append_left (by rw [am_w_len]; omega), e1, e2, hT, am_nth_app _ _ _ _ hlt, ho _ hlt]
  · rw [List.getElem?_append_right (by rw [am_w_len]; omega), am_w_len]
    by_cases he : 9 + k = S.1.length
    · have e2 := am_w_get (ft := ft) (ct := ct) (ad := ad) (S := T) (r := S.1.length) h8 (by omega)
      rw [show S.1.length - 9 = k by omega] at e2
      rw [show k - (S.1.length - 9) = 0 by omega, e2, hT, am_nth_last, hx]
      rfl
    · rw [List.getElem?_eq_none (by simp; omega), List.getElem?_eq_none (by rw [am_w_len]; omega)]
end WD
