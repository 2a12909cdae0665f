/-! places of lists -/
def am_nth {α : Type} (d : α) : List α → Nat → α
  | [], _ => d
  | x :: _, 0 => x
  | _ :: l, n + 1 => am_nth d l n
def am_put {α : Type} (x : α) : List α → Nat → List α
  | [], _ => []
  | _ :: l, 0 => x :: l
  | y :: l, n + 1 => y :: am_put x l n
theorem am_nth_get {α : Type} (d : α) : ∀ (l : List α) (k : Nat), k < l.length → l[k]? = some (am_nth d l k)
  | [], k, h => absurd h (Nat.not_lt_zero k)
  | x :: l, 0, _ => rfl
  | x :: l, k + 1, h => by
    rw [List.getElem?_cons_succ]
    exact am_nth_get d l k (Nat.lt_of_succ_lt_succ h)
theorem am_nth_out {α : Type} (d : α) : ∀ (l : List α) (k : Nat), l.length ≤ k → am_nth d l k = d
  | [], _, _ => rfl
  | x :: l, 0, h => absurd h (by simp)
  | x :: l, k + 1, h => am_nth_out d l k (Nat.le_of_succ_le_succ h)
theorem am_nth_app {α : Type} (d : α) : ∀ (l m : List α) (k : Nat), k < l.length → am_nth d (l ++ m) k = am_nth d l k
  | [], _, k, h => absurd h (Nat.not_lt_zero k)
  | x :: l, m, 0, _ => rfl
  | x :: l, m, k + 1, h => am_nth_app d l m k (Nat.lt_of_succ_lt_succ h)
theorem am_nth_last {α : Type} (d x : α) : ∀ (l : List α), am_nth d (l ++ [x]) l.length = x
  | [] => rfl
  | _ :: l => am_nth_last d x l
theorem am_put_len {α : Type} (x : α) : ∀ (l : List α) (k : Nat), (am_put x l k).length = l.length
  | [], _ => rfl
  | _ :: _, 0 => rfl
  | _ :: l, k + 1 => congrArg (· + 1) (am_put_len x l k)
theorem am_nth_put {α : Type} (d x : α) : ∀ (l : List α) (k j : Nat), k < l.length → am_nth d (am_put x l k) j = if j = k then x else am_nth d l j
  | [], k, _, h => absurd h (Nat.not_lt_zero k)
  | y :: l, 0, 0, _ => rfl
  | y :: l, 0, j + 1, _ => rfl
  | y :: l, k + 1, 0, _ => rfl
  | y :: l, k + 1, j + 1, h => by
    show am_nth d (am_put x l k) j = _
    rw [am_nth_put d x l k j (Nat.lt_of_succ_lt_succ h)]
    by_cases e : j = k
    · rw [if_pos e, if_pos (by rw [e])]
    · rw [if_neg e, if_neg (fun q => e (Nat.succ.inj q))]; rfl
theorem nb_ne {a b : Nat} (h : a ≠ b) : Nat.beq a b = false := by
  cases hh : Nat.beq a b with
  | false => rfl
  | true => exact absurd (Nat.eq_of_beq_eq_true hh) h
