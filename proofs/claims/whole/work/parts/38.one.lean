/-! one instruction of the abstract machine is one of the machine -/
def am_len : aI → Nat
  | .bipush _ => 2 | .ldc _ => 2 | .iload _ => 2 | .lload _ => 2 | .aload _ => 2 | .istore _ => 2 | .lstore _ => 2 | .astore _ => 2 | .newarray _ => 2
  | .sipush _ => 3 | .ldc_w _ => 3 | .ldc2_w _ => 3 | .ifCond .. => 3 | .if_icmp .. => 3 | .goto _ => 3 | .getfield _ => 3 | .putfield _ => 3 | .getstatic _ => 3 | .invokevirtual _ => 3 | .invokestatic _ => 3 | .invokespecial _ => 3 | .new _ => 3 | .anewarray _ => 3 | .iinc .. => 3
  | _ => 1
def am_lok (r : aI) (len : Nat) : Bool := match r with
  | .tableswitch .. => true
  | r => Nat.beq len (am_len r)
abbrev brP : (c : Prop) → Decidable c → Prop → Prop → Prop := fun c _ x y => (c → x) ∧ (¬ c → y)
abbrev ckP : (c : Prop) → Decidable c → Prop → Prop := fun c _ x => c ∧ x
theorem bin_ok {f : Int → Int → Int} {nxt : List aV → Prop} : ∀ {st : List aV}, am_bin (X := Prop) False f nxt st → ∃ a b st2, st = .inl b :: .inl a :: st2 ∧ nxt (.inl (f a b) :: st2)
  | .inl b :: .inl a :: st, h => ⟨a, b, st, rfl, h⟩
  | [], h => h.elim
  | [.inl _], h => h.elim
  | .inl _ :: .inr _ :: _, h => h.elim
  | .inr _ :: _, h => h.elim
theorem binL_ok {f : Int → Int → Int} {nxt : List aV → Prop} : ∀ {st : List aV}, am_binL (X := Prop) False f nxt st → ∃ a b st2, st = .inr (.inl b) :: .inr (.inl a) :: st2 ∧ nxt (.inr (.inl (f a b)) :: st2)
  | .inr (.inl b) :: .inr (.inl a) :: st, h => ⟨a, b, st, rfl, h⟩
  | [], h => h.elim
  | .inl _ :: _, h => h.elim
  | [.inr (.inl _)], h => h.elim
  | .inr (.inl _) :: .inl _ :: _, h => h.elim
  | .inr (.inl _) :: .inr (.inr _) :: _, h => h.elim
  | .inr (.inr _) :: _, h => h.elim
theorem binC_ok {f : Int → Int → Int} {nxt : List aV → Prop} : ∀ {st : List aV}, am_binC (X := Prop) False ckP f nxt st → ∃ a b st2, st = .inl b :: .inl a :: st2 ∧ am_rg (f a b) ∧ nxt (.inl (f a b) :: st2)
  | .inl b :: .inl a :: st, h => ⟨a, b, st, rfl, h.1, h.2⟩
  | [], h => h.elim
  | [.inl _], h => h.elim
  | .inl _ :: .inr _ :: _, h => h.elim
  | .inr _ :: _, h => h.elim
theorem binLC_ok {f : Int → Int → Int} {nxt : List aV → Prop} : ∀ {st : List aV}, am_binLC (X := Prop) False ckP f nxt st → ∃ a b st2, st = .inr (.inl b) :: .inr (.inl a) :: st2 ∧ am_rl (f a b) ∧ nxt (.inr (.inl (f a b)) :: st2)
  | .inr (.inl b) :: .inr (.inl a) :: st, h => ⟨a, b, st, rfl, h.1, h.2⟩
  | [], h => h.elim
  | .inl _ :: _, h => h.elim
  | [.inr (.inl _)], h => h.elim
  | .inr (.inl _) :: .inl _ :: _, h => h.elim
  | .inr (.inl _) :: .inr (.inr _) :: _, h => h.elim
  | .inr (.inr _) :: _, h => h.elim
theorem pop_ok : ∀ (n : Nat) (acc st as st2 : List aV), am_pop n acc st = some (as, st2) → ∃ x, as = x ++ acc ∧ st = x.reverse ++ st2 ∧ x.length = n
  | 0, acc, st, as, st2, h => by
    cases h
    exact ⟨[], rfl, rfl, rfl⟩
  | n + 1, acc, [], as, st2, h => by cases h
  | n + 1, acc, v :: st, as, st2, h => by
    obtain ⟨x, h1, h2, h3⟩ := pop_ok n (v :: acc) st as st2 h
    exact ⟨x ++ [v], by rw [h1]; simp, by rw [h2]; simp, by simp [h3]⟩
theorem bif_t {X : Type} {b : Bool} {x : Prop} (h : (bif b then x else False)) : b = true ∧ x := by
  cases b with
  | true => exact ⟨rfl, h⟩
  | false => exact h.elim
theorem bif_f {b : Bool} {x : Prop} (h : (bif b then False else x)) : b = false ∧ x := by
  cases b with
  | true => exact h.elim
  | false => exact ⟨rfl, h⟩
theorem nb08 {v : Nat} (h : (Nat.beq v 0 || Nat.beq v 8) = false) : v ≠ 0 ∧ v ≠ 8 := by
  constructor <;> (intro e; subst e; cases h)
/-- how a method leaves -/
def retOk (cc : ByteArray) (id pc : Nat) : Option aV → Prop
  | some (.inl x) => decode cc pc = .ok (.ireturn, 1) ∧ ∃ ty, mR id = some ty ∧ narrow ty (.int (Int32.ofInt x)) = .int (Int32.ofInt x)
  | some (.inr (.inl _)) => decode cc pc = .ok (.lreturn, 1) ∧ mR id = some .long
  | some (.inr (.inr _)) => False
  | none => decode cc pc = .ok (.return_, 1) ∧ mR id = none
def aLa (G : aG) : Launch := G.2.1
def adC (G : aG) : Nat → ClassId := G.2.2.2.2.2.2.2.2.2.2.2.2.1
def adI (G : aG) : Nat → Nat → Nat := G.2.2.2.2.2.2.2.2.2.2.2.2.2.1
def aCt (G : aG) : Nat → ClassId := G.2.2.2.2.2.2.2.2.2.2.2.2.2.2.1
def aMg (G : aG) (y : Nat) (as : List aV) (S : aS) (v : Option aV) (S2 : aS) : Prop := ok_h ftab S → (∀ x ∈ as, ok_v x) → aM (aLa G) (adC G) (adI G) (aCt G) (aAd G) y as S v S2
theorem nar_char {x : Int} (h : 0 ≤ x ∧ x < 65536) : narrow .char (.int (Int32.ofInt x)) = .int (Int32.ofInt x) := by
  have := pk_charN (q := x.toNat) (by omega)
  have e : nI x.toNat = Int32.ofInt x := by
    show Int32.ofNat x.toNat = _
    rw [show Int32.ofInt x = Int32.ofInt (x.toNat : Int) by rw [Int.toNat_of_nonneg h.1]]
    rfl
  rw [e] at this
  exact this.1
theorem nar_bool {x : Int} (h : am_tf x) : narrow .boolean (.int (Int32.ofInt x)) = .int (Int32.ofInt x) ∧ narrow .byte (.int (Int32.ofInt x)) = .int (Int32.ofInt x) := by
  rcases h with h | h <;> (subst h; exact ⟨rfl, rfl⟩)
theorem fits_ref {ty : FieldType} (h : refT ty = true) (a : Nat) : narrow ty (.ref a) = .ref a ∧ fits ty (.ref a) = true ∧ narrow ty .null = .null ∧ fits ty .null = true := by
  cases ty <;> first | (cases h; done) | exact ⟨rfl, rfl, rfl, rfl⟩
