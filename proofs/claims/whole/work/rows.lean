section
/-! THE ABSTRACT MACHINE: the class's and the reference's instructions over whole numbers. A value is an int, a long, or a reference (the number of a cell; 0 is null). A state is the shape (kind, size, references of each cell) and the contents. -/
abbrev aV : Type := Int ⊕ (Int ⊕ Nat)
abbrev aH : Type := Nat → Nat → Int
abbrev aC : Type := Nat × Nat × List Nat
abbrev aS : Type := List aC × aH
abbrev aL : Type := List (Nat × aV)
abbrev aI : Type := Jvm.ClassFile.Instr
/-- one place of the contents anew -/
def am_up (h : aH) (r k : Nat) (v : Int) : aH := fun q j => bif (Nat.beq q r && Nat.beq j k) then v else h q j
/-- n places of cell d from place dp on, out of cell s from sp on -/
def am_cp (h : aH) (s sp d dp n : Nat) : aH := fun q j => bif (Nat.beq q d && (Nat.ble dp j && Nat.blt j (dp + n))) then h s (sp + (j - dp)) else h q j
def am_nth {α : Type} (d : α) : List α → Nat → α
  | [], _ => d
  | x :: _, 0 => x
  | _ :: l, n + 1 => am_nth d l n
def am_put {α : Type} (x : α) : List α → Nat → List α
  | [], _ => []
  | _ :: l, 0 => x :: l
  | y :: l, n + 1 => y :: am_put x l n
def am_find (k : Nat) : aL → Option aV
  | [] => none
  | q :: l => bif Nat.beq q.1 k then some q.2 else am_find k l
def am_is2 : aV → Bool
  | .inr (.inl _) => true
  | _ => false
def am_set1 (k : Nat) (v : aV) (l : aL) : aL := (k, v) :: l.filter (fun q => !(Nat.beq q.1 k) && !(Nat.beq (q.1 + 1) k && am_is2 q.2))
def am_set2 (k : Nat) (v : aV) (l : aL) : aL := (k, v) :: l.filter (fun q => !(Nat.beq q.1 k) && (!(Nat.beq q.1 (k + 1)) && !(Nat.beq (q.1 + 1) k && am_is2 q.2)))
def w32 (z : Int) : Int := (z + 2147483648) % 4294967296 - 2147483648
def w64 (z : Int) : Int := (z + 9223372036854775808) % 18446744073709551616 - 9223372036854775808
def w8 (z : Int) : Int := (z + 128) % 256 - 128
def am_and (a b : Int) : Int := (Int32.ofInt a &&& Int32.ofInt b).toInt
def am_or (a b : Int) : Int := (Int32.ofInt a ||| Int32.ofInt b).toInt
def am_xor (a b : Int) : Int := (Int32.ofInt a ^^^ Int32.ofInt b).toInt
def am_shl (a b : Int) : Int := (Int32.ofInt a <<< (Int32.ofInt b &&& 31)).toInt
def am_shr (a b : Int) : Int := (Int32.ofInt a >>> (Int32.ofInt b &&& 31)).toInt
def am_ushr (a b : Int) : Int := ((Int32.ofInt a).toUInt32 >>> ((Int32.ofInt b).toUInt32 &&& Int32.toUInt32 31)).toInt32.toInt
def am_land (a b : Int) : Int := (Int64.ofInt a &&& Int64.ofInt b).toInt
def am_lxor (a b : Int) : Int := (Int64.ofInt a ^^^ Int64.ofInt b).toInt
def am_lshl (a b : Int) : Int := (Int64.ofInt a <<< ((Int32.ofInt b).toInt64 &&& 63)).toInt
def am_lshr (a b : Int) : Int := (Int64.ofInt a >>> ((Int32.ofInt b).toInt64 &&& 63)).toInt
def am_sgn (z : Int) : Int := if 0 < z then 1 else if z = 0 then 0 else -1
abbrev am_cnd : Jvm.ClassFile.Cond → Int → Int → Prop
  | .eq, a, b => a = b
  | .ne, a, b => ¬ a = b
  | .lt, a, b => a < b
  | .ge, a, b => b ≤ a
  | .gt, a, b => b < a
  | .le, a, b => a ≤ b
def am_cndD : (c : Jvm.ClassFile.Cond) → (a b : Int) → Decidable (am_cnd c a b)
  | .eq, a, b => inferInstanceAs (Decidable (a = b))
  | .ne, a, b => inferInstanceAs (Decidable (¬ a = b))
  | .lt, a, b => inferInstanceAs (Decidable (a < b))
  | .ge, a, b => inferInstanceAs (Decidable (b ≤ a))
  | .gt, a, b => inferInstanceAs (Decidable (b < a))
  | .le, a, b => inferInstanceAs (Decidable (a ≤ b))
def am_rg (z : Int) : Prop := -2147483648 ≤ z ∧ z < 2147483648
def am_rgD (z : Int) : Decidable (am_rg z) := inferInstanceAs (Decidable (_ ∧ _))
def am_rl (z : Int) : Prop := -9223372036854775808 ≤ z ∧ z < 9223372036854775808
def am_rlD (z : Int) : Decidable (am_rl z) := inferInstanceAs (Decidable (_ ∧ _))
def am_ix (i : Int) (n : Nat) : Prop := 0 ≤ i ∧ i < n
def am_ixD (i : Int) (n : Nat) : Decidable (am_ix i n) := inferInstanceAs (Decidable (_ ∧ _))
def am_tf (v : Int) : Prop := v = 0 ∨ v = 1
def am_tfD (v : Int) : Decidable (am_tf v) := inferInstanceAs (Decidable (_ ∨ _))
def am_o0 : aC := (0, 0, [])
/-- the kinds of what was there before: an int, a long, a byte array, a text -/
def am_xk (k : Nat) : Bool := Nat.beq k 6 || Nat.beq k 7 || Nat.beq k 8 || Nat.beq k 30
/-- a cell's kind: the first eight were there before, the others are the program's own -/
def am_kd (sh : List aC) (r : Nat) : Nat := bif Nat.ble 8 r then (bif am_xk (am_nth am_o0 sh r).1 then 0 else (am_nth am_o0 sh r).1) else (bif am_xk (am_nth am_o0 sh r).1 then (am_nth am_o0 sh r).1 else 0)
/-- n values off the pile, the last one first -/
def am_pop : Nat → List aV → List aV → Option (List aV × List aV)
  | 0, acc, st => some (acc, st)
  | _ + 1, _, [] => none
  | n + 1, acc, v :: st => am_pop n (v :: acc) st
section AM
variable {X : Type} (ft : Nat → Nat → Nat) (na : Nat → Nat) (bad : X) (br : (c : Prop) → Decidable c → X → X → X) (ck : (c : Prop) → Decidable c → X → X)
  (call : Nat → List aV → aS → (Option aV → aH → X) → X) (sp : Nat → List aV → aS → (aS → X) → X) (ret : Option aV → aS → X) (cut : Nat → aL → List aV → aS → X)
def am_sw (jmp : Nat → X) (v : Int) : Int → List Int → X
  | _, [] => bad
  | a, t :: l => br (v = a) (Int.instDecidableEq v a) (jmp t.toNat) (am_sw jmp v (a + 1) l)
def am_bin (f : Int → Int → Int) (nxt : List aV → X) : List aV → X
  | .inl b :: .inl a :: st => nxt (.inl (f a b) :: st)
  | _ => bad
def am_binL (f : Int → Int → Int) (nxt : List aV → X) : List aV → X
  | .inr (.inl b) :: .inr (.inl a) :: st => nxt (.inr (.inl (f a b)) :: st)
  | _ => bad
/-- the same, and the answer is in range -/
def am_binC (f : Int → Int → Int) (nxt : List aV → X) : List aV → X
  | .inl b :: .inl a :: st => ck (am_rg (f a b)) (am_rgD _) (nxt (.inl (f a b) :: st))
  | _ => bad
def am_binLC (f : Int → Int → Int) (nxt : List aV → X) : List aV → X
  | .inr (.inl b) :: .inr (.inl a) :: st => ck (am_rl (f a b)) (am_rlD _) (nxt (.inr (.inl (f a b)) :: st))
  | _ => bad
def am_getf (c : aC) (ty : Nat) (h : aH) (r k : Nat) : aV :=
  match ty with
  | 0 => .inr (.inr (am_nth 0 c.2.2 k))
  | 2 => .inr (.inl (h r k))
  | _ => .inl (h r k)
/-- is it an object, of that field -/
def am_isO (sh : List aC) (r k : Nat) : Bool := Nat.ble 10 (am_kd sh r) && Nat.blt k (am_nth am_o0 sh r).2.1
def am_putf (c : aC) (ty : Nat) (S : aS) (r k : Nat) (v : aV) (nxt : aS → X) : X :=
  match ty, v with
  | 0, .inr (.inr q) => nxt (am_put (c.1, c.2.1, am_put q c.2.2 k) S.1 r, S.2)
  | 1, .inl x => nxt (S.1, am_up S.2 r k x)
  | 2, .inr (.inl x) => nxt (S.1, am_up S.2 r k x)
  | 3, .inl x => ck (am_tf x) (am_tfD x) (nxt (S.1, am_up S.2 r k x))
  | _, _ => bad
/-- one of an array's references, by its place -/
def am_aal (i : Int) (nxt : Nat → X) : Int → List Nat → X
  | _, [] => bad
  | a, q :: l => br (i = a) (Int.instDecidableEq i a) (nxt q) (am_aal i nxt (a + 1) l)
/-- one instruction -/
def am_1 (i : Nat) (ins : aI) (ls : aL) (st : List aV) (S : aS) (nxt : aL → List aV → aS → X) (jmp : Nat → aL → List aV → aS → X) : X :=
  match ins with
  | .nop => cut (i + 1) ls st S
  | .iconst v => nxt ls (.inl v :: st) S
  | .bipush v => nxt ls (.inr (.inl v) :: st) S
  | .getstatic r => nxt ls (.inr (.inr r) :: st) S
  | .iload k => match am_find k ls with
    | some (.inl v) => nxt ls (.inl v :: st) S
    | _ => bad
  | .lload k => match am_find k ls with
    | some (.inr (.inl v)) => nxt ls (.inr (.inl v) :: st) S
    | _ => bad
  | .aload k => match am_find k ls with
    | some (.inr (.inr v)) => nxt ls (.inr (.inr v) :: st) S
    | _ => bad
  | .istore k => match st with
    | .inl v :: st => nxt (am_set1 k (.inl v) ls) st S
    | _ => bad
  | .lstore k => match st with
    | .inr (.inl v) :: st => nxt (am_set2 k (.inr (.inl v)) ls) st S
    | _ => bad
  | .astore k => match st with
    | .inr (.inr v) :: st => nxt (am_set1 k (.inr (.inr v)) ls) st S
    | _ => bad
  | .iinc k d => match am_find k ls with
    | some (.inl v) => ck (am_rg (v + d)) (am_rgD _) (nxt (am_set1 k (.inl (v + d)) ls) st S)
    | _ => bad
  | .iadd => am_bin bad (fun a b => w32 (a + b)) (fun st => nxt ls st S) st
  | .isub => am_bin bad (fun a b => w32 (a - b)) (fun st => nxt ls st S) st
  | .imul => am_bin bad (fun a b => w32 (a * b)) (fun st => nxt ls st S) st
  | .fadd => am_binC bad ck (fun a b => a + b) (fun st => nxt ls st S) st
  | .fsub => am_binC bad ck (fun a b => a - b) (fun st => nxt ls st S) st
  | .fmul => am_binC bad ck (fun a b => a * b) (fun st => nxt ls st S) st
  | .iand => am_bin bad am_and (fun st => nxt ls st S) st
  | .ior => am_bin bad am_or (fun st => nxt ls st S) st
  | .ixor => am_bin bad am_xor (fun st => nxt ls st S) st
  | .ishl => am_bin bad am_shl (fun st => nxt ls st S) st
  | .ishr => am_bin bad am_shr (fun st => nxt ls st S) st
  | .iushr => am_bin bad am_ushr (fun st => nxt ls st S) st
  | .idiv => match st with
    | .inl b :: .inl a :: st => ck (¬ b = 0) (am_cndD .ne b 0) (nxt ls (.inl (w32 (a.tdiv b)) :: st) S)
    | _ => bad
  | .irem => match st with
    | .inl b :: .inl a :: st => ck (¬ b = 0) (am_cndD .ne b 0) (nxt ls (.inl (a.tmod b) :: st) S)
    | _ => bad
  | .ineg => match st with
    | .inl a :: st => ck (am_rg (-a)) (am_rgD _) (nxt ls (.inl (-a) :: st) S)
    | _ => bad
  | .ladd => am_binL bad (fun a b => w64 (a + b)) (fun st => nxt ls st S) st
  | .lsub => am_binL bad (fun a b => w64 (a - b)) (fun st => nxt ls st S) st
  | .lmul => am_binL bad (fun a b => w64 (a * b)) (fun st => nxt ls st S) st
  | .dadd => am_binLC bad ck (fun a b => a + b) (fun st => nxt ls st S) st
  | .dsub => am_binLC bad ck (fun a b => a - b) (fun st => nxt ls st S) st
  | .dmul => am_binLC bad ck (fun a b => a * b) (fun st => nxt ls st S) st
  | .land => am_binL bad am_land (fun st => nxt ls st S) st
  | .lxor => am_binL bad am_lxor (fun st => nxt ls st S) st
  | .ldiv => match st with
    | .inr (.inl b) :: .inr (.inl a) :: st => ck (¬ b = 0) (am_cndD .ne b 0) (nxt ls (.inr (.inl (w64 (a.tdiv b))) :: st) S)
    | _ => bad
  | .lshl => match st with
    | .inl b :: .inr (.inl a) :: st => nxt ls (.inr (.inl (am_lshl a b)) :: st) S
    | _ => bad
  | .lshr => match st with
    | .inl b :: .inr (.inl a) :: st => nxt ls (.inr (.inl (am_lshr a b)) :: st) S
    | _ => bad
  | .i2l => match st with
    | .inl a :: st => nxt ls (.inr (.inl a) :: st) S
    | _ => bad
  | .l2i => match st with
    | .inr (.inl a) :: st => nxt ls (.inl (w32 a) :: st) S
    | _ => bad
  | .i2b => match st with
    | .inl a :: st => nxt ls (.inl (w8 a) :: st) S
    | _ => bad
  | .i2c => match st with
    | .inl a :: st => nxt ls (.inl (a % 65536) :: st) S
    | _ => bad
  | .lcmp => match st with
    | .inr (.inl b) :: .inr (.inl a) :: st => nxt ls (.inl (am_sgn (a - b)) :: st) S
    | _ => bad
  | .dup => match st with
    | v :: st => bif am_is2 v then bad else nxt ls (v :: v :: st) S
    | _ => bad
  | .pop => match st with
    | v :: st => bif am_is2 v then bad else nxt ls st S
    | _ => bad
  | .dup2 => match st with
    | .inr (.inl v) :: st => nxt ls (.inr (.inl v) :: .inr (.inl v) :: st) S
    | v :: w :: st => bif am_is2 v || am_is2 w then bad else nxt ls (v :: w :: v :: w :: st) S
    | _ => bad
  | .pop2 => match st with
    | .inr (.inl _) :: st => nxt ls st S
    | _ => bad
  | .ifCond c t => match st with
    | .inl v :: st => br (am_cnd c v 0) (am_cndD c v 0) (jmp t.toNat ls st S) (nxt ls st S)
    | _ => bad
  | .if_icmp c t => match st with
    | .inl b :: .inl a :: st => br (am_cnd c a b) (am_cndD c a b) (jmp t.toNat ls st S) (nxt ls st S)
    | _ => bad
  | .goto t => jmp t.toNat ls st S
  | .tableswitch d lo hi offs => match st with
    | .inl v :: st => br (v < lo ∨ hi < v) (inferInstanceAs (Decidable (_ ∨ _))) (jmp d.toNat ls st S) (am_sw bad br (fun t => jmp t ls st S) v lo offs.toList)
    | _ => bad
  | .getfield k => match st with
    | .inr (.inr r) :: st => bif am_isO S.1 r k then nxt ls (am_getf (am_nth am_o0 S.1 r) (ft ((am_nth am_o0 S.1 r).1 - 10) k) S.2 r k :: st) S else bad
    | _ => bad
  | .putfield k => match st with
    | v :: .inr (.inr r) :: st => bif am_isO S.1 r k && Nat.ble 8 r then am_putf bad ck (am_nth am_o0 S.1 r) (ft ((am_nth am_o0 S.1 r).1 - 10) k) S r k v (fun S => nxt ls st S) else bad
    | _ => bad
  | .iaload => match st with
    | .inl i :: .inr (.inr r) :: st => match am_kd S.1 r with
      | 1 | 6 => ck (am_ix i (am_nth am_o0 S.1 r).2.1) (am_ixD _ _) (nxt ls (.inl (S.2 r i.toNat) :: st) S)
      | _ => bad
    | _ => bad
  | .laload => match st with
    | .inl i :: .inr (.inr r) :: st => match am_kd S.1 r with
      | 2 | 7 => ck (am_ix i (am_nth am_o0 S.1 r).2.1) (am_ixD _ _) (nxt ls (.inr (.inl (S.2 r i.toNat)) :: st) S)
      | _ => bad
    | _ => bad
  | .baload => match st with
    | .inl i :: .inr (.inr r) :: st => match am_kd S.1 r with
      | 3 | 4 | 8 => ck (am_ix i (am_nth am_o0 S.1 r).2.1) (am_ixD _ _) (nxt ls (.inl (S.2 r i.toNat) :: st) S)
      | _ => bad
    | _ => bad
  | .aaload => match st with
    | .inl i :: .inr (.inr r) :: st => match am_kd S.1 r with
      | 5 => am_aal bad br i (fun q => nxt ls (.inr (.inr q) :: st) S) 0 (am_nth am_o0 S.1 r).2.2
      | _ => bad
    | _ => bad
  | .iastore => match st with
    | .inl v :: .inl i :: .inr (.inr r) :: st => match am_kd S.1 r with
      | 1 => ck (am_ix i (am_nth am_o0 S.1 r).2.1) (am_ixD _ _) (nxt ls st (S.1, am_up S.2 r i.toNat v))
      | _ => bad
    | _ => bad
  | .lastore => match st with
    | .inr (.inl v) :: .inl i :: .inr (.inr r) :: st => match am_kd S.1 r with
      | 2 => ck (am_ix i (am_nth am_o0 S.1 r).2.1) (am_ixD _ _) (nxt ls st (S.1, am_up S.2 r i.toNat v))
      | _ => bad
    | _ => bad
  | .bastore => match st with
    | .inl v :: .inl i :: .inr (.inr r) :: st => match am_kd S.1 r with
      | 3 => ck (am_ix i (am_nth am_o0 S.1 r).2.1) (am_ixD _ _) (nxt ls st (S.1, am_up S.2 r i.toNat (w8 v)))
      | 4 => ck (am_ix i (am_nth am_o0 S.1 r).2.1) (am_ixD _ _) (ck (am_tf v) (am_tfD v) (nxt ls st (S.1, am_up S.2 r i.toNat v)))
      | _ => bad
    | _ => bad
  | .aastore => match st with
    | .inr (.inr q) :: .inl i :: .inr (.inr r) :: st => match am_kd S.1 r with
      | 5 => ck (am_ix i (am_nth am_o0 S.1 r).2.1) (am_ixD _ _) (nxt ls st (am_put (5, (am_nth am_o0 S.1 r).2.1, am_put q (am_nth am_o0 S.1 r).2.2 i.toNat) S.1 r, S.2))
      | _ => bad
    | _ => bad
  | .arraylength => match st with
    | .inr (.inr r) :: st => match am_kd S.1 r with
      | 1 | 2 | 3 | 4 | 5 | 6 | 7 | 8 => nxt ls (.inl ((am_nth am_o0 S.1 r).2.1 : Int) :: st) S
      | _ => bad
    | _ => bad
  | .invokevirtual id => match am_pop (na id) [] st with
    | some (as, st) => call id as S (fun v h => nxt ls (match v with | some v => v :: st | none => st) (S.1, h))
    | none => bad
  | .invokestatic id => match am_pop (na id) [] st with
    | some (as, st) => call id as S (fun v h => nxt ls (match v with | some v => v :: st | none => st) (S.1, h))
    | none => bad
  | .invokespecial id => match am_pop (na id) [] st with
    | some (as, st) => sp id as S (fun S => nxt ls st S)
    | none => bad
  | .invokeinterface 0 _ => match st with
    | .inr (.inr _) :: st => nxt ls st S
    | _ => bad
  | .invokeinterface 1 _ => match st with
    | .inl n :: .inl dp :: .inr (.inr d) :: .inl sp :: .inr (.inr s) :: st => bif !(Nat.beq s d) && Nat.beq (am_kd S.1 s) 1 && Nat.beq (am_kd S.1 d) 1 then
        ck (0 ≤ n ∧ 0 ≤ sp ∧ 0 ≤ dp ∧ sp + n ≤ (am_nth am_o0 S.1 s).2.1 ∧ dp + n ≤ (am_nth am_o0 S.1 d).2.1) (inferInstanceAs (Decidable (_ ∧ _))) (nxt ls st (S.1, am_cp S.2 s sp.toNat d dp.toNat n.toNat))
      else bad
    | _ => bad
  | .new ci => nxt ls (.inr (.inr S.1.length) :: st) (S.1 ++ [(10 + ci, na (1000 + ci), List.replicate (na (1000 + ci)) 0)], fun q j => bif Nat.beq q S.1.length then 0 else S.2 q j)
  | .newarray ty => match st with
    | .inl n :: st => ck (0 ≤ n ∧ n ≤ 100000) (inferInstanceAs (Decidable (_ ∧ _))) (nxt ls (.inr (.inr S.1.length) :: st) (S.1 ++ [((match ty with | .int => 1 | .long => 2 | .byte => 3 | .boolean => 4 | _ => 0), n.toNat, [])], fun q j => bif Nat.beq q S.1.length then 0 else S.2 q j))
    | _ => bad
  | .anewarray _ => match st with
    | .inl n :: st => ck (0 ≤ n ∧ n ≤ 100000) (inferInstanceAs (Decidable (_ ∧ _))) (nxt ls (.inr (.inr S.1.length) :: st) (S.1 ++ [(5, n.toNat, List.replicate n.toNat 0)], fun q j => bif Nat.beq q S.1.length then 0 else S.2 q j))
    | _ => bad
  | .ireturn => match st with
    | [.inl v] => ret (some (.inl v)) S
    | _ => bad
  | .freturn => match st with
    | [.inl v] => ck (am_tf v) (am_tfD v) (ret (some (.inl v)) S)
    | _ => bad
  | .lreturn => match st with
    | [.inr (.inl v)] => ret (some (.inr (.inl v))) S
    | _ => bad
  | .return_ => match st with
    | [] => ret none S
    | _ => bad
  | _ => bad
/-- a stretch: up to a jump back, a mark, the end -/
def am_x (code : List aI) : Nat → Nat → List aI → aL → List aV → aS → X
  | 0, _, _, _, _, _ => bad
  | _ + 1, _, [], _, _, _ => bad
  | f + 1, i, ins :: rest, ls, st, S => am_1 ft na bad br ck call sp ret cut i ins ls st S (fun ls st S => am_x code f (i + 1) rest ls st S) (fun t ls st S => bif Nat.ble t i then cut t ls st S else am_x code f t (code.drop t) ls st S)
end AM
end
section
/-! numbers of 32 and 64 bits as whole numbers -/
theorem w32_bmod (z : Int) : w32 z = z.bmod 4294967296 := by
  unfold w32
  rw [Int.bmod_def]
  split <;> omega
theorem w64_bmod (z : Int) : w64 z = z.bmod 18446744073709551616 := by
  unfold w64
  rw [Int.bmod_def]
  split <;> omega
theorem w32_id {z : Int} (h : am_rg z) : w32 z = z := by
  obtain ⟨h1, h2⟩ := h
  unfold w32
  omega
theorem w64_id {z : Int} (h : am_rl z) : w64 z = z := by
  obtain ⟨h1, h2⟩ := h
  unfold w64
  omega
theorem w32_rg (z : Int) : am_rg (w32 z) := by
  unfold w32 am_rg
  omega
theorem w64_rl (z : Int) : am_rl (w64 z) := by
  unfold w64 am_rl
  omega
theorem t32 {z : Int} (h : am_rg z) : (Int32.ofInt z).toInt = z := Int32.toInt_ofInt_of_le h.1 h.2
theorem t64 {z : Int} (h : am_rl z) : (Int64.ofInt z).toInt = z := Int64.toInt_ofInt_of_le h.1 h.2
theorem r32 (x : Int32) : am_rg x.toInt := ⟨x.le_toInt, x.toInt_lt⟩
theorem r64 (x : Int64) : am_rl x.toInt := ⟨x.le_toInt, x.toInt_lt⟩
theorem o32 (z : Int) : Int32.ofInt (w32 z) = Int32.ofInt z := by
  apply Int32.toInt.inj
  rw [w32_bmod, Int32.toInt_ofInt, Int32.toInt_ofInt]
  exact Int.bmod_bmod
theorem o64 (z : Int) : Int64.ofInt (w64 z) = Int64.ofInt z := by
  apply Int64.toInt.inj
  rw [w64_bmod, Int64.toInt_ofInt, Int64.toInt_ofInt]
  exact Int.bmod_bmod
theorem add32 (a b : Int) : Int32.ofInt a + Int32.ofInt b = Int32.ofInt (a + b) := by
  apply Int32.toInt.inj
  rw [Int32.toInt_add, Int32.toInt_ofInt, Int32.toInt_ofInt, Int32.toInt_ofInt]
  simp
theorem sub32 (a b : Int) : Int32.ofInt a - Int32.ofInt b = Int32.ofInt (a - b) := by
  apply Int32.toInt.inj
  rw [Int32.toInt_sub, Int32.toInt_ofInt, Int32.toInt_ofInt, Int32.toInt_ofInt]
  simp
theorem mul32 (a b : Int) : Int32.ofInt a * Int32.ofInt b = Int32.ofInt (a * b) := by
  apply Int32.toInt.inj
  rw [Int32.toInt_mul, Int32.toInt_ofInt, Int32.toInt_ofInt, Int32.toInt_ofInt]
  simp
theorem neg32 (a : Int) : - Int32.ofInt a = Int32.ofInt (-a) := by
  apply Int32.toInt.inj
  rw [Int32.toInt_neg, Int32.toInt_ofInt, Int32.toInt_ofInt]
  simp
theorem add64 (a b : Int) : Int64.ofInt a + Int64.ofInt b = Int64.ofInt (a + b) := by
  apply Int64.toInt.inj
  rw [Int64.toInt_add, Int64.toInt_ofInt, Int64.toInt_ofInt, Int64.toInt_ofInt]
  simp
theorem sub64 (a b : Int) : Int64.ofInt a - Int64.ofInt b = Int64.ofInt (a - b) := by
  apply Int64.toInt.inj
  rw [Int64.toInt_sub, Int64.toInt_ofInt, Int64.toInt_ofInt, Int64.toInt_ofInt]
  simp
theorem mul64 (a b : Int) : Int64.ofInt a * Int64.ofInt b = Int64.ofInt (a * b) := by
  apply Int64.toInt.inj
  rw [Int64.toInt_mul, Int64.toInt_ofInt, Int64.toInt_ofInt, Int64.toInt_ofInt]
  simp
theorem div32 {a b : Int} (ha : am_rg a) (hb : am_rg b) : Int32.ofInt a / Int32.ofInt b = Int32.ofInt (a.tdiv b) := by
  apply Int32.toInt.inj
  rw [Int32.toInt_div, t32 ha, t32 hb, Int32.toInt_ofInt]
theorem div64 {a b : Int} (ha : am_rl a) (hb : am_rl b) : Int64.ofInt a / Int64.ofInt b = Int64.ofInt (a.tdiv b) := by
  apply Int64.toInt.inj
  rw [Int64.toInt_div, t64 ha, t64 hb, Int64.toInt_ofInt]
theorem rem32 {a b : Int} (ha : am_rg a) (hb : am_rg b) : Int32.ofInt a - Int32.ofInt a / Int32.ofInt b * Int32.ofInt b = Int32.ofInt (a.tmod b) := by
  rw [div32 ha hb, mul32, sub32]
  congr 1
  have h := Int.tmod_add_mul_tdiv a b
  rw [Int.mul_comm] at h
  omega
theorem tmod_rg {a b : Int} (ha : am_rg a) (hb : am_rg b) (h0 : ¬ b = 0) : am_rg (a.tmod b) := by
  obtain ⟨h1, h2⟩ := ha
  obtain ⟨h3, h4⟩ := hb
  have h := Int.natAbs_tmod a b
  have h5 : a.natAbs % b.natAbs ≤ a.natAbs := Nat.mod_le _ _
  have h6 : a.natAbs % b.natAbs < b.natAbs := Nat.mod_lt _ (by omega)
  refine ⟨?_, ?_⟩ <;> omega
theorem eq32 {a b : Int} (ha : am_rg a) (hb : am_rg b) : Int32.ofInt a = Int32.ofInt b ↔ a = b := by
  refine ⟨fun h => ?_, fun h => by rw [h]⟩
  have h2 := congrArg Int32.toInt h
  rwa [t32 ha, t32 hb] at h2
theorem eq64 {a b : Int} (ha : am_rl a) (hb : am_rl b) : Int64.ofInt a = Int64.ofInt b ↔ a = b := by
  refine ⟨fun h => ?_, fun h => by rw [h]⟩
  have h2 := congrArg Int64.toInt h
  rwa [t64 ha, t64 hb] at h2
theorem lt32 {a b : Int} (ha : am_rg a) (hb : am_rg b) : Int32.ofInt a < Int32.ofInt b ↔ a < b := by rw [Int32.lt_iff_toInt_lt, t32 ha, t32 hb]
theorem le32 {a b : Int} (ha : am_rg a) (hb : am_rg b) : Int32.ofInt a ≤ Int32.ofInt b ↔ a ≤ b := by rw [Int32.le_iff_toInt_le, t32 ha, t32 hb]
theorem lt64 {a b : Int} (ha : am_rl a) (hb : am_rl b) : Int64.ofInt a < Int64.ofInt b ↔ a < b := by rw [Int64.lt_iff_toInt_lt, t64 ha, t64 hb]
theorem rg0 : am_rg 0 := by unfold am_rg; omega
theorem wide32 {a : Int} (ha : am_rg a) : (Int32.ofInt a).toInt64 = Int64.ofInt a := by
  apply Int64.toInt.inj
  rw [Int32.toInt_toInt64, t32 ha, t64]
  obtain ⟨h1, h2⟩ := ha
  exact ⟨by omega, by omega⟩
theorem rg_rl {a : Int} (ha : am_rg a) : am_rl a := by
  obtain ⟨h1, h2⟩ := ha
  exact ⟨by omega, by omega⟩
theorem slim64 (a : Int) : (Int64.ofInt a).toInt32 = Int32.ofInt (w32 a) := by rw [o32]; exact Int64.toInt32_ofInt
theorem w8_rg (a : Int) : -128 ≤ w8 a ∧ w8 a < 128 := by unfold w8; omega
theorem w8_bmod (z : Int) : w8 z = z.bmod 256 := by
  unfold w8
  rw [Int.bmod_def]
  split <;> omega
theorem byte32 (a : Int) : (Int32.ofInt a).toInt8.toInt32 = Int32.ofInt (w8 a) := by
  apply Int32.toInt.inj
  have h1 : am_rg (w8 a) := by have := w8_rg a; unfold am_rg; omega
  rw [Int8.toInt_toInt32, Int32.toInt_toInt8, t32 h1, w8_bmod, Int32.toInt_ofInt]
  exact Int.bmod_bmod_of_dvd (show (2 ^ 8) ∣ Int32.size by decide)
theorem byteN {a : Int} (h : -128 ≤ a ∧ a < 128) : w8 a = a := by unfold w8; omega
theorem char32 (a : Int) : ((Int32.ofInt a).toUInt32 % 65536).toInt32 = Int32.ofInt (a % 65536) := by
  rw [pk_char]
  apply Int32.toInt.inj
  rw [nI_toInt (by omega), t32 (by unfold am_rg; omega)]
  have h : (Int32.ofInt a).toBitVec = BitVec.ofInt 32 a := rfl
  rw [h, BitVec.toNat_ofInt]
  omega
theorem sgn64 {a b : Int} (ha : am_rl a) (hb : am_rl b) : lg_cmp (Int64.ofInt a) (Int64.ofInt b) = Int32.ofInt (am_sgn (a - b)) := by
  unfold lg_cmp am_sgn
  by_cases h1 : b < a
  · rw [if_pos (show Int64.ofInt a > Int64.ofInt b from (lt64 hb ha).mpr h1), if_pos (by omega)]; rfl
  · rw [if_neg (show ¬ Int64.ofInt a > Int64.ofInt b from fun h => h1 ((lt64 hb ha).mp h)), if_neg (show ¬ 0 < a - b by omega)]
    by_cases h2 : a = b
    · rw [if_pos ((eq64 ha hb).mpr h2), if_pos (by omega)]; rfl
    · rw [if_neg (fun h => h2 ((eq64 ha hb).mp h)), if_neg (by omega)]; rfl
theorem sgn_rg (z : Int) : am_rg (am_sgn z) := by
  unfold am_sgn am_rg
  split
  · omega
  · split <;> omega
theorem ix32 {i : Int} {n : Nat} (hi : am_ix i n) (hr : am_rg i) : vp_in (Int32.ofInt i) n := by
  rw [vp_in_iff, t32 hr]
  exact hi
theorem cl32 {i : Int} (hr : am_rg i) : (Int32.ofInt i).toNatClampNeg = i.toNat := by
  rw [← Int32.toNat_toInt, t32 hr]
end
section
/-! the abstract machine's states as worlds of the kit -/
theorem am_nth_get {α : Type} (d : α) : ∀ (l : List α) (k : Nat), k < l.length → l[k]? = some (am_nth d l k)
  | [], k, h => absurd h (Nat.not_lt_zero k)
  | x :: l, 0, _ => rfl
  | x :: l, k + 1, h => by
    rw [List.getElem?_cons_succ]
    exact am_nth_get d l k (Nat.lt_of_succ_lt_succ h)
theorem am_nth_out {α : Type} (d : α) : ∀ (l : List α) (k : Nat), l.length ≤ k → am_nth d l k = d
  | [], _, _ => rfl
  | x :: l, 0, h => absurd h (by simp)
  | x :: l, k + 1, h => am_nth_out d l k (Nat.le_of_succ_le_succ h)
theorem am_nth_app {α : Type} (d : α) : ∀ (l m : List α) (k : Nat), k < l.length → am_nth d (l ++ m) k = am_nth d l k
  | [], _, k, h => absurd h (Nat.not_lt_zero k)
  | x :: l, m, 0, _ => rfl
  | x :: l, m, k + 1, h => am_nth_app d l m k (Nat.lt_of_succ_lt_succ h)
theorem am_nth_last {α : Type} (d x : α) : ∀ (l : List α), am_nth d (l ++ [x]) l.length = x
  | [] => rfl
  | _ :: l => am_nth_last d x l
theorem am_put_len {α : Type} (x : α) : ∀ (l : List α) (k : Nat), (am_put x l k).length = l.length
  | [], _ => rfl
  | _ :: _, 0 => rfl
  | _ :: l, k + 1 => congrArg (· + 1) (am_put_len x l k)
theorem am_nth_put {α : Type} (d x : α) : ∀ (l : List α) (k j : Nat), k < l.length → am_nth d (am_put x l k) j = if j = k then x else am_nth d l j
  | [], k, _, h => absurd h (Nat.not_lt_zero k)
  | y :: l, 0, 0, _ => rfl
  | y :: l, 0, j + 1, _ => rfl
  | y :: l, k + 1, 0, _ => rfl
  | y :: l, k + 1, j + 1, h => by
    show am_nth d (am_put x l k) j = _
    rw [am_nth_put d x l k j (Nat.lt_of_succ_lt_succ h)]
    by_cases e : j = k
    · rw [if_pos e, if_pos (by rw [e])]
    · rw [if_neg e, if_neg (fun q => e (Nat.succ.inj q))]; rfl
theorem nb_ne {a b : Nat} (h : a ≠ b) : Nat.beq a b = false := by
  cases hh : Nat.beq a b with
  | false => rfl
  | true => exact absurd (Nat.eq_of_beq_eq_true hh) h
theorem am_up_at (h : aH) (r k : Nat) (v : Int) (q j : Nat) : am_up h r k v q j = if q = r ∧ j = k then v else h q j := by
  unfold am_up
  by_cases e : q = r ∧ j = k
  · rw [if_pos e, e.1, e.2]; simp
  · rw [if_neg e]
    have : (Nat.beq q r && Nat.beq j k) = false := by
      rw [Bool.and_eq_false_iff]
      by_cases e1 : q = r
      · exact Or.inr (nb_ne fun z => e ⟨e1, z⟩)
      · exact Or.inl (nb_ne e1)
    rw [this]; rfl
/-- a value -/
def cv (ad : Nat → Nat) : aV → Value
  | .inl x => .int (Int32.ofInt x)
  | .inr (.inl x) => .long (Int64.ofInt x)
  | .inr (.inr r) => match r with
    | 0 => .null
    | r + 1 => .ref (ad (r + 1))
def ok_v : aV → Prop
  | .inl x => am_rg x
  | .inr (.inl x) => am_rl x
  | .inr (.inr _) => True
def ok_t (ty : Nat) (z : Int) : Prop := match ty with
  | 1 => am_rg z
  | 2 => am_rl z
  | 3 => am_tf z
  | 4 => -128 ≤ z ∧ z < 128
  | _ => True
/-- what a place of a cell holds -/
def am_ty (ft : Nat → Nat → Nat) (sh : List aC) (r k : Nat) : Nat := match am_kd sh r with
  | 1 => 1
  | 2 => 2
  | 3 => 4
  | 4 => 3
  | 5 => 0
  | 6 => 1
  | 7 => 2
  | 8 => 4
  | n => ft (n - 10) k
def ok_h (ft : Nat → Nat → Nat) (S : aS) : Prop := ∀ r k : Nat, ok_t (am_ty ft S.1 r k) (S.2 r k)
def am_opt (ad : Nat → Nat) : Nat → Option Nat
  | 0 => none
  | r + 1 => some (ad (r + 1))
def am_fv (ad : Nat → Nat) (ty : Nat) (rs : List Nat) (h : Nat → Int) (k : Nat) : Value := match ty with
  | 0 => cv ad (.inr (.inr (am_nth 0 rs k)))
  | 2 => .long (Int64.ofInt (h k))
  | _ => .int (Int32.ofInt (h k))
/-- a cell as the kit has it -/
def am_e (ft : Nat → Nat → Nat) (ct : Nat → ClassId) (ad : Nat → Nat) (c : aC) (h : Nat → Int) : va_E := match c.1 with
  | 1 => .inl (ct 1, c.2.1, .inl fun j => Int32.ofInt (h j))
  | 2 => .inl (ct 2, c.2.1, .inr (.inl fun j => Int64.ofInt (h j)))
  | 3 => .inl (ct 3, c.2.1, .inl fun j => Int32.ofInt (h j))
  | 4 => .inl (ct 4, c.2.1, .inl fun j => Int32.ofInt (h j))
  | 5 => .inl (ct 5, c.2.1, .inr (.inr (.inr (.inr fun j => am_opt ad (am_nth 0 c.2.2 j)))))
  | n => .inr (n - 10, (List.range c.2.1).map fun k => am_fv ad (ft (n - 10) k) c.2.2 h k)
def am_w (ft : Nat → Nat → Nat) (ct : Nat → ClassId) (ad : Nat → Nat) (S : aS) : va_W := (List.range (S.1.length - 8)).map fun j => (ad (8 + j), am_e ft ct ad (am_nth am_o0 S.1 (8 + j)) (S.2 (8 + j)))
section WD
variable {ft : Nat → Nat → Nat} {ct : Nat → ClassId} {ad : Nat → Nat}
theorem am_w_len (S : aS) : (am_w ft ct ad S).length = S.1.length - 8 := by simp [am_w]
theorem am_w_get {S : aS} {r : Nat} (h8 : 8 ≤ r) (hr : r < S.1.length) : (am_w ft ct ad S)[r - 8]? = some (ad r, am_e ft ct ad (am_nth am_o0 S.1 r) (S.2 r)) := by
  simp only [am_w, List.getElem?_map]
  rw [List.getElem?_range (by omega)]
  show some (ad (8 + (r - 8)), am_e ft ct ad (am_nth am_o0 S.1 (8 + (r - 8))) (S.2 (8 + (r - 8)))) = _
  rw [show 8 + (r - 8) = r by omega]
theorem am_w_inv {S : aS} {k : Nat} {q : Nat × va_E} (h : (am_w ft ct ad S)[k]? = some q) : 8 + k < S.1.length ∧ q = (ad (8 + k), am_e ft ct ad (am_nth am_o0 S.1 (8 + k)) (S.2 (8 + k))) := by
  have hl : k < (am_w ft ct ad S).length := (List.getElem?_eq_some_iff.mp h).1
  rw [am_w_len] at hl
  have h2 := am_w_get (ft := ft) (ct := ct) (ad := ad) (S := S) (r := 8 + k) (by omega) (by omega)
  rw [show 8 + k - 8 = k by omega] at h2
  rw [h2] at h
  exact ⟨by omega, (Option.some.inj h).symm⟩
/-- the addresses stand one behind the other -/
def am_row (ad : Nat → Nat) : Prop := ∀ r, 8 ≤ r → ad r = ad 8 + (r - 8)
theorem am_w_D (hrow : am_row ad) (S : aS) : va_D (fun q => ad 8 ≤ q) (am_w ft ct ad S) := by
  refine ⟨fun i j p q hi hj hpq => ?_, fun k q hk => ?_⟩
  · obtain ⟨-, e1⟩ := am_w_inv hi
    obtain ⟨-, e2⟩ := am_w_inv hj
    rw [e1, e2] at hpq
    have h1 := hrow (8 + i) (by omega)
    have h2 := hrow (8 + j) (by omega)
    simp only at hpq
    omega
  · obtain ⟨-, e1⟩ := am_w_inv hk
    rw [e1, hrow (8 + k) (by omega)]
    show ad 8 ≤ _
    omega
/-- one cell anew -/
theorem am_w_set {S T : aS} {r : Nat} {x : va_E} (h8 : 8 ≤ r) (hr : r < S.1.length) (hl : T.1.length = S.1.length) (hx : am_e ft ct ad (am_nth am_o0 T.1 r) (T.2 r) = x)
    (ho : ∀ q, q ≠ r → 8 ≤ q → am_e ft ct ad (am_nth am_o0 T.1 q) (T.2 q) = am_e ft ct ad (am_nth am_o0 S.1 q) (S.2 q)) : (am_w ft ct ad S).set (r - 8) (ad r, x) = am_w ft ct ad T := by
  apply List.ext_getElem?
  intro k
  by_cases hk : k = r - 8
  · subst hk
    rw [List.getElem?_set_self (by rw [am_w_len]; omega), am_w_get h8 (by omega), hx]
  · rw [List.getElem?_set_ne (fun z => hk z.symm)]
    by_cases hlt : 8 + k < S.1.length
    · have e1 := am_w_get (ft := ft) (ct := ct) (ad := ad) (S := S) (r := 8 + k) (by omega) hlt
      have e2 := am_w_get (ft := ft) (ct := ct) (ad := ad) (S := T) (r := 8 + k) (by omega) (by omega)
      rw [show 8 + k - 8 = k by omega] at e1 e2
      rw [e1, e2, ho (8 + k) (by omega) (by omega)]
    · rw [List.getElem?_eq_none (by rw [am_w_len]; omega), List.getElem?_eq_none (by rw [am_w_len]; omega)]
theorem am_w_push {S T : aS} {c : aC} {x : va_E} (h8 : 8 ≤ S.1.length) (hT : T.1 = S.1 ++ [c]) (hx : am_e ft ct ad c (T.2 S.1.length) = x)
    (ho : ∀ q, q < S.1.length → T.2 q = S.2 q) : am_w ft ct ad S ++ [(ad S.1.length, x)] = am_w ft ct ad T := by
  have hlT : T.1.length = S.1.length + 1 := by rw [hT]; simp
  apply List.ext_getElem?
  intro k
  by_cases hlt : 8 + k < S.1.length
  · have e1 := am_w_get (ft := ft) (ct := ct) (ad := ad) (S := S) (r := 8 + k) (by omega) hlt
    have e2 := am_w_get (ft := ft) (ct := ct) (ad := ad) (S := T) (r := 8 + k) (by omega) (by omega)
    rw [show 8 + k - 8 = k by omega] at e1 e2
    rw [List.getElem?_append_left (by rw [am_w_len]; omega), e1, e2, hT, am_nth_app _ _ _ _ hlt, ho _ hlt]
  · rw [List.getElem?_append_right (by rw [am_w_len]; omega), am_w_len]
    by_cases he : 8 + k = S.1.length
    · have e2 := am_w_get (ft := ft) (ct := ct) (ad := ad) (S := T) (r := S.1.length) h8 (by omega)
      rw [show S.1.length - 8 = k by omega] at e2
      rw [show k - (S.1.length - 8) = 0 by omega, e2, hT, am_nth_last, hx]
      rfl
    · rw [List.getElem?_eq_none (by simp; omega), List.getElem?_eq_none (by rw [am_w_len]; omega)]
end WD
end
