/-! THE ABSTRACT MACHINE: the class's and the reference's instructions over whole numbers. A value is an int, a long, or a reference (the number of a cell; 0 is null). A state is the shape (kind, size, references of each cell) and the contents. -/
abbrev aV : Type := Int ⊕ (Int ⊕ Nat)
abbrev aH : Type := Nat → Nat → Int
abbrev aC : Type := Nat × Nat × List Nat
abbrev aS : Type := List aC × aH
abbrev aL : Type := List (Nat × aV)
abbrev aI : Type := Jvm.ClassFile.Instr
/-- one place of the contents anew -/
def am_up (h : aH) (r k : Nat) (v : Int) : aH := fun q j => bif (Nat.beq q r && Nat.beq j k) then v else h q j
/-- n places of cell d from place dp on, out of cell s from sp on -/
def am_cp (h : aH) (s sp d dp n : Nat) : aH := fun q j => bif (Nat.beq q d && (Nat.ble dp j && Nat.blt j (dp + n))) then h s (sp + (j - dp)) else h q j
def am_find (k : Nat) : aL → Option aV
  | [] => none
  | q :: l => bif Nat.beq q.1 k then some q.2 else am_find k l
def am_is2 : aV → Bool
  | .inr (.inl _) => true
  | _ => false
def am_set1 (k : Nat) (v : aV) (l : aL) : aL := (k, v) :: l.filter (fun q => !(Nat.beq q.1 k) && !(Nat.beq (q.1 + 1) k && am_is2 q.2))
def am_set2 (k : Nat) (v : aV) (l : aL) : aL := (k, v) :: l.filter (fun q => !(Nat.beq q.1 k) && (!(Nat.beq q.1 (k + 1)) && !(Nat.beq (q.1 + 1) k && am_is2 q.2)))
def w32 (z : Int) : Int := (z + 2147483648) % 4294967296 - 2147483648
def w64 (z : Int) : Int := (z + 9223372036854775808) % 18446744073709551616 - 9223372036854775808
def w8 (z : Int) : Int := (z + 128) % 256 - 128
def am_and (a b : Int) : Int := (Int32.ofInt a &&& Int32.ofInt b).toInt
def am_or (a b : Int) : Int := (Int32.ofInt a ||| Int32.ofInt b).toInt
def am_xor (a b : Int) : Int := (Int32.ofInt a ^^^ Int32.ofInt b).toInt
def am_shl (a b : Int) : Int := (Int32.ofInt a <<< (Int32.ofInt b &&& 31)).toInt
def am_shr (a b : Int) : Int := (Int32.ofInt a >>> (Int32.ofInt b &&& 31)).toInt
def am_ushr (a b : Int) : Int := ((Int32.ofInt a).toUInt32 >>> ((Int32.ofInt b).toUInt32 &&& Int32.toUInt32 31)).toInt32.toInt
def am_land (a b : Int) : Int := (Int64.ofInt a &&& Int64.ofInt b).toInt
def am_lxor (a b : Int) : Int := (Int64.ofInt a ^^^ Int64.ofInt b).toInt
def am_lshl (a b : Int) : Int := (Int64.ofInt a <<< ((Int32.ofInt b).toInt64 &&& 63)).toInt
def am_lshr (a b : Int) : Int := (Int64.ofInt a >>> ((Int32.ofInt b).toInt64 &&& 63)).toInt
def am_lushr (a b : Int) : Int := ((Int64.ofInt a).toUInt64 >>> ((Int32.ofInt b).toInt64.toUInt64 &&& Int64.toUInt64 63)).toInt64.toInt
def am_sgn (z : Int) : Int := if 0 < z then 1 else if z = 0 then 0 else -1
abbrev am_cnd : Jvm.ClassFile.Cond → Int → Int → Prop
  | .eq, a, b => a = b
  | .ne, a, b => ¬ a = b
  | .lt, a, b => a < b
  | .ge, a, b => b ≤ a
  | .gt, a, b => b < a
  | .le, a, b => a ≤ b
def am_cndD : (c : Jvm.ClassFile.Cond) → (a b : Int) → Decidable (am_cnd c a b)
  | .eq, a, b => inferInstanceAs (Decidable (a = b))
  | .ne, a, b => inferInstanceAs (Decidable (¬ a = b))
  | .lt, a, b => inferInstanceAs (Decidable (a < b))
  | .ge, a, b => inferInstanceAs (Decidable (b ≤ a))
  | .gt, a, b => inferInstanceAs (Decidable (b < a))
  | .le, a, b => inferInstanceAs (Decidable (a ≤ b))
def am_rg (z : Int) : Prop := -2147483648 ≤ z ∧ z < 2147483648
def am_rgD (z : Int) : Decidable (am_rg z) := inferInstanceAs (Decidable (_ ∧ _))
def am_rl (z : Int) : Prop := -9223372036854775808 ≤ z ∧ z < 9223372036854775808
def am_rlD (z : Int) : Decidable (am_rl z) := inferInstanceAs (Decidable (_ ∧ _))
def am_ix (i : Int) (n : Nat) : Prop := 0 ≤ i ∧ i < n
def am_ixD (i : Int) (n : Nat) : Decidable (am_ix i n) := inferInstanceAs (Decidable (_ ∧ _))
def am_tf (v : Int) : Prop := v = 0 ∨ v = 1
def am_tfD (v : Int) : Decidable (am_tf v) := inferInstanceAs (Decidable (_ ∨ _))
def am_sz : List aC → Nat
  | [] => 0
  | c :: l => c.2.1 + am_sz l
def am_o0 : aC := (0, 0, [])
/-- the kinds of what was there before: an int, a long, a byte array, a text -/
def am_xk (k : Nat) : Bool := Nat.beq k 6 || Nat.beq k 7 || Nat.beq k 8 || Nat.beq k 30
/-- a cell's kind: the first nine were there before, the others are the program's own -/
def am_kd (sh : List aC) (r : Nat) : Nat := bif Nat.beq r 0 || Nat.beq r 8 then 0 else bif Nat.ble 9 r then (bif am_xk (am_nth am_o0 sh r).1 then 0 else (am_nth am_o0 sh r).1) else (bif am_xk (am_nth am_o0 sh r).1 then (am_nth am_o0 sh r).1 else 0)
/-- a new cell's contents -/
def am_z (S : aS) : aH := fun q j => bif Nat.beq q S.1.length then 0 else S.2 q j
/-- n values off the pile, the last one first -/
def am_pop : Nat → List aV → List aV → Option (List aV × List aV)
  | 0, acc, st => some (acc, st)
  | _ + 1, _, [] => none
  | n + 1, acc, v :: st => am_pop n (v :: acc) st
/-- the words of a pile -/
def am_cat : List aV → Nat
  | [] => 0
  | v :: st => (bif am_is2 v then 2 else 1) + am_cat st
def am_psh : Option aV → List aV → List aV
  | some v, st => v :: st
  | none, st => st
section AM
variable {X : Type} (ft : Nat → Nat → Nat) (na : Nat → Nat) (lim : Nat × Nat) (bad : X) (br : (c : Prop) → Decidable c → X → X → X) (ck : (c : Prop) → Decidable c → X → X)
  (call : Nat → List aV → aS → (Option aV → aH → X) → X) (sp : Nat → List aV → aS → (aS → X) → X) (ret : Option aV → aS → X) (cut : Nat → aL → List aV → aS → X)
def am_sw (jmp : Nat → X) (v : Int) : Int → List Int → X
  | _, [] => bad
  | a, t :: l => br (v = a) (Int.instDecidableEq v a) (jmp t.toNat) (am_sw jmp v (a + 1) l)
def am_bin (f : Int → Int → Int) (nxt : List aV → X) : List aV → X
  | .inl b :: .inl a :: st => nxt (.inl (f a b) :: st)
  | _ => bad
def am_binL (f : Int → Int → Int) (nxt : List aV → X) : List aV → X
  | .inr (.inl b) :: .inr (.inl a) :: st => nxt (.inr (.inl (f a b)) :: st)
  | _ => bad
/-- the same, and the answer is in range -/
def am_binC (f : Int → Int → Int) (nxt : List aV → X) : List aV → X
  | .inl b :: .inl a :: st => ck (am_rg (f a b)) (am_rgD _) (nxt (.inl (f a b) :: st))
  | _ => bad
def am_binLC (f : Int → Int → Int) (nxt : List aV → X) : List aV → X
  | .inr (.inl b) :: .inr (.inl a) :: st => ck (am_rl (f a b)) (am_rlD _) (nxt (.inr (.inl (f a b)) :: st))
  | _ => bad
def am_getf (c : aC) (ty : Nat) (h : aH) (r k : Nat) : aV :=
  match ty with
  | 0 => .inr (.inr (am_nth 0 c.2.2 k))
  | 2 => .inr (.inl (h r k))
  | _ => .inl (h r k)
/-- is it an object, of that field -/
def am_isO (sh : List aC) (r n : Nat) : Bool := Nat.beq (am_kd sh r) (10 + n / 100) && Nat.blt (n % 100) (am_nth am_o0 sh r).2.1
def am_putf (c : aC) (ty : Nat) (S : aS) (r k : Nat) (v : aV) (nxt : aS → X) : X :=
  match ty, v with
  | 0, .inr (.inr q) => bif Nat.blt k c.2.2.length then nxt (am_put (c.1, c.2.1, am_put q c.2.2 k) S.1 r, S.2) else bad
  | 1, .inl x => nxt (S.1, am_up S.2 r k x)
  | 2, .inr (.inl x) => nxt (S.1, am_up S.2 r k x)
  | 3, .inl x => ck (am_tf x) (am_tfD x) (nxt (S.1, am_up S.2 r k x))
  | _, _ => bad
/-- one of an array's references, by its place -/
def am_aal (i : Int) (nxt : Nat → X) : Int → List Nat → X
  | _, [] => bad
  | a, q :: l => br (i = a) (Int.instDecidableEq i a) (nxt q) (am_aal i nxt (a + 1) l)
/-- one instruction -/
def am_1 (i : Nat) (ins : aI) (ls : aL) (st : List aV) (S : aS) (nxt : aL → List aV → aS → X) (jmp : Nat → aL → List aV → aS → X) : X :=
  match ins with
  | .nop => cut (i + 1) ls st S
  | .iconst v => nxt ls (.inl v :: st) S
  | .bipush v => nxt ls (.inr (.inl v) :: st) S
  | .getstatic r => nxt ls (.inr (.inr r) :: st) S
  | .iload k => match am_find k ls with
    | some (.inl v) => nxt ls (.inl v :: st) S
    | _ => bad
  | .lload k => match am_find k ls with
    | some (.inr (.inl v)) => nxt ls (.inr (.inl v) :: st) S
    | _ => bad
  | .aload k => match am_find k ls with
    | some (.inr (.inr v)) => bif Nat.beq v 0 || Nat.beq v 8 then bad else nxt ls (.inr (.inr v) :: st) S
    | _ => bad
  | .istore k => match st with
    | .inl v :: st => nxt (am_set1 k (.inl v) ls) st S
    | _ => bad
  | .lstore k => match st with
    | .inr (.inl v) :: st => nxt (am_set2 k (.inr (.inl v)) ls) st S
    | _ => bad
  | .astore k => match st with
    | .inr (.inr v) :: st => bif Nat.beq v 0 || Nat.beq v 8 then bad else nxt (am_set1 k (.inr (.inr v)) ls) st S
    | _ => bad
  | .iinc k d => match am_find k ls with
    | some (.inl v) => ck (am_rg (v + d)) (am_rgD _) (nxt (am_set1 k (.inl (v + d)) ls) st S)
    | _ => bad
  | .iadd => am_bin bad (fun a b => w32 (a + b)) (fun st => nxt ls st S) st
  | .isub => am_bin bad (fun a b => w32 (a - b)) (fun st => nxt ls st S) st
  | .imul => am_bin bad (fun a b => w32 (a * b)) (fun st => nxt ls st S) st
  | .fadd => am_binC bad ck (fun a b => a + b) (fun st => nxt ls st S) st
  | .fsub => am_binC bad ck (fun a b => a - b) (fun st => nxt ls st S) st
  | .fmul => am_binC bad ck (fun a b => a * b) (fun st => nxt ls st S) st
  | .iand => am_bin bad am_and (fun st => nxt ls st S) st
  | .ior => am_bin bad am_or (fun st => nxt ls st S) st
  | .ixor => am_bin bad am_xor (fun st => nxt ls st S) st
  | .ishl => am_bin bad am_shl (fun st => nxt ls st S) st
  | .ishr => am_bin bad am_shr (fun st => nxt ls st S) st
  | .iushr => am_bin bad am_ushr (fun st => nxt ls st S) st
  | .idiv => match st with
    | .inl b :: .inl a :: st => ck (¬ b = 0) (am_cndD .ne b 0) (nxt ls (.inl (w32 (a.tdiv b)) :: st) S)
    | _ => bad
  | .irem => match st with
    | .inl b :: .inl a :: st => ck (¬ b = 0) (am_cndD .ne b 0) (nxt ls (.inl (a.tmod b) :: st) S)
    | _ => bad
  | .ineg => match st with
    | .inl a :: st => ck (am_rg (-a)) (am_rgD _) (nxt ls (.inl (-a) :: st) S)
    | _ => bad
  | .ladd => am_binL bad (fun a b => w64 (a + b)) (fun st => nxt ls st S) st
  | .lsub => am_binL bad (fun a b => w64 (a - b)) (fun st => nxt ls st S) st
  | .lmul => am_binL bad (fun a b => w64 (a * b)) (fun st => nxt ls st S) st
  | .dadd => am_binLC bad ck (fun a b => a + b) (fun st => nxt ls st S) st
  | .dsub => am_binLC bad ck (fun a b => a - b) (fun st => nxt ls st S) st
  | .dmul => am_binLC bad ck (fun a b => a * b) (fun st => nxt ls st S) st
  | .land => am_binL bad am_land (fun st => nxt ls st S) st
  | .lxor => am_binL bad am_lxor (fun st => nxt ls st S) st
  | .ldiv => match st with
    | .inr (.inl b) :: .inr (.inl a) :: st => ck (¬ b = 0) (am_cndD .ne b 0) (nxt ls (.inr (.inl (w64 (a.tdiv b))) :: st) S)
    | _ => bad
  | .lshl => match st with
    | .inl b :: .inr (.inl a) :: st => nxt ls (.inr (.inl (am_lshl a b)) :: st) S
    | _ => bad
  | .lshr => match st with
    | .inl b :: .inr (.inl a) :: st => nxt ls (.inr (.inl (am_lshr a b)) :: st) S
    | _ => bad
  | .lushr => match st with
    | .inl b :: .inr (.inl a) :: st => nxt ls (.inr (.inl (am_lushr a b)) :: st) S
    | _ => bad
  | .i2l => match st with
    | .inl a :: st => nxt ls (.inr (.inl a) :: st) S
    | _ => bad
  | .l2i => match st with
    | .inr (.inl a) :: st => nxt ls (.inl (w32 a) :: st) S
    | _ => bad
  | .i2b => match st with
    | .inl a :: st => nxt ls (.inl (w8 a) :: st) S
    | _ => bad
  | .i2c => match st with
    | .inl a :: st => nxt ls (.inl (a % 65536) :: st) S
    | _ => bad
  | .lcmp => match st with
    | .inr (.inl b) :: .inr (.inl a) :: st => nxt ls (.inl (am_sgn (a - b)) :: st) S
    | _ => bad
  | .dup => match st with
    | v :: st => bif am_is2 v then bad else nxt ls (v :: v :: st) S
    | _ => bad
  | .pop => match st with
    | v :: st => bif am_is2 v then bad else nxt ls st S
    | _ => bad
  | .dup2 => match st with
    | .inr (.inl v) :: st => nxt ls (.inr (.inl v) :: .inr (.inl v) :: st) S
    | v :: w :: st => bif am_is2 v || am_is2 w then bad else nxt ls (v :: w :: v :: w :: st) S
    | _ => bad
  | .pop2 => match st with
    | .inr (.inl _) :: st => nxt ls st S
    | _ => bad
  | .ifCond c t => match st with
    | .inl v :: st => br (am_cnd c v 0) (am_cndD c v 0) (jmp t.toNat ls st S) (nxt ls st S)
    | _ => bad
  | .if_icmp c t => match st with
    | .inl b :: .inl a :: st => br (am_cnd c a b) (am_cndD c a b) (jmp t.toNat ls st S) (nxt ls st S)
    | _ => bad
  | .goto t => jmp t.toNat ls st S
  | .tableswitch d lo hi offs => match st with
    | .inl v :: st => br (v < lo ∨ hi < v) (inferInstanceAs (Decidable (_ ∨ _))) (jmp d.toNat ls st S) (am_sw bad br (fun t => jmp t ls st S) v lo offs.toList)
    | _ => bad
  | .getfield n => match st with
    | .inr (.inr r) :: st => bif am_isO S.1 r n then nxt ls (am_getf (am_nth am_o0 S.1 r) (ft (n / 100) (n % 100)) S.2 r (n % 100) :: st) S else bad
    | _ => bad
  | .putfield n => match st with
    | v :: .inr (.inr r) :: st => bif am_isO S.1 r n && Nat.ble 9 r then am_putf bad ck (am_nth am_o0 S.1 r) (ft (n / 100) (n % 100)) S r (n % 100) v (fun S => nxt ls st S) else bad
    | _ => bad
  | .iaload => match st with
    | .inl i :: .inr (.inr r) :: st => match am_kd S.1 r with
      | 1 | 6 => ck (am_ix i (am_nth am_o0 S.1 r).2.1) (am_ixD _ _) (nxt ls (.inl (S.2 r i.toNat) :: st) S)
      | _ => bad
    | _ => bad
  | .laload => match st with
    | .inl i :: .inr (.inr r) :: st => match am_kd S.1 r with
      | 2 | 7 => ck (am_ix i (am_nth am_o0 S.1 r).2.1) (am_ixD _ _) (nxt ls (.inr (.inl (S.2 r i.toNat)) :: st) S)
      | _ => bad
    | _ => bad
  | .baload => match st with
    | .inl i :: .inr (.inr r) :: st => match am_kd S.1 r with
      | 3 | 4 | 8 => ck (am_ix i (am_nth am_o0 S.1 r).2.1) (am_ixD _ _) (nxt ls (.inl (S.2 r i.toNat) :: st) S)
      | _ => bad
    | _ => bad
  | .aaload => match st with
    | .inl i :: .inr (.inr r) :: st => match am_kd S.1 r with
      | 5 => ck (am_ix i (am_nth am_o0 S.1 r).2.1) (am_ixD _ _) (am_aal bad br i (fun q => nxt ls (.inr (.inr q) :: st) S) 0 (am_nth am_o0 S.1 r).2.2)
      | _ => bad
    | _ => bad
  | .iastore => match st with
    | .inl v :: .inl i :: .inr (.inr r) :: st => match am_kd S.1 r with
      | 1 => ck (am_ix i (am_nth am_o0 S.1 r).2.1) (am_ixD _ _) (nxt ls st (S.1, am_up S.2 r i.toNat v))
      | _ => bad
    | _ => bad
  | .lastore => match st with
    | .inr (.inl v) :: .inl i :: .inr (.inr r) :: st => match am_kd S.1 r with
      | 2 => ck (am_ix i (am_nth am_o0 S.1 r).2.1) (am_ixD _ _) (nxt ls st (S.1, am_up S.2 r i.toNat v))
      | _ => bad
    | _ => bad
  | .bastore => match st with
    | .inl v :: .inl i :: .inr (.inr r) :: st => match am_kd S.1 r with
      | 3 => ck (am_ix i (am_nth am_o0 S.1 r).2.1) (am_ixD _ _) (nxt ls st (S.1, am_up S.2 r i.toNat (w8 v)))
      | 4 => ck (am_ix i (am_nth am_o0 S.1 r).2.1) (am_ixD _ _) (ck (am_tf v) (am_tfD v) (nxt ls st (S.1, am_up S.2 r i.toNat v)))
      | _ => bad
    | _ => bad
  | .aastore => match st with
    | .inr (.inr q) :: .inl i :: .inr (.inr r) :: st => match am_kd S.1 r with
      | 5 => bif !(Nat.beq (am_kd S.1 q) 19) then bad else ck (am_ix i (am_nth am_o0 S.1 r).2.1) (am_ixD _ _) (ck (am_ix i (am_nth am_o0 S.1 r).2.2.length) (am_ixD _ _) (nxt ls st (am_put (5, (am_nth am_o0 S.1 r).2.1, am_put q (am_nth am_o0 S.1 r).2.2 i.toNat) S.1 r, S.2)))
      | _ => bad
    | _ => bad
  | .arraylength => match st with
    | .inr (.inr r) :: st => match am_kd S.1 r with
      | 1 | 2 | 3 | 4 | 5 | 6 | 7 | 8 => ck (am_rg ((am_nth am_o0 S.1 r).2.1 : Int)) (am_rgD _) (nxt ls (.inl ((am_nth am_o0 S.1 r).2.1 : Int) :: st) S)
      | _ => bad
    | _ => bad
  | .invokevirtual id => match am_pop (na id) [] st with
    | some (.inr (.inr r) :: as, st) => bif Nat.beq (am_kd S.1 r) (na (2000 + id)) && Nat.ble (am_cat st) 8 then call id (.inr (.inr r) :: as) S (fun v h => nxt ls (am_psh v st) (S.1, h)) else bad
    | _ => bad
  | .invokestatic id => match am_pop (na id) [] st with
    | some (as, st) => bif Nat.ble (am_cat st) 8 then call id as S (fun v h => nxt ls (am_psh v st) (S.1, h)) else bad
    | none => bad
  | .invokespecial id => match am_pop (na id) [] st with
    | some (.inr (.inr r) :: as, st) => bif Nat.beq (am_kd S.1 r) (na (2000 + id)) && Nat.ble (am_cat st) 8 then sp id (.inr (.inr r) :: as) S (fun S => nxt ls st S) else bad
    | _ => bad
  | .invokeinterface 0 _ => match st with
    | .inr (.inr v) :: st => bif Nat.beq v 0 || Nat.beq v 8 || Nat.blt 8 (am_cat st) then bad else nxt ls st S
    | _ => bad
  | .invokeinterface 1 _ => match st with
    | .inl n :: .inl dp :: .inr (.inr d) :: .inl sp :: .inr (.inr s) :: st => bif !(Nat.beq s d) && Nat.ble (am_cat st) 8 && Nat.beq (am_kd S.1 s) 1 && Nat.beq (am_kd S.1 d) 1 then
        ck (0 ≤ n ∧ 0 ≤ sp ∧ 0 ≤ dp ∧ sp + n ≤ (am_nth am_o0 S.1 s).2.1 ∧ dp + n ≤ (am_nth am_o0 S.1 d).2.1) (inferInstanceAs (Decidable (_ ∧ _))) (nxt ls st (S.1, am_cp S.2 s sp.toNat d dp.toNat n.toNat))
      else bad
    | _ => bad
  | .invokeinterface 2 _ => bif Nat.ble (am_cat st) 10 then am_bin bad (fun a b => max a b) (fun st => nxt ls st S) st else bad
  | .invokeinterface 3 _ => bif Nat.ble (am_cat st) 10 then am_bin bad (fun a b => min a b) (fun st => nxt ls st S) st else bad
  | .invokeinterface 4 _ => match st with
    | .inl a :: st => bif Nat.ble (am_cat st) 8 then ck (am_rg (-a)) (am_rgD _) (nxt ls (.inl (max a (-a)) :: st) S) else bad
    | _ => bad
  | .new ci => ck (S.1.length + 1 ≤ lim.1 ∧ am_sz S.1 + na (1000 + ci) ≤ lim.2) (inferInstanceAs (Decidable (_ ∧ _))) <| nxt ls (.inr (.inr S.1.length) :: st) (S.1 ++ [(10 + ci, na (1000 + ci), List.replicate (na (1000 + ci)) 0)], am_z S)
  | .newarray ty => match st with
    | .inl n :: st => ck (0 ≤ n ∧ n ≤ 100000 ∧ S.1.length + 1 ≤ lim.1 ∧ am_sz S.1 + n.toNat ≤ lim.2) (inferInstanceAs (Decidable (_ ∧ _))) (nxt ls (.inr (.inr S.1.length) :: st) (S.1 ++ [((match ty with | .int => 1 | .long => 2 | .byte => 3 | .boolean => 4 | _ => 0), n.toNat, [])], am_z S))
    | _ => bad
  | .anewarray _ => match st with
    | .inl n :: st => ck (0 ≤ n ∧ n ≤ 100000 ∧ S.1.length + 1 ≤ lim.1 ∧ am_sz S.1 + n.toNat ≤ lim.2) (inferInstanceAs (Decidable (_ ∧ _))) (nxt ls (.inr (.inr S.1.length) :: st) (S.1 ++ [(5, n.toNat, List.replicate n.toNat 0)], am_z S))
    | _ => bad
  | .ireturn => match st with
    | [.inl v] => ret (some (.inl v)) S
    | _ => bad
  | .freturn => match st with
    | [.inl v] => ck (am_tf v) (am_tfD v) (ret (some (.inl v)) S)
    | _ => bad
  | .dreturn => match st with
    | [.inl v] => ck (0 ≤ v ∧ v < 65536) (inferInstanceAs (Decidable (_ ∧ _))) (ret (some (.inl v)) S)
    | _ => bad
  | .lreturn => match st with
    | [.inr (.inl v)] => ret (some (.inr (.inl v))) S
    | _ => bad
  | .return_ => match st with
    | [] => ret none S
    | _ => bad
  | _ => bad
/-- a stretch: up to a jump back, a mark, the end -/
def am_x (code : List aI) : Nat → Nat → List aI → aL → List aV → aS → X
  | 0, _, _, _, _, _ => bad
  | _ + 1, _, [], _, _, _ => bad
  | f + 1, i, ins :: rest, ls, st, S => am_1 ft na lim bad br ck call sp ret cut i ins ls st S (fun ls st S => am_x code f (i + 1) rest ls st S) (fun t ls st S => bif Nat.ble t i then cut t ls st S else am_x code f t (code.drop t) ls st S)
end AM
