/-! from the machine's instructions to the abstract machine's, and one step -/
def am_as {α : Type} : List (Nat × Nat × α) → Nat → Nat → Option α
  | [], _, _ => none
  | q :: l, a, b => bif Nat.beq q.1 a && Nat.beq q.2.1 b then some q.2.2 else am_as l a b
theorem am_as_ok {α : Type} {a b : Nat} {v : α} : ∀ {l : List (Nat × Nat × α)}, am_as l a b = some v → (a, b, v) ∈ l
  | [], h => by cases h
  | q :: l, h => by
    simp only [am_as] at h
    cases hb : (Nat.beq q.1 a && Nat.beq q.2.1 b) with
    | true =>
      rw [hb] at h
      obtain ⟨b1, b2⟩ := Bool.and_eq_true_iff.mp hb
      have e1 := Nat.eq_of_beq_eq_true b1
      have e2 := Nat.eq_of_beq_eq_true b2
      have e3 := Option.some.inj h
      subst e1; subst e2; subst e3
      exact List.mem_cons_self
    | false =>
      rw [hb] at h
      exact List.mem_cons_of_mem _ (am_as_ok h)
def am_in2 : List (Nat × Nat) → Nat → Nat → Bool
  | [], _, _ => false
  | q :: l, a, b => (Nat.beq q.1 a && Nat.beq q.2 b) || am_in2 l a b
theorem am_in2_ok {a b : Nat} : ∀ {l : List (Nat × Nat)}, am_in2 l a b = true → (a, b) ∈ l
  | [], h => by cases h
  | q :: l, h => by
    simp only [am_in2] at h
    rcases Bool.or_eq_true_iff.mp h with hb | hb
    · obtain ⟨b1, b2⟩ := Bool.and_eq_true_iff.mp hb
      have e1 := Nat.eq_of_beq_eq_true b1
      have e2 := Nat.eq_of_beq_eq_true b2
      subst e1; subst e2
      exact List.mem_cons_self
    · exact List.mem_cons_of_mem _ (am_in2_ok hb)
/-- the place of a pc -/
def am_ixo (t : Int) : List Nat → Nat → Option Nat
  | [], _ => none
  | p :: l, n => if t = (p : Int) then some n else am_ixo t l (n + 1)
theorem am_ixo_ok {t : Int} : ∀ (l : List Nat) (n m : Nat), am_ixo t l n = some m → ∃ j, m = n + j ∧ j < l.length ∧ t = ((am_nth 0 l j : Nat) : Int)
  | [], _, _, h => by cases h
  | p :: l, n, m, h => by
    simp only [am_ixo] at h
    by_cases e : t = (p : Int)
    · rw [if_pos e] at h
      exact ⟨0, (Option.some.inj h).symm, by simp, e⟩
    · rw [if_neg e] at h
      obtain ⟨j, h1, h2, h3⟩ := am_ixo_ok l (n + 1) m h
      exact ⟨j + 1, by omega, by simpa using h2, h3⟩
def am_tg (PC : List Nat) (t : Int) (f : Int → aI) : aI := match am_ixo t PC 0 with
  | some n => f (n : Int)
  | none => .athrow
/-- all targets of a switch -/
def am_tgs (PC : List Nat) (pc : Nat) : List Int → Option (List Int)
  | [] => some []
  | o :: l => match am_ixo ((pc : Int) + o) PC 0, am_tgs PC pc l with
    | some n, some r => some ((n : Int) :: r)
    | _, _ => none
theorem am_tgs_at {PC : List Nat} {pc : Nat} : ∀ (l r : List Int), am_tgs PC pc l = some r → ∀ j, j < r.length → ∃ o, l[j]? = some o ∧ (am_nth 0 r j).toNat < PC.length ∧ (pc : Int) + o = ((am_nth 0 PC (am_nth 0 r j).toNat : Nat) : Int)
  | [], r, h, j, hj => by cases h; simp at hj
  | o :: l, r, h, j, hj => by
    simp only [am_tgs] at h
    cases h1 : am_ixo ((pc : Int) + o) PC 0 with
    | none => rw [h1] at h; cases h
    | some n =>
      cases h2 : am_tgs PC pc l with
      | none => rw [h1, h2] at h; cases h
      | some r2 =>
        rw [h1, h2] at h
        have e := Option.some.inj h
        subst e
        cases j with
        | zero =>
          obtain ⟨j, g1, g2, g3⟩ := am_ixo_ok _ _ _ h1
          refine ⟨o, rfl, ?_, ?_⟩
          · show (n : Int).toNat < PC.length
            omega
          · show (pc : Int) + o = ((am_nth 0 PC (n : Int).toNat : Nat) : Int)
            rw [g3, Int.toNat_natCast, show n = j by omega]
        | succ j =>
          obtain ⟨o2, g1, g2, g3⟩ := am_tgs_at l r2 h2 j (by simpa using hj)
          exact ⟨o2, g1, g2, g3⟩
def am_ends : aI → Bool
  | .goto _ => true
  | .ireturn => true
  | .lreturn => true
  | .return_ => true
  | .tableswitch .. => true
  | .athrow => true
  | _ => false
/-- an instruction as the abstract machine has it: in class own, in method id of nL locals; wr: sums that wrap -/
def tomi (own id nL : Nat) (wr : Bool) (PC : List Nat) (pc : Nat) (r : aI) : aI := match r with
  | .iconst n => bif decide (-1 ≤ n ∧ n ≤ 5) then .iconst n else .athrow
  | .bipush n => bif decide (-128 ≤ n ∧ n < 128) then .iconst n else .athrow
  | .sipush n => bif decide (-32768 ≤ n ∧ n < 32768) then .iconst n else .athrow
  | .ldc x => match am_as tCn own x with
    | some v => bif decide (-2147483648 ≤ v ∧ v < 2147483648) then .iconst v else .athrow
    | none => match am_as tTx own x with
      | some c => .getstatic c
      | none => .athrow
  | .ldc_w x => match am_as tCn own x with
    | some v => bif decide (-2147483648 ≤ v ∧ v < 2147483648) then .iconst v else .athrow
    | none => .athrow
  | .ldc2_w x => match am_as tCl own x with
    | some v => bif decide (-9223372036854775808 ≤ v ∧ v < 9223372036854775808) then .bipush v else .athrow
    | none => .athrow
  | .lconst n => .bipush (n.val : Int)
  | .getstatic x => bif Nat.beq own 14 && Nat.beq x 38 then .iconst 1 else match am_as tSr own x with
    | some c => .getstatic c
    | none => .athrow
  | .iload k => .iload k
  | .iload_n k => .iload k.val
  | .lload k => .lload k
  | .lload_n k => .lload k.val
  | .aload k => .aload k
  | .aload_n k => .aload k.val
  | .istore k => bif Nat.blt k nL then .istore k else .athrow
  | .istore_n k => bif Nat.blt k.val nL then .istore k.val else .athrow
  | .lstore k => bif Nat.blt (k + 1) nL then .lstore k else .athrow
  | .lstore_n k => bif Nat.blt (k.val + 1) nL then .lstore k.val else .athrow
  | .astore k => bif Nat.blt k nL then .astore k else .athrow
  | .astore_n k => bif Nat.blt k.val nL then .astore k.val else .athrow
  | .iinc k d => bif Nat.blt k nL then .iinc k d else .athrow
  | .iadd => bif wr then .iadd else .fadd
  | .isub => bif wr then .isub else .fsub
  | .imul => bif wr then .imul else .fmul
  | .ladd => bif wr then .ladd else .dadd
  | .lsub => bif wr then .lsub else .dsub
  | .lmul => bif wr then .lmul else .dmul
  | .ifCond c o => am_tg PC ((pc : Int) + o) (fun t => .ifCond c t)
  | .if_icmp c o => am_tg PC ((pc : Int) + o) (fun t => .if_icmp c t)
  | .goto o => am_tg PC ((pc : Int) + o) (fun t => .goto t)
  | .tableswitch d lo hi offs => bif decide (hi - lo + 1 = (offs.toList.length : Int)) then match am_ixo ((pc : Int) + d) PC 0, am_tgs PC pc offs.toList with
    | some t, some ts => .tableswitch (t : Int) lo hi ts.toArray
    | _, _ => .athrow
    else .athrow
  | .getfield x => bif Nat.beq own 14 && Nat.beq x 9 then .getfield 2000 else bif Nat.beq own 14 && Nat.beq x 15 then .getfield 2001 else match am_as tFl own x with
    | some q => .getfield (100 * q.1 + q.2)
    | none => .athrow
  | .putfield x => match am_as tFl own x with
    | some q => bif !(cT q.1 q.2).2.2.2 || (decide ((mY id).name = "<init>") && Nat.beq own q.1) then .putfield (100 * q.1 + q.2) else .athrow
    | none => .athrow
  | .invokevirtual x => match am_as tMV own x with
    | some y => bif Nat.blt (mFr y) (mFr id) && Nat.ble (8 + (mLo y + 11) + mWd y) (mWd id) && ((Nat.beq (mNa (2000 + y)) (10 + mCs y) && Nat.blt (mCs y) 13) || (Nat.beq (mNa (2000 + y)) 30 && Nat.beq (mCs y) 14)) && Nat.ble 1 (mNa y) then .invokevirtual y else .athrow
    | none => .athrow
  | .invokestatic x => match am_as tMS own x with
    | some y => bif Nat.blt (mFr y) (mFr id) && Nat.ble (8 + (mLo y + 11) + mWd y) (mWd id) then .invokestatic y else .athrow
    | none => match am_as tMT own x with
      | some y => bif Nat.blt (mFr y) (mFr id) && Nat.ble (8 + (mLo y + 11) + mWd y) (mWd id) then .invokestatic y else .athrow
      | none => bif !(Nat.ble 1 (mFr id) && Nat.ble 30 (mWd id)) then .athrow else bif am_in2 tAc own x && Nat.ble 80 (mWd id) then .invokeinterface 1 0 else bif am_in2 tMx own x then .invokeinterface 2 0 else bif am_in2 tMn own x then .invokeinterface 3 0 else bif am_in2 tMa own x then .invokeinterface 4 0 else .athrow
  | .invokespecial x => bif am_in2 tOi own x then (bif Nat.ble 1 (mFr id) && Nat.ble 20 (mWd id) then .invokeinterface 0 0 else .athrow) else match am_as tMI own x with
    | some y => bif Nat.blt (mFr y) (mFr id) && Nat.ble (8 + (mLo y + 11) + mWd y) (mWd id) && Nat.ble 1 (mNa y) && Nat.ble 10 (mNa (2000 + y)) && Nat.blt (mNa (2000 + y)) 23 then .invokespecial y else .athrow
    | none => match am_as tMJ own x with
      | some y => bif Nat.blt (mFr y) (mFr id) && Nat.ble (8 + (mLo y + 11) + mWd y) (mWd id) && Nat.ble 1 (mNa y) && Nat.ble 10 (mNa (2000 + y)) && Nat.blt (mNa (2000 + y)) 23 then .invokespecial y else .athrow
      | none => .athrow
  | .new x => match am_as tNw own x with
    | some c => .new c
    | none => .athrow
  | .anewarray x => match am_as tNw own x with
    | some 9 => .anewarray 0
    | _ => .athrow
  | .newarray ty => match ty with
    | .int => .newarray .int
    | .long => .newarray .long
    | .byte => .newarray .byte
    | .boolean => .newarray .boolean
    | _ => .athrow
  | .ireturn => match mR id with
    | some .int => .ireturn
    | some .boolean => .freturn
    | some .byte => .freturn
    | some .char => .dreturn
    | _ => .athrow
  | .lreturn => bif decide (mR id = some .long) then .lreturn else .athrow
  | .return_ => bif decide (mR id = none) then .return_ else .athrow
  | .iaload => .iaload | .laload => .laload | .baload => .baload | .aaload => .aaload
  | .iastore => .iastore | .lastore => .lastore | .bastore => .bastore | .aastore => .aastore
  | .arraylength => .arraylength
  | .iand => .iand | .ior => .ior | .ixor => .ixor | .ishl => .ishl | .ishr => .ishr | .iushr => .iushr | .idiv => .idiv | .irem => .irem | .ineg => .ineg
  | .land => .land | .lxor => .lxor | .ldiv => .ldiv | .lshl => .lshl | .lshr => .lshr | .lushr => .lushr
  | .i2l => .i2l | .l2i => .l2i | .i2b => .i2b | .i2c => .i2c | .lcmp => .lcmp
  | .dup => .dup | .dup2 => .dup2 | .pop => .pop | .pop2 => .pop2
  | _ => .athrow
