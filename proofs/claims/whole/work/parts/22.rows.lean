/-! rows of single instructions: numbers, the pile, locals, branches -/
section S22
variable {G : aG} {cc : ByteArray} {own pc : Nat} {ls : aL} {st : List aV} {S : aS}
theorem s_iand {a b : Int} (hF : FX G cc own) (hd : decode cc pc = .ok (.iand, 1)) (k : WA G (pc + 1) ls (.inl (am_and a b) :: st) S) : WA G pc ls (.inl b :: .inl a :: st) S := by
  obtain ⟨p, l, e, R, s, m, args, below, meth, c, Q, nL, dC, dI, ct, ad, n0, z0, x0⟩ := G
  exact WA.bin (fun x y rest H locs lsC kk => lv_iand hF.1 hF.2.1 hd kk) (fun _ _ => Int32.ofInt_toInt _) (fun _ _ => r32 _) k
theorem s_ior {a b : Int} (hF : FX G cc own) (hd : decode cc pc = .ok (.ior, 1)) (k : WA G (pc + 1) ls (.inl (am_or a b) :: st) S) : WA G pc ls (.inl b :: .inl a :: st) S := by
  obtain ⟨p, l, e, R, s, m, args, below, meth, c, Q, nL, dC, dI, ct, ad, n0, z0, x0⟩ := G
  exact WA.bin (fun x y rest H locs lsC kk => lv_ior hF.1 hF.2.1 hd kk) (fun _ _ => Int32.ofInt_toInt _) (fun _ _ => r32 _) k
theorem s_ixor {a b : Int} (hF : FX G cc own) (hd : decode cc pc = .ok (.ixor, 1)) (k : WA G (pc + 1) ls (.inl (am_xor a b) :: st) S) : WA G pc ls (.inl b :: .inl a :: st) S := by
  obtain ⟨p, l, e, R, s, m, args, below, meth, c, Q, nL, dC, dI, ct, ad, n0, z0, x0⟩ := G
  exact WA.bin (fun x y rest H locs lsC kk => lv_ixor hF.1 hF.2.1 hd kk) (fun _ _ => Int32.ofInt_toInt _) (fun _ _ => r32 _) k
theorem s_ishl {a b : Int} (hF : FX G cc own) (hd : decode cc pc = .ok (.ishl, 1)) (k : WA G (pc + 1) ls (.inl (am_shl a b) :: st) S) : WA G pc ls (.inl b :: .inl a :: st) S := by
  obtain ⟨p, l, e, R, s, m, args, below, meth, c, Q, nL, dC, dI, ct, ad, n0, z0, x0⟩ := G
  exact WA.bin (fun x y rest H locs lsC kk => lv_ishl hF.1 hF.2.1 hd kk) (fun _ _ => Int32.ofInt_toInt _) (fun _ _ => r32 _) k
theorem s_ishr {a b : Int} (hF : FX G cc own) (hd : decode cc pc = .ok (.ishr, 1)) (k : WA G (pc + 1) ls (.inl (am_shr a b) :: st) S) : WA G pc ls (.inl b :: .inl a :: st) S := by
  obtain ⟨p, l, e, R, s, m, args, below, meth, c, Q, nL, dC, dI, ct, ad, n0, z0, x0⟩ := G
  exact WA.bin (fun x y rest H locs lsC kk => lv_ishr hF.1 hF.2.1 hd kk) (fun _ _ => Int32.ofInt_toInt _) (fun _ _ => r32 _) k
theorem s_iushr {a b : Int} (hF : FX G cc own) (hd : decode cc pc = .ok (.iushr, 1)) (k : WA G (pc + 1) ls (.inl (am_ushr a b) :: st) S) : WA G pc ls (.inl b :: .inl a :: st) S := by
  obtain ⟨p, l, e, R, s, m, args, below, meth, c, Q, nL, dC, dI, ct, ad, n0, z0, x0⟩ := G
  exact WA.bin (g := fun x y => (x.toUInt32 >>> (y.toUInt32 &&& Int32.toUInt32 31)).toInt32) (fun x y rest H locs lsC kk => lv_iushr hF.1 hF.2.1 hd rfl kk) (fun _ _ => Int32.ofInt_toInt _) (fun _ _ => r32 _) k
theorem s_land {a b : Int} (hF : FX G cc own) (hd : decode cc pc = .ok (.land, 1)) (k : WA G (pc + 1) ls (.inr (.inl (am_land a b)) :: st) S) : WA G pc ls (.inr (.inl b) :: .inr (.inl a) :: st) S := by
  obtain ⟨p, l, e, R, s, m, args, below, meth, c, Q, nL, dC, dI, ct, ad, n0, z0, x0⟩ := G
  exact WA.binL (fun x y rest H locs lsC kk => lv_land hF.1 hF.2.1 hd kk) (fun _ _ => Int64.ofInt_toInt _) (fun _ _ => r64 _) k
theorem s_lxor {a b : Int} (hF : FX G cc own) (hd : decode cc pc = .ok (.lxor, 1)) (k : WA G (pc + 1) ls (.inr (.inl (am_lxor a b)) :: st) S) : WA G pc ls (.inr (.inl b) :: .inr (.inl a) :: st) S := by
  obtain ⟨p, l, e, R, s, m, args, below, meth, c, Q, nL, dC, dI, ct, ad, n0, z0, x0⟩ := G
  exact WA.binL (fun x y rest H locs lsC kk => lv_lxor hF.1 hF.2.1 hd kk) (fun _ _ => Int64.ofInt_toInt _) (fun _ _ => r64 _) k
theorem s_idiv {a b : Int} (hF : FX G cc own) (hd : decode cc pc = .ok (.idiv, 1)) (h0 : ¬ b = 0) (k : WA G (pc + 1) ls (.inl (w32 (a.tdiv b)) :: st) S) : WA G pc ls (.inl b :: .inl a :: st) S := by
  obtain ⟨p, l, e, R, s, m, args, below, meth, c, Q, nL, dC, dI, ct, ad, n0, z0, x0⟩ := G
  refine WA.stk k (fun ho H locs lsC kk => ?_) (fun ho => ok_c.mpr ⟨w32_rg _, (ok_c.mp (ok_c.mp ho).2).2⟩)
  obtain ⟨hb, ho⟩ := ok_c.mp ho
  obtain ⟨ha, ho⟩ := ok_c.mp ho
  refine lv_idiv (x := Int32.ofInt a) (y := Int32.ofInt b) hF.1 hF.2.1 hd (fun z => h0 ((eq32 hb rg0).mp z)) ?_
  rw [div32 ha hb, ← o32]
  exact kk
theorem s_irem {a b : Int} (hF : FX G cc own) (hd : decode cc pc = .ok (.irem, 1)) (h0 : ¬ b = 0) (k : WA G (pc + 1) ls (.inl (a.tmod b) :: st) S) : WA G pc ls (.inl b :: .inl a :: st) S := by
  obtain ⟨p, l, e, R, s, m, args, below, meth, c, Q, nL, dC, dI, ct, ad, n0, z0, x0⟩ := G
  refine WA.stk k (fun ho H locs lsC kk => ?_) (fun ho => ok_c.mpr ⟨tmod_rg (ok_c.mp (ok_c.mp ho).2).1 (ok_c.mp ho).1 h0, (ok_c.mp (ok_c.mp ho).2).2⟩)
  obtain ⟨hb, ho⟩ := ok_c.mp ho
  obtain ⟨ha, ho⟩ := ok_c.mp ho
  refine lv_irem (x := Int32.ofInt a) (y := Int32.ofInt b) hF.1 hF.2.1 hd (fun z => h0 ((eq32 hb rg0).mp z)) ?_
  rw [rem32 ha hb]
  exact kk
theorem s_ldiv {a b : Int} (hF : FX G cc own) (hd : decode cc pc = .ok (.ldiv, 1)) (h0 : ¬ b = 0) (k : WA G (pc + 1) ls (.inr (.inl (w64 (a.tdiv b))) :: st) S) : WA G pc ls (.inr (.inl b) :: .inr (.inl a) :: st) S := by
  obtain ⟨p, l, e, R, s, m, args, below, meth, c, Q, nL, dC, dI, ct, ad, n0, z0, x0⟩ := G
  refine WA.stk k (fun ho H locs lsC kk => ?_) (fun ho => ok_c.mpr ⟨w64_rl _, (ok_c.mp (ok_c.mp ho).2).2⟩)
  obtain ⟨hb, ho⟩ := ok_c.mp ho
  obtain ⟨ha, ho⟩ := ok_c.mp ho
  refine lv_ldiv (x := Int64.ofInt a) (y := Int64.ofInt b) hF.1 hF.2.1 hd (fun z => h0 ((eq64 hb (rg_rl rg0)).mp z)) ?_
  rw [div64 ha hb, ← o64]
  exact kk
theorem s_ineg {a : Int} (hF : FX G cc own) (hd : decode cc pc = .ok (.ineg, 1)) (hg : am_rg (-a)) (k : WA G (pc + 1) ls (.inl (-a) :: st) S) : WA G pc ls (.inl a :: st) S := by
  obtain ⟨p, l, e, R, s, m, args, below, meth, c, Q, nL, dC, dI, ct, ad, n0, z0, x0⟩ := G
  refine WA.stk k (fun ho H locs lsC kk => ?_) (fun ho => ok_c.mpr ⟨hg, (ok_c.mp ho).2⟩)
  refine lv_ineg (x := Int32.ofInt a) hF.1 hF.2.1 hd ?_
  rw [neg32]
  exact kk
theorem s_lshl {a b : Int} (hF : FX G cc own) (hd : decode cc pc = .ok (.lshl, 1)) (k : WA G (pc + 1) ls (.inr (.inl (am_lshl a b)) :: st) S) : WA G pc ls (.inl b :: .inr (.inl a) :: st) S := by
  obtain ⟨p, l, e, R, s, m, args, below, meth, c, Q, nL, dC, dI, ct, ad, n0, z0, x0⟩ := G
  refine WA.stk k (fun ho H locs lsC kk => ?_) (fun ho => ok_c.mpr ⟨r64 _, (ok_c.mp (ok_c.mp ho).2).2⟩)
  exact lv_lshl (x := Int64.ofInt a) (y := Int32.ofInt b) (v := Int64.ofInt (am_lshl a b)) hF.1 hF.2.1 hd (Int64.ofInt_toInt _).symm kk
theorem s_lshr {a b : Int} (hF : FX G cc own) (hd : decode cc pc = .ok (.lshr, 1)) (k : WA G (pc + 1) ls (.inr (.inl (am_lshr a b)) :: st) S) : WA G pc ls (.inl b :: .inr (.inl a) :: st) S := by
  obtain ⟨p, l, e, R, s, m, args, below, meth, c, Q, nL, dC, dI, ct, ad, n0, z0, x0⟩ := G
  refine WA.stk k (fun ho H locs lsC kk => ?_) (fun ho => ok_c.mpr ⟨r64 _, (ok_c.mp (ok_c.mp ho).2).2⟩)
  exact lv_lshr (x := Int64.ofInt a) (y := Int32.ofInt b) (v := Int64.ofInt (am_lshr a b)) hF.1 hF.2.1 hd (Int64.ofInt_toInt _).symm kk
theorem s_lushr {a b : Int} (hF : FX G cc own) (hd : decode cc pc = .ok (.lushr, 1)) (k : WA G (pc + 1) ls (.inr (.inl (am_lushr a b)) :: st) S) : WA G pc ls (.inl b :: .inr (.inl a) :: st) S := by
  obtain ⟨p, l, e, R, s, m, args, below, meth, c, Q, nL, dC, dI, ct, ad, n0, z0, x0⟩ := G
  refine WA.stk k (fun ho H locs lsC kk => ?_) (fun ho => ok_c.mpr ⟨r64 _, (ok_c.mp (ok_c.mp ho).2).2⟩)
  exact lv_lushr (x := Int64.ofInt a) (y := Int32.ofInt b) (v := Int64.ofInt (am_lushr a b)) hF.1 hF.2.1 hd (Int64.ofInt_toInt _).symm kk
theorem s_i2l {a : Int} (hF : FX G cc own) (hd : decode cc pc = .ok (.i2l, 1)) (k : WA G (pc + 1) ls (.inr (.inl a) :: st) S) : WA G pc ls (.inl a :: st) S := by
  obtain ⟨p, l, e, R, s, m, args, below, meth, c, Q, nL, dC, dI, ct, ad, n0, z0, x0⟩ := G
  refine WA.stk k (fun ho H locs lsC kk => ?_) (fun ho => ok_c.mpr ⟨rg_rl (ok_c.mp ho).1, (ok_c.mp ho).2⟩)
  exact lv_i2l (x := Int32.ofInt a) hF.1 hF.2.1 hd (wide32 (ok_c.mp ho).1) kk
theorem s_l2i {a : Int} (hF : FX G cc own) (hd : decode cc pc = .ok (.l2i, 1)) (k : WA G (pc + 1) ls (.inl (w32 a) :: st) S) : WA G pc ls (.inr (.inl a) :: st) S := by
  obtain ⟨p, l, e, R, s, m, args, below, meth, c, Q, nL, dC, dI, ct, ad, n0, z0, x0⟩ := G
  refine WA.stk k (fun ho H locs lsC kk => ?_) (fun ho => ok_c.mpr ⟨w32_rg _, (ok_c.mp ho).2⟩)
  exact lv_l2i (x := Int64.ofInt a) hF.1 hF.2.1 hd (slim64 a) kk
theorem s_i2b {a : Int} (hF : FX G cc own) (hd : decode cc pc = .ok (.i2b, 1)) (k : WA G (pc + 1) ls (.inl (w8 a) :: st) S) : WA G pc ls (.inl a :: st) S := by
  obtain ⟨p, l, e, R, s, m, args, below, meth, c, Q, nL, dC, dI, ct, ad, n0, z0, x0⟩ := G
  refine WA.stk k (fun ho H locs lsC kk => ?_) (fun ho => ok_c.mpr ⟨by have := w8_rg a; show am_rg _; unfold am_rg; omega, (ok_c.mp ho).2⟩)
  exact lv_i2b (x := Int32.ofInt a) hF.1 hF.2.1 hd (byte32 a) kk
theorem s_i2c {a : Int} (hF : FX G cc own) (hd : decode cc pc = .ok (.i2c, 1)) (k : WA G (pc + 1) ls (.inl (a % 65536) :: st) S) : WA G pc ls (.inl a :: st) S := by
  obtain ⟨p, l, e, R, s, m, args, below, meth, c, Q, nL, dC, dI, ct, ad, n0, z0, x0⟩ := G
  refine WA.stk k (fun ho H locs lsC kk => ?_) (fun ho => ok_c.mpr ⟨by show am_rg _; unfold am_rg; omega, (ok_c.mp ho).2⟩)
  exact lv_i2c (x := Int32.ofInt a) hF.1 hF.2.1 hd (char32 a) kk
theorem s_lcmp {a b : Int} (hF : FX G cc own) (hd : decode cc pc = .ok (.lcmp, 1)) (k : WA G (pc + 1) ls (.inl (am_sgn (a - b)) :: st) S) : WA G pc ls (.inr (.inl b) :: .inr (.inl a) :: st) S := by
  obtain ⟨p, l, e, R, s, m, args, below, meth, c, Q, nL, dC, dI, ct, ad, n0, z0, x0⟩ := G
  refine WA.stk k (fun ho H locs lsC kk => ?_) (fun ho => ok_c.mpr ⟨sgn_rg _, (ok_c.mp (ok_c.mp ho).2).2⟩)
  obtain ⟨hb, ho⟩ := ok_c.mp ho
  obtain ⟨ha, ho⟩ := ok_c.mp ho
  refine W.lcmp (x := Int64.ofInt a) (y := Int64.ofInt b) hF.1 hF.2.1 hd ?_
  rw [sgn64 ha hb]
  exact kk
theorem cat1 {ad : Nat → Nat} : ∀ {v : aV}, am_is2 v = false → (cv ad v).category = 1
  | .inl _, _ => rfl
  | .inr (.inl _), h => by cases h
  | .inr (.inr r), _ => by
    show (bif Nat.beq r 0 || (Nat.beq r 8 && Nat.beq (ad 0) 0) then Value.null else Value.ref (ad r)).category = 1
    cases (Nat.beq r 0 || (Nat.beq r 8 && Nat.beq (ad 0) 0)) <;> rfl
theorem cat2 {ad : Nat → Nat} : ∀ (v : aV), ((cv ad v).category == 2) = am_is2 v
  | .inl _ => rfl
  | .inr (.inl _) => rfl
  | .inr (.inr r) => by rw [cat1 (v := .inr (.inr r)) rfl]; rfl
theorem s_dup {v : aV} (hF : FX G cc own) (hd : decode cc pc = .ok (.dup, 1)) (h2 : am_is2 v = false) (k : WA G (pc + 1) ls (v :: v :: st) S) : WA G pc ls (v :: st) S := by
  obtain ⟨p, l, e, R, s, m, args, below, meth, c, Q, nL, dC, dI, ct, ad, n0, z0, x0⟩ := G
  exact WA.stk k (fun ho H locs lsC kk => lv_dup (va := cv ad v) hF.1 hF.2.1 hd (cat1 h2) kk) (fun ho => ok_c.mpr ⟨(ok_c.mp ho).1, ho⟩)
theorem s_pop {v : aV} (hF : FX G cc own) (hd : decode cc pc = .ok (.pop, 1)) (h2 : am_is2 v = false) (k : WA G (pc + 1) ls st S) : WA G pc ls (v :: st) S := by
  obtain ⟨p, l, e, R, s, m, args, below, meth, c, Q, nL, dC, dI, ct, ad, n0, z0, x0⟩ := G
  exact WA.stk k (fun ho H locs lsC kk => lv_pop (va := cv ad v) hF.1 hF.2.1 hd (cat1 h2) kk) (fun ho => (ok_c.mp ho).2)
theorem s_dup22 {v : Int} (hF : FX G cc own) (hd : decode cc pc = .ok (.dup2, 1)) (k : WA G (pc + 1) ls (.inr (.inl v) :: .inr (.inl v) :: st) S) : WA G pc ls (.inr (.inl v) :: st) S := by
  obtain ⟨p, l, e, R, s, m, args, below, meth, c, Q, nL, dC, dI, ct, ad, n0, z0, x0⟩ := G
  exact WA.stk k (fun ho H locs lsC kk => lv_dup2_2 (va := cv ad (.inr (.inl v))) hF.1 hF.2.1 hd rfl kk) (fun ho => ok_c.mpr ⟨(ok_c.mp ho).1, ho⟩)
theorem s_dup21 {v w : aV} (hF : FX G cc own) (hd : decode cc pc = .ok (.dup2, 1)) (h2 : am_is2 v = false) (h3 : am_is2 w = false) (k : WA G (pc + 1) ls (v :: w :: v :: w :: st) S) : WA G pc ls (v :: w :: st) S := by
  obtain ⟨p, l, e, R, s, m, args, below, meth, c, Q, nL, dC, dI, ct, ad, n0, z0, x0⟩ := G
  exact WA.stk k (fun ho H locs lsC kk => lv_dup2_11 (va := cv ad v) (vb := cv ad w) hF.1 hF.2.1 hd (cat1 h2) (cat1 h3) kk) (fun ho => ok_c.mpr ⟨(ok_c.mp ho).1, ok_c.mpr ⟨(ok_c.mp (ok_c.mp ho).2).1, ho⟩⟩)
theorem s_pop2 {v : Int} (hF : FX G cc own) (hd : decode cc pc = .ok (.pop2, 1)) (k : WA G (pc + 1) ls st S) : WA G pc ls (.inr (.inl v) :: st) S := by
  obtain ⟨p, l, e, R, s, m, args, below, meth, c, Q, nL, dC, dI, ct, ad, n0, z0, x0⟩ := G
  exact WA.stk k (fun ho H locs lsC kk => lv_pop2_2 (va := cv ad (.inr (.inl v))) hF.1 hF.2.1 hd rfl kk) (fun ho => (ok_c.mp ho).2)
theorem s_iconst {v : Int} (hF : FX G cc own) (hd : decode cc pc = .ok (.iconst v, 1)) (hg : am_rg v) (k : WA G (pc + 1) ls (.inl v :: st) S) : WA G pc ls st S := by
  obtain ⟨p, l, e, R, s, m, args, below, meth, c, Q, nL, dC, dI, ct, ad, n0, z0, x0⟩ := G
  exact WA.stk k (fun ho H locs lsC kk => lv_iconst hF.1 hF.2.1 hd rfl kk) (fun ho => ok_c.mpr ⟨hg, ho⟩)
theorem s_bipush {v : Int} (hF : FX G cc own) (hd : decode cc pc = .ok (.bipush v, 2)) (hg : -128 ≤ v ∧ v < 128) (k : WA G (pc + 2) ls (.inl v :: st) S) : WA G pc ls st S := by
  obtain ⟨p, l, e, R, s, m, args, below, meth, c, Q, nL, dC, dI, ct, ad, n0, z0, x0⟩ := G
  exact WA.stk k (fun ho H locs lsC kk => lv_bipush hF.1 hF.2.1 hd (by rw [Int8.toInt32_ofInt (show Int8.minValue.toInt ≤ v from hg.1) (show v ≤ Int8.maxValue.toInt from by have := hg.2; show v ≤ 127; omega)]) kk) (fun ho => ok_c.mpr ⟨by obtain ⟨h1, h2⟩ := hg; exact ⟨by omega, by omega⟩, ho⟩)
theorem s_sipush {v : Int} (hF : FX G cc own) (hd : decode cc pc = .ok (.sipush v, 3)) (hg : -32768 ≤ v ∧ v < 32768) (k : WA G (pc + 3) ls (.inl v :: st) S) : WA G pc ls st S := by
  obtain ⟨p, l, e, R, s, m, args, below, meth, c, Q, nL, dC, dI, ct, ad, n0, z0, x0⟩ := G
  exact WA.stk k (fun ho H locs lsC kk => lv_sipush hF.1 hF.2.1 hd (by rw [Int16.toInt32_ofInt (show Int16.minValue.toInt ≤ v from hg.1) (show v ≤ Int16.maxValue.toInt from by have := hg.2; show v ≤ 32767; omega)]) kk) (fun ho => ok_c.mpr ⟨by obtain ⟨h1, h2⟩ := hg; exact ⟨by omega, by omega⟩, ho⟩)
theorem s_ldc {v : Int} {ix : Nat} (hF : FX G cc own) (hd : decode cc pc = .ok (.ldc ix, 2)) (ht : (own, ix, v) ∈ tCn) (hg : am_rg v) (k : WA G (pc + 2) ls (.inl v :: st) S) : WA G pc ls st S := by
  obtain ⟨p, l, e, R, s, m, args, below, meth, c, Q, nL, dC, dI, ct, ad, n0, z0, x0⟩ := G
  exact WA.stk k (fun ho H locs lsC kk => lv_ldc hF.1 hF.2.1 hF.2.2.2.1 (hF.2.2.2.2.1 _ (tCn_ok _ ht) rfl) hd kk) (fun ho => ok_c.mpr ⟨hg, ho⟩)
theorem s_ldcw {v : Int} {ix : Nat} (hF : FX G cc own) (hd : decode cc pc = .ok (.ldc_w ix, 3)) (ht : (own, ix, v) ∈ tCn) (hg : am_rg v) (k : WA G (pc + 3) ls (.inl v :: st) S) : WA G pc ls st S := by
  obtain ⟨p, l, e, R, s, m, args, below, meth, c, Q, nL, dC, dI, ct, ad, n0, z0, x0⟩ := G
  exact WA.stk k (fun ho H locs lsC kk => lv_ldcw hF.1 hF.2.1 hF.2.2.2.1 (hF.2.2.2.2.1 _ (tCn_ok _ ht) rfl) hd kk) (fun ho => ok_c.mpr ⟨hg, ho⟩)
theorem s_ldc2 {v : Int} {ix : Nat} (hF : FX G cc own) (hd : decode cc pc = .ok (.ldc2_w ix, 3)) (ht : (own, ix, v) ∈ tCl) (hg : am_rl v) (k : WA G (pc + 3) ls (.inr (.inl v) :: st) S) : WA G pc ls st S := by
  obtain ⟨p, l, e, R, s, m, args, below, meth, c, Q, nL, dC, dI, ct, ad, n0, z0, x0⟩ := G
  exact WA.stk k (fun ho H locs lsC kk => lv_ldc2 hF.1 hF.2.1 hF.2.2.2.1 (hF.2.2.2.2.1 _ (tCl_ok _ ht) rfl) hd kk) (fun ho => ok_c.mpr ⟨hg, ho⟩)
theorem s_lconst {n : Fin 2} (hF : FX G cc own) (hd : decode cc pc = .ok (.lconst n, 1)) (k : WA G (pc + 1) ls (.inr (.inl (n.val : Int)) :: st) S) : WA G pc ls st S := by
  obtain ⟨p, l, e, R, s, m, args, below, meth, c, Q, nL, dC, dI, ct, ad, n0, z0, x0⟩ := G
  exact WA.stk k (fun ho H locs lsC kk => lv_lconst hF.1 hF.2.1 hd rfl kk) (fun ho => ok_c.mpr ⟨by have := n.isLt; show am_rl _; unfold am_rl; omega, ho⟩)
theorem am_find_get {ad : Nat → Nat} {k nL : Nat} {v : aV} {lsC : Array Slot} : ∀ {ls : aL}, am_find k ls = some v → lv_has lsC nL (am_ll ad ls) → lsC[k]? = some (.val (cv ad v)) := by
  intro ls h hl
  have key : ∀ l : aL, am_find k l = some v → (k, v) ∈ l := by
    intro l
    induction l with
    | nil => intro h; cases h
    | cons q l ih =>
      intro h
      simp only [am_find] at h
      cases hb : Nat.beq q.1 k with
      | true =>
        rw [hb] at h
        have e1 := Nat.eq_of_beq_eq_true hb
        have e2 := Option.some.inj h
        rw [← e1, ← e2]
        exact List.mem_cons_self
      | false =>
        rw [hb] at h
        exact List.mem_cons_of_mem _ (ih h)
  exact hl.2.2 (k, cv ad v) (List.mem_map.mpr ⟨(k, v), key ls h, rfl⟩)
theorem am_find_ok {k : Nat} {v : aV} : ∀ {ls : aL}, am_find k ls = some v → (∀ q ∈ ls, ok_v q.2) → ok_v v
  | [], h, _ => by cases h
  | q :: l, h, ho => by
    simp only [am_find] at h
    cases hb : Nat.beq q.1 k with
    | true =>
      rw [hb] at h
      rw [← Option.some.inj h]
      exact ho q List.mem_cons_self
    | false =>
      rw [hb] at h
      exact am_find_ok h (fun x hx => ho x (List.mem_cons_of_mem _ hx))
theorem nbq (a b : Nat) : (a == b) = Nat.beq a b := by
  cases h : Nat.beq a b with
  | true => rw [Nat.eq_of_beq_eq_true h]; simp
  | false =>
    have : a ≠ b := fun e => by subst e; simp at h
    simpa using this
theorem am_ll_set1 (ad : Nat → Nat) (k : Nat) (v : aV) (ls : aL) : (k, cv ad v) :: (am_ll ad ls).filter (fun q => !(q.1 == k) && !(q.1 + 1 == k && q.2.category == 2)) = am_ll ad (am_set1 k v ls) := by
  unfold am_ll am_set1
  rw [List.map_cons, List.filter_map]
  congr 3
  funext q
  simp only [Function.comp, cat2]
  simp only [nbq]
theorem am_ll_set2 (ad : Nat → Nat) (k : Nat) (v : aV) (ls : aL) : (k, cv ad v) :: (am_ll ad ls).filter (fun q => !(q.1 == k) && (!(q.1 == k + 1) && !(q.1 + 1 == k && q.2.category == 2))) = am_ll ad (am_set2 k v ls) := by
  unfold am_ll am_set2
  rw [List.map_cons, List.filter_map]
  congr 3
  funext q
  simp only [Function.comp, cat2]
  simp only [nbq]
theorem ok_set1 {k : Nat} {v : aV} {ls : aL} (hv : ok_v v) (h : ∀ q ∈ ls, ok_v q.2) : ∀ q ∈ am_set1 k v ls, ok_v q.2 := by
  intro q hq
  rcases List.mem_cons.mp hq with rfl | hq
  · exact hv
  · exact h q (List.mem_filter.mp hq).1
theorem ok_set2 {k : Nat} {v : aV} {ls : aL} (hv : ok_v v) (h : ∀ q ∈ ls, ok_v q.2) : ∀ q ∈ am_set2 k v ls, ok_v q.2 := by
  intro q hq
  rcases List.mem_cons.mp hq with rfl | hq
  · exact hv
  · exact h q (List.mem_filter.mp hq).1
theorem s_iload {k : Nat} {v : Int} (hF : FX G cc own) (hd : decode cc pc = .ok (.iload k, 2)) (hf : am_find k ls = some (.inl v)) (kk : WA G (pc + 2) ls (.inl v :: st) S) : WA G pc ls st S := by
  obtain ⟨p, l, e, R, s, m, args, below, meth, c, Q, nL, dC, dI, ct, ad, n0, z0, x0⟩ := G
  intro H locs lsC hR hl h1 h2
  exact lv_iload hF.1 hF.2.1 hd (am_find_get hf hl) (kk H locs lsC hR hl h1 (ok_c.mpr ⟨am_find_ok hf h1, h2⟩))
theorem s_iload_n {k : Nat} {j : Fin 4} {v : Int} (hF : FX G cc own) (hd : decode cc pc = .ok (.iload_n j, 1)) (hj : (j : Nat) = k) (hf : am_find k ls = some (.inl v)) (kk : WA G (pc + 1) ls (.inl v :: st) S) : WA G pc ls st S := by
  obtain ⟨p, l, e, R, s, m, args, below, meth, c, Q, nL, dC, dI, ct, ad, n0, z0, x0⟩ := G
  intro H locs lsC hR hl h1 h2
  exact lv_iload_n hF.1 hF.2.1 hd hj (am_find_get hf hl) (kk H locs lsC hR hl h1 (ok_c.mpr ⟨am_find_ok hf h1, h2⟩))
theorem s_lload {k : Nat} {v : Int} (hF : FX G cc own) (hd : decode cc pc = .ok (.lload k, 2)) (hf : am_find k ls = some (.inr (.inl v))) (kk : WA G (pc + 2) ls (.inr (.inl v) :: st) S) : WA G pc ls st S := by
  obtain ⟨p, l, e, R, s, m, args, below, meth, c, Q, nL, dC, dI, ct, ad, n0, z0, x0⟩ := G
  intro H locs lsC hR hl h1 h2
  exact lv_lload hF.1 hF.2.1 hd (am_find_get hf hl) (kk H locs lsC hR hl h1 (ok_c.mpr ⟨am_find_ok hf h1, h2⟩))
theorem s_lload_n {k : Nat} {j : Fin 4} {v : Int} (hF : FX G cc own) (hd : decode cc pc = .ok (.lload_n j, 1)) (hj : (j : Nat) = k) (hf : am_find k ls = some (.inr (.inl v))) (kk : WA G (pc + 1) ls (.inr (.inl v) :: st) S) : WA G pc ls st S := by
  obtain ⟨p, l, e, R, s, m, args, below, meth, c, Q, nL, dC, dI, ct, ad, n0, z0, x0⟩ := G
  intro H locs lsC hR hl h1 h2
  exact lv_lload_n hF.1 hF.2.1 hd hj (am_find_get hf hl) (kk H locs lsC hR hl h1 (ok_c.mpr ⟨am_find_ok hf h1, h2⟩))
theorem s_aload {k v : Nat} (hF : FX G cc own) (hd : decode cc pc = .ok (.aload k, 2)) (hf : am_find k ls = some (.inr (.inr v))) (h0 : v ≠ 0) (h8 : v ≠ 8) (kk : WA G (pc + 2) ls (.inr (.inr v) :: st) S) : WA G pc ls st S := by
  obtain ⟨p, l, e, R, s, m, args, below, meth, c, Q, nL, dC, dI, ct, ad, n0, z0, x0⟩ := G
  intro H locs lsC hR hl h1 h2
  have q := kk H locs lsC hR hl h1 (ok_c.mpr ⟨trivial, h2⟩)
  have hg := am_find_get hf hl
  rw [cv_ref h0 h8] at hg
  rw [List.map_cons, cv_ref h0 h8] at q
  exact lv_aload hF.1 hF.2.1 hd hg q
theorem s_aload_n {k v : Nat} {j : Fin 4} (hF : FX G cc own) (hd : decode cc pc = .ok (.aload_n j, 1)) (hj : (j : Nat) = k) (hf : am_find k ls = some (.inr (.inr v))) (h0 : v ≠ 0) (h8 : v ≠ 8) (kk : WA G (pc + 1) ls (.inr (.inr v) :: st) S) : WA G pc ls st S := by
  obtain ⟨p, l, e, R, s, m, args, below, meth, c, Q, nL, dC, dI, ct, ad, n0, z0, x0⟩ := G
  intro H locs lsC hR hl h1 h2
  have q := kk H locs lsC hR hl h1 (ok_c.mpr ⟨trivial, h2⟩)
  have hg := am_find_get hf hl
  rw [cv_ref h0 h8] at hg
  rw [List.map_cons, cv_ref h0 h8] at q
  exact lv_aload_n hF.1 hF.2.1 hd hj hg q
theorem s_istore {k : Nat} {v : Int} (hF : FX G cc own) (hd : decode cc pc = .ok (.istore k, 2)) (hn : k < anL G) (kk : WA G (pc + 2) (am_set1 k (.inl v) ls) st S) : WA G pc ls (.inl v :: st) S := by
  obtain ⟨p, l, e, R, s, m, args, below, meth, c, Q, nL, dC, dI, ct, ad, n0, z0, x0⟩ := G
  intro H locs lsC hR hl h1 h2
  exact lv_istore hF.1 hF.2.1 hd hl hn (am_ll_set1 ad k (.inl v) ls) (fun ls2 hl2 => kk H locs ls2 hR hl2 (ok_set1 (ok_c.mp h2).1 h1) (ok_c.mp h2).2)
theorem s_istore_n {k : Nat} {j : Fin 4} {v : Int} (hF : FX G cc own) (hd : decode cc pc = .ok (.istore_n j, 1)) (hj : (j : Nat) = k) (hn : k < anL G) (kk : WA G (pc + 1) (am_set1 k (.inl v) ls) st S) : WA G pc ls (.inl v :: st) S := by
  obtain ⟨p, l, e, R, s, m, args, below, meth, c, Q, nL, dC, dI, ct, ad, n0, z0, x0⟩ := G
  intro H locs lsC hR hl h1 h2
  exact lv_istore_n hF.1 hF.2.1 hd hj hl hn (am_ll_set1 ad k (.inl v) ls) (fun ls2 hl2 => kk H locs ls2 hR hl2 (ok_set1 (ok_c.mp h2).1 h1) (ok_c.mp h2).2)
theorem s_lstore {k : Nat} {v : Int} (hF : FX G cc own) (hd : decode cc pc = .ok (.lstore k, 2)) (hn : k + 1 < anL G) (kk : WA G (pc + 2) (am_set2 k (.inr (.inl v)) ls) st S) : WA G pc ls (.inr (.inl v) :: st) S := by
  obtain ⟨p, l, e, R, s, m, args, below, meth, c, Q, nL, dC, dI, ct, ad, n0, z0, x0⟩ := G
  intro H locs lsC hR hl h1 h2
  exact lv_lstore hF.1 hF.2.1 hd hl hn (am_ll_set2 ad k (.inr (.inl v)) ls) (fun ls2 hl2 => kk H locs ls2 hR hl2 (ok_set2 (ok_c.mp h2).1 h1) (ok_c.mp h2).2)
theorem s_lstore_n {k : Nat} {j : Fin 4} {v : Int} (hF : FX G cc own) (hd : decode cc pc = .ok (.lstore_n j, 1)) (hj : (j : Nat) = k) (hn : k + 1 < anL G) (kk : WA G (pc + 1) (am_set2 k (.inr (.inl v)) ls) st S) : WA G pc ls (.inr (.inl v) :: st) S := by
  obtain ⟨p, l, e, R, s, m, args, below, meth, c, Q, nL, dC, dI, ct, ad, n0, z0, x0⟩ := G
  intro H locs lsC hR hl h1 h2
  exact lv_lstore_n hF.1 hF.2.1 hd hj hl hn (am_ll_set2 ad k (.inr (.inl v)) ls) (fun ls2 hl2 => kk H locs ls2 hR hl2 (ok_set2 (ok_c.mp h2).1 h1) (ok_c.mp h2).2)
theorem s_astore {k v : Nat} (hF : FX G cc own) (hd : decode cc pc = .ok (.astore k, 2)) (hn : k < anL G) (h0 : v ≠ 0) (h8 : v ≠ 8) (kk : WA G (pc + 2) (am_set1 k (.inr (.inr v)) ls) st S) : WA G pc ls (.inr (.inr v) :: st) S := by
  obtain ⟨p, l, e, R, s, m, args, below, meth, c, Q, nL, dC, dI, ct, ad, n0, z0, x0⟩ := G
  intro H locs lsC hR hl h1 h2
  have e := am_ll_set1 ad k (.inr (.inr v)) ls
  rw [cv_ref h0 h8] at e
  show WP _ pc lsC (cv ad (.inr (.inr v)) :: st.map (cv ad)) S H locs
  rw [cv_ref h0 h8]
  exact lv_astore hF.1 hF.2.1 hd hl hn e (fun ls2 hl2 => kk H locs ls2 hR hl2 (ok_set1 (ok_c.mp h2).1 h1) (ok_c.mp h2).2)
theorem s_astore_n {k v : Nat} {j : Fin 4} (hF : FX G cc own) (hd : decode cc pc = .ok (.astore_n j, 1)) (hj : (j : Nat) = k) (hn : k < anL G) (h0 : v ≠ 0) (h8 : v ≠ 8) (kk : WA G (pc + 1) (am_set1 k (.inr (.inr v)) ls) st S) : WA G pc ls (.inr (.inr v) :: st) S := by
  obtain ⟨p, l, e, R, s, m, args, below, meth, c, Q, nL, dC, dI, ct, ad, n0, z0, x0⟩ := G
  intro H locs lsC hR hl h1 h2
  have e := am_ll_set1 ad k (.inr (.inr v)) ls
  rw [cv_ref h0 h8] at e
  show WP _ pc lsC (cv ad (.inr (.inr v)) :: st.map (cv ad)) S H locs
  rw [cv_ref h0 h8]
  exact lv_astore_n hF.1 hF.2.1 hd hj hl hn e (fun ls2 hl2 => kk H locs ls2 hR hl2 (ok_set1 (ok_c.mp h2).1 h1) (ok_c.mp h2).2)
theorem s_iinc {k : Nat} {v d : Int} (hF : FX G cc own) (hd : decode cc pc = .ok (.iinc k d, 3)) (hf : am_find k ls = some (.inl v)) (hg : am_rg (v + d)) (hn : k < anL G) (kk : WA G (pc + 3) (am_set1 k (.inl (v + d)) ls) st S) : WA G pc ls st S := by
  obtain ⟨p, l, e, R, s, m, args, below, meth, c, Q, nL, dC, dI, ct, ad, n0, z0, x0⟩ := G
  intro H locs lsC hR hl h1 h2
  have hl2 : lv_has lsC nL ((k, .int (Int32.ofInt v)) :: am_ll ad ls) := by
    refine ⟨hl.1, hl.2.1, fun q hq => ?_⟩
    rcases List.mem_cons.mp hq with rfl | hq
    · exact am_find_get hf hl
    · exact hl.2.2 q hq
  refine lv_iinc hF.1 hF.2.1 hd hl2 (k := 0) rfl (add32 v d) hn ?_ (fun ls2 hl2 => kk H locs ls2 hR hl2 (ok_set1 hg h1) h2)
  rw [List.filter_cons, if_neg (by simp)]
  exact am_ll_set1 ad k (.inl (v + d)) ls
theorem s_goto {off : Int} {t : Nat} (hF : FX G cc own) (hd : decode cc pc = .ok (.goto off, 3)) (ht : (pc : Int) + off = (t : Int)) (k : WA G t ls st S) : WA G pc ls st S := by
  obtain ⟨p, l, e, R, s, m, args, below, meth, c, Q, nL, dC, dI, ct, ad, n0, z0, x0⟩ := G
  exact WA.stk k (fun ho H locs lsC kk => lv_goto hF.1 hF.2.1 hd ht kk) (fun ho => ho)
theorem s_if {v off : Int} {t : Nat} {cd : Jvm.ClassFile.Cond} (hF : FX G cc own) (hd : decode cc pc = .ok (.ifCond cd off, 3)) (ht : (pc : Int) + off = (t : Int)) (kt : am_cnd cd v 0 → WA G t ls st S) (kf : ¬ am_cnd cd v 0 → WA G (pc + 3) ls st S) : WA G pc ls (.inl v :: st) S := by
  obtain ⟨p, l, e, R, s, m, args, below, meth, c, Q, nL, dC, dI, ct, ad, n0, z0, x0⟩ := G
  intro H locs lsC hR hl h1 h2
  obtain ⟨hv, h2⟩ := ok_c.mp h2
  have e0 : (0 : Int32) = Int32.ofInt 0 := rfl
  cases cd
  · exact lv_if_eq (x := Int32.ofInt v) hF.1 hF.2.1 hd ht (fun z => kt ((eq32 hv rg0).mp z) H locs lsC hR hl h1 h2) (fun z => kf (fun y => z ((eq32 hv rg0).mpr y)) H locs lsC hR hl h1 h2)
  · exact lv_if_ne (x := Int32.ofInt v) hF.1 hF.2.1 hd ht (fun z => kt (fun y => z ((eq32 hv rg0).mpr y)) H locs lsC hR hl h1 h2) (fun z => kf (fun y => y ((eq32 hv rg0).mp z)) H locs lsC hR hl h1 h2)
  · exact lv_if_lt (x := Int32.ofInt v) hF.1 hF.2.1 hd ht (fun z => kt ((lt32 hv rg0).mp z) H locs lsC hR hl h1 h2) (fun z => kf (fun y => z ((lt32 hv rg0).mpr y)) H locs lsC hR hl h1 h2)
  · exact lv_if_ge (x := Int32.ofInt v) hF.1 hF.2.1 hd ht (fun z => kt ((le32 rg0 hv).mp z) H locs lsC hR hl h1 h2) (fun z => kf (fun y => z ((le32 rg0 hv).mpr y)) H locs lsC hR hl h1 h2)
  · exact lv_if_gt (x := Int32.ofInt v) hF.1 hF.2.1 hd ht (fun z => kt ((lt32 rg0 hv).mp z) H locs lsC hR hl h1 h2) (fun z => kf (fun y => z ((lt32 rg0 hv).mpr y)) H locs lsC hR hl h1 h2)
  · exact lv_if_le (x := Int32.ofInt v) hF.1 hF.2.1 hd ht (fun z => kt ((le32 hv rg0).mp z) H locs lsC hR hl h1 h2) (fun z => kf (fun y => z ((le32 hv rg0).mpr y)) H locs lsC hR hl h1 h2)
theorem s_icmp {a b off : Int} {t : Nat} {cd : Jvm.ClassFile.Cond} (hF : FX G cc own) (hd : decode cc pc = .ok (.if_icmp cd off, 3)) (ht : (pc : Int) + off = (t : Int)) (kt : am_cnd cd a b → WA G t ls st S) (kf : ¬ am_cnd cd a b → WA G (pc + 3) ls st S) : WA G pc ls (.inl b :: .inl a :: st) S := by
  obtain ⟨p, l, e, R, s, m, args, below, meth, c, Q, nL, dC, dI, ct, ad, n0, z0, x0⟩ := G
  intro H locs lsC hR hl h1 h2
  obtain ⟨hv, h2⟩ := ok_c.mp h2
  obtain ⟨ha, h2⟩ := ok_c.mp h2
  cases cd
  · exact lv_icmp_eq (x := Int32.ofInt a) (y := Int32.ofInt b) hF.1 hF.2.1 hd ht (fun z => kt ((eq32 ha hv).mp z) H locs lsC hR hl h1 h2) (fun z => kf (fun y => z ((eq32 ha hv).mpr y)) H locs lsC hR hl h1 h2)
  · exact lv_icmp_ne (x := Int32.ofInt a) (y := Int32.ofInt b) hF.1 hF.2.1 hd ht (fun z => kt (fun y => z ((eq32 ha hv).mpr y)) H locs lsC hR hl h1 h2) (fun z => kf (fun y => y ((eq32 ha hv).mp z)) H locs lsC hR hl h1 h2)
  · exact lv_icmp_lt (x := Int32.ofInt a) (y := Int32.ofInt b) hF.1 hF.2.1 hd ht (fun z => kt ((lt32 ha hv).mp z) H locs lsC hR hl h1 h2) (fun z => kf (fun y => z ((lt32 ha hv).mpr y)) H locs lsC hR hl h1 h2)
  · exact lv_icmp_ge (x := Int32.ofInt a) (y := Int32.ofInt b) hF.1 hF.2.1 hd ht (fun z => kt ((le32 hv ha).mp z) H locs lsC hR hl h1 h2) (fun z => kf (fun y => z ((le32 hv ha).mpr y)) H locs lsC hR hl h1 h2)
  · exact lv_icmp_gt (x := Int32.ofInt a) (y := Int32.ofInt b) hF.1 hF.2.1 hd ht (fun z => kt ((lt32 hv ha).mp z) H locs lsC hR hl h1 h2) (fun z => kf (fun y => z ((lt32 hv ha).mpr y)) H locs lsC hR hl h1 h2)
  · exact lv_icmp_le (x := Int32.ofInt a) (y := Int32.ofInt b) hF.1 hF.2.1 hd ht (fun z => kt ((le32 ha hv).mp z) H locs lsC hR hl h1 h2) (fun z => kf (fun y => z ((le32 ha hv).mpr y)) H locs lsC hR hl h1 h2)
end S22
