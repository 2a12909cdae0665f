/-! one step: every instruction -/
set_option maxRecDepth 100000 in
set_option maxHeartbeats 8000000 in
theorem am_1_ok {G : aG} {cc : ByteArray} {own id pc i len : Nat} {wr : Bool} {PC : List Nat} {r : aI} {ls : aL} {st : List aV} {S : aS} {lim : Nat × Nat}
    {call : Nat → List aV → aS → (Option aV → aH → Prop) → Prop} {sp : Nat → List aV → aS → (aS → Prop) → Prop} {ret : Option aV → aS → Prop} {cut : Nat → aL → List aV → aS → Prop} {nxt : aL → List aV → aS → Prop} {jmp : Nat → aL → List aV → aS → Prop}
    (hF : FX G cc own) (hd : decode cc pc = .ok (r, len)) (hlen : am_lok r len = true) (hfr : mFr id ≤ (aR G).frames ∧ mWd id ≤ (aR G).locals) (hnm : (aMe G).name = (mY id).name)
    (hlim : lim.1 ≤ an0 G + (aR G).cells ∧ lim.2 ≤ az0 G + (aR G).slots)
    (h : am_1 (X := Prop) ftab mNa lim False brP ckP call sp ret cut i (tomi own id (anL G) wr PC pc r) ls st S nxt jmp)
    (knxt : am_ends r = false → ∀ ls st S, nxt ls st S → WA G (pc + len) ls st S)
    (kjmp : ∀ t ls st S, t < PC.length → jmp t ls st S → WA G (am_nth 0 PC t) ls st S)
    (kret : ∀ v ls S, ret v S → retOk cc id pc v → WA G pc ls v.toList S)
    (kcall : ∀ y as S cont, call y as S cont → ∃ v h, aMg G y as S v (S.1, h) ∧ cont v h)
    (ksp : ∀ y as S cont, sp y as S cont → ∃ S2 : aS, aMg G y as S none S2 ∧ S2.1.length = S.1.length + mCe y ∧ am_sz S2.1 = am_sz S.1 + mSl y ∧ S2.1.length ≤ lim.1 ∧ am_sz S2.1 ≤ lim.2 ∧ cont S2) : WA G pc ls st S := by
  cases r
  case iand =>
    have e := Nat.eq_of_beq_eq_true hlen
    subst e
    simp only [tomi, am_1] at h
    obtain ⟨a, b, st2, rfl, h⟩ := bin_ok h
    exact s_iand hF hd (knxt rfl _ _ _ h)
  case ior =>
    have e := Nat.eq_of_beq_eq_true hlen
    subst e
    simp only [tomi, am_1] at h
    obtain ⟨a, b, st2, rfl, h⟩ := bin_ok h
    exact s_ior hF hd (knxt rfl _ _ _ h)
  case ixor =>
    have e := Nat.eq_of_beq_eq_true hlen
    subst e
    simp only [tomi, am_1] at h
    obtain ⟨a, b, st2, rfl, h⟩ := bin_ok h
    exact s_ixor hF hd (knxt rfl _ _ _ h)
  case ishl =>
    have e := Nat.eq_of_beq_eq_true hlen
    subst e
    simp only [tomi, am_1] at h
    obtain ⟨a, b, st2, rfl, h⟩ := bin_ok h
    exact s_ishl hF hd (knxt rfl _ _ _ h)
  case ishr =>
    have e := Nat.eq_of_beq_eq_true hlen
    subst e
    simp only [tomi, am_1] at h
    obtain ⟨a, b, st2, rfl, h⟩ := bin_ok h
    exact s_ishr hF hd (knxt rfl _ _ _ h)
  case iushr =>
    have e := Nat.eq_of_beq_eq_true hlen
    subst e
    simp only [tomi, am_1] at h
    obtain ⟨a, b, st2, rfl, h⟩ := bin_ok h
    exact s_iushr hF hd (knxt rfl _ _ _ h)
  case land =>
    have e := Nat.eq_of_beq_eq_true hlen
    subst e
    simp only [tomi, am_1] at h
    obtain ⟨a, b, st2, rfl, h⟩ := binL_ok h
    exact s_land hF hd (knxt rfl _ _ _ h)
  case lxor =>
    have e := Nat.eq_of_beq_eq_true hlen
    subst e
    simp only [tomi, am_1] at h
    obtain ⟨a, b, st2, rfl, h⟩ := binL_ok h
    exact s_lxor hF hd (knxt rfl _ _ _ h)
  case iadd =>
    have e := Nat.eq_of_beq_eq_true hlen
    subst e
    cases wr with
    | true =>
      simp only [tomi, cond_true, am_1] at h
      obtain ⟨a, b, st2, rfl, h⟩ := bin_ok h
      exact s_iadd hF hd (o32 _) (w32_rg _) (knxt rfl _ _ _ h)
    | false =>
      simp only [tomi, cond_false, am_1] at h
      obtain ⟨a, b, st2, rfl, hg, h⟩ := binC_ok h
      exact s_iadd hF hd rfl hg (knxt rfl _ _ _ h)
  case isub =>
    have e := Nat.eq_of_beq_eq_true hlen
    subst e
    cases wr with
    | true =>
      simp only [tomi, cond_true, am_1] at h
      obtain ⟨a, b, st2, rfl, h⟩ := bin_ok h
      exact s_isub hF hd (o32 _) (w32_rg _) (knxt rfl _ _ _ h)
    | false =>
      simp only [tomi, cond_false, am_1] at h
      obtain ⟨a, b, st2, rfl, hg, h⟩ := binC_ok h
      exact s_isub hF hd rfl hg (knxt rfl _ _ _ h)
  case imul =>
    have e := Nat.eq_of_beq_eq_true hlen
    subst e
    cases wr with
    | true =>
      simp only [tomi, cond_true, am_1] at h
      obtain ⟨a, b, st2, rfl, h⟩ := bin_ok h
      exact s_imul hF hd (o32 _) (w32_rg _) (knxt rfl _ _ _ h)
    | false =>
      simp only [tomi, cond_false, am_1] at h
      obtain ⟨a, b, st2, rfl, hg, h⟩ := binC_ok h
      exact s_imul hF hd rfl hg (knxt rfl _ _ _ h)
  case ladd =>
    have e := Nat.eq_of_beq_eq_true hlen
    subst e
    cases wr with
    | true =>
      simp only [tomi, cond_true, am_1] at h
      obtain ⟨a, b, st2, rfl, h⟩ := binL_ok h
      exact s_ladd hF hd (o64 _) (w64_rl _) (knxt rfl _ _ _ h)
    | false =>
      simp only [tomi, cond_false, am_1] at h
      obtain ⟨a, b, st2, rfl, hg, h⟩ := binLC_ok h
      exact s_ladd hF hd rfl hg (knxt rfl _ _ _ h)
  case lsub =>
    have e := Nat.eq_of_beq_eq_true hlen
    subst e
    cases wr with
    | true =>
      simp only [tomi, cond_true, am_1] at h
      obtain ⟨a, b, st2, rfl, h⟩ := binL_ok h
      exact s_lsub hF hd (o64 _) (w64_rl _) (knxt rfl _ _ _ h)
    | false =>
      simp only [tomi, cond_false, am_1] at h
      obtain ⟨a, b, st2, rfl, hg, h⟩ := binLC_ok h
      exact s_lsub hF hd rfl hg (knxt rfl _ _ _ h)
  case lmul =>
    have e := Nat.eq_of_beq_eq_true hlen
    subst e
    cases wr with
    | true =>
      simp only [tomi, cond_true, am_1] at h
      obtain ⟨a, b, st2, rfl, h⟩ := binL_ok h
      exact s_lmul hF hd (o64 _) (w64_rl _) (knxt rfl _ _ _ h)
    | false =>
      simp only [tomi, cond_false, am_1] at h
      obtain ⟨a, b, st2, rfl, hg, h⟩ := binLC_ok h
      exact s_lmul hF hd rfl hg (knxt rfl _ _ _ h)
  case idiv =>
    have e := Nat.eq_of_beq_eq_true hlen
    subst e
    match st, h with
    | .inl b :: .inl a :: st, h => exact s_idiv hF hd h.1 (knxt rfl _ _ _ h.2)
    | [], h => exact (show False from h).elim
    | [.inl _], h => exact (show False from h).elim
    | .inl _ :: .inr _ :: _, h => exact (show False from h).elim
    | .inr _ :: _, h => exact (show False from h).elim
  case irem =>
    have e := Nat.eq_of_beq_eq_true hlen
    subst e
    match st, h with
    | .inl b :: .inl a :: st, h => exact s_irem hF hd h.1 (knxt rfl _ _ _ h.2)
    | [], h => exact (show False from h).elim
    | [.inl _], h => exact (show False from h).elim
    | .inl _ :: .inr _ :: _, h => exact (show False from h).elim
    | .inr _ :: _, h => exact (show False from h).elim
  case ldiv =>
    have e := Nat.eq_of_beq_eq_true hlen
    subst e
    match st, h with
    | .inr (.inl b) :: .inr (.inl a) :: st, h => exact s_ldiv hF hd h.1 (knxt rfl _ _ _ h.2)
    | [], h => exact (show False from h).elim
    | .inl _ :: _, h => exact (show False from h).elim
    | [.inr (.inl _)], h => exact (show False from h).elim
    | .inr (.inl _) :: .inl _ :: _, h => exact (show False from h).elim
    | .inr (.inl _) :: .inr (.inr _) :: _, h => exact (show False from h).elim
    | .inr (.inr _) :: _, h => exact (show False from h).elim
  case lcmp =>
    have e := Nat.eq_of_beq_eq_true hlen
    subst e
    match st, h with
    | .inr (.inl b) :: .inr (.inl a) :: st, h => exact s_lcmp hF hd (knxt rfl _ _ _ h)
    | [], h => exact (show False from h).elim
    | .inl _ :: _, h => exact (show False from h).elim
    | [.inr (.inl _)], h => exact (show False from h).elim
    | .inr (.inl _) :: .inl _ :: _, h => exact (show False from h).elim
    | .inr (.inl _) :: .inr (.inr _) :: _, h => exact (show False from h).elim
    | .inr (.inr _) :: _, h => exact (show False from h).elim
  case lshl =>
    have e := Nat.eq_of_beq_eq_true hlen
    subst e
    match st, h with
    | .inl b :: .inr (.inl a) :: st, h => exact s_lshl hF hd (knxt rfl _ _ _ h)
    | [], h => exact (show False from h).elim
    | .inr _ :: _, h => exact (show False from h).elim
    | [.inl _], h => exact (show False from h).elim
    | .inl _ :: .inl _ :: _, h => exact (show False from h).elim
    | .inl _ :: .inr (.inr _) :: _, h => exact (show False from h).elim
  case lshr =>
    have e := Nat.eq_of_beq_eq_true hlen
    subst e
    match st, h with
    | .inl b :: .inr (.inl a) :: st, h => exact s_lshr hF hd (knxt rfl _ _ _ h)
    | [], h => exact (show False from h).elim
    | .inr _ :: _, h => exact (show False from h).elim
    | [.inl _], h => exact (show False from h).elim
    | .inl _ :: .inl _ :: _, h => exact (show False from h).elim
    | .inl _ :: .inr (.inr _) :: _, h => exact (show False from h).elim
  case lushr =>
    have e := Nat.eq_of_beq_eq_true hlen
    subst e
    match st, h with
    | .inl b :: .inr (.inl a) :: st, h => exact s_lushr hF hd (knxt rfl _ _ _ h)
    | [], h => exact (show False from h).elim
    | .inr _ :: _, h => exact (show False from h).elim
    | [.inl _], h => exact (show False from h).elim
    | .inl _ :: .inl _ :: _, h => exact (show False from h).elim
    | .inl _ :: .inr (.inr _) :: _, h => exact (show False from h).elim
  case ineg =>
    have e := Nat.eq_of_beq_eq_true hlen
    subst e
    match st, h with
    | .inl a :: st, h => exact s_ineg hF hd h.1 (knxt rfl _ _ _ h.2)
    | [], h => exact (show False from h).elim
    | .inr _ :: _, h => exact (show False from h).elim
  case i2l =>
    have e := Nat.eq_of_beq_eq_true hlen
    subst e
    match st, h with
    | .inl a :: st, h => exact s_i2l hF hd (knxt rfl _ _ _ h)
    | [], h => exact (show False from h).elim
    | .inr _ :: _, h => exact (show False from h).elim
  case i2b =>
    have e := Nat.eq_of_beq_eq_true hlen
    subst e
    match st, h with
    | .inl a :: st, h => exact s_i2b hF hd (knxt rfl _ _ _ h)
    | [], h => exact (show False from h).elim
    | .inr _ :: _, h => exact (show False from h).elim
  case i2c =>
    have e := Nat.eq_of_beq_eq_true hlen
    subst e
    match st, h with
    | .inl a :: st, h => exact s_i2c hF hd (knxt rfl _ _ _ h)
    | [], h => exact (show False from h).elim
    | .inr _ :: _, h => exact (show False from h).elim
  case l2i =>
    have e := Nat.eq_of_beq_eq_true hlen
    subst e
    match st, h with
    | .inr (.inl a) :: st, h => exact s_l2i hF hd (knxt rfl _ _ _ h)
    | [], h => exact (show False from h).elim
    | .inl _ :: _, h => exact (show False from h).elim
    | .inr (.inr _) :: _, h => exact (show False from h).elim
  case pop2 =>
    have e := Nat.eq_of_beq_eq_true hlen
    subst e
    match st, h with
    | .inr (.inl a) :: st, h => exact s_pop2 hF hd (knxt rfl _ _ _ h)
    | [], h => exact (show False from h).elim
    | .inl _ :: _, h => exact (show False from h).elim
    | .inr (.inr _) :: _, h => exact (show False from h).elim
  case dup =>
    have e := Nat.eq_of_beq_eq_true hlen
    subst e
    match st, h with
    | v :: st, h =>
      obtain ⟨h2, h⟩ := bif_f h
      exact s_dup hF hd h2 (knxt rfl _ _ _ h)
    | [], h => exact (show False from h).elim
  case pop =>
    have e := Nat.eq_of_beq_eq_true hlen
    subst e
    match st, h with
    | v :: st, h =>
      obtain ⟨h2, h⟩ := bif_f h
      exact s_pop hF hd h2 (knxt rfl _ _ _ h)
    | [], h => exact (show False from h).elim
  case dup2 =>
    have e := Nat.eq_of_beq_eq_true hlen
    subst e
    match st, h with
    | .inr (.inl v) :: st, h => exact s_dup22 hF hd (knxt rfl _ _ _ h)
    | .inl v :: w :: st, h =>
      obtain ⟨h2, h⟩ := bif_f h
      obtain ⟨h2, h3⟩ := Bool.or_eq_false_iff.mp h2
      exact s_dup21 hF hd h2 h3 (knxt rfl _ _ _ h)
    | .inr (.inr v) :: w :: st, h =>
      obtain ⟨h2, h⟩ := bif_f h
      obtain ⟨h2, h3⟩ := Bool.or_eq_false_iff.mp h2
      exact s_dup21 hF hd h2 h3 (knxt rfl _ _ _ h)
    | [], h => exact (show False from h).elim
    | [.inl _], h => exact (show False from h).elim
    | [.inr (.inr _)], h => exact (show False from h).elim
  case iconst n =>
    have e := Nat.eq_of_beq_eq_true hlen
    subst e
    simp only [tomi] at h
    cases hb : decide (-1 ≤ n ∧ n ≤ 5) with
    | true =>
      rw [hb] at h
      have hb := of_decide_eq_true hb
      exact s_iconst hF hd ⟨by omega, by omega⟩ (knxt rfl _ _ _ h)
    | false => rw [hb] at h; exact (show False from h).elim
  case bipush n =>
    have e := Nat.eq_of_beq_eq_true hlen
    subst e
    simp only [tomi] at h
    cases hb : decide (-128 ≤ n ∧ n < 128) with
    | true =>
      rw [hb] at h
      exact s_bipush hF hd (of_decide_eq_true hb) (knxt rfl _ _ _ h)
    | false => rw [hb] at h; exact (show False from h).elim
  case sipush n =>
    have e := Nat.eq_of_beq_eq_true hlen
    subst e
    simp only [tomi] at h
    cases hb : decide (-32768 ≤ n ∧ n < 32768) with
    | true =>
      rw [hb] at h
      exact s_sipush hF hd (of_decide_eq_true hb) (knxt rfl _ _ _ h)
    | false => rw [hb] at h; exact (show False from h).elim
  case ldc x =>
    have e := Nat.eq_of_beq_eq_true hlen
    subst e
    simp only [tomi] at h
    cases hq : am_as tCn own x with
    | some v =>
      rw [hq] at h
      simp only at h
      cases hb : decide (-2147483648 ≤ v ∧ v < 2147483648) with
      | true =>
        rw [hb] at h
        have hb := of_decide_eq_true hb
        exact s_ldc hF hd (am_as_ok hq) hb (knxt rfl _ _ _ h)
      | false => rw [hb] at h; exact (show False from h).elim
    | none =>
      rw [hq] at h
      simp only at h
      cases hq2 : am_as tTx own x with
      | some q => rw [hq2] at h; exact s_ldcS hF hd (am_as_ok hq2) (knxt rfl _ _ _ h)
      | none => rw [hq2] at h; exact (show False from h).elim
  case ldc_w x =>
    have e := Nat.eq_of_beq_eq_true hlen
    subst e
    simp only [tomi] at h
    cases hq : am_as tCn own x with
    | some v =>
      rw [hq] at h
      simp only at h
      cases hb : decide (-2147483648 ≤ v ∧ v < 2147483648) with
      | true =>
        rw [hb] at h
        have hb := of_decide_eq_true hb
        exact s_ldcw hF hd (am_as_ok hq) hb (knxt rfl _ _ _ h)
      | false => rw [hb] at h; exact (show False from h).elim
    | none => rw [hq] at h; exact (show False from h).elim
  case ldc2_w x =>
    have e := Nat.eq_of_beq_eq_true hlen
    subst e
    simp only [tomi] at h
    cases hq : am_as tCl own x with
    | some v =>
      rw [hq] at h
      simp only at h
      cases hb : decide (-9223372036854775808 ≤ v ∧ v < 9223372036854775808) with
      | true =>
        rw [hb] at h
        have hb := of_decide_eq_true hb
        exact s_ldc2 hF hd (am_as_ok hq) hb (knxt rfl _ _ _ h)
      | false => rw [hb] at h; exact (show False from h).elim
    | none => rw [hq] at h; exact (show False from h).elim
  case lconst n =>
    have e := Nat.eq_of_beq_eq_true hlen
    subst e
    exact s_lconst hF hd (knxt rfl _ _ _ h)
  case getstatic x =>
    have e := Nat.eq_of_beq_eq_true hlen
    subst e
    simp only [tomi] at h
    cases hb : (Nat.beq own 14 && Nat.beq x 38) with
    | true =>
      rw [hb] at h
      obtain ⟨b1, b2⟩ := Bool.and_eq_true_iff.mp hb
      have e1 := Nat.eq_of_beq_eq_true b1
      have e2 := Nat.eq_of_beq_eq_true b2
      subst e1; subst e2
      exact s_gsi hF hd (knxt rfl _ _ _ h)
    | false =>
      rw [hb] at h
      simp only [cond_false] at h
      cases hq : am_as tSr own x with
      | some q => rw [hq] at h; exact s_gst hF hd (am_as_ok hq) (knxt rfl _ _ _ h)
      | none => rw [hq] at h; exact (show False from h).elim
  case iload k =>
    have e := Nat.eq_of_beq_eq_true hlen
    subst e
    simp only [tomi, am_1] at h
    split at h
    · rename_i v hf
      exact s_iload hF hd hf (knxt rfl _ _ _ h)
    · exact (show False from h).elim
  case iload_n k =>
    have e := Nat.eq_of_beq_eq_true hlen
    subst e
    simp only [tomi, am_1] at h
    split at h
    · rename_i v hf
      exact s_iload_n hF hd rfl hf (knxt rfl _ _ _ h)
    · exact (show False from h).elim
  case lload k =>
    have e := Nat.eq_of_beq_eq_true hlen
    subst e
    simp only [tomi, am_1] at h
    split at h
    · rename_i v hf
      exact s_lload hF hd hf (knxt rfl _ _ _ h)
    · exact (show False from h).elim
  case lload_n k =>
    have e := Nat.eq_of_beq_eq_true hlen
    subst e
    simp only [tomi, am_1] at h
    split at h
    · rename_i v hf
      exact s_lload_n hF hd rfl hf (knxt rfl _ _ _ h)
    · exact (show False from h).elim
  case aload k =>
    have e := Nat.eq_of_beq_eq_true hlen
    subst e
    simp only [tomi, am_1] at h
    split at h
    · rename_i v hf
      obtain ⟨h0, h⟩ := bif_f h
      exact s_aload hF hd hf (nb08 h0).1 (nb08 h0).2 (knxt rfl _ _ _ h)
    · exact (show False from h).elim
  case aload_n k =>
    have e := Nat.eq_of_beq_eq_true hlen
    subst e
    simp only [tomi, am_1] at h
    split at h
    · rename_i v hf
      obtain ⟨h0, h⟩ := bif_f h
      exact s_aload_n hF hd rfl hf (nb08 h0).1 (nb08 h0).2 (knxt rfl _ _ _ h)
    · exact (show False from h).elim
  case istore k =>
    have e := Nat.eq_of_beq_eq_true hlen
    subst e
    simp only [tomi] at h
    cases hb : (Nat.blt k (anL G)) with
    | false => rw [hb] at h; exact (show False from h).elim
    | true =>
      rw [hb] at h
      simp only [cond_true] at h
      match st, h with
      | .inl v :: st, h => exact s_istore hF hd (Nat.le_of_ble_eq_true hb) (knxt rfl _ _ _ h)
      | [], h => exact (show False from h).elim
      | .inr _ :: _, h => exact (show False from h).elim
  case istore_n k =>
    have e := Nat.eq_of_beq_eq_true hlen
    subst e
    simp only [tomi] at h
    cases hb : (Nat.blt k.val (anL G)) with
    | false => rw [hb] at h; exact (show False from h).elim
    | true =>
      rw [hb] at h
      simp only [cond_true] at h
      match st, h with
      | .inl v :: st, h => exact s_istore_n hF hd rfl (Nat.le_of_ble_eq_true hb) (knxt rfl _ _ _ h)
      | [], h => exact (show False from h).elim
      | .inr _ :: _, h => exact (show False from h).elim
  case lstore k =>
    have e := Nat.eq_of_beq_eq_true hlen
    subst e
    simp only [tomi] at h
    cases hb : (Nat.blt (k + 1) (anL G)) with
    | false => rw [hb] at h; exact (show False from h).elim
    | true =>
      rw [hb] at h
      simp only [cond_true] at h
      match st, h with
      | .inr (.inl v) :: st, h => exact s_lstore hF hd (Nat.le_of_ble_eq_true hb) (knxt rfl _ _ _ h)
      | [], h => exact (show False from h).elim
      | .inl _ :: _, h => exact (show False from h).elim
      | .inr (.inr _) :: _, h => exact (show False from h).elim
  case lstore_n k =>
    have e := Nat.eq_of_beq_eq_true hlen
    subst e
    simp only [tomi] at h
    cases hb : (Nat.blt (k.val + 1) (anL G)) with
    | false => rw [hb] at h; exact (show False from h).elim
    | true =>
      rw [hb] at h
      simp only [cond_true] at h
      match st, h with
      | .inr (.inl v) :: st, h => exact s_lstore_n hF hd rfl (Nat.le_of_ble_eq_true hb) (knxt rfl _ _ _ h)
      | [], h => exact (show False from h).elim
      | .inl _ :: _, h => exact (show False from h).elim
      | .inr (.inr _) :: _, h => exact (show False from h).elim
  case astore k =>
    have e := Nat.eq_of_beq_eq_true hlen
    subst e
    simp only [tomi] at h
    cases hb : (Nat.blt k (anL G)) with
    | false => rw [hb] at h; exact (show False from h).elim
    | true =>
      rw [hb] at h
      simp only [cond_true] at h
      match st, h with
      | .inr (.inr v) :: st, h =>
        obtain ⟨h0, h⟩ := bif_f h
        exact s_astore hF hd (Nat.le_of_ble_eq_true hb) (nb08 h0).1 (nb08 h0).2 (knxt rfl _ _ _ h)
      | [], h => exact (show False from h).elim
      | .inl _ :: _, h => exact (show False from h).elim
      | .inr (.inl _) :: _, h => exact (show False from h).elim
  case astore_n k =>
    have e := Nat.eq_of_beq_eq_true hlen
    subst e
    simp only [tomi] at h
    cases hb : (Nat.blt k.val (anL G)) with
    | false => rw [hb] at h; exact (show False from h).elim
    | true =>
      rw [hb] at h
      simp only [cond_true] at h
      match st, h with
      | .inr (.inr v) :: st, h =>
        obtain ⟨h0, h⟩ := bif_f h
        exact s_astore_n hF hd rfl (Nat.le_of_ble_eq_true hb) (nb08 h0).1 (nb08 h0).2 (knxt rfl _ _ _ h)
      | [], h => exact (show False from h).elim
      | .inl _ :: _, h => exact (show False from h).elim
      | .inr (.inl _) :: _, h => exact (show False from h).elim
  case iinc k d =>
    have e := Nat.eq_of_beq_eq_true hlen
    subst e
    simp only [tomi] at h
    cases hb : (Nat.blt k (anL G)) with
    | false => rw [hb] at h; exact (show False from h).elim
    | true =>
      rw [hb] at h
      simp only [cond_true, am_1] at h
      split at h
      · rename_i v hf
        exact s_iinc hF hd hf h.1 (Nat.le_of_ble_eq_true hb) (knxt rfl _ _ _ h.2)
      · exact (show False from h).elim
  case goto o =>
    have e := Nat.eq_of_beq_eq_true hlen
    subst e
    simp only [tomi, am_tg] at h
    cases hq : am_ixo ((pc : Int) + o) PC 0 with
    | none => rw [hq] at h; exact (show False from h).elim
    | some t =>
      rw [hq] at h
      simp only [am_1] at h
      obtain ⟨j, e1, e2, e3⟩ := am_ixo_ok _ _ _ hq
      have e4 : t = j := by omega
      subst e4
      exact s_goto hF hd e3 (kjmp t _ _ _ e2 h)
  case ifCond cd o =>
    have e := Nat.eq_of_beq_eq_true hlen
    subst e
    simp only [tomi, am_tg] at h
    cases hq : am_ixo ((pc : Int) + o) PC 0 with
    | none => rw [hq] at h; exact (show False from h).elim
    | some t =>
      rw [hq] at h
      simp only [am_1] at h
      obtain ⟨j, e1, e2, e3⟩ := am_ixo_ok _ _ _ hq
      have e4 : t = j := by omega
      subst e4
      match st, h with
      | .inl v :: st, h => exact s_if hF hd e3 (fun z => kjmp t _ _ _ e2 (h.1 z)) (fun z => knxt rfl _ _ _ (h.2 z))
      | [], h => exact (show False from h).elim
      | .inr _ :: _, h => exact (show False from h).elim
  case if_icmp cd o =>
    have e := Nat.eq_of_beq_eq_true hlen
    subst e
    simp only [tomi, am_tg] at h
    cases hq : am_ixo ((pc : Int) + o) PC 0 with
    | none => rw [hq] at h; exact (show False from h).elim
    | some t =>
      rw [hq] at h
      simp only [am_1] at h
      obtain ⟨j, e1, e2, e3⟩ := am_ixo_ok _ _ _ hq
      have e4 : t = j := by omega
      subst e4
      match st, h with
      | .inl b :: .inl a :: st, h => exact s_icmp hF hd e3 (fun z => kjmp t _ _ _ e2 (h.1 z)) (fun z => knxt rfl _ _ _ (h.2 z))
      | [], h => exact (show False from h).elim
      | [.inl _], h => exact (show False from h).elim
      | .inl _ :: .inr _ :: _, h => exact (show False from h).elim
      | .inr _ :: _, h => exact (show False from h).elim
  case tableswitch d lo hi offs =>
    simp only [tomi] at h
    cases hb : decide (hi - lo + 1 = (offs.toList.length : Int)) with
    | false => rw [hb] at h; exact (show False from h).elim
    | true =>
      rw [hb] at h
      simp only [cond_true] at h
      cases hq : am_ixo ((pc : Int) + d) PC 0 with
      | none => rw [hq] at h; exact (show False from h).elim
      | some t =>
        cases hq2 : am_tgs PC pc offs.toList with
        | none => rw [hq, hq2] at h; exact (show False from h).elim
        | some ts =>
          rw [hq, hq2] at h
          simp only [am_1] at h
          match st, h with
          | [], h => exact (show False from h).elim
          | .inr _ :: _, h => exact (show False from h).elim
          | .inl v :: st, h =>
            obtain ⟨j, e1, e2, e3⟩ := am_ixo_ok _ _ _ hq
            have e4 : t = j := by omega
            subst e4
            by_cases hv : v < lo ∨ hi < v
            · exact s_swOut hF hd hv e3 (kjmp t _ _ _ e2 (h.1 hv))
            · obtain ⟨j, g1, g2, g3⟩ := am_sw_ok _ _ (h.2 hv)
              obtain ⟨o, f1, f2, f3⟩ := am_tgs_at _ _ hq2 j g1
              exact s_swIn hF hd (fun z => hv (Or.inl z)) (fun z => hv (Or.inr z)) (by
                rw [show (v - lo).toNat = j by omega, ← Array.getElem?_toList]
                exact f1) f3 (kjmp _ _ _ _ f2 g3)
  case getfield x =>
    have e := Nat.eq_of_beq_eq_true hlen
    subst e
    simp only [tomi] at h
    cases hb : (Nat.beq own 14 && Nat.beq x 9) with
    | true =>
      rw [hb] at h
      obtain ⟨b1, b2⟩ := Bool.and_eq_true_iff.mp hb
      have e1 := Nat.eq_of_beq_eq_true b1
      have e2 := Nat.eq_of_beq_eq_true b2
      subst e1; subst e2
      simp only [cond_true, am_1] at h
      match st, h with
      | .inr (.inr q) :: st, h =>
        obtain ⟨h0, h⟩ := bif_t (X := Nat) h
        exact s_getS hF hd h0 (Or.inl ⟨rfl, rfl⟩) (knxt rfl _ _ _ h)
      | [], h => exact (show False from h).elim
      | .inl _ :: _, h => exact (show False from h).elim
      | .inr (.inl _) :: _, h => exact (show False from h).elim
    | false =>
      rw [hb] at h
      simp only [cond_false] at h
      cases hb2 : (Nat.beq own 14 && Nat.beq x 15) with
      | true =>
        rw [hb2] at h
        obtain ⟨b1, b2⟩ := Bool.and_eq_true_iff.mp hb2
        have e1 := Nat.eq_of_beq_eq_true b1
        have e2 := Nat.eq_of_beq_eq_true b2
        subst e1; subst e2
        simp only [cond_true, am_1] at h
        match st, h with
        | .inr (.inr q) :: st, h =>
          obtain ⟨h0, h⟩ := bif_t (X := Nat) h
          exact s_getS hF hd h0 (Or.inr ⟨rfl, rfl⟩) (knxt rfl _ _ _ h)
        | [], h => exact (show False from h).elim
        | .inl _ :: _, h => exact (show False from h).elim
        | .inr (.inl _) :: _, h => exact (show False from h).elim
      | false =>
        rw [hb2] at h
        simp only [cond_false] at h
        cases hq : am_as tFl own x with
        | none => rw [hq] at h; exact (show False from h).elim
        | some q =>
          rw [hq] at h
          simp only [am_1] at h
          have hlt := tFl_lt _ (am_as_ok hq)
          have hk : (100 * q.1 + q.2) / 100 = q.1 ∧ (100 * q.1 + q.2) % 100 = q.2 := by
            have hn : nf q.1 ≤ 99 := nf_le _
            have := hlt.2
            have this : q.2 < nf q.1 := this
            omega
          match st, h with
          | .inr (.inr z) :: st, h =>
            obtain ⟨h0, h⟩ := bif_t (X := Nat) h
            exact s_getf hF hd h0 (by rw [hk.1, hk.2]; exact am_as_ok hq) (knxt rfl _ _ _ h)
          | [], h => exact (show False from h).elim
          | .inl _ :: _, h => exact (show False from h).elim
          | .inr (.inl _) :: _, h => exact (show False from h).elim
  case putfield x =>
    have e := Nat.eq_of_beq_eq_true hlen
    subst e
    simp only [tomi] at h
    cases hq : am_as tFl own x with
    | none => rw [hq] at h; exact (show False from h).elim
    | some q =>
      rw [hq] at h
      simp only at h
      cases hb : (!(cT q.1 q.2).2.2.2 || (decide ((mY id).name = "<init>") && Nat.beq own q.1)) with
      | false => rw [hb] at h; exact (show False from h).elim
      | true =>
        rw [hb] at h
        simp only [cond_true, am_1] at h
        have hlt := tFl_lt _ (am_as_ok hq)
        have hk : (100 * q.1 + q.2) / 100 = q.1 ∧ (100 * q.1 + q.2) % 100 = q.2 := by
          have hn : nf q.1 ≤ 99 := nf_le _
          have := hlt.2
          have this : q.2 < nf q.1 := this
          omega
        match st, h with
        | v :: .inr (.inr z) :: st, h =>
          obtain ⟨h0, h⟩ := bif_t (X := Nat) h
          obtain ⟨h0, h9⟩ := Bool.and_eq_true_iff.mp h0
          refine s_putf hF hd h0 (by rw [hk.1, hk.2]; exact am_as_ok hq) ?_ h (fun S2 hS2 => knxt rfl _ _ _ hS2)
          rw [hk.1, hk.2]
          rcases Bool.or_eq_true_iff.mp hb with hb | hb
          · exact Or.inl (by simpa using hb)
          · obtain ⟨b1, b2⟩ := Bool.and_eq_true_iff.mp hb
            exact Or.inr ⟨hnm.trans (of_decide_eq_true b1), Nat.eq_of_beq_eq_true b2⟩
        | [], h => exact (show False from h).elim
        | [_], h => exact (show False from h).elim
        | _ :: .inl _ :: _, h => exact (show False from h).elim
        | _ :: .inr (.inl _) :: _, h => exact (show False from h).elim
  case iaload =>
    have e := Nat.eq_of_beq_eq_true hlen
    subst e
    match st, h with
    | .inl a :: .inr (.inr z) :: st, h =>
      simp only [tomi, am_1] at h
      split at h
      · rename_i hk
        exact s_iald hF hd (Or.inl hk) h.1 (knxt rfl _ _ _ h.2)
      · rename_i hk
        exact s_iald hF hd (Or.inr hk) h.1 (knxt rfl _ _ _ h.2)
      · exact (show False from h).elim
    | [], h => exact (show False from h).elim
    | .inr _ :: _, h => exact (show False from h).elim
    | [.inl _], h => exact (show False from h).elim
    | .inl _ :: .inl _ :: _, h => exact (show False from h).elim
    | .inl _ :: .inr (.inl _) :: _, h => exact (show False from h).elim
  case laload =>
    have e := Nat.eq_of_beq_eq_true hlen
    subst e
    match st, h with
    | .inl a :: .inr (.inr z) :: st, h =>
      simp only [tomi, am_1] at h
      split at h
      · rename_i hk
        exact s_lald hF hd (Or.inl hk) h.1 (knxt rfl _ _ _ h.2)
      · rename_i hk
        exact s_lald hF hd (Or.inr hk) h.1 (knxt rfl _ _ _ h.2)
      · exact (show False from h).elim
    | [], h => exact (show False from h).elim
    | .inr _ :: _, h => exact (show False from h).elim
    | [.inl _], h => exact (show False from h).elim
    | .inl _ :: .inl _ :: _, h => exact (show False from h).elim
    | .inl _ :: .inr (.inl _) :: _, h => exact (show False from h).elim
  case baload =>
    have e := Nat.eq_of_beq_eq_true hlen
    subst e
    match st, h with
    | .inl a :: .inr (.inr z) :: st, h =>
      simp only [tomi, am_1] at h
      split at h
      · rename_i hk
        exact s_bald hF hd (Or.inl hk) h.1 (knxt rfl _ _ _ h.2)
      · rename_i hk
        exact s_bald hF hd (Or.inr (Or.inl hk)) h.1 (knxt rfl _ _ _ h.2)
      · rename_i hk
        exact s_bald hF hd (Or.inr (Or.inr hk)) h.1 (knxt rfl _ _ _ h.2)
      · exact (show False from h).elim
    | [], h => exact (show False from h).elim
    | .inr _ :: _, h => exact (show False from h).elim
    | [.inl _], h => exact (show False from h).elim
    | .inl _ :: .inl _ :: _, h => exact (show False from h).elim
    | .inl _ :: .inr (.inl _) :: _, h => exact (show False from h).elim
  case aaload =>
    have e := Nat.eq_of_beq_eq_true hlen
    subst e
    match st, h with
    | .inl a :: .inr (.inr z) :: st, h =>
      simp only [tomi, am_1] at h
      split at h
      · rename_i hk
        obtain ⟨j, g1, g2, g3⟩ := am_aal_ok _ _ h.2
        exact s_aald hF hd hk h.1 (by omega) rfl (knxt rfl _ _ _ g3)
      · exact (show False from h).elim
    | [], h => exact (show False from h).elim
    | .inr _ :: _, h => exact (show False from h).elim
    | [.inl _], h => exact (show False from h).elim
    | .inl _ :: .inl _ :: _, h => exact (show False from h).elim
    | .inl _ :: .inr (.inl _) :: _, h => exact (show False from h).elim
  case iastore =>
    have e := Nat.eq_of_beq_eq_true hlen
    subst e
    match st, h with
    | .inl v :: .inl a :: .inr (.inr z) :: st, h =>
      simp only [tomi, am_1] at h
      split at h
      · rename_i hk
        exact s_iast hF hd hk h.1 (knxt rfl _ _ _ h.2)
      · exact (show False from h).elim
    | [], h => exact (show False from h).elim
    | .inr _ :: _, h => exact (show False from h).elim
    | [.inl v], h => exact (show False from h).elim
    | .inl v :: .inr _ :: _, h => exact (show False from h).elim
    | [.inl v, .inl _], h => exact (show False from h).elim
    | .inl v :: .inl _ :: .inl _ :: _, h => exact (show False from h).elim
    | .inl v :: .inl _ :: .inr (.inl _) :: _, h => exact (show False from h).elim
  case lastore =>
    have e := Nat.eq_of_beq_eq_true hlen
    subst e
    match st, h with
    | .inr (.inl v) :: .inl a :: .inr (.inr z) :: st, h =>
      simp only [tomi, am_1] at h
      split at h
      · rename_i hk
        exact s_last hF hd hk h.1 (knxt rfl _ _ _ h.2)
      · exact (show False from h).elim
    | [], h => exact (show False from h).elim
    | .inl _ :: _, h => exact (show False from h).elim
    | .inr (.inr _) :: _, h => exact (show False from h).elim
    | [.inr (.inl v)], h => exact (show False from h).elim
    | .inr (.inl v) :: .inr _ :: _, h => exact (show False from h).elim
    | [.inr (.inl v), .inl _], h => exact (show False from h).elim
    | .inr (.inl v) :: .inl _ :: .inl _ :: _, h => exact (show False from h).elim
    | .inr (.inl v) :: .inl _ :: .inr (.inl _) :: _, h => exact (show False from h).elim
  case bastore =>
    have e := Nat.eq_of_beq_eq_true hlen
    subst e
    match st, h with
    | .inl v :: .inl a :: .inr (.inr z) :: st, h =>
      simp only [tomi, am_1] at h
      split at h
      · rename_i hk
        exact s_bast hF hd hk h.1 (knxt rfl _ _ _ h.2)
      · rename_i hk
        exact s_zast hF hd hk h.1 h.2.1 (knxt rfl _ _ _ h.2.2)
      · exact (show False from h).elim
    | [], h => exact (show False from h).elim
    | .inr _ :: _, h => exact (show False from h).elim
    | [.inl v], h => exact (show False from h).elim
    | .inl v :: .inr _ :: _, h => exact (show False from h).elim
    | [.inl v, .inl _], h => exact (show False from h).elim
    | .inl v :: .inl _ :: .inl _ :: _, h => exact (show False from h).elim
    | .inl v :: .inl _ :: .inr (.inl _) :: _, h => exact (show False from h).elim
  case aastore =>
    have e := Nat.eq_of_beq_eq_true hlen
    subst e
    match st, h with
    | .inr (.inr q) :: .inl a :: .inr (.inr z) :: st, h =>
      simp only [tomi, am_1] at h
      split at h
      · rename_i hk
        obtain ⟨h0, h⟩ := bif_f h
        have h0 : Nat.beq (am_kd S.1 q) 19 = true := by simpa using h0
        exact s_aast hF hd hk (Nat.eq_of_beq_eq_true h0) h.1 h.2.1 (knxt rfl _ _ _ h.2.2)
      · exact (show False from h).elim
    | [], h => exact (show False from h).elim
    | .inl _ :: _, h => exact (show False from h).elim
    | .inr (.inl _) :: _, h => exact (show False from h).elim
    | [.inr (.inr q)], h => exact (show False from h).elim
    | .inr (.inr q) :: .inr _ :: _, h => exact (show False from h).elim
    | [.inr (.inr q), .inl _], h => exact (show False from h).elim
    | .inr (.inr q) :: .inl _ :: .inl _ :: _, h => exact (show False from h).elim
    | .inr (.inr q) :: .inl _ :: .inr (.inl _) :: _, h => exact (show False from h).elim
  case arraylength =>
    have e := Nat.eq_of_beq_eq_true hlen
    subst e
    match st, h with
    | .inr (.inr z) :: st, h =>
      simp only [tomi, am_1] at h
      split at h
      iterate 8
        · rename_i hk
          exact s_alen hF hd (by rw [hk]; decide) h.1 (knxt rfl _ _ _ h.2)
      · exact (show False from h).elim
    | [], h => exact (show False from h).elim
    | .inl _ :: _, h => exact (show False from h).elim
    | .inr (.inl _) :: _, h => exact (show False from h).elim
  case new x =>
    have e := Nat.eq_of_beq_eq_true hlen
    subst e
    simp only [tomi] at h
    cases hq : am_as tNw own x with
    | none => rw [hq] at h; exact (show False from h).elim
    | some q =>
      rw [hq] at h
      simp only [am_1] at h
      have hci : q < 13 := tNw_lt _ (am_as_ok hq)
      refine s_new hF hd (am_as_ok hq) ?_ (knxt rfl _ _ _ h.2)
      have h1 := h.1
      rw [mNf_at q hci] at h1
      omega
  case newarray ty =>
    have e := Nat.eq_of_beq_eq_true hlen
    subst e
    simp only [tomi] at h
    cases ty with
    | int =>
      match st, h with
      | .inl n :: st, h => exact s_newa hF hd (Or.inl ⟨rfl, rfl⟩) ⟨h.1.1, h.1.2.1⟩ (by have := h.1.2.2; omega) (knxt rfl _ _ _ h.2)
      | [], h => exact (show False from h).elim
      | .inr _ :: _, h => exact (show False from h).elim
    | long =>
      match st, h with
      | .inl n :: st, h => exact s_newa hF hd (Or.inr (Or.inl ⟨rfl, rfl⟩)) ⟨h.1.1, h.1.2.1⟩ (by have := h.1.2.2; omega) (knxt rfl _ _ _ h.2)
      | [], h => exact (show False from h).elim
      | .inr _ :: _, h => exact (show False from h).elim
    | byte =>
      match st, h with
      | .inl n :: st, h => exact s_newa hF hd (Or.inr (Or.inr (Or.inl ⟨rfl, rfl⟩))) ⟨h.1.1, h.1.2.1⟩ (by have := h.1.2.2; omega) (knxt rfl _ _ _ h.2)
      | [], h => exact (show False from h).elim
      | .inr _ :: _, h => exact (show False from h).elim
    | boolean =>
      match st, h with
      | .inl n :: st, h => exact s_newa hF hd (Or.inr (Or.inr (Or.inr ⟨rfl, rfl⟩))) ⟨h.1.1, h.1.2.1⟩ (by have := h.1.2.2; omega) (knxt rfl _ _ _ h.2)
      | [], h => exact (show False from h).elim
      | .inr _ :: _, h => exact (show False from h).elim
    | char => exact (show False from h).elim
    | float => exact (show False from h).elim
    | double => exact (show False from h).elim
    | short => exact (show False from h).elim
  case anewarray x =>
    have e := Nat.eq_of_beq_eq_true hlen
    subst e
    simp only [tomi] at h
    split at h
    · rename_i hq
      simp only [am_1] at h
      match st, h with
      | .inl n :: st, h => exact s_newq hF hd (am_as_ok hq) ⟨h.1.1, h.1.2.1⟩ (by have := h.1.2.2; omega) (knxt rfl _ _ _ h.2)
      | [], h => exact (show False from h).elim
      | .inr _ :: _, h => exact (show False from h).elim
    · exact (show False from h).elim
  case ireturn =>
    have e := Nat.eq_of_beq_eq_true hlen
    subst e
    simp only [tomi] at h
    have fin : ∀ (v : Int), ret (some (.inl v)) S → (∃ ty, mR id = some ty ∧ narrow ty (.int (Int32.ofInt v)) = .int (Int32.ofInt v)) → WA G pc ls [.inl v] S := fun v hr ht => kret (some (.inl v)) ls S hr ⟨hd, ht⟩
    split at h
    · rename_i hm
      simp only [am_1] at h
      match st, h with
      | [.inl v], h => exact fin v h ⟨_, hm, rfl⟩
      | [], h => exact (show False from h).elim
      | .inr _ :: _, h => exact (show False from h).elim
      | .inl _ :: _ :: _, h => exact (show False from h).elim
    · rename_i hm
      simp only [am_1] at h
      match st, h with
      | [.inl v], h => exact fin v h.2 ⟨_, hm, (nar_bool h.1).1⟩
      | [], h => exact (show False from h).elim
      | .inr _ :: _, h => exact (show False from h).elim
      | .inl _ :: _ :: _, h => exact (show False from h).elim
    · rename_i hm
      simp only [am_1] at h
      match st, h with
      | [.inl v], h => exact fin v h.2 ⟨_, hm, (nar_bool h.1).2⟩
      | [], h => exact (show False from h).elim
      | .inr _ :: _, h => exact (show False from h).elim
      | .inl _ :: _ :: _, h => exact (show False from h).elim
    · rename_i hm
      simp only [am_1] at h
      match st, h with
      | [.inl v], h => exact fin v h.2 ⟨_, hm, nar_char h.1⟩
      | [], h => exact (show False from h).elim
      | .inr _ :: _, h => exact (show False from h).elim
      | .inl _ :: _ :: _, h => exact (show False from h).elim
    · exact (show False from h).elim
  case lreturn =>
    have e := Nat.eq_of_beq_eq_true hlen
    subst e
    simp only [tomi] at h
    cases hb : decide (mR id = some .long) with
    | false => rw [hb] at h; exact (show False from h).elim
    | true =>
      rw [hb] at h
      simp only [cond_true, am_1] at h
      match st, h with
      | [.inr (.inl v)], h => exact kret (some (.inr (.inl v))) ls S h ⟨hd, of_decide_eq_true hb⟩
      | [], h => exact (show False from h).elim
      | .inl _ :: _, h => exact (show False from h).elim
      | .inr (.inr _) :: _, h => exact (show False from h).elim
      | .inr (.inl _) :: _ :: _, h => exact (show False from h).elim
  case return_ =>
    have e := Nat.eq_of_beq_eq_true hlen
    subst e
    simp only [tomi] at h
    cases hb : decide (mR id = none) with
    | false => rw [hb] at h; exact (show False from h).elim
    | true =>
      rw [hb] at h
      simp only [cond_true, am_1] at h
      match st, h with
      | [], h => exact kret none ls S h ⟨hd, of_decide_eq_true hb⟩
      | _ :: _, h => exact (show False from h).elim
  case invokevirtual x =>
    have e := Nat.eq_of_beq_eq_true hlen
    subst e
    simp only [tomi] at h
    cases hq : am_as tMV own x with
    | none => rw [hq] at h; exact (show False from h).elim
    | some y =>
      rw [hq] at h
      simp only at h
      cases hb : (Nat.blt (mFr y) (mFr id) && Nat.ble (8 + (mLo y + 11) + mWd y) (mWd id) && ((Nat.beq (mNa (2000 + y)) (10 + mCs y) && Nat.blt (mCs y) 13) || (Nat.beq (mNa (2000 + y)) 30 && Nat.beq (mCs y) 14)) && Nat.ble 1 (mNa y)) with
      | false => rw [hb] at h; exact (show False from h).elim
      | true =>
        rw [hb] at h
        simp only [cond_true] at h
        simp only [Bool.and_eq_true, Bool.or_eq_true] at hb
        obtain ⟨⟨⟨b1, b2⟩, b3⟩, b4⟩ := hb
        have b1 : mFr y + 1 ≤ mFr id := Nat.le_of_ble_eq_true b1
        have b2 := Nat.le_of_ble_eq_true b2
        have b4 := Nat.le_of_ble_eq_true b4
        have b3 : (mNa (2000 + y) = 10 + mCs y ∧ mCs y < 13) ∨ (mNa (2000 + y) = 30 ∧ mCs y = 14) := by
          rcases b3 with ⟨q1, q2⟩ | ⟨q1, q2⟩
          · exact Or.inl ⟨Nat.eq_of_beq_eq_true q1, Nat.le_of_ble_eq_true q2⟩
          · exact Or.inr ⟨Nat.eq_of_beq_eq_true q1, Nat.eq_of_beq_eq_true q2⟩
        exact s_cV hF hd (am_as_ok hq) h b3 ⟨by omega, by omega⟩ kcall (fun ls st S hn => knxt rfl ls st S hn)
  case invokestatic x =>
    have e := Nat.eq_of_beq_eq_true hlen
    subst e
    simp only [tomi] at h
    have key : ∀ y, ((own, x, y) ∈ tMS ∨ (own, x, y) ∈ tMT) → am_1 (X := Prop) ftab mNa lim False brP ckP call sp ret cut i (bif Nat.blt (mFr y) (mFr id) && Nat.ble (8 + (mLo y + 11) + mWd y) (mWd id) then .invokestatic y else .athrow) ls st S nxt jmp → WA G pc ls st S := by
      intro y hy h
      cases hb : (Nat.blt (mFr y) (mFr id) && Nat.ble (8 + (mLo y + 11) + mWd y) (mWd id)) with
      | false => rw [hb] at h; exact (show False from h).elim
      | true =>
        rw [hb] at h
        simp only [cond_true] at h
        obtain ⟨b1, b2⟩ := Bool.and_eq_true_iff.mp hb
        have b1 : mFr y + 1 ≤ mFr id := Nat.le_of_ble_eq_true b1
        have b2 := Nat.le_of_ble_eq_true b2
        exact s_cS hF hd hy h ⟨by omega, by omega⟩ kcall (fun ls st S hn => knxt rfl ls st S hn)
    cases hq : am_as tMS own x with
    | some y => rw [hq] at h; exact key y (Or.inl (am_as_ok hq)) h
    | none =>
      rw [hq] at h
      simp only at h
      cases hq2 : am_as tMT own x with
      | some y => rw [hq2] at h; exact key y (Or.inr (am_as_ok hq2)) h
      | none =>
        rw [hq2] at h
        simp only at h
        cases hb : (!(Nat.ble 1 (mFr id) && Nat.ble 30 (mWd id))) with
        | true => rw [hb] at h; exact (show False from h).elim
        | false =>
          rw [hb] at h
          simp only [cond_false] at h
          have hb : (Nat.ble 1 (mFr id) && Nat.ble 30 (mWd id)) = true := by simpa using hb
          obtain ⟨r1, r2⟩ := Bool.and_eq_true_iff.mp hb
          have r1 := Nat.le_of_ble_eq_true r1
          have r2 := Nat.le_of_ble_eq_true r2
          exact s_cX hF hd h ⟨by omega, by omega⟩ hfr.2 (fun ls st S hn => knxt rfl ls st S hn)
  case invokespecial x =>
    have e := Nat.eq_of_beq_eq_true hlen
    subst e
    simp only [tomi] at h
    have key : ∀ y, ((own, x, y) ∈ tMI ∨ (own, x, y) ∈ tMJ) → am_1 (X := Prop) ftab mNa lim False brP ckP call sp ret cut i (bif Nat.blt (mFr y) (mFr id) && Nat.ble (8 + (mLo y + 11) + mWd y) (mWd id) && Nat.ble 1 (mNa y) && Nat.ble 10 (mNa (2000 + y)) && Nat.blt (mNa (2000 + y)) 23 then .invokespecial y else .athrow) ls st S nxt jmp → WA G pc ls st S := by
      intro y hy h
      cases hb : (Nat.blt (mFr y) (mFr id) && Nat.ble (8 + (mLo y + 11) + mWd y) (mWd id) && Nat.ble 1 (mNa y) && Nat.ble 10 (mNa (2000 + y)) && Nat.blt (mNa (2000 + y)) 23) with
      | false => rw [hb] at h; exact (show False from h).elim
      | true =>
        rw [hb] at h
        simp only [cond_true] at h
        simp only [Bool.and_eq_true] at hb
        obtain ⟨⟨⟨⟨b1, b2⟩, b3⟩, b4⟩, b5⟩ := hb
        have b1 : mFr y + 1 ≤ mFr id := Nat.le_of_ble_eq_true b1
        have b2 := Nat.le_of_ble_eq_true b2
        have b3 := Nat.le_of_ble_eq_true b3
        have b4 := Nat.le_of_ble_eq_true b4
        have b5 : mNa (2000 + y) < 23 := Nat.le_of_ble_eq_true b5
        exact s_cI hF hd hy h ⟨b4, b5⟩ ⟨by omega, by omega⟩ hlim ksp (fun ls st S hn => knxt rfl ls st S hn)
    cases hb : am_in2 tOi own x with
    | true =>
      rw [hb] at h
      simp only [cond_true] at h
      cases hb2 : (Nat.ble 1 (mFr id) && Nat.ble 20 (mWd id)) with
      | false => rw [hb2] at h; exact (show False from h).elim
      | true =>
        rw [hb2] at h
        simp only [cond_true] at h
        obtain ⟨r1, r2⟩ := Bool.and_eq_true_iff.mp hb2
        have r1 := Nat.le_of_ble_eq_true r1
        have r2 := Nat.le_of_ble_eq_true r2
        match st, h with
        | .inr (.inr v) :: st, h =>
          obtain ⟨h0, h⟩ := bif_f h
          obtain ⟨h0, h1⟩ := Bool.or_eq_false_iff.mp h0
          refine s_oi hF hd (am_in2_ok hb) (nb08 h0).1 (nb08 h0).2 ?_ ⟨by omega, by omega⟩ (knxt rfl _ _ _ h)
          rw [am_cat_ok]
          rcases Nat.lt_or_ge 8 (am_cat st) with q | q
          · have : Nat.blt 8 (am_cat st) = true := Nat.ble_eq_true_of_le q
            rw [this] at h1
            cases h1
          · exact q
        | [], h => exact (show False from h).elim
        | .inl _ :: _, h => exact (show False from h).elim
        | .inr (.inl _) :: _, h => exact (show False from h).elim
    | false =>
      rw [hb] at h
      simp only [cond_false] at h
      cases hq : am_as tMI own x with
      | some y => rw [hq] at h; exact key y (Or.inl (am_as_ok hq)) h
      | none =>
        rw [hq] at h
        simp only at h
        cases hq2 : am_as tMJ own x with
        | some y => rw [hq2] at h; exact key y (Or.inr (am_as_ok hq2)) h
        | none => rw [hq2] at h; exact (show False from h).elim
  all_goals exact (show False from h).elim
