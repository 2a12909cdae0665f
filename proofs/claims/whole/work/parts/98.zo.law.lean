/-! the law's own first steps -/
def LX (M : List aI) (n : Nat) (lim : Nat × Nat) (v : Option aV) (S2 : aS) (f i : Nat) (rest : List aI) (ls : aL) (st : List aV) (S : aS) : Prop := am_x (X := Prop) ftab mNa lim False brP ckP
  (fun y as S cont => ∃ (v : Option aV) (h : aH), am_fit y as S ∧ am_R mM n y (S.1.length + mCe y, am_sz S.1 + mSl y) 0 (am_en 0 as) [] S v (S.1, h) ∧ cont v h)
  (fun y as S cont => ∃ S2 : aS, am_fit y as S ∧ am_R mM n y (S.1.length + mCe y, am_sz S.1 + mSl y) 0 (am_en 0 as) [] S none S2 ∧ S2.1.length = S.1.length + mCe y ∧ am_sz S2.1 = am_sz S.1 + mSl y ∧ S2.1.length ≤ lim.1 ∧ am_sz S2.1 ≤ lim.2 ∧ cont S2)
  (fun v' S' => v = v' ∧ S2 = S') (fun i ls st S => am_R mM n 353 lim i ls st S v S2) M f i rest ls st S
section LXS
variable {M : List aI} {n : Nat} {lim : Nat × Nat} {v : Option aV} {S2 : aS} {f i : Nat} {rest : List aI} {ls : aL} {st : List aV} {S : aS}
theorem LX_new {ci : Nat} (a : S.1.length + 1 ≤ lim.1 ∧ am_sz S.1 + mNa (1000 + ci) ≤ lim.2) (b : LX M n lim v S2 f (i + 1) rest ls (.inr (.inr S.1.length) :: st) (S.1 ++ [(10 + ci, mNa (1000 + ci), List.replicate (mNa (1000 + ci)) 0)], am_z S)) : LX M n lim v S2 (f + 1) i (.new ci :: rest) ls st S := And.intro a b
theorem LX_dup {r : Nat} (b : LX M n lim v S2 f (i + 1) rest ls (.inr (.inr r) :: .inr (.inr r) :: st) S) : LX M n lim v S2 (f + 1) i (.dup :: rest) ls (.inr (.inr r) :: st) S := b
theorem LX_iconst {x : Int} (b : LX M n lim v S2 f (i + 1) rest ls (.inl x :: st) S) : LX M n lim v S2 (f + 1) i (.iconst x :: rest) ls st S := b
theorem LX_istore {k : Nat} {x : Int} (b : LX M n lim v S2 f (i + 1) rest (am_set1 k (.inl x) ls) st S) : LX M n lim v S2 (f + 1) i (.istore k :: rest) ls (.inl x :: st) S := b
theorem LX_astore {k r : Nat} (hr : (Nat.beq r 0 || Nat.beq r 8) = false) (b : LX M n lim v S2 f (i + 1) rest (am_set1 k (.inr (.inr r)) ls) st S) : LX M n lim v S2 (f + 1) i (.astore k :: rest) ls (.inr (.inr r) :: st) S := by
  show (bif Nat.beq r 0 || Nat.beq r 8 then False else LX M n lim v S2 f (i + 1) rest (am_set1 k (.inr (.inr r)) ls) st S)
  rw [hr]
  exact b
theorem LX_nop (b : am_R mM n 353 lim (i + 1) ls st S v S2) : LX M n lim v S2 (f + 1) i (.nop :: rest) ls st S := b
theorem LX_sp {id r : Nat} {S3 : aS} (h1 : mNa id = 1) (h2 : (Nat.beq (am_kd S.1 r) (mNa (2000 + id)) && Nat.ble (am_cat st) 8) = true) (hf : am_fit id [.inr (.inr r)] S) (hr : am_R mM n id (S.1.length + mCe id, am_sz S.1 + mSl id) 0 (am_en 0 [.inr (.inr r)]) [] S none S3) (g : S3.1.length = S.1.length + mCe id ∧ am_sz S3.1 = am_sz S.1 + mSl id ∧ S3.1.length ≤ lim.1 ∧ am_sz S3.1 ≤ lim.2)
    (b : LX M n lim v S2 f (i + 1) rest ls st S3) : LX M n lim v S2 (f + 1) i (.invokespecial id :: rest) ls (.inr (.inr r) :: st) S := by
  have e : am_pop (mNa id) [] (.inr (.inr r) :: st : List aV) = some ([.inr (.inr r)], st) := by rw [h1]; rfl
  show (match am_pop (mNa id) [] (.inr (.inr r) :: st : List aV) with
    | some (.inr (.inr r) :: as, st) => bif Nat.beq (am_kd S.1 r) (mNa (2000 + id)) && Nat.ble (am_cat st) 8 then (∃ S2' : aS, am_fit id (.inr (.inr r) :: as) S ∧ am_R mM n id (S.1.length + mCe id, am_sz S.1 + mSl id) 0 (am_en 0 (.inr (.inr r) :: as)) [] S none S2' ∧ S2'.1.length = S.1.length + mCe id ∧ am_sz S2'.1 = am_sz S.1 + mSl id ∧ S2'.1.length ≤ lim.1 ∧ am_sz S2'.1 ≤ lim.2 ∧ LX M n lim v S2 f (i + 1) rest ls st S2') else False
    | _ => False)
  rw [e]
  show (bif Nat.beq (am_kd S.1 r) (mNa (2000 + id)) && Nat.ble (am_cat st) 8 then _ else False)
  rw [h2]
  exact ⟨S3, hf, hr, g.1, g.2.1, g.2.2.1, g.2.2.2, b⟩
end LXS
theorem K1_sh0 : K1 sh0 := ⟨(0, 0, []), _, rfl⟩
theorem K1_sh1 : K1 sh1 := ⟨(0, 0, []), _, rfl⟩
theorem K1_MK1 : K1 MK1.1 := K1_app K1_sh0
theorem K1_MK2 (h : aH) : K1 (MK2 (sh1, h)).1 := K1_app K1_sh1
theorem mk_num : (sh0.length = 9 ∧ MK1.1.length = 10 ∧ sh1.length = MK1.1.length + mCe 0 ∧ am_sz sh1 = am_sz MK1.1 + mSl 0 ∧ am_sz sh0 + 12 = am_sz MK1.1 ∧ sh1.length = 130 ∧ (blk (SH 0)).length = 131 + mCe 212 ∧ am_sz (blk (SH 0)) = am_sz sh1 + 90 + mSl 212 ∧ (blk (SH 0)).length = 197 ∧ mNa 0 = 1 ∧ mNa 212 = 1 ∧ mNa 1011 = 12 ∧ mNa 1012 = 90) ∧ ((mM 0).all okI3 = true ∧ (mM 212).all okI3 = true) ∧ (mLo 0 = 1 ∨ 1 ≤ mLo 0) ∧ 1 ≤ mLo 212 ∧ am_kd MK1.1 9 = mNa 2000 ∧ am_kd (sh1 ++ [(22, 90, List.replicate 90 0)]) 130 = mNa 2212 := by decide +kernel
theorem upS_blk (N : Nat) : upS N (blk (SH 0)) = SH N := rfl
/-- the law answers 1 -/
theorem law_run {N : Nat} (hN : N ≤ 3072) (xs : Nat → Int) (lim : Nat × Nat) (l1 : 197 ≤ lim.1) (l2 : am_sz (blk (SH 0)) + N ≤ lim.2) : ∃ (n : Nat) (h3 : aH), am_R mM n 353 lim 0 [(0, .inr (.inr 1))] [] (upS N sh0, upH xs H0) (some (.inl 1)) (SH N, h3) := by
  obtain ⟨⟨n1, n2, n3, n4, n5, n6, n7, n8, n9, p1, p2, p3, p4⟩, ⟨k1, k2⟩, o1, o2, d1, d2⟩ := mk_num
  obtain ⟨h1, h2, e1, e2, F⟩ := made
  obtain ⟨V, w⟩ := INV.fresh (h := upH xs h2) (by rw [FCT_up]; exact F)
  have L := lw_loop (C := fun v _ => v = 1) hN (fun _ => rfl) N 0 (upH xs h2) (by omega) (by omega) V (by rw [w]; omega)
  obtain ⟨v, h3, ⟨x, rfl, rfl⟩, n0, hn⟩ := L lim [(3, .inl 0), (2, .inr (.inr 130)), (1, .inr (.inr 9)), (0, .inr (.inr 1))] ⟨by
    intro q hq
    simp only [List.mem_cons, List.not_mem_nil, or_false] at hq ⊢
    rcases hq with rfl | rfl | rfl | rfl <;> simp, by unfold LoN; simp⟩
  have r1 := (am_E_ok (N := N) (m := n0) (xs := xs) 3000 0 _ 0 _ [] MK1.1 MK1.2 none (sh1, h1) k1 K1_MK1 e1).2
  have r2 := (am_E_ok (N := N) (m := n0) (xs := xs) 3000 212 _ 0 _ [] (MK2 (sh1, h1)).1 (MK2 (sh1, h1)).2 none (blk (SH 0), h2) k2 (K1_MK2 h1) e2).2
  have s0 := upS_sz (N := N) K1_sh0
  have s1 := upS_sz (N := N) K1_sh1
  have sM := upS_sz (N := N) K1_MK1
  have sM2 := upS_sz (N := N) (K1_MK2 h1)
  have sB : am_sz (SH N) = am_sz (blk (SH 0)) + N := upS_sz (N := N) (sh := blk (SH 0)) ⟨(0, 0, []), _, rfl⟩
  have g0 := upS_len (N := N) K1_sh0
  have g1 := upS_len (N := N) K1_sh1
  have gM := upS_len (N := N) K1_MK1
  have gM2 := upS_len (N := N) (K1_MK2 h1)
  have gB : (SH N).length = (blk (SH 0)).length := upS_len (N := N) (sh := blk (SH 0)) ⟨(0, 0, []), _, rfl⟩
  have m2l : (MK2 (sh1, h1)).1.length = 131 := by show (sh1 ++ [_]).length = 131; rw [List.length_append, n6]; rfl
  have m2s : am_sz (MK2 (sh1, h1)).1 = am_sz sh1 + 90 := by exact am_sz_app _ _
  refine ⟨3000 + n0 + 1, h3, ?_⟩
  show LX (mM 353) (3000 + n0) lim _ _ 5000 0 ((mM 353).drop 0) _ _ _
  rw [m_353]
  show LX c_353 (3000 + n0) lim _ _ 5000 0 (.new 11 :: .dup :: .invokespecial 0 :: .astore 1 :: .new 12 :: .dup :: .invokespecial 212 :: .astore 2 :: .iconst 0 :: .istore 3 :: .nop :: c_353.drop 11) _ _ _
  refine LX_new (ci := 11) ⟨?_, ?_⟩ ?_
  · show (upS N sh0).length + 1 ≤ _; omega
  · show am_sz (upS N sh0) + mNa 1011 ≤ _; omega
  have a1 : ((upS N sh0, upH xs H0).1 ++ [(10 + 11, mNa (1000 + 11), List.replicate (mNa (1000 + 11)) 0)], am_z (upS N sh0, upH xs H0)) = (upS N MK1.1, upH xs MK1.2) := by
    rw [show 1000 + 11 = 1011 from rfl, p3, upS_z K1_sh0]
    show (upS N sh0 ++ _, _) = (upS N (sh0 ++ _), _)
    rw [upS_app K1_sh0]
    rfl
  rw [a1, show (upS N sh0, upH xs H0).1.length = 9 from g0.trans n1]
  refine LX_dup ?_
  refine LX_sp (id := 0) (S3 := (upS N sh1, upH xs h1)) p1 ?_ ⟨by decide, ?_, ?_⟩ ?_ ⟨?_, ?_, ?_, ?_⟩ ?_
  · show (Nat.beq (am_kd (upS N MK1.1) 9) (mNa 2000) && _) = true
    rw [upS_kd K1_MK1 (by decide), d1, Nat.beq_refl]
    rfl
  · show 1 ≤ mLo 0; omega
  · show 9 ≤ (upS N MK1.1).length; omega
  · rw [show ((upS N MK1.1, upH xs MK1.2).1.length + mCe 0, am_sz (upS N MK1.1, upH xs MK1.2).1 + mSl 0) = (MK1.1.length + mCe 0, am_sz MK1.1 + mSl 0 + N) from by
      show ((upS N MK1.1).length + mCe 0, am_sz (upS N MK1.1) + mSl 0) = _
      rw [gM, sM, show am_sz MK1.1 + N + mSl 0 = am_sz MK1.1 + mSl 0 + N by omega]]
    exact r1
  · show (upS N sh1).length = (upS N MK1.1).length + mCe 0; omega
  · show am_sz (upS N sh1) = am_sz (upS N MK1.1) + mSl 0; omega
  · show (upS N sh1).length ≤ _; omega
  · show am_sz (upS N sh1) ≤ _; omega
  refine LX_astore (by decide) (LX_new (ci := 12) ⟨?_, ?_⟩ ?_)
  · show (upS N sh1).length + 1 ≤ _; omega
  · show am_sz (upS N sh1) + mNa 1012 ≤ _; omega
  have a2 : ((upS N sh1, upH xs h1).1 ++ [(10 + 12, mNa (1000 + 12), List.replicate (mNa (1000 + 12)) 0)], am_z (upS N sh1, upH xs h1)) = (upS N (MK2 (sh1, h1)).1, upH xs (MK2 (sh1, h1)).2) := by
    rw [show 1000 + 12 = 1012 from rfl, p4, upS_z K1_sh1]
    show (upS N sh1 ++ _, _) = (upS N (sh1 ++ _), _)
    rw [upS_app K1_sh1]
    rfl
  rw [a2, show (upS N sh1, upH xs h1).1.length = 130 from g1.trans n6]
  refine LX_dup ?_
  refine LX_sp (id := 212) (S3 := (SH N, upH xs h2)) p2 ?_ ⟨by decide, ?_, ?_⟩ ?_ ⟨?_, ?_, ?_, ?_⟩ ?_
  · show (Nat.beq (am_kd (upS N (MK2 (sh1, h1)).1) 130) (mNa 2212) && _) = true
    rw [upS_kd (K1_MK2 h1) (by decide), show am_kd (MK2 (sh1, h1)).1 130 = mNa 2212 from d2, Nat.beq_refl]
    rfl
  · show 1 ≤ mLo 212; omega
  · show 9 ≤ (upS N (MK2 (sh1, h1)).1).length; omega
  · rw [show ((upS N (MK2 (sh1, h1)).1, upH xs (MK2 (sh1, h1)).2).1.length + mCe 212, am_sz (upS N (MK2 (sh1, h1)).1, upH xs (MK2 (sh1, h1)).2).1 + mSl 212) = ((MK2 (sh1, h1)).1.length + mCe 212, am_sz (MK2 (sh1, h1)).1 + mSl 212 + N) from by
      show ((upS N (MK2 (sh1, h1)).1).length + mCe 212, am_sz (upS N (MK2 (sh1, h1)).1) + mSl 212) = _
      rw [gM2, sM2, show am_sz (MK2 (sh1, h1)).1 + N + mSl 212 = am_sz (MK2 (sh1, h1)).1 + mSl 212 + N by omega]]
    exact r2
  · show (SH N).length = (upS N (MK2 (sh1, h1)).1).length + mCe 212; omega
  · show am_sz (SH N) = am_sz (upS N (MK2 (sh1, h1)).1) + mSl 212; omega
  · show (SH N).length ≤ _; omega
  · show am_sz (SH N) ≤ _; omega
  refine LX_astore (by decide) (LX_iconst (LX_istore (LX_nop ?_)))
  exact hn (3000 + n0) (by omega)
