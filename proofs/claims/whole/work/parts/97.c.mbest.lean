/-! BEST TWO: the reference's -/
def kX (h : aH) (n k : Nat) : Int := if k < n then h 59 k else 0
def lX (h : aH) (n : Nat) (v1 v2 : Int) (k : Nat) : Int := if k < n then h 61 k else if k = n then v1 else v2
def wX (h : aH) (n : Nat) (w1 w2 : Int) (k : Nat) : Int := if k < n then h 62 k else if k = n then w1 else w2
def FRB (h h1 : aH) : Prop := Fr [159, 160, 163, 164, 165, 166, 167, 172, 173] [48, 58, 61] h h1
theorem MPUT_mpl {h1 : aH} {n : Nat} {kd mn ld wh kd' mn' ld' wh' : Nat → Int} {k mi lo wh1 : Int} (M : MPL h1 n kd mn ld wh) (e : ∀ j, j < n → kd' j = kd j ∧ mn' j = mn j ∧ ld' j = ld j ∧ wh' j = wh j) (en : kd' n = k ∧ mn' n = mi ∧ ld' n = lo ∧ wh' n = wh1) : MPL (MPUT h1 n k mi lo wh1) (n + 1) kd' mn' ld' wh' := by
  refine ⟨by unfold MPUT; rw [up_same]; omega, fun j hj => ?_⟩
  unfold MPUT
  by_cases z : j = n
  · subst z
    obtain ⟨a, b, c, d⟩ := en
    refine ⟨?_, ?_, ?_, ?_⟩ <;> simp [up_in, up_row, a, b, c, d]
  · obtain ⟨a, b, c, d⟩ := M.2 j (by omega)
    obtain ⟨a', b', c', d'⟩ := e j (by omega)
    refine ⟨?_, ?_, ?_, ?_⟩ <;> simp [up_in, up_row, z, a, b, c, d, a', b', c', d']
theorem MPUT_fr {h1 : aH} {n : Nat} {k mi lo wh1 : Int} : Fr [163, 164, 165, 166] [48] h1 (MPUT h1 n k mi lo wh1) := by
  unfold MPUT
  exact ((((Fr.rfl.up (by decide) (by decide)).up (by decide) (by decide)).up (by decide) (by decide)).up (by decide) (by decide)).upM (by decide)
theorem COSTP_x {h : aH} {f : Nat} {s2 l : Int} {b1 i b2 j : Nat} : COSTP h (cTW h s2) (kX h (nSN h)) (KX h (nSN h) (MI1 h f l i) (MI1 h s2.toNat l j)) (lX h (nSN h) (h 19 f) (h 19 s2.toNat)) (wX h (nSN h) b1 b2) (h 63) (WOF h ·) = COSTT h f s2 l b1 i b2 j := by
  unfold COSTP COSTT NSL
  refine sumN_congr (fun s hs => ?_)
  unfold SHP SX
  refine SHV_congr (fun q hq => ⟨rfl, ?_⟩)
  generalize hk : ordI (KX h (nSN h) (MI1 h f l i) (MI1 h s2.toNat l j)) (cTW h s2) q = k
  unfold HX
  rw [hk]
  unfold HRP
  by_cases c1 : k < nSN h
  · rw [if_pos c1]
    unfold HRD kX lX wX KX
    rw [if_pos c1, if_pos c1, if_pos c1, if_pos c1]
  · rw [if_neg c1]
    have e0 : kX h (nSN h) k = 0 := by unfold kX; rw [if_neg c1]
    rw [e0, if_neg (by decide)]
    unfold lX wX KX HF MI1
    rw [if_neg c1, if_neg c1, if_neg c1]
    by_cases c2 : k = nSN h
    · rw [if_pos c2, if_pos c2, if_pos c2, if_pos c2]
    · rw [if_neg c2, if_neg c2, if_neg c2, if_neg c2]
theorem m_leadOf {N : Nat} {C : Int → aH → Prop} {h h1 : aH} {l : Int} {i : Nat} (P : PI h) (M : MHO h h1) (l60 : 0 ≤ l ∧ l ≤ 60) (hi : i < NHR h) (hC : C (LDM h l i) h1) : WI N 297 0 [(0, .inr (.inr 130)), (1, .inl (i : Int)), (2, .inl l)] h1 C := by
  have hz := P.1.1
  unfold okSz at hz
  have n12 : NSL h ≤ 12 := by unfold NSL; omega
  have nh := NHR_le h
  have ho := HOU_rg P hi
  unfold LDM at hC
  refine w_297_0 (ck_ix (by omega) ?_)
  rw [Int.toNat_natCast, M.2 i hi]
  refine ⟨fun le => ck_ix (by omega) (ck_rg (by omega) ?_), fun gt => ?_⟩
  · rw [show max 0 (HOU h i - l) = HOU h i - l by omega] at hC; exact hC
  · rw [show max 0 (HOU h i - l) = 0 by omega] at hC; exact hC
/-- gone through ahead of the one-th, the two-th -/
def PRO (h : aH) (one two : Nat) : Nat → Nat → Nat → Nat → Prop := fun b1' i' b2' j' => b1' * NHR h + i' < one ∨ (b1' * NHR h + i' = one ∧ b2' * NHR h + j' < two)
def MBS (h : aH) (f : Nat) (s2 l : Int) (pr : Nat → Nat → Nat → Nat → Prop) (x4 : Int) (h1 : aH) : Prop :=
  (x4 = 0 ∧ ∀ b1 i b2 j, INT h s2 b1 i b2 j → ¬ pr b1 i b2 j) ∨
  (x4 = 1 ∧ ∃ b1 i b2 j, INT h s2 b1 i b2 j ∧ pr b1 i b2 j ∧ h1 130 61 = COSTT h f s2 l b1 i b2 j ∧ (h1 173 0 = (b1 : Int) ∧ h1 173 1 = LDM h l i ∧ h1 173 2 = (b2 : Int) ∧ h1 173 3 = LDM h l j) ∧ ∀ b1' i' b2' j', INT h s2 b1' i' b2' j' → pr b1' i' b2' j' → COSTT h f s2 l b1 i b2 j < COSTT h f s2 l b1' i' b2' j' ∨ (COSTT h f s2 l b1 i b2 j = COSTT h f s2 l b1' i' b2' j' ∧ KEYT b1 i b2 j ≤ KEYT b1' i' b2' j'))
theorem lexm {b b' i i' H : Nat} (hi : i < H) (hi' : i' < H) (hH : H ≤ 12) (h : b * H + i ≤ b' * H + i') : b * 12 + i ≤ b' * 12 + i' := by
  rcases Nat.lt_trichotomy b b' with c | c | c
  · omega
  · subst c; omega
  · have : (b' + 1) * H ≤ b * H := Nat.mul_le_mul_right H c
    rw [Nat.add_mul] at this
    omega
theorem lexe {b b' i i' H : Nat} (hi : i < H) (hi' : i' < H) (h : b * H + i = b' * H + i') : b = b' ∧ i = i' := by
  rcases Nat.lt_trichotomy b b' with c | c | c
  · have : (b + 1) * H ≤ b' * H := Nat.mul_le_mul_right H c
    rw [Nat.add_mul] at this
    omega
  · subst c; omega
  · have : (b' + 1) * H ≤ b * H := Nat.mul_le_mul_right H c
    rw [Nat.add_mul] at this
    omega
theorem PRO_key {h : aH} (P : PI h) {s2 : Int} {b1 i b2 j b1' i' b2' j' : Nat} (I : INT h s2 b1 i b2 j) (I' : INT h s2 b1' i' b2' j') (h12 : NHR h ≤ 12) (p : PRO h (b1 * NHR h + i) (b2 * NHR h + j) b1' i' b2' j') : KEYT b1' i' b2' j' ≤ KEYT b1 i b2 j := by
  obtain ⟨l1, l2, l3, l4⟩ := INT_lt P I
  obtain ⟨l1', l2', l3', l4'⟩ := INT_lt P I'
  unfold KEYT
  rcases p with q | ⟨q1, q2⟩
  · have := lexm I'.2.1 I.2.1 h12 (Nat.le_of_lt q)
    have : ¬ (b1' * 12 + i' = b1 * 12 + i) := fun z => by
      have e1 : b1' = b1 := by omega
      have e2 : i' = i := by omega
      rw [e1, e2] at q
      exact absurd q (Nat.lt_irrefl _)
    omega
  · obtain ⟨e1, e2⟩ := lexe I'.2.1 I.2.1 q1
    by_cases z : s2 = -1
    · have a := I.2.2.1 z
      have b := I'.2.2.1 z
      rw [a.1, a.2, b.1, b.2] at q2
      exact absurd q2 (Nat.lt_irrefl _)
    · have := lexm (I'.2.2.2 z).2 (I.2.2.2 z).2 h12 (Nat.le_of_lt q2)
      omega
theorem MBS.fr {h : aH} {f : Nat} {s2 l x4 : Int} {p : Nat → Nat → Nat → Nat → Prop} {h1 h2 : aH} (M : MBS h f s2 l p x4 h1) (e1 : h2 130 61 = h1 130 61) (e2 : h2 173 = h1 173) : MBS h f s2 l p x4 h2 := by
  unfold MBS at M ⊢
  rw [e1, e2]
  exact M
theorem MBS.pr {h : aH} {f : Nat} {s2 l x4 : Int} {p q : Nat → Nat → Nat → Nat → Prop} {h1 : aH} (M : MBS h f s2 l p x4 h1) (e : ∀ b1 i b2 j, INT h s2 b1 i b2 j → (q b1 i b2 j ↔ p b1 i b2 j)) : MBS h f s2 l q x4 h1 := by
  rcases M with ⟨m1, m2⟩ | ⟨m0, b1, i, b2, j, m1, mp, m2, m3, m4⟩
  · exact Or.inl ⟨m1, fun b1 i b2 j z y => m2 b1 i b2 j z ((e b1 i b2 j z).mp y)⟩
  · exact Or.inr ⟨m0, b1, i, b2, j, m1, (e b1 i b2 j m1).mpr mp, m2, m3, fun b1' i' b2' j' z y => m4 b1' i' b2' j' z ((e b1' i' b2' j' z).mp y)⟩
/-- the reference's plan with the one ring -/
def MP1 (h : aH) (f : Nat) (l : Int) (i b1 : Nat) (h1 : aH) : Prop := ∀ m2 v2 w2, MPL h1 (nSN h + 1) (kX h (nSN h)) (KX h (nSN h) (MI1 h f l i) m2) (lX h (nSN h) (h 19 f) v2) (wX h (nSN h) b1 w2)
theorem OKP_x {h : aH} (P : PI h) {f : Nat} (hf : (f : Int) < h 16 15) {s2 l : Int} {b1 i b2 j : Nat} (hs2 : s2 = -1 ∨ (0 ≤ s2 ∧ s2 < h 16 15)) (rm : cTW h s2 ≤ 8) (I : INT h s2 b1 i b2 j) : OKP h (cTW h s2) (kX h (nSN h)) (KX h (nSN h) (MI1 h f l i) (MI1 h s2.toNat l j)) (lX h (nSN h) (h 19 f) (h 19 s2.toNat)) (wX h (nSN h) b1 b2) := by
  obtain ⟨n0, n8, hs⟩ := P.2.2.1
  have hn : ((nSN h : Nat) : Int) = h 58 10 := by unfold nSN; omega
  have hz := P.1.1
  unfold okSz at hz
  have eb : h 16 14 = (NBD h : Int) := by unfold NBD; omega
  have c1 := P.1.2.2.1 f hf
  refine ⟨rm, fun k hk => ?_⟩
  by_cases z : k < nSN h
  · obtain ⟨a1, a2, a3, a4, a5⟩ := hs k (by omega)
    unfold kX KX lX wX
    rw [if_pos z, if_pos z, if_pos z, if_pos z]
    exact ⟨a2, a3, a4, a5⟩
  · have r1 := SAT_rg h f (LDM h l i)
    have r2 := SAT_rg h s2.toNat (LDM h l j)
    unfold kX KX lX wX MI1
    rw [if_neg z, if_neg z, if_neg z, if_neg z]
    by_cases y : k = nSN h
    · rw [if_pos y, if_pos y, if_pos y]
      exact ⟨r1, by omega, fun q => absurd q (by decide), fun _ => by have := I.1; omega⟩
    · rw [if_neg y, if_neg y, if_neg y]
      have two : s2 ≠ -1 := fun q => by unfold cTW at hk; rw [if_pos q] at hk; omega
      have c2 := P.1.2.2.1 s2.toNat (by have := hs2.resolve_left two; omega)
      exact ⟨r2, by omega, fun q => absurd q (by decide), fun _ => by have := (I.2.2.2 two).1; omega⟩
theorem m_b118 {N : Nat} {C : Int → aH → Prop} {h h1 : aH} {f : Nat} {s2 l x4 : Int} {b1 i b2 j : Nat} (P : PI h) (R : RelH h) (Q : RelP h) (hf : (f : Int) < h 16 15) (hs2 : s2 = -1 ∨ (0 ≤ s2 ∧ s2 < h 16 15)) (l60 : 0 ≤ l ∧ l ≤ 60) (rm : cTW h s2 ≤ 8) (I : INT h s2 b1 i b2 j) (hH : NHR h ≠ 0) (hj : j < NHR h) (fr : FRB h h1) (M : MHO h h1)
    (Mp : MPL h1 (cTW h s2) (kX h (nSN h)) (KX h (nSN h) (MI1 h f l i) (MI1 h s2.toNat l j)) (lX h (nSN h) (h 19 f) (h 19 s2.toNat)) (wX h (nSN h) b1 b2)) (M1 : ∀ g : aH, g 163 = h1 163 → g 164 = h1 164 → g 165 = h1 165 → g 166 = h1 166 → g 130 48 = (nSN h + 1 : Nat) → MP1 h f l i b1 g)
    (B : MBS h f s2 l (PRO h (b1 * NHR h + i) (b2 * NHR h + j)) x4 h1)
    (hC : ∀ h' y4, FRB h h' → MHO h h' → MP1 h f l i b1 h' → MBS h f s2 l (PRO h (b1 * NHR h + i) (b2 * NHR h + j + 1)) y4 h' → WI N 296 84 [(0, .inr (.inr 130)), (1, .inl (f : Int)), (2, .inl s2), (3, .inl l), (4, .inl y4), (5, .inl (nSN h : Int)), (6, .inl ((b1 * NHR h + i : Nat) : Int)), (7, .inl (((b2 * NHR h + j : Nat) : Int) + 1))] h' C) :
    WI N 296 118 [(0, .inr (.inr 130)), (1, .inl (f : Int)), (2, .inl s2), (3, .inl l), (4, .inl x4), (5, .inl (nSN h : Int)), (6, .inl ((b1 * NHR h + i : Nat) : Int)), (7, .inl ((b2 * NHR h + j : Nat) : Int))] h1 C := by
  have hz := P.1.1
  unfold okSz at hz
  have n12 : NSL h ≤ 12 := by unfold NSL; omega
  have nh := NHR_le h
  have b12 : NBD h ≤ 12 := by unfold NBD; omega
  obtain ⟨n0, n8, -⟩ := P.2.2.1
  have n8' : nSN h ≤ 8 := by unfold nSN; omega
  have kp : Kp h h1 := Fr.kp fr (by decide)
  obtain ⟨l1, l2, l3, l4⟩ := INT_lt P I
  have bo1 : b1 * NHR h ≤ 12 * 12 := Nat.mul_le_mul (by omega) (by omega)
  have bo2 : b2 * NHR h ≤ 12 * 12 := Nat.mul_le_mul (by omega) (by omega)
  have ed1 : (b1 * NHR h + i) / NHR h = b1 := by rw [Nat.mul_comm, Nat.mul_add_div (Nat.pos_of_ne_zero hH), Nat.div_eq_of_lt I.2.1, Nat.add_zero]
  have em1 : (b1 * NHR h + i) % NHR h = i := by rw [Nat.mul_comm, Nat.mul_add_mod, Nat.mod_eq_of_lt I.2.1]
  have ed2 : (b2 * NHR h + j) / NHR h = b2 := by rw [Nat.mul_comm, Nat.mul_add_div (Nat.pos_of_ne_zero hH), Nat.div_eq_of_lt hj, Nat.add_zero]
  have em2 : (b2 * NHR h + j) % NHR h = j := by rw [Nat.mul_comm, Nat.mul_add_mod, Nat.mod_eq_of_lt hj]
  have td : ∀ a : Nat, ((a : Nat) : Int).tdiv (NHR h : Int) = ((a / NHR h : Nat) : Int) := fun a => rfl
  have tm : ∀ a : Nat, ((a : Nat) : Int).tmod (NHR h : Int) = ((a % NHR h : Nat) : Int) := fun a => rfl
  have w : ∀ a : Nat, a < 100000 → w32 ((a : Nat) : Int) = (a : Int) := fun a ha => by unfold w32; omega
  generalize ho : b1 * NHR h + i = o at *
  generalize ht : b2 * NHR h + j = t at *
  have S : MSL h1 (h 63) (WOF h ·) := by
    have S0 := Q.msl P.2.1
    exact MSL.keep S0 fr (by decide) (by decide) (by decide)
  refine w_296_118 (m_costNow (kp.pi P) (R.mv fr (by decide) (by decide) (by decide)) Mp ((OKP_x P hf hs2 rm I).keep kp) S (fun h2 f2 => ?_))
  have eC : COSTP h1 (cTW h s2) (kX h (nSN h)) (KX h (nSN h) (MI1 h f l i) (MI1 h s2.toNat l j)) (lX h (nSN h) (h 19 f) (h 19 s2.toNat)) (wX h (nSN h) b1 b2) (h 63) (WOF h ·) = COSTT h f s2 l b1 i b2 j := by
    rw [← COSTP_x]
    unfold COSTP SHP
    rw [kp.hrp, kp.shv, kp.at 16 (by decide)]
  rw [eC]
  have f2m : Fr [159, 160, 163, 164, 165, 166, 167, 172, 173] [48, 58, 61] h1 h2 := f2.mono (by decide) (by decide)
  -- the state with the second ring gone
  have g3 : FRB h (am_up h2 130 48 ((nSN h : Int) + 1)) := (Fr.trans fr f2m).upM (by decide)
  have M3 : MHO h (am_up h2 130 48 ((nSN h : Int) + 1)) := by
    unfold MHO at M ⊢
    rw [up_ne (by decide), up_row (by decide), f2.2 58 (by decide), f2.at 172 (by decide) (by decide)]
    exact M
  have P3 : MP1 h f l i b1 (am_up h2 130 48 ((nSN h : Int) + 1)) := M1 _ (by rw [up_row (by decide), f2.at 163 (by decide) (by decide)]) (by rw [up_row (by decide), f2.at 164 (by decide) (by decide)]) (by rw [up_row (by decide), f2.at 165 (by decide) (by decide)]) (by rw [up_row (by decide), f2.at 166 (by decide) (by decide)]) (by rw [up_same]; omega)
  have bc : am_up h2 130 48 ((nSN h : Int) + 1) 130 61 = h1 130 61 := by rw [up_ne (by decide), f2.2 61 (by decide)]
  have bi : am_up h2 130 48 ((nSN h : Int) + 1) 173 = h1 173 := by rw [up_row (by decide), f2.at 173 (by decide) (by decide)]
  generalize hh3 : am_up h2 130 48 ((nSN h : Int) + 1) = h3 at *
  have self : ∀ b1' i' b2' j', INT h s2 b1' i' b2' j' → PRO h o (t + 1) b1' i' b2' j' → PRO h o t b1' i' b2' j' ∨ (b1' = b1 ∧ i' = i ∧ b2' = b2 ∧ j' = j) := by
    intro b1' i' b2' j' I' q
    rcases q with q | ⟨q1, q2⟩
    · exact Or.inl (Or.inl q)
    · rcases Nat.eq_or_lt_of_le (Nat.le_of_lt_succ q2) with e | e
      · refine Or.inr ?_
        rw [← ho] at q1
        obtain ⟨e1, e2⟩ := lexe I'.2.1 I.2.1 q1
        have hj' : j' < NHR h := by
          by_cases z : s2 = -1
          · have := I'.2.2.1 z; have := Nat.pos_of_ne_zero hH; omega
          · exact (I'.2.2.2 z).2
        rw [← ht] at e
        obtain ⟨e3, e4⟩ := lexe hj' hj e
        exact ⟨e1, e2, e3, e4⟩
      · exact Or.inl (Or.inr ⟨q1, e⟩)
  have sub : ∀ b1' i' b2' j', PRO h o t b1' i' b2' j' → PRO h o (t + 1) b1' i' b2' j' := by
    intro b1' i' b2' j' q
    rcases q with q | ⟨q1, q2⟩
    · exact Or.inl q
    · exact Or.inr ⟨q1, Nat.lt_succ_of_lt q2⟩
  have me : PRO h o (t + 1) b1 i b2 j := Or.inr ⟨ho, by rw [ht]; exact Nat.lt_succ_self t⟩
  have put : (∀ b1' i' b2' j', INT h s2 b1' i' b2' j' → PRO h o t b1' i' b2' j' → COSTT h f s2 l b1 i b2 j < COSTT h f s2 l b1' i' b2' j' ∨ (COSTT h f s2 l b1 i b2 j = COSTT h f s2 l b1' i' b2' j' ∧ KEYT b1 i b2 j ≤ KEYT b1' i' b2' j')) →
      WI N 296 135 [(0, .inr (.inr 130)), (1, .inl (f : Int)), (2, .inl s2), (3, .inl l), (5, .inl (nSN h : Int)), (6, .inl (o : Int)), (7, .inl (t : Int)), (8, .inr (.inl (COSTT h f s2 l b1 i b2 j)))] h3 C := by
    intro hall
    have hH' : ¬ (NHR h : Int) = 0 := by omega
    refine w_296_135 ?_
    have c1 : am_up (am_up h3 130 61 (COSTT h f s2 l b1 i b2 j)) 173 0 (w32 ((o : Int).tdiv (h3 130 58))) 130 58 = (NHR h : Int) := by rw [up_row (by decide), up_ne (by decide)]; exact M3.1
    rw [M3.1, td, tm, ed1, em1, w b1 (by omega)]
    have f4 : Fr [173] [61] h3 (am_up (am_up h3 130 61 (COSTT h f s2 l b1 i b2 j)) 173 0 (b1 : Int)) := (Fr.rfl.upM (by decide)).up (by decide) (by decide)
    have M4 : MHO h (am_up (am_up h3 130 61 (COSTT h f s2 l b1 i b2 j)) 173 0 (b1 : Int)) := by
      unfold MHO at M3 ⊢
      rw [f4.2 58 (by decide), f4.at 172 (by decide) (by decide)]
      exact M3
    refine ⟨hH', ck_ix (by omega) ⟨hH', m_leadOf P M4 l60 I.2.1 ?_⟩⟩
    rw [M4.1, td, tm, ed2, em2, w b2 (by omega)]
    have f5 : Fr [173] [61] h3 (am_up (am_up (am_up (am_up h3 130 61 (COSTT h f s2 l b1 i b2 j)) 173 0 (b1 : Int)) 173 1 (LDM h l i)) 173 2 (b2 : Int)) := (f4.up (by decide) (by decide)).up (by decide) (by decide)
    have M5 : MHO h (am_up (am_up (am_up (am_up h3 130 61 (COSTT h f s2 l b1 i b2 j)) 173 0 (b1 : Int)) 173 1 (LDM h l i)) 173 2 (b2 : Int)) := by
      unfold MHO at M3 ⊢
      rw [f5.2 58 (by decide), f5.at 172 (by decide) (by decide)]
      exact M3
    refine ck_ix (by omega) ⟨hH', ck_ix (by omega) ⟨hH', m_leadOf P M5 l60 hj (ck_ix (by omega) (w_296_179 (ck_rg (by omega) ?_)))⟩⟩
    have f6 : Fr [173] [61] h3 (am_up (am_up (am_up (am_up (am_up h3 130 61 (COSTT h f s2 l b1 i b2 j)) 173 0 (b1 : Int)) 173 1 (LDM h l i)) 173 2 (b2 : Int)) 173 3 (LDM h l j)) := f5.up (by decide) (by decide)
    refine hC _ 1 (Fr.trans g3 (f6.mono (by decide) (by decide))) ?_ ?_ (Or.inr ⟨rfl, b1, i, b2, j, I, me, ?_, ⟨?_, ?_, ?_, ?_⟩, fun b1' i' b2' j' z y => ?_⟩)
    · unfold MHO at M3 ⊢
      rw [f6.2 58 (by decide), f6.at 172 (by decide) (by decide)]
      exact M3
    · intro m2 v2 w2
      exact (P3 m2 v2 w2).keep f6 (by decide) (by decide) (by decide) (by decide) (by decide)
    · rw [up_row (by decide), up_row (by decide), up_row (by decide), up_row (by decide), up_same]
    · rw [up_ne (by decide), up_ne (by decide), up_ne (by decide), up_same]
    · rw [up_ne (by decide), up_ne (by decide), up_same]
    · rw [up_ne (by decide), up_same]
    · rw [up_same]
    · rcases self b1' i' b2' j' z y with v | ⟨e1, e2, e3, e4⟩
      · exact hall b1' i' b2' j' z v
      · rw [e1, e2, e3, e4]; exact Or.inr ⟨rfl, Nat.le_refl _⟩
  refine ck_rg (by omega) ?_
  rcases B with ⟨m1, m2⟩ | ⟨m0, a1, a2, a3, a4, m1, mp, m2, m3, m4⟩
  · refine ⟨fun _ => put (fun b1' i' b2' j' z y => absurd y (m2 b1' i' b2' j' z)), fun z => absurd m1 z⟩
  · have mk : KEYT a1 a2 a3 a4 ≤ KEYT b1 i b2 j := PRO_key P I m1 (by omega) (by rw [ho, ht]; exact mp)
    subst m0
    refine ⟨fun z => absurd z (by decide), fun _ => ?_⟩
    rw [f2.2 61 (by decide), m2]
    simp only [sgn_lt]
    refine ⟨fun lt => put (fun b1' i' b2' j' z y => ?_), fun ge => w_296_179 (ck_rg (by omega) (hC h3 1 g3 M3 P3 (Or.inr ⟨rfl, a1, a2, a3, a4, m1, sub _ _ _ _ mp, by rw [bc]; exact m2, by rw [bi]; exact m3, fun b1' i' b2' j' z y => ?_⟩)))⟩
    · rcases m4 b1' i' b2' j' z y with v | ⟨v, _⟩
      · exact Or.inl (by omega)
      · exact Or.inl (by omega)
    · rcases self b1' i' b2' j' z y with v | ⟨e1, e2, e3, e4⟩
      · exact m4 b1' i' b2' j' z v
      · rw [e1, e2, e3, e4]
        by_cases q : COSTT h f s2 l a1 a2 a3 a4 = COSTT h f s2 l b1 i b2 j
        · exact Or.inr ⟨q, mk⟩
        · exact Or.inl (by omega)
