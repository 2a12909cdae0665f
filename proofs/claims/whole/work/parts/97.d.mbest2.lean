/-! BEST TWO: the reference's loops -/
def TWO (h : aH) (s2 : Int) : Nat := if s2 = -1 then 1 else NBD h * NHR h
theorem INT_two {h : aH} {s2 : Int} {b1 i b2 j : Nat} (I : INT h s2 b1 i b2 j) : b2 * NHR h + j < TWO h s2 := by
  unfold TWO
  by_cases z : s2 = -1
  · rw [if_pos z]
    have a := I.2.2.1 z
    rw [a.1, a.2, Nat.zero_mul]
    decide
  · rw [if_neg z]
    have a := I.2.2.2 z
    have := b12x a.1 a.2
    omega
/-- the reference's plan is the class's -/
def MP0 (h h1 : aH) : Prop := MPL h1 (nSN h) (h 59) (h 60) (h 61) (h 62)
theorem MP1.put {h h1 : aH} {f : Nat} {l : Int} {i b1 : Nat} (M : MP0 h h1) : MP1 h f l i b1 (MPUT h1 (nSN h) 0 (MI1 h f l i) (h 19 f) b1) := fun m2 v2 w2 =>
  MPUT_mpl M (fun j hj => by unfold kX KX lX wX; rw [if_pos hj, if_pos hj, if_pos hj, if_pos hj]; exact ⟨rfl, rfl, rfl, rfl⟩) (by unfold kX KX lX wX; rw [if_neg (Nat.lt_irrefl _), if_neg (Nat.lt_irrefl _), if_pos rfl, if_neg (Nat.lt_irrefl _), if_pos rfl, if_neg (Nat.lt_irrefl _), if_pos rfl]; exact ⟨rfl, rfl, rfl, rfl⟩)
theorem MP1.row {h h1 g : aH} {f : Nat} {l : Int} {i b1 : Nat} (M : MP1 h f l i b1 h1) (e : ∀ j, j < nSN h + 1 → g 163 j = h1 163 j ∧ g 164 j = h1 164 j ∧ g 165 j = h1 165 j ∧ g 166 j = h1 166 j) (s : g 130 48 = (nSN h + 1 : Nat)) : MP1 h f l i b1 g := fun m2 v2 w2 => by
  have m := M m2 v2 w2
  refine ⟨s, fun j hj => ?_⟩
  obtain ⟨a, b, c, d⟩ := m.2 j hj
  obtain ⟨a', b', c', d'⟩ := e j hj
  exact ⟨a'.trans a, b'.trans b, c'.trans c, d'.trans d⟩
theorem MP0.of1 {h h1 g : aH} {f : Nat} {l : Int} {i b1 : Nat} (M : MP1 h f l i b1 h1) (e : g 163 = h1 163 ∧ g 164 = h1 164 ∧ g 165 = h1 165 ∧ g 166 = h1 166) (s : g 130 48 = (nSN h : Nat)) : MP0 h g := by
  have m := M 0 0 0
  refine ⟨s, fun j hj => ?_⟩
  obtain ⟨a, b, c, d⟩ := m.2 j (by omega)
  obtain ⟨a', b', c', d'⟩ := e
  unfold kX KX lX wX at *
  rw [if_pos hj] at a b c d
  rw [a', b', c', d']
  exact ⟨a, b, c, d⟩
theorem w32s {a : Nat} (h : a < 100) : w32 (a : Int) = (a : Int) := by unfold w32; omega
theorem m_b84 {N : Nat} {C : Int → aH → Prop} {h : aH} {f : Nat} {s2 l : Int} {b1 i : Nat} (P : PI h) (R : RelH h) (Q : RelP h) (hf : (f : Int) < h 16 15) (hs2 : s2 = -1 ∨ (0 ≤ s2 ∧ s2 < h 16 15)) (l60 : 0 ≤ l ∧ l ≤ 60) (rm : cTW h s2 ≤ 8) (hb1 : b1 < NBD h) (hi : i < NHR h)
    (hC : ∀ h' y4, FRB h h' → MHO h h' → MP0 h h' → MBS h f s2 l (PRO h (b1 * NHR h + i + 1) 0) y4 h' → WI N 296 56 [(0, .inr (.inr 130)), (1, .inl (f : Int)), (2, .inl s2), (3, .inl l), (4, .inl y4), (5, .inl (nSN h : Int)), (6, .inl (((b1 * NHR h + i : Nat) : Int) + 1))] h' C) : ∀ (d t : Nat) (h1 : aH) (x4 : Int), d = TWO h s2 - t → t ≤ TWO h s2 → FRB h h1 → MHO h h1 → MP1 h f l i b1 h1 → MBS h f s2 l (PRO h (b1 * NHR h + i) t) x4 h1 →
    WI N 296 84 [(0, .inr (.inr 130)), (1, .inl (f : Int)), (2, .inl s2), (3, .inl l), (4, .inl x4), (5, .inl (nSN h : Int)), (6, .inl ((b1 * NHR h + i : Nat) : Int)), (7, .inl (t : Int))] h1 C := by
  have hz := P.1.1
  unfold okSz at hz
  have n12 : NSL h ≤ 12 := by unfold NSL; omega
  have nh := NHR_le h
  have b12 : NBD h ≤ 12 := by unfold NBD; omega
  obtain ⟨n0, n8, -⟩ := P.2.2.1
  have n8' : nSN h ≤ 8 := by unfold nSN; omega
  have hH : NHR h ≠ 0 := by omega
  have bnd : NBD h * NHR h ≤ 12 * 12 := Nat.mul_le_mul b12 (by omega)
  have ob := b12x hb1 hi
  have tb : TWO h s2 ≤ 144 := by unfold TWO; split <;> omega
  intro d
  induction d with
  | zero =>
    intro t h1 x4 hd ht fr M M1 B
    have : t = TWO h s2 := by omega
    subst this
    have kp : Kp h h1 := Fr.kp fr (by decide)
    have e1 : NBD h1 = NBD h := by unfold NBD; rw [kp.at 16 (by decide)]
    obtain ⟨g1, g2, g3⟩ := m_nbd (kp.pi P) (R.mv fr (by decide) (by decide) (by decide))
    have f2 : Fr [163, 164, 165, 166] [48] h1 (am_up h1 130 48 (nSN h : Int)) := Fr.rfl.upM (by decide)
    have out : WI N 296 56 [(0, .inr (.inr 130)), (1, .inl (f : Int)), (2, .inl s2), (3, .inl l), (4, .inl x4), (5, .inl (nSN h : Int)), (6, .inl (((b1 * NHR h + i : Nat) : Int) + 1))] (am_up h1 130 48 (nSN h : Int)) C := by
      refine hC _ x4 (Fr.trans fr (f2.mono (by decide) (by decide))) ?_ (MP0.of1 M1 ⟨up_row (by decide), up_row (by decide), up_row (by decide), up_row (by decide)⟩ (up_same _ _ _ _)) ((B.pr (fun b1' i' b2' j' I => ?_)).fr (by rw [up_ne (by decide)]) (by rw [up_row (by decide)]))
      · unfold MHO at M ⊢
        rw [up_ne (by decide), up_row (by decide)]
        exact M
      · have := INT_two I
        unfold PRO
        omega
    refine w_296_84 ⟨fun two => ck_ix (by omega) ?_, fun one => ⟨fun _ => ck_rg (by omega) out, fun z => ?_⟩⟩
    · have tt : TWO h s2 = NBD h * NHR h := by unfold TWO; rw [if_neg two]
      rw [g2, e1, M.1, ← Int.natCast_mul, tt]
      exact ck_rg (by omega) ⟨fun _ => ck_rg (by omega) out, fun z => absurd (Int.le_refl _) z⟩
    · have tt : TWO h s2 = 1 := by unfold TWO; rw [if_pos (Decidable.not_not.mp one)]
      rw [tt] at z
      exact absurd (show (1 : Int) ≤ ((1 : Nat) : Int) by decide) z
  | succ d ih =>
    intro t h1 x4 hd ht fr M M1 B
    have kp : Kp h h1 := Fr.kp fr (by decide)
    have e1 : NBD h1 = NBD h := by unfold NBD; rw [kp.at 16 (by decide)]
    have R1 : RelH h1 := R.mv fr (by decide) (by decide) (by decide)
    obtain ⟨g1, g2, g3⟩ := m_nbd (kp.pi P) R1
    have nx : ∀ h' y4, FRB h h' → MHO h h' → MP1 h f l i b1 h' → MBS h f s2 l (PRO h (b1 * NHR h + i) (t + 1)) y4 h' → WI N 296 84 [(0, .inr (.inr 130)), (1, .inl (f : Int)), (2, .inl s2), (3, .inl l), (4, .inl y4), (5, .inl (nSN h : Int)), (6, .inl ((b1 * NHR h + i : Nat) : Int)), (7, .inl ((t : Int) + 1))] h' C := fun h' y4 a b c e => ih (t + 1) h' y4 (by omega) (by omega) a b c e
    have ht2 : t < TWO h s2 := by omega
    refine w_296_84 ⟨fun two => ck_ix (by omega) ?_, fun one => ⟨fun z => ?_, fun _ => ⟨fun _ => ?_, fun z => absurd (Decidable.not_not.mp one) z⟩⟩⟩
    · have tt : TWO h s2 = NBD h * NHR h := by unfold TWO; rw [if_neg two]
      rw [tt] at ht2
      have hs2 := hs2.resolve_left two
      obtain ⟨q, rfl⟩ := Int.eq_ofNat_of_zero_le hs2.1
      have ec : cTW h (q : Int) = nSN h + 2 := by unfold cTW; rw [if_neg two]
      have hj : t % NHR h < NHR h := Nat.mod_lt _ (Nat.pos_of_ne_zero hH)
      have hb2 : t / NHR h < NBD h := Nat.div_lt_of_lt_mul (by rw [Nat.mul_comm]; exact ht2)
      have et : t / NHR h * NHR h + t % NHR h = t := by rw [Nat.mul_comm]; exact Nat.div_add_mod t (NHR h)
      have w : w32 ((t : Int).tdiv (NHR h : Int)) = ((t / NHR h : Nat) : Int) := by
        show w32 (((t / NHR h : Nat)) : Int) = _
        exact w32s (Nat.lt_of_lt_of_le hb2 (by omega))
      have tm : (t : Int).tmod (NHR h : Int) = ((t % NHR h : Nat) : Int) := rfl
      have hH' : ¬ (NHR h : Int) = 0 := by omega
      rw [g2, e1, M.1, ← Int.natCast_mul, w, tm]
      refine ck_rg (by omega) ⟨fun z => by omega, fun _ => ⟨fun z => absurd z two, fun _ => ⟨hH', hH', m_leadOf P M l60 hj ?_⟩⟩⟩
      have lr := LDM_rg P l60.1 hj
      have mm := (M1 0 0 0).1
      rw [ec] at rm
      refine m_rings (kp.pi P).1 R1 ⟨by omega, by rw [kp.at 16 (by decide)]; exact hs2.2⟩ lr (n := nSN h + 1) mm (by omega) ?_
      rw [Int.toNat_natCast, kp.at 20 (by decide), kp.at 19 (by decide), show max 0 (min 399 (LDM h l (t % NHR h) + h 20 q)) = MI1 h q l (t % NHR h) from rfl]
      have f2 := MPUT_fr (h1 := h1) (n := nSN h + 1) (k := 0) (mi := MI1 h q l (t % NHR h)) (lo := h 19 q) (wh1 := ((t / NHR h : Nat) : Int))
      have key := m_b118 (N := N) (C := C) (h := h) (h1 := MPUT h1 (nSN h + 1) 0 (MI1 h q l (t % NHR h)) (h 19 q) ((t / NHR h : Nat) : Int)) (f := f) (s2 := (q : Int)) (l := l) (x4 := x4) (b1 := b1) (i := i) (b2 := t / NHR h) (j := t % NHR h) P R Q hf (Or.inr hs2) l60 (by rw [ec]; exact rm) ⟨hb1, hi, fun z => absurd z two, fun _ => ⟨hb2, hj⟩⟩ hH hj (Fr.trans fr (f2.mono (by decide) (by decide))) ?_ ?_ ?_ ?_ ?_
      · rw [et] at key
        exact key
      · unfold MHO at M ⊢
        rw [f2.2 58 (by decide), f2.at 172 (by decide) (by decide)]
        exact M
      · rw [ec, Int.toNat_natCast]
        exact MPUT_mpl (M1 (MI1 h q l (t % NHR h)) (h 19 q) ((t / NHR h : Nat) : Int)) (fun j hj => ⟨rfl, rfl, rfl, rfl⟩) (by unfold kX KX lX wX; rw [if_neg (by omega), if_neg (by omega), if_neg (by omega), if_neg (by omega), if_neg (by omega), if_neg (by omega), if_neg (by omega)]; exact ⟨rfl, rfl, rfl, rfl⟩)
      · intro g a b c e s
        refine M1.row (fun j hj => ?_) s
        rw [a, b, c, e]
        unfold MPUT
        have : j ≠ nSN h + 1 := by omega
        refine ⟨?_, ?_, ?_, ?_⟩ <;> simp [up_in, up_row, this]
      · rw [et]
        exact B.fr (f2.2 61 (by decide)) (f2.at 173 (by decide) (by decide))
      · rw [et]; exact nx
    · have tt : TWO h s2 = 1 := by unfold TWO; rw [if_pos (Decidable.not_not.mp one)]
      rw [tt] at ht2
      omega
    · have one := Decidable.not_not.mp one
      subst one
      have tt : TWO h (-1) = 1 := by unfold TWO; rw [if_pos rfl]
      rw [tt] at ht2
      have t0 : t = 0 := by omega
      subst t0
      have ec : cTW h (-1) = nSN h + 1 := by unfold cTW; rw [if_pos rfl]
      have e0 : 0 * NHR h + 0 = 0 := by rw [Nat.zero_mul]
      have key := m_b118 (N := N) (C := C) (h := h) (h1 := h1) (f := f) (s2 := -1) (l := l) (x4 := x4) (b1 := b1) (i := i) (b2 := 0) (j := 0) P R Q hf (Or.inl rfl) l60 rm ⟨hb1, hi, fun _ => ⟨rfl, rfl⟩, fun z => absurd rfl z⟩ hH (Nat.pos_of_ne_zero hH) fr M (by rw [ec]; exact M1 _ _ _) (fun g a b c e s => M1.row (fun j hj => by rw [a, b, c, e]; exact ⟨rfl, rfl, rfl, rfl⟩) s) (by rw [e0]; exact B) (by rw [e0]; exact nx)
      rw [e0] at key
      exact key
theorem m_b56 {N : Nat} {C : Int → aH → Prop} {h : aH} {f : Nat} {s2 l : Int} (P : PI h) (R : RelH h) (Q : RelP h) (hf : (f : Int) < h 16 15) (hs2 : s2 = -1 ∨ (0 ≤ s2 ∧ s2 < h 16 15)) (l60 : 0 ≤ l ∧ l ≤ 60) (rm : cTW h s2 ≤ 8) (hH : NHR h ≠ 0)
    (hC : ∀ h' y4, FRB h h' → MP0 h h' → MBS h f s2 l (fun _ _ _ _ => True) y4 h' → C 0 h') : ∀ (d o : Nat) (h1 : aH) (x4 : Int), d = NBD h * NHR h - o → o ≤ NBD h * NHR h → FRB h h1 → MHO h h1 → MP0 h h1 → MBS h f s2 l (PRO h o 0) x4 h1 →
    WI N 296 56 [(0, .inr (.inr 130)), (1, .inl (f : Int)), (2, .inl s2), (3, .inl l), (4, .inl x4), (5, .inl (nSN h : Int)), (6, .inl (o : Int))] h1 C := by
  have hz := P.1.1
  unfold okSz at hz
  have n12 : NSL h ≤ 12 := by unfold NSL; omega
  have nh := NHR_le h
  have b12 : NBD h ≤ 12 := by unfold NBD; omega
  obtain ⟨n0, n8, -⟩ := P.2.2.1
  have n8' : nSN h ≤ 8 := by unfold nSN; omega
  have bnd : NBD h * NHR h ≤ 12 * 12 := Nat.mul_le_mul b12 (by omega)
  have rm2 : nSN h < 8 := by unfold cTW at rm; split at rm <;> omega
  intro d
  induction d with
  | zero =>
    intro o h1 x4 hd ho fr M M0 B
    have : o = NBD h * NHR h := by omega
    subst this
    have kp : Kp h h1 := Fr.kp fr (by decide)
    have e1 : NBD h1 = NBD h := by unfold NBD; rw [kp.at 16 (by decide)]
    obtain ⟨g1, g2, g3⟩ := m_nbd (kp.pi P) (R.mv fr (by decide) (by decide) (by decide))
    refine w_296_56 (ck_ix (by omega) ?_)
    rw [g2, e1, M.1, ← Int.natCast_mul]
    refine ck_rg (by omega) ⟨fun _ => hC h1 x4 fr M0 (B.pr (fun b1' i' b2' j' I => ⟨fun _ => Or.inl ?_, fun _ => trivial⟩)), fun z => absurd (Int.le_refl _) z⟩
    have := b12x I.1 I.2.1
    omega
  | succ d ih =>
    intro o h1 x4 hd ho fr M M0 B
    have kp : Kp h h1 := Fr.kp fr (by decide)
    have e1 : NBD h1 = NBD h := by unfold NBD; rw [kp.at 16 (by decide)]
    have R1 : RelH h1 := R.mv fr (by decide) (by decide) (by decide)
    obtain ⟨g1, g2, g3⟩ := m_nbd (kp.pi P) R1
    have ho2 : o < NBD h * NHR h := by omega
    have hi : o % NHR h < NHR h := Nat.mod_lt _ (Nat.pos_of_ne_zero hH)
    have hb1 : o / NHR h < NBD h := Nat.div_lt_of_lt_mul (by rw [Nat.mul_comm]; exact ho2)
    have eo : o / NHR h * NHR h + o % NHR h = o := by rw [Nat.mul_comm]; exact Nat.div_add_mod o (NHR h)
    have w : w32 ((o : Int).tdiv (NHR h : Int)) = ((o / NHR h : Nat) : Int) := by
      show w32 (((o / NHR h : Nat)) : Int) = _
      exact w32s (Nat.lt_of_lt_of_le hb1 (by omega))
    have tm : (o : Int).tmod (NHR h : Int) = ((o % NHR h : Nat) : Int) := rfl
    have hH' : ¬ (NHR h : Int) = 0 := by omega
    refine w_296_56 (ck_ix (by omega) ?_)
    rw [g2, e1, M.1, ← Int.natCast_mul, w, tm]
    refine ck_rg (by omega) ⟨fun z => by omega, fun _ => ⟨hH', hH', m_leadOf P M l60 hi ?_⟩⟩
    have lr := LDM_rg P l60.1 hi
    refine m_rings (kp.pi P).1 R1 ⟨by omega, by rw [kp.at 16 (by decide)]; exact hf⟩ lr (n := nSN h) M0.1 (by omega) ?_
    rw [Int.toNat_natCast, kp.at 20 (by decide), kp.at 19 (by decide), show max 0 (min 399 (LDM h l (o % NHR h) + h 20 f)) = MI1 h f l (o % NHR h) from rfl]
    have f2 := MPUT_fr (h1 := h1) (n := nSN h) (k := 0) (mi := MI1 h f l (o % NHR h)) (lo := h 19 f) (wh1 := ((o / NHR h : Nat) : Int))
    have key := m_b84 (N := N) (C := C) (h := h) (f := f) (s2 := s2) (l := l) (b1 := o / NHR h) (i := o % NHR h) P R Q hf hs2 l60 rm hb1 hi ?_ (TWO h s2) 0 (MPUT h1 (nSN h) 0 (MI1 h f l (o % NHR h)) (h 19 f) ((o / NHR h : Nat) : Int)) x4 rfl (Nat.zero_le _) (Fr.trans fr (f2.mono (by decide) (by decide))) ?_ (MP1.put M0) ?_
    · rw [eo] at key
      exact key
    · rw [eo]
      exact fun h' y4 a b c e => ih (o + 1) h' y4 (by omega) (by omega) a b c e
    · unfold MHO at M ⊢
      rw [f2.2 58 (by decide), f2.at 172 (by decide) (by decide)]
      exact M
    · rw [eo]
      exact B.fr (f2.2 61 (by decide)) (f2.at 173 (by decide) (by decide))
theorem MP0.relp {h h1 : aH} (Q : RelP h) (P : PI h) (fr : FRB h h1) (M : MP0 h h1) : RelP h1 := by
  have kp : Kp h h1 := Fr.kp fr (by decide)
  obtain ⟨n0, n8, -⟩ := P.2.2.1
  unfold RelP
  rw [kp.wof, kp.at 16 (by decide), kp.at 58 (by decide), kp.at 59 (by decide), kp.at 60 (by decide), kp.at 61 (by decide), kp.at 62 (by decide), kp.at 63 (by decide), fr.at 161 (by decide) (by decide), fr.at 162 (by decide) (by decide), M.1]
  refine ⟨by unfold nSN; omega, fun j hj => M.2 j (by unfold nSN; omega), Q.2.2⟩
theorem m_bests {N : Nat} {C : Int → aH → Prop} {h : aH} {f s2 l : Int} (P : PI h) (R : RelH h) (Q : RelP h) (h1 : ¬ BV h f s2 l → ∀ h', FRB h h' → RelP h' → C (-1) h') (h2 : BV h f s2 l → ¬ BV2 h s2 → ∀ h', FRB h h' → RelP h' → C (-2) h')
    (h3 : BV h f s2 l → BV2 h s2 → ∀ h', FRB h h' → RelP h' → (∃ b1 i b2 j, MNT h f.toNat s2 l b1 i b2 j ∧ h' 130 61 = COSTT h f.toNat s2 l b1 i b2 j ∧ (h' 173 0 = (b1 : Int) ∧ h' 173 1 = LDM h l i ∧ h' 173 2 = (b2 : Int) ∧ h' 173 3 = LDM h l j)) → C 0 h') : WI N 296 0 [(0, .inr (.inr 130)), (1, .inl f), (2, .inl s2), (3, .inl l)] h C := by
  have hz := P.1.1
  unfold okSz at hz
  obtain ⟨n0, n8, -⟩ := P.2.2.1
  have hn : ((nSN h : Nat) : Int) = h 58 10 := by unfold nSN; omega
  have h1 := fun z => h1 z h Fr.rfl Q
  have c12 : (0 ≤ f ∧ f < h 16 15) → (s2 = -1 ∨ (0 ≤ s2 ∧ s2 < h 16 15)) → WI N 296 12 [(0, .inr (.inr 130)), (1, .inl f), (2, .inl s2), (3, .inl l)] h C := by
    intro q1 q2
    refine w_296_12 ⟨fun e => w_296_21 (h1 (fun z => z.2.2.1 e)), fun ne => m_in (fun q3 => y1 (m_hoursNow P.1 R (fun g fr hh hl => ?_))) (fun q3 => y0 (w_296_21 (h1 (fun z => q3 z.2.2.2))))⟩
    have kp := fr.kp (by decide)
    have v1 : BV h f s2 l := ⟨q1, q2, ne, q3⟩
    have fB : FRB h g := fr.mono (by decide) (by decide)
    have Q1 : RelP g := Q.keep kp fr (by decide) (by decide)
    have e1 : NBD g = NBD h := by unfold NBD; rw [kp.at 16 (by decide)]
    have M : MHO h g := ⟨hh, hl⟩
    obtain ⟨g1, g2, g3⟩ := m_nbd (kp.pi P) (R.mv fr (by decide) (by decide) (by decide))
    rw [M.1, g2, e1, fr.2 48 (by decide), Q.1]
    have h2' := h2 v1
    have go : BV2 h s2 → WI N 296 56 [(0, .inr (.inr 130)), (1, .inl f), (2, .inl s2), (3, .inl l), (4, .inl 0), (5, .inl (h 58 10)), (6, .inl 0)] g C := by
      intro v2
      obtain ⟨f, rfl⟩ := Int.eq_ofNat_of_zero_le q1.1
      rw [← hn]
      have Mp : MP0 h g := (Q.mpl P.2.2.1).keep fr (by decide) (by decide) (by decide) (by decide) (by decide)
      refine m_b56 P R Q q1.2 q2 q3 v2.2.2 v2.1 (fun h' y4 fr' M0 B => h3 v1 v2 h' fr' (M0.relp Q P fr') ?_) _ 0 g 0 rfl (Nat.zero_le _) fB M Mp (Or.inl ⟨rfl, fun b1 i b2 j I q => by unfold PRO at q; omega⟩)
      rcases B with ⟨_, m2⟩ | ⟨m0, b1, i, b2, j, m1, mp, m2, m3, m4⟩
      · exfalso
        exact m2 0 0 0 0 ⟨Nat.pos_of_ne_zero v2.2.1, Nat.pos_of_ne_zero v2.1, fun _ => ⟨rfl, rfl⟩, fun _ => ⟨Nat.pos_of_ne_zero v2.2.1, Nat.pos_of_ne_zero v2.1⟩⟩ trivial
      · rw [Int.toNat_natCast]
        exact ⟨b1, i, b2, j, ⟨m1, fun b1' i' b2' j' I => m4 b1' i' b2' j' I trivial⟩, m2, m3⟩
    refine ⟨fun z => w_296_46 (h2' (fun y => y.1 (by omega)) g fB Q1), fun z => ck_ix (by omega) ⟨fun z2 => w_296_46 (h2' (fun y => y.2.1 (by omega)) g fB Q1), fun z2 => ⟨fun two => ck_rg (by omega) ⟨fun le => go ⟨by omega, by omega, by unfold cTW; rw [if_neg two]; omega⟩, fun gt => w_296_46 (h2' (fun y => gt (by have := y.2.2; unfold cTW at this; rw [if_neg two] at this; omega)) g fB Q1)⟩, fun one => ck_rg (by omega) ⟨fun le => go ⟨by omega, by omega, by unfold cTW; rw [if_pos (Decidable.not_not.mp one)]; omega⟩, fun gt => w_296_46 (h2' (fun y => gt (by have := y.2.2; unfold cTW at this; rw [if_pos (Decidable.not_not.mp one)] at this; omega)) g fB Q1)⟩⟩⟩⟩
  refine w_296_0 (m_isClock P.1 R (fun q1 => z1 ⟨fun e => c12 q1 (Or.inl e), fun ne => m_isClock P.1 R (fun q2 => z1 (c12 q1 (Or.inr q2))) (fun q2 => z0 (w_296_21 (h1 (fun z => q2 (z.2.1.resolve_left ne)))))⟩) (fun q1 => z0 (w_296_21 (h1 (fun z => q1 z.1)))))
theorem m_best {N : Nat} {C : Int → aH → Prop} {h : aH} {f s2 l : Int} (P : PI h) (R : RelH h) (Q : RelP h) (hC : ∀ v h', FRB h h' → RelP h' → BANS h f s2 l v → C v h') : WL N 295 0 [(0, .inr (.inr 130)), (1, .inl f), (2, .inl s2), (3, .inl l)] h C := by
  refine w_295_0 (m_bests P R Q (fun no h' fr q => ⟨fun z => absurd z (by decide), fun _ => hC _ h' fr q ⟨fun _ => rfl, fun y => absurd y no, fun y => absurd y no⟩⟩) (fun v1 no h' fr q => ⟨fun z => absurd z (by decide), fun _ => hC _ h' fr q ⟨fun y => absurd v1 y, fun _ _ => rfl, fun _ y => absurd y no⟩⟩) (fun v1 v2 h' fr q ⟨b1, i, b2, j, m, c, _⟩ => ⟨fun _ => ?_, fun z => absurd (Int.le_refl 0) z⟩))
  rw [c]
  exact hC _ h' fr q ⟨fun y => absurd v1 y, fun _ y => absurd v2 y, fun _ _ => ⟨b1, i, b2, j, m, rfl⟩⟩
theorem m_bestAt {N : Nat} {C : Int → aH → Prop} {h : aH} {f s2 l w : Int} (P : PI h) (R : RelH h) (Q : RelP h) (hC : ∀ v h', FRB h h' → RelP h' → BAT h f s2 l w v → C v h') : WI N 298 0 [(0, .inr (.inr 130)), (1, .inl f), (2, .inl s2), (3, .inl l), (4, .inl w)] h C := by
  refine w_298_0 (m_in (fun hw => y1 ?_) (fun nw => y0 (hC _ h Fr.rfl Q ⟨fun _ => rfl, fun y => absurd y nw⟩)))
  refine m_bests P R Q (fun no h' fr q => ⟨fun z => absurd z (by decide), fun _ => hC _ h' fr q ⟨fun y => absurd hw y, fun _ => ⟨fun _ => rfl, fun y => absurd y no, fun y => absurd y no⟩⟩⟩) (fun v1 no h' fr q => ⟨fun z => absurd z (by decide), fun _ => hC _ h' fr q ⟨fun y => absurd hw y, fun _ => ⟨fun y => absurd v1 y, fun _ _ => rfl, fun _ y => absurd y no⟩⟩⟩) (fun v1 v2 h' fr q ⟨b1, i, b2, j, m, _, e0, e1, e2, e3⟩ => ⟨fun _ => ?_, fun z => absurd (Int.le_refl 0) z⟩)
  have fin : ¬ (2 ≤ w ∧ s2 = -1) → C (h' 173 w.toNat) h' := by
    intro ny
    refine hC _ h' fr q ⟨fun y => absurd hw y, fun _ => ⟨fun y => absurd v1 y, fun _ y => absurd v2 y, fun _ _ => ⟨fun y => absurd y ny, fun _ => ⟨b1, i, b2, j, m, ?_⟩⟩⟩⟩
    have : w = 0 ∨ w = 1 ∨ w = 2 ∨ w = 3 := by omega
    rcases this with e | e | e | e <;> subst e
    · exact e0
    · exact e1
    · exact e2
    · exact e3
  refine ⟨fun le => ck_ix (by omega) (fin (by omega)), fun gt => ⟨fun two => ck_ix (by omega) (fin (fun y => two y.2)), fun one => hC _ h' fr q ⟨fun y => absurd hw y, fun _ => ⟨fun y => absurd v1 y, fun _ y => absurd v2 y, fun _ _ => ⟨fun _ => rfl, fun y => absurd ⟨by omega, Decidable.not_not.mp one⟩ y⟩⟩⟩⟩⟩
