/-! BEST TWO: the class compares -/
def SNB : List Nat := [28, 31, 34, 92, 93, 94, 95, 96, 97, 102, 103, 104, 105, 106, 107, 108, 109]
def nSN (h : aH) : Nat := (h 58 10).toNat
def cTW (h : aH) (s2 : Int) : Nat := if s2 = -1 then nSN h + 1 else nSN h + 2
def MI1 (h : aH) (f : Nat) (l : Int) (i : Nat) : Int := SAT h f (LDM h l i)
def COSTT (h : aH) (f : Nat) (s2 l : Int) (b1 i b2 j : Nat) : Int := sumN (fun s => SX h (nSN h) (cTW h s2) (MI1 h f l i) (MI1 h s2.toNat l j) s (HF h f l i b1 s) (HF h s2.toNat l j b2 s)) (NSL h)
def KEYT (b1 i b2 j : Nat) : Nat := ((b1 * 12 + i) * 12 + b2) * 12 + j
def INT (h : aH) (s2 : Int) (b1 i b2 j : Nat) : Prop := b1 < NBD h ∧ i < NHR h ∧ (s2 = -1 → b2 = 0 ∧ j = 0) ∧ (s2 ≠ -1 → b2 < NBD h ∧ j < NHR h)
/-- the least of those gone through -/
def MINL (h : aH) (f : Nat) (s2 l : Int) (pr : Nat → Nat → Nat → Nat → Prop) (h1 : aH) : Prop :=
  (h1 102 12 = -1 ∧ ∀ b1 i b2 j, INT h s2 b1 i b2 j → ¬ pr b1 i b2 j) ∨
  ∃ b1 i b2 j, INT h s2 b1 i b2 j ∧ h1 102 12 = (KEYT b1 i b2 j : Int) ∧ h1 102 11 = COSTT h f s2 l b1 i b2 j ∧ ∀ b1' i' b2' j', INT h s2 b1' i' b2' j' → pr b1' i' b2' j' → COSTT h f s2 l b1 i b2 j < COSTT h f s2 l b1' i' b2' j' ∨ (COSTT h f s2 l b1 i b2 j = COSTT h f s2 l b1' i' b2' j' ∧ KEYT b1 i b2 j ≤ KEYT b1' i' b2' j')
theorem MINL.pr {h : aH} {f : Nat} {s2 l : Int} {p q : Nat → Nat → Nat → Nat → Prop} {h1 : aH} (M : MINL h f s2 l p h1) (e : ∀ b1 i b2 j, INT h s2 b1 i b2 j → q b1 i b2 j → p b1 i b2 j) : MINL h f s2 l q h1 := by
  rcases M with ⟨m1, m2⟩ | ⟨b1, i, b2, j, m1, m2, m3, m4⟩
  · exact Or.inl ⟨m1, fun b1 i b2 j z y => m2 b1 i b2 j z (e b1 i b2 j z y)⟩
  · exact Or.inr ⟨b1, i, b2, j, m1, m2, m3, fun b1' i' b2' j' z y => m4 b1' i' b2' j' z (e b1' i' b2' j' z y)⟩
theorem MINL.fr {h : aH} {f : Nat} {s2 l : Int} {p : Nat → Nat → Nat → Nat → Prop} {h1 h2 : aH} (M : MINL h f s2 l p h1) (e1 : h2 102 12 = h1 102 12) (e2 : h2 102 11 = h1 102 11) : MINL h f s2 l p h2 := by
  unfold MINL at M ⊢
  rw [e1, e2]
  exact M
theorem c_compare {N : Nat} {C : aH → Prop} {h h1 : aH} {f : Nat} {s2 l : Int} {p q : Nat → Nat → Nat → Nat → Prop} {b1 i b2 j : Nat} (M : MINL h f s2 l p h1) (hI : INT h s2 b1 i b2 j) (hq : ∀ b1' i' b2' j', INT h s2 b1' i' b2' j' → q b1' i' b2' j' → p b1' i' b2' j' ∨ (b1' = b1 ∧ i' = i ∧ b2' = b2 ∧ j' = j))
    (hC : ∀ h', Fr [102] [] h1 h' → (∀ k, k ≠ 11 → k ≠ 12 → h' 102 k = h1 102 k) → MINL h f s2 l q h' → C h') : WV N 128 0 [(0, .inr (.inr 102)), (1, .inr (.inl (COSTT h f s2 l b1 i b2 j))), (3, .inl (KEYT b1 i b2 j : Int))] h1 C := by
  have put : ((∃ c k : Int, h1 102 11 = c ∧ h1 102 12 = k ∧ ∀ b1' i' b2' j', INT h s2 b1' i' b2' j' → p b1' i' b2' j' → COSTT h f s2 l b1 i b2 j < COSTT h f s2 l b1' i' b2' j' ∨ (COSTT h f s2 l b1 i b2 j = COSTT h f s2 l b1' i' b2' j' ∧ KEYT b1 i b2 j ≤ KEYT b1' i' b2' j'))) → C (am_up (am_up h1 102 11 (COSTT h f s2 l b1 i b2 j)) 102 12 (KEYT b1 i b2 j : Int)) := by
    rintro ⟨c, k, _, _, hall⟩
    refine hC _ ((Fr.rfl.up (by decide) (by decide)).up (by decide) (by decide)) (fun k k1 k2 => by rw [up_ne k2, up_ne k1]) (Or.inr ⟨b1, i, b2, j, hI, by rw [up_same], by rw [up_ne (by decide), up_same], fun b1' i' b2' j' z y => ?_⟩)
    rcases hq b1' i' b2' j' z y with w | ⟨w1, w2, w3, w4⟩
    · exact hall b1' i' b2' j' z w
    · rw [w1, w2, w3, w4]; exact Or.inr ⟨rfl, Nat.le_refl _⟩
  rcases M with ⟨m1, m2⟩ | ⟨a1, a2, a3, a4, m1, m2, m3, m4⟩
  · refine w_128_0 ⟨fun _ => put ⟨_, _, rfl, rfl, fun b1' i' b2' j' z y => absurd y (m2 b1' i' b2' j' z)⟩, fun z => absurd m1 z⟩
  · have keep : (COSTT h f s2 l a1 a2 a3 a4 < COSTT h f s2 l b1 i b2 j ∨ (COSTT h f s2 l a1 a2 a3 a4 = COSTT h f s2 l b1 i b2 j ∧ KEYT a1 a2 a3 a4 ≤ KEYT b1 i b2 j)) → C h1 := by
      intro w
      refine hC h1 Fr.rfl (fun k _ _ => rfl) (Or.inr ⟨a1, a2, a3, a4, m1, m2, m3, fun b1' i' b2' j' z y => ?_⟩)
      rcases hq b1' i' b2' j' z y with v | ⟨w1, w2, w3, w4⟩
      · exact m4 b1' i' b2' j' z v
      · rw [w1, w2, w3, w4]; exact w
    refine w_128_0 ?_
    rw [m2, m3]
    simp only [sgn_lt, sgn_eq]
    refine ⟨fun z => by omega, fun _ => ⟨fun lt => put ⟨_, _, rfl, rfl, fun b1' i' b2' j' z y => ?_⟩, fun ge => ⟨fun ne => keep (Or.inl (by omega)), fun e => ⟨fun le => keep (Or.inr ⟨by omega, by omega⟩), fun gt => put ⟨_, _, rfl, rfl, fun b1' i' b2' j' z y => ?_⟩⟩⟩⟩⟩
    · rcases m4 b1' i' b2' j' z y with v | ⟨v, _⟩
      · exact Or.inl (by omega)
      · exact Or.inl (by omega)
    · rcases m4 b1' i' b2' j' z y with v | ⟨v1, v2⟩
      · exact Or.inl (by omega)
      · exact Or.inr ⟨by omega, by omega⟩
/-- while one seeks -/
def CST (h : aH) (f : Nat) (s2 l E : Int) (h1 : aH) : Prop := Fr SNB [] h h1 ∧ scr h1 ∧ (h1 102 13 = (f : Int) ∧ h1 102 14 = s2 ∧ h1 102 15 = l ∧ h1 102 16 = E) ∧ HT103 h f l (fun _ _ _ => True) h1 ∧ (s2 ≠ -1 → HT104 h s2.toNat l (fun _ _ _ => True) h1) ∧ HPT h (fun _ _ => True) h1 ∧ BBD h1
theorem CST.mv {h : aH} {f : Nat} {s2 l E : Int} {h1 h2 : aH} (S : CST h f s2 l E h1) (fr : Fr [34, 92, 93, 94, 95, 96, 97, 102, 106, 107, 108, 109] [] h1 h2) (d : okDz h2) (e : ∀ j, j ≠ 10 → j ≠ 11 → j ≠ 12 → h2 102 j = h1 102 j) (B : BBD h2) : CST h f s2 l E h2 := by
  obtain ⟨s1, s2', ⟨q1, q2, q3, q4⟩, s4, s5, s6, s7⟩ := S
  refine ⟨s1.trans (fr.mono (by decide) (by decide)), ⟨d, by rw [fr.at 28 (by decide) (by decide)]; exact s2'.2⟩, ⟨by rw [e 13 (by decide) (by decide) (by decide)]; exact q1, by rw [e 14 (by decide) (by decide) (by decide)]; exact q2, by rw [e 15 (by decide) (by decide) (by decide)]; exact q3, by rw [e 16 (by decide) (by decide) (by decide)]; exact q4⟩, ?_, fun z => ?_, ?_, B⟩
  · unfold HT103 at s4 ⊢; rw [fr.at 103 (by decide) (by decide)]; exact s4
  · have := s5 z; unfold HT104 at this ⊢; rw [fr.at 104 (by decide) (by decide)]; exact this
  · unfold HPT at s6 ⊢; rw [fr.at 105 (by decide) (by decide)]; exact s6
theorem BBD.fr {h1 h2 : aH} (B : BBD h1) (e1 : h2 107 = h1 107) (e2 : h2 108 = h1 108) : BBD h2 := by
  unfold BBD at B ⊢
  rw [e1, e2]
  exact B
/-- so many are free -/
def ROOM (h : aH) (s2 : Int) : Prop := cTW h s2 ≤ 8
theorem HT_x {h : aH} {c : Nat} {l : Int} {i b s : Nat} : 0 ≤ HF h c l i b s ∧ HF h c l i b s ≤ 10 := HF_rg _ _ _ _ _ _
theorem c_weigh {N : Nat} {C : aH → Prop} {h h1 : aH} {f : Nat} {s2 l E : Int} {i j : Nat} (P : PI h) (O : okHrs h) (rm : ROOM h s2) (hf : (f : Int) < h 16 15) (hs2 : s2 = -1 ∨ (0 ≤ s2 ∧ s2 < h 16 15)) (l60 : 0 ≤ l ∧ l ≤ 60) (S : CST h f s2 l E h1) (hi : i < NHR h) (hj : s2 ≠ -1 → j < NHR h)
    (hC : ∀ h', CST h f s2 l E h' → h' 102 11 = h1 102 11 → h' 102 12 = h1 102 12 → WGT h (nSN h) (cTW h s2) (MI1 h f l i) (MI1 h s2.toNat l j) (s2 ≠ -1) (NSL h) h' → C h') : WV N 126 0 [(0, .inr (.inr 102)), (1, .inl (i : Int)), (2, .inl (j : Int))] h1 C := by
  have hz := P.1.1
  unfold okSz at hz
  obtain ⟨n0, n8, -⟩ := P.2.2.1
  have hn : ((nSN h : Nat) : Int) = h 58 10 := by unfold nSN; omega
  have kp := S.1.kp (by decide)
  have P1 := kp.pi P
  have b1 := SAT_rg h f (LDM h l i)
  have b2 := SAT_rg h s2.toNat (LDM h l j)
  have li := LDM_rg P l60.1 hi
  have m1e : MI1 h f l i = max 0 (min 399 (LDM h l i + h 20 f)) := rfl
  have m2e : MI1 h s2.toNat l j = max 0 (min 399 (LDM h l j + h 20 s2.toNat)) := rfl
  refine w_126_0 (c_arrange P1.2.2.1 (fun h2 f2 A => ?_))
  have f12 : Fr [92, 93, 94] [] h1 h2 := f2
  have kp2 := kp.trans (f2.kp (by decide))
  have q2 := f2.at 102 (by decide) (by decide)
  obtain ⟨qf, qs, ql, qe⟩ := S.2.2.1
  have R0 : NRW h (nSN h) (nSN h) (MI1 h f l i) (MI1 h s2.toNat l j) h2 := by
    have ec : CNT h1 (-1) = nSN h := by rw [CNT_all, kp.at 58 (by decide)]; rfl
    rw [ec] at A
    refine ⟨A.1, fun k hk => ?_⟩
    obtain ⟨a1, a2⟩ := A.2 k hk
    rw [NUM_all, kp.at 60 (by decide)] at a1 a2
    have eo : ordI (h 60) (nSN h) k = ordI (KX h (nSN h) (MI1 h f l i) (MI1 h s2.toNat l j)) (nSN h) k := ordI_congr (fun t ht => by unfold KX; rw [if_pos ht]) k hk
    have lt := ordI_lt (KX h (nSN h) (MI1 h f l i) (MI1 h s2.toNat l j)) (nSN h) k hk
    rw [eo] at a1 a2
    refine ⟨?_, ?_⟩
    · rw [a2]; unfold MX KX; rw [if_pos (by unfold KX at lt; exact lt)]
    · rw [a1]; unfold NMX; rw [if_pos lt]
  have dz2 : okDz h2 := f2.dz (by decide) (by decide) (by decide) S.2.1.1
  have qf2 : h2 102 13 = (f : Int) := by rw [q2]; exact qf
  have qs2 : h2 102 14 = s2 := by rw [q2]; exact qs
  have ql2 : h2 102 15 = l := by rw [q2]; exact ql
  have T2 : HPT h (fun _ _ => True) h2 := by have := S.2.2.2.2.2.1; unfold HPT at this ⊢; rw [f2.at 105 (by decide) (by decide)]; exact this
  have B2 : BBD h2 := S.2.2.2.2.2.2.fr (f2.at 107 (by decide) (by decide)) (f2.at 108 (by decide) (by decide))
  -- what comes at the end
  have fin : ∀ (h3 h4 : aH), Fr [92, 93, 94] [] h2 h3 → WFR (am_up h3 102 10 0) h4 → BBD h4 → WGT h (nSN h) (cTW h s2) (MI1 h f l i) (MI1 h s2.toNat l j) (s2 ≠ -1) (NSL h) h4 → C h4 := by
    intro h3 h4 f3 W B G
    have fr : Fr [34, 92, 93, 94, 95, 96, 97, 102, 106, 107, 108, 109] [] h1 h4 := ((f2.trans f3).mono (by decide) (by decide)).trans ((Fr.rfl.up (by decide) (by decide)).trans (W.1.mono (by decide) (by decide)))
    have e102 : ∀ k, k ≠ 10 → h4 102 k = h1 102 k := fun k hk => by rw [W.2.2 k hk, up_ne hk, f3.at 102 (by decide) (by decide), q2]
    exact hC h4 (S.mv fr W.2.1 (fun k k1 _ _ => e102 k k1) B) (e102 11 (by decide)) (e102 12 (by decide)) G
  have dzu : ∀ h3 : aH, Fr [92, 93, 94] [] h2 h3 → okDz (am_up h3 102 10 0) := fun h3 f3 => by
    have f4 : Fr [92, 93, 94, 102] [] h2 (am_up h3 102 10 0) := (f3.mono (by decide) (by decide)).up (by decide) (by decide)
    exact f4.dz (by decide) (by decide) (by decide) dz2
  rw [qs2]
  refine ⟨fun two => ck_rg (by omega) ⟨fun le => ?_, fun gt => ?_⟩, fun one => ck_rg (by omega) ⟨fun le => ?_, fun gt => ?_⟩⟩
  · have hjj := hj two
    have lj := LDM_rg P l60.1 hjj
    have ec : cTW h s2 = nSN h + 2 := by unfold cTW; rw [if_neg two]
    unfold ROOM at rm
    rw [ec] at rm fin
    have hs2 := hs2.resolve_left two
    obtain ⟨t, rfl⟩ := Int.eq_ofNat_of_zero_le hs2.1
    simp only [Int.toNat_natCast] at *
    refine c_setTo P O (by rw [f2.at 16 (by decide) (by decide)]; exact S.1.at 16 (by decide) (by decide)) (by rw [f2.at 26 (by decide) (by decide)]; exact S.1.at 26 (by decide) (by decide)) ql2 l60 hi ?_
    rw [qf2]
    refine c_soundsAt (kp2.pi P).1 ⟨by omega, by rw [kp2.at 16 (by decide)]; exact hf⟩ li ?_
    rw [Int.toNat_natCast, kp2.at 20 (by decide), ← m1e]
    refine c_put (m := nSN h) (m1 := MI1 h f l i) (m2 := MI1 h t l j) (by omega) R0 (KX_n _ _ _ _).symm (by unfold NMX; rw [if_neg (Nat.lt_irrefl _), if_pos rfl]; rfl) (fun h3 f3 R3 => ?_)
    rw [f3.at 102 (by decide) (by decide), qs2]
    refine ⟨fun z => absurd z two, fun _ => ?_⟩
    have kp3 := kp2.trans (f3.kp (by decide))
    refine c_setTo P O (by rw [f3.at 16 (by decide) (by decide), f2.at 16 (by decide) (by decide)]; exact S.1.at 16 (by decide) (by decide)) (by rw [f3.at 26 (by decide) (by decide), f2.at 26 (by decide) (by decide)]; exact S.1.at 26 (by decide) (by decide)) (by rw [f3.at 102 (by decide) (by decide)]; exact ql2) l60 hjj ?_
    refine c_soundsAt (kp3.pi P).1 ⟨by omega, by rw [kp3.at 16 (by decide)]; exact hs2.2⟩ lj ?_
    rw [Int.toNat_natCast, kp3.at 20 (by decide), ← m2e]
    refine c_put (m := nSN h + 1) (m1 := MI1 h f l i) (m2 := MI1 h t l j) (by omega) R3 (KX_n1 _ _ _ _).symm (by unfold NMX; rw [if_neg (by omega), if_neg (by omega)]; rfl) (fun h4 f4 R4 => ?_)
    have ep : (ipos (fun j' => KX h (nSN h) (MI1 h f l i) (MI1 h t l j) (ordI (KX h (nSN h) (MI1 h f l i) (MI1 h t l j)) (nSN h) j')) (MI1 h f l i) (nSN h)) = PX1 h (nSN h) (MI1 h f l i) (MI1 h t l j) := rfl
    have ep2 : (ipos (fun j' => KX h (nSN h) (MI1 h f l i) (MI1 h t l j) (ordI (KX h (nSN h) (MI1 h f l i) (MI1 h t l j)) (nSN h + 1) j')) (MI1 h t l j) (nSN h + 1)) = PX2 h (nSN h) (MI1 h f l i) (MI1 h t l j) := rfl
    rw [ep, ep2]
    obtain ⟨p1, p2⟩ := PX_le h (nSN h) (MI1 h f l i) (MI1 h t l j)
    have f24 := f3.trans f4
    have go : WV N 126 60 [(0, .inr (.inr 102)), (3, .inl (PX1b h (nSN h) (MI1 h f l i) (MI1 h t l j) : Int)), (4, .inl (PX2 h (nSN h) (MI1 h f l i) (MI1 h t l j) : Int))] h4 C := by
      refine w_126_60 (c_wg66b P ((kp2.trans (f24.kp (by decide))).trans ((Fr.rfl.up (C := [102]) (D := []) (by decide) (by decide)).kp (by decide))) hn (by omega) b1 b2 ?_ ?_ (fun h5 W B G => fin h4 h5 f24 W B ⟨G.1, fun s' hs' => ⟨(G.2 s' hs').1, fun _ => (G.2 s' hs').2 trivial⟩⟩) (NSL h) 0 _ rfl (Nat.zero_le _) ⟨Fr.rfl, dzu h4 f24, fun _ _ => rfl⟩ ?_ ⟨up_same _ _ _ _, fun s' hs' => absurd hs' (Nat.not_lt_zero _)⟩)
      · exact R4.fr (Fr.rfl.up (C := [102]) (D := []) (by decide) (by decide)) (by decide) (by decide) (by decide)
      · unfold HPT at T2 ⊢; rw [up_row (by decide), f24.at 105 (by decide) (by decide)]; exact T2
      · exact B2.fr (by rw [up_row (by decide), f24.at 107 (by decide) (by decide)]) (by rw [up_row (by decide), f24.at 108 (by decide) (by decide)])
    unfold PX1b at go
    refine ⟨fun lt => ck_rg (by omega) ?_, fun ge => ck_rg (by omega) ?_⟩
    · rw [if_neg (by omega)] at go
      rw [Int.add_zero]
      exact go
    · rw [if_pos (by omega)] at go
      exact go
  · have ec : cTW h s2 = nSN h + 2 := by unfold cTW; rw [if_neg two]
    unfold ROOM at rm
    rw [ec] at rm
    exact absurd (show h2 92 11 ≤ 8 - 2 by rw [R0.1]; omega) gt
  · have one := Decidable.not_not.mp one
    subst one
    have ec : cTW h (-1) = nSN h + 1 := by unfold cTW; rw [if_pos rfl]
    unfold ROOM at rm
    rw [ec] at rm fin
    refine c_setTo P O (by rw [f2.at 16 (by decide) (by decide)]; exact S.1.at 16 (by decide) (by decide)) (by rw [f2.at 26 (by decide) (by decide)]; exact S.1.at 26 (by decide) (by decide)) ql2 l60 hi ?_
    rw [qf2]
    refine c_soundsAt (kp2.pi P).1 ⟨by omega, by rw [kp2.at 16 (by decide)]; exact hf⟩ li ?_
    rw [Int.toNat_natCast, kp2.at 20 (by decide), ← m1e]
    refine c_put (m := nSN h) (m1 := MI1 h f l i) (m2 := MI1 h (-1 : Int).toNat l j) (by omega) R0 (KX_n _ _ _ _).symm (by unfold NMX; rw [if_neg (Nat.lt_irrefl _), if_pos rfl]; rfl) (fun h3 f3 R3 => ?_)
    rw [f3.at 102 (by decide) (by decide), qs2]
    refine ⟨fun _ => ?_, fun z => absurd rfl z⟩
    have ep : (ipos (fun j' => KX h (nSN h) (MI1 h f l i) (MI1 h (-1 : Int).toNat l j) (ordI (KX h (nSN h) (MI1 h f l i) (MI1 h (-1 : Int).toNat l j)) (nSN h) j')) (MI1 h f l i) (nSN h)) = PX1 h (nSN h) (MI1 h f l i) (MI1 h (-1 : Int).toNat l j) := rfl
    rw [ep]
    refine w_126_60 (c_wg66a P ((kp2.trans (f3.kp (by decide))).trans ((Fr.rfl.up (C := [102]) (D := []) (by decide) (by decide)).kp (by decide))) hn (by omega) b1 b2 ?_ ?_ (fun h5 W B G => fin h3 h5 f3 W B ⟨G.1, fun s' hs' => ⟨(G.2 s' hs').1, fun z => absurd rfl z⟩⟩) (NSL h) 0 _ rfl (Nat.zero_le _) ⟨Fr.rfl, dzu h3 f3, fun _ _ => rfl⟩ ?_ ⟨up_same _ _ _ _, fun s' hs' => absurd hs' (Nat.not_lt_zero _)⟩)
    · exact R3.fr (Fr.rfl.up (C := [102]) (D := []) (by decide) (by decide)) (by decide) (by decide) (by decide)
    · unfold HPT at T2 ⊢; rw [up_row (by decide), f3.at 105 (by decide) (by decide)]; exact T2
    · exact B2.fr (by rw [up_row (by decide), f3.at 107 (by decide) (by decide)]) (by rw [up_row (by decide), f3.at 108 (by decide) (by decide)])
  · have one := Decidable.not_not.mp one
    subst one
    have ec : cTW h (-1) = nSN h + 1 := by unfold cTW; rw [if_pos rfl]
    unfold ROOM at rm
    rw [ec] at rm
    exact absurd (show h2 92 11 ≤ 8 - 1 by rw [R0.1]; omega) gt
