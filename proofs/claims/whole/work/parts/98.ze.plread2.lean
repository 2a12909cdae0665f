/-! read, place: both sides in one -/
theorem pl_place {N : Nat} {D : Int → Int → aH → Prop} {h : aH} (V : INV h) (hD : ∀ v, D v v h) :
    WI N 74 0 [(0, .inr (.inr 9))] h (fun v1 h1 => WI N 247 0 [(0, .inr (.inr 130))] h1 (fun v2 h2 => D v1 v2 h2)) := by
  refine w_74_0 (w_247_0 ?_)
  rw [V.2.2.2.1]
  exact hD _
theorem FS_1le {K : Nat → Nat} {n : Nat} {e : Nat × Nat} (h : e.1 = n) (l : 1 ≤ n) : 1 ≤ e.1 := by omega
theorem pl_read {N : Nat} {D : Int → Int → aH → Prop} {h : aH} (V : INV h) (he : okEd h) (hD : ∀ v h', INV h' → h' 1 = h 1 → (h' 9 11 = h 9 11 ∨ h' 9 11 = h 9 11 + 1) → D v v h') :
    WI N 24 0 [(0, .inr (.inr 9))] h (fun v1 h1 => WI N 218 0 [(0, .inr (.inr 130))] h1 (fun v2 h2 => D v1 v2 h2)) := by
  have V0 := V
  obtain ⟨⟨P, -, -, -, -, -, -, -, Ni, W, Ky⟩, ⟨R, -⟩, T, -, -, -⟩ := V0
  obtain ⟨t1, ⟨t2, t3⟩, t4⟩ := T
  obtain ⟨L, hL⟩ := Int.eq_ofNat_of_zero_le t2
  have Y : okByt h L := ⟨hL, by omega, fun i hi => (t4 i (by omega)).2⟩
  obtain ⟨sd, sd2, hl⟩ : ∃ sd : Nat, sd < 2 ∧ h 130 18 = 1 - (sd : Int) := by
    rcases R.1 with z | z
    · exact ⟨1, by decide, by rw [z]; decide⟩
    · exact ⟨0, by decide, by rw [z]; decide⟩
  refine w_24_0 (c_readText W Y (fun v h1 T => ?_))
  obtain ⟨gI, res, g1, I, P1, f1, tl, e0, e1⟩ := T
  have f1' : Fr CRR [] h h1 := f1
  -- the reference reads
  have ref : ∀ {C : Int → aH → Prop} (h5 : aH) (R5 : List Nat), Fr R5 [] h h5 → [1, 131, 132, 137].all (fun r => !(R5.contains r) && !(Nat.beq r 130)) = true → (∀ n q, res = some (n, q) → ∀ h', FrA (ALR sd) h5 h' → h' 130 2 = 0 → RFL (PLT h L) n q h' → WI N 218 101 [(0, .inr (.inr 130))] h' C) → (res = none → ∀ h' t', FrA (ALR sd) h5 h' → h' 130 2 = 0 → RDS (KDT h L) (PLT h L) (VLT h L) sd t' g1 h' → WI N 218 101 [(0, .inr (.inr 130))] h' C) → WI N 218 0 [(0, .inr (.inr 130))] h5 C := by
    intro C h5 R5 f5 hr c0 c1
    have k := f5.rows hr
    refine m_readTop (h0 := h) (Ky.rows (k 137 (by decide))) (by rw [f5.2 2 (by simp)]; rw [t1]; exact hL) (by omega) (fun i hi => ?_) (by rw [f5.2 18 (by simp)]; exact hl) sd2 I P1 c0 c1
    rw [k 131 (by decide)]
    exact t4 i (by omega)
  -- what the reference's reading would leave
  have virt : (∀ n q, res = some (n, q) → 1 ≤ n) ∧ (res = none → ∃ t' h', RDS (KDT h L) (PLT h L) (VLT h L) sd t' g1 h') := by
    refine ⟨fun n q z => WI_ex (N := N) (k := 218) (r := 130) (h := h1) (ref h1 CRR f1' (by decide) (fun n' q' e h' F tp G => m_endF G ?_) (fun e => by rw [z] at e; cases e)), fun z => WI_ex (N := N) (k := 218) (r := 130) (h := h1) (ref h1 CRR f1' (by decide) (fun n' q' e => by rw [z] at e; cases e) (fun _ h' t' F tp S => ?_))⟩
    · rw [z] at e
      injection e with e
      injection e with x1 x2
      rw [x1]; exact G.2.1
    · have fact : ∃ t' h', RDS (KDT h L) (PLT h L) (VLT h L) sd t' g1 h' := ⟨t', h', S⟩
      obtain ⟨nb, nc, ns, M, ⟨R0, hsd, -, ho⟩, -, -, ⟨n1, n2, n3⟩, -, -, -, -, E, -⟩ := S
      by_cases w : h' 130 15 = 0
      · exact m_endC R0.kd.1 w hsd sd2 n2 n3 (fun _ _ _ _ _ _ _ _ _ _ => fact)
      · refine m_endW R0.kd.1 ?_ fact
        have a := E.1
        have b : g1 35 13 = h' 130 15 := E.2.1
        have a : 0 ≤ g1 35 13 := a
        omega
  refine ⟨fun ne => ?_, fun eq => ?_⟩
  · -- nothing changes
    refine ref h1 CRR f1' (by decide) (fun n q e h' F tp G => m_endF G ?_) (fun e h' t' F tp S => ?_)
    · obtain ⟨v1, v2⟩ := e0 n q e
      obtain ⟨a1, a2, a3⟩ := V.fail hl sd2 f1' F tp tl v2
      rw [v1]
      exact hD _ _ a1 a2 (Or.inl a3)
    · obtain ⟨x1, x2, x3⟩ := e1 e
      have sn : g1 35 13 ≠ 0 := fun z => ne (x2 z).1
      obtain ⟨v1, v2⟩ := x3 sn
      obtain ⟨nb, nc, ns, M, ⟨R0, hsd, -, ho⟩, -, -, ⟨n1, n2, n3⟩, -, -, -, -, E, -⟩ := S
      have a : 0 ≤ g1 35 13 := E.1
      have b : g1 35 13 = h' 130 15 := E.2.1
      have c : g1 35 14 = h' 130 16 := E.2.2 sn
      refine m_endW R0.kd.1 (by omega) ?_
      obtain ⟨a1, a2, a3⟩ := V.fail hl sd2 f1' F tp tl (p := h' 130 16) (by rw [v2]; exact c)
      rw [v1, b]
      exact hD _ _ a1 a2 (Or.inl a3)
  · have eq : v = 0 := Classical.byContradiction eq
    -- no fault, nothing wrong
    have rn : res = none := by
      cases hr : res with
      | none => rfl
      | some e =>
        obtain ⟨n, q⟩ := e
        have := virt.1 n q hr
        have := (e0 n q hr).1
        omega
    obtain ⟨x1, x2, x3⟩ := e1 rn
    have sn : g1 35 13 = 0 := by
      by_cases z : g1 35 13 = 0
      · exact z
      · have := (x3 z).1
        omega
    obtain ⟨t', hv, S⟩ := virt.2 rn
    obtain ⟨nb, nc, ns, M, -, ⟨b1, b2, b3⟩, ⟨c1, c2, c3⟩, ⟨n1, n2, n3⟩, -, -, L1, L2, E, Dt⟩ := S
    obtain ⟨d1, d2, d3, d4, d5⟩ := Dt sn
    have eg : ∀ r, r ≠ 10 → r ≠ 35 → h1 r = g1 r := x1
    refine c_takeFrom (nb := nb) (nc := nc) (ns := ns) (by rw [eg 36 (by decide) (by decide)]; exact b1) b3 (by rw [eg 36 (by decide) (by decide)]; exact c1) c3 (by rw [eg 36 (by decide) (by decide)]; exact n1) n3 (by rw [eg 49 (by decide) (by decide)]; exact ⟨L1.2.1, L1.2.2.1⟩) (by rw [eg 52 (by decide) (by decide)]; exact ⟨L2.2.1, L2.2.2.1⟩) (fun h2 f2 hs oh oe => ?_)
    have hs0 := hs
    unfold HSD at hs0
    rw [eg 36 (by decide) (by decide), eg 41 (by decide) (by decide), b1, c1, n1] at hs0
    obtain ⟨⟨y1, y2, y3⟩, -, -, y6, -⟩ := hs0
    have fb : ∀ s : Nat, (s : Int) < h2 16 16 → h2 21 s = g1 41 s ∧ s < ns := fun s hs => by
      rw [y3] at hs
      exact ⟨(y6 s hs).1, by omega⟩
    refine c_begin (by unfold okSz; omega) (fun s hs => ?_) (fun s s' hs hs' e => ?_) (fun h3 f3 k3 z1 z2 z3 bf ol => ?_)
    · obtain ⟨e, hs⟩ := fb s hs
      rw [e, y1]
      exact (d3 s hs).1.2
    · obtain ⟨e1', hs1⟩ := fb s hs
      obtain ⟨e2', hs2⟩ := fb s' hs'
      obtain ⟨m, -, -, -, inj⟩ := d5
      exact inj s s' hs1 hs2 (by rw [← e1', ← e2']; exact e)
    refine c_forget (fun h4 f4 dz => ?_)
    -- the slots are free
    refine w_24_23 ⟨fun z => absurd z (by decide), fun _ => ck_ix (by decide) ⟨fun _ => ck_t0 (ck_rg (by decide) (w_24_23 ⟨fun z => absurd z (by decide), fun _ => ck_ix (by decide) ⟨fun z => absurd z (by decide), fun _ => ⟨fun _ => ck_t0 (ck_rg (by decide) (w_24_23 ⟨fun _ => ?_, fun z => absurd (by decide) z⟩)), fun z => absurd (by decide) z⟩⟩⟩)), fun z => absurd rfl z⟩⟩
    have f5a : Fr [70, 81] [] h4 (am_up (am_up h4 70 13 0) 81 13 0) := (Fr.rfl.up (by decide) (by decide)).up (by decide) (by decide)
    have e9 : am_up (am_up h4 70 13 0) 81 13 0 9 11 = h 9 11 := by
      rw [f5a.at 9 (by decide) (by decide), f4.at 9 (by decide) (by decide), f3.at 9 (by decide) (by decide), f2.at 9 (by decide) (by decide), f1'.at 9 (by decide) (by decide)]
    obtain ⟨he0, he1⟩ := he
    rw [e9]
    refine ck_rg (by omega) ?_
    obtain ⟨h5, hh5⟩ : ∃ h5, h5 = am_up (am_up (am_up h4 70 13 0) 81 13 0) 9 11 (h 9 11 + 1) := ⟨_, rfl⟩
    rw [← hh5]
    have f5 : Fr [9, 70, 81] [] h4 h5 := by rw [hh5]; exact (f5a.mono (by decide) (by decide)).up (by decide) (by decide)
    have q0 : h5 70 13 = 0 ∧ h5 81 13 = 0 ∧ h5 9 11 = h4 9 11 + 1 := by
      rw [hh5]
      refine ⟨?_, ?_, ?_⟩
      · rw [up_row (by decide), up_row (by decide), up_same]
      · rw [up_row (by decide), up_same]
      · rw [up_same, f4.at 9 (by decide) (by decide), f3.at 9 (by decide) (by decide), f2.at 9 (by decide) (by decide), f1'.at 9 (by decide) (by decide)]
    have fc : Fr (CRR ++ [16, 17, 18, 19, 20, 21, 22, 23, 24, 25, 26, 27, 29, 30, 32, 33, 58, 63, 64, 96, 9, 70, 81]) [] h h5 := (f1'.mono (by decide) (by decide)).trans ((f2.mono (by decide) (by decide)).trans ((f3.mono (by decide) (by decide)).trans ((f4.mono (by decide) (by decide)).trans (f5.mono (by decide) (by decide)))))
    refine ref h5 _ fc (by decide) (fun n q e => by rw [rn] at e; cases e) (fun _ h6 t6 F tp S => ?_)
    have S0 := S
    obtain ⟨nb', nc', ns', M', ⟨R0, hsd, -, ho⟩, -, -, ⟨n1', n2', n3'⟩, -, -, -, -, E', -⟩ := S0
    have w0 : h6 130 15 = 0 := by
      have b : g1 35 13 = h6 130 15 := E'.2.1
      omega
    refine m_endC R0.kd.1 w0 hsd sd2 n2' n3' (fun H f7 p7 l7 q1 q2 q3 q4 q5 q6 => ?_)
    obtain ⟨a1, a2, a3⟩ := V.house sd2 f1' eg tl (x2 sn).2 sn f2 hs oh oe f3 z1 z2 z3 bf ol f4 dz f5 q0.1 q0.2.1 q0.2.2 F tp S f7 p7 l7 q1 q2 (fun s hs => q3 s (by rw [n2'] at hs; omega)) q4 q5 q6
    rw [eq]
    exact hD 0 H a1 a2 (Or.inr a3)
