/-! read, place: both sides -/
def CRR : List Nat := [10, 13, 14, 15, 35, 36, 37, 38, 39, 40, 41, 42, 43, 44, 45, 49, 50, 52, 53, 55, 56, 57]
def MRR : List Nat := [132, 133, 134, 135, 136, 138, 139, 140, 141, 142, 143, 144, 145, 146, 147, 148, 149, 150, 151, 152, 153, 154, 155, 156, 157, 158]
theorem INV.fail {sd : Nat} {h h1 h' : aH} {p : Int} (V : INV h) (hl : h 130 18 = 1 - (sd : Int)) (sd2 : sd < 2) (f1 : Fr CRR [] h h1) (F : FrA (ALR sd) h1 h') (tp : h' 130 2 = 0) (tl : h1 10 5 = 0) (pl : h1 35 12 = p) : INV (am_up h' 130 17 p) ∧ am_up h' 130 17 p 1 = h 1 ∧ am_up h' 130 17 p 9 11 = h 9 11 := by
  have f2 := F.fr2
  have f3 : Fr [] [17] h' (am_up h' 130 17 p) := Fr.rfl.upM (by decide)
  have f : Fr (CRR ++ MRR) [2, 4, 10, 11, 12, 13, 14, 15, 16, 17, 19, 20, 39, 43] h (am_up h' 130 17 p) := (f1.mono (by decide) (by decide)).trans ((f2.mono (by decide) (by decide)).trans (f3.mono (by decide) (by decide)))
  obtain ⟨Re, ⟨R, G⟩, T, -, s, b⟩ := V
  have kp : Kp h (am_up h' 130 17 p) := f.kp (by decide)
  have kp1 : Kp h h1 := f1.kp (by decide)
  have R1 : RelH h1 := R.keep kp1 (f1.km (by decide) (by decide))
  have G1 : okReg h1 := G.rows (f1.rows (by decide)) (f1.2 18 (by decide))
  obtain ⟨R2, G2⟩ := R1.far (kp1.pi Re.1).1 G1 (by rw [f1.2 18 (by decide)]; exact hl) sd2 F
  refine ⟨⟨Re.mv f (by decide) (by decide) (by decide), ⟨R2.keep (f3.kp (by decide)) (f3.km (by decide) (by decide)), G2.rows (f3.rows (by decide)) (f3.2 18 (by decide))⟩, ?_, ?_, s.rows kp (f.at 28 (by decide) (by decide)) (f.at 96 (by decide) (by decide)) (f.at 97 (by decide) (by decide)), b.kp kp (f.at 102 (by decide) (by decide)) (f.at 107 (by decide) (by decide)) (f.at 108 (by decide) (by decide)) (by rw [f.at 9 (by decide) (by decide)])⟩, f.at 1 (by decide) (by decide), by rw [f.at 9 (by decide) (by decide)]⟩
  · have e10 : am_up h' 130 17 p 10 5 = 0 := by rw [f3.at 10 (by decide) (by decide), f2.at 10 (by decide) (by decide)]; exact tl
    unfold RT
    rw [e10, f3.2 2 (by decide), tp]
    exact ⟨rfl, ⟨by decide, by decide⟩, fun i hi => by omega⟩
  · rw [up_same, f3.at 35 (by decide) (by decide), f2.at 35 (by decide) (by decide)]
    exact pl
theorem okLaw.cg {s s' : Nat → Int} {n : Int} (O : okLaw s n) (e : ∀ i : Nat, (i : Int) < n → s' i = s i) : okLaw s' n := ⟨O.1, O.2.1, fun i hi => by rw [e i hi]; exact O.2.2 i hi⟩
theorem RelL.cg {h : aH} {law : Nat} {s s' : Nat → Int} {n : Int} (O : RelL h law s n) (n0 : 0 ≤ n) (e : ∀ i : Nat, (i : Int) < n → s' i = s i) : RelL h law s' n := by
  obtain ⟨r0, r1, r2, r3, r4, r5⟩ := O
  refine ⟨r0, r1, r2, fun i hi => by rw [e i hi]; exact r3 i hi, fun i hi nz => ?_, ?_⟩
  · rw [e i hi] at nz
    rw [dpt_congr (g := s) (fun j hj => e j (by omega))]
    exact r4 i hi nz
  · rw [dpt_congr (g := s) (fun j hj => e j (by omega))]
    exact r5
theorem RelL.fr {C D : List Nat} {h h' : aH} {law : Nat} {s : Nat → Int} {n : Int} (O : RelL h law s n) (f : Fr C D h h') (hr : [154, 155, 156, 157].all (fun r => !(C.contains r) && !(Nat.beq r 130)) = true) : RelL h' law s n := by
  have k := f.rows hr
  unfold RelL at O ⊢
  rw [k 154 (by decide), k 155 (by decide), k 156 (by decide), k 157 (by decide)]
  exact O
theorem WOF_0 {h : aH} (w : h 58 11 = 0) (s : Int) : WOF h s = 0 := by
  unfold WOF
  rw [and_one, w]
  have : am_shr 0 s = 0 := by
    unfold am_shr
    simp
  rw [this]; rfl
/-- a new house -/
theorem INV.house {K PL : Nat → Nat} {VL : Nat → Int} {sd t' : Nat} {h h1 h2 h3 h4 h5 h6 H g1 : aH} (V : INV h) (sd2 : sd < 2) (f1 : Fr CRR [] h h1) (g : ∀ r, r ≠ 10 → r ≠ 35 → h1 r = g1 r) (tl : h1 10 5 = 0) (pl : h1 35 12 = -1) (sn : g1 35 13 = 0)
    (f2 : Fr [16, 17, 18, 19, 20, 21, 22, 23, 24, 25, 26, 27, 29, 30, 32, 33] [] h1 h2) (hs : HSD h1 h2) (oh : okHrs h2) (oe : okEight h2) (f3 : Fr [58, 63, 64] [] h2 h3) (z1 : h3 58 10 = 0) (z2 : h3 58 11 = 0) (z3 : h3 58 12 = 0) (bf : ∀ s : Nat, (s : Int) < h2 16 16 → h3 63 s = h2 21 s) (ol : okLie h3)
    (f4 : Fr [96] [] h3 h4) (dz : ∀ j, j < 4000 → h4 96 j = -1) (f5 : Fr [9, 70, 81] [] h4 h5) (s0 : h5 70 13 = 0) (s1 : h5 81 13 = 0) (ed : h5 9 11 = h4 9 11 + 1)
    (F : FrA (ALR sd) h5 h6) (tp : h6 130 2 = 0) (S : RDS K PL VL sd t' g1 h6) (f7 : Fr [161, 162, 189] [17, 18, 48, 76] h6 H) (p7 : H 130 17 = -1) (l7 : H 130 18 = (sd : Int)) (q1 : H 130 48 = 0) (q2 : H 130 76 = 0) (q3 : ∀ s : Nat, (s : Int) < h6 147 sd → H 161 s = h6 148 (12 * sd + s)) (q4 : ∀ j, j < 12 → H 162 j = 0) (q5 : H 189 0 = -1) (q6 : H 189 1 = -1) : INV H ∧ H 1 = h 1 ∧ H 9 11 = h 9 11 + 1 := by
  have f6 := F.fr2
  have fc : Fr (CRR ++ [16, 17, 18, 19, 20, 21, 22, 23, 24, 25, 26, 27, 29, 30, 32, 33, 58, 63, 64, 96, 9, 70, 81]) [] h h5 := (f1.mono (by decide) (by decide)).trans ((f2.mono (by decide) (by decide)).trans ((f3.mono (by decide) (by decide)).trans ((f4.mono (by decide) (by decide)).trans (f5.mono (by decide) (by decide)))))
  have fm : Fr (MRR ++ [161, 162, 189]) [2, 4, 10, 11, 12, 13, 14, 15, 16, 17, 18, 19, 20, 39, 43, 48, 76] h5 H := (f6.mono (by decide) (by decide)).trans (f7.mono (by decide) (by decide))
  have f : Fr (CRR ++ [16, 17, 18, 19, 20, 21, 22, 23, 24, 25, 26, 27, 29, 30, 32, 33, 58, 63, 64, 96, 9, 70, 81] ++ MRR ++ [161, 162, 189]) [2, 4, 10, 11, 12, 13, 14, 15, 16, 17, 18, 19, 20, 39, 43, 48, 76] h H := (fc.mono (by decide) (by decide)).trans (fm.mono (by decide) (by decide))
  have f3H : Fr ([96, 9, 70, 81] ++ MRR ++ [161, 162, 189]) [2, 4, 10, 11, 12, 13, 14, 15, 16, 17, 18, 19, 20, 39, 43, 48, 76] h3 H := (f4.mono (by decide) (by decide)).trans ((f5.mono (by decide) (by decide)).trans (fm.mono (by decide) (by decide)))
  have f2H : Fr ([58, 63, 64, 96, 9, 70, 81] ++ MRR ++ [161, 162, 189]) [2, 4, 10, 11, 12, 13, 14, 15, 16, 17, 18, 19, 20, 39, 43, 48, 76] h2 H := (f3.mono (by decide) (by decide)).trans (f3H.mono (by decide) (by decide))
  obtain ⟨nb, nc, ns, M, ⟨R0, hsd, -, ho⟩, ⟨b1, b2, b3⟩, ⟨c1, c2, c3⟩, ⟨n1, n2, n3⟩, -, ⟨cc, k1, k2, k3⟩, L1, L2, E, D⟩ := S
  obtain ⟨d1, d2, d3, d4, d5⟩ := D sn
  have t4 := R0.kd.2.2.1
  obtain ⟨⟨P, -, -, -, -, -, -, -, Ni, W, Ky⟩, -, -, -, sc, bb⟩ := V
  unfold HSD at hs
  rw [g 36 (by decide) (by decide), g 37 (by decide) (by decide), g 38 (by decide) (by decide), g 39 (by decide) (by decide), g 40 (by decide) (by decide), g 41 (by decide) (by decide), g 42 (by decide) (by decide), g 43 (by decide) (by decide), g 44 (by decide) (by decide), g 45 (by decide) (by decide), g 49 (by decide) (by decide), g 50 (by decide) (by decide), g 52 (by decide) (by decide), g 53 (by decide) (by decide), b1, c1, n1] at hs
  obtain ⟨⟨x1, x2, x3⟩, x4, x5, x6, ⟨x7, x8⟩, x9, x10⟩ := hs
  -- the house at the end
  have y1 : H 16 14 = (nb : Int) ∧ H 16 15 = (nc : Int) ∧ H 16 16 = (ns : Int) := by
    rw [f2H.at 16 (by decide) (by decide)]; exact ⟨x1, x2, x3⟩
  have hb : ∀ b, b < nb → H 17 b = g1 37 b ∧ H 18 b = g1 38 b := fun b hb => by
    rw [f2H.at 17 (by decide) (by decide), f2H.at 18 (by decide) (by decide)]; exact x4 b (by omega)
  have hc : ∀ b, b < nc → H 19 b = g1 39 b ∧ H 20 b = g1 40 b := fun b hb => by
    rw [f2H.at 19 (by decide) (by decide), f2H.at 20 (by decide) (by decide)]; exact x5 b (by omega)
  have hsl : ∀ b, b < ns → h2 21 b = g1 41 b ∧ H 22 b = g1 42 b ∧ H 23 b = g1 43 b ∧ H 24 b = g1 44 b ∧ H 25 b = g1 45 b := fun b hb => by
    rw [f2H.at 22 (by decide) (by decide), f2H.at 23 (by decide) (by decide), f2H.at 24 (by decide) (by decide), f2H.at 25 (by decide) (by decide)]; exact x6 b (by omega)
  have hl1 : H 29 2 = g1 49 2 ∧ ∀ i : Nat, (i : Int) < g1 49 2 → H 30 i = g1 50 i := by
    rw [f2H.at 29 (by decide) (by decide), f2H.at 30 (by decide) (by decide)]; exact ⟨x7, x8⟩
  have hl2 : H 32 2 = g1 52 2 ∧ ∀ i : Nat, (i : Int) < g1 52 2 → H 33 i = g1 53 i := by
    rw [f2H.at 32 (by decide) (by decide), f2H.at 33 (by decide) (by decide)]; exact ⟨x9, x10⟩
  have st : H 58 10 = 0 ∧ H 58 11 = 0 ∧ H 58 12 = 0 := by
    rw [f3H.at 58 (by decide) (by decide)]; exact ⟨z1, z2, z3⟩
  have bedH : ∀ s, s < ns → H 63 s = g1 41 s := fun s hs => by
    rw [f3H.at 63 (by decide) (by decide), bf s (by rw [x3]; omega)]; exact (hsl s hs).1
  have PIH : PI H := by
    refine ⟨⟨?_, fun b hb2 => ?_, fun b hb2 => ?_, fun b hb2 => ?_, ?_, ?_⟩, ol.mv f3H (by decide) (by decide) (by decide), ?_, ?_, ?_⟩
    · unfold okSz; omega
    · rw [(hb b (by omega)).1, (hb b (by omega)).2]
      exact (d1 b (by omega)).2.2
    · rw [(hc b (by omega)).1, (hc b (by omega)).2]
      exact (d2 b (by omega)).2.2
    · obtain ⟨-, e2, e3, e4, e5⟩ := hsl b (by omega)
      rw [e2, e3, e4, e5]
      exact (d3 b (by omega)).2.2
    · rw [hl1.1]; exact L1.2.cg hl1.2
    · rw [hl2.1]; exact L2.2.cg hl2.2
    · exact ⟨by omega, by omega, fun k hk => by omega⟩
    · unfold okWool
      rw [st.2.1]
      exact ⟨by decide, Int.pow_pos (by decide)⟩
    · have := P.2.2.2.2
      unfold okK at this ⊢
      rw [f.at 2 (by decide) (by decide)]; exact this
  have eLv : Lv H = sd := by unfold Lv; rw [l7]; omega
  have r7 : ∀ r, r ∈ [141, 142, 143, 144, 145, 146, 147, 149, 150, 151, 152, 153, 154, 155, 156, 157] → H r = h6 r := f7.rows (by decide)
  have hwd0 : ∀ law steps steps' n n' dfl, RLW h6 law steps n dfl → n' = n → (∀ i : Nat, (i : Int) < n → steps' i = steps i) → (H 153 law = 0 ∧ dfl) ∨ (H 153 law = 1 ∧ RelL H law steps' n') := by
    intro law steps steps' n n' dfl L en es
    subst en
    rw [r7 153 (by decide)]
    rcases L.1 with y | ⟨y1, y2, -⟩
    · exact Or.inl y
    · exact Or.inr ⟨y1, (y2.fr f7 (by decide)).cg L.2.1 es⟩
  have RH : RelH H := by
    unfold RelH
    rw [eLv, l7, y1.1, y1.2.1, y1.2.2, r7 141 (by decide), r7 144 (by decide), r7 147 (by decide), r7 142 (by decide), r7 143 (by decide), r7 145 (by decide), r7 146 (by decide), r7 149 (by decide), r7 150 (by decide), r7 151 (by decide), r7 152 (by decide)]
    refine ⟨by omega, ⟨b2, c2, n2⟩, fun b hb2 => ?_, fun b hb2 => ?_, fun b hb2 => ?_, ?_, ?_⟩
    · rw [(hb b (by omega)).1, (hb b (by omega)).2]
      exact ⟨(d1 b (by omega)).1, (d1 b (by omega)).2.1⟩
    · rw [(hc b (by omega)).1, (hc b (by omega)).2]
      exact ⟨(d2 b (by omega)).1, (d2 b (by omega)).2.1⟩
    · obtain ⟨-, e2, e3, e4, e5⟩ := hsl b (by omega)
      rw [e2, e3, e4, e5]
      exact (d3 b (by omega)).2.1
    · rcases hwd0 _ _ (H 30) _ (H 29 2) _ L1 hl1.1 hl1.2 with ⟨y, dd⟩ | y
      · refine Or.inl ⟨y, ?_⟩
        obtain ⟨e, a0, a1, a2, a3, a4, a5, a6, a7, a8, a9, a10⟩ := dd
        have es := hl1.2
        rw [e] at es
        unfold dflH
        rw [hl1.1, e, es 0 (by decide), es 1 (by decide), es 2 (by decide), es 3 (by decide), es 4 (by decide), es 5 (by decide), es 6 (by decide), es 7 (by decide), es 8 (by decide), es 9 (by decide), es 10 (by decide)]
        exact ⟨rfl, a0, a1, a2, a3, a4, a5, a6, a7, a8, a9, a10⟩
      · exact Or.inr (Or.inl y)
    · rcases hwd0 _ _ (H 33) _ (H 32 2) _ L2 hl2.1 hl2.2 with ⟨y, dd⟩ | y
      · refine Or.inl ⟨y, ?_⟩
        obtain ⟨e, a0⟩ := dd
        have es := hl2.2
        rw [e] at es
        rw [hl2.1, e, es 0 (by decide)]
        exact ⟨rfl, a0⟩
      · exact Or.inr (Or.inl y)
  have OR : okReg H := by
    unfold okReg
    rw [eLv, r7 153 (by decide), r7 154 (by decide), r7 155 (by decide)]
    have one : ∀ law steps n dfl, RLW h6 law steps n dfl → law / 2 = sd → h6 153 law = 1 → 420 * (sd : Int) ≤ h6 154 law ∧ h6 155 law ≤ 420 * (sd : Int) + 420 := by
      intro law steps n dfl L el ht
      rcases L.1 with ⟨y, -⟩ | ⟨-, -, y1, y2⟩
      · rw [y] at ht; cases ht
      · rw [el] at y2
        omega
    intro law hlaw ht
    rcases hlaw with e | e
    · subst e; exact one _ _ _ _ L1 (by omega) ht
    · subst e; exact one _ _ _ _ L2 (by omega) ht
  refine ⟨⟨⟨PIH, ⟨?_, fun j hj => ?_, fun s hs => ⟨?_, ?_⟩⟩, ⟨?_, ?_, fun i hi => ?_⟩, ⟨?_, fun i hi => ?_⟩, fun j hj => Or.inl (q4 j hj), ⟨Or.inl ⟨?_, by rw [q5]; decide⟩, Or.inl ⟨?_, by rw [q6]; decide⟩⟩, ?_, ?_, Ni.rows (f.at 3 (by decide) (by decide)), W.mv (f.at 12 (by decide) (by decide)) (f.at 6 (by decide) (by decide)) (f.at 7 (by decide) (by decide)), Ky.rows (f.at 137 (by decide) (by decide))⟩, ⟨RH, OR⟩, ?_, ?_, ⟨⟨?_, fun d a hd ha => Or.inl ?_⟩, ?_⟩, ?_⟩, f.at 1 (by decide) (by decide), ?_⟩
  · rw [q1, st.1]
  · rw [st.1] at hj; omega
  · rw [q3 s (by rw [n2]; omega), (d3 s (by omega)).1.1, bedH s (by omega)]
  · rw [WOF_0 st.2.1, q4 s (by omega)]
  · omega
  · omega
  · omega
  · rw [q2, st.2.2]
  · rw [st.2.2] at hi; omega
  · rw [fm.at 70 (by decide) (by decide)]; exact s0
  · rw [fm.at 81 (by decide) (by decide)]; exact s1
  · unfold okHrs at oh ⊢
    rw [f2H.at 16 (by decide) (by decide), f2H.at 23 (by decide) (by decide), f2H.at 26 (by decide) (by decide)]
    exact oh
  · unfold okEight NE EI NSL at oe ⊢
    rw [f2H.at 16 (by decide) (by decide), f2H.at 23 (by decide) (by decide), f2H.at 27 (by decide) (by decide)]
    exact oe
  · have e10 : H 10 5 = 0 := by rw [f2H.at 10 (by decide) (by decide), f2.at 10 (by decide) (by decide)]; exact tl
    unfold RT
    rw [e10, f7.2 2 (by decide), tp]
    exact ⟨rfl, ⟨by decide, by decide⟩, fun i hi => by omega⟩
  · rw [p7, f2H.at 35 (by decide) (by decide), f2.at 35 (by decide) (by decide)]
    exact pl
  · rw [f.at 97 (by decide) (by decide)]; exact sc.1.1
  · rw [fm.at 96 (by decide) (by decide), f5.at 96 (by decide) (by decide)]
    exact dz _ (by omega)
  · rw [f.at 28 (by decide) (by decide)]; exact sc.2
  · refine bb.ed (f.at 102 (by decide) (by decide)) (f.at 107 (by decide) (by decide)) (f.at 108 (by decide) (by decide)) ?_
    rw [fm.at 9 (by decide) (by decide), ed, f4.at 9 (by decide) (by decide), f3.at 9 (by decide) (by decide), f2.at 9 (by decide) (by decide), f1.at 9 (by decide) (by decide)]
  · rw [fm.at 9 (by decide) (by decide), ed, f4.at 9 (by decide) (by decide), f3.at 9 (by decide) (by decide), f2.at 9 (by decide) (by decide), f1.at 9 (by decide) (by decide)]
