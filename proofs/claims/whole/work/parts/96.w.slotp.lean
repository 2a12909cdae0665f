/-! hold, restore, count: the class behind it the reference -/
def HDN (h h' : aH) : Prop := Fr [70, 71, 72, 73, 74, 75, 76, 77, 78, 79, 81, 82, 83, 84, 85, 86, 87, 88, 89, 90, 185, 186, 187, 188, 189, 190, 191, 192, 193, 194, 195, 196] [] h h' ∧ SLS h' ∧ RelM h'
theorem nat10 {d : Nat} (h : d < 10) : d = 0 ∨ d = 1 ∨ d = 2 ∨ d = 3 ∨ d = 4 ∨ d = 5 ∨ d = 6 ∨ d = 7 ∨ d = 8 ∨ d = 9 := by omega
theorem hold_0 {h h1 h2 : aH} {n s : Nat} (P : PI h) (O : okMor h) (Q : RelP h) (M : RelM h) (T : okTf h) (S : SLI h 1 81) (hms : h 130 48 = (s : Int)) (h8 : s ≤ 8) (hmm : h 130 76 = (n : Int)) (h60 : n ≤ 60)
    (f1 : Fr [70, 71, 72, 73, 74, 75, 76, 77, 78, 79] [] h h1) (a1 : AGC h1 70 h 58) (e1 : h1 70 13 = 1) (f2 : Fr [185, 186, 187, 188, 189, 190, 191, 192, 193, 194, 195, 196] [] h1 h2) (g1 : ∀ j, h2 189 j = if j = 0 then (s : Int) else h1 189 j) (g2 : C4 h2 h1 190 163 191 164 192 165 193 166 (8 * 0) 0 s)
    (g3 : C2 h2 h1 194 161 195 162 (12 * 0) 0 12) (g4 : ∀ j, h2 196 j = if j = 0 then (n : Int) else h1 196 j) (g5 : C4 h2 h1 185 185 186 186 187 187 188 188 (60 * 0) 120 n) : SLI h2 0 70 ∧ SLI h2 1 81 ∧ RelM h2 := by
  have F : Fr [70, 71, 72, 73, 74, 75, 76, 77, 78, 79, 81, 82, 83, 84, 85, 86, 87, 88, 89, 90, 185, 186, 187, 188, 189, 190, 191, 192, 193, 194, 195, 196] [] h h2 := (f1.mono (by decide) (by decide)).trans (f2.mono (by decide) (by decide))
  have k := F.rows (l := HR) (by decide)
  refine ⟨Or.inr ⟨?_, h, fun r hr => (k r hr).symm, ⟨P.2.1, P.2.2.1, P.2.2.2.1, O, Q, M, T⟩, ?_, ⟨?_, ?_, fun j hj => ?_, fun j hj => ?_, fun j hj => ?_⟩⟩, S.keep k (fun d hd => ?_) ⟨?_, ?_⟩ (fun j hj => ?_) (fun j hj => ?_) (fun j hj => ?_), ⟨?_, fun j hj => ?_⟩⟩
  · rw [f2.at 70 (by decide) (by decide)]; exact e1
  · have r : ∀ d, d < 10 → h2 (70 + d) = h1 (70 + d) := by
      intro d hd
      rcases nat10 hd with rfl | rfl | rfl | rfl | rfl | rfl | rfl | rfl | rfl | rfl <;> exact f2.at _ (by decide) (by decide)
    have r0 : h2 70 = h1 70 := r 0 (by decide)
    unfold AGC at a1 ⊢
    rw [r0, r 1 (by decide), r 2 (by decide), r 3 (by decide), r 4 (by decide), r 5 (by decide), r 6 (by decide), r 7 (by decide), r 8 (by decide), r 9 (by decide)]
    exact a1
  · rw [g1, if_pos rfl]; exact hms.symm
  · rw [g4, if_pos rfl]; exact hmm.symm
  · obtain ⟨x1, x2, x3, x4⟩ := g2 (8 * 0 + j)
    have hj : j < s := by omega
    rw [CPY_in0 hj] at x1 x2 x3 x4
    rw [x1, x2, x3, x4, f1.at 163 (by decide) (by decide), f1.at 164 (by decide) (by decide), f1.at 165 (by decide) (by decide), f1.at 166 (by decide) (by decide)]
    exact ⟨rfl, rfl, rfl, rfl⟩
  · obtain ⟨x1, x2⟩ := g3 (12 * 0 + j)
    rw [CPY_in0 hj] at x1 x2
    rw [x1, x2, f1.at 161 (by decide) (by decide), f1.at 162 (by decide) (by decide)]
    exact ⟨rfl, rfl⟩
  · obtain ⟨x1, x2, x3, x4⟩ := g5 (60 * 0 + j)
    have hj : j < n := by omega
    rw [CPY_in hj] at x1 x2 x3 x4
    rw [x1, x2, x3, x4, f1.at 185 (by decide) (by decide), f1.at 186 (by decide) (by decide), f1.at 187 (by decide) (by decide), f1.at 188 (by decide) (by decide)]
    exact ⟨rfl, rfl, rfl, rfl⟩
  · rcases nat10 hd with rfl | rfl | rfl | rfl | rfl | rfl | rfl | rfl | rfl | rfl <;> exact (f2.at _ (by decide) (by decide)).trans (f1.at _ (by decide) (by decide))
  · rw [g1, if_neg (by decide), f1.at 189 (by decide) (by decide)]
  · rw [g4, if_neg (by decide), f1.at 196 (by decide) (by decide)]
  · obtain ⟨x1, x2, x3, x4⟩ := g2 (8 * 1 + j)
    rw [CPY_out (by omega)] at x1 x2 x3 x4
    rw [x1, x2, x3, x4, f1.at 190 (by decide) (by decide), f1.at 191 (by decide) (by decide), f1.at 192 (by decide) (by decide), f1.at 193 (by decide) (by decide)]
    exact ⟨rfl, rfl, rfl, rfl⟩
  · obtain ⟨x1, x2⟩ := g3 (12 * 1 + j)
    rw [CPY_out (by omega)] at x1 x2
    rw [x1, x2, f1.at 194 (by decide) (by decide), f1.at 195 (by decide) (by decide)]
    exact ⟨rfl, rfl⟩
  · obtain ⟨x1, x2, x3, x4⟩ := g5 (60 * 1 + j)
    rw [CPY_out (by omega)] at x1 x2 x3 x4
    rw [x1, x2, x3, x4, f1.at 185 (by decide) (by decide), f1.at 186 (by decide) (by decide), f1.at 187 (by decide) (by decide), f1.at 188 (by decide) (by decide)]
    exact ⟨rfl, rfl, rfl, rfl⟩
  · rw [F.2 76 (by decide), F.at 58 (by decide) (by decide)]
    exact M.1
  · rw [F.at 58 (by decide) (by decide)] at hj
    obtain ⟨x1, x2, x3, x4⟩ := g5 (120 + j)
    have hM := M.1
    rw [CPY_out (by omega)] at x1 x2 x3 x4
    rw [x1, x2, x3, x4, f1.at 185 (by decide) (by decide), f1.at 186 (by decide) (by decide), f1.at 187 (by decide) (by decide), f1.at 188 (by decide) (by decide), F.at 65 (by decide) (by decide), F.at 66 (by decide) (by decide), F.at 67 (by decide) (by decide)]
    exact M.2 j hj
theorem hold_1 {h h1 h2 : aH} {n s : Nat} (P : PI h) (O : okMor h) (Q : RelP h) (M : RelM h) (T : okTf h) (S : SLI h 0 70) (hms : h 130 48 = (s : Int)) (h8 : s ≤ 8) (hmm : h 130 76 = (n : Int)) (h60 : n ≤ 60)
    (f1 : Fr [81, 82, 83, 84, 85, 86, 87, 88, 89, 90] [] h h1) (a1 : AGC h1 81 h 58) (e1 : h1 81 13 = 1) (f2 : Fr [185, 186, 187, 188, 189, 190, 191, 192, 193, 194, 195, 196] [] h1 h2) (g1 : ∀ j, h2 189 j = if j = 1 then (s : Int) else h1 189 j) (g2 : C4 h2 h1 190 163 191 164 192 165 193 166 (8 * 1) 0 s)
    (g3 : C2 h2 h1 194 161 195 162 (12 * 1) 0 12) (g4 : ∀ j, h2 196 j = if j = 1 then (n : Int) else h1 196 j) (g5 : C4 h2 h1 185 185 186 186 187 187 188 188 (60 * 1) 120 n) : SLI h2 1 81 ∧ SLI h2 0 70 ∧ RelM h2 := by
  have F : Fr [70, 71, 72, 73, 74, 75, 76, 77, 78, 79, 81, 82, 83, 84, 85, 86, 87, 88, 89, 90, 185, 186, 187, 188, 189, 190, 191, 192, 193, 194, 195, 196] [] h h2 := (f1.mono (by decide) (by decide)).trans (f2.mono (by decide) (by decide))
  have k := F.rows (l := HR) (by decide)
  refine ⟨Or.inr ⟨?_, h, fun r hr => (k r hr).symm, ⟨P.2.1, P.2.2.1, P.2.2.2.1, O, Q, M, T⟩, ?_, ⟨?_, ?_, fun j hj => ?_, fun j hj => ?_, fun j hj => ?_⟩⟩, S.keep k (fun d hd => ?_) ⟨?_, ?_⟩ (fun j hj => ?_) (fun j hj => ?_) (fun j hj => ?_), ⟨?_, fun j hj => ?_⟩⟩
  · rw [f2.at 81 (by decide) (by decide)]; exact e1
  · have r : ∀ d, d < 10 → h2 (81 + d) = h1 (81 + d) := by
      intro d hd
      rcases nat10 hd with rfl | rfl | rfl | rfl | rfl | rfl | rfl | rfl | rfl | rfl <;> exact f2.at _ (by decide) (by decide)
    have r0 : h2 81 = h1 81 := r 0 (by decide)
    unfold AGC at a1 ⊢
    rw [r0, r 1 (by decide), r 2 (by decide), r 3 (by decide), r 4 (by decide), r 5 (by decide), r 6 (by decide), r 7 (by decide), r 8 (by decide), r 9 (by decide)]
    exact a1
  · rw [g1, if_pos rfl]; exact hms.symm
  · rw [g4, if_pos rfl]; exact hmm.symm
  · obtain ⟨x1, x2, x3, x4⟩ := g2 (8 * 1 + j)
    have hj : j < s := by omega
    rw [CPY_in0 hj] at x1 x2 x3 x4
    rw [x1, x2, x3, x4, f1.at 163 (by decide) (by decide), f1.at 164 (by decide) (by decide), f1.at 165 (by decide) (by decide), f1.at 166 (by decide) (by decide)]
    exact ⟨rfl, rfl, rfl, rfl⟩
  · obtain ⟨x1, x2⟩ := g3 (12 * 1 + j)
    rw [CPY_in0 hj] at x1 x2
    rw [x1, x2, f1.at 161 (by decide) (by decide), f1.at 162 (by decide) (by decide)]
    exact ⟨rfl, rfl⟩
  · obtain ⟨x1, x2, x3, x4⟩ := g5 (60 * 1 + j)
    have hj : j < n := by omega
    rw [CPY_in hj] at x1 x2 x3 x4
    rw [x1, x2, x3, x4, f1.at 185 (by decide) (by decide), f1.at 186 (by decide) (by decide), f1.at 187 (by decide) (by decide), f1.at 188 (by decide) (by decide)]
    exact ⟨rfl, rfl, rfl, rfl⟩
  · rcases nat10 hd with rfl | rfl | rfl | rfl | rfl | rfl | rfl | rfl | rfl | rfl <;> exact (f2.at _ (by decide) (by decide)).trans (f1.at _ (by decide) (by decide))
  · rw [g1, if_neg (by decide), f1.at 189 (by decide) (by decide)]
  · rw [g4, if_neg (by decide), f1.at 196 (by decide) (by decide)]
  · obtain ⟨x1, x2, x3, x4⟩ := g2 (8 * 0 + j)
    rw [CPY_out (by omega)] at x1 x2 x3 x4
    rw [x1, x2, x3, x4, f1.at 190 (by decide) (by decide), f1.at 191 (by decide) (by decide), f1.at 192 (by decide) (by decide), f1.at 193 (by decide) (by decide)]
    exact ⟨rfl, rfl, rfl, rfl⟩
  · obtain ⟨x1, x2⟩ := g3 (12 * 0 + j)
    rw [CPY_out (by omega)] at x1 x2
    rw [x1, x2, f1.at 194 (by decide) (by decide), f1.at 195 (by decide) (by decide)]
    exact ⟨rfl, rfl⟩
  · obtain ⟨x1, x2, x3, x4⟩ := g5 (60 * 0 + j)
    rw [CPY_out (by omega)] at x1 x2 x3 x4
    rw [x1, x2, x3, x4, f1.at 185 (by decide) (by decide), f1.at 186 (by decide) (by decide), f1.at 187 (by decide) (by decide), f1.at 188 (by decide) (by decide)]
    exact ⟨rfl, rfl, rfl, rfl⟩
  · rw [F.2 76 (by decide), F.at 58 (by decide) (by decide)]
    exact M.1
  · rw [F.at 58 (by decide) (by decide)] at hj
    obtain ⟨x1, x2, x3, x4⟩ := g5 (120 + j)
    have hM := M.1
    rw [CPY_out (by omega)] at x1 x2 x3 x4
    rw [x1, x2, x3, x4, f1.at 185 (by decide) (by decide), f1.at 186 (by decide) (by decide), f1.at 187 (by decide) (by decide), f1.at 188 (by decide) (by decide), F.at 65 (by decide) (by decide), F.at 66 (by decide) (by decide), F.at 67 (by decide) (by decide)]
    exact M.2 j hj
theorem pl_hold {N : Nat} {D : Int → Int → aH → Prop} {h : aH} {x : Int} (P : PI h) (O : okMor h) (Q : RelP h) (M : RelM h) (T : okTf h) (S : SLS h) (hD : ∀ v h', HDN h h' → D v v h') :
    WI N 206 0 [(0, .inr (.inr 9)), (1, .inl x)] h (fun v1 h1 => WI N 348 0 [(0, .inr (.inr 130)), (1, .inl x)] h1 (fun v2 h2 => D v1 v2 h2)) := by
  obtain ⟨n, hn⟩ := Int.eq_ofNat_of_zero_le O.1
  obtain ⟨s, hs⟩ := Int.eq_ofNat_of_zero_le P.2.2.1.1
  have h60 := O.2.1
  have h8 := P.2.2.1.2.1
  have hms : h 130 48 = (s : Int) := Q.1.trans hs
  have hmm : h 130 76 = (n : Int) := M.1.trans hn
  refine c_hold ⟨by omega, h8⟩ ⟨by omega, h60⟩ (fun e h1 f1 a1 e1 => ?_) (fun e h1 f1 a1 e1 => ?_) (fun z => m_hold hms (by omega) hmm (by omega) T (fun k ek hk => absurd ⟨by omega, by omega⟩ z) (fun _ => hD 0 h ⟨Fr.rfl, S, M⟩))
  · refine m_hold (s := s) (n := n) (by rw [f1.2 48 (by decide)]; exact hms) (by omega) (by rw [f1.2 76 (by decide)]; exact hmm) (by omega) (fun j hj => by rw [f1.at 162 (by decide) (by decide)]; exact T j hj) (fun k ek hk h2 f2 g1 g2 g3 g4 g5 => ?_) (fun z => absurd ⟨by omega, by omega⟩ z)
    have : k = 0 := by omega
    subst this
    obtain ⟨q1, q2, q3⟩ := hold_0 P O Q M T S.2 hms (by omega) hmm (by omega) f1 a1 e1 f2 g1 g2 g3 g4 g5
    exact hD 1 h2 ⟨(f1.mono (by decide) (by decide)).trans (f2.mono (by decide) (by decide)), ⟨q1, q2⟩, q3⟩
  · refine m_hold (s := s) (n := n) (by rw [f1.2 48 (by decide)]; exact hms) (by omega) (by rw [f1.2 76 (by decide)]; exact hmm) (by omega) (fun j hj => by rw [f1.at 162 (by decide) (by decide)]; exact T j hj) (fun k ek hk h2 f2 g1 g2 g3 g4 g5 => ?_) (fun z => absurd ⟨by omega, by omega⟩ z)
    have : k = 1 := by omega
    subst this
    obtain ⟨q1, q2, q3⟩ := hold_1 P O Q M T S.1 hms (by omega) hmm (by omega) f1 a1 e1 f2 g1 g2 g3 g4 g5
    exact hD 1 h2 ⟨(f1.mono (by decide) (by decide)).trans (f2.mono (by decide) (by decide)), ⟨q2, q1⟩, q3⟩
def RSN (h h' : aH) : Prop := Fr [9, 58, 59, 60, 61, 62, 63, 64, 65, 66, 67, 161, 162, 163, 164, 165, 166, 185, 186, 187, 188] [48, 76] h h' ∧ PI h' ∧ RelP h' ∧ okMor h' ∧ RelM h' ∧ okTf h' ∧ SLS h' ∧ Ed h h' ∧ h' 58 13 = h 58 13
theorem restd_0 {h h1 h2 g : aH} {n s : Nat} (P : PI h) (S : SLS h) (z1 : ∀ r ∈ HR, g r = h r) (z2 : okSt g) (z3 : AGC h 70 g 58) (z4 : AGS h 0 g) (hs : h 189 0 = (s : Int)) (hn : h 196 0 = (n : Int))
    (f1 : Fr [9, 58, 59, 60, 61, 62, 63, 64, 65, 66, 67] [] h h1) (a1 : AGC h1 58 h 70) (b1 : h1 58 13 = h 58 13) (w1 : h1 9 11 = h 9 11 + 1) (f2 : Fr [161, 162, 163, 164, 165, 166, 185, 186, 187, 188] [48, 76] h1 h2) (g1 : h2 130 48 = (s : Int)) (g2 : AGM4 h2 h1 0 s)
    (g3 : C2 h2 h1 161 194 162 195 0 (12 * 0) 12) (g4 : h2 130 76 = (n : Int)) (g5 : C4 h2 h1 185 185 186 186 187 187 188 188 120 (60 * 0) n) : RSN h h2 := by
  have F : Fr [9, 58, 59, 60, 61, 62, 63, 64, 65, 66, 67, 161, 162, 163, 164, 165, 166, 185, 186, 187, 188] [48, 76] h h2 := (f1.mono (by decide) (by decide)).trans (f2.mono (by decide) (by decide))
  have H : HI h2 := P.1.mv F (by decide)
  obtain ⟨m1, m2, m3, m4, m5⟩ := z4
  have A : AGC h2 58 g 58 := by
    refine AGC.trans (g := h1) (A := 58) ?_ (a1.trans z3)
    unfold AGC
    simp only [Nat.reduceAdd]
    rw [f2.at 58 (by decide) (by decide), f2.at 59 (by decide) (by decide), f2.at 60 (by decide) (by decide), f2.at 61 (by decide) (by decide), f2.at 62 (by decide) (by decide), f2.at 63 (by decide) (by decide), f2.at 64 (by decide) (by decide), f2.at 65 (by decide) (by decide), f2.at 66 (by decide) (by decide), f2.at 67 (by decide) (by decide)]
    exact AGC.rfl (h := h1) (B := 58)
  have B : AGR h2 g := by
    refine ⟨by rw [g1, ← hs]; exact m1, by rw [g4, ← hn]; exact m2, fun j hj => ?_, fun j hj => ?_, fun j hj => ?_⟩
    · obtain ⟨x1, x2, x3, x4⟩ := g2 j
      have hj2 : j < s := by omega
      rw [CPY_to0 hj2] at x1 x2 x3 x4
      rw [x1, x2, x3, x4, f1.at 190 (by decide) (by decide), f1.at 191 (by decide) (by decide), f1.at 192 (by decide) (by decide), f1.at 193 (by decide) (by decide)]
      exact m3 j hj
    · obtain ⟨x1, x2⟩ := g3 j
      rw [CPY_to0 hj] at x1 x2
      rw [x1, x2, f1.at 194 (by decide) (by decide), f1.at 195 (by decide) (by decide)]
      exact m4 j hj
    · obtain ⟨x1, x2, x3, x4⟩ := g5 (120 + j)
      have hj2 : j < n := by omega
      rw [CPY_in hj2] at x1 x2 x3 x4
      rw [x1, x2, x3, x4, f1.at 185 (by decide) (by decide), f1.at 186 (by decide) (by decide), f1.at 187 (by decide) (by decide), f1.at 188 (by decide) (by decide)]
      exact m5 j hj
  have k16 : g 16 = h2 16 := (z1 16 (by decide)).trans (F.at 16 (by decide) (by decide)).symm
  obtain ⟨L, Sn, W, O, Q, M, T⟩ := okSt.ag H.1 k16 A B z2
  refine ⟨F, ⟨H, L, Sn, W, ?_⟩, Q, O, M, T, S.mv F (by decide) (by decide) (fun j hj => ?_), Or.inl ?_, ?_⟩
  · have := P.2.2.2.2
    unfold okK at this ⊢
    rw [F.at 2 (by decide) (by decide)]
    exact this
  · obtain ⟨x1, x2, x3, x4⟩ := g5 j
    rw [CPY_out (by omega)] at x1 x2 x3 x4
    rw [x1, x2, x3, x4, f1.at 185 (by decide) (by decide), f1.at 186 (by decide) (by decide), f1.at 187 (by decide) (by decide), f1.at 188 (by decide) (by decide)]
    exact ⟨rfl, rfl, rfl, rfl⟩
  · rw [f2.at 9 (by decide) (by decide)]; exact w1
  · rw [f2.at 58 (by decide) (by decide)]; exact b1
theorem restd_1 {h h1 h2 g : aH} {n s : Nat} (P : PI h) (S : SLS h) (z1 : ∀ r ∈ HR, g r = h r) (z2 : okSt g) (z3 : AGC h 81 g 58) (z4 : AGS h 1 g) (hs : h 189 1 = (s : Int)) (hn : h 196 1 = (n : Int))
    (f1 : Fr [9, 58, 59, 60, 61, 62, 63, 64, 65, 66, 67] [] h h1) (a1 : AGC h1 58 h 81) (b1 : h1 58 13 = h 58 13) (w1 : h1 9 11 = h 9 11 + 1) (f2 : Fr [161, 162, 163, 164, 165, 166, 185, 186, 187, 188] [48, 76] h1 h2) (g1 : h2 130 48 = (s : Int)) (g2 : AGM4 h2 h1 1 s)
    (g3 : C2 h2 h1 161 194 162 195 0 (12 * 1) 12) (g4 : h2 130 76 = (n : Int)) (g5 : C4 h2 h1 185 185 186 186 187 187 188 188 120 (60 * 1) n) : RSN h h2 := by
  have F : Fr [9, 58, 59, 60, 61, 62, 63, 64, 65, 66, 67, 161, 162, 163, 164, 165, 166, 185, 186, 187, 188] [48, 76] h h2 := (f1.mono (by decide) (by decide)).trans (f2.mono (by decide) (by decide))
  have H : HI h2 := P.1.mv F (by decide)
  obtain ⟨m1, m2, m3, m4, m5⟩ := z4
  have A : AGC h2 58 g 58 := by
    refine AGC.trans (g := h1) (A := 58) ?_ (a1.trans z3)
    unfold AGC
    simp only [Nat.reduceAdd]
    rw [f2.at 58 (by decide) (by decide), f2.at 59 (by decide) (by decide), f2.at 60 (by decide) (by decide), f2.at 61 (by decide) (by decide), f2.at 62 (by decide) (by decide), f2.at 63 (by decide) (by decide), f2.at 64 (by decide) (by decide), f2.at 65 (by decide) (by decide), f2.at 66 (by decide) (by decide), f2.at 67 (by decide) (by decide)]
    exact AGC.rfl (h := h1) (B := 58)
  have B : AGR h2 g := by
    refine ⟨by rw [g1, ← hs]; exact m1, by rw [g4, ← hn]; exact m2, fun j hj => ?_, fun j hj => ?_, fun j hj => ?_⟩
    · obtain ⟨x1, x2, x3, x4⟩ := g2 j
      have hj2 : j < s := by omega
      rw [CPY_to0 hj2] at x1 x2 x3 x4
      rw [x1, x2, x3, x4, f1.at 190 (by decide) (by decide), f1.at 191 (by decide) (by decide), f1.at 192 (by decide) (by decide), f1.at 193 (by decide) (by decide)]
      exact m3 j hj
    · obtain ⟨x1, x2⟩ := g3 j
      rw [CPY_to0 hj] at x1 x2
      rw [x1, x2, f1.at 194 (by decide) (by decide), f1.at 195 (by decide) (by decide)]
      exact m4 j hj
    · obtain ⟨x1, x2, x3, x4⟩ := g5 (120 + j)
      have hj2 : j < n := by omega
      rw [CPY_in hj2] at x1 x2 x3 x4
      rw [x1, x2, x3, x4, f1.at 185 (by decide) (by decide), f1.at 186 (by decide) (by decide), f1.at 187 (by decide) (by decide), f1.at 188 (by decide) (by decide)]
      exact m5 j hj
  have k16 : g 16 = h2 16 := (z1 16 (by decide)).trans (F.at 16 (by decide) (by decide)).symm
  obtain ⟨L, Sn, W, O, Q, M, T⟩ := okSt.ag H.1 k16 A B z2
  refine ⟨F, ⟨H, L, Sn, W, ?_⟩, Q, O, M, T, S.mv F (by decide) (by decide) (fun j hj => ?_), Or.inl ?_, ?_⟩
  · have := P.2.2.2.2
    unfold okK at this ⊢
    rw [F.at 2 (by decide) (by decide)]
    exact this
  · obtain ⟨x1, x2, x3, x4⟩ := g5 j
    rw [CPY_out (by omega)] at x1 x2 x3 x4
    rw [x1, x2, x3, x4, f1.at 185 (by decide) (by decide), f1.at 186 (by decide) (by decide), f1.at 187 (by decide) (by decide), f1.at 188 (by decide) (by decide)]
    exact ⟨rfl, rfl, rfl, rfl⟩
  · rw [f2.at 9 (by decide) (by decide)]; exact w1
  · rw [f2.at 58 (by decide) (by decide)]; exact b1
theorem pl_restore {N : Nat} {D : Int → Int → aH → Prop} {h : aH} {x : Int} (P : PI h) (O : okMor h) (Q : RelP h) (M : RelM h) (T : okTf h) (S : SLS h) (he : okEd h) (hD : ∀ v h', RSN h h' → D v v h') :
    WI N 209 0 [(0, .inr (.inr 9)), (1, .inl x)] h (fun v1 h1 => WI N 350 0 [(0, .inr (.inr 130)), (1, .inl x)] h1 (fun v2 h2 => D v1 v2 h2)) := by
  have same : RSN h h := ⟨Fr.rfl, P, Q, O, M, T, S, Or.inr ⟨rfl, Kp.rfl⟩, rfl⟩
  have no : (∀ k : Nat, x = (k : Int) → k < 2 → h 189 k < 0) → WI N 350 0 [(0, .inr (.inr 130)), (1, .inl x)] h (fun v2 h2 => D 0 v2 h2) := fun z => m_restore (fun k e hk hp => absurd (z k e hk) (by omega)) (fun _ _ _ _ => hD 0 h same) (fun _ => hD 0 h same)
  refine c_restore he (fun e => ⟨fun hh => no (fun k ek hk => ?_), fun hh => ?_⟩) (fun e => ⟨fun hh => no (fun k ek hk => ?_), fun hh => ?_⟩) (fun z => no (fun k ek hk => absurd ⟨by omega, by omega⟩ z))
  · have : k = 0 := by omega
    subst this
    rcases S.1 with q | q
    · exact q.2
    · exact absurd hh (by rw [q.1]; decide)
  · rcases S.1 with q | ⟨q, g, z1, z2, z3, z4⟩
    · exact absurd q.1 hh
    · obtain ⟨s, hs⟩ := Int.eq_ofNat_of_zero_le z2.2.1.1
      obtain ⟨n, hn⟩ := Int.eq_ofNat_of_zero_le z2.2.2.2.1.1
      have s8 := z2.2.1.2.1
      have n60 := z2.2.2.2.1.2.1
      have hs2 : h 189 0 = (s : Int) := z4.1.trans (z2.2.2.2.2.1.1.trans hs)
      have hn2 : h 196 0 = (n : Int) := z4.2.1.trans (z2.2.2.2.2.2.1.1.trans hn)
      refine ⟨by rw [z3.1]; omega, by rw [z3.2.2.1]; omega, fun h1 f1 a1 b1 w1 => ?_⟩
      refine m_restore (fun k ek hk hp => ?_) (fun k ek hk hp => absurd ?_ hp) (fun z => absurd ⟨by omega, by omega⟩ z)
      · have : k = 0 := by omega
        subst this
        refine ⟨s, n, by rw [f1.at 189 (by decide) (by decide)]; exact hs2, by omega, by rw [f1.at 196 (by decide) (by decide)]; exact hn2, by omega, fun j hj => ?_, fun h2 f2 g1 g2 g3 g4 g5 => hD 1 h2 (restd_0 P S z1 z2 z3 z4 hs2 hn2 f1 a1 b1 w1 f2 g1 g2 g3 g4 g5)⟩
        rw [f1.at 195 (by decide) (by decide), (z4.2.2.2.1 j hj).2]
        exact z2.2.2.2.2.2.2 j hj
      · have : k = 0 := by omega
        subst this
        rw [f1.at 189 (by decide) (by decide), hs2]
        omega
  · have : k = 1 := by omega
    subst this
    rcases S.2 with q | q
    · exact q.2
    · exact absurd hh (by rw [q.1]; decide)
  · rcases S.2 with q | ⟨q, g, z1, z2, z3, z4⟩
    · exact absurd q.1 hh
    · obtain ⟨s, hs⟩ := Int.eq_ofNat_of_zero_le z2.2.1.1
      obtain ⟨n, hn⟩ := Int.eq_ofNat_of_zero_le z2.2.2.2.1.1
      have s8 := z2.2.1.2.1
      have n60 := z2.2.2.2.1.2.1
      have hs2 : h 189 1 = (s : Int) := z4.1.trans (z2.2.2.2.2.1.1.trans hs)
      have hn2 : h 196 1 = (n : Int) := z4.2.1.trans (z2.2.2.2.2.2.1.1.trans hn)
      refine ⟨by rw [z3.1]; omega, by rw [z3.2.2.1]; omega, fun h1 f1 a1 b1 w1 => ?_⟩
      refine m_restore (fun k ek hk hp => ?_) (fun k ek hk hp => absurd ?_ hp) (fun z => absurd ⟨by omega, by omega⟩ z)
      · have : k = 1 := by omega
        subst this
        refine ⟨s, n, by rw [f1.at 189 (by decide) (by decide)]; exact hs2, by omega, by rw [f1.at 196 (by decide) (by decide)]; exact hn2, by omega, fun j hj => ?_, fun h2 f2 g1 g2 g3 g4 g5 => hD 1 h2 (restd_1 P S z1 z2 z3 z4 hs2 hn2 f1 a1 b1 w1 f2 g1 g2 g3 g4 g5)⟩
        rw [f1.at 195 (by decide) (by decide), (z4.2.2.2.1 j hj).2]
        exact z2.2.2.2.2.2.2 j hj
      · have : k = 1 := by omega
        subst this
        rw [f1.at 189 (by decide) (by decide), hs2]
        omega
