/-! what holds between calls -/
def RESTR : List Nat := [2, 16, 17, 18, 19, 20, 22, 23, 24, 25, 26, 27, 29, 30, 32, 33, 58, 59, 60, 61, 62, 63, 64, 65, 66, 67, 161, 162, 163, 164, 165, 166, 185, 186, 187, 188, 70, 71, 72, 73, 74, 75, 76, 77, 78, 79, 81, 82, 83, 84, 85, 86, 87, 88, 89, 90, 189, 190, 191, 192, 193, 194, 195, 196, 3, 6, 7, 12, 137]
/-- all but the reference's house, the tape, the place, what the night and the best two keep in mind -/
def REST (h : aH) : Prop := PI h ∧ RelP h ∧ okMor h ∧ RelM h ∧ okTf h ∧ SLS h ∧ okHrs h ∧ okEight h ∧ okNin h ∧ okWrd h ∧ okKey h
theorem rows_kp {h h' : aH} (k : ∀ r ∈ RESTR, h' r = h r) : Kp h h' := fun r hr => k r ((show ∀ r ∈ PR, r ∈ RESTR by decide) r hr)
theorem okHrs.kp {h h' : aH} (O : okHrs h) (kp : Kp h h') : okHrs h' := by
  unfold okHrs at O ⊢
  rw [kp.at 16 (by decide), kp.at 23 (by decide), kp.at 26 (by decide)]
  exact O
theorem okEight.kp {h h' : aH} (O : okEight h) (kp : Kp h h') : okEight h' := by
  unfold okEight NE EI NSL at O ⊢
  rw [kp.at 16 (by decide), kp.at 23 (by decide), kp.at 27 (by decide)]
  exact O
theorem RelM.rows {h h' : aH} (M : RelM h) (k : ∀ r ∈ [58, 65, 66, 67, 185, 186, 187, 188], h' r = h r) (e : h' 130 76 = h 130 76) : RelM h' := by
  unfold RelM at M ⊢
  rw [k 58 (by decide), k 65 (by decide), k 66 (by decide), k 67 (by decide), k 185 (by decide), k 186 (by decide), k 187 (by decide), k 188 (by decide), e]
  exact M
theorem okKey.rows {h h' : aH} (O : okKey h) (e : h' 137 = h 137) : okKey h' := by
  unfold okKey at O ⊢
  rw [e]; exact O
theorem okNin.rows {h h' : aH} (O : okNin h) (e : h' 3 = h 3) : okNin h' := by
  unfold okNin at O ⊢
  rw [e]; exact O
theorem REST.mv {C D : List Nat} {h h' : aH} (V : REST h) (f : Fr C D h h') (hk : RESTR.all (fun r => !(C.contains r) && !(Nat.beq r 130)) = true) (h48 : 48 ∉ D) (h76 : 76 ∉ D) : REST h' := by
  have k := f.rows hk
  have kp := rows_kp k
  obtain ⟨P, Q, O, M, T, S, H, E, Ni, W, Ky⟩ := V
  have sub : ∀ l : List Nat, (∀ r ∈ l, r ∈ RESTR) → ∀ r ∈ l, h' r = h r := fun l hl r hr => k r (hl r hr)
  refine ⟨kp.pi P, ?_, ?_, M.rows (sub _ (by decide)) (f.2 76 h76), ?_, ?_, H.kp kp, E.kp kp, Ni.rows (k 3 (by decide)), W.mv (k 12 (by decide)) (k 6 (by decide)) (k 7 (by decide)), Ky.rows (k 137 (by decide))⟩
  · unfold RelP at Q ⊢
    rw [f.2 48 h48, k 161 (by decide), k 162 (by decide), k 163 (by decide), k 164 (by decide), k 165 (by decide), k 166 (by decide), kp.wof, kp.at 16 (by decide), kp.at 58 (by decide), kp.at 59 (by decide), kp.at 60 (by decide), kp.at 61 (by decide), kp.at 62 (by decide), kp.at 63 (by decide)]
    exact Q
  · unfold okMor at O ⊢
    rw [kp.at 58 (by decide), kp.at 65 (by decide), kp.at 66 (by decide), kp.at 67 (by decide), kp.at 16 (by decide)]
    exact O
  · unfold okTf at T ⊢
    rw [k 162 (by decide)]; exact T
  · have e : ∀ r ∈ [185, 186, 187, 188, 189, 190, 191, 192, 193, 194, 195, 196], h' r = h r := sub _ (by decide)
    have sl : ∀ r ∈ SLR, h' r = h r := sub _ (by decide)
    have lo : Lo h h' := fun j _ => by rw [e 185 (by decide), e 186 (by decide), e 187 (by decide), e 188 (by decide)]; exact ⟨rfl, rfl, rfl, rfl⟩
    refine ⟨S.1.keep (sub _ (by decide)) (fun d hd => sl _ ?_) (by rw [e 189 (by decide), e 196 (by decide)]; exact ⟨rfl, rfl⟩) (fun j _ => by rw [e 190 (by decide), e 191 (by decide), e 192 (by decide), e 193 (by decide)]; exact ⟨rfl, rfl, rfl, rfl⟩) (fun j _ => by rw [e 194 (by decide), e 195 (by decide)]; exact ⟨rfl, rfl⟩) (fun j hj => lo _ (by omega)), S.2.keep (sub _ (by decide)) (fun d hd => sl _ ?_) (by rw [e 189 (by decide), e 196 (by decide)]; exact ⟨rfl, rfl⟩) (fun j _ => by rw [e 190 (by decide), e 191 (by decide), e 192 (by decide), e 193 (by decide)]; exact ⟨rfl, rfl, rfl, rfl⟩) (fun j _ => by rw [e 194 (by decide), e 195 (by decide)]; exact ⟨rfl, rfl⟩) (fun j hj => lo _ (by omega))⟩
    · rcases nat10 hd with z | z | z | z | z | z | z | z | z | z <;> (rw [z]; decide)
    · rcases nat10 hd with z | z | z | z | z | z | z | z | z | z <;> (rw [z]; decide)
/-- the laws of the reference's house lie in its half -/
def okReg (h : aH) : Prop := ∀ law : Nat, law = 2 * Lv h ∨ law = 2 * Lv h + 1 → h 153 law = 1 → 420 * (Lv h : Int) ≤ h 154 law ∧ h 155 law ≤ 420 * (Lv h : Int) + 420
theorem okReg.rows {h h' : aH} (G : okReg h) (k : ∀ r ∈ MH, h' r = h r) (e : h' 130 18 = h 130 18) : okReg h' := by
  unfold okReg Lv at G ⊢
  rw [e, k 153 (by decide), k 154 (by decide), k 155 (by decide)]
  exact G
/-- all that holds between calls -/
def INV (h : aH) : Prop := REST h ∧ (RelH h ∧ okReg h) ∧ RT h ∧ h 35 12 = h 130 17 ∧ scr h ∧ okBest h
def KALL : List Nat := RESTR ++ MH ++ [10, 11, 35, 131]
theorem RelH.rows {h h' : aH} (R : RelH h) (kp : Kp h h') (km : ∀ r ∈ MH, h' r = h r) (e : h' 130 18 = h 130 18) : RelH h' := R.keep kp ⟨km, e⟩
/-- behind a call that changes no more than what is kept in mind -/
theorem INV.mv {C D : List Nat} {h h' : aH} (V : INV h) (f : Fr C D h h') (hk : KALL.all (fun r => !(C.contains r) && !(Nat.beq r 130)) = true) (h48 : 48 ∉ D) (h76 : 76 ∉ D) (h2 : 2 ∉ D) (h17 : 17 ∉ D) (h18 : 18 ∉ D) (s : scr h') (b : okBest h') : INV h' := by
  have k := f.rows hk
  obtain ⟨Re, ⟨R, G⟩, T, pl, -, -⟩ := V
  have sub : ∀ l : List Nat, (∀ r ∈ l, r ∈ KALL) → ∀ r ∈ l, h' r = h r := fun l hl r hr => k r (hl r hr)
  have k1 : ∀ r ∈ RESTR, h' r = h r := sub _ (by decide)
  have hk2 : RESTR.all (fun r => !(C.contains r) && !(Nat.beq r 130)) = true := List.all_eq_true.mpr (fun r hr => List.all_eq_true.mp hk r ((show ∀ r ∈ RESTR, r ∈ KALL by decide) r hr))
  refine ⟨Re.mv f hk2 h48 h76, ⟨R.keep (rows_kp k1) ⟨sub _ (by decide), f.2 18 h18⟩, G.rows (sub _ (by decide)) (f.2 18 h18)⟩, ?_, ?_, s, b⟩
  · unfold RT at T ⊢
    rw [f.2 2 h2, k 10 (by decide), k 11 (by decide), k 131 (by decide)]
    exact T
  · rw [k 35 (by decide), f.2 17 h17]; exact pl
theorem scr.rows {h h' : aH} (s : scr h) (kp : Kp h h') (e28 : h' 28 = h 28) (e96 : h' 96 = h 96) (e97 : h' 97 = h 97) : scr h' := by
  unfold scr okDz at s ⊢
  rw [kp.agd, e28, e96, e97]
  exact s
theorem INV.x3 {h : aH} (V : INV h) : X3 h := ⟨V.1.1, V.2.1.1, V.1.2.1⟩
