/-! behind a call of both sides all holds again -/
def NX (h h2 : aH) : Prop := INV h2 ∧ h2 1 = h 1 ∧ h2 9 11 ≤ h 9 11 + 1 ∧ h 9 11 ≤ h2 9 11
theorem NX.rfl {h : aH} (V : INV h) : NX h h := ⟨V, Eq.refl _, by omega, Int.le_refl _⟩
def KALS : List Nat := KALL ++ [1, 9, 102, 107, 108]
/-- the class has thought, or the reference -/
theorem INV.st {C D : List Nat} {h h' : aH} (V : INV h) (f : Fr C D h h') (hk : KALS.all (fun r => !(C.contains r) && !(Nat.beq r 130)) = true) (hd : [2, 17, 18, 48, 76].all (fun d => !(D.contains d)) = true) (s : scr h') : INV h' ∧ Kp h h' ∧ h' 1 = h 1 ∧ h' 9 11 = h 9 11 := by
  have k := f.rows hk
  have nd : ∀ d, d ∈ [2, 17, 18, 48, 76] → d ∉ D := fun d hdd hc => by
    have := List.all_eq_true.mp hd d hdd
    rw [Bool.not_eq_true', List.contains_eq_mem, decide_eq_false_iff_not] at this
    exact this hc
  have hk2 : KALL.all (fun r => !(C.contains r) && !(Nat.beq r 130)) = true := List.all_eq_true.mpr (fun r hr => List.all_eq_true.mp hk r (List.mem_append_left _ hr))
  have kp : Kp h h' := fun r hr => k r ((show ∀ r ∈ PR, r ∈ KALS by decide) r hr)
  have e9 : h' 9 11 = h 9 11 := by rw [k 9 (by decide)]
  exact ⟨V.mv f hk2 (nd _ (by decide)) (nd _ (by decide)) (nd _ (by decide)) (nd _ (by decide)) (nd _ (by decide)) s (V.2.2.2.2.2.kp kp (k 102 (by decide)) (k 107 (by decide)) (k 108 (by decide)) e9), kp, k 1 (by decide), e9⟩
theorem INV.sm {C D : List Nat} {h h' : aH} (V : INV h) (f : Fr C D h h') (hk : KALS.all (fun r => !(C.contains r) && !(Nat.beq r 130)) = true) (hk2 : [28, 96, 97].all (fun r => !(C.contains r) && !(Nat.beq r 130)) = true) (hd : [2, 17, 18, 48, 76].all (fun d => !(D.contains d)) = true) : INV h' ∧ Kp h h' ∧ h' 1 = h 1 ∧ h' 9 11 = h 9 11 := by
  have k := f.rows hk
  have k2 := f.rows hk2
  have kp : Kp h h' := fun r hr => k r ((show ∀ r ∈ PR, r ∈ KALS by decide) r hr)
  exact V.st f hk hd (V.2.2.2.2.1.rows kp (k2 28 (by decide)) (k2 96 (by decide)) (k2 97 (by decide)))
theorem NX.of {h h1 h2 : aH} (a : INV h1 ∧ Kp h h1 ∧ h1 1 = h 1 ∧ h1 9 11 = h 9 11) (b : INV h2 ∧ Kp h1 h2 ∧ h2 1 = h1 1 ∧ h2 9 11 = h1 9 11) : NX h h2 := ⟨b.1, b.2.2.1.trans a.2.2.1, by rw [b.2.2.2, a.2.2.2]; omega, by rw [b.2.2.2, a.2.2.2]; omega⟩
def RESTQ : List Nat := [2, 16, 17, 18, 19, 20, 22, 23, 24, 25, 26, 27, 29, 30, 32, 33, 58, 59, 60, 61, 62, 63, 64, 65, 66, 67, 162, 185, 186, 187, 188, 70, 71, 72, 73, 74, 75, 76, 77, 78, 79, 81, 82, 83, 84, 85, 86, 87, 88, 89, 90, 189, 190, 191, 192, 193, 194, 195, 196, 3, 6, 7, 12, 137]
/-- rows that no call but read changes -/
def GK : List Nat := [1, 16, 17, 18, 19, 20, 22, 23, 24, 25, 26, 27, 29, 30, 32, 33, 3, 6, 7, 12, 137, 28, 96, 97, 35] ++ MH
theorem INV.gen {C D : List Nat} {h h' : aH} (V : INV h) (f : Fr C D h h') (hk : GK.all (fun r => !(C.contains r) && !(Nat.beq r 130)) = true) (h17 : 17 ∉ D) (h18 : 18 ∉ D) (P : PI h') (Q : RelP h') (O : okMor h') (M : RelM h') (T : okTf h') (S : SLS h') (Rt : RT h') (B : okBest h') : INV h' ∧ h' 1 = h 1 := by
  have k := f.rows hk
  obtain ⟨⟨-, -, -, -, -, -, Oh, Oe, Ni, W, Ky⟩, ⟨R, G⟩, -, pl, s, -⟩ := V
  have e1 : ∀ r ∈ [16, 17, 18, 19, 20, 22, 23, 24, 25, 26, 27, 29, 30, 32, 33], h' r = h r := fun r hr => k r ((show ∀ r ∈ [16, 17, 18, 19, 20, 22, 23, 24, 25, 26, 27, 29, 30, 32, 33], r ∈ GK by decide) r hr)
  have e2 : ∀ r ∈ MH, h' r = h r := fun r hr => k r ((show ∀ r ∈ MH, r ∈ GK by decide) r hr)
  refine ⟨⟨⟨P, Q, O, M, T, S, ?_, ?_, Ni.rows (k 3 (by decide)), W.mv (k 12 (by decide)) (k 6 (by decide)) (k 7 (by decide)), Ky.rows (k 137 (by decide))⟩, ⟨?_, G.rows e2 (f.2 18 h18)⟩, Rt, ?_, ?_, B⟩, k 1 (by decide)⟩
  · unfold okHrs at Oh ⊢
    rw [e1 16 (by decide), e1 23 (by decide), e1 26 (by decide)]; exact Oh
  · unfold okEight NE EI NSL at Oe ⊢
    rw [e1 16 (by decide), e1 23 (by decide), e1 27 (by decide)]; exact Oe
  · unfold RelH RelL Lv at R ⊢
    rw [f.2 18 h18, e2 141 (by decide), e2 142 (by decide), e2 143 (by decide), e2 144 (by decide), e2 145 (by decide), e2 146 (by decide), e2 147 (by decide), e2 149 (by decide), e2 150 (by decide), e2 151 (by decide), e2 152 (by decide), e2 153 (by decide), e2 154 (by decide), e2 155 (by decide), e2 156 (by decide), e2 157 (by decide),
      e1 16 (by decide), e1 17 (by decide), e1 18 (by decide), e1 19 (by decide), e1 20 (by decide), e1 22 (by decide), e1 23 (by decide), e1 24 (by decide), e1 25 (by decide), e1 29 (by decide), e1 30 (by decide), e1 32 (by decide), e1 33 (by decide)]
    exact R
  · rw [k 35 (by decide), f.2 17 h17]; exact pl
  · unfold scr okDz at s ⊢
    have ea : AGD h' = AGD h := by
      funext d a
      unfold AGD
      rw [e1 32 (by decide), e1 33 (by decide)]
    rw [ea, k 28 (by decide), k 96 (by decide), k 97 (by decide)]
    exact s
/-- the reference has tried plans or beds, and put them back -/
theorem INV.smP {C D : List Nat} {h h' : aH} (V : INV h) (f : Fr C D h h') (hk : (RESTQ ++ MH ++ [10, 11, 35, 131, 1, 9, 102, 107, 108, 28, 96, 97]).all (fun r => !(C.contains r) && !(Nat.beq r 130)) = true) (hd : [2, 17, 18, 76].all (fun d => !(D.contains d)) = true) (Q : RelP h') : INV h' ∧ Kp h h' ∧ h' 1 = h 1 ∧ h' 9 11 = h 9 11 := by
  have k := f.rows hk
  have nd : ∀ d, d ∈ [2, 17, 18, 76] → d ∉ D := fun d hdd hc => by
    have := List.all_eq_true.mp hd d hdd
    rw [Bool.not_eq_true', List.contains_eq_mem, decide_eq_false_iff_not] at this
    exact this hc
  have sub : ∀ l : List Nat, (∀ r ∈ l, r ∈ RESTQ ++ MH ++ [10, 11, 35, 131, 1, 9, 102, 107, 108, 28, 96, 97]) → ∀ r ∈ l, h' r = h r := fun l hl r hr => k r (hl r hr)
  have kp : Kp h h' := sub PR (by decide)
  have e9 : h' 9 11 = h 9 11 := by rw [k 9 (by decide)]
  obtain ⟨⟨P, -, O, M, T, S, -⟩, -, Rt, -, -, B⟩ := id V
  have G := V.gen f (List.all_eq_true.mpr (fun r hr => List.all_eq_true.mp hk r ((show ∀ r ∈ GK, r ∈ RESTQ ++ MH ++ [10, 11, 35, 131, 1, 9, 102, 107, 108, 28, 96, 97] by decide) r hr))) (nd 17 (by decide)) (nd 18 (by decide)) (kp.pi P) Q ?_ (M.rows (sub _ (by decide)) (f.2 76 (nd 76 (by decide)))) ?_ ?_ ?_ (B.kp kp (k 102 (by decide)) (k 107 (by decide)) (k 108 (by decide)) e9)
  · exact ⟨G.1, kp, G.2, e9⟩
  · unfold okMor at O ⊢
    rw [kp.at 58 (by decide), kp.at 65 (by decide), kp.at 66 (by decide), kp.at 67 (by decide), kp.at 16 (by decide)]
    exact O
  · unfold okTf at T ⊢
    rw [k 162 (by decide)]; exact T
  · have e : ∀ r ∈ [185, 186, 187, 188], h' r = h r := sub _ (by decide)
    refine S.mv f (List.all_eq_true.mpr (fun r hr => List.all_eq_true.mp hk r ((show ∀ r ∈ HR, r ∈ RESTQ ++ MH ++ [10, 11, 35, 131, 1, 9, 102, 107, 108, 28, 96, 97] by decide) r hr))) (List.all_eq_true.mpr (fun r hr => List.all_eq_true.mp hk r ((show ∀ r ∈ SLR, r ∈ RESTQ ++ MH ++ [10, 11, 35, 131, 1, 9, 102, 107, 108, 28, 96, 97] by decide) r hr))) (fun j _ => by rw [e 185 (by decide), e 186 (by decide), e 187 (by decide), e 188 (by decide)]; exact ⟨Eq.refl _, Eq.refl _, Eq.refl _, Eq.refl _⟩)
  · unfold RT at Rt ⊢
    rw [f.2 2 (nd 2 (by decide)), k 10 (by decide), k 11 (by decide), k 131 (by decide)]
    exact Rt
/-- what the best two are said of: nothing of mornings -/
def prB (h : aH) : aH := fun r => bif Nat.beq r 58 then (fun j => bif Nat.beq j 10 || Nat.beq j 11 then h 58 j else 0) else bif (Nat.beq r 65 || Nat.beq r 66 || Nat.beq r 67) then (fun _ => 0) else prj h r
theorem prB_eq {h h' : aH} (k : ∀ r ∈ PR, r ≠ 58 → r ≠ 65 → r ≠ 66 → r ≠ 67 → h' r = h r) (e10 : h' 58 10 = h 58 10) (e11 : h' 58 11 = h 58 11) : prB h' = prB h := by
  funext r
  unfold prB
  cases h58 : Nat.beq r 58 with
  | true =>
    funext j
    show (bif Nat.beq j 10 || Nat.beq j 11 then h' 58 j else 0) = (bif Nat.beq j 10 || Nat.beq j 11 then h 58 j else 0)
    cases hb : (Nat.beq j 10 || Nat.beq j 11) with
    | false => rfl
    | true =>
      simp only [Bool.or_eq_true, Nat.beq_eq] at hb
      rcases hb with e | e <;> subst e
      · exact e10
      · exact e11
  | false =>
    show (bif (Nat.beq r 65 || Nat.beq r 66 || Nat.beq r 67) then (fun _ => (0 : Int)) else prj h' r) = (bif (Nat.beq r 65 || Nat.beq r 66 || Nat.beq r 67) then (fun _ => (0 : Int)) else prj h r)
    cases hm : (Nat.beq r 65 || Nat.beq r 66 || Nat.beq r 67) with
    | true => rfl
    | false =>
      show prj h' r = prj h r
      unfold prj
      cases hb : (Nat.beq r 2 || (Nat.ble 16 r && Nat.ble r 20) || (Nat.ble 22 r && Nat.ble r 27) || Nat.beq r 29 || Nat.beq r 30 || Nat.beq r 32 || Nat.beq r 33 || (Nat.ble 58 r && Nat.ble r 67)) with
      | false => rfl
      | true =>
        have m : r ∈ PR := by
          simp only [Bool.or_eq_true, Bool.and_eq_true, Nat.beq_eq, Nat.ble_eq] at hb
          unfold PR
          simp only [List.mem_cons, List.not_mem_nil, or_false]
          omega
        have n58 : r ≠ 58 := fun e => by rw [e] at h58; cases h58
        refine k r m n58 ?_ ?_ ?_
        · intro e; rw [e] at hm; cases hm
        · intro e; rw [e] at hm; cases hm
        · intro e; rw [e] at hm; cases hm
theorem BV_prB (h : aH) : BV h = BV (prB h) := rfl
theorem BV2_prB (h : aH) : BV2 h = BV2 (prB h) := rfl
theorem MINL_prB (h : aH) : MINL h = MINL (prB h) := rfl
theorem okBest.mor {h h' : aH} (B : okBest h) (e : prB h' = prB h) (e1 : h' 102 = h 102) (e2 : h' 107 = h 107) (e3 : h' 108 = h 108) (e4 : h' 9 11 = h 9 11) : okBest h' := by
  obtain ⟨b1, b2, b3⟩ := B
  refine ⟨b1.fr e2 e3, by rw [e1, e4]; exact b2, fun z => ?_⟩
  rw [e1, e4] at z
  obtain ⟨q1, q2, q3⟩ := b3 z
  rw [e1, BV_prB h', BV2_prB h', MINL_prB h', e, ← BV_prB h, ← BV2_prB h, ← MINL_prB h]
  exact ⟨q1, q2, q3.fr (by rw [e1]) (by rw [e1])⟩
theorem okBest.of {h h' : aH} (B : okBest h) (d : Ed h h') (e1 : h' 102 = h 102) (e2 : h' 107 = h 107) (e3 : h' 108 = h 108) : okBest h' := by
  rcases d with d | ⟨d, kp⟩
  · exact B.ed e1 e2 e3 d
  · exact B.kp kp e1 e2 e3 d
theorem Ed.le {h h' : aH} (d : Ed h h') : h' 9 11 ≤ h 9 11 + 1 ∧ h 9 11 ≤ h' 9 11 := by
  rcases d with d | ⟨d, -⟩
  · omega
  · omega
