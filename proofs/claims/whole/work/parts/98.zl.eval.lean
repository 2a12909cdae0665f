/-! the evaluator, and that what it finds is a run -/
def brE {X : Type} (c : Prop) (d : Decidable c) (x y : X) : X := match d with
  | isTrue _ => x
  | isFalse _ => y
def ckE {X : Type} (c : Prop) (d : Decidable c) (x : Option X) : Option X := match d with
  | isTrue _ => x
  | isFalse _ => none
def okK3 (y : Nat) (as : List aV) (S : aS) : Bool := Nat.blt y 353 && (Nat.ble (am_cat as) (mLo y) && (Nat.ble 9 S.1.length && (mM y).all okI3))
def am_E : Nat → Nat → Nat × Nat → Nat → aL → List aV → aS → Option (Option aV × aS)
  | 0, _, _, _, _, _, _ => none
  | n + 1, k, lim, i, ls, st, S => am_x (X := Option (Option aV × aS)) ftab mNa lim none brE ckE
      (fun y as S cont => bif okK3 y as S then (match am_E n y (S.1.length + mCe y, am_sz S.1 + mSl y) 0 (am_en 0 as) [] S with
        | some (v, S') => bif decide (S'.1 = S.1) then cont v S'.2 else none
        | none => none) else none)
      (fun y as S cont => bif okK3 y as S then (match am_E n y (S.1.length + mCe y, am_sz S.1 + mSl y) 0 (am_en 0 as) [] S with
        | some (none, S') => bif Nat.beq S'.1.length (S.1.length + mCe y) && (Nat.beq (am_sz S'.1) (am_sz S.1 + mSl y) && (Nat.ble S'.1.length lim.1 && Nat.ble (am_sz S'.1) lim.2)) then cont S' else none
        | _ => none) else none)
      (fun v S => some (v, S)) (fun i ls st S => am_E n k lim i ls st S) (mM k) 5000 i ((mM k).drop i) ls st S
theorem am_E_ok {N m : Nat} {xs : Nat → Int} : ∀ (n k : Nat) (lim : Nat × Nat) (i : Nat) (ls : aL) (st : List aV) (sh : List aC) (h : aH) (v : Option aV) (S2 : aS), (mM k).all okI3 = true → K1 sh → am_E n k lim i ls st (sh, h) = some (v, S2) → K1 S2.1 ∧ am_R mM (n + m) k (lim.1, lim.2 + N) i ls st (upS N sh, upH xs h) v (upS N S2.1, upH xs S2.2)
  | 0, k, lim, i, ls, st, sh, h, v, S2, _, _, H => by cases H
  | n + 1, k, lim, i, ls, st, sh, h, v, S2, hk, k1, H => by
    rw [show n + 1 + m = (n + m) + 1 by omega]
    have sub : ∀ (y : Nat) (as : List aV) (sh : List aC) (h : aH) (w : Option aV) (S' : aS), K1 sh → okK3 y as (sh, h) = true → am_E n y (sh.length + mCe y, am_sz sh + mSl y) 0 (am_en 0 as) [] (sh, h) = some (w, S') → am_fit y as (upS N sh, upH xs h) ∧ K1 S'.1 ∧ am_R mM (n + m) y ((upS N sh).length + mCe y, am_sz (upS N sh) + mSl y) 0 (am_en 0 as) [] (upS N sh, upH xs h) w (upS N S'.1, upH xs S'.2) := by
      intro y as sh h w S' k1 ok E
      unfold okK3 at ok
      simp only [Bool.and_eq_true] at ok
      obtain ⟨o1, o2, o3, o4⟩ := ok
      have r := am_E_ok (N := N) (m := m) (xs := xs) n y _ 0 (am_en 0 as) [] sh h w S' o4 k1 E
      refine ⟨⟨Nat.le_of_ble_eq_true o1, Nat.le_of_ble_eq_true o2, ?_⟩, r.1, ?_⟩
      · show 9 ≤ (upS N sh).length
        rw [upS_len k1]; exact Nat.le_of_ble_eq_true o3
      · have e : am_sz (upS N sh) + mSl y = am_sz sh + mSl y + N := by rw [upS_sz k1]; omega
        rw [e, upS_len k1]
        exact r.2
    refine am_x_sim (X := Option (Option aV × aS)) (fun x y => x = some (v, S2) → K1 S2.1 ∧ y) (N := N) (xs := xs) (lim := lim) (callY := fun y as S cont => ∃ (v : Option aV) (h : aH), am_fit y as S ∧ am_R mM (n + m) y (S.1.length + mCe y, am_sz S.1 + mSl y) 0 (am_en 0 as) [] S v (S.1, h) ∧ cont v h)
      (spY := fun y as S cont => ∃ S2 : aS, am_fit y as S ∧ am_R mM (n + m) y (S.1.length + mCe y, am_sz S.1 + mSl y) 0 (am_en 0 as) [] S none S2 ∧ S2.1.length = S.1.length + mCe y ∧ am_sz S2.1 = am_sz S.1 + mSl y ∧ S2.1.length ≤ (lim.1, lim.2 + N).1 ∧ am_sz S2.1 ≤ (lim.1, lim.2 + N).2 ∧ cont S2)
      (retY := fun v' S' => v = v' ∧ (upS N S2.1, upH xs S2.2) = S') (cutY := fun i ls st S => am_R mM (n + m) k (lim.1, lim.2 + N) i ls st S v (upS N S2.1, upH xs S2.2))
      (fun id q => by simpa using q) (fun y q => by cases q) (fun c d x x' y y' a b q => ?_) (fun c d c' x y cc a q => ?_) (fun y as sh h cX cY k1 hc q => ?_) (fun y as sh h cX cY k1 hc q => ?_) (fun w sh h k1 q => ?_) (fun i a st sh h k1 q => am_E_ok n k lim i a st sh h v S2 hk k1 q) hk 5000 i _ ls st sh h k1 (okI3_drop i hk) H
    · cases d with
      | isTrue z =>
        have r := a q
        exact ⟨r.1, fun _ => r.2, fun nz => absurd z nz⟩
      | isFalse z =>
        have r := b q
        exact ⟨r.1, fun zz => absurd zz z, fun _ => r.2⟩
    · cases d with
      | isTrue z =>
        have r := a q
        exact ⟨r.1, cc z, r.2⟩
      | isFalse z => cases q
    · cases ok : okK3 y as (sh, h) with
      | false => dsimp only at q; rw [ok] at q; cases q
      | true =>
        dsimp only at q
        rw [ok] at q
        cases E : am_E n y (sh.length + mCe y, am_sz sh + mSl y) 0 (am_en 0 as) [] (sh, h) with
        | none => rw [E] at q; cases q
        | some r =>
          obtain ⟨w, S'⟩ := r
          rw [E] at q
          have q : (bif decide (S'.1 = sh) then cX w S'.2 else none) = some (v, S2) := q
          cases e : decide (S'.1 = sh) with
          | false => rw [e] at q; cases q
          | true =>
            rw [e] at q
            have e := of_decide_eq_true e
            obtain ⟨f, -, r⟩ := sub y as sh h w S' k1 ok E
            have z := hc w S'.2 q
            rw [e] at r
            exact ⟨z.1, w, upH xs S'.2, f, r, z.2⟩
    · cases ok : okK3 y as (sh, h) with
      | false => dsimp only at q; rw [ok] at q; cases q
      | true =>
        dsimp only at q
        rw [ok] at q
        cases E : am_E n y (sh.length + mCe y, am_sz sh + mSl y) 0 (am_en 0 as) [] (sh, h) with
        | none => rw [E] at q; cases q
        | some r =>
          obtain ⟨w, S'⟩ := r
          rw [E] at q
          cases w with
          | some w => cases q
          | none =>
            have q : (bif Nat.beq S'.1.length (sh.length + mCe y) && (Nat.beq (am_sz S'.1) (am_sz sh + mSl y) && (Nat.ble S'.1.length lim.1 && Nat.ble (am_sz S'.1) lim.2)) then cX S' else none) = some (v, S2) := q
            cases e : (Nat.beq S'.1.length (sh.length + mCe y) && (Nat.beq (am_sz S'.1) (am_sz sh + mSl y) && (Nat.ble S'.1.length lim.1 && Nat.ble (am_sz S'.1) lim.2))) with
            | false => rw [e] at q; cases q
            | true =>
              rw [e] at q
              simp only [Bool.and_eq_true] at e
              obtain ⟨g1, g2, g3, g4⟩ := e
              have g1 := Nat.eq_of_beq_eq_true g1
              have g2 := Nat.eq_of_beq_eq_true g2
              have g3 := Nat.le_of_ble_eq_true g3
              have g4 := Nat.le_of_ble_eq_true g4
              obtain ⟨f, k2, r⟩ := sub y as sh h none S' k1 ok E
              have z := hc S' k2 q
              refine ⟨z.1, (upS N S'.1, upH xs S'.2), f, r, ?_, ?_, ?_, ?_, z.2⟩
              · show (upS N S'.1).length = (upS N sh).length + mCe y
                rw [upS_len k2, upS_len k1]; exact g1
              · show am_sz (upS N S'.1) = am_sz (upS N sh) + mSl y
                rw [upS_sz k2, upS_sz k1]; omega
              · show (upS N S'.1).length ≤ lim.1
                rw [upS_len k2]; exact g3
              · show am_sz (upS N S'.1) ≤ lim.2 + N
                rw [upS_sz k2]; omega
    · have q : some (w, (sh, h)) = some (v, S2) := q
      injection q with q
      injection q with q1 q2
      subst q1 q2
      exact ⟨k1, rfl, rfl⟩
