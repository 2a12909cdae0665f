/-! stretches, runs, methods -/
def am_chk1 (cc : ByteArray) (own id nL : Nat) (wr : Bool) (PC : List Nat) (mi : aI) (pc : Nat) (nx : Option Nat) : Bool := match mi with
  | .nop => decide (nx = some pc)
  | mi => match decode cc pc with
    | .ok q => decide (mi = tomi own id nL wr PC pc q.1) && (am_lok q.1 q.2 && (am_ends q.1 || decide (nx = some (pc + q.2))))
    | .error _ => false
def am_chkL (cc : ByteArray) (own id nL : Nat) (wr : Bool) (PC : List Nat) : List aI → List Nat → Bool
  | [], _ => true
  | mi :: ms, pc :: ps => am_chk1 cc own id nL wr PC mi pc ps.head? && am_chkL cc own id nL wr PC ms ps
  | _ :: _, [] => false
theorem chkL_at {cc : ByteArray} {own id nL : Nat} {wr : Bool} {PC : List Nat} : ∀ (M : List aI) (P : List Nat), am_chkL cc own id nL wr PC M P = true → ∀ (i : Nat) (mi : aI), M[i]? = some mi → ∃ pc, P[i]? = some pc ∧ am_chk1 cc own id nL wr PC mi pc P[i + 1]? = true
  | [], _, _, i, mi, h => by simp at h
  | m :: ms, [], h, i, mi, hi => by cases h
  | m :: ms, pc :: ps, h, 0, mi, hi => by
    obtain ⟨h1, -⟩ := Bool.and_eq_true_iff.mp h
    have e : m = mi := by simpa using hi
    subst e
    refine ⟨pc, rfl, ?_⟩
    rw [show (pc :: ps)[0 + 1]? = ps.head? by cases ps <;> rfl]
    exact h1
  | m :: ms, pc :: ps, h, i + 1, mi, hi => by
    obtain ⟨-, h2⟩ := Bool.and_eq_true_iff.mp h
    obtain ⟨q, g1, g2⟩ := chkL_at ms ps h2 i mi (by simpa using hi)
    exact ⟨q, by simpa using g1, by simpa using g2⟩
theorem am_nth_of {α : Type} {d x : α} {l : List α} {i : Nat} (h : l[i]? = some x) : am_nth d l i = x := by
  have hl := (List.getElem?_eq_some_iff.mp h).1
  have := am_nth_get d l i hl
  rw [h] at this
  exact (Option.some.inj this).symm
/-- a stretch -/
theorem am_x_ok {G : aG} {cc : ByteArray} {own id : Nat} {wr : Bool} {PC : List Nat} {M : List aI} {lim : Nat × Nat}
    {call : Nat → List aV → aS → (Option aV → aH → Prop) → Prop} {sp : Nat → List aV → aS → (aS → Prop) → Prop} {ret : Option aV → aS → Prop} {cut : Nat → aL → List aV → aS → Prop}
    (hF : FX G cc own) (hchk : am_chkL cc own id (anL G) wr PC M PC = true) (hfr : mFr id ≤ (aR G).frames ∧ mWd id ≤ (aR G).locals) (hnm : (aMe G).name = (mY id).name) (hlim : lim.1 ≤ an0 G + (aR G).cells ∧ lim.2 ≤ az0 G + (aR G).slots)
    (kcut : ∀ i ls st S, cut i ls st S → WA G (am_nth 0 PC i) ls st S)
    (kret : ∀ pc v ls S, ret v S → retOk cc id pc v → WA G pc ls v.toList S)
    (kcall : ∀ y as S cont, call y as S cont → ∃ v h, aMg G y as S v (S.1, h) ∧ cont v h)
    (ksp : ∀ y as S cont, sp y as S cont → ∃ S2 : aS, aMg G y as S none S2 ∧ S2.1.length = S.1.length + mCe y ∧ am_sz S2.1 = am_sz S.1 + mSl y ∧ S2.1.length ≤ lim.1 ∧ am_sz S2.1 ≤ lim.2 ∧ cont S2) :
    ∀ (f i : Nat) (rest : List aI) (ls : aL) (st : List aV) (S : aS), rest = M.drop i → am_x (X := Prop) ftab mNa lim False brP ckP call sp ret cut M f i rest ls st S → WA G (am_nth 0 PC i) ls st S := by
  intro f
  induction f with
  | zero => intro i rest ls st S _ h; exact (show False from h).elim
  | succ f ih =>
    intro i rest ls st S hr h
    match rest, hr, h with
    | [], _, h => exact (show False from h).elim
    | ins :: rest, hr, h =>
      have hi : M[i]? = some ins := by
        have := congrArg List.head? hr
        rw [List.head?_drop] at this
        exact this.symm
      have hr2 : rest = M.drop (i + 1) := by
        have := congrArg List.tail hr
        rw [List.tail_drop] at this
        exact this
      obtain ⟨pc, hp, hc⟩ := chkL_at _ _ hchk i ins hi
      have h : am_1 (X := Prop) ftab mNa lim False brP ckP call sp ret cut i ins ls st S (fun ls st S => am_x (X := Prop) ftab mNa lim False brP ckP call sp ret cut M f (i + 1) rest ls st S) (fun t ls st S => bif Nat.ble t i then cut t ls st S else am_x (X := Prop) ftab mNa lim False brP ckP call sp ret cut M f t (M.drop t) ls st S) := h
      rw [am_nth_of hp]
      by_cases hn : ins = .nop
      · subst hn
        have hc := of_decide_eq_true hc
        have := kcut (i + 1) ls st S h
        rw [am_nth_of hc] at this
        exact this
      · have hc2 : (match decode cc pc with
          | .ok q => decide (ins = tomi own id (anL G) wr PC pc q.1) && (am_lok q.1 q.2 && (am_ends q.1 || decide (PC[i + 1]? = some (pc + q.2))))
          | .error _ => false) = true := by
          unfold am_chk1 at hc
          split at hc
          · exact absurd rfl hn
          · exact hc
        cases hd : decode cc pc with
        | error x => rw [hd] at hc2; cases hc2
        | ok q =>
          rw [hd] at hc2
          obtain ⟨q1, q2⟩ := q
          simp only at hc2
          obtain ⟨c1, c2⟩ := Bool.and_eq_true_iff.mp hc2
          obtain ⟨c2, c3⟩ := Bool.and_eq_true_iff.mp c2
          have c1 := of_decide_eq_true c1
          subst c1
          refine am_1_ok hF hd c2 hfr hnm hlim h (fun he ls st S hx => ?_) (fun t ls st S ht hx => ?_) (fun v ls S hx ho => kret pc v ls S hx ho) kcall ksp
          · have hx2 := ih (i + 1) rest ls st S hr2 hx
            rw [he, Bool.false_or] at c3
            rw [am_nth_of (of_decide_eq_true c3)] at hx2
            exact hx2
          · cases hb : Nat.ble t i with
            | true => rw [hb] at hx; exact kcut t ls st S hx
            | false => rw [hb] at hx; exact ih t (M.drop t) ls st S rfl hx
/-- the locals with which a method begins -/
def am_en : Nat → List aV → aL
  | _, [] => []
  | i, v :: vs => (i, v) :: am_en (bif am_is2 v then i + 2 else i + 1) vs
theorem am_en_ok (ad : Nat → Nat) : ∀ (vs : List aV) (i : Nat), lv_args i (vs.map (cv ad)) = am_ll ad (am_en i vs)
  | [], _ => rfl
  | v :: vs, i => by
    show (i, cv ad v) :: lv_args (if (cv ad v).category = 2 then i + 2 else i + 1) (vs.map (cv ad)) = (i, cv ad v) :: am_ll ad (am_en (bif am_is2 v then i + 2 else i + 1) vs)
    have hc := cat2 (ad := ad) v
    cases hv : am_is2 v with
    | true =>
      rw [hv] at hc
      rw [if_pos (show (cv ad v).category = 2 by simpa using hc), am_en_ok ad vs (i + 2)]
      rfl
    | false =>
      rw [if_neg (by rw [cat1 hv]; decide), am_en_ok ad vs (i + 1)]
      rfl
theorem en_ok : ∀ (vs : List aV) (i : Nat), (∀ x ∈ vs, ok_v x) → ∀ q ∈ am_en i vs, ok_v q.2
  | [], _, _, q, hq => by cases hq
  | v :: vs, i, h, q, hq => by
    rcases List.mem_cons.mp hq with rfl | hq
    · exact h v List.mem_cons_self
    · exact en_ok vs _ (fun x hx => h x (List.mem_cons_of_mem _ hx)) q hq
theorem sl_len (ad : Nat → Nat) : ∀ (vs : List aV), (lg_sl (vs.map (cv ad))).length = am_cat vs
  | [] => rfl
  | v :: vs => by
    have h := sl_len ad vs
    have hc := cat2 (ad := ad) v
    show ((if (cv ad v).category = 2 then [Slot.val (cv ad v), Slot.second] else [Slot.val (cv ad v)]) ++ lg_sl (vs.map (cv ad))).length = (bif am_is2 v then 2 else 1) + am_cat vs
    rw [List.length_append, h]
    cases hv : am_is2 v with
    | true =>
      rw [hv] at hc
      rw [if_pos (show (cv ad v).category = 2 by simpa using hc)]
      rfl
    | false =>
      rw [if_neg (by rw [cat1 hv]; decide)]
      rfl
/-- a call that fits -/
def am_fit (y : Nat) (as : List aV) (S : aS) : Prop := y < 353 ∧ am_cat as ≤ mLo y ∧ 9 ≤ S.1.length
/-- a run: of method k, from place i on, within n stretches one upon another, it leaves with v and S2 -/
def am_R (P : Nat → List aI) : Nat → Nat → Nat × Nat → Nat → aL → List aV → aS → Option aV → aS → Prop
  | 0, _, _, _, _, _, _, _, _ => False
  | n + 1, k, lim, i, ls, st, S, v, S2 => am_x (X := Prop) ftab mNa lim False brP ckP
      (fun y as S cont => ∃ (v : Option aV) (h : aH), am_fit y as S ∧ am_R P n y (S.1.length + mCe y, am_sz S.1 + mSl y) 0 (am_en 0 as) [] S v (S.1, h) ∧ cont v h)
      (fun y as S cont => ∃ S2 : aS, am_fit y as S ∧ am_R P n y (S.1.length + mCe y, am_sz S.1 + mSl y) 0 (am_en 0 as) [] S none S2 ∧ S2.1.length = S.1.length + mCe y ∧ am_sz S2.1 = am_sz S.1 + mSl y ∧ S2.1.length ≤ lim.1 ∧ am_sz S2.1 ≤ lim.2 ∧ cont S2)
      (fun v' S' => v = v' ∧ S2 = S') (fun i ls st S => am_R P n k lim i ls st S v S2) (P k) 5000 i ((P k).drop i) ls st S
