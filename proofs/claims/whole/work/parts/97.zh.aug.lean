/-! SHAKES: the end of it; one more -/
theorem pickI (p : Nat → Prop) (a b : Nat → Int) : ∃ f : Nat → Int, ∀ x, (p x → f x = a x) ∧ (¬ p x → f x = b x) := by
  have ex : ∀ x, ∃ v, (p x → v = a x) ∧ (¬ p x → v = b x) := fun x => by
    rcases Classical.em (p x) with e | e
    · exact ⟨a x, fun _ => rfl, fun n => absurd e n⟩
    · exact ⟨b x, fun n => absurd n e, fun _ => rfl⟩
  obtain ⟨f, hf⟩ := Classical.axiomOfChoice ex
  exact ⟨f, hf⟩
/-- nobody who has room can be got to: the price of not being shaken may rise -/
theorem DUA.raise {h : aH} (P : PI h) {k c : Nat} {M : Nat → Nat} {lam : Int} {al be far fr : Nat → Int} {t : Int} (D : DUA h k c M lam al be) (V : SV h c M) (B : BFI h k M lam al far fr t) (N : DNE h k M far) (full : ∀ a b, a < NSL h → k ≤ b → b < NSL h → far b ≠ 100000 → CANS h a b → ¬ LDV M a (NSL h) < (c : Int)) (t9 : t ≤ 9000) (y : Int) (y0 : 0 ≤ y) : ∃ al' be', DUA h k c M (lam + y) al' be' := by
  obtain ⟨d1, d2, d3, d4, d5⟩ := D
  obtain ⟨al', ha⟩ := pickI (fun x => far x ≠ 100000) (fun x => al x + y) al
  obtain ⟨be', hb⟩ := pickI (fun a => ∃ b, (k ≤ b ∧ b < NSL h ∧ far b ≠ 100000) ∧ CANS h a b) (fun a => be a + y) be
  have up : ∀ x, al' x ≤ al x + y := by
    intro x
    rcases Classical.em (far x ≠ 100000) with e | e
    · have := (ha x).1 e; omega
    · have := (ha x).2 e; omega
  have ub : ∀ a, be a ≤ be' a := by
    intro a
    rcases Classical.em (∃ b, (k ≤ b ∧ b < NSL h ∧ far b ≠ 100000) ∧ CANS h a b) with e | e
    · have := (hb a).1 e; clear e; omega
    · have := (hb a).2 e; clear e; omega
  refine ⟨al', be', fun x x1 x2 => ?_, fun a x a1 x1 x2 cn => ?_, fun x x1 x2 mx => ?_, fun x x1 x2 f mx => ?_, fun a a1 => ?_⟩
  · have := up x
    have := d1 x x1 x2
    omega
  · have l := d2 a x a1 x1 x2 cn
    rcases Classical.em (far x ≠ 100000) with e | e
    · have e1 := (ha x).1 e
      have e2 := (hb a).1 ⟨x, ⟨x1, x2, e⟩, cn⟩
      omega
    · have e1 := (ha x).2 e
      have := ub a
      omega
  · have l := d3 x x1 x2 mx
    have cm : CANS h (M x) x := by
      rcases V.1 x x2 with q | q
      · exact absurd q mx
      · exact q.2
    rcases Classical.em (far x ≠ 100000) with e | e
    · have e1 := (ha x).1 e
      have e2 := (hb (M x)).1 ⟨x, ⟨x1, x2, e⟩, cm⟩
      omega
    · have e1 := (ha x).2 e
      have e2 := (hb (M x)).2 (fun ⟨b, ⟨b1, b2, b3⟩, b4⟩ => by
        by_cases q : x = b
        · subst q; exact e b3
        · have r := N b b1 b2 x x1 x2 x2 q mx b4 b3
          have e : far x = 100000 := Classical.byContradiction e
          have i := B.1 b b1 b2
          have ym : M x < NSL h := by
            rcases V.1 x x2 with q | q
            · exact absurd q mx
            · exact q.1
          obtain ⟨-, en⟩ := NSL_12 P
          have w1 := WSL_rg P (s := M x) (x := b) (by omega) (by omega)
          have w2 := WSL_rg P (s := M x) (x := x) (by omega) (by omega)
          omega)
      omega
  · rcases Classical.em (far x ≠ 100000) with e | e
    · have e1 := (ha x).1 e
      have := d4 x x1 x2 f mx
      omega
    · have := (B.2.1 x x1 x2 mx).1 f
      have e : far x = 100000 := Classical.byContradiction e
      omega
  · obtain ⟨b0, b1⟩ := d5 a a1
    refine ⟨by have := ub a; omega, fun l => ?_⟩
    have := b1 l
    have e2 := (hb a).2 (fun ⟨b, ⟨b1, b2, b3⟩, b4⟩ => full a b a1 b1 b2 b3 b4 l)
    omega
/-- one who has room can be got to: prices by which all of the way is as cheap as can be -/
theorem DUA.way {h : aH} (P : PI h) {k c : Nat} {M : Nat → Nat} {lam : Int} {al be far fr : Nat → Int} {t : Int} (D : DUA h k c M lam al be) (V : SV h c M) (B : BFI h k M lam al far fr t) (N : DNE h k M far) (t9 : t ≤ 9000) {who last : Nat} (w1 : who < NSL h) (l1 : k ≤ last) (l2 : last < NSL h) (lf : far last ≠ 100000) (cw : CANS h who last) (room : LDV M who (NSL h) < (c : Int)) (mn : ∀ a b, a < NSL h → k ≤ b → b < NSL h → far b ≠ 100000 → CANS h a b → LDV M a (NSL h) < (c : Int) → far last + WSL h who last ≤ far b + WSL h a b) :
    ∃ (lam' : Int) (al' be' : Nat → Int) (T : Nat → Prop), DUA h k c M lam' al' be' ∧ T last ∧ al' last = WSL h who last + be' who ∧ ∀ x, T x → (k ≤ x ∧ x < NSL h ∧ far x ≠ 100000) ∧ ∀ b : Nat, M x ≠ 12 → fr x = (b : Int) → T b ∧ b ≠ x ∧ CANS h (M x) b ∧ al' b = WSL h (M x) b + be' (M x) := by
  obtain ⟨d1, d2, d3, d4, d5⟩ := D
  obtain ⟨-, en⟩ := NSL_12 P
  obtain ⟨Dd, hD⟩ : ∃ Dd, Dd = far last + WSL h who last := ⟨_, rfl⟩
  rw [← hD] at mn
  have vm : ∀ x, k ≤ x → x < NSL h → M x ≠ 12 → M x < NSL h ∧ CANS h (M x) x := fun x x1 x2 q => by
    rcases V.1 x x2 with z | z
    · exact absurd z q
    · exact z
  have fl : far last + al last ≤ Dd ∧ lam ≤ far last + al last := by
    have a := d2 who last w1 l1 l2 cw
    have b := (d5 who w1).2 room
    have i := B.1 last l1 l2
    omega
  obtain ⟨Fc, hF⟩ := pickI (fun x => far x ≠ 100000) (fun x => min Dd (far x + al x)) (fun _ => Dd)
  have Fl : ∀ x, Fc x ≤ Dd := fun x => by
    rcases Classical.em (far x ≠ 100000) with e | e
    · rw [(hF x).1 e]; omega
    · rw [(hF x).2 e]; omega
  have Fg : ∀ x, k ≤ x → x < NSL h → lam ≤ Fc x := fun x x1 x2 => by
    rcases Classical.em (far x ≠ 100000) with e | e
    · rw [(hF x).1 e]
      have := B.1 x x1 x2
      omega
    · rw [(hF x).2 e]; omega
  have Fa : ∀ x, k ≤ x → x < NSL h → al x ≤ Fc x := fun x x1 x2 => by
    have := d1 x x1 x2
    rcases Classical.em (far x ≠ 100000) with e | e
    · rw [(hF x).1 e]
      have := B.1 x x1 x2
      omega
    · rw [(hF x).2 e]; omega
  -- a nearer one of the same shaker
  have near : ∀ x x', k ≤ x → x < NSL h → k ≤ x' → x' < NSL h → M x' ≠ 12 → CANS h (M x') x → far x ≠ 100000 → far x' ≠ 100000 ∧ far x' + al x' ≤ far x + WSL h (M x') x + be (M x') := by
    intro x x' x1 x2 y1 y2 my cn fx
    have e := d3 x' y1 y2 my
    by_cases q : x' = x
    · subst q
      exact ⟨fx, by omega⟩
    · have r := N x x1 x2 x' y1 y2 y2 q my cn fx
      have i := B.1 x x1 x2
      have a1 := WSL_rg P (s := M x') (x := x) (by have := (vm x' y1 y2 my).1; omega) (by omega)
      have a2 := WSL_rg P (s := M x') (x := x') (by have := (vm x' y1 y2 my).1; omega) (by omega)
      exact ⟨by omega, by omega⟩
  have exg : ∀ a : Nat, ∃ v : Int, v ≤ Dd ∧ (a < NSL h → LDV M a (NSL h) < (c : Int) → v = Dd) ∧ (∀ x, k ≤ x → x < NSL h → M x = a → a ≠ 12 → Fc x = v) ∧ (a < NSL h → ∀ x, k ≤ x → x < NSL h → CANS h a x → v - Fc x ≤ WSL h a x + be a - al x) := by
    intro a
    rcases Classical.em (a < NSL h ∧ LDV M a (NSL h) < (c : Int)) with ⟨a1, a2⟩ | na
    · have b0 := (d5 a a1).2 a2
      refine ⟨Dd, Int.le_refl _, fun _ _ => rfl, fun x x1 x2 mx n12 => ?_, fun _ x x1 x2 cn => ?_⟩
      · rcases Classical.em (far x ≠ 100000) with e | e
        · rw [(hF x).1 e]
          have u := mn a x a1 x1 x2 e (by have := (vm x x1 x2 (by rw [mx]; exact n12)).2; rw [mx] at this; exact this) a2
          have v := d3 x x1 x2 (by rw [mx]; exact n12)
          rw [mx] at v
          omega
        · exact (hF x).2 e
      · have l := d2 a x a1 x1 x2 cn
        rcases Classical.em (far x ≠ 100000) with e | e
        · rw [(hF x).1 e]
          have u := mn a x a1 x1 x2 e cn a2
          omega
        · rw [(hF x).2 e]; omega
    · rcases Classical.em (∃ x, (k ≤ x ∧ x < NSL h ∧ a ≠ 12) ∧ M x = a) with ⟨x, ⟨x1, x2, n12⟩, mx⟩ | no
      · have mx12 : M x ≠ 12 := by rw [mx]; exact n12
        have cx : CANS h a x := by have := (vm x x1 x2 mx12).2; rw [mx] at this; exact this
        have ge : ∀ z, k ≤ z → z < NSL h → CANS h a z → Fc x - Fc z ≤ WSL h a z + be a - al z := by
          intro z z1 z2 cn
          have a1 : a < NSL h := by have := (vm x x1 x2 mx12).1; rw [mx] at this; exact this
          have l := d2 a z a1 z1 z2 cn
          rcases Classical.em (far z ≠ 100000) with e | e
          · obtain ⟨f1, f2⟩ := near z x z1 z2 x1 x2 mx12 (by rw [mx]; exact cn) e
            rw [mx] at f2
            rw [(hF x).1 f1, (hF z).1 e]
            omega
          · rw [(hF z).2 e]
            have := Fl x
            omega
        refine ⟨Fc x, Fl x, fun a1 a2 => absurd ⟨a1, a2⟩ na, fun z z1 z2 mz _ => ?_, fun _ z z1 z2 cn => ge z z1 z2 cn⟩
        have mz12 : M z ≠ 12 := by rw [mz]; exact n12
        have cz : CANS h a z := by have := (vm z z1 z2 mz12).2; rw [mz] at this; exact this
        have e1 := d3 z z1 z2 mz12
        have e2 := d3 x x1 x2 mx12
        rw [mz] at e1
        rw [mx] at e2
        rcases Classical.em (far z ≠ 100000) with e | e
        · obtain ⟨f1, f2⟩ := near z x z1 z2 x1 x2 mx12 (by rw [mx]; exact cz) e
          obtain ⟨-, g2⟩ := near x z x1 x2 z1 z2 mz12 (by rw [mz]; exact cx) f1
          rw [mx] at f2
          rw [mz] at g2
          rw [(hF x).1 f1, (hF z).1 e]
          omega
        · rw [(hF z).2 e]
          rcases Classical.em (far x ≠ 100000) with e' | e'
          · exact absurd (near x z x1 x2 z1 z2 mz12 (by rw [mz]; exact cx) e').1 e
          · rw [(hF x).2 e']
      · refine ⟨lam, by omega, fun a1 a2 => absurd ⟨a1, a2⟩ na, fun x x1 x2 mx n12 => absurd ⟨x, ⟨x1, x2, n12⟩, mx⟩ no, fun a1 x x1 x2 cn => ?_⟩
        have := Fg x x1 x2
        have := d2 a x a1 x1 x2 cn
        clear no na
        omega
  obtain ⟨g, hg⟩ := Classical.axiomOfChoice exg
  refine ⟨Dd, fun x => al x + Dd - Fc x, fun a => be a + Dd - g a, fun x => (k ≤ x ∧ x < NSL h ∧ far x ≠ 100000) ∧ far x + al x ≤ Dd, ⟨fun x x1 x2 => ?_, fun a x a1 x1 x2 cn => ?_, fun x x1 x2 mx => ?_, fun x x1 x2 f mx => ?_, fun a a1 => ⟨?_, fun l => ?_⟩⟩, ⟨⟨l1, l2, lf⟩, fl.1⟩, ?_, fun x T => ⟨T.1, fun b mx fb => ?_⟩⟩
  · have := Fa x x1 x2
    dsimp only
    omega
  · have := (hg a).2.2.2 a1 x x1 x2 cn
    dsimp only
    omega
  · have := (hg (M x)).2.2.1 x x1 x2 rfl mx
    have := d3 x x1 x2 mx
    dsimp only
    omega
  · have u := d4 x x1 x2 f mx
    have v := (B.2.1 x x1 x2 mx).1 f
    have w := (hF x).1 (by rw [v]; decide)
    dsimp only
    omega
  · have := (hg a).1
    have := (d5 a a1).1
    dsimp only
    omega
  · have := (hg a).2.1 a1 l
    have := (d5 a a1).2 l
    dsimp only
    omega
  · have u := (hF last).1 lf
    have v := (hg who).2.1 w1 room
    have w := (d5 who w1).2 room
    dsimp only
    omega
  · obtain ⟨⟨x1, x2, fx⟩, T2⟩ := T
    obtain ⟨b', r1, r2, r3, r4, r5, r6, r7⟩ := B.2.2.1 x x1 x2 mx fx
    have : b' = b := by omega
    subst this
    have e := d3 x x1 x2 mx
    have l := d2 (M x) b' (vm x x1 x2 mx).1 r2 r3 r6
    have n := N b' r2 r3 x x1 x2 x2 (fun z => r4 z.symm) mx r6 r5
    have u := (hF x).1 fx
    have v := (hF b').1 r5
    have w := (hg (M x)).2.2.1 x x1 x2 rfl mx
    refine ⟨⟨⟨r2, r3, r5⟩, by omega⟩, r4, r6, ?_⟩
    dsimp only
    omega
