/-! SHAKES: the reference's, prices of sleepers and shakers -/
def LDV (g : Nat → Nat) (a n : Nat) : Int := smI (fun x => if g x = a then 1 else 0) n
theorem smI_pick (be : Nat → Int) (v : Nat) : ∀ n, smI (fun a => be a * (if v = a then 1 else 0)) n = if v < n then be v else 0
  | 0 => by rw [if_neg (Nat.not_lt_zero v)]; rfl
  | n + 1 => by
    unfold smI
    rw [smI_pick be v n]
    by_cases e : v = n
    · subst e
      rw [if_neg (Nat.lt_irrefl v), if_pos rfl, if_pos (Nat.lt_succ_self v)]
      omega
    · rw [if_neg e]
      by_cases y : v < n
      · rw [if_pos y, if_pos (by omega)]; omega
      · rw [if_neg y, if_neg (by omega)]; omega
def BOF (be : Nat → Int) (v : Nat) : Int := if v = 12 then 0 else be v
theorem smI_exch {be : Nat → Int} {g : Nat → Nat} {n : Nat} (n12 : n ≤ 12) : ∀ m, (∀ x, x < m → g x = 12 ∨ g x < n) → smI (fun x => BOF be (g x)) m = smI (fun a => be a * LDV g a m) n
  | 0, _ => by
    rw [smI_zero (f := fun a => be a * LDV g a 0) (fun i _ => by show be i * 0 = 0; omega)]
    rfl
  | m + 1, hg => by
    have ih := smI_exch (be := be) (g := g) n12 m (fun x hx => hg x (by omega))
    have e : smI (fun a => be a * LDV g a (m + 1)) n = smI (fun a => be a * LDV g a m + be a * (if g m = a then 1 else 0)) n := smI_congr (fun i _ => by
      show be i * (LDV g i m + (if g m = i then 1 else 0)) = _
      rw [Int.mul_add])
    rw [e, smI_add, smI_pick, ← ih]
    show smI (fun x => BOF be (g x)) m + BOF be (g m) = _
    unfold BOF
    rcases hg m (Nat.lt_succ_self m) with y | y
    · rw [if_pos y, if_neg (by omega)]
    · rw [if_neg (show ¬ g m = 12 by omega), if_pos y]
/-- prices: of not being shaken, of sleepers, of shakers -/
def DUA (h : aH) (k c : Nat) (M : Nat → Nat) (lam : Int) (al be : Nat → Int) : Prop :=
  (∀ x, k ≤ x → x < NSL h → al x ≤ lam) ∧
  (∀ a x, a < NSL h → k ≤ x → x < NSL h → CANS h a x → al x ≤ WSL h a x + be a) ∧
  (∀ x, k ≤ x → x < NSL h → M x ≠ 12 → al x = WSL h (M x) x + be (M x)) ∧
  (∀ x, k ≤ x → x < NSL h → FIRST h x → M x = 12 → al x = lam) ∧
  ∀ a, a < NSL h → 0 ≤ be a ∧ (LDV M a (NSL h) < (c : Int) → be a = 0)
def PEN (h : aH) (lam : Int) (g : Nat → Nat) (x : Nat) : Int := if g x = 12 then lam else WSL h (g x) x
theorem NSL_12 {h : aH} (P : PI h) : NSL h ≤ 12 ∧ ((NSL h : Nat) : Int) = h 16 16 := by
  have hz := P.1.1
  unfold okSz at hz
  unfold NSL
  omega
theorem DUA.least {h : aH} (P : PI h) {k c : Nat} {M M' : Nat → Nat} {lam : Int} {al be : Nat → Int} (D : DUA h k c M lam al be) (V : SV h c M) (V' : SV h c M') (e : ∀ x, x < k → M' x = M x) : smI (PEN h lam M) (NSL h) ≤ smI (PEN h lam M') (NSL h) := by
  obtain ⟨n12, -⟩ := NSL_12 P
  obtain ⟨d1, d2, d3, d4, d5⟩ := D
  have pt : ∀ x, x < NSL h → PEN h lam M x + BOF be (M x) ≤ PEN h lam M' x + BOF be (M' x) := by
    intro x hx
    by_cases l : x < k
    · have := e x l
      unfold PEN
      rw [this]
      exact Int.le_refl _
    · by_cases f : FIRST h x
      · have a1 : PEN h lam M x + BOF be (M x) = al x := by
          unfold PEN BOF
          by_cases q : M x = 12
          · rw [if_pos q, if_pos q, d4 x (by omega) hx f q]; omega
          · rw [if_neg q, if_neg q, d3 x (by omega) hx q]
        rw [a1]
        unfold PEN BOF
        by_cases q : M' x = 12
        · rw [if_pos q, if_pos q]
          have := d1 x (by omega) hx
          omega
        · rw [if_neg q, if_neg q]
          rcases V'.1 x hx with y | ⟨y1, y2⟩
          · exact absurd y q
          · exact d2 _ x y1 (by omega) hx y2
      · unfold PEN
        rw [V.out hx f, V'.out hx f]
        exact Int.le_refl _
  have s1 := smI_le pt
  rw [smI_add, smI_add] at s1
  have v1 : ∀ x, x < NSL h → M x = 12 ∨ M x < NSL h := fun x hx => (V.at hx).imp_right (·.2)
  have v2 : ∀ x, x < NSL h → M' x = 12 ∨ M' x < NSL h := fun x hx => (V'.at hx).imp_right (·.2)
  have x1 := smI_exch (be := be) n12 (NSL h) v1
  have x2 := smI_exch (be := be) n12 (NSL h) v2
  have x3 : smI (fun a => be a * LDV M' a (NSL h)) (NSL h) ≤ smI (fun a => be a * LDV M a (NSL h)) (NSL h) := smI_le (fun a ha => by
    obtain ⟨b0, b1⟩ := d5 a ha
    rcases Int.lt_or_le (LDV M a (NSL h)) (c : Int) with y | y
    · rw [b1 y]; omega
    · exact Int.mul_le_mul_of_nonneg_left (Int.le_trans (V'.2 a ha) y) b0)
  have z1 : smI (fun i => BOF be (M i)) (NSL h) = smI (fun x => BOF be (M x)) (NSL h) := rfl
  omega
theorem PEN_sum (h : aH) (lam : Int) (g : Nat → Nat) : ∀ n, smI (PEN h lam g) n = SWV h g n + lam * ((n : Int) - SMV g n)
  | 0 => by show (0 : Int) = 0 + lam * (0 - 0); omega
  | n + 1 => by
    have ih := PEN_sum h lam g n
    unfold SWV SMV smI
    unfold SWV SMV at ih
    rw [ih]
    unfold PEN
    by_cases q : g n = 12
    · rw [if_pos q, if_pos q, if_pos q, show ((n + 1 : Nat) : Int) - (smI (fun x => if g x = 12 then 0 else 1) n + 0) = ((n : Int) - smI (fun x => if g x = 12 then 0 else 1) n) + 1 by omega, Int.mul_add]
      omega
    · rw [if_neg q, if_neg q, if_neg q, show ((n + 1 : Nat) : Int) - (smI (fun x => if g x = 12 then 0 else 1) n + 1) = ((n : Int) - smI (fun x => if g x = 12 then 0 else 1) n) by omega]
      omega
/-- more are shaken, or as many with less walks or as many -/
def SBE (h : aH) (f g : Nat → Nat) : Prop := SMV g (NSL h) < SMV f (NSL h) ∨ SMV g (NSL h) = SMV f (NSL h) ∧ SWV h f (NSL h) ≤ SWV h g (NSL h)
theorem DUA.best {h : aH} (P : PI h) {k c : Nat} {M : Nat → Nat} {lam : Int} {al be : Nat → Int} (D : DUA h k c M lam al be) (hl : 1000 ≤ lam) (V : SV h c M) : ∀ M', SV h c M' → (∀ x, x < k → M' x = M x) → SBE h M M' := by
  intro M' V' e
  have l := D.least P V V' e
  rw [PEN_sum, PEN_sum] at l
  obtain ⟨-, -, b1, b2⟩ := V.sums P
  obtain ⟨-, -, b3, b4⟩ := V'.sums P
  unfold SBE
  rcases Int.lt_trichotomy (SMV M' (NSL h)) (SMV M (NSL h)) with q | q | q
  · exact Or.inl q
  · refine Or.inr ⟨q, ?_⟩
    rw [q] at l
    omega
  · exfalso
    have e1 : lam * ((NSL h : Int) - SMV M (NSL h)) = lam * ((NSL h : Int) - SMV M' (NSL h)) + lam * (SMV M' (NSL h) - SMV M (NSL h)) := by
      rw [← Int.mul_add]
      congr 1
      omega
    have e2 : lam * 1 ≤ lam * (SMV M' (NSL h) - SMV M (NSL h)) := Int.mul_le_mul_of_nonneg_left (by omega) (by omega)
    omega
/-! the nearest, by going round -/
def RCH (fr : Nat → Int) : Nat → Nat → Prop
  | 0, x => fr x = -1
  | d + 1, x => ∃ b : Nat, fr x = (b : Int) ∧ RCH fr d b
theorem RCH_uniq {fr : Nat → Int} : ∀ {d e x : Nat}, RCH fr d x → RCH fr e x → d = e
  | 0, 0, _, _, _ => rfl
  | 0, e + 1, x, a, ⟨b, b1, _⟩ => by
    have a : fr x = -1 := a
    omega
  | d + 1, 0, x, ⟨b, b1, _⟩, a => by
    have a : fr x = -1 := a
    omega
  | d + 1, e + 1, x, ⟨b, b1, b2⟩, ⟨b', b1', b2'⟩ => by
    have : b = b' := by omega
    subst this
    rw [RCH_uniq b2 b2']
/-- how far each is, as far as is known, with steps of at most t in all -/
def BFI (h : aH) (k : Nat) (M : Nat → Nat) (lam : Int) (al far fr : Nat → Int) (t : Int) : Prop :=
  (∀ x, k ≤ x → x < NSL h → far x = 100000 ∨ 0 ≤ far x ∧ far x ≤ t ∧ lam ≤ far x + al x) ∧
  (∀ x, k ≤ x → x < NSL h → M x = 12 → (FIRST h x → far x = 0) ∧ (¬ FIRST h x → far x = 100000) ∧ fr x = -1) ∧
  (∀ x, k ≤ x → x < NSL h → M x ≠ 12 → far x ≠ 100000 → ∃ b : Nat, fr x = (b : Int) ∧ k ≤ b ∧ b < NSL h ∧ b ≠ x ∧ far b ≠ 100000 ∧ CANS h (M x) b ∧ far b + WSL h (M x) b - WSL h (M x) x ≤ far x) ∧
  ∀ x, k ≤ x → x < NSL h → far x ≠ 100000 → ∃ d, RCH fr d x
theorem BFI.mono {h : aH} {k : Nat} {M : Nat → Nat} {lam : Int} {al far fr : Nat → Int} {t t' : Int} (B : BFI h k M lam al far fr t) (l : t ≤ t') : BFI h k M lam al far fr t' :=
  ⟨fun x a b => (B.1 x a b).imp_right (fun y => ⟨y.1, by omega, y.2.2⟩), B.2⟩
/-- going on to a matched one is no cheaper than what is ahead of it -/
theorem DUA.edge {h : aH} {k c : Nat} {M : Nat → Nat} {lam : Int} {al be : Nat → Int} (D : DUA h k c M lam al be) (V : SV h c M) {b o : Nat} (b1 : k ≤ b) (b2 : b < NSL h) (o1 : k ≤ o) (o2 : o < NSL h) (m : M o ≠ 12) (cn : CANS h (M o) b) : al b ≤ WSL h (M o) b - WSL h (M o) o + al o := by
  have e := D.2.2.1 o o1 o2 m
  have y : M o < NSL h := by
    rcases V.1 o o2 with q | q
    · exact absurd q m
    · exact q.1
  have l := D.2.1 (M o) b y b1 b2 cn
  omega
theorem BFI.relax {h : aH} (P : PI h) {k c : Nat} {M : Nat → Nat} {lam : Int} {al be far fr : Nat → Int} {t t' : Int} (D : DUA h k c M lam al be) (V : SV h c M) (B : BFI h k M lam al far fr t) {b o : Nat} (b1 : k ≤ b) (b2 : b < NSL h) (o1 : k ≤ o) (o2 : o < NSL h) (ne : o ≠ b) (fb : far b ≠ 100000) (m : M o ≠ 12) (cn : CANS h (M o) b) (less : far b + WSL h (M o) b - WSL h (M o) o < far o) (tt : t ≤ t') (tb : far b + 18 ≤ t') (t9 : t' ≤ 9000) :
    BFI h k M lam al (fun x => if x = o then far b + WSL h (M o) b - WSL h (M o) o else far x) (fun x => if x = o then (b : Int) else fr x) t' := by
  obtain ⟨i1, i2, i3, i4⟩ := B
  obtain ⟨n12, en⟩ := NSL_12 P
  have ed := D.edge V b1 b2 o1 o2 m cn
  have lo := D.1 o o1 o2
  have mo : M o < NSL h := by
    rcases V.1 o o2 with q | q
    · exact absurd q m
    · exact q.1
  have w1 := WSL_rg P (s := M o) (x := b) (by omega) (by omega)
  have w2 := WSL_rg P (s := M o) (x := o) (by omega) (by omega)
  have ib := i1 b b1 b2
  have vrg : 0 ≤ far b + WSL h (M o) b - WSL h (M o) o ∧ far b + WSL h (M o) b - WSL h (M o) o ≤ t' ∧ lam ≤ far b + WSL h (M o) b - WSL h (M o) o + al o := by
    rcases ib with y | y
    · exact absurd y fb
    · omega
  have keep : ∀ d y, k ≤ y → y < NSL h → far y ≠ 100000 → far y + al y ≤ far b + al b → RCH fr d y → RCH (fun x => if x = o then (b : Int) else fr x) d y := by
    intro d
    induction d with
    | zero =>
      intro y y1 y2 fy ly r
      have : y ≠ o := by intro e; subst e; omega
      show (if y = o then (b : Int) else fr y) = -1
      rw [if_neg this]; exact r
    | succ d ih =>
      intro y y1 y2 fy ly r
      have yo : y ≠ o := by intro e; subst e; omega
      obtain ⟨q, q1, q2⟩ := r
      refine ⟨q, (if_neg yo).trans q1, ?_⟩
      have my : M y ≠ 12 := by
        intro e
        have := (i2 y y1 y2 e).2.2
        omega
      obtain ⟨q', r1, r2, r3, r4, r5, r6, r7⟩ := i3 y y1 y2 my fy
      have : q' = q := by omega
      subst this
      have ed2 := D.edge V r2 r3 y1 y2 my r6
      exact ih q' r2 r3 r5 (by omega) q2
  refine ⟨fun x x1 x2 => ?_, fun x x1 x2 mx => ?_, fun x x1 x2 mx fx => ?_, fun x x1 x2 fx => ?_⟩
  · dsimp only
    by_cases e : x = o
    · subst e
      rw [if_pos rfl]; exact Or.inr vrg
    · rw [if_neg e]
      exact (i1 x x1 x2).imp_right (fun y => ⟨y.1, by omega, y.2.2⟩)
  · have e : x ≠ o := by intro e; subst e; exact m mx
    dsimp only
    rw [if_neg e, if_neg e]
    exact i2 x x1 x2 mx
  · dsimp only at fx ⊢
    by_cases e : x = o
    · subst e
      rw [if_pos rfl, if_pos rfl]
      refine ⟨b, rfl, b1, b2, fun z => ne z.symm, ?_, cn, ?_⟩
      · rw [if_neg (fun z => ne z.symm)]; exact fb
      · rw [if_neg (fun z => ne z.symm)]; exact Int.le_refl _
    · rw [if_neg e] at fx
      rw [if_neg e, if_neg e]
      obtain ⟨q, r1, r2, r3, r4, r5, r6, r7⟩ := i3 x x1 x2 mx fx
      refine ⟨q, r1, r2, r3, r4, ?_, r6, ?_⟩
      · by_cases z : q = o
        · rw [if_pos z]; omega
        · rw [if_neg z]; exact r5
      · by_cases z : q = o
        · rw [if_pos z]; subst z; omega
        · rw [if_neg z]; exact r7
  · have cb : ∃ d, RCH (fun x => if x = o then (b : Int) else fr x) d b := by
      obtain ⟨d, r⟩ := i4 b b1 b2 fb
      exact ⟨d, keep d b b1 b2 fb (Int.le_refl _) r⟩
    have all : ∀ d y, k ≤ y → y < NSL h → far y ≠ 100000 → RCH fr d y → ∃ d', RCH (fun x => if x = o then (b : Int) else fr x) d' y := by
      intro d
      induction d with
      | zero =>
        intro y y1 y2 fy r
        by_cases e : y = o
        · obtain ⟨d', r'⟩ := cb
          exact ⟨d' + 1, b, if_pos e, r'⟩
        · refine ⟨0, ?_⟩
          show (if y = o then (b : Int) else fr y) = -1
          rw [if_neg e]; exact r
      | succ d ih =>
        intro y y1 y2 fy r
        by_cases e : y = o
        · obtain ⟨d', r'⟩ := cb
          exact ⟨d' + 1, b, if_pos e, r'⟩
        · obtain ⟨q, q1, q2⟩ := r
          have my : M y ≠ 12 := by
            intro e
            have := (i2 y y1 y2 e).2.2
            omega
          obtain ⟨q', r1, r2, r3, r4, r5, r6, r7⟩ := i3 y y1 y2 my fy
          have : q' = q := by omega
          subst this
          obtain ⟨d', r'⟩ := ih q' r2 r3 r5 q2
          exact ⟨d' + 1, q', (if_neg e).trans q1, r'⟩
    by_cases e : x = o
    · obtain ⟨d', r'⟩ := cb
      exact ⟨d' + 1, b, if_pos e, r'⟩
    · dsimp only at fx
      rw [if_neg e] at fx
      obtain ⟨d, r⟩ := i4 x x1 x2 fx
      exact all d x x1 x2 fx r
