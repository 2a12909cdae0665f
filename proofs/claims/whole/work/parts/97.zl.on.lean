/-! SHAKES: the reference's matching, of what stands in front -/
def PPX (k : Nat) (p : Nat → Nat) (x : Nat) : Nat := if x < k then p x else 12
/-- what stands in front is allowed -/
def PFX (h : aH) (c k : Nat) (p : Nat → Nat) : Prop := (∀ x, x < k → p x = 12 ∨ p x < NSL h ∧ CANS h (p x) x) ∧ ∀ a, a < NSL h → LDV p a k ≤ (c : Int)
theorem LDV_ppx {k : Nat} {p : Nat → Nat} {a : Nat} (a12 : a ≠ 12) : ∀ d, LDV (PPX k p) a (k + d) = LDV p a k
  | 0 => smI_congr (fun i hi => by unfold PPX; rw [if_pos (show i < k from hi)])
  | d + 1 => by
    have ih := LDV_ppx (k := k) (p := p) a12 d
    show LDV (PPX k p) a (k + d) + (if PPX k p (k + d) = a then 1 else 0) = _
    rw [ih]
    unfold PPX
    rw [if_neg (show ¬ k + d < k by omega), if_neg (fun e => a12 e.symm)]
    omega
theorem PFX.sv {h : aH} (X : X3 h) {c k : Nat} {p : Nat → Nat} (F : PFX h c k p) (hk : k ≤ NSL h) : SV h c (PPX k p) := by
  have n12 := X.n.1
  refine ⟨fun x hx => ?_, fun a ha => ?_⟩
  · unfold PPX
    by_cases e : x < k
    · rw [if_pos e]; exact F.1 x e
    · rw [if_neg e]; exact Or.inl rfl
  · have := LDV_ppx (k := k) (p := p) (a := a) (by omega) (NSL h - k)
    rw [show k + (NSL h - k) = NSL h by omega] at this
    show LDV (PPX k p) a (NSL h) ≤ _
    rw [this]
    exact F.2 a ha
/-- what it leaves -/
def SON (h : aH) (c k : Nat) (p : Nat → Nat) (h' : aH) : Prop := ∃ M, FSM h h' ∧ (∀ x, x < NSL h → h' 175 x = ENC (M x)) ∧ SV h c M ∧ (∀ x, x < k → M x = p x) ∧ (∀ M', SV h c M' → (∀ x, x < k → M' x = p x) → SBE h M M') ∧ h' 130 67 = SMV M (NSL h) ∧ h' 130 68 = SWV h M (NSL h)
theorem SMV_rg (g : Nat → Nat) (n : Nat) : 0 ≤ SMV g n ∧ SMV g n ≤ (n : Int) := by
  have a := smI_pos (f := fun x => if g x = 12 then (0 : Int) else 1) (k := n) (fun i _ => by split <;> decide)
  have b := smI_hi (f := fun x => if g x = 12 then (0 : Int) else 1) (v := 1) (k := n) (fun i _ => by split <;> decide)
  unfold SMV
  omega
theorem SWV_rg {h : aH} (X : X3 h) {c : Nat} {g : Nat → Nat} (V : SV h c g) {n : Nat} (hn : n ≤ NSL h) : 0 ≤ SWV h g n ∧ SWV h g n ≤ 19 * (n : Int) := by
  obtain ⟨n12, en⟩ := X.n
  have rg : ∀ i, i < n → 0 ≤ (if g i = 12 then 0 else WSL h (g i) i) ∧ (if g i = 12 then 0 else WSL h (g i) i) ≤ 19 := fun i hi => by
    by_cases e : g i = 12
    · rw [if_pos e]; decide
    · rw [if_neg e]
      have := V.lt (by omega) e
      have := WSL_rg X.1 (s := g i) (x := i) (by omega) (by omega)
      omega
  exact ⟨smI_pos (fun i hi => (rg i hi).1), smI_hi (fun i hi => (rg i hi).2)⟩
theorem m_so74 {N : Nat} {C : aH → Prop} {h : aH} {c : Nat} {M : Nat → Nat} (X : X3 h) (V : SV h c M) (hC : ∀ h', FSM h h' → (∀ x, x < NSL h → h' 175 x = ENC (M x)) → h' 130 67 = SMV M (NSL h) → h' 130 68 = SWV h M (NSL h) → C h') : ∀ (d x : Nat) (h1 : aH), d = NSL h - x → x ≤ NSL h → FSM h h1 → (∀ x, x < NSL h → h1 175 x = ENC (M x)) → h1 130 67 = SMV M x → h1 130 68 = SWV h M x →
    WV N 306 74 [(0, .inr (.inr 130)), (3, .inl (NSL h : Int)), (5, .inl (x : Int))] h1 C := by
  obtain ⟨n12, en⟩ := X.n
  intro d
  induction d with
  | zero =>
    intro x h1 hd hx f e1 e2 e3
    have : x = NSL h := by omega
    subst this
    exact w_306_74 ⟨fun _ => hC h1 f e1 e2 e3, fun z => absurd (Int.le_refl _) z⟩
  | succ d ih =>
    intro x h1 hd hx f e1 e2 e3
    have x2 : x < NSL h := by omega
    have b1 := SMV_rg M x
    have b2 := SWV_rg X V (show x ≤ NSL h by omega)
    have s1 : SMV M (x + 1) = SMV M x + (if M x = 12 then 0 else 1) := rfl
    have s2 : SWV h M (x + 1) = SWV h M x + (if M x = 12 then 0 else WSL h (M x) x) := rfl
    refine w_306_74 ⟨fun z => by omega, fun _ => ck_ix (by omega) ?_⟩
    rw [Int.toNat_natCast, e1 x x2, e2, e3]
    refine ⟨fun nz => ?_, fun z => ck_rg (by omega) (ih (x + 1) h1 (by omega) (by omega) f e1 ?_ ?_)⟩
    · have m : M x ≠ 12 := fun z => nz (ENC_m.mpr z)
      have mo := V.lt x2 m
      have w := WSL_rg X.1 (s := M x) (x := x) (by omega) (by omega)
      rw [ENC_n m]
      rw [if_neg m] at s1 s2
      have f2 : FSM h (am_up h1 130 67 (SMV M x + 1)) := Fr.upM f (by decide)
      refine ck_rg (by omega) (ck_ix (by omega) (mm_wsl X f2 mo x2 (ck_rg (by omega) (ck_rg (by omega) ?_))))
      exact ih (x + 1) _ (by omega) (by omega) (Fr.upM f2 (by decide)) (fun y hy => by rw [up_row (by decide), up_row (by decide)]; exact e1 y hy) (by rw [up_ne (by decide), up_same, s1]) (by rw [up_same, s2])
    · rw [e2, s1, if_pos (ENC_m.mp (Classical.byContradiction z))]; omega
    · rw [e3, s2, if_pos (ENC_m.mp (Classical.byContradiction z))]; omega
theorem m_so57 {N : Nat} {C : aH → Prop} {h : aH} {c k : Nat} {p : Nat → Nat} (X : X3 h) (hk : k ≤ NSL h) (hC : ∀ h', SON h c k p h' → C h') : ∀ (d : Nat) (M : Nat → Nat) (lam : Int) (al be : Nat → Int) (h1 : aH), (d : Int) = (NSL h : Int) - SMV M (NSL h) → RSH h M h1 → DUA h k c M lam al be → SV h c M → (∀ x, x < k → M x = p x) →
    WV N 306 57 [(0, .inr (.inr 130)), (1, .inl (k : Int)), (2, .inl (c : Int)), (3, .inl (NSL h : Int)), (4, .inl 1)] h1 C := by
  intro d
  induction d with
  | zero =>
    intro M lam al be h1 hd K D V e
    refine w_306_57 ⟨fun z => absurd z (by decide), fun _ => m_oneMore X hk K D V (fun h2 O => ?_) (fun h2 O => ?_)⟩
    · obtain ⟨K2, V2, best⟩ := O
      refine w_306_57 ⟨fun _ => ?_, fun z => absurd rfl z⟩
      exact m_so74 X V2 (fun h' f e1 e2 e3 => hC h' ⟨M, f, e1, V2, e, fun M' V' e' => best M' V' (fun x hx => by rw [e' x hx, e x hx]), e2, e3⟩) _ 0 _ rfl (Nat.zero_le _) (Fr.upM (Fr.upM K2.1 (by decide)) (by decide)) (fun x hx => by rw [up_row (by decide), up_row (by decide)]; exact K2.2.1 x hx) (by rw [up_ne (by decide), up_same]; rfl) (by rw [up_same]; rfl)
    · exfalso
      obtain ⟨M', lam', al', be', K2, D2, V2, e2, s2⟩ := O
      have := SMV_rg M' (NSL h)
      omega
  | succ d ih =>
    intro M lam al be h1 hd K D V e
    refine w_306_57 ⟨fun z => absurd z (by decide), fun _ => m_oneMore X hk K D V (fun h2 O => ?_) (fun h2 O => ?_)⟩
    · obtain ⟨K2, V2, best⟩ := O
      refine w_306_57 ⟨fun _ => ?_, fun z => absurd rfl z⟩
      exact m_so74 X V2 (fun h' f e1 e2 e3 => hC h' ⟨M, f, e1, V2, e, fun M' V' e' => best M' V' (fun x hx => by rw [e' x hx, e x hx]), e2, e3⟩) _ 0 _ rfl (Nat.zero_le _) (Fr.upM (Fr.upM K2.1 (by decide)) (by decide)) (fun x hx => by rw [up_row (by decide), up_row (by decide)]; exact K2.2.1 x hx) (by rw [up_ne (by decide), up_same]; rfl) (by rw [up_same]; rfl)
    · obtain ⟨M', lam', al', be', K2, D2, V2, e2, s2⟩ := O
      exact ih M' lam' al' be' h2 (by omega) K2 D2 V2 (fun x hx => by rw [e2 x hx, e x hx])
theorem m_so9 {N : Nat} {C : aH → Prop} {h : aH} {c k : Nat} {p : Nat → Nat} (X : X3 h) (hC : ∀ h', FSM h h' → (∀ x, x < NSL h → h' 175 x = ENC (PPX k p x)) → WV N 306 22 [(0, .inr (.inr 130)), (1, .inl (k : Int)), (2, .inl (c : Int)), (3, .inl (NSL h : Int)), (4, .inl 0)] h' C) : ∀ (d b : Nat) (h1 : aH), d = NSL h - b → k ≤ b → b ≤ NSL h → FSM h h1 → (∀ x, x < b → h1 175 x = ENC (PPX k p x)) →
    WV N 306 9 [(0, .inr (.inr 130)), (1, .inl (k : Int)), (2, .inl (c : Int)), (3, .inl (NSL h : Int)), (4, .inl (b : Int))] h1 C := by
  obtain ⟨n12, en⟩ := X.n
  intro d
  induction d with
  | zero =>
    intro b h1 hd b1 hb f e1
    have : b = NSL h := by omega
    subst this
    exact w_306_9 ⟨fun _ => hC h1 f e1, fun z => absurd (Int.le_refl _) z⟩
  | succ d ih =>
    intro b h1 hd b1 hb f e1
    refine w_306_9 ⟨fun z => by omega, fun _ => ck_ix (by omega) (ck_rg (by omega) ?_)⟩
    rw [Int.toNat_natCast]
    refine ih (b + 1) _ (by omega) (by omega) (by omega) (Fr.up f (by decide) (by decide)) (fun x hx => ?_)
    rw [up_in]
    by_cases e : x = b
    · rw [if_pos e, e]
      unfold PPX
      rw [if_neg (by omega)]
      rfl
    · rw [if_neg e]; exact e1 x (by omega)
theorem m_so33 {N : Nat} {C : aH → Prop} {h : aH} {c k a : Nat} {p : Nat → Nat} (X : X3 h) (hk : k ≤ NSL h) (ha : a < NSL h) (h0 : aH) (e0 : ∀ x, x < NSL h → h0 175 x = ENC (PPX k p x)) (hC : ∀ h', Fr [176] [] h0 h' → (∀ v, v ≠ a → h' 176 v = h0 176 v) → h' 176 a = LDV p a k → WV N 306 22 [(0, .inr (.inr 130)), (1, .inl (k : Int)), (2, .inl (c : Int)), (3, .inl (NSL h : Int)), (4, .inl ((a : Int) + 1))] h' C) : ∀ (d b : Nat) (h1 : aH), d = k - b → b ≤ k → Fr [176] [] h0 h1 → (∀ v, v ≠ a → h1 176 v = h0 176 v) → h1 176 a = LDV p a b →
    WV N 306 33 [(0, .inr (.inr 130)), (1, .inl (k : Int)), (2, .inl (c : Int)), (3, .inl (NSL h : Int)), (4, .inl (a : Int)), (5, .inl (b : Int))] h1 C := by
  obtain ⟨n12, en⟩ := X.n
  intro d
  induction d with
  | zero =>
    intro b h1 hd hb f e1 e2
    have : b = k := by omega
    subst this
    exact w_306_33 ⟨fun _ => ck_rg (by omega) (hC h1 f e1 e2), fun z => absurd (Int.le_refl _) z⟩
  | succ d ih =>
    intro b h1 hd hb f e1 e2
    have pb : PPX k p b = p b := by unfold PPX; rw [if_pos (by omega)]
    have s1 : LDV p a (b + 1) = LDV p a b + (if p b = a then 1 else 0) := rfl
    have l0 : 0 ≤ LDV p a b := smI_pos (fun i _ => by split <;> decide)
    have l1 : LDV p a b ≤ 1 * (b : Int) := smI_hi (fun i _ => by split <;> decide)
    refine w_306_33 ⟨fun z => by omega, fun _ => ck_ix (by omega) ?_⟩
    rw [Int.toNat_natCast, Int.toNat_natCast, f.at 175 (by decide) (by decide), e0 b (by omega), pb, e2]
    refine ⟨fun ne => ck_rg (by omega) (ih (b + 1) h1 (by omega) (by omega) f e1 ?_), fun eq => ck_ix (by omega) (ck_rg (by omega) (ck_ix (by omega) (ck_rg (by omega) (ih (b + 1) _ (by omega) (by omega) (f.up (by decide) (by decide)) (fun v hv => ?_) ?_))))⟩
    · rw [e2, s1, if_neg (fun e => ne (by rw [e]; exact ENC_n (by omega)))]; omega
    · rw [up_ne hv]; exact e1 v hv
    · rw [up_same, s1, if_pos ?_]
      have eq := Classical.byContradiction eq
      unfold ENC at eq
      split at eq <;> omega
theorem m_so22 {N : Nat} {C : aH → Prop} {h : aH} {c k : Nat} {p : Nat → Nat} (X : X3 h) (hk : k ≤ NSL h) (hC : ∀ h', RSH h (PPX k p) h' → WV N 306 57 [(0, .inr (.inr 130)), (1, .inl (k : Int)), (2, .inl (c : Int)), (3, .inl (NSL h : Int)), (4, .inl 1)] h' C) : ∀ (d a : Nat) (h1 : aH), d = NSL h - a → a ≤ NSL h → FSM h h1 → (∀ x, x < NSL h → h1 175 x = ENC (PPX k p x)) → (∀ v, v < a → h1 176 v = LDV p v k) →
    WV N 306 22 [(0, .inr (.inr 130)), (1, .inl (k : Int)), (2, .inl (c : Int)), (3, .inl (NSL h : Int)), (4, .inl (a : Int))] h1 C := by
  obtain ⟨n12, en⟩ := X.n
  intro d
  induction d with
  | zero =>
    intro a h1 hd ha f e1 e2
    have : a = NSL h := by omega
    subst this
    refine w_306_22 ⟨fun _ => hC h1 ⟨f, e1, fun v hv => ?_⟩, fun z => absurd (Int.le_refl _) z⟩
    rw [e2 v hv]
    have := LDV_ppx (k := k) (p := p) (a := v) (by omega) (NSL h - k)
    rw [show k + (NSL h - k) = NSL h by omega] at this
    exact this.symm
  | succ d ih =>
    intro a h1 hd ha f e1 e2
    refine w_306_22 ⟨fun z => by omega, fun _ => ck_ix (by omega) ?_⟩
    rw [Int.toNat_natCast]
    refine m_so33 X hk (show a < NSL h by omega) (am_up h1 176 a 0) (fun x hx => by rw [up_row (by decide)]; exact e1 x hx) (fun h2 f2 g1 g2 => ih (a + 1) h2 (by omega) (by omega) (Fr.trans (Fr.up f (by decide) (by decide)) (f2.mono (by decide) (by decide))) (fun x hx => ?_) (fun v hv => ?_)) _ 0 _ rfl (Nat.zero_le _) Fr.rfl (fun _ _ => rfl) (by rw [up_same]; rfl)
    · rw [f2.at 175 (by decide) (by decide), up_row (by decide)]; exact e1 x hx
    · by_cases e : v = a
      · rw [e]; exact g2
      · rw [g1 v e, up_ne e]; exact e2 v (by omega)
theorem m_shakesOn {N : Nat} {C : aH → Prop} {h h1 : aH} {c k : Nat} {p : Nat → Nat} (X : X3 h) (hk : k ≤ NSL h) (f : FSM h h1) (F : PFX h c k p) (e : ∀ x, x < k → h1 175 x = ENC (p x)) (hC : ∀ h', SON h c k p h' → C h') : WV N 306 0 [(0, .inr (.inr 130)), (1, .inl (k : Int)), (2, .inl (c : Int))] h1 C := by
  obtain ⟨n12, en⟩ := X.n
  obtain ⟨P1, R1, Q1⟩ := f.x X
  have hL := R1.1
  have hS := R1.2.1.2.2
  unfold Lv at hS
  rw [f.sl, ← en] at hS
  refine w_306_0 ?_
  rw [hS]
  refine ck_ix (by omega) (m_so9 X (fun h2 f2 e2 => ?_) _ k h1 rfl (Nat.le_refl k) hk f (fun x hx => by unfold PPX; rw [if_pos hx]; exact e x hx))
  refine m_so22 X hk (fun h3 K3 => ?_) _ 0 h2 rfl (Nat.zero_le _) f2 e2 (fun v hv => absurd hv (Nat.not_lt_zero v))
  have un : ∀ x, k ≤ x → x < NSL h → PPX k p x = 12 := fun x x1 x2 => by unfold PPX; rw [if_neg (by omega)]
  have := SMV_rg (PPX k p) (NSL h)
  exact m_so57 X hk hC ((NSL h : Int) - SMV (PPX k p) (NSL h)).toNat (PPX k p) 0 _ _ h3 (by omega) K3 (DUA.zero X.1 un) (F.sv X hk) (fun x hx => by unfold PPX; rw [if_pos hx])
