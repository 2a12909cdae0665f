/-! SHAKES: the reference's first of the best, sleeper by sleeper -/
theorem smI_mono {f : Nat → Int} {m : Nat} (p : ∀ i, 0 ≤ f i) : ∀ d, smI f m ≤ smI f (m + d)
  | 0 => Int.le_refl _
  | d + 1 => by
    have := smI_mono (m := m) p d
    have := p (m + d)
    show smI f m ≤ smI f (m + d) + f (m + d)
    omega
theorem LDV_mono (g : Nat → Nat) (a : Nat) {m n : Nat} (l : m ≤ n) : LDV g a m ≤ LDV g a n := by
  have := smI_mono (f := fun x => if g x = a then 1 else 0) (m := m) (fun i => by show (0 : Int) ≤ if g i = a then 1 else 0; split <;> decide) (n - m)
  rw [show m + (n - m) = n by omega] at this
  exact this
theorem LDV_congr {g p : Nat → Nat} {a n : Nat} (e : ∀ x, x < n → g x = p x) : LDV g a n = LDV p a n := smI_congr (fun i hi => by rw [e i hi])
def OPV (h : aH) (most least : Int) (g : Nat → Nat) : Prop := SMV g (NSL h) = most ∧ SWV h g (NSL h) = least
/-- the first b are settled as in the first of the best -/
def ALS (h : aH) (c : Nat) (most least : Int) (b : Nat) (p : Nat → Nat) (h1 : aH) : Prop :=
  FSM h h1 ∧ (∀ x, x < b → h1 175 x = ENC (p x)) ∧ PFX h c b p ∧ (∃ g, SV h c g ∧ OPV h most least g ∧ ∀ x, x < b → g x = p x) ∧ ∀ g, SV h c g → OPV h most least g → LXL p g b
theorem LXL_next {p g : Nat → Nat} {b a : Nat} (l : LXL p g b) (n : (∀ x, x < b → g x = p x) → a ≤ g b) : LXL (fun x => if x = b then a else p x) g (b + 1) := by
  rcases l with l | ⟨x, x1, x2, x3⟩
  · have := n (fun x hx => (l x hx).symm)
    rcases Nat.lt_or_ge a (g b) with y | y
    · exact Or.inr ⟨b, Nat.lt_succ_self b, fun x hx => by dsimp only; rw [if_neg (by omega)]; exact l x hx, by dsimp only; rw [if_pos rfl]; exact y⟩
    · refine Or.inl (fun x hx => ?_)
      dsimp only
      by_cases e : x = b
      · rw [if_pos e, e]; omega
      · rw [if_neg e]; exact l x (by omega)
  · refine Or.inr ⟨x, by omega, fun y hy => ?_, ?_⟩
    · dsimp only; rw [if_neg (by omega)]; exact x2 y hy
    · dsimp only; rw [if_neg (by omega)]; exact x3
theorem LDV_set {p : Nat → Nat} {b a v : Nat} : LDV (fun x => if x = b then a else p x) v (b + 1) = LDV p v b + (if a = v then 1 else 0) := by
  show LDV (fun x => if x = b then a else p x) v b + (if (if b = b then a else p b) = v then 1 else 0) = _
  rw [if_pos rfl, LDV_congr (g := fun x => if x = b then a else p x) (p := p) (fun x hx => if_neg (by omega))]
theorem PFX.next {h : aH} {c b a : Nat} {p : Nat → Nat} (F : PFX h c b p) (ok : a = 12 ∨ a < NSL h ∧ CANS h a b) (l : a < NSL h → LDV p a b < (c : Int)) : PFX h c (b + 1) (fun x => if x = b then a else p x) := by
  refine ⟨fun x hx => ?_, fun v hv => ?_⟩
  · dsimp only
    by_cases e : x = b
    · rw [if_pos e, e]; exact ok
    · rw [if_neg e]; exact F.1 x (by omega)
  · rw [LDV_set]
    by_cases e : a = v
    · rw [if_pos e, ← e]
      have := l (by omega)
      omega
    · rw [if_neg e]
      have := F.2 v hv
      omega
/-- what it leaves: the first of the best -/
def MSH (h : aH) (c : Nat) (h' : aH) : Prop := ∃ f, SOPT h c f ∧ FSM h h' ∧ ∀ x, x < NSL h → h' 175 x = ENC (f x)
theorem SBE_of {h : aH} {f g : Nat → Nat} (b : SBT h f g) : SBE h f g := by
  rcases b with b | ⟨b1, b | ⟨b2, _⟩⟩
  · exact Or.inl b
  · exact Or.inr ⟨b1, by omega⟩
  · exact Or.inr ⟨b1, by omega⟩
theorem m_sa39 {N : Nat} {C : aH → Prop} {h h1 : aH} {c b a : Nat} {most least : Int} {p : Nat → Nat} (X : X3 h) (hb : b < NSL h) (ha : a < NSL h) (G : ∀ g, SV h c g → SMV g (NSL h) < most ∨ SMV g (NSL h) = most ∧ least ≤ SWV h g (NSL h)) (K : ALS h c most least b p h1)
    (no : ∀ h', FSM h h' → (∀ x, x < b → h' 175 x = ENC (p x)) → (∀ g, SV h c g → OPV h most least g → (∀ x, x < b → g x = p x) → g b ≠ a) → WV N 311 25 [(0, .inr (.inr 130)), (1, .inl (c : Int)), (2, .inl most), (3, .inl least), (4, .inl (b : Int)), (5, .inl 0), (6, .inl ((a : Int) + 1))] h' C)
    (yes : ∀ h', FSM h h' → (∀ x, x < b + 1 → h' 175 x = ENC (if x = b then a else p x)) → PFX h c (b + 1) (fun x => if x = b then a else p x) → (∃ g, SV h c g ∧ OPV h most least g ∧ ∀ x, x < b + 1 → g x = if x = b then a else p x) → WV N 311 25 [(0, .inr (.inr 130)), (1, .inl (c : Int)), (2, .inl most), (3, .inl least), (4, .inl (b : Int)), (5, .inl 1), (6, .inl ((a : Int) + 1))] h' C) : ∀ (d k : Nat), d = b - k → k ≤ b →
    WV N 311 39 [(0, .inr (.inr 130)), (1, .inl (c : Int)), (2, .inl most), (3, .inl least), (4, .inl (b : Int)), (5, .inl 0), (6, .inl (a : Int)), (7, .inl (LDV p a k)), (8, .inl (k : Int))] h1 C := by
  obtain ⟨n12, en⟩ := X.n
  obtain ⟨f, e1, F, K4, K5⟩ := K
  intro d
  induction d with
  | zero =>
    intro k hd hk
    have : k = b := by omega
    subst this
    have ld := F.2 a ha
    refine w_311_39 ⟨fun _ => ⟨fun full => ck_rg (by omega) (no h1 f e1 (fun g V O eg ga => ?_)), fun room => mm_can X f ha hb (fun y => ⟨fun _ => ck_ix (by omega) (ck_rg (by omega) ?_), fun z => absurd (by decide) z⟩) (fun y => ⟨fun z => absurd rfl z, fun _ => ck_rg (by omega) (no h1 f e1 (fun g V O eg ga => ?_))⟩)⟩, fun z => absurd (Int.le_refl _) z⟩
    · have m := LDV_mono g a (show k + 1 ≤ NSL h by omega)
      have s : LDV g a (k + 1) = LDV g a k + (if g k = a then 1 else 0) := rfl
      rw [if_pos ga, LDV_congr eg] at s
      have : LDV g a (NSL h) ≤ (c : Int) := V.2 a ha
      omega
    · rw [Int.toNat_natCast]
      have F' : PFX h c (k + 1) (fun x => if x = k then a else p x) := F.next (Or.inr ⟨ha, y⟩) (fun _ => by omega)
      have on := m_shakesOn (N := N) (h1 := am_up h1 175 k (a : Int)) X (show k + 1 ≤ NSL h by omega) (Fr.up f (by decide) (by decide)) F' (fun x hx => by
        rw [up_in]
        by_cases e : x = k
        · rw [if_pos e, if_pos e]; exact (ENC_n (by omega)).symm
        · rw [if_neg e, if_neg e]; exact e1 x (by omega)) (C := fun h2 => (¬ h2 130 67 = most → (am_rg ((a : Int) + 1) ∧ WV N 311 25 [(0, .inr (.inr 130)), (1, .inl (c : Int)), (2, .inl most), (3, .inl least), (4, .inl (k : Int)), (5, .inl 0), (6, .inl ((a : Int) + 1))] h2 C)) ∧ (¬ ¬ h2 130 67 = most → ((¬ h2 130 68 = least → (am_rg ((a : Int) + 1) ∧ WV N 311 25 [(0, .inr (.inr 130)), (1, .inl (c : Int)), (2, .inl most), (3, .inl least), (4, .inl (k : Int)), (5, .inl 0), (6, .inl ((a : Int) + 1))] h2 C)) ∧ (¬ ¬ h2 130 68 = least → (am_rg ((a : Int) + 1) ∧ WV N 311 25 [(0, .inr (.inr 130)), (1, .inl (c : Int)), (2, .inl most), (3, .inl least), (4, .inl (k : Int)), (5, .inl 1), (6, .inl ((a : Int) + 1))] h2 C))))) (fun h2 S => ?_)
      · exact on
      · obtain ⟨M, f2, m1, m2, m3, m4, m5, m6⟩ := S
        have row : ∀ x, x < k + 1 → h2 175 x = ENC (if x = k then a else p x) := fun x hx => by rw [m1 x (by omega), m3 x hx]
        have bad : ¬ (SMV M (NSL h) = most ∧ SWV h M (NSL h) = least) → ∀ g, SV h c g → OPV h most least g → (∀ x, x < k → g x = p x) → g k ≠ a := by
          intro nb g V O eg ga
          have := m4 g V (fun x hx => by
            dsimp only
            by_cases e : x = k
            · rw [if_pos e, e]; exact ga
            · rw [if_neg e]; exact eg x (by omega))
          have gm := G M m2
          unfold SBE at this
          obtain ⟨o1, o2⟩ := O
          omega
        have row' : ∀ x, x < k → h2 175 x = ENC (p x) := fun x hx => by rw [row x (by omega), if_neg (by omega)]
        rw [m5, m6]
        exact ⟨fun z => ck_rg (by omega) (no h2 f2 row' (bad (fun q => z q.1))), fun z1 => ⟨fun z => ck_rg (by omega) (no h2 f2 row' (bad (fun q => z q.2))), fun z2 => ck_rg (by omega) (yes h2 f2 row F' ⟨M, m2, ⟨Classical.byContradiction z1, Classical.byContradiction z2⟩, m3⟩)⟩⟩
    · rcases V.1 k hb with q | q
      · omega
      · rw [ga] at q; exact y q.2
  | succ d ih =>
    intro k hd hk
    have nx := ih (k + 1) (by omega) (by omega)
    have s : LDV p a (k + 1) = LDV p a k + (if p k = a then 1 else 0) := rfl
    have l0 : 0 ≤ LDV p a k := smI_pos (fun i _ => by split <;> decide)
    have l1 : LDV p a k ≤ 1 * (k : Int) := smI_hi (fun i _ => by split <;> decide)
    refine w_311_39 ⟨fun z => by omega, fun _ => ck_ix (by omega) ?_⟩
    rw [Int.toNat_natCast, e1 k (by omega)]
    refine ⟨fun ne => ck_rg (by omega) ?_, fun eq => ck_rg (by omega) (ck_rg (by omega) ?_)⟩
    · rw [s, if_neg (fun e => ne (by rw [e]; exact ENC_n (by omega))), Int.add_zero] at nx
      exact nx
    · have eq := Classical.byContradiction eq
      have pa : p k = a := by unfold ENC at eq; split at eq <;> omega
      rw [s, if_pos pa] at nx
      exact nx
theorem m_sa25 {N : Nat} {C : aH → Prop} {h : aH} {c b : Nat} {most least : Int} {p : Nat → Nat} (X : X3 h) (hb : b < NSL h) (G : ∀ g, SV h c g → SMV g (NSL h) < most ∨ SMV g (NSL h) = most ∧ least ≤ SWV h g (NSL h)) (h0 : aH) (K : ALS h c most least b p h0)
    (nx : ∀ p' h', ALS h c most least (b + 1) p' h' → WV N 311 13 [(0, .inr (.inr 130)), (1, .inl (c : Int)), (2, .inl most), (3, .inl least), (4, .inl ((b : Int) + 1))] h' C) : ∀ (d a : Nat) (h1 : aH), d = NSL h - a → a ≤ NSL h → FSM h h1 → (∀ x, x < b → h1 175 x = ENC (p x)) → (∀ g, SV h c g → OPV h most least g → (∀ x, x < b → g x = p x) → a ≤ g b) →
    WV N 311 25 [(0, .inr (.inr 130)), (1, .inl (c : Int)), (2, .inl most), (3, .inl least), (4, .inl (b : Int)), (5, .inl 0), (6, .inl (a : Int))] h1 C := by
  obtain ⟨n12, en⟩ := X.n
  obtain ⟨f0, e0, F, K4, K5⟩ := K
  intro d
  induction d with
  | zero =>
    intro a h1 hd ha f e1 lo
    have : a = NSL h := by omega
    subst this
    obtain ⟨P1, R1, Q1⟩ := f.x X
    have hL := R1.1
    have hS := R1.2.1.2.2
    unfold Lv at hS
    rw [f.sl, ← en] at hS
    refine w_311_25 ?_
    rw [hS, Int.toNat_natCast]
    refine ck_ix (by omega) ⟨fun _ => ⟨fun z => absurd rfl z, fun _ => ck_ix (by omega) (ck_rg (by omega) (nx (fun x => if x = b then 12 else p x) _ ⟨Fr.up f (by decide) (by decide), fun x hx => ?_, F.next (Or.inl rfl) (fun z => by omega), ?_, fun g V O => LXL_next (K5 g V O) (fun eg => ?_)⟩))⟩, fun z => absurd (Int.le_refl _) z⟩
    · rw [up_in]
      dsimp only
      by_cases e : x = b
      · rw [if_pos e, if_pos e]; rfl
      · rw [if_neg e, if_neg e]; exact e1 x (by omega)
    · obtain ⟨g, V, O, eg⟩ := K4
      refine ⟨g, V, O, fun x hx => ?_⟩
      have := lo g V O eg
      dsimp only
      rcases V.at hb with q | q
      · by_cases e : x = b
        · rw [if_pos e, e]; exact q
        · rw [if_neg e]; exact eg x (by omega)
      · omega
    · have := lo g V O eg
      rcases V.at hb with q | q <;> omega
  | succ d ih =>
    intro a h1 hd ha f e1 lo
    obtain ⟨P1, R1, Q1⟩ := f.x X
    have hL := R1.1
    have hS := R1.2.1.2.2
    unfold Lv at hS
    rw [f.sl, ← en] at hS
    refine w_311_25 ?_
    rw [hS]
    refine ck_ix (by omega) ⟨fun z => by omega, fun _ => ⟨fun z => absurd rfl z, fun _ => ?_⟩⟩
    have key := m_sa39 (N := N) (C := C) (h1 := h1) X hb (show a < NSL h by omega) G ⟨f, e1, F, K4, K5⟩ (fun h' f' e' n => ih (a + 1) h' (by omega) (by omega) f' e' (fun g V O eg => by
      have := lo g V O eg
      have := n g V O eg
      omega)) (fun h' f' e' F' E' => ?_) _ 0 rfl (Nat.zero_le _)
    · exact key
    · obtain ⟨P2, R2, Q2⟩ := f'.x X
      have hL2 := R2.1
      have hS2 := R2.2.1.2.2
      unfold Lv at hS2
      rw [f'.sl, ← en] at hS2
      have go := nx (fun x => if x = b then a else p x) h' ⟨f', e', F', E', fun g V O => LXL_next (K5 g V O) (lo g V O)⟩
      refine w_311_25 ?_
      rw [hS2]
      exact ck_ix (by omega) ⟨fun _ => ⟨fun _ => ck_rg (by omega) go, fun z => absurd (by decide) z⟩, fun _ => ⟨fun _ => ⟨fun _ => ck_rg (by omega) go, fun z => absurd (by decide) z⟩, fun z => absurd (by decide) z⟩⟩
theorem m_sa13 {N : Nat} {C : aH → Prop} {h : aH} {c : Nat} {most least : Int} (X : X3 h) (G : ∀ g, SV h c g → SMV g (NSL h) < most ∨ SMV g (NSL h) = most ∧ least ≤ SWV h g (NSL h)) (hC : ∀ h', MSH h c h' → C h') : ∀ (d b : Nat) (p : Nat → Nat) (h1 : aH), d = NSL h - b → b ≤ NSL h → ALS h c most least b p h1 →
    WV N 311 13 [(0, .inr (.inr 130)), (1, .inl (c : Int)), (2, .inl most), (3, .inl least), (4, .inl (b : Int))] h1 C := by
  obtain ⟨n12, en⟩ := X.n
  intro d
  induction d with
  | zero =>
    intro b p h1 hd hb K
    have : b = NSL h := by omega
    subst this
    obtain ⟨f, e1, F, K4, K5⟩ := K
    obtain ⟨P1, R1, Q1⟩ := f.x X
    have hL := R1.1
    have hS := R1.2.1.2.2
    unfold Lv at hS
    rw [f.sl, ← en] at hS
    refine w_311_13 ?_
    rw [hS]
    refine ck_ix (by omega) ⟨fun _ => ck_ix (by omega) (m_shakesOn X (Nat.le_refl _) f F e1 (fun h2 S => hC h2 ?_)), fun z => absurd (Int.le_refl _) z⟩
    obtain ⟨M, f2, m1, m2, m3, m4, m5, m6⟩ := S
    obtain ⟨g, V, O, eg⟩ := K4
    have mg : ∀ x, x < NSL h → M x = g x := fun x hx => by rw [m3 x hx, eg x hx]
    have o1 : SMV M (NSL h) = most := by rw [← O.1]; exact smI_congr (fun i hi => by rw [mg i hi])
    have o2 : SWV h M (NSL h) = least := by rw [← O.2]; exact smI_congr (fun i hi => by rw [mg i hi])
    refine ⟨M, ⟨m2, fun g' V' => ?_⟩, f2, m1⟩
    unfold SBT
    rw [o1, o2]
    rcases G g' V' with y | ⟨y1, y2⟩
    · exact Or.inl y
    · refine Or.inr ⟨y1, ?_⟩
      rcases Int.lt_or_le least (SWV h g' (NSL h)) with z | z
      · exact Or.inl z
      · have ez : SWV h g' (NSL h) = least := by omega
        refine Or.inr ⟨ez.symm, ?_⟩
        rcases K5 g' V' ⟨y1, ez⟩ with l | ⟨x, x1, x2, x3⟩
        · exact Or.inl (fun x hx => by rw [m3 x hx]; exact l x hx)
        · exact Or.inr ⟨x, x1, fun y hy => by rw [m3 y (by omega)]; exact x2 y hy, by rw [m3 x x1]; exact x3⟩
  | succ d ih =>
    intro b p h1 hd hb K
    have b2 : b < NSL h := by omega
    have f := K.1
    obtain ⟨P1, R1, Q1⟩ := f.x X
    have hL := R1.1
    have hS := R1.2.1.2.2
    unfold Lv at hS
    rw [f.sl, ← en] at hS
    refine w_311_13 ?_
    rw [hS]
    exact ck_ix (by omega) ⟨fun z => by omega, fun _ => m_sa25 X b2 G h1 K (fun p' h' K' => ih (b + 1) p' h' (by omega) (by omega) K') _ 0 h1 rfl (Nat.zero_le _) K.1 K.2.1 (fun _ _ _ _ => Nat.zero_le _)⟩
theorem PFX.zero (h : aH) (c : Nat) (p : Nat → Nat) : PFX h c 0 p := ⟨fun x hx => absurd hx (Nat.not_lt_zero x), fun a _ => Int.natCast_nonneg c⟩
theorem m_shakesAll {N : Nat} {C : aH → Prop} {h : aH} {c : Nat} (X : X3 h) (hC : ∀ h', MSH h c h' → C h') : WV N 311 0 [(0, .inr (.inr 130)), (1, .inl (c : Int))] h C := by
  refine w_311_0 (m_shakesOn (k := 0) (p := fun _ => 12) X (Nat.zero_le _) Fr.rfl (PFX.zero h c _) (fun x hx => absurd hx (Nat.not_lt_zero x)) (fun h1 S => ?_))
  obtain ⟨M, f2, m1, m2, m3, m4, m5, m6⟩ := S
  rw [m5, m6]
  exact m_sa13 X (fun g V => m4 g V (fun x hx => absurd hx (Nat.not_lt_zero x))) hC _ 0 M h1 rfl (Nat.zero_le _) ⟨f2, fun x hx => absurd hx (Nat.not_lt_zero x), PFX.zero h c _, ⟨M, m2, ⟨rfl, rfl⟩, fun _ _ => rfl⟩, fun g _ _ => Or.inl (fun x hx => absurd hx (Nat.not_lt_zero x))⟩
