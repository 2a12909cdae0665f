/-! SHAKES: the reference's one more: the nearest who has room, and the change over -/
def SEL (h : aH) (k c : Nat) (M : Nat → Nat) (far : Nat → Int) (b a : Nat) (least who last : Int) : Prop :=
  (∀ b' a', (b' < b ∨ b' = b ∧ a' < a) → k ≤ b' → b' < NSL h → far b' ≠ 100000 → a' < NSL h → CANS h a' b' → LDV M a' (NSL h) < (c : Int) → least ≤ far b' + WSL h a' b') ∧
  ((who = -1 ∧ least = 100000 ∧ last = -1) ∨ ∃ w l : Nat, who = (w : Int) ∧ last = (l : Int) ∧ w < NSL h ∧ k ≤ l ∧ l < NSL h ∧ far l ≠ 100000 ∧ CANS h w l ∧ LDV M w (NSL h) < (c : Int) ∧ least = far l + WSL h w l)
theorem m_om215 {N : Nat} {C : Int → aH → Prop} {h : aH} {k c : Nat} {M0 : Nat → Nat} {lam lam' : Int} {al al' be' far fr : Nat → Int} {t : Int} {T : Nat → Prop} {who : Nat} (X : X3 h) (D : DUA h k c M0 lam' al' be') (V : SV h c M0) (B : BFI h k M0 lam al far fr t) (w1 : who < NSL h) (room : LDV M0 who (NSL h) < (c : Int)) (hT : ∀ x, T x → (k ≤ x ∧ x < NSL h ∧ far x ≠ 100000) ∧ ∀ b : Nat, M0 x ≠ 12 → fr x = (b : Int) → T b ∧ b ≠ x ∧ CANS h (M0 x) b ∧ al' b = WSL h (M0 x) b + be' (M0 x))
    (hC : ∀ h' M, RSH h M h' → DUA h k c M lam' al' be' → SV h c M → (∀ x, x < k → M x = M0 x) → SMV M (NSL h) = SMV M0 (NSL h) + 1 → C 1 h') : ∀ (d : Nat) (M : Nat → Nat) (a b : Nat) (h1 : aH), FSM h h1 → h1 178 = fr → (∀ x, x < NSL h → h1 175 x = ENC (M x)) → (∀ v, v < NSL h → h1 176 v = LDV M0 v (NSL h) + (if who = v then 1 else 0)) → WLK h k al' be' M0 M who a → WLB h al' be' fr T M0 M a b d →
    WI N 307 215 [(0, .inr (.inr 130)), (7, .inl (a : Int)), (8, .inl (b : Int))] h1 C := by
  obtain ⟨n12, en⟩ := X.n
  intro d
  induction d with
  | zero =>
    intro M a b h1 f e1 e2 e3 K L
    obtain ⟨S1, S2⟩ := WLK.step B hT K L
    have b2 := (hT b L.1).1.2.1
    refine w_307_215 ⟨fun z => by omega, fun _ => ck_ix (by omega) (ck_ix (by omega) (ck_ix (by omega) ?_))⟩
    rw [Int.toNat_natCast, e1, e2 b b2]
    rcases S2 with ⟨z1, z2⟩ | ⟨b', d', z1, z2, z3⟩
    · rw [z1, z2, ENC_12]
      rw [z2] at S1
      obtain ⟨g1, g2, g3, g4, g5⟩ := S1.fin D V n12 w1 room
      refine w_307_215 ⟨fun _ => ck_t1 (hC _ _ ⟨Fr.up f (by decide) (by decide), fun x hx => ?_, fun v hv => ?_⟩ g1 g2 g3 g4), fun z => absurd rfl z⟩
      · rw [up_in]
        by_cases q : x = b
        · rw [if_pos q, if_pos q]; exact (ENC_n L.2.2.2.1).symm
        · rw [if_neg q, if_neg q]; exact e2 x hx
      · rw [up_row (by decide), e3 v hv, g5 v hv]
    · omega
  | succ d ih =>
    intro M a b h1 f e1 e2 e3 K L
    obtain ⟨S1, S2⟩ := WLK.step B hT K L
    have b2 := (hT b L.1).1.2.1
    refine w_307_215 ⟨fun z => by omega, fun _ => ck_ix (by omega) (ck_ix (by omega) (ck_ix (by omega) ?_))⟩
    rw [Int.toNat_natCast, e1, e2 b b2]
    have er : ∀ x, x < NSL h → am_up h1 175 b (a : Int) 175 x = ENC (if x = b then a else M x) := fun x hx => by
      rw [up_in]
      by_cases q : x = b
      · rw [if_pos q, if_pos q]; exact (ENC_n L.2.2.2.1).symm
      · rw [if_neg q, if_neg q]; exact e2 x hx
    rcases S2 with ⟨z1, z2⟩ | ⟨b', d', z1, z2, z3⟩
    · rw [z1, z2, ENC_12]
      rw [z2] at S1
      obtain ⟨g1, g2, g3, g4, g5⟩ := S1.fin D V n12 w1 room
      exact w_307_215 ⟨fun _ => ck_t1 (hC _ _ ⟨Fr.up f (by decide) (by decide), er, fun v hv => by rw [up_row (by decide), e3 v hv, g5 v hv]⟩ g1 g2 g3 g4), fun z => absurd rfl z⟩
    · have : d' = d := by omega
      subst this
      rw [z1, ENC_n z3.2.2.2.1]
      exact ih _ _ b' _ (Fr.up f (by decide) (by decide)) (by rw [up_row (by decide)]; exact e1) er (fun v hv => by rw [up_row (by decide)]; exact e3 v hv) S1 z3
/-- what one more leaves: nothing more can be done, or one more is shaken -/
def OM1 (h : aH) (k c : Nat) (M0 : Nat → Nat) (h' : aH) : Prop := ∃ M lam al be, RSH h M h' ∧ DUA h k c M lam al be ∧ SV h c M ∧ (∀ x, x < k → M x = M0 x) ∧ SMV M (NSL h) = SMV M0 (NSL h) + 1
def OM0 (h : aH) (k c : Nat) (M : Nat → Nat) (h' : aH) : Prop := RSH h M h' ∧ SV h c M ∧ ∀ M', SV h c M' → (∀ x, x < k → M' x = M x) → SBE h M M'
theorem m_om138 {N : Nat} {C : Int → aH → Prop} {h : aH} {k c : Nat} {M : Nat → Nat} {lam : Int} {al be far fr : Nat → Int} (X : X3 h) (D : DUA h k c M lam al be) (V : SV h c M) (B : BFI h k M lam al far fr 2592) (E : DNE h k M far) (hk : k ≤ NSL h) (c0 : ∀ h', OM0 h k c M h' → C 0 h') (c1 : ∀ h', OM1 h k c M h' → C 1 h') (h1 : aH) (K : RSH h M h1) (ef : h1 177 = far) (er : h1 178 = fr) : ∀ (d b : Nat) (least who last : Int), d = NSL h - b → k ≤ b → b ≤ NSL h → SEL h k c M far b 0 least who last →
    WI N 307 138 [(0, .inr (.inr 130)), (2, .inl (c : Int)), (3, .inl (NSL h : Int)), (4, .inl least), (5, .inl who), (6, .inl last), (7, .inl (b : Int))] h1 C := by
  obtain ⟨n12, en⟩ := X.n
  have inner : ∀ b, k ≤ b → b < NSL h → far b ≠ 100000 → (∀ least who last, SEL h k c M far (b + 1) 0 least who last → WI N 307 138 [(0, .inr (.inr 130)), (2, .inl (c : Int)), (3, .inl (NSL h : Int)), (4, .inl least), (5, .inl who), (6, .inl last), (7, .inl ((b : Int) + 1))] h1 C) →
      ∀ (d a : Nat) (least who last : Int), d = NSL h - a → a ≤ NSL h → SEL h k c M far b a least who last → WI N 307 151 [(0, .inr (.inr 130)), (2, .inl (c : Int)), (3, .inl (NSL h : Int)), (4, .inl least), (5, .inl who), (6, .inl last), (7, .inl (b : Int)), (8, .inl (a : Int))] h1 C := by
    intro b b1 b2 fb nxb d
    induction d with
    | zero =>
      intro a least who last hd ha S
      have : a = NSL h := by omega
      subst this
      refine w_307_151 ⟨fun _ => w_307_195 (ck_rg (by omega) (nxb _ _ _ ⟨fun b' a' o p1 p2 p3 p4 => S.1 b' a' (by omega) p1 p2 p3 p4, S.2⟩)), fun z => absurd (Int.le_refl _) z⟩
    | succ d ih =>
      intro a least who last hd ha S
      have a1 : a < NSL h := by omega
      have skip : ∀ least' who' last', SEL h k c M far b (a + 1) least' who' last' → WI N 307 192 [(0, .inr (.inr 130)), (2, .inl (c : Int)), (3, .inl (NSL h : Int)), (4, .inl least'), (5, .inl who'), (6, .inl last'), (7, .inl (b : Int)), (8, .inl (a : Int))] h1 C :=
        fun l' w' t' S' => w_307_192 (ck_rg (by omega) (ih (a + 1) l' w' t' (by omega) (by omega) S'))
      have same : (CANS h a b → LDV M a (NSL h) < (c : Int) → least ≤ far b + WSL h a b) → SEL h k c M far b (a + 1) least who last := fun n => ⟨fun b' a' o p1 p2 p3 p4 p5 p6 => by
        by_cases e : b' = b ∧ a' = a
        · obtain ⟨rfl, rfl⟩ := e
          exact n p5 p6
        · exact S.1 b' a' (by omega) p1 p2 p3 p4 p5 p6, S.2⟩
      have ld : LDV M a (NSL h) ≤ (c : Int) := V.2 a a1
      refine w_307_151 ⟨fun z => by omega, fun _ => ck_ix (by omega) ?_⟩
      rw [Int.toNat_natCast, Int.toNat_natCast, K.2.2 a a1]
      refine ⟨fun full => skip _ _ _ (same (fun _ z => by omega)), fun room => mm_can X K.1 a1 b2 (fun y => ⟨fun z => absurd z (by decide), fun _ => ck_ix (by omega) ?_⟩) (fun y => ⟨fun _ => skip _ _ _ (same (fun z => absurd z y)), fun z => absurd rfl z⟩)⟩
      have fB := B.1 b b1 b2
      have w := WSL_rg X.1 (s := a) (x := b) (by omega) (by omega)
      rw [ef]
      refine mm_wsl X K.1 a1 b2 (ck_rg (by omega) ⟨fun lt => ?_, fun ge => skip _ _ _ (same (fun _ _ => by omega))⟩)
      have nxt := skip (far b + WSL h a b) (a : Int) (b : Int) ⟨fun b' a' o p1 p2 p3 p4 p5 p6 => by
        by_cases e : b' = b ∧ a' = a
        · obtain ⟨rfl, rfl⟩ := e
          exact Int.le_refl _
        · have := S.1 b' a' (by omega) p1 p2 p3 p4 p5 p6
          omega, Or.inr ⟨a, b, rfl, rfl, a1, b1, b2, fb, y, by omega, rfl⟩⟩
      exact ck_ix (by omega) (mm_wsl X K.1 a1 b2 (by rw [ef]; exact ck_rg (by omega) nxt))
  intro d
  induction d with
  | zero =>
    intro b least who last hd b1 hb S
    have : b = NSL h := by omega
    subst this
    refine w_307_138 ⟨fun _ => ?_, fun z => absurd (Int.le_refl _) z⟩
    obtain ⟨S1, S2⟩ := S
    rcases S2 with ⟨z1, z2, z3⟩ | ⟨w, l, z1, z2, z3, z4, z5, z6, z7, z8, z9⟩
    · subst z1
      refine ⟨fun z => absurd rfl z, fun _ => ck_t0 (c0 h1 ⟨K, V, ?_⟩)⟩
      have full : ∀ a b, a < NSL h → k ≤ b → b < NSL h → far b ≠ 100000 → CANS h a b → ¬ LDV M a (NSL h) < (c : Int) := by
        intro a b a1 b1 b2 fb cn room
        have := S1 b a (Or.inl b2) b1 b2 fb a1 cn room
        have fB := B.1 b b1 b2
        have w := WSL_rg X.1 (s := a) (x := b) (by omega) (by omega)
        omega
      rcases Int.lt_or_le lam 1000 with lt | ge
      · obtain ⟨al', be', D'⟩ := D.raise X.1 V B E full (by decide) (max 0 (1000 - lam)) (by omega)
        exact D'.best X.1 (by omega) V
      · exact D.best X.1 ge V
    · subst z1 z2
      refine ⟨fun _ => ?_, fun z => absurd (by omega) z⟩
      rw [Int.toNat_natCast, K.2.2 w z3]
      have ld : LDV M w (NSL h) < (c : Int) := z8
      have l0 : 0 ≤ LDV M w (NSL h) := smI_pos (fun i _ => by split <;> decide)
      have l1 : LDV M w (NSL h) ≤ 1 * (NSL h : Int) := smI_hi (fun i _ => by split <;> decide)
      refine ck_ix (by omega) (ck_rg (by omega) (ck_ix (by omega) ?_))
      obtain ⟨lam', al', be', T, D', Tl, ta, hT⟩ := D.way X.1 V B E (by decide) z3 z4 z5 z6 z7 z8 (fun a b a1 b1 b2 fb cn room => by rw [← z9]; exact S1 b a (Or.inl b2) b1 b2 fb a1 cn room)
      obtain ⟨d, rc⟩ := B.2.2.2 l z4 z5 z6
      have w12 : w ≠ 12 := by omega
      refine m_om215 X D' V B z3 z8 hT (fun h' M' a1 a2 a3 a4 a5 => c1 h' ⟨M', lam', al', be', a1, a2, a3, a4, a5⟩) d M w l _ (Fr.up K.1 (by decide) (by decide)) (by rw [up_row (by decide)]; exact er) (fun x hx => by rw [up_row (by decide)]; exact K.2.1 x hx) (fun v hv => ?_) (WLK.start D' V w12) ⟨Tl, rc, fun _ _ _ _ => rfl, w12, z3, z7, ta⟩
      rw [up_in]
      by_cases q : v = w
      · rw [if_pos q, q, if_pos rfl]
      · rw [if_neg q, if_neg (fun e => q e.symm), K.2.2 v hv]; omega
  | succ d ih =>
    intro b least who last hd b1 hb S
    have b2 : b < NSL h := by omega
    refine w_307_138 ⟨fun z => by omega, fun _ => ck_ix (by omega) ?_⟩
    rw [Int.toNat_natCast, ef]
    refine ⟨fun fb => inner b b1 b2 fb (fun l' w' t' S' => ih (b + 1) l' w' t' (by omega) (by omega) (by omega) S') _ 0 _ _ _ rfl (Nat.zero_le _) S, fun nf => w_307_195 (ck_rg (by omega) (ih (b + 1) _ _ _ (by omega) (by omega) (by omega) ⟨fun b' a' o p1 p2 p3 => ?_, S.2⟩))⟩
    have nb : b' ≠ b := by intro e; subst e; exact nf p3
    exact S.1 b' a' (by omega) p1 p2 p3
theorem m_oneMore {N : Nat} {C : Int → aH → Prop} {h h1 : aH} {k c : Nat} {M : Nat → Nat} {lam : Int} {al be : Nat → Int} (X : X3 h) (hk : k ≤ NSL h) (K : RSH h M h1) (D : DUA h k c M lam al be) (V : SV h c M) (c0 : ∀ h', OM0 h k c M h' → C 0 h') (c1 : ∀ h', OM1 h k c M h' → C 1 h') : WI N 307 0 [(0, .inr (.inr 130)), (1, .inl (k : Int)), (2, .inl (c : Int))] h1 C := by
  obtain ⟨n12, en⟩ := X.n
  obtain ⟨P1, R1, Q1⟩ := K.1.x X
  have hL := R1.1
  have hS := R1.2.1.2.2
  unfold Lv at hS
  rw [K.1.sl, ← en] at hS
  refine w_307_0 ?_
  rw [hS]
  refine ck_ix (by omega) (m_om9 X (fun h2 K2 f2 r2 => ?_) _ 0 h1 rfl (Nat.zero_le _) K (fun x x1 x2 => absurd x2 (Nat.not_lt_zero x)) (fun x x1 x2 => absurd x2 (Nat.not_lt_zero x)))
  have B := BFI.zero (t := 216 * ((0 : Nat) : Int)) D (by decide) f2 r2
  exact m_om43 X D V hk (fun h3 K3 E3 => m_om138 X D V K3.2 E3 hk c0 c1 h3 K3.1 rfl rfl _ k _ _ _ rfl (Nat.le_refl k) hk ⟨fun b' a' o p1 => by omega, Or.inl ⟨rfl, rfl, rfl⟩⟩) _ 0 h2 rfl (Nat.zero_le _) ⟨K2, B⟩ (CVI.zero h k M al _)
