/-! SHAKES: the reference's one more: its rows to begin with, its rounds -/
def FSM (h h1 : aH) : Prop := Fr [175, 176, 177, 178] [67, 68] h h1
def X3 (h : aH) : Prop := PI h ∧ RelH h ∧ RelP h
theorem X3.n {h : aH} (X : X3 h) : NSL h ≤ 12 ∧ ((NSL h : Nat) : Int) = h 16 16 := NSL_12 X.1
theorem up_fun (h : aH) (r k : Nat) (v : Int) : am_up h r k v r = fun j => if j = k then v else h r j := funext (fun j => up_in h r k v j)
theorem FSM.x {h h1 : aH} (f : FSM h h1) (X : X3 h) : X3 h1 := by
  obtain ⟨P, R, Q⟩ := X
  have kp : Kp h h1 := Fr.kp f (by decide)
  exact ⟨kp.pi P, R.mv f (by decide) (by decide) (by decide), Q.keep kp f (by decide) (by decide)⟩
theorem FSM.sl {h h1 : aH} (f : FSM h h1) : h1 16 16 = h 16 16 := by
  have kp : Kp h h1 := Fr.kp f (by decide)
  rw [kp.at 16 (by decide)]
theorem FSM.first {h h1 : aH} (f : FSM h h1) (s : Nat) : FIRST h1 s = FIRST h s := by
  have kp : Kp h h1 := Fr.kp f (by decide)
  unfold FIRST
  rw [kp.at 23 (by decide)]
theorem FSM.wsl {h h1 : aH} (f : FSM h h1) (s x : Nat) : WSL h1 s x = WSL h s x := by
  have kp : Kp h h1 := Fr.kp f (by decide)
  unfold WSL WALKF gapF flrF
  rw [kp.at 63 (by decide), kp.at 17 (by decide), kp.at 18 (by decide)]
theorem FSM.cans {h h1 : aH} (f : FSM h h1) (s x : Nat) : CANS h1 s x = CANS h s x := by
  have kp : Kp h h1 := Fr.kp f (by decide)
  unfold CANS
  rw [f.first, f.first, f.wsl, kp.at 23 (by decide)]
theorem mm_first {N : Nat} {C : Int → aH → Prop} {h h1 : aH} {s : Nat} (X : X3 h) (f : FSM h h1) (hs : s < NSL h) (y : FIRST h s → C 1 h1) (n : ¬ FIRST h s → C 0 h1) : WI N 308 0 [(0, .inr (.inr 130)), (1, .inl (s : Int))] h1 C := by
  obtain ⟨P1, R1, -⟩ := f.x X
  have := X.n
  refine m_isFirst P1 R1 (by rw [f.sl]; omega) (fun z => y ?_) (fun z => n ?_)
  · rw [f.first] at z; exact z
  · rw [f.first] at z; exact z
theorem mm_wsl {N : Nat} {C : Int → aH → Prop} {h h1 : aH} {s x : Nat} (X : X3 h) (f : FSM h h1) (hs : s < NSL h) (hx : x < NSL h) (hC : C (WSL h s x) h1) : WI N 304 0 [(0, .inr (.inr 130)), (1, .inl (s : Int)), (2, .inl (x : Int))] h1 C := by
  obtain ⟨P1, R1, Q1⟩ := f.x X
  have := X.n
  refine m_wsl P1 R1 Q1 (by rw [f.sl]; omega) (by rw [f.sl]; omega) ?_
  rw [f.wsl]; exact hC
theorem mm_can {N : Nat} {C : Int → aH → Prop} {h h1 : aH} {s x : Nat} (X : X3 h) (f : FSM h h1) (hs : s < NSL h) (hx : x < NSL h) (y : CANS h s x → C 1 h1) (n : ¬ CANS h s x → C 0 h1) : WI N 309 0 [(0, .inr (.inr 130)), (1, .inl (s : Int)), (2, .inl (x : Int))] h1 C := by
  obtain ⟨P1, R1, Q1⟩ := f.x X
  have := X.n
  refine m_canShake P1 R1 Q1 (by rw [f.sl]; omega) (by rw [f.sl]; omega) (fun z => y ?_) (fun z => n ?_)
  · rw [f.cans] at z; exact z
  · rw [f.cans] at z; exact z
def ENC (v : Nat) : Int := if v = 12 then -1 else (v : Int)
theorem ENC_12 : ENC 12 = -1 := rfl
theorem ENC_n {v : Nat} (n : v ≠ 12) : ENC v = (v : Int) := if_neg n
theorem ENC_m {v : Nat} : ENC v = -1 ↔ v = 12 := by
  unfold ENC
  by_cases e : v = 12
  · rw [if_pos e]; exact ⟨fun _ => e, fun _ => rfl⟩
  · rw [if_neg e]; exact ⟨fun z => by omega, fun z => absurd z e⟩
/-- the rows as they stand while one more is looked for -/
def RSH (h : aH) (M : Nat → Nat) (h1 : aH) : Prop := FSM h h1 ∧ (∀ x, x < NSL h → h1 175 x = ENC (M x)) ∧ ∀ a, a < NSL h → h1 176 a = LDV M a (NSL h)
theorem RSH.mv {h : aH} {M : Nat → Nat} {h1 h2 : aH} (K : RSH h M h1) (f : Fr [177, 178] [] h1 h2) : RSH h M h2 := by
  obtain ⟨a, b, d⟩ := K
  refine ⟨Fr.trans a (f.mono (by decide) (by decide)), fun x hx => ?_, fun x hx => ?_⟩
  · rw [f.at 175 (by decide) (by decide)]; exact b x hx
  · rw [f.at 176 (by decide) (by decide)]; exact d x hx
theorem m_om9 {N : Nat} {C : Int → aH → Prop} {h : aH} {k c : Nat} {M : Nat → Nat} (X : X3 h) (hC : ∀ h', RSH h M h' → (∀ x, k ≤ x → x < NSL h → (M x = 12 ∧ FIRST h x → h' 177 x = 0) ∧ (¬ (M x = 12 ∧ FIRST h x) → h' 177 x = 100000)) → (∀ x, k ≤ x → x < NSL h → h' 178 x = -1) → WI N 307 43 [(0, .inr (.inr 130)), (1, .inl (k : Int)), (2, .inl (c : Int)), (3, .inl (NSL h : Int)), (4, .inl 0)] h' C) : ∀ (d b : Nat) (h1 : aH), d = NSL h - b → b ≤ NSL h → RSH h M h1 → (∀ x, k ≤ x → x < b → (M x = 12 ∧ FIRST h x → h1 177 x = 0) ∧ (¬ (M x = 12 ∧ FIRST h x) → h1 177 x = 100000)) → (∀ x, k ≤ x → x < b → h1 178 x = -1) →
    WI N 307 9 [(0, .inr (.inr 130)), (1, .inl (k : Int)), (2, .inl (c : Int)), (3, .inl (NSL h : Int)), (4, .inl (b : Int))] h1 C := by
  have n12 := X.n.1
  intro d
  induction d with
  | zero =>
    intro b h1 hd hb K e1 e2
    have : b = NSL h := by omega
    subst this
    exact w_307_9 ⟨fun _ => hC h1 K e1 e2, fun z => absurd (Int.le_refl _) z⟩
  | succ d ih =>
    intro b h1 hd hb K e1 e2
    have nx : ∀ v : Int, ((M b = 12 ∧ FIRST h b → v = 0) ∧ (¬ (M b = 12 ∧ FIRST h b) → v = 100000) ∨ b < k) → WI N 307 33 [(0, .inr (.inr 130)), (1, .inl (k : Int)), (2, .inl (c : Int)), (3, .inl (NSL h : Int)), (4, .inl (b : Int))] (am_up h1 177 b v) C := by
      intro v hv
      refine w_307_33 (ck_ix (by omega) (ck_rg (by omega) ?_))
      rw [Int.toNat_natCast]
      refine ih (b + 1) _ (by omega) (by omega) (K.mv ((Fr.rfl.up (by decide) (by decide)).up (by decide) (by decide))) (fun x x1 x2 => ?_) (fun x x1 x2 => ?_)
      · rw [up_row (by decide), up_in]
        by_cases e : x = b
        · rw [if_pos e, e]
          rcases hv with y | y
          · exact y
          · omega
        · rw [if_neg e]; exact e1 x x1 (by omega)
      · rw [up_in]
        by_cases e : x = b
        · rw [if_pos e]
        · rw [if_neg e, up_row (by decide)]; exact e2 x x1 (by omega)
    refine w_307_9 ⟨fun z => by omega, fun _ => ?_⟩
    rw [Int.toNat_natCast, K.2.1 b (by omega)]
    refine ⟨fun lt => ck_ix (by omega) (nx _ (Or.inr (by omega))), fun ge => ck_ix (by omega) ⟨fun s => ck_ix (by omega) (nx _ (Or.inl ⟨fun z => ?_, fun _ => rfl⟩)), fun s => mm_first X K.1 (by omega) (fun y => ⟨fun z => absurd z (by decide), fun _ => ck_ix (by omega) (nx _ (Or.inl ⟨fun _ => rfl, fun z => ?_⟩))⟩) (fun y => ⟨fun _ => ck_ix (by omega) (nx _ (Or.inl ⟨fun z => absurd z.2 y, fun _ => rfl⟩)), fun z => absurd rfl z⟩)⟩⟩
    · exact absurd (ENC_m.mpr z.1) s
    · exact absurd ⟨ENC_m.mp (Classical.byContradiction s), y⟩ z
/-- how it stands in the rounds -/
def BFS (h : aH) (k : Nat) (M : Nat → Nat) (lam : Int) (al : Nat → Int) (t : Int) (h1 : aH) : Prop := RSH h M h1 ∧ BFI h k M lam al (h1 177) (h1 178) t
theorem m_om62 {N : Nat} {C : Int → aH → Prop} {h : aH} {k c : Nat} {M : Nat → Nat} {lam : Int} {al be : Nat → Int} {r b : Nat} (X : X3 h) (D : DUA h k c M lam al be) (V : SV h c M) (r12 : r < NSL h) (b1 : k ≤ b) (b2 : b < NSL h) (hC : ∀ h', BFS h k M lam al (216 * (r : Int) + 18 * (b : Int) + 18) h' → CVR h k M al (h' 177) r b (NSL h) → WI N 307 125 [(0, .inr (.inr 130)), (1, .inl (k : Int)), (2, .inl (c : Int)), (3, .inl (NSL h : Int)), (4, .inl (r : Int)), (5, .inl (b : Int))] h' C) : ∀ (d o : Nat) (h1 : aH), d = NSL h - o → k ≤ o → o ≤ NSL h → BFS h k M lam al (216 * (r : Int) + 18 * (b : Int) + 18) h1 → h1 177 b ≠ 100000 → h1 177 b ≤ 216 * (r : Int) + 18 * (b : Int) → CVR h k M al (h1 177) r b o →
    WI N 307 62 [(0, .inr (.inr 130)), (1, .inl (k : Int)), (2, .inl (c : Int)), (3, .inl (NSL h : Int)), (4, .inl (r : Int)), (5, .inl (b : Int)), (6, .inl (o : Int))] h1 C := by
  obtain ⟨n12, en⟩ := X.n
  intro d
  induction d with
  | zero =>
    intro o h1 hd o1 ho K fb tb I
    have : o = NSL h := by omega
    subst this
    exact w_307_62 ⟨fun _ => hC h1 K I, fun z => absurd (Int.le_refl _) z⟩
  | succ d ih =>
    intro o h1 hd o1 ho K fb tb I
    have o2 : o < NSL h := by omega
    have skip : (o ≠ b → M o ≠ 12 → CANS h (M o) b → h1 177 o ≤ h1 177 b + WSL h (M o) b - WSL h (M o) o) → WI N 307 122 [(0, .inr (.inr 130)), (1, .inl (k : Int)), (2, .inl (c : Int)), (3, .inl (NSL h : Int)), (4, .inl (r : Int)), (5, .inl (b : Int)), (6, .inl (o : Int))] h1 C :=
      fun z => w_307_122 (ck_rg (by omega) (ih (o + 1) h1 (by omega) (by omega) (by omega) K fb tb (I.skip z)))
    have fB := K.2.1 b b1 b2
    refine w_307_62 ⟨fun z => by omega, fun _ => ⟨fun e => skip (fun z => absurd (show o = b by omega) z), fun ne => ?_⟩⟩
    rw [Int.toNat_natCast, Int.toNat_natCast, K.1.2.1 o o2]
    refine ck_ix (by omega) ⟨fun s => skip (fun _ z => absurd (ENC_m.mp s) z), fun s => ?_⟩
    have m : M o ≠ 12 := fun z => s (ENC_m.mpr z)
    have mo := V.lt o2 m
    have w1 := WSL_rg X.1 (s := M o) (x := b) (by omega) (by omega)
    have w2 := WSL_rg X.1 (s := M o) (x := o) (by omega) (by omega)
    rw [ENC_n m]
    refine ck_ix (by omega) (mm_can X K.1.1 mo b2 (fun y => ⟨fun _ => ck_ix (by omega) (ck_ix (by omega) ?_), fun z => absurd (by decide) z⟩) (fun y => ⟨fun z => absurd rfl z, fun _ => skip (fun _ _ z => absurd z y)⟩))
    rw [K.1.2.1 o o2, ENC_n m]
    refine mm_wsl X K.1.1 mo b2 (ck_rg (by omega) (ck_ix (by omega) ?_))
    rw [K.1.2.1 o o2, ENC_n m]
    refine mm_wsl X K.1.1 mo o2 (ck_rg (by omega) (ck_ix (by omega) ⟨fun lt => ck_ix (by omega) (ck_ix (by omega) ?_), fun ge => skip (fun _ _ _ => by omega)⟩))
    have neo : o ≠ b := fun z => ne (by omega)
    have B' := K.2.relax X.1 D V b1 b2 o1 o2 neo fb m y lt (t' := 216 * (r : Int) + 18 * (b : Int) + 18) (Int.le_refl _) (by omega) (by omega)
    have I' := CVR.relax D V I b1 b2 o1 o2 neo fb m y lt (by omega)
    have e1 : (am_up (am_up h1 177 o (h1 177 b + WSL h (M o) b - WSL h (M o) o)) 178 o (b : Int)) 177 = fun x => if x = o then h1 177 b + WSL h (M o) b - WSL h (M o) o else h1 177 x := by
      rw [up_row (by decide), up_fun]
    have e2 : (am_up (am_up h1 177 o (h1 177 b + WSL h (M o) b - WSL h (M o) o)) 178 o (b : Int)) 178 = fun x => if x = o then (b : Int) else h1 178 x := by
      rw [up_fun]
      funext j
      rw [up_row (by decide)]
    refine w_307_122 (ck_rg (by omega) (ih (o + 1) _ (by omega) (by omega) (by omega) ⟨K.1.mv ((Fr.rfl.up (by decide) (by decide)).up (by decide) (by decide)), ?_⟩ ?_ ?_ ?_))
    · rw [e1, e2]; exact B'
    · rw [e1]; dsimp only; rw [if_neg (fun z => neo z.symm)]; exact fb
    · rw [e1]; dsimp only; rw [if_neg (fun z => neo z.symm)]; exact tb
    · rw [e1]; exact I'
theorem m_om49 {N : Nat} {C : Int → aH → Prop} {h : aH} {k c : Nat} {M : Nat → Nat} {lam : Int} {al be : Nat → Int} {r : Nat} (X : X3 h) (D : DUA h k c M lam al be) (V : SV h c M) (r12 : r < NSL h) (hC : ∀ h', BFS h k M lam al (216 * ((r + 1 : Nat) : Int)) h' → CVI h k M al (h' 177) (r + 1) → WI N 307 43 [(0, .inr (.inr 130)), (1, .inl (k : Int)), (2, .inl (c : Int)), (3, .inl (NSL h : Int)), (4, .inl ((r : Int) + 1))] h' C) : ∀ (d b : Nat) (h1 : aH), d = NSL h - b → k ≤ b → b ≤ NSL h → BFS h k M lam al (216 * (r : Int) + 18 * (b : Int)) h1 → CVR h k M al (h1 177) r b k →
    WI N 307 49 [(0, .inr (.inr 130)), (1, .inl (k : Int)), (2, .inl (c : Int)), (3, .inl (NSL h : Int)), (4, .inl (r : Int)), (5, .inl (b : Int))] h1 C := by
  obtain ⟨n12, en⟩ := X.n
  intro d
  induction d with
  | zero =>
    intro b h1 hd b1 hb K I
    have : b = NSL h := by omega
    subst this
    exact w_307_49 ⟨fun _ => ck_rg (by omega) (hC h1 ⟨K.1, K.2.mono (by omega)⟩ (I.done (Nat.le_refl _))), fun z => absurd (Int.le_refl _) z⟩
  | succ d ih =>
    intro b h1 hd b1 hb K I
    have b2 : b < NSL h := by omega
    refine w_307_49 ⟨fun z => by omega, fun _ => ck_ix (by omega) ?_⟩
    rw [Int.toNat_natCast]
    refine ⟨fun fb => ?_, fun nf => ?_⟩
    · have := K.2.1 b b1 b2
      refine m_om62 X D V r12 b1 b2 (fun h' K' I' => w_307_125 (ck_rg (by omega) ?_)) _ k h1 rfl (Nat.le_refl k) (by omega) ⟨K.1, K.2.mono (by omega)⟩ fb (by omega) I
      exact ih (b + 1) h' (by omega) (by omega) (by omega) ⟨K'.1, K'.2.mono (by omega)⟩ (CVR.nextB (Or.inl I'))
    · refine w_307_125 (ck_rg (by omega) ?_)
      exact ih (b + 1) h1 (by omega) (by omega) (by omega) ⟨K.1, K.2.mono (by omega)⟩ (CVR.nextB (Or.inr ⟨Classical.byContradiction nf, I⟩))
theorem m_om43 {N : Nat} {C : Int → aH → Prop} {h : aH} {k c : Nat} {M : Nat → Nat} {lam : Int} {al be : Nat → Int} (X : X3 h) (D : DUA h k c M lam al be) (V : SV h c M) (hk : k ≤ NSL h) (hC : ∀ h', BFS h k M lam al 2592 h' → DNE h k M (h' 177) → WI N 307 138 [(0, .inr (.inr 130)), (2, .inl (c : Int)), (3, .inl (NSL h : Int)), (4, .inl 100000), (5, .inl (-1)), (6, .inl (-1)), (7, .inl (k : Int))] h' C) : ∀ (d r : Nat) (h1 : aH), d = NSL h - r → r ≤ NSL h → BFS h k M lam al (216 * (r : Int)) h1 → CVI h k M al (h1 177) r →
    WI N 307 43 [(0, .inr (.inr 130)), (1, .inl (k : Int)), (2, .inl (c : Int)), (3, .inl (NSL h : Int)), (4, .inl (r : Int))] h1 C := by
  obtain ⟨n12, en⟩ := X.n
  intro d
  induction d with
  | zero =>
    intro r h1 hd hr K I
    have : r = NSL h := by omega
    subst this
    exact w_307_43 ⟨fun _ => hC h1 ⟨K.1, K.2.mono (by omega)⟩ I.all, fun z => absurd (Int.le_refl _) z⟩
  | succ d ih =>
    intro r h1 hd hr K I
    refine w_307_43 ⟨fun z => by omega, fun _ => ?_⟩
    refine m_om49 X D V (by omega) (fun h' K' I' => ih (r + 1) h' (by omega) (by omega) K' I') _ k h1 rfl (Nat.le_refl k) hk ⟨K.1, K.2.mono (by omega)⟩ (CVR.start I)
