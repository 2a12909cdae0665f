/-! SHAKES: along the way all change over -/
theorem smI_upd {G : Nat → Int} {g : Nat → Nat} {b v : Nat} : ∀ n, smI (fun x => G (if x = b then v else g x)) n = smI (fun x => G (g x)) n + (if b < n then G v - G (g b) else 0)
  | 0 => by rw [if_neg (Nat.not_lt_zero b)]; rfl
  | n + 1 => by
    have ih := smI_upd (G := G) (g := g) (b := b) (v := v) n
    unfold smI
    rw [ih]
    by_cases e : n = b
    · subst e
      rw [if_pos rfl, if_neg (Nat.lt_irrefl n), if_pos (Nat.lt_succ_self n)]
      omega
    · rw [if_neg e]
      by_cases y : b < n
      · rw [if_pos y, if_pos (by omega)]; omega
      · rw [if_neg y, if_neg (by omega)]; omega
theorem LDV_upd {g : Nat → Nat} {b v a n : Nat} (hb : b < n) : LDV (fun x => if x = b then v else g x) a n = LDV g a n + ((if v = a then 1 else 0) - (if g b = a then 1 else 0)) := by
  have := smI_upd (G := fun z => if z = a then 1 else 0) (g := g) (b := b) (v := v) n
  rw [if_pos hb] at this
  exact this
theorem SMV_upd {g : Nat → Nat} {b v n : Nat} (hb : b < n) : SMV (fun x => if x = b then v else g x) n = SMV g n + ((if v = 12 then 0 else 1) - (if g b = 12 then 0 else 1)) := by
  have := smI_upd (G := fun z => if z = 12 then 0 else 1) (g := g) (b := b) (v := v) n
  rw [if_pos hb] at this
  exact this
/-- what M has become, a coming free -/
def WLK (h : aH) (k : Nat) (al be : Nat → Int) (M0 M : Nat → Nat) (who a : Nat) : Prop :=
  (∀ x, x < NSL h → M x = 12 ∨ M x < NSL h ∧ CANS h (M x) x) ∧ (∀ x, k ≤ x → x < NSL h → M x ≠ 12 → al x = WSL h (M x) x + be (M x)) ∧ (∀ x, x < k → M x = M0 x) ∧ (∀ x, M x = 12 → M0 x = 12) ∧
  (∀ v, v < NSL h → LDV M v (NSL h) + (if a = v then 1 else 0) = LDV M0 v (NSL h) + (if who = v then 1 else 0)) ∧ SMV M (NSL h) + (if a = 12 then 0 else 1) = SMV M0 (NSL h) + 1
/-- one that is to be changed over to a -/
def WLB (h : aH) (al be : Nat → Int) (fr : Nat → Int) (T : Nat → Prop) (M0 M : Nat → Nat) (a b d : Nat) : Prop :=
  T b ∧ RCH fr d b ∧ (∀ x e, e ≤ d → RCH fr e x → M x = M0 x) ∧ a ≠ 12 ∧ a < NSL h ∧ CANS h a b ∧ al b = WSL h a b + be a
theorem WLK.start {h : aH} {k c : Nat} {M : Nat → Nat} {lam : Int} {al be : Nat → Int} (D : DUA h k c M lam al be) (V : SV h c M) {who : Nat} (w12 : who ≠ 12) : WLK h k al be M M who who :=
  ⟨V.1, D.2.2.1, fun _ _ => rfl, fun _ e => e, fun _ _ => rfl, by rw [if_neg w12]⟩
theorem WLK.step {h : aH} {k : Nat} {M0 M : Nat → Nat} {lam : Int} {al far fr : Nat → Int} {t : Int} {T : Nat → Prop} {who a b d : Nat} (B : BFI h k M0 lam al far fr t) {al' be' : Nat → Int} (hT : ∀ x, T x → (k ≤ x ∧ x < NSL h ∧ far x ≠ 100000) ∧ ∀ b : Nat, M0 x ≠ 12 → fr x = (b : Int) → T b ∧ b ≠ x ∧ CANS h (M0 x) b ∧ al' b = WSL h (M0 x) b + be' (M0 x))
    (K : WLK h k al' be' M0 M who a) (L : WLB h al' be' fr T M0 M a b d) : WLK h k al' be' M0 (fun x => if x = b then a else M x) who (M b) ∧ ((fr b = -1 ∧ M b = 12) ∨ ∃ (b' d' : Nat), fr b = (b' : Int) ∧ d' + 1 = d ∧ WLB h al' be' fr T M0 (fun x => if x = b then a else M x) (M b) b' d') := by
  obtain ⟨k1, k2, k3, k4, k5, k6⟩ := K
  obtain ⟨Tb, r, same, a12, a1, ca, ta⟩ := L
  obtain ⟨⟨b1, b2, fb⟩, nx⟩ := hT b Tb
  have mb : M b = M0 b := same b d (Nat.le_refl d) r
  refine ⟨⟨fun x x2 => ?_, fun x x1 x2 mx => ?_, fun x xk => ?_, fun x mx => ?_, fun v v1 => ?_, ?_⟩, ?_⟩
  · dsimp only
    by_cases e : x = b
    · rw [if_pos e, e]; exact Or.inr ⟨a1, ca⟩
    · rw [if_neg e]; exact k1 x x2
  · dsimp only at mx ⊢
    by_cases e : x = b
    · rw [if_pos e, e]; exact ta
    · rw [if_neg e] at mx ⊢; exact k2 x x1 x2 mx
  · dsimp only
    rw [if_neg (by omega)]; exact k3 x xk
  · dsimp only at mx
    by_cases e : x = b
    · rw [if_pos e] at mx; exact absurd mx a12
    · rw [if_neg e] at mx; exact k4 x mx
  · rw [LDV_upd b2]
    have := k5 v v1
    omega
  · rw [SMV_upd b2]
    rw [if_neg a12] at k6 ⊢
    omega
  · by_cases e12 : M0 b = 12
    · exact Or.inl ⟨(B.2.1 b b1 b2 e12).2.2, by rw [mb]; exact e12⟩
    · obtain ⟨b', r1, -⟩ := B.2.2.1 b b1 b2 e12 fb
      obtain ⟨n1, n2, n3, n4⟩ := nx b' e12 r1
      cases d with
      | zero =>
        have r : fr b = -1 := r
        omega
      | succ d' =>
        obtain ⟨q, q1, q2⟩ := r
        have : q = b' := by omega
        subst this
        refine Or.inr ⟨q, d', r1, rfl, n1, q2, fun x e le rx => ?_, by rw [mb]; exact e12, ?_, by rw [mb]; exact n3, by rw [mb]; exact n4⟩
        · dsimp only
          by_cases z : x = b
          · exfalso
            subst z
            have := RCH_uniq rx (show RCH fr (d' + 1) x from ⟨q, q1, q2⟩)
            omega
          · rw [if_neg z]
            exact same x e (by omega) rx
        · rcases k1 b b2 with y | y
          · rw [mb] at y; exact absurd y e12
          · exact y.1
theorem WLK.fin {h : aH} {k c : Nat} {M0 M : Nat → Nat} {lam : Int} {al be : Nat → Int} {who : Nat} (D : DUA h k c M0 lam al be) (V : SV h c M0) (n12 : NSL h ≤ 12) (w1 : who < NSL h) (room : LDV M0 who (NSL h) < (c : Int)) (K : WLK h k al be M0 M who 12) : DUA h k c M lam al be ∧ SV h c M ∧ (∀ x, x < k → M x = M0 x) ∧ SMV M (NSL h) = SMV M0 (NSL h) + 1 ∧ ∀ v, v < NSL h → LDV M v (NSL h) = LDV M0 v (NSL h) + (if who = v then 1 else 0) := by
  obtain ⟨k1, k2, k3, k4, k5, k6⟩ := K
  obtain ⟨d1, d2, d3, d4, d5⟩ := D
  have ld : ∀ v, v < NSL h → LDV M v (NSL h) = LDV M0 v (NSL h) + (if who = v then 1 else 0) := fun v v1 => by
    have := k5 v v1
    rw [if_neg (by omega)] at this
    omega
  refine ⟨⟨d1, d2, k2, fun x x1 x2 f mx => d4 x x1 x2 f (k4 x mx), fun a a1 => ⟨(d5 a a1).1, fun l => (d5 a a1).2 ?_⟩⟩, ⟨k1, fun a a1 => ?_⟩, k3, ?_, ld⟩
  · have := ld a a1
    split at this <;> omega
  · show LDV M a (NSL h) ≤ _
    rw [ld a a1]
    by_cases e : who = a
    · rw [if_pos e, ← e]; omega
    · rw [if_neg e]
      have : LDV M0 a (NSL h) ≤ (c : Int) := V.2 a a1
      omega
  · rw [if_pos rfl] at k6
    omega
/-- none is shaken from k on: prices to begin with -/
theorem DUA.zero {h : aH} (P : PI h) {k c : Nat} {M : Nat → Nat} (n : ∀ x, k ≤ x → x < NSL h → M x = 12) : DUA h k c M 0 (fun _ => 0) (fun _ => 0) := by
  obtain ⟨-, en⟩ := NSL_12 P
  refine ⟨fun _ _ _ => Int.le_refl 0, fun a x a1 x1 x2 cn => ?_, fun x x1 x2 mx => absurd (n x x1 x2) mx, fun _ _ _ _ _ => rfl, fun _ _ => ⟨Int.le_refl 0, fun _ => rfl⟩⟩
  have := WSL_rg P (s := a) (x := x) (by omega) (by omega)
  show (0 : Int) ≤ WSL h a x + 0
  omega
/-- how the row begins -/
theorem BFI.zero {h : aH} {k c : Nat} {M : Nat → Nat} {lam : Int} {al be far fr : Nat → Int} {t : Int} (D : DUA h k c M lam al be) (t0 : 0 ≤ t) (hf : ∀ x, k ≤ x → x < NSL h → (M x = 12 ∧ FIRST h x → far x = 0) ∧ (¬ (M x = 12 ∧ FIRST h x) → far x = 100000)) (hr : ∀ x, k ≤ x → x < NSL h → fr x = -1) : BFI h k M lam al far fr t := by
  refine ⟨fun x x1 x2 => ?_, fun x x1 x2 mx => ⟨fun f => (hf x x1 x2).1 ⟨mx, f⟩, fun f => (hf x x1 x2).2 (fun z => f z.2), hr x x1 x2⟩, fun x x1 x2 mx fx => absurd ((hf x x1 x2).2 (fun z => mx z.1)) fx, fun x x1 x2 fx => ⟨0, hr x x1 x2⟩⟩
  rcases Classical.em (M x = 12 ∧ FIRST h x) with e | e
  · have a := (hf x x1 x2).1 e
    have b := D.2.2.2.1 x x1 x2 e.2 e.1
    omega
  · exact Or.inl ((hf x x1 x2).2 e)
