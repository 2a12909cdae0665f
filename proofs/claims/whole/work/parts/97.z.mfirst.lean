/-! SHAKES: the reference's first eight -/
def cH (hour : Nat → Int) : Nat → Nat
  | 0 => 0
  | k + 1 => if hour k = -2 then cH hour k else cH hour k + 1
theorem cH_le (hour : Nat → Int) : ∀ k, cH hour k ≤ k
  | 0 => Nat.le_refl 0
  | k + 1 => by
    have := cH_le hour k
    unfold cH
    by_cases e : hour k = -2
    · rw [if_pos e]; omega
    · rw [if_neg e]; omega
theorem e8_cH (hour : Nat → Int) : ∀ k, (e8 hour k).2 = min 8 (cH hour k)
  | 0 => rfl
  | k + 1 => by
    have ih := e8_cH hour k
    unfold cH
    by_cases e : hour k = -2
    · rw [if_pos e, e8_n (fun z => z.1 e)]; exact ih
    · rw [if_neg e]
      by_cases c : (e8 hour k).2 < 8
      · rw [e8_y ⟨e, c⟩]
        show (e8 hour k).2 + 1 = _
        omega
      · rw [e8_n (fun z => c z.2)]
        omega
def FIRST (h : aH) (s : Nat) : Prop := h 23 s ≠ -2 ∧ (e8 (h 23) s).2 < 8
theorem m_isFirst {N : Nat} {C : Int → aH → Prop} {h : aH} {s : Nat} (P : PI h) (R : RelH h) (hs : (s : Int) < h 16 16) (y : FIRST h s → C 1 h) (n : ¬ FIRST h s → C 0 h) : WI N 308 0 [(0, .inr (.inr 130)), (1, .inl (s : Int))] h C := by
  have hz := P.1.1
  unfold okSz at hz
  have key : ∀ (d k : Nat), d = s - k → k ≤ s → WI N 308 5 [(0, .inr (.inr 130)), (1, .inl (s : Int)), (2, .inl (cH (h 23) k : Int)), (3, .inl (k : Int))] h C := by
    intro d
    induction d with
    | zero =>
      intro k hd hk
      have : k = s := by omega
      subst this
      have hv := (P.1.2.2.2.1 k hs).2.1
      have e := e8_cH (h 23) k
      refine w_308_5 ⟨fun _ => m_hour P.1 R hs ⟨fun neg => ck_t0 (n (fun z => by have := z.1; omega)), fun pos => ⟨fun full => ck_t0 (n (fun z => by have := z.2; omega)), fun room => ck_t1 (y ⟨by omega, by omega⟩)⟩⟩, fun z => absurd (Int.le_refl _) z⟩
    | succ d ih =>
      intro k hd hk
      have hv := (P.1.2.2.2.1 k (by omega)).2.1
      have cl := cH_le (h 23) k
      have nx := ih (k + 1) (by omega) (by omega)
      unfold cH at nx
      refine w_308_5 ⟨fun z => by omega, fun _ => m_hour P.1 R (by omega) ⟨fun neg => ck_rg (by omega) ?_, fun pos => ck_rg (by omega) (ck_rg (by omega) ?_)⟩⟩
      · rw [if_pos (by omega)] at nx
        exact nx
      · rw [if_neg (by omega)] at nx
        exact nx
  exact w_308_0 (key _ 0 rfl (Nat.zero_le _))
