/-! SHAKES: the class seats all rows -/
theorem c_ma29 {N : Nat} {C : aH → Prop} {h : aH} {c : Nat} (P : PI h) (hc : 1 ≤ c ∧ c ≤ 2) (hC : ∀ h', HCX h c h' → HUN h c (NE h + 1) (h' 116) (h' 117) (h' 119) → WV N 152 0 [(0, .inr (.inr 113)), (1, .inl (c : Int))] h' C) : ∀ (d row : Nat) (h1 : aH), d = NE h + 1 - row → 1 ≤ row → row ≤ NE h + 1 → HCX h c h1 → HUN h c row (h1 116) (h1 117) (h1 119) → (-6586148313000 * (row : Int) ≤ h1 117 0 ∧ h1 117 0 ≤ 6586148313000 * (row : Int)) →
    WV N 144 29 [(0, .inr (.inr 113)), (1, .inl (c : Int)), (2, .inl (NE h : Int)), (3, .inl (row : Int))] h1 C := by
  have n8 := NE_le h
  intro d
  induction d with
  | zero =>
    intro row h1 hd r1 hr K H hv
    have : row = NE h + 1 := by omega
    subst this
    exact w_144_29 ⟨fun _ => hC h1 K H, fun z => absurd (by omega) z⟩
  | succ d ih =>
    intro row h1 hd r1 hr K H hv
    exact w_144_29 ⟨fun z => by omega, fun _ => c_seat P hc ⟨r1, by omega⟩ K H (by omega) (fun h2 K2 H2 v2 => ck_rg (by omega) (ih (row + 1) h2 (by omega) (by omega) (by omega) K2 H2 (by omega)))⟩
