/-! SHAKES: the class walks back -/
theorem SEA.le {h : aH} {c row t : Nat} {L : Nat → Nat} {U V SL A F : Nat → Int} (S : SEA h c row t L U V SL A F) : t ≤ NS h c := by
  obtain ⟨-, ⟨s7, s8, s9, s10⟩, -, -, -⟩ := S
  have I : INJ (NS h c) t (fun i => L (i + 1) - 1) := by
    refine ⟨fun i hi => ?_, fun i j hi hj z => ?_⟩
    · have := s9 (i + 1) (by omega) (by omega)
      show L (i + 1) - 1 < NS h c
      omega
    · have a := s9 (i + 1) (by omega) (by omega)
      have b := s9 (j + 1) (by omega) (by omega)
      have z : L (i + 1) - 1 = L (j + 1) - 1 := z
      have := s10 (i + 1) (j + 1) (by omega) (by omega) (by omega)
      omega
  exact inj_le I
theorem c_se43 {N : Nat} {C : aH → Prop} {h h0 : aH} {c row t : Nat} {L : Nat → Nat} {SL : Nat → Int} (K : HCX h c h0) (hc : 1 ≤ c ∧ c ≤ 2) (S : SEA h c row t L (h0 116) (h0 117) SL (h0 119) (h0 120)) (hC : ∀ h', Fr [119] [] h0 h' → HOL h c row L (h0 116) (h0 117) (h0 119) 0 (h' 119) → C h') : ∀ (d i x : Nat) (h1 : aH), i ≤ d → i ≤ t → x + i ≤ t → Fr [119] [] h0 h1 → HOL h c row L (h0 116) (h0 117) (h0 119) i (h1 119) →
    WV N 149 43 [(0, .inr (.inr 113)), (2, .inl (L i : Int)), (3, .inl (x : Int))] h1 C := by
  have m24 := NS_le (h := h) hc
  have tm := S.le
  have L0 : L 0 = 0 := S.2.1.2.1
  intro d
  induction d with
  | zero =>
    intro i x h1 hi it xt f H
    have : i = 0 := by omega
    subst this
    refine w_149_43 ?_
    rw [f.at 113 (by decide) (by decide), K.2.1]
    exact ⟨fun _ => hC h1 f H, fun _ => ⟨fun _ => hC h1 f H, fun z => absurd (by rw [L0]; rfl) z⟩⟩
  | succ d ih =>
    intro i x h1 hi it xt f H
    by_cases i0 : i = 0
    · exact ih i x h1 (by omega) it xt f H
    · have li := S.2.1.2.2.1 i (by omega) it
      obtain ⟨a, a1, a2, H'⟩ := HOL.step S H (by omega) it
      have la : L a ≤ NS h c := by
        rcases Nat.eq_zero_or_pos a with y | y
        · rw [y, L0]; exact Nat.zero_le _
        · exact (S.2.1.2.2.1 a y (by omega)).2
      refine w_149_43 ?_
      rw [f.at 113 (by decide) (by decide), K.2.1, Int.toNat_natCast, f.at 120 (by decide) (by decide), a2, Int.toNat_natCast]
      refine ⟨fun z => by omega, fun _ => ⟨fun z => by omega, fun _ => ?_⟩⟩
      (repeat first | refine ck_ix (by omega) ?_ | refine ck_rg (by omega) ?_ | refine ck_rl (by omega) ?_)
      refine ih a (x + 1) _ (by omega) (by omega) (by omega) (f.up (by decide) (by decide)) ?_
      have e : (am_up h1 119 (L i) (h1 119 (L a))) 119 = fun s => if s = L i then h1 119 (L a) else h1 119 s := funext (fun s => up_in _ _ _ _ _)
      rw [e]
      exact H'
