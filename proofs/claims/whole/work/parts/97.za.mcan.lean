/-! SHAKES: the reference's who can shake whom -/
def WSL (h : aH) (s x : Nat) : Int := WALKF h (h 63 x) (h 63 s)
def CANS (h : aH) (s x : Nat) : Prop := s ≠ x ∧ FIRST h s ∧ FIRST h x ∧ h 23 s + WSL h s x ≤ h 23 x
theorem WSL_rg {h : aH} (P : PI h) {s x : Nat} (hs : (s : Int) < h 16 16) (hx : (x : Int) < h 16 16) : 1 ≤ WSL h s x ∧ WSL h s x ≤ 19 := by
  have hz := P.1.1
  unfold okSz at hz
  have la := P.2.1.1 s hs
  have lb := P.2.1.1 x hx
  have g1 := gapF_rg P.1 ⟨lb.1, lb.2.1⟩ ⟨la.1, la.2.1⟩
  have g2 := flrF_rg P.1 ⟨lb.1, lb.2.1⟩ ⟨la.1, la.2.1⟩
  unfold WSL WALKF
  omega
theorem m_wsl {N : Nat} {C : Int → aH → Prop} {h : aH} {s x : Nat} (P : PI h) (R : RelH h) (Q : RelP h) (hs : (s : Int) < h 16 16) (hx : (x : Int) < h 16 16) (hC : C (WSL h s x) h) : WI N 304 0 [(0, .inr (.inr 130)), (1, .inl (s : Int)), (2, .inl (x : Int))] h C := by
  have la := P.2.1.1 s hs
  have lb := P.2.1.1 x hx
  have qa := (Q.2.2 s hs).1
  have qb := (Q.2.2 x hx).1
  refine m_walkOf P.1 R ⟨by omega, hs⟩ ⟨by omega, hx⟩ ?_ ?_ ?_
  · rw [Int.toNat_natCast, qa]; exact ⟨la.1, la.2.1⟩
  · rw [Int.toNat_natCast, qb]; exact ⟨lb.1, lb.2.1⟩
  · rw [Int.toNat_natCast, Int.toNat_natCast, qa, qb]; exact hC
theorem m_canShake {N : Nat} {C : Int → aH → Prop} {h : aH} {s x : Nat} (P : PI h) (R : RelH h) (Q : RelP h) (hs : (s : Int) < h 16 16) (hx : (x : Int) < h 16 16) (y : CANS h s x → C 1 h) (n : ¬ CANS h s x → C 0 h) : WI N 309 0 [(0, .inr (.inr 130)), (1, .inl (s : Int)), (2, .inl (x : Int))] h C := by
  have hv := (P.1.2.2.2.1 s hs).2.1
  have w := WSL_rg P hs hx
  refine w_309_0 ⟨fun e => ck_t0 (n (fun z => z.1 (by omega))), fun e => m_isFirst P R hs (fun a => z1 (m_isFirst P R hx (fun b => z1 (m_hour P.1 R hs (m_wsl P R Q hs hx (ck_rg (by omega) (m_hour P.1 R hx ⟨fun lt => ck_t0 (n (fun z => by have := z.2.2.2; omega)), fun ge => ck_t1 (y ⟨fun z => e (by rw [z]), a, b, by omega⟩)⟩))))) (fun b => z0 (ck_t0 (n (fun z => b z.2.2.1)))))) (fun a => z0 (ck_t0 (n (fun z => a z.2.1))))⟩
