/-! lots: day, days -/
def MIX (a b : Int) : Int := am_xor (w32 ((w32 ((am_xor a b) * 1103515245)) + 12345)) (am_ushr (w32 ((w32 ((am_xor a b) * 1103515245)) + 12345)) 15)
def LOT (a i : Int) : Int := (am_ushr (MIX (MIX a 14) i) 1).tmod 10
theorem c_lot {N : Nat} {C : Int → aH → Prop} {h : aH} {a i : Int} (hC : C (LOT a i) h) : WI N 201 0 [(0, .inl a), (1, .inl i)] h C := w_201_0 (w_202_0 (w_202_0 ⟨by decide, hC⟩))
theorem m_lot {N : Nat} {C : Int → aH → Prop} {h : aH} {a i : Int} (hC : C (LOT a i) h) : WI N 345 0 [(0, .inl a), (1, .inl i), (2, .inl 10)] h C := w_345_0 (w_346_0 (w_346_0 ⟨by decide, hC⟩))
/-- awake behind k sounds, by the lots of a night that begin at b -/
def lotA (mt hr : Nat → Int) (ag : Int → Int) (a b : Int) : Nat → Bool
  | 0 => false
  | k + 1 => (lotA mt hr ag a b k && decide (ag (mt k - mt (k - 1)) ≤ LOT a (b + 2 * (k : Int) + 1))) || decide (LOT a (b + 2 * (k : Int)) < hr k)
/-- .. at the hour, behind u sounds -/
def lotU (mt hr : Nat → Int) (ag : Int → Int) (a b hour : Int) (u : Nat) : Bool := lotA mt hr ag a b u && decide (ag (hour - mt (u - 1)) ≤ LOT a (b + 2 * (u : Int) + 1))
