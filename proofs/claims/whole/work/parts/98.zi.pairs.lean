/-! each call of the law: the class answers, then the reference the same -/
def PWI (N a b : Nat) (as bs : aL) (h : aH) : Prop := WI N a 0 as h (fun v1 h1 => h1 1 = h 1 ∧ WI N b 0 bs h1 (fun v2 h2 => v1 = v2 ∧ NX h h2))
def PWL (N a b : Nat) (as bs : aL) (h : aH) : Prop := WL N a 0 as h (fun v1 h1 => h1 1 = h 1 ∧ WL N b 0 bs h1 (fun v2 h2 => v1 = v2 ∧ NX h h2))
theorem okMor.of {h h' : aH} (O : okMor h) (l : h' 58 12 = h 58 12) (k : ∀ r ∈ [16, 65, 66, 67], h' r = h r) : okMor h' := by
  unfold okMor at O ⊢
  rw [l, k 16 (by decide), k 65 (by decide), k 66 (by decide), k 67 (by decide)]
  exact O
theorem RelM.of {h h' : aH} (M : RelM h) (l : h' 58 12 = h 58 12) (m : h' 130 76 = h 130 76) (k : ∀ r ∈ [65, 66, 67, 185, 186, 187, 188], h' r = h r) : RelM h' := by
  unfold RelM at M ⊢
  rw [l, m, k 65 (by decide), k 66 (by decide), k 67 (by decide), k 185 (by decide), k 186 (by decide), k 187 (by decide), k 188 (by decide)]
  exact M
theorem RT.of {h h' : aH} (T : RT h) (m : h' 130 2 = h 130 2) (k : ∀ r ∈ [10, 11, 131], h' r = h r) : RT h' := by
  unfold RT at T ⊢
  rw [m, k 10 (by decide), k 11 (by decide), k 131 (by decide)]
  exact T
theorem okTf.of {h h' : aH} (T : okTf h) (k : ∀ j, h' 162 j = h 162 j ∨ h' 162 j = 0 ∨ h' 162 j = 1) : okTf h' := fun j hj => by
  rcases k j with e | e | e
  · rw [e]; exact T j hj
  · exact Or.inl e
  · exact Or.inr e
theorem Lo.of {C D : List Nat} {h h' : aH} (f : Fr C D h h') (hk : [185, 186, 187, 188].all (fun r => !(C.contains r) && !(Nat.beq r 130)) = true) : Lo h h' := fun j _ => by
  have k := f.rows hk
  rw [k 185 (by decide), k 186 (by decide), k 187 (by decide), k 188 (by decide)]
  exact ⟨rfl, rfl, rfl, rfl⟩
theorem NX.pln {h h' : aH} (V : INV h) (p : PLN h h') : NX h h' := by
  obtain ⟨f, P, Q, d, l1, l2⟩ := p
  obtain ⟨⟨-, -, O, M, T, S, -⟩, -, Rt, -, -, B⟩ := id V
  have G := V.gen f (by decide) (by decide) (by decide) P Q (O.of l1 (f.rows (by decide))) (M.of l1 (f.2 76 (by decide)) (f.rows (by decide))) (T.of (fun j => Or.inl (by rw [f.at 162 (by decide) (by decide)]))) (S.mv f (by decide) (by decide) (Lo.of f (by decide))) (Rt.of (f.2 2 (by decide)) (f.rows (by decide))) (B.of d (f.at 102 (by decide) (by decide)) (f.at 107 (by decide) (by decide)) (f.at 108 (by decide) (by decide)))
  exact ⟨G.1, G.2, d.le⟩
theorem NX.wln {h h' : aH} (V : INV h) (p : WLN h h') : NX h h' := by
  obtain ⟨f, P, Q, d, l1, l2⟩ := p
  obtain ⟨⟨-, -, O, M, T, S, -⟩, -, Rt, -, -, B⟩ := id V
  have G := V.gen f (by decide) (by decide) (by decide) P Q (O.of (l1 12 (by decide)) (f.rows (by decide))) (M.of (l1 12 (by decide)) (f.2 76 (by decide)) (f.rows (by decide))) (T.of l2) (S.mv f (by decide) (by decide) (Lo.of f (by decide))) (Rt.of (f.2 2 (by decide)) (f.rows (by decide))) (B.of d (f.at 102 (by decide) (by decide)) (f.at 107 (by decide) (by decide)) (f.at 108 (by decide) (by decide)))
  exact ⟨G.1, G.2, d.le⟩
theorem NX.swn {h h' : aH} (V : INV h) (p : SWN h h') : NX h h' := by
  obtain ⟨f, P, Q, d⟩ := p
  obtain ⟨⟨-, -, O, M, T, S, -⟩, -, Rt, -, -, B⟩ := id V
  have l1 : h' 58 12 = h 58 12 := by rw [f.at 58 (by decide) (by decide)]
  have G := V.gen f (by decide) (by decide) (by decide) P Q (O.of l1 (f.rows (by decide))) (M.of l1 (f.2 76 (by decide)) (f.rows (by decide))) (T.of (fun j => Or.inl (by rw [f.at 162 (by decide) (by decide)]))) (S.mv f (by decide) (by decide) (Lo.of f (by decide))) (Rt.of (f.2 2 (by decide)) (f.rows (by decide))) (B.of d (f.at 102 (by decide) (by decide)) (f.at 107 (by decide) (by decide)) (f.at 108 (by decide) (by decide)))
  exact ⟨G.1, G.2, d.le⟩
theorem NX.mln {h h' : aH} (V : INV h) (p : MLN h h') : NX h h' := by
  obtain ⟨f, P, Q, O, M, l, d, lo⟩ := p
  obtain ⟨⟨-, -, -, -, T, S, -⟩, -, Rt, -, -, B⟩ := id V
  have pb : prB h' = prB h := by
    refine prB_eq (fun r hr a b c e => f.at r ?_ ?_) (l 10 (by decide)) (l 11 (by decide))
    · unfold PR at hr
      simp only [List.mem_cons, List.not_mem_nil, or_false] at hr ⊢
      omega
    · intro z; rw [z] at hr; revert hr; decide
  have G := V.gen f (by decide) (by decide) (by decide) P Q O M (T.of (fun j => Or.inl (by rw [f.at 162 (by decide) (by decide)]))) (S.mv f (by decide) (by decide) lo) (Rt.of (f.2 2 (by decide)) (f.rows (by decide))) (B.mor pb (f.at 102 (by decide) (by decide)) (f.at 107 (by decide) (by decide)) (f.at 108 (by decide) (by decide)) d)
  exact ⟨G.1, G.2, by omega, by omega⟩
theorem NX.hdn {h h' : aH} (V : INV h) (p : HDN h h') : NX h h' := by
  obtain ⟨f, S, M⟩ := p
  obtain ⟨⟨P, Q, O, -, T, -⟩, -, Rt, -, -, B⟩ := id V
  have kp : Kp h h' := f.kp (by decide)
  have e9 : h' 9 11 = h 9 11 := by rw [f.at 9 (by decide) (by decide)]
  have Q' : RelP h' := Q.keep kp f (by decide) (by decide)
  have G := V.gen f (by decide) (by decide) (by decide) (kp.pi P) Q' (O.of (by rw [kp.at 58 (by decide)]) (f.rows (by decide))) M (T.of (fun j => Or.inl (by rw [f.at 162 (by decide) (by decide)]))) S (Rt.of (f.2 2 (by decide)) (f.rows (by decide))) (B.kp kp (f.at 102 (by decide) (by decide)) (f.at 107 (by decide) (by decide)) (f.at 108 (by decide) (by decide)) e9)
  exact ⟨G.1, G.2, by omega, by omega⟩
theorem NX.rsn {h h' : aH} (V : INV h) (p : RSN h h') : NX h h' := by
  obtain ⟨f, P, Q, O, M, T, S, d, -⟩ := p
  obtain ⟨-, -, Rt, -, -, B⟩ := id V
  have G := V.gen f (by decide) (by decide) (by decide) P Q O M T S (Rt.of (f.2 2 (by decide)) (f.rows (by decide))) (B.of d (f.at 102 (by decide) (by decide)) (f.at 107 (by decide) (by decide)) (f.at 108 (by decide) (by decide)))
  exact ⟨G.1, G.2, d.le⟩
theorem NX.tpn {h h' : aH} (V : INV h) (p : TPN h h') : NX h h' := by
  obtain ⟨f, Rt⟩ := p
  obtain ⟨⟨P, Q, O, M, T, S, -⟩, -, -, -, -, B⟩ := id V
  have kp : Kp h h' := f.kp (by decide)
  have e9 : h' 9 11 = h 9 11 := by rw [f.at 9 (by decide) (by decide)]
  have G := V.gen f (by decide) (by decide) (by decide) (kp.pi P) (Q.keep kp f (by decide) (by decide)) (O.of (by rw [kp.at 58 (by decide)]) (f.rows (by decide))) (M.of (by rw [kp.at 58 (by decide)]) (f.2 76 (by decide)) (f.rows (by decide))) (T.of (fun j => Or.inl (by rw [f.at 162 (by decide) (by decide)]))) (S.mv f (by decide) (by decide) (Lo.of f (by decide))) Rt (B.kp kp (f.at 102 (by decide) (by decide)) (f.at 107 (by decide) (by decide)) (f.at 108 (by decide) (by decide)) e9)
  exact ⟨G.1, G.2, by omega, by omega⟩
section PAIRS
variable {N : Nat} {h : aH}
theorem q_feed (V : INV h) (a b c d e : Int) : PWI N 20 215 [(0, .inr (.inr 9)), (1, .inl a), (2, .inl b), (3, .inl c), (4, .inl d), (5, .inl e)] [(0, .inr (.inr 130)), (1, .inl a), (2, .inl b), (3, .inl c), (4, .inl d), (5, .inl e)] h := (pl_feed (D := fun v1 v2 h2 => v1 = v2 ∧ NX h h2) V.2.2.1 (fun _ _ p => ⟨rfl, NX.tpn V p⟩)).row (by decide)
theorem q_back (V : INV h) (a : Int) : PWI N 23 217 [(0, .inr (.inr 9)), (1, .inl a)] [(0, .inr (.inr 130)), (1, .inl a)] h := (pl_back (D := fun v1 v2 h2 => v1 = v2 ∧ NX h h2) V.2.2.1 (fun _ _ p => ⟨rfl, NX.tpn V p⟩)).row (by decide)
theorem q_read (V : INV h) (he : okEd h) : PWI N 24 218 [(0, .inr (.inr 9))] [(0, .inr (.inr 130))] h := (pl_read (D := fun v1 v2 h2 => v1 = v2 ∧ NX h h2) V he (fun _ h' a b c => ⟨rfl, a, b, by rcases c with c | c <;> omega⟩)).row (by decide)
theorem q_place (V : INV h) : PWI N 74 247 [(0, .inr (.inr 9))] [(0, .inr (.inr 130))] h := (pl_place (D := fun v1 v2 h2 => v1 = v2 ∧ NX h h2) V (fun _ => ⟨rfl, NX.rfl V⟩)).row (by decide)
theorem q_of (V : INV h) (a b : Int) : PWI N 75 248 [(0, .inr (.inr 9)), (1, .inl a), (2, .inl b)] [(0, .inr (.inr 130)), (1, .inl a), (2, .inl b)] h := c_of V.1.1 ⟨rfl, m_of V.1.1 V.2.1.1 V.1.2.1 ⟨rfl, NX.rfl V⟩⟩
theorem q_lies (V : INV h) (a : Int) : PWI N 78 251 [(0, .inr (.inr 9)), (1, .inl a)] [(0, .inr (.inr 130)), (1, .inl a)] h := c_lies V.1.1 ⟨rfl, m_lies V.1.1 V.2.1.1 V.1.2.1 ⟨rfl, NX.rfl V⟩⟩
theorem q_hears (V : INV h) (x1 x2 x3 x4 : Int) : PWI N 80 254 [(0, .inr (.inr 9)), (1, .inl x1), (2, .inl x2), (3, .inl x3), (4, .inl x4)] [(0, .inr (.inr 130)), (1, .inl x1), (2, .inl x2), (3, .inl x3), (4, .inl x4)] h := by
  refine c_hears V.1.1 V.2.2.2.2.1 (fun h1 f1 s1 => ?_)
  have a := V.st f1 (by decide) (by decide) s1
  refine ⟨a.2.2.1, m_hears a.1.1.1 a.1.2.1.1 a.1.1.2.1 (fun h2 f2 => ⟨by rw [kp_vHears a.2.1], NX.of a (a.1.sm f2 (by decide) (by decide) (by decide))⟩)⟩
theorem q_up (V : INV h) (x1 : Int) : PWL N 105 280 [(0, .inr (.inr 9)), (1, .inl x1)] [(0, .inr (.inr 130)), (1, .inl x1)] h := by
  refine c_up V.1.1 V.2.2.2.2.1 (fun h1 f1 s1 => ?_)
  have a := V.st f1 (by decide) (by decide) s1
  refine ⟨a.2.2.1, m_up a.1.1.1 a.1.2.1.1 a.1.1.2.1 (fun h2 f2 => ⟨by rw [kp_vUp a.2.1], NX.of a (a.1.sm f2 (by decide) (by decide) (by decide))⟩)⟩
theorem q_woken (V : INV h) (x1 : Int) : PWL N 112 286 [(0, .inr (.inr 9)), (1, .inl x1)] [(0, .inr (.inr 130)), (1, .inl x1)] h := by
  refine c_woken V.1.1 V.2.2.2.2.1 (fun h1 f1 s1 => ?_)
  have a := V.st f1 (by decide) (by decide) s1
  refine ⟨a.2.2.1, m_woken a.1.1.1 a.1.2.1.1 a.1.1.2.1 (fun h2 f2 => ⟨by rw [kp_vWoken a.2.1], NX.of a (a.1.sm f2 (by decide) (by decide) (by decide))⟩)⟩
theorem q_twice (V : INV h) (x1 x2 x3 x4 : Int) : PWL N 154 312 [(0, .inr (.inr 9)), (1, .inl x1), (2, .inl x2), (3, .inl x3), (4, .inl x4)] [(0, .inr (.inr 130)), (1, .inl x1), (2, .inl x2), (3, .inl x3), (4, .inl x4)] h := by
  refine c_twice V.1.1 V.2.2.2.2.1 (fun h1 f1 s1 => ?_)
  have a := V.st f1 (by decide) (by decide) s1
  refine ⟨a.2.2.1, m_twice a.1.1.1 a.1.2.1.1 a.1.1.2.1 (fun h2 f2 => ⟨by rw [kp_vTwice a.2.1], NX.of a (a.1.sm f2 (by decide) (by decide) (by decide))⟩)⟩
theorem q_worth (V : INV h) (x1 : Int) : PWL N 169 321 [(0, .inr (.inr 9)), (1, .inl x1)] [(0, .inr (.inr 130)), (1, .inl x1)] h := by
  refine c_worth V.1.1 V.2.2.2.2.1 (fun h1 f1 s1 => ?_)
  have a := V.st f1 (by decide) (by decide) s1
  refine ⟨a.2.2.1, m_worth a.1.1.1 a.1.2.1.1 a.1.1.2.1 (fun h2 f2 => ⟨by rw [kp_vWorth a.2.1], NX.of a (a.1.sm f2 (by decide) (by decide) (by decide))⟩)⟩
theorem q_whose (V : INV h) (x1 : Int) : PWI N 171 323 [(0, .inr (.inr 9)), (1, .inl x1)] [(0, .inr (.inr 130)), (1, .inl x1)] h := by
  refine c_whose V.1.1 V.2.2.2.2.1 (fun h1 f1 s1 => ?_)
  have a := V.st f1 (by decide) (by decide) s1
  refine ⟨a.2.2.1, m_whose a.1.1.1 a.1.2.1.1 a.1.1.2.1 (fun h2 f2 => ⟨by rw [kp_vWhose a.2.1], NX.of a (a.1.sm f2 (by decide) (by decide) (by decide))⟩)⟩
theorem q_day (V : INV h) (x1 x2 : Int) : PWI N 199 342 [(0, .inr (.inr 9)), (1, .inl x1), (2, .inl x2)] [(0, .inr (.inr 130)), (1, .inl x1), (2, .inl x2)] h := by
  refine c_day V.1.1 V.2.2.2.2.1 (fun h1 f1 s1 => ?_)
  have a := V.st f1 (by decide) (by decide) s1
  refine ⟨a.2.2.1, m_day a.1.1.1 a.1.2.1.1 a.1.1.2.1 (fun h2 f2 => ⟨by rw [kp_vDay a.2.1], NX.of a (a.1.sm f2 (by decide) (by decide) (by decide))⟩)⟩
theorem q_days (V : INV h) (x1 x2 x3 : Int) : PWI N 203 347 [(0, .inr (.inr 9)), (1, .inl x1), (2, .inl x2), (3, .inl x3)] [(0, .inr (.inr 130)), (1, .inl x1), (2, .inl x2), (3, .inl x3)] h := by
  refine c_days V.1.1 V.2.2.2.2.1 (fun h1 f1 s1 => ?_)
  have a := V.st f1 (by decide) (by decide) s1
  refine ⟨a.2.2.1, m_days a.1.1.1 a.1.2.1.1 a.1.1.2.1 (fun h2 f2 => ⟨by rw [kp_vDays a.2.1], NX.of a (a.1.sm f2 (by decide) (by decide) (by decide))⟩)⟩
theorem q_again (V : INV h) (x1 x2 : Int) : PWI N 87 263 [(0, .inr (.inr 9)), (1, .inl x1), (2, .inl x2)] [(0, .inr (.inr 130)), (1, .inl x1), (2, .inl x2)] h := by
  refine c_again V.1.1 V.2.2.2.2.1 (fun h1 f1 s1 => ?_)
  have a := V.st f1 (by decide) (by decide) s1
  refine ⟨a.2.2.1, m_again a.1.1.1 a.1.2.1.1 (fun h2 f2 => ⟨by rw [kp_vAgain a.2.1], NX.of a (a.1.sm f2 (by decide) (by decide) (by decide))⟩)⟩
theorem q_cost (V : INV h) : PWL N 114 288 [(0, .inr (.inr 9))] [(0, .inr (.inr 130))] h := by
  refine c_cost V.1.1 V.2.2.2.2.1 (fun h1 f1 s1 => ?_)
  have a := V.st f1 (by decide) (by decide) s1
  refine ⟨a.2.2.1, m_cost a.1.1.1 a.1.2.1.1 a.1.1.2.1 (fun h2 f2 => ⟨by rw [a.2.1.costw], NX.of a (a.1.sm f2 (by decide) (by decide) (by decide))⟩)⟩
theorem q_worst (V : INV h) : PWI N 117 290 [(0, .inr (.inr 9))] [(0, .inr (.inr 130))] h := by
  refine c_worst V.1.1 V.2.2.2.2.1 (fun h1 f1 s1 => ?_)
  have a := V.st f1 (by decide) (by decide) s1
  refine ⟨a.2.2.1, m_worst a.1.1.1 a.1.2.1.1 a.1.1.2.1 (fun h2 f2 q2 => ⟨by rw [kp_vWorst a.2.1], NX.of a (a.1.smP f2 (by decide) (by decide) q2)⟩)⟩
theorem q_deaf (V : INV h) (x1 : Int) : PWI N 140 302 [(0, .inr (.inr 9)), (1, .inl x1)] [(0, .inr (.inr 130)), (1, .inl x1)] h := by
  refine c_deaf V.1.1 V.1.2.2.2.2.2.2.1 V.2.2.2.2.1 (fun h1 f1 s1 => ?_)
  have a := V.st f1 (by decide) (by decide) s1
  refine ⟨a.2.2.1, m_deaf a.1.1.1 a.1.2.1.1 a.1.1.2.1 (fun h2 f2 => ⟨by rw [kp_vDeaf a.2.1], NX.of a (a.1.sm f2 (by decide) (by decide) (by decide))⟩)⟩
theorem m_twiceAt2 {C : Int → aH → Prop} {s loud k w i : Int} (P : PI h) (R : RelH h) (Q : RelP h) (hC : ∀ h', Fr MTW [] h h' → C (vTwiceAt h s loud k w i) h') : WI N 315 0 [(0, .inr (.inr 130)), (1, .inl s), (2, .inl loud), (3, .inl k), (4, .inl w), (5, .inl i)] h C := by
  unfold vTwiceAt at hC
  refine w_315_0 (m_twiceBest P R Q (fun ok h' f rb => ?_) (fun no => ?_))
  · have k3 := ok.2.2.1
    have w3 := ok.2.2.2.1
    have nn := TBEST_nn (h := h) (s := s.toNat) (loud := loud) (k := k.toNat) (w := w.toNat) (by omega) (by omega) (by have := ok.2.2.2.2.2.2; omega)
    simp only [sgn_lt]
    refine ⟨fun z => by omega, fun _ => ⟨⟨by omega, by omega⟩, m_in (fun q => y1 ?_) (fun q => y0 ?_)⟩⟩
    · rw [if_pos ⟨ok, by omega⟩] at hC
      refine ck_ix (by omega) ?_
      rw [rb nn i.toNat (by omega)]
      exact hC h' f
    · rw [if_neg (fun z => q (by have := z.2; omega))] at hC
      exact hC h' f
  · simp only [sgn_lt]
    refine ⟨fun _ => ?_, fun z => absurd (by decide) z⟩
    rw [if_neg (fun z => no z.1)] at hC
    exact hC h Fr.rfl
theorem q_twiceAt (V : INV h) (x1 x2 x3 x4 x5 : Int) : PWI N 158 315 [(0, .inr (.inr 9)), (1, .inl x1), (2, .inl x2), (3, .inl x3), (4, .inl x4), (5, .inl x5)] [(0, .inr (.inr 130)), (1, .inl x1), (2, .inl x2), (3, .inl x3), (4, .inl x4), (5, .inl x5)] h := by
  refine c_twiceAt V.1.1 V.2.2.2.2.1 (fun h1 f1 s1 => ?_)
  have a := V.st f1 (by decide) (by decide) s1
  refine ⟨a.2.2.1, m_twiceAt2 a.1.1.1 a.1.2.1.1 a.1.1.2.1 (fun h2 f2 => ⟨by rw [kp_vTwiceAt a.2.1], NX.of a (a.1.sm f2 (by decide) (by decide) (by decide))⟩)⟩
theorem BDM.rp {h h' : aH} (V : INV h) (B : BDM h (h 63) h') : RelP h' := by
  obtain ⟨f, b⟩ := B
  have kp : Kp h h' := f.kp (by decide)
  obtain ⟨q1, q2, q3⟩ := V.1.2.1
  refine ⟨by rw [f.2 48 (by decide), kp.at 58 (by decide)]; exact q1, fun j hj => ?_, fun s hs => ⟨?_, ?_⟩⟩
  · rw [kp.at 58 (by decide)] at hj
    rw [f.at 163 (by decide) (by decide), f.at 164 (by decide) (by decide), f.at 165 (by decide) (by decide), f.at 166 (by decide) (by decide), kp.at 59 (by decide), kp.at 60 (by decide), kp.at 61 (by decide), kp.at 62 (by decide)]
    exact q2 j hj
  · rw [kp.at 16 (by decide)] at hs
    rw [b s (by unfold NSL; omega), kp.at 63 (by decide)]
  · rw [kp.at 16 (by decide)] at hs
    rw [f.at 162 (by decide) (by decide), kp.wof]
    exact (q3 s hs).2
theorem q_swaps (V : INV h) (x1 : Int) : PWI N 159 316 [(0, .inr (.inr 9)), (1, .inl x1)] [(0, .inr (.inr 130)), (1, .inl x1)] h := by
  refine c_swaps V.1.1 V.2.2.2.2.1 (fun h1 f1 s1 => ?_)
  have a := V.st f1 (by decide) (by decide) s1
  refine ⟨a.2.2.1, m_swaps a.1.1.1 a.1.2.1.1 a.1.1.2.1 (fun h2 b2 => ⟨by rw [kp_vSwaps a.2.1], NX.of a (a.1.smP b2.1 (by decide) (by decide) (b2.rp a.1))⟩)⟩
theorem q_swapAt (V : INV h) (x1 x2 : Int) : PWI N 168 320 [(0, .inr (.inr 9)), (1, .inl x1), (2, .inl x2)] [(0, .inr (.inr 130)), (1, .inl x1), (2, .inl x2)] h := by
  refine c_swapAt V.1.1 V.2.2.2.2.1 (fun h1 f1 s1 => ?_)
  have a := V.st f1 (by decide) (by decide) s1
  refine ⟨a.2.2.1, m_swapAt a.1.1.1 a.1.2.1.1 a.1.1.2.1 (fun h2 b2 => ⟨by rw [kp_vSwapAt a.2.1], NX.of a (a.1.smP b2.1 (by decide) (by decide) (b2.rp a.1))⟩)⟩
theorem q_sound (V : INV h) (x1 x2 : Int) : PWI N 99 274 [(0, .inr (.inr 9)), (1, .inl x1), (2, .inl x2)] [(0, .inr (.inr 130)), (1, .inl x1), (2, .inl x2)] h := c_sound V.1.1 ⟨rfl, m_sound V.1.1 V.1.2.1 ⟨rfl, NX.rfl V⟩⟩
theorem q_ways (V : INV h) : PWL N 104 278 [(0, .inr (.inr 9))] [(0, .inr (.inr 130))] h := c_ways V.1.1 ⟨rfl, m_ways V.1.1 V.1.2.1 ⟨rfl, NX.rfl V⟩⟩
theorem q_walk (V : INV h) (x1 x2 : Int) : PWI N 141 303 [(0, .inr (.inr 9)), (1, .inl x1), (2, .inl x2)] [(0, .inr (.inr 130)), (1, .inl x1), (2, .inl x2)] h := c_walk V.1.1 ⟨rfl, m_walk V.1.1 V.2.1.1 V.1.2.1 ⟨rfl, NX.rfl V⟩⟩
theorem q_alone (V : INV h) (x1 x2 x3 x4 : Int) : PWI N 185 331 [(0, .inr (.inr 9)), (1, .inl x1), (2, .inl x2), (3, .inl x3), (4, .inl x4)] [(0, .inr (.inr 130)), (1, .inl x1), (2, .inl x2), (3, .inl x3), (4, .inl x4)] h := c_alone V.1.1.1 V.1.2.2.1 ⟨rfl, m_alone V.1.1.1 V.2.1.1 V.1.2.2.1 V.1.2.2.2.1 ⟨rfl, NX.rfl V⟩⟩
theorem q_mondays (V : INV h) (x1 x2 : Int) : PWI N 190 335 [(0, .inr (.inr 9)), (1, .inl x1), (2, .inl x2)] [(0, .inr (.inr 130)), (1, .inl x1), (2, .inl x2)] h := by
  refine c_mondays V.1.1.1 V.1.2.2.1 (fun h1 f1 => ?_)
  have a := V.sm f1 (by decide) (by decide) (by decide)
  exact ⟨a.2.2.1, m_mondays a.1.1.1.1 a.1.2.1.1 a.1.1.2.2.1 a.1.1.2.2.2.1 ⟨by rw [kp_vMondays a.2.1], NX.of a ⟨a.1, Kp.rfl, rfl, rfl⟩⟩⟩
theorem q_mondayWays (V : INV h) (x1 x2 : Int) : PWL N 192 337 [(0, .inr (.inr 9)), (1, .inl x1), (2, .inl x2)] [(0, .inr (.inr 130)), (1, .inl x1), (2, .inl x2)] h := by
  refine c_mondayWays V.1.1.1 V.1.2.2.1 (fun h1 f1 => ?_)
  have a := V.sm f1 (by decide) (by decide) (by decide)
  exact ⟨a.2.2.1, m_mondayWays a.1.1.1.1 a.1.2.1.1 a.1.1.2.2.1 a.1.1.2.2.2.1 ⟨by rw [kp_vMW a.2.1], NX.of a ⟨a.1, Kp.rfl, rfl, rfl⟩⟩⟩
theorem q_hours (V : INV h) (x1 : Int) : PWI N 118 293 [(0, .inr (.inr 9)), (1, .inl x1)] [(0, .inr (.inr 130)), (1, .inl x1)] h := by
  have z := V.1.1.1.1
  unfold okSz at z
  refine c_hours ⟨z.2.2.2.2.1, z.2.2.2.2.2⟩ V.1.2.2.2.2.2.2.1 ⟨rfl, m_hours V.1.1.1 V.2.1.1 (fun h2 f2 => ⟨rfl, NX.of ⟨V, Kp.rfl, rfl, rfl⟩ (V.sm f2 (by decide) (by decide) (by decide))⟩)⟩
theorem q_fire (V : INV h) (x1 x2 x3 : Int) : PWI N 195 339 [(0, .inr (.inr 9)), (1, .inl x1), (2, .inl x2), (3, .inl x3)] [(0, .inr (.inr 130)), (1, .inl x1), (2, .inl x2), (3, .inl x3)] h := by
  refine c_fire V.1.1 V.2.2.2.2.1.2 (fun h1 f1 e1 => ?_)
  have kp : Kp h h1 := f1.kp (by decide)
  have s1 : scr h1 := by
    have s := V.2.2.2.2.1
    unfold scr okDz at s ⊢
    rw [kp.agd, f1.at 96 (by decide) (by decide), f1.at 97 (by decide) (by decide)]
    exact ⟨s.1, e1⟩
  have a := V.st f1 (by decide) (by decide) s1
  refine ⟨a.2.2.1, m_fire a.1.1.1 a.1.2.1.1 a.1.1.2.1 (fun h2 f2 => ⟨by rw [kp_vFire a.2.1], NX.of a (a.1.sm f2 (by decide) (by decide) (by decide))⟩)⟩
theorem q_reaches (V : INV h) (x1 x2 x3 : Int) : PWI N 198 341 [(0, .inr (.inr 9)), (1, .inl x1), (2, .inl x2), (3, .inl x3)] [(0, .inr (.inr 130)), (1, .inl x1), (2, .inl x2), (3, .inl x3)] h := by
  refine c_reaches V.1.1 V.2.2.2.2.1.2 (fun h1 f1 e1 => ?_)
  have kp : Kp h h1 := f1.kp (by decide)
  have s1 : scr h1 := by
    have s := V.2.2.2.2.1
    unfold scr okDz at s ⊢
    rw [kp.agd, f1.at 96 (by decide) (by decide), f1.at 97 (by decide) (by decide)]
    exact ⟨s.1, e1⟩
  have a := V.st f1 (by decide) (by decide) s1
  refine ⟨a.2.2.1, m_reaches a.1.1.1 a.1.2.1.1 a.1.1.2.1 (fun h2 f2 => ⟨by rw [kp_vReach a.2.1], NX.of a (a.1.sm f2 (by decide) (by decide) (by decide))⟩)⟩
theorem q_best (V : INV h) (x1 x2 x3 : Int) : PWL N 119 295 [(0, .inr (.inr 9)), (1, .inl x1), (2, .inl x2), (3, .inl x3)] [(0, .inr (.inr 130)), (1, .inl x1), (2, .inl x2), (3, .inl x3)] h := by
  refine c_best V.1.1 V.1.2.2.2.2.2.2.1 V.2.2.2.2.1 V.2.2.2.2.2 (fun v1 h1 f1 s1 b1 r1 => ?_)
  have kp : Kp h h1 := f1.kp (by decide)
  have V1 : INV h1 := V.mv f1 (by decide) (by decide) (by decide) (by decide) (by decide) (by decide) s1 b1
  have a : INV h1 ∧ Kp h h1 ∧ h1 1 = h 1 ∧ h1 9 11 = h 9 11 := ⟨V1, kp, f1.at 1 (by decide) (by decide), by rw [f1.at 9 (by decide) (by decide)]⟩
  refine ⟨a.2.2.1, m_best V1.1.1 V1.2.1.1 V1.1.2.1 (fun v2 h2 f2 q2 r2 => ⟨BANS_uniq V.1.1 r1 (by rw [kp_BANS kp] at r2; exact r2), NX.of a (V1.smP f2 (by decide) (by decide) q2)⟩)⟩
theorem q_bestAt (V : INV h) (x1 x2 x3 x4 : Int) : PWI N 130 298 [(0, .inr (.inr 9)), (1, .inl x1), (2, .inl x2), (3, .inl x3), (4, .inl x4)] [(0, .inr (.inr 130)), (1, .inl x1), (2, .inl x2), (3, .inl x3), (4, .inl x4)] h := by
  refine c_bestAt V.1.1 V.1.2.2.2.2.2.2.1 V.2.2.2.2.1 V.2.2.2.2.2 (fun v1 h1 f1 s1 b1 r1 => ?_)
  have kp : Kp h h1 := f1.kp (by decide)
  have V1 : INV h1 := V.mv f1 (by decide) (by decide) (by decide) (by decide) (by decide) (by decide) s1 b1
  have a : INV h1 ∧ Kp h h1 ∧ h1 1 = h 1 ∧ h1 9 11 = h 9 11 := ⟨V1, kp, f1.at 1 (by decide) (by decide), by rw [f1.at 9 (by decide) (by decide)]⟩
  refine ⟨a.2.2.1, m_bestAt V1.1.1 V1.2.1.1 V1.1.2.1 (fun v2 h2 f2 q2 r2 => ⟨BAT_uniq V.1.1 r1 (by rw [kp_BAT kp] at r2; exact r2), NX.of a (V1.smP f2 (by decide) (by decide) q2)⟩)⟩
theorem q_fewest (V : INV h) (x1 : Int) : PWI N 132 299 [(0, .inr (.inr 9)), (1, .inl x1)] [(0, .inr (.inr 130)), (1, .inl x1)] h := by
  refine c_fewest V.1.1 V.1.2.2.2.2.2.2.1 V.2.2.2.2.1 (fun y v1 h1 f1 s1 r1 => ?_) (fun n => ⟨rfl, m_fewest V.1.1 V.2.1.1 V.1.2.1 (fun y => absurd y n) (fun _ => ⟨rfl, NX.rfl V⟩)⟩)
  have a := V.st f1 (by decide) (by decide) s1
  refine ⟨a.2.2.1, m_fewest a.1.1.1 a.1.2.1.1 a.1.1.2.1 (fun _ v2 h2 f2 r2 => ⟨FEW_uniq r1 (by rw [kp_FEW a.2.1] at r2; exact r2), NX.of a (a.1.sm f2 (by decide) (by decide) (by decide))⟩) (fun n => absurd (by rw [a.2.1.at 16 (by decide)]; exact y) n)⟩
theorem q_shakes (V : INV h) (x1 x2 : Int) : PWI N 143 305 [(0, .inr (.inr 9)), (1, .inl x1), (2, .inl x2)] [(0, .inr (.inr 130)), (1, .inl x1), (2, .inl x2)] h := by
  refine c_shakes V.1.1 V.1.2.2.2.2.2.2.2.1 V.1.2.2.2.2.2.2.2.2.1 (fun v1 h1 f1 r1 => ?_)
  have a := V.sm f1 (by decide) (by decide) (by decide)
  refine ⟨a.2.2.1, m_shakes a.1.x3 (fun v2 h2 f2 r2 => ⟨SAN_uniq r1 (by rw [kp_SAN a.2.1] at r2; exact r2), NX.of a (a.1.sm f2 (by decide) (by decide) (by decide))⟩)⟩
theorem q_shaker (V : INV h) (x1 x2 : Int) : PWI N 153 310 [(0, .inr (.inr 9)), (1, .inl x1), (2, .inl x2)] [(0, .inr (.inr 130)), (1, .inl x1), (2, .inl x2)] h := by
  refine c_shaker V.1.1 V.1.2.2.2.2.2.2.2.1 V.1.2.2.2.2.2.2.2.2.1 (fun v1 h1 f1 r1 => ?_)
  have a := V.sm f1 (by decide) (by decide) (by decide)
  refine ⟨a.2.2.1, m_shaker a.1.x3 (fun v2 h2 f2 r2 => ⟨SHA_uniq r1 (by rw [kp_SHA a.2.1] at r2; exact r2), NX.of a (a.1.sm f2 (by decide) (by decide) (by decide))⟩)⟩
theorem q_round (V : INV h) (x1 : Int) : PWI N 173 324 [(0, .inr (.inr 9)), (1, .inl x1)] [(0, .inr (.inr 130)), (1, .inl x1)] h := by
  refine c_round V.1.1 V.1.2.2.2.2.2.2.2.1 (fun v1 h1 f1 r1 => ?_)
  have a := V.sm f1 (by decide) (by decide) (by decide)
  refine ⟨a.2.2.1, m_round a.1.1.1 a.1.2.1.1 a.1.1.2.1 (fun v2 h2 f2 r2 => ⟨RANS_uniq r1 (by rw [kp_RANS a.2.1] at r2; exact r2), NX.of a (a.1.sm f2 (by decide) (by decide) (by decide))⟩)⟩
theorem q_roundAt (V : INV h) (x1 x2 : Int) : PWI N 181 328 [(0, .inr (.inr 9)), (1, .inl x1), (2, .inl x2)] [(0, .inr (.inr 130)), (1, .inl x1), (2, .inl x2)] h := by
  refine c_roundAt V.1.1 V.1.2.2.2.2.2.2.2.1 (fun v1 h1 f1 r1 => ?_)
  have a := V.sm f1 (by decide) (by decide) (by decide)
  refine ⟨a.2.2.1, m_roundAt a.1.1.1 a.1.2.1.1 a.1.1.2.1 (fun v2 h2 f2 r2 => ⟨RAT_uniq r1 (by rw [kp_RAT a.2.1] at r2; exact r2), NX.of a (a.1.sm f2 (by decide) (by decide) (by decide))⟩)⟩
theorem q_ring (V : INV h) (he : okEd h) (x1 x2 x3 : Int) : PWI N 89 265 [(0, .inr (.inr 9)), (1, .inl x1), (2, .inl x2), (3, .inl x3)] [(0, .inr (.inr 130)), (1, .inl x1), (2, .inl x2), (3, .inl x3)] h := (pl_ring (D := fun v1 v2 h2 => v1 = v2 ∧ NX h h2) V.1.1 V.2.1.1 V.1.2.1 he (fun _ _ p => ⟨rfl, NX.pln V p⟩)).row (by decide)
theorem q_string (V : INV h) (he : okEd h) (x1 x2 : Int) : PWI N 94 270 [(0, .inr (.inr 9)), (1, .inl x1), (2, .inl x2)] [(0, .inr (.inr 130)), (1, .inl x1), (2, .inl x2)] h := (pl_string (D := fun v1 v2 h2 => v1 = v2 ∧ NX h h2) V.1.1 V.2.1.1 V.1.2.1 he (fun _ _ p => ⟨rfl, NX.pln V p⟩)).row (by decide)
theorem q_pole (V : INV h) (he : okEd h) (x1 x2 : Int) : PWI N 95 271 [(0, .inr (.inr 9)), (1, .inl x1), (2, .inl x2)] [(0, .inr (.inr 130)), (1, .inl x1), (2, .inl x2)] h := (pl_pole (D := fun v1 v2 h2 => v1 = v2 ∧ NX h h2) V.1.1 V.2.1.1 V.1.2.1 he (fun _ _ p => ⟨rfl, NX.pln V p⟩)).row (by decide)
theorem q_drop (V : INV h) (he : okEd h) (x1 : Int) : PWI N 96 272 [(0, .inr (.inr 9)), (1, .inl x1)] [(0, .inr (.inr 130)), (1, .inl x1)] h := (pl_drop (D := fun v1 v2 h2 => v1 = v2 ∧ NX h h2) V.1.1 V.1.2.1 he (fun _ _ p => ⟨rfl, NX.pln V p⟩)).row (by decide)
theorem q_swap (V : INV h) (he : okEd h) (x1 x2 : Int) : PWI N 102 276 [(0, .inr (.inr 9)), (1, .inl x1), (2, .inl x2)] [(0, .inr (.inr 130)), (1, .inl x1), (2, .inl x2)] h := (pl_swap (D := fun v1 v2 h2 => v1 = v2 ∧ NX h h2) V.1.1 V.2.1.1 V.1.2.1 he (fun _ _ p => ⟨rfl, NX.swn V p⟩)).row (by decide)
theorem q_morning (V : INV h) (x1 x2 x3 : Int) : PWI N 182 329 [(0, .inr (.inr 9)), (1, .inl x1), (2, .inl x2), (3, .inl x3)] [(0, .inr (.inr 130)), (1, .inl x1), (2, .inl x2), (3, .inl x3)] h := (pl_morning (D := fun v1 v2 h2 => v1 = v2 ∧ NX h h2) V.1.1 V.2.1.1 V.1.2.1 V.1.2.2.1 V.1.2.2.2.1 (fun _ _ p => ⟨rfl, NX.mln V p⟩)).row (by decide)
theorem q_annul (V : INV h) (x1 : Int) : PWI N 184 330 [(0, .inr (.inr 9)), (1, .inl x1)] [(0, .inr (.inr 130)), (1, .inl x1)] h := (pl_annul (D := fun v1 v2 h2 => v1 = v2 ∧ NX h h2) V.1.1 V.1.2.1 V.1.2.2.1 V.1.2.2.2.1 (fun _ _ p => ⟨rfl, NX.mln V p⟩)).row (by decide)
theorem q_hold (V : INV h) (x1 : Int) : PWI N 206 348 [(0, .inr (.inr 9)), (1, .inl x1)] [(0, .inr (.inr 130)), (1, .inl x1)] h := (pl_hold (D := fun v1 v2 h2 => v1 = v2 ∧ NX h h2) V.1.1 V.1.2.2.1 V.1.2.1 V.1.2.2.2.1 V.1.2.2.2.2.1 V.1.2.2.2.2.2.1 (fun _ _ p => ⟨rfl, NX.hdn V p⟩)).row (by decide)
theorem q_restore (V : INV h) (he : okEd h) (x1 : Int) : PWI N 209 350 [(0, .inr (.inr 9)), (1, .inl x1)] [(0, .inr (.inr 130)), (1, .inl x1)] h := (pl_restore (D := fun v1 v2 h2 => v1 = v2 ∧ NX h h2) V.1.1 V.1.2.2.1 V.1.2.1 V.1.2.2.2.1 V.1.2.2.2.2.1 V.1.2.2.2.2.2.1 he (fun _ _ p => ⟨rfl, NX.rsn V p⟩)).row (by decide)
theorem q_wool (V : INV h) (he : okEd h) (x1 x2 : Int) (hx : x2 = 0 ∨ x2 = 1) : PWI N 101 275 [(0, .inr (.inr 9)), (1, .inl x1), (2, .inl x2)] [(0, .inr (.inr 130)), (1, .inl x1), (2, .inl x2)] h := (pl_wool (D := fun v1 v2 h2 => v1 = v2 ∧ NX h h2) V.1.1 V.2.1.1 V.1.2.1 he hx (fun _ _ p => ⟨rfl, NX.wln V p⟩)).row (by decide)
theorem q_count (V : INV h) (x1 : Int) : PWI N 210 351 [(0, .inr (.inr 9)), (1, .inl x1)] [(0, .inr (.inr 130)), (1, .inl x1)] h := (pl_count (D := fun v1 v2 h2 => v1 = v2 ∧ NX h h2) V.1.1 V.2.1.1 V.1.2.1 V.1.2.2.2.1 V.1.2.2.2.2.2.1 V.2.2.1 (fun _ => ⟨rfl, NX.rfl V⟩)).row (by decide)
end PAIRS
