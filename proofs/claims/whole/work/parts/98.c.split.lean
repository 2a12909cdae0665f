/-! read: the class's signs; all TOKENS of the class -/
theorem c_idx {N : Nat} {C : Int → aH → Prop} {h : aH} {b : Int} (W : okWrd h) (hb : 0 ≤ b ∧ b < 128) (hC : ∀ v : Int, (v = -1 ∧ (∀ j, j < 10 → SGB j ≠ b) ∨ ∃ j : Nat, v = (j : Int) ∧ j < 10 ∧ SGB j = b) → C v h) : WI N 35 0 [(0, .inr (.inr 6)), (1, .inl b)] h C := by
  obtain ⟨w1, w2, w3⟩ := W
  have len : ∀ {D : Int → aH → Prop}, D 10 h → WI N 2 0 [(0, .inr (.inr 6))] h D := by
    intro D d
    refine w_2_0 (ck_rg (by decide) (w_3_0 ⟨fun z => absurd z (by decide), fun _ => ?_⟩))
    rw [w2]
    exact ck_t0 d
  have key : ∀ (d k : Nat), d = 10 - k → k ≤ 10 → (∀ j, j < k → SGB j ≠ b) → WI N 39 6 [(0, .inr (.inr 7)), (3, .inl 10), (4, .inl b), (5, .inl (k : Int))] h C := by
    intro d
    induction d with
    | zero =>
      intro k hd hk e
      have : k = 10 := by omega
      subst this
      exact w_39_6 ⟨fun _ => hC _ (Or.inl ⟨rfl, e⟩), fun z => absurd (show (10 : Int) ≤ ((10 : Nat) : Int) by decide) z⟩
    | succ d ih =>
      intro k hd hk e
      refine w_39_6 ⟨fun z => by omega, fun _ => ck_ix (by omega) ?_⟩
      rw [Int.toNat_natCast, w3 k (by omega)]
      refine ⟨fun ne => ck_rg (by omega) (ih (k + 1) (by omega) (by omega) (fun j hj => ?_)), fun eq => hC _ (Or.inr ⟨k, rfl, by omega, Classical.byContradiction eq⟩)⟩
      by_cases z : j = k
      · rw [z]; exact ne
      · exact e j (by omega)
  have e8 : w8 b = b := by unfold w8; omega
  refine w_35_0 (w_36_0 (w_5_0 ⟨fun z => absurd z (by decide), fun _ => ?_⟩))
  rw [w2]
  refine ⟨fun z => absurd rfl z, fun _ => ck_t1 ⟨fun z => absurd z (by decide), fun _ => len (w_37_0 (w_38_0 ⟨fun z => by omega, fun _ => ⟨fun z => by omega, fun _ => ck_t1 ⟨fun _ => ck_rg (by decide) ⟨fun _ => ?_, fun z => absurd (by decide) z⟩, fun z => absurd (by decide) z⟩⟩⟩))⟩⟩
  refine w_39_0 ?_
  rw [e8]
  exact key 10 0 rfl (by decide) (fun j hj => absurd hj (Nat.not_lt_zero j))
theorem sgK_idx {B : Nat → Int} {L i : Nat} (n : B i ≠ 61) : (∀ j, j < 10 → SGB j = B i → sgK B L i = 20 + j) ∧ ((∀ j, j < 10 → SGB j ≠ B i) → sgK B L i = 32) := by
  unfold sgK
  rw [if_neg n]
  refine ⟨fun j hj e => ?_, fun e => ?_⟩
  · rw [← e]
    have : ∀ j, j < 10 → (if SGB j = 59 then 20 else if SGB j = 43 then 21 else if SGB j = 45 then 22 else if SGB j = 42 then 23 else if SGB j = 47 then 24 else if SGB j = 60 then 25 else if SGB j = 40 then 26 else if SGB j = 41 then 27 else if SGB j = 91 then 28 else if SGB j = 93 then 29 else 32) = 20 + j := by decide
    exact this j hj
  · have g := fun j hj z => e j hj z
    rw [if_neg (fun z => e 0 (by decide) z.symm), if_neg (fun z => e 1 (by decide) z.symm), if_neg (fun z => e 2 (by decide) z.symm), if_neg (fun z => e 3 (by decide) z.symm), if_neg (fun z => e 4 (by decide) z.symm), if_neg (fun z => e 5 (by decide) z.symm), if_neg (fun z => e 6 (by decide) z.symm), if_neg (fun z => e 7 (by decide) z.symm), if_neg (fun z => e 8 (by decide) z.symm), if_neg (fun z => e 9 (by decide) z.symm)]
theorem sgK_30 {B : Nat → Int} {L i : Nat} (n : B i ≠ 61) : sgK B L i ≠ 30 := by
  unfold sgK
  rw [if_neg n]
  repeat' split
  all_goals decide
theorem c_scanSign {N : Nat} {C : Int → aH → Prop} {h : aH} {L T i : Nat} (W : okWrd h) (hL : h 10 5 = (L : Int)) (L2 : L ≤ 2000) (hn : h 10 6 = (i : Int)) (iL : i < L) (hT : h 10 7 = (T : Int)) (T2 : T < 402) (hb : -128 ≤ h 11 i ∧ h 11 i < 128) (nl : ¬ isLtr (h 11 i)) (nd : ¬ isDgt (h 11 i)) (hC : ∀ v h', (v = if tkd (h 11) L i < 31 then 1 else 0) → PUTK h T (tkd (h 11) L i) i (tvl (h 11) L i) (ten (h 11) L i) h' → C v h') : WI N 34 0 [(0, .inr (.inr 10)), (1, .inl (h 11 i))] h C := by
  obtain ⟨B, hB⟩ : ∃ B, B = h 11 := ⟨_, rfl⟩
  rw [← hB] at nl nd hC hb ⊢
  obtain ⟨ek, ev, ee⟩ := tk_S iL nl nd
  have sr := sgK_rg B L i
  have fin : ∀ kd : Nat, kd = sgK B L i → WI N 34 44 [(0, .inr (.inr 10)), (2, .inl (i : Int)), (3, .inl (kd : Int))] h C := by
    intro kd e
    refine w_34_44 (c_tput hT T2 (fun h' a b c d e1 g => ?_))
    have out : ∀ m : Nat, ten B L i = i + m → C (if (kd : Int) = 32 then 0 else 1) (am_up h' 10 6 (((i + m : Nat)) : Int)) := by
      intro m em
      refine hC _ _ ?_ ?_
      · rw [ek, ← e]
        by_cases z : (kd : Int) = 32
        · rw [if_pos z, if_neg (by omega)]
        · rw [if_neg z, if_pos (by omega)]
      · rw [ek, ev, em, ← e]
        refine ⟨a.up (by decide) (by decide), by rw [up_ne (by decide)]; exact b, up_same _ _ _ _, by rw [up_ne (by decide)]; exact d, by rw [up_row (by decide), up_row (by decide), up_row (by decide)]; exact e1, fun j hj => by rw [up_row (by decide), up_row (by decide), up_row (by decide)]; exact g j hj⟩
    rw [c, hn]
    refine ⟨fun z => ck_rg (by omega) (w_34_61 ?_), fun z => ck_rg (by omega) (w_34_61 ?_)⟩
    · rw [if_neg (by omega)] at ee
      have o := out 1 ee
      rw [show (((i + 1 : Nat)) : Int) = (i : Int) + 1 by omega] at o
      refine ⟨fun q => ck_t0 ?_, fun q => ck_t1 ?_⟩
      · rw [if_pos q] at o; exact o
      · rw [if_neg q] at o; exact o
    · have z : kd = 30 := by have := Classical.byContradiction z; omega
      rw [if_pos (by omega)] at ee
      have o := out 2 ee
      rw [show (((i + 2 : Nat)) : Int) = (i : Int) + 2 by omega] at o
      refine ⟨fun q => by omega, fun q => ck_t1 ?_⟩
      rw [if_neg q] at o; exact o
  have no : sgK B L i = 32 → WI N 34 44 [(0, .inr (.inr 10)), (2, .inl (i : Int)), (3, .inl 32)] h C := fun e => fin 32 e.symm
  refine w_34_0 ?_
  rw [hn, hL]
  refine ⟨fun ne => ?_, fun eq => ?_⟩
  · obtain ⟨x1, x2⟩ := sgK_idx (L := L) ne
    refine ⟨fun lo => no (x2 (fun j hj z => ?_)), fun pos => ?_⟩
    · have : ∀ j, j < 10 → 0 < SGB j := by decide
      have := this j hj
      omega
    · rw [show B i % 65536 = B i by omega]
      refine c_idx W (by omega) (fun v o => ?_)
      rcases o with ⟨rfl, o⟩ | ⟨j, rfl, j1, j2⟩
      · exact ⟨fun _ => no (x2 o), fun z => absurd (by decide) z⟩
      · refine ⟨fun z => by omega, fun _ => ck_rg (by omega) ?_⟩
        have f := fin (20 + j) (x1 j j1 j2).symm
        rw [show (((20 + j : Nat)) : Int) = 20 + (j : Int) by omega] at f
        exact f
  · have e61 : B i = 61 := Classical.byContradiction eq
    have sk : sgK B L i = if i + 1 < L ∧ B (i + 1) = 61 then 30 else 32 := if_pos e61
    refine ck_rg (by omega) ⟨fun z => w_34_25 (no (by rw [sk, if_neg (by omega)])), fun z => ck_rg (by omega) (ck_ix (by omega) ?_)⟩
    rw [show ((i : Int) + 1).toNat = i + 1 by omega, ← hB]
    refine ⟨fun q => w_34_25 (no (by rw [sk, if_neg (fun y => q y.2)])), fun q => fin 30 (by rw [sk, if_pos ⟨by omega, Classical.byContradiction q⟩])⟩
/-- T TOKENS are there -/
def TKN (h0 : aH) (L : Nat) (T : Nat) (h1 : aH) : Prop := Fr [10, 13, 14, 15] [] h0 h1 ∧ h1 10 5 = (L : Int) ∧ h1 10 7 = (T : Int) ∧ ∀ j, j < T → h1 13 j = ((tkd (h0 11) L (tps (h0 11) L j) : Nat) : Int) ∧ h1 14 j = ((tps (h0 11) L j : Nat) : Int) ∧ h1 15 j = tvl (h0 11) L (tps (h0 11) L j)
theorem TKN.put {h0 : aH} {L T : Nat} {h1 h' : aH} (K : TKN h0 L T h1) {nx : Nat} (P : PUTK h1 T (tkd (h0 11) L (tps (h0 11) L T)) (tps (h0 11) L T) (tvl (h0 11) L (tps (h0 11) L T)) nx h') : TKN h0 L (T + 1) h' := by
  obtain ⟨a, b, c, d⟩ := K
  obtain ⟨p1, p2, p3, p4, p5, p6⟩ := P
  refine ⟨a.trans p1, by rw [p2, b], by rw [p4]; omega, fun j hj => ?_⟩
  by_cases e : j = T
  · rw [e]; exact p5
  · obtain ⟨q1, q2, q3⟩ := p6 j (by omega)
    rw [q1, q2, q3]; exact d j (by omega)
