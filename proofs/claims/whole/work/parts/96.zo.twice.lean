/-! TWICE: the class's -/
def TRI (t : Nat × Nat × Nat) (j : Nat) : Nat := if j = 0 then t.1 else if j = 1 then t.2.1 else t.2.2
def TMT (st : Int) (t : Nat × Nat × Nat) (j : Nat) : Int := st + (TRI t j : Nat)
def THR2 (h : aH) (s : Nat) (loud st : Int) (t : Nat × Nat × Nat) (j : Nat) : Int := HEAR h s (h 63 s) (WOF h s) loud (h 63 s) (TMT st t j)
/-- by how many ways he is up by those
-/
def UB (h : aH) (s : Nat) (loud st : Int) (k : Nat) (t : Nat × Nat × Nat) : Int := UPV (TMT st t) (THR2 h s loud st t) (AGN h s) (h 23 s) k
def TUP (h : aH) (s : Nat) (loud st : Int) (k : Nat) (a b c : Nat) (x : Int × Nat × Nat × Nat) : Int × Nat × Nat × Nat := if x.1 < UB h s loud st k (a, b, c) then (UB h s loud st k (a, b, c), (a, b, c)) else x
def TBEST (h : aH) (s : Nat) (loud : Int) (k w : Nat) : Int × Nat × Nat × Nat := RF (TUP h s loud (h 23 s - (w : Int)) k) k w (IN0 k w) (-1, (0, 0, 0))
abbrev TOK (h : aH) (s loud k w : Int) : Prop := (0 ≤ s ∧ s < h 16 16) ∧ (1 ≤ loud ∧ loud ≤ 12) ∧ (1 ≤ k ∧ k ≤ 3) ∧ (0 ≤ w ∧ w ≤ 30) ∧ ¬ h 23 s.toNat = -2 ∧ 0 ≤ h 23 s.toNat - w ∧ k ≤ w + 1
def vTwice (h : aH) (s loud k w : Int) : Int := if TOK h s loud k w then (TBEST h s.toNat loud k.toNat w.toNat).1 else -1
def vTwiceAt (h : aH) (s loud k w i : Int) : Int := if TOK h s loud k w ∧ (0 ≤ i ∧ i < k) then TMT (h 23 s.toNat - w) (TBEST h s.toNat loud k.toNat w.toNat).2 i.toNat else -1
theorem UB_bd (h : aH) (s : Nat) (loud st : Int) {k : Nat} (hk : k ≤ 3) (t : Nat × Nat × Nat) : 0 ≤ UB h s loud st k t ∧ UB h s loud st k t ≤ 1000000 := by
  have := UPV_bd (mt := TMT st t) (hr := THR2 h s loud st t) (ag := AGN h s) (hour := h 23 s) (c := k) (fun x => AGD_rg _ _ _) (fun j _ => HEAR_rg _ _ _ _ _ _ _)
  have h3 : (100 : Int) ^ k ≤ 100 ^ 3 := p100_le hk
  have e : (100 : Int) ^ 3 = 1000000 := by decide
  unfold UB
  omega
theorem TB_ok {h : aH} {s : Nat} {loud st : Int} {k w : Nat} {t : Nat × Nat × Nat} {x : Int × Nat × Nat × Nat} (hk : k ≤ 3) : (0 ≤ x.1 → 0 ≤ (RF (TUP h s loud st k) k w t x).1) ∧ (-1 ≤ x.1 → x.1 ≤ 1000000 → -1 ≤ (RF (TUP h s loud st k) k w t x).1 ∧ (RF (TUP h s loud st k) k w t x).1 ≤ 1000000) := by
  refine ⟨fun h0 => RF_inv (I := fun x => 0 ≤ x.1) (fun a b c x hx => ?_) t x h0, fun h0 h1 => RF_inv (I := fun x => -1 ≤ x.1 ∧ x.1 ≤ 1000000) (fun a b c x hx => ?_) t x ⟨h0, h1⟩⟩
  · have := UB_bd h s loud st hk (a, b, c)
    unfold TUP
    split
    · exact this.1
    · exact hx
  · have := UB_bd h s loud st hk (a, b, c)
    unfold TUP
    split
    · dsimp only; omega
    · exact hx
theorem c_mrt {N : Nat} {C : Int → aH → Prop} {h : aH} {s loud k w : Int} (P : PI h) (h1 : TOK h s loud k w → C 1 h) (h0 : ¬ TOK h s loud k w → C 0 h) : WI N 155 0 [(0, .inr (.inr 9)), (1, .inl s), (2, .inl loud), (3, .inl k), (4, .inl w)] h C := by
  have hz := P.1.1
  unfold okSz at hz
  refine w_155_0 (c_isSleeper (fun q => z1 (c_isLoud (fun q2 => z1 ?_) (fun q2 => z0 (ck_t0 (h0 (fun z => q2 z.2.1))))) ) (fun q => z0 (ck_t0 (h0 (fun z => q z.1)))))
  have g2 := (P.1.2.2.2.1 s.toNat (by omega)).2.1
  refine ⟨fun a => ck_t0 (h0 (fun z => by have := z.2.2.1; omega)), fun a => ⟨fun b => ck_t0 (h0 (fun z => by have := z.2.2.1; omega)), fun b => ⟨fun c => ck_t0 (h0 (fun z => by have := z.2.2.2.1; omega)), fun c => ⟨fun d => ck_ix (by omega) ⟨fun e => ck_t0 (h0 (fun z => z.2.2.2.2.1 e)), fun e => ck_ix (by omega) (ck_rg (by omega) ⟨fun f => ck_t0 (h0 (fun z => by have := z.2.2.2.2.2.1; omega)), fun f => ck_rg (by omega) ⟨fun g => ck_t0 (h0 (fun z => by have := z.2.2.2.2.2.2; omega)), fun g => ck_t1 (h1 ⟨q, q2, ⟨by omega, by omega⟩, ⟨by omega, by omega⟩, e, by omega, by omega⟩)⟩⟩)⟩, fun d => ck_t0 (h0 (fun z => by have := z.2.2.2.1; omega))⟩⟩⟩⟩
/-- pick's loop, from the place that moves on -/
theorem c_pn32 {N : Nat} {C : Int → aH → Prop} {h : aH} {k i : Nat} {q : Int} (h3 : k ≤ 3) (hq : 0 ≤ q ∧ q ≤ 100) (hC : ∀ h', Fr [98] [] h h' → (∀ m, m < i → h' 98 m = h 98 m) → (∀ m, i ≤ m → m < k → h' 98 m = q + ((m - i : Nat) : Int)) → C 1 h') : ∀ (d j : Nat) (h1 : aH), d = k - j → i < j → j ≤ k → Fr [98] [] h h1 → (∀ m, m < i → h1 98 m = h 98 m) → (∀ m, i ≤ m → m < j → h1 98 m = q + ((m - i : Nat) : Int)) →
    WI N 157 32 [(0, .inr (.inr 92)), (1, .inl (k : Int)), (4, .inl (j : Int))] h1 C := by
  intro d
  induction d with
  | zero =>
    intro j h1 hd hij hj f lo hi
    have : j = k := by omega
    subst this
    exact w_157_32 ⟨fun _ => ck_t1 (hC h1 f lo hi), fun z => absurd (Int.le_refl _) z⟩
  | succ d ih =>
    intro j h1 hd hij hj f lo hi
    have e := hi (j - 1) (by omega) (by omega)
    refine w_157_32 ⟨fun z => by omega, fun _ => ?_⟩
    rw [show ((j : Int) - 1).toNat = j - 1 by omega, e]
    (repeat first | refine ck_ix (by omega) ?_ | refine ck_rg (by omega) ?_ | refine ck_rl (by omega) ?_)
    rw [Int.toNat_natCast]
    refine ih (j + 1) _ (by omega) (by omega) (by omega) (f.up (by decide) (by decide)) (fun m hm => ?_) (fun m hm hm2 => ?_)
    · rw [up_ne (by omega)]; exact lo m hm
    · rw [up_in]
      by_cases z : m = j
      · rw [if_pos z, z]; omega
      · rw [if_neg z]; exact hi m hm (by omega)
theorem c_pn5 {N : Nat} {C : Int → aH → Prop} {h : aH} {k w : Nat} {p : Nat → Nat} (h3 : k ≤ 3) (hw : w ≤ 30) (hkw : k ≤ w + 1) (hp : ∀ j, j < k → h 98 j = (p j : Nat) ∧ p j + (k - 1 - j) ≤ w)
    (hS : ∀ i, i < k → (∀ j, i < j → j < k → p j + (k - 1 - j) = w) → p i + (k - 1 - i) < w → ∀ h', Fr [98] [] h h' → (∀ m, m < i → h' 98 m = h 98 m) → (∀ m, i ≤ m → m < k → h' 98 m = ((p i : Nat) : Int) + 1 + ((m - i : Nat) : Int)) → C 1 h') (hN : (∀ j, j < k → p j + (k - 1 - j) = w) → C 0 h) :
    ∀ n, n ≤ k → (∀ j, n ≤ j → j < k → p j + (k - 1 - j) = w) → WI N 157 5 [(0, .inr (.inr 92)), (1, .inl (k : Int)), (2, .inl (w : Int)), (3, .inl ((n : Int) - 1))] h C := by
  intro n
  induction n with
  | zero =>
    intro _ hj
    exact w_157_5 ⟨fun _ => ck_t0 (hN (fun j hj2 => hj j (Nat.zero_le _) hj2)), fun z => absurd (show ((0 : Nat) : Int) - 1 < 0 by decide) z⟩
  | succ n ih =>
    intro hn hj
    obtain ⟨e1, e2⟩ := hp n (by omega)
    refine w_157_5 ⟨fun z => by omega, fun _ => ?_⟩
    rw [show (((n + 1 : Nat) : Int) - 1) = (n : Int) by omega, Int.toNat_natCast, e1]
    (repeat first | refine ck_ix (by omega) ?_ | refine ck_rg (by omega) ?_ | refine ck_rl (by omega) ?_)
    refine ⟨fun le => ?_, fun gt => ?_⟩
    · (repeat first | refine ck_ix (by omega) ?_ | refine ck_rg (by omega) ?_ | refine ck_rl (by omega) ?_)
      refine ih (by omega) (fun j h1 h2 => ?_)
      by_cases z : j = n
      · subst z; omega
      · exact hj j (by omega) h2
    · (repeat first | refine ck_ix (by omega) ?_ | refine ck_rg (by omega) ?_ | refine ck_rl (by omega) ?_)
      refine c_pn32 (q := ((p n : Nat) : Int) + 1) h3 (by omega) (fun h' f lo hi => hS n (by omega) (fun j h1 h2 => hj j (by omega) h2) (by omega) h' f lo hi) (k - (n + 1)) (n + 1) _ rfl (by omega) (by omega) (Fr.rfl.up (by decide) (by decide)) (fun m hm => by rw [up_ne (by omega)]) (fun m hm hm2 => ?_)
      have : m = n := by omega
      subst this
      rw [up_same]
      omega
theorem c_pickNext {N : Nat} {C : Int → aH → Prop} {h : aH} {k w : Nat} {t : Nat × Nat × Nat} (v : VTF k w t) (hw : w ≤ 30) (hp : ∀ j, j < k → h 98 j = (TRI t j : Nat))
    (hS : ∀ t', NXF k w t = some t' → ∀ h', Fr [98] [] h h' → (∀ j, j < k → h' 98 j = (TRI t' j : Nat)) → C 1 h') (hN : NXF k w t = none → C 0 h) : WI N 157 0 [(0, .inr (.inr 92)), (1, .inl (k : Int)), (2, .inl (w : Int))] h C := by
  have hk3 : k ≤ 3 := by rcases v with ⟨z, _⟩ | ⟨z, _⟩ | ⟨z, _⟩ <;> omega
  have hkw : k ≤ w + 1 := by rcases v with ⟨z, z2⟩ | ⟨z, z2⟩ | ⟨z, z2⟩ <;> omega
  obtain ⟨a, b, c⟩ := t
  refine w_157_0 (ck_rg (by omega) (c_pn5 (p := TRI (a, b, c)) hk3 hw hkw (fun j hj => ⟨hp j hj, ?_⟩) (fun i hi he hl h' f lo hig => ?_) (fun he => ?_) k (Nat.le_refl _) (fun j h1 h2 => by omega)))
  · rcases v with ⟨rfl, v1, v2, v3⟩ | ⟨rfl, v1, v2, v3⟩ | ⟨rfl, v1, v2, v3⟩
    · dsimp only at v1 v2 v3
      have : j = 0 := by omega
      subst this
      show a + 0 ≤ w
      omega
    · dsimp only at v1 v2 v3
      have : j = 0 ∨ j = 1 := by omega
      rcases this with rfl | rfl
      · show a + 1 ≤ w; omega
      · show b + 0 ≤ w; omega
    · dsimp only at v1 v2 v3
      have : j = 0 ∨ j = 1 ∨ j = 2 := by omega
      rcases this with rfl | rfl | rfl
      · show a + 2 ≤ w; omega
      · show b + 1 ≤ w; omega
      · show c + 0 ≤ w; omega
  · rcases v with ⟨rfl, v1, v2, v3⟩ | ⟨rfl, v1, v2, v3⟩ | ⟨rfl, v1, v2, v3⟩
    · dsimp only at v1 v2 v3
      have : i = 0 := by omega
      subst this
      have hl : a + 0 < w := hl
      refine hS (a + 1, w, w) (by unfold NXF; rw [if_pos rfl]; dsimp only; rw [if_pos (by omega)]) h' f (fun j hj => ?_)
      have : j = 0 := by omega
      subst this
      rw [hig 0 (by omega) (by omega)]
      show (a : Int) + 1 + 0 = ((a + 1 : Nat) : Int)
      omega
    · dsimp only at v1 v2 v3
      have : i = 0 ∨ i = 1 := by omega
      rcases this with rfl | rfl
      · have hl : a + 1 < w := hl
        have he : b + 0 = w := he 1 (by omega) (by omega)
        refine hS (a + 1, a + 2, w) (by unfold NXF; rw [if_neg (by omega), if_pos rfl]; dsimp only; rw [if_neg (by omega), if_pos (by omega)]) h' f (fun j hj => ?_)
        have : j = 0 ∨ j = 1 := by omega
        rcases this with rfl | rfl
        · rw [hig 0 (by omega) (by omega)]
          show (a : Int) + 1 + 0 = ((a + 1 : Nat) : Int)
          omega
        · rw [hig 1 (by omega) (by omega)]
          show (a : Int) + 1 + 1 = ((a + 2 : Nat) : Int)
          omega
      · have hl : b + 0 < w := hl
        refine hS (a, b + 1, w) (by unfold NXF; rw [if_neg (by omega), if_pos rfl]; dsimp only; rw [if_pos (by omega)]) h' f (fun j hj => ?_)
        have : j = 0 ∨ j = 1 := by omega
        rcases this with rfl | rfl
        · rw [lo 0 (by omega), hp 0 (by omega)]; rfl
        · rw [hig 1 (by omega) (by omega)]
          show (b : Int) + 1 + 0 = ((b + 1 : Nat) : Int)
          omega
    · dsimp only at v1 v2 v3
      have : i = 0 ∨ i = 1 ∨ i = 2 := by omega
      rcases this with rfl | rfl | rfl
      · have hl : a + 2 < w := hl
        have he1 : b + 1 = w := he 1 (by omega) (by omega)
        have he2 : c + 0 = w := he 2 (by omega) (by omega)
        refine hS (a + 1, a + 2, a + 3) (by unfold NXF; rw [if_neg (by omega), if_neg (by omega)]; dsimp only; rw [if_neg (by omega), if_neg (by omega), if_pos (by omega)]) h' f (fun j hj => ?_)
        have : j = 0 ∨ j = 1 ∨ j = 2 := by omega
        rcases this with rfl | rfl | rfl
        · rw [hig 0 (by omega) (by omega)]
          show (a : Int) + 1 + 0 = ((a + 1 : Nat) : Int)
          omega
        · rw [hig 1 (by omega) (by omega)]
          show (a : Int) + 1 + 1 = ((a + 2 : Nat) : Int)
          omega
        · rw [hig 2 (by omega) (by omega)]
          show (a : Int) + 1 + 2 = ((a + 3 : Nat) : Int)
          omega
      · have hl : b + 1 < w := hl
        have he2 : c + 0 = w := he 2 (by omega) (by omega)
        refine hS (a, b + 1, b + 2) (by unfold NXF; rw [if_neg (by omega), if_neg (by omega)]; dsimp only; rw [if_neg (by omega), if_pos (by omega)]) h' f (fun j hj => ?_)
        have : j = 0 ∨ j = 1 ∨ j = 2 := by omega
        rcases this with rfl | rfl | rfl
        · rw [lo 0 (by omega), hp 0 (by omega)]; rfl
        · rw [hig 1 (by omega) (by omega)]
          show (b : Int) + 1 + 0 = ((b + 1 : Nat) : Int)
          omega
        · rw [hig 2 (by omega) (by omega)]
          show (b : Int) + 1 + 1 = ((b + 2 : Nat) : Int)
          omega
      · have hl : c + 0 < w := hl
        refine hS (a, b, c + 1) (by unfold NXF; rw [if_neg (by omega), if_neg (by omega)]; dsimp only; rw [if_pos (by omega)]) h' f (fun j hj => ?_)
        have : j = 0 ∨ j = 1 ∨ j = 2 := by omega
        rcases this with rfl | rfl | rfl
        · rw [lo 0 (by omega), hp 0 (by omega)]; rfl
        · rw [lo 1 (by omega), hp 1 (by omega)]; rfl
        · rw [hig 2 (by omega) (by omega)]
          show (c : Int) + 1 + 0 = ((c + 1 : Nat) : Int)
          omega
  · refine hN ?_
    unfold NXF
    rcases v with ⟨rfl, v1, v2, v3⟩ | ⟨rfl, v1, v2, v3⟩ | ⟨rfl, v1, v2, v3⟩
    · have e0 : a + 0 = w := he 0 (by omega)
      rw [if_pos rfl]; dsimp only; rw [if_neg (by omega)]
    · have e0 : a + 1 = w := he 0 (by omega)
      have e1 : b + 0 = w := he 1 (by omega)
      rw [if_neg (by omega), if_pos rfl]; dsimp only; rw [if_neg (by omega), if_neg (by omega)]
    · have e0 : a + 2 = w := he 0 (by omega)
      have e1 : b + 1 = w := he 1 (by omega)
      have e2 : c + 0 = w := he 2 (by omega)
      rw [if_neg (by omega), if_neg (by omega)]; dsimp only; rw [if_neg (by omega), if_neg (by omega), if_neg (by omega)]
