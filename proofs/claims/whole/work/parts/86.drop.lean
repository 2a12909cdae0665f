/-! drop, wool, swap; the class behind it the reference -/
def HR : List Nat := [16, 17, 18, 19, 20, 22, 23, 24, 25, 29, 30, 32, 33]
theorem Fr.rows {C D : List Nat} {h h' : aH} (f : Fr C D h h') {l : List Nat} (hd : l.all (fun r => !(C.contains r) && !(Nat.beq r 130)) = true) : ∀ r ∈ l, h' r = h r := by
  intro r hr
  have h1 := List.all_eq_true.mp hd r hr
  rw [Bool.and_eq_true_iff] at h1
  refine f.1 r ?_ ?_
  · intro e
    subst e
    exact absurd h1.2 (by decide)
  · intro hc
    have h1 := h1.1
    rw [Bool.not_eq_true', List.contains_eq_mem, decide_eq_false_iff_not] at h1
    exact h1 hc
theorem HI.mv {C D : List Nat} {h h' : aH} (H : HI h) (f : Fr C D h h') (hd : HR.all (fun r => !(C.contains r) && !(Nat.beq r 130)) = true) : HI h' := by
  have k := f.rows hd
  unfold HI okSz okBeds okClk okSlp at H ⊢
  rw [k 16 (by decide), k 17 (by decide), k 18 (by decide), k 19 (by decide), k 20 (by decide), k 22 (by decide), k 23 (by decide), k 24 (by decide), k 25 (by decide), k 29 (by decide), k 30 (by decide), k 32 (by decide), k 33 (by decide)]
  exact H
theorem RelH.mv {C D : List Nat} {h h' : aH} (R : RelH h) (f : Fr C D h h') (hd : HR.all (fun r => !(C.contains r) && !(Nat.beq r 130)) = true) (hm : MH.all (fun r => !(C.contains r)) = true) (h18 : 18 ∉ D) : RelH h' := by
  have k := f.rows hd
  have km := f.km hm h18
  have q := fun r hr => km.1 r hr
  unfold RelH RelL Lv at R ⊢
  rw [km.2, q 141 (by decide), q 142 (by decide), q 143 (by decide), q 144 (by decide), q 145 (by decide), q 146 (by decide), q 147 (by decide), q 149 (by decide), q 150 (by decide), q 151 (by decide), q 152 (by decide), q 153 (by decide), q 154 (by decide), q 155 (by decide), q 156 (by decide), q 157 (by decide),
    k 16 (by decide), k 17 (by decide), k 18 (by decide), k 19 (by decide), k 20 (by decide), k 22 (by decide), k 23 (by decide), k 24 (by decide), k 25 (by decide), k 29 (by decide), k 30 (by decide), k 32 (by decide), k 33 (by decide)]
  exact R
theorem okLie.mv {C D : List Nat} {h h' : aH} (H : okLie h) (f : Fr C D h h') (h1 : 16 ∉ C) (h2 : 63 ∉ C) (h3 : 64 ∉ C) : okLie h' := by
  unfold okLie at H ⊢
  rw [f.at 16 h1 (by decide), f.at 63 h2 (by decide), f.at 64 h3 (by decide)]
  exact H
theorem c_tol {N : Nat} {C : aH → Prop} {h : aH} {n k : Nat} (h8 : n < 8) (hk : k ≤ n) (hC : ∀ h', Fr [58, 59, 60, 61, 62] [] h h' → h' 58 10 = (n : Int) → (∀ j, j ≠ 10 → h' 58 j = h 58 j) → P4 h' 59 60 61 62 n (fun j => h 59 (itm k j)) (fun j => h 60 (itm k j)) (fun j => h 61 (itm k j)) (fun j => h 62 (itm k j)) → C h') : ∀ (d i : Nat) (h1 : aH), d = n - i → k ≤ i → i ≤ n → Fr [58, 59, 60, 61, 62] [] h h1 → h1 58 10 = (n : Int) → (∀ j, j ≠ 10 → h1 58 j = h 58 j) →
    P4 h1 59 60 61 62 i (fun j => h 59 (itm k j)) (fun j => h 60 (itm k j)) (fun j => h 61 (itm k j)) (fun j => h 62 (itm k j)) → (∀ j, i < j → j ≤ n → h1 59 j = h 59 j ∧ h1 60 j = h 60 j ∧ h1 61 j = h 61 j ∧ h1 62 j = h 62 j) →
    WV N 98 9 [(0, .inr (.inr 58)), (2, .inl (i : Int))] h1 C := by
  intro d
  induction d with
  | zero =>
    intro i h1 hd hki hi hf hn hx hq hr
    have : i = n := by omega
    subst this
    refine w_98_9 ?_
    rw [hn]
    exact ⟨fun _ => hC h1 hf hn hx hq, fun z => absurd (Int.le_refl _) z⟩
  | succ d ih =>
    intro i h1 hd hki hi hf hn hx hq hr
    obtain ⟨e1, e2, e3, e4⟩ := hr (i + 1) (by omega) (by omega)
    refine w_98_9 ?_
    rw [hn, show ((i : Int) + 1).toNat = i + 1 by omega]
    simp only [Int.toNat_natCast]
    refine ⟨fun z => by omega, fun _ => ?_⟩
    (repeat first | refine ck_ix (by omega) ?_ | refine ck_rg (by omega) ?_ | refine ck_rl (by omega) ?_)
    rw [e1, e2, e3, e4]
    have hit : itm k i = i + 1 := by unfold itm; rw [if_pos (by omega)]
    refine ih (i + 1) _ (by omega) (by omega) (by omega) ((((hf.up (by decide) (by decide)).up (by decide) (by decide)).up (by decide) (by decide)).up (by decide) (by decide)) (by simp [up_row, hn]) (fun j hj => by simp [up_row]; exact hx j hj) (fun j hj => ?_) (fun j hj hj2 => ?_)
    · by_cases e : j = i
      · subst e
        refine ⟨?_, ?_, ?_, ?_⟩ <;> simp [up_in, up_row, hit]
      · have := hq j (by omega)
        simp [up_in, up_row, e, this]
    · have := hr j (by omega) hj2
      have e : j ≠ i := by omega
      simp [up_in, up_row, e, this]
theorem c_takeOut {N : Nat} {C : aH → Prop} {h : aH} {n k : Nat} (h8 : n < 8) (hk : k ≤ n) (hn : h 58 10 = ((n + 1 : Nat) : Int)) (hC : ∀ h', Fr [58, 59, 60, 61, 62] [] h h' → h' 58 10 = (n : Int) → (∀ j, j ≠ 10 → h' 58 j = h 58 j) → P4 h' 59 60 61 62 n (fun j => h 59 (itm k j)) (fun j => h 60 (itm k j)) (fun j => h 61 (itm k j)) (fun j => h 62 (itm k j)) → C h') : WV N 98 0 [(0, .inr (.inr 58)), (1, .inl (k : Int))] h C := by
  refine w_98_0 ?_
  rw [hn, show (((n + 1 : Nat) : Int) - 1) = (n : Int) by omega]
  (repeat first | refine ck_ix (by omega) ?_ | refine ck_rg (by omega) ?_ | refine ck_rl (by omega) ?_)
  refine c_tol h8 hk hC (n - k) k _ rfl (Nat.le_refl _) hk (Fr.rfl.up (by decide) (by decide)) (up_same _ _ _ _) (fun j hj => up_ne hj) (fun j hj => ?_) (fun j hj hj2 => ?_)
  · have hit : itm k j = j := by unfold itm; rw [if_neg (by omega)]
    simp [up_row, hit]
  · simp [up_row]
theorem pl_drop {N : Nat} {D : Int → Int → aH → Prop} {h : aH} {k : Int} (P : PI h) (Q : RelP h) (he : okEd h) (hD : ∀ v h', PLN h h' → D v v h') :
    WI N 96 0 [(0, .inr (.inr 9)), (1, .inl k)] h (fun v1 h1 => WI N 272 0 [(0, .inr (.inr 130)), (1, .inl k)] h1 (fun v2 h2 => D v1 v2 h2)) := by
  obtain ⟨he0, he1⟩ := he
  obtain ⟨H, L, S, W, K⟩ := P
  have P : PI h := ⟨H, L, S, W, K⟩
  obtain ⟨s0, s8, sS⟩ := S
  refine w_96_0 (c_isSound (fun q => y1 ?_) (fun q => y0 ?_))
  · obtain ⟨k, rfl⟩ := Int.eq_ofNat_of_zero_le q.1
    obtain ⟨n, hn⟩ : ∃ n : Nat, h 58 10 = ((n + 1 : Nat) : Int) := ⟨(h 58 10).toNat - 1, by omega⟩
    (repeat first | refine ck_ix (by omega) ?_ | refine ck_rg (by omega) ?_ | refine ck_rl (by omega) ?_)
    refine c_takeOut (n := n) (k := k) (by omega) (by omega) (show am_up h 9 11 (h 9 11 + 1) 58 10 = _ from hn) (fun h1 hf g1 g2 g3 => ?_)
    have f0 : Fr [9, 58, 59, 60, 61, 62] [] h h1 := (Fr.rfl.up (k := 11) (v := h 9 11 + 1) (r := 9) (by decide) (by decide)).trans (hf.mono (by decide) (by decide))
    have hms : h1 130 48 = ((n + 1 : Nat) : Int) := by rw [f0.2 48 (by decide), Q.1, hn]
    rw [g1]
    refine w_272_0 ?_
    rw [hms]
    (repeat first | refine ck_ix (by omega) ?_ | refine ck_rg (by omega) ?_ | refine ck_rl (by omega) ?_)
    refine m_in (fun _ => y1 ?_) (fun z => by omega)
    have M : MPL h1 (n + 1) (h 59) (h 60) (h 61) (h 62) := by
      refine ⟨hms, fun j hj => ?_⟩
      rw [f0.at 163 (by decide) (by decide), f0.at 164 (by decide) (by decide), f0.at 165 (by decide) (by decide), f0.at 166 (by decide) (by decide)]
      exact Q.2.1 j (by omega)
    refine m_goesOut (by omega) (by omega) M (fun h2 hf2 M2 => ?_)
    have f2 : Fr [9, 58, 59, 60, 61, 62, 163, 164, 165, 166] [48] h h2 := (f0.mono (by decide) (by decide)).trans (hf2.mono (by decide) (by decide))
    have r58 : h2 58 = h1 58 := hf2.at 58 (by decide) (by decide)
    have r59 : h2 59 = h1 59 := hf2.at 59 (by decide) (by decide)
    have r60 : h2 60 = h1 60 := hf2.at 60 (by decide) (by decide)
    have r61 : h2 61 = h1 61 := hf2.at 61 (by decide) (by decide)
    have r62 : h2 62 = h1 62 := hf2.at 62 (by decide) (by decide)
    have r9 : h2 9 11 = h 9 11 + 1 := by rw [hf2.at 9 (by decide) (by decide), hf.at 9 (by decide) (by decide)]; exact up_same _ _ _ _
    have s58 : ∀ j, j ≠ 10 → h2 58 j = h 58 j := fun j hj => by rw [r58, g2 j hj]; rfl
    rw [M2.1]
    refine hD _ _ ⟨f2, ⟨H.mv f2 (by decide), L.mv f2 (by decide) (by decide) (by decide), ⟨?_, ?_, fun j hj => ?_⟩, ?_, ?_⟩, ⟨?_, fun j hj => ?_, ?_⟩, Or.inl r9, s58 12 (by decide), s58 13 (by decide)⟩
    · rw [r58, g1]; omega
    · rw [r58, g1]; omega
    · rw [r58, g1] at hj
      obtain ⟨a1, a2, a3, a4⟩ := g3 j (by omega)
      rw [r59, r60, r61, r62, a1, a2, a3, a4, f2.at 16 (by decide) (by decide)]
      refine sS (itm k j) ?_
      unfold itm
      split <;> omega
    · unfold okWool at W ⊢
      rw [s58 11 (by decide), f2.at 16 (by decide) (by decide)]
      exact W
    · unfold okK at K ⊢
      rw [f2.at 2 (by decide) (by decide)]
      exact K
    · rw [M2.1, r58, g1]
    · rw [r58, g1] at hj
      obtain ⟨a1, a2, a3, a4⟩ := g3 j (by omega)
      obtain ⟨b1, b2, b3, b4⟩ := M2.2 j (by omega)
      rw [r59, r60, r61, r62, a1, a2, a3, a4, b1, b2, b3, b4]
      exact ⟨rfl, rfl, rfl, rfl⟩
    · unfold WOF
      rw [s58 11 (by decide), f2.at 16 (by decide) (by decide), f2.at 161 (by decide) (by decide), f2.at 162 (by decide) (by decide), f2.at 63 (by decide) (by decide)]
      exact Q.2.2
  · refine w_272_0 ?_
    rw [Q.1]
    (repeat first | refine ck_ix (by omega) ?_ | refine ck_rg (by omega) ?_ | refine ck_rl (by omega) ?_)
    exact m_in (fun z => by omega) (fun _ => y0 (hD _ _ (same_ok P Q)))
/-- what holds behind wool -/
def WLN (h h' : aH) : Prop := Fr [9, 58, 162] [] h h' ∧ PI h' ∧ RelP h' ∧ Ed h h' ∧ (∀ j, j ≠ 11 → h' 58 j = h 58 j) ∧ ∀ j, h' 162 j = h 162 j ∨ h' 162 j = 0 ∨ h' 162 j = 1
theorem wool_bits {w : Int} {sl : Nat} (hsl : sl ≤ 12) (hw : 0 ≤ w ∧ w < 2 ^ sl) : ∃ n : Nat, w = (n : Int) ∧ n < 2 ^ sl ∧ n < 2147483648 := by
  obtain ⟨n, rfl⟩ := Int.eq_ofNat_of_zero_le hw.1
  refine ⟨n, rfl, ?_, ?_⟩
  · have := hw.2
    have e : ((2 : Int) ^ sl) = ((2 ^ sl : Nat) : Int) := by simp
    rw [e] at this
    omega
  · have := hw.2
    have e : ((2 : Int) ^ sl) = ((2 ^ sl : Nat) : Int) := by simp
    rw [e] at this
    have := two_le hsl
    have : (2 : Nat) ^ 12 = 4096 := by decide
    omega
theorem wool_ok {h : aH} {s : Nat} {x : Int} {w' : Nat} (P : PI h) (Q : RelP h) (hs : (s : Int) < h 16 16) (hx : x = 0 ∨ x = 1) (hlt : w' < 2 ^ (h 16 16).toNat) (hb : ∀ t : Nat, t < 12 → w'.testBit t = if t = s then decide (x = 1) else (h 58 11).toNat.testBit t) :
    WLN h (am_up (am_up (am_up h 9 11 (h 9 11 + 1)) 58 11 (w' : Int)) 162 s x) := by
  obtain ⟨H, L, S, W, K⟩ := P
  have hz := H.1
  unfold okSz at hz
  obtain ⟨n, hn, hn1, hn2⟩ := wool_bits (sl := (h 16 16).toNat) (by omega) W
  have h12 := two_le (n := (h 16 16).toNat) (m := 12) (by omega)
  have e12 : (2 : Nat) ^ 12 = 4096 := by decide
  refine ⟨((Fr.rfl.up (by decide) (by decide)).up (by decide) (by decide)).up (by decide) (by decide), ⟨H, L, S, ⟨?_, ?_⟩, K⟩, ⟨Q.1, Q.2.1, fun t ht => ⟨(Q.2.2 t ht).1, ?_⟩⟩, Or.inl rfl, fun j hj => ?_, fun j => ?_⟩
  · show (0 : Int) ≤ (w' : Int); omega
  · show (w' : Int) < 2 ^ (h 16 16).toNat
    have e : ((2 : Int) ^ (h 16 16).toNat) = ((2 ^ (h 16 16).toNat : Nat) : Int) := by simp
    rw [e]; omega
  · have ht2 : t < 12 := by have : (t : Int) < h 16 16 := ht; omega
    have e1 : WOF (am_up (am_up (am_up h 9 11 (h 9 11 + 1)) 58 11 (w' : Int)) 162 s x) t = am_and (am_shr (w' : Int) t) 1 := rfl
    rw [e1, bt_tst (by omega) (by omega), hb t ht2, up_in]
    by_cases e : t = s
    · rw [if_pos e, if_pos e]
      rcases hx with e2 | e2 <;> subst e2 <;> decide
    · rw [if_neg e, if_neg e]
      have := (Q.2.2 t ht).2
      show h 162 t = _
      rw [this]
      unfold WOF
      rw [hn, bt_tst hn2 (by omega)]
      simp only [Int.toNat_natCast]
  · simp [up_row, up_ne hj]
  · rw [up_in]
    by_cases e : j = s
    · rw [if_pos e]; exact Or.inr hx
    · rw [if_neg e]; exact Or.inl rfl
theorem pl_wool {N : Nat} {D : Int → Int → aH → Prop} {h : aH} {s x : Int} (P : PI h) (R : RelH h) (Q : RelP h) (he : okEd h) (hx : x = 0 ∨ x = 1) (hD : ∀ v h', WLN h h' → D v v h') :
    WI N 101 0 [(0, .inr (.inr 9)), (1, .inl s), (2, .inl x)] h (fun v1 h1 => WI N 275 0 [(0, .inr (.inr 130)), (1, .inl s), (2, .inl x)] h1 (fun v2 h2 => D v1 v2 h2)) := by
  obtain ⟨he0, he1⟩ := he
  have hz := P.1.1
  unfold okSz at hz
  obtain ⟨n, hn, hn1, hn2⟩ := wool_bits (sl := (h 16 16).toNat) (by omega) P.2.2.2.1
  refine w_101_0 (c_isSleeper (fun q => y1 ?_) (fun q => y0 (ck_t0 ?_)))
  · obtain ⟨s, rfl⟩ := Int.eq_ofNat_of_zero_le q.1
    have hs2 : 2 ^ s < 2 ^ (h 16 16).toNat := two_lt (by omega)
    have h12 := two_le (n := (h 16 16).toNat) (m := 12) (by omega)
    have e12 : (2 : Nat) ^ 12 = 4096 := by decide
    have fin : ∀ w' : Nat, w' < 2 ^ (h 16 16).toNat → (∀ t : Nat, t < 12 → w'.testBit t = if t = s then decide (x = 1) else (h 58 11).toNat.testBit t) → WI N 275 0 [(0, .inr (.inr 130)), (1, .inl (s : Int)), (2, .inl x)] (am_up (am_up h 9 11 (h 9 11 + 1)) 58 11 (w' : Int)) (fun v2 h2 => D 1 v2 h2) := by
      intro w' hlt hb
      refine w_275_0 (m_isSleeper (h := am_up (am_up h 9 11 (h 9 11 + 1)) 58 11 (w' : Int)) P.1 R (fun _ => y1 ?_) (fun z => absurd q z))
      (repeat first | refine ck_ix (by omega) ?_ | refine ck_rg (by omega) ?_ | refine ck_rl (by omega) ?_)
      refine ⟨hx, ck_t1 ?_⟩
      simp only [Int.toNat_natCast]
      exact hD 1 _ (wool_ok P Q q.2 hx hlt hb)
    (repeat first | refine ck_ix (by omega) ?_ | refine ck_rg (by omega) ?_ | refine ck_rl (by omega) ?_)
    rw [bt_shl (show s < 31 by omega), hn]
    refine ⟨fun x0 => ck_t1 ?_, fun x1 => ck_t1 ?_⟩
    · rw [bt_clr hn2 (by omega)]
      refine fin _ (Nat.lt_of_le_of_lt Nat.and_le_left hn1) (fun t ht => ?_)
      rw [tb_clr (by omega), tb_two, hn]
      simp only [Int.toNat_natCast]
      by_cases e : t = s
      · rw [if_pos e, decide_eq_true e.symm, decide_eq_false (by omega)]; simp
      · rw [if_neg e, decide_eq_false (fun z => e z.symm)]; simp
    · rw [bt_or hn2 (by omega)]
      refine fin _ (Nat.or_lt_two_pow hn1 hs2) (fun t ht => ?_)
      rw [Nat.testBit_or, tb_two, hn]
      simp only [Int.toNat_natCast]
      by_cases e : t = s
      · rw [if_pos e, decide_eq_true e.symm, decide_eq_true (by omega)]; simp
      · rw [if_neg e, decide_eq_false (fun z => e z.symm)]; simp
  · refine w_275_0 (m_isSleeper P.1 R (fun z => absurd z q) (fun _ => y0 (ck_t0 (hD 0 _ ⟨Fr.rfl, P, Q, Or.inr ⟨rfl, Kp.rfl⟩, fun _ _ => rfl, fun _ => Or.inl rfl⟩))))
