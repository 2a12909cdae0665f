/-! BEST TWO: the class seeks -/
theorem mul10 {a x A : Int} (h1 : -A ≤ a ∧ a ≤ A) (hx : 0 ≤ x ∧ x ≤ 10) : -(10 * A) ≤ a * x ∧ a * x ≤ 10 * A := by
  have : x = 0 ∨ x = 1 ∨ x = 2 ∨ x = 3 ∨ x = 4 ∨ x = 5 ∨ x = 6 ∨ x = 7 ∨ x = 8 ∨ x = 9 ∨ x = 10 := by omega
  rcases this with e | e | e | e | e | e | e | e | e | e | e <;> subst e <;> omega
theorem SX_x0 {h : aH} {n c : Nat} (hc : c = n + 1 ∨ c = n + 2) (m1 m2 : Int) (s : Nat) (x : Int) : (SX h n c m1 m2 s 1 0 - SX h n c m1 m2 s 0 0) * x = SX h n c m1 m2 s x 0 - SX h n c m1 m2 s 0 0 := by
  rcases hc with e | e
  · subst e
    have := SX_1 h n m1 m2 s x 0
    omega
  · subst e
    have := SX_2 h n m1 m2 s x 0
    rw [Int.mul_zero] at this
    omega
theorem SX_y {h : aH} {n : Nat} (m1 m2 : Int) (s : Nat) (x y : Int) : SX h n (n + 1) m1 m2 s x y = SX h n (n + 1) m1 m2 s x 0 := by rw [SX_1 h n m1 m2 s x y, SX_1 h n m1 m2 s x 0]
theorem SX_x1 {h : aH} {n : Nat} (m1 m2 : Int) (s : Nat) (x : Int) : (SX h n (n + 2) m1 m2 s 0 1 - SX h n (n + 2) m1 m2 s 0 0) + (SX h n (n + 2) m1 m2 s 1 1 - SX h n (n + 2) m1 m2 s 1 0 - SX h n (n + 2) m1 m2 s 0 1 + SX h n (n + 2) m1 m2 s 0 0) * x = SX h n (n + 2) m1 m2 s x 1 - SX h n (n + 2) m1 m2 s x 0 := by
  have a := SX_2 h n m1 m2 s x 1
  have b := SX_2 h n m1 m2 s x 0
  rw [Int.mul_one] at a
  rw [Int.mul_zero] at b
  omega
theorem SX_xy {h : aH} {n : Nat} (m1 m2 : Int) (s : Nat) (x y : Int) : (SX h n (n + 2) m1 m2 s x 1 - SX h n (n + 2) m1 m2 s x 0) * y = SX h n (n + 2) m1 m2 s x y - SX h n (n + 2) m1 m2 s x 0 := by
  have a := SX_2 h n m1 m2 s x y
  have b := SX_2 h n m1 m2 s x 0
  rw [Int.mul_zero] at b
  rw [← SX_x1 m1 m2 s x]
  omega
def PRS (i j b1 b2 : Nat) : Nat → Nat → Nat → Nat → Prop := fun b1' i' b2' j' => i' < i ∨ (i' = i ∧ (j' < j ∨ (j' = j ∧ (b1' < b1 ∨ (b1' = b1 ∧ b2' < b2)))))
/-- hearing the first so well, the second not at all -/
def SA1 (h : aH) (f : Nat) (s2 l : Int) (i j b1 : Nat) (s : Nat) : Int := SX h (nSN h) (cTW h s2) (MI1 h f l i) (MI1 h s2.toNat l j) s (HF h f l i b1 s) 0
def SA2 (h : aH) (f : Nat) (s2 l : Int) (i j b1 b2 : Nat) (s : Nat) : Int := SX h (nSN h) (cTW h s2) (MI1 h f l i) (MI1 h s2.toNat l j) s (HF h f l i b1 s) (HF h s2.toNat l j b2 s)
theorem c_cs17 {N : Nat} {C : aH → Prop} {h h1 : aH} {f t : Nat} {l E : Int} {i j b1 b2 : Nat} (P : PI h) (rm : ROOM h (t : Int)) (S : CST h f (t : Int) l E h1) (hi : i < NHR h) (hj : j < NHR h) (hb1 : b1 < NBD h) (hb2 : b2 < NBD h) (sl : ∀ s, s < NSL h → h1 109 s = SX h (nSN h) (cTW h (t : Int)) (MI1 h f l i) (MI1 h t l j) s (HF h f l i b1 s) 1 - SA1 h f (t : Int) l i j b1 s)
    (hC : WV N 128 0 [(0, .inr (.inr 102)), (1, .inr (.inl (COSTT h f (t : Int) l b1 i b2 j))), (3, .inl (KEYT b1 i b2 j : Int))] h1 (fun h' => am_rg ((b2 : Int) + 1) ∧ WV N 129 3 [(0, .inr (.inr 102)), (1, .inr (.inl (sumN (SA1 h f (t : Int) l i j b1) (NSL h)))), (3, .inl ((((b1 : Int) * 12 + (i : Int)) * 12) * 12)), (4, .inl (j : Int)), (5, .inl ((b2 : Int) + 1))] h' C)) : ∀ (d s : Nat), d = NSL h - s → s ≤ NSL h →
    WV N 129 17 [(0, .inr (.inr 102)), (1, .inr (.inl (sumN (SA1 h f (t : Int) l i j b1) (NSL h)))), (3, .inl ((((b1 : Int) * 12 + (i : Int)) * 12) * 12)), (4, .inl (j : Int)), (5, .inl (b2 : Int)), (6, .inl (((j : Int) * 12 + (b2 : Int)) * 12)), (7, .inr (.inl (sumN (SA1 h f (t : Int) l i j b1) (NSL h) + (sumN (SA2 h f (t : Int) l i j b1 b2) s - sumN (SA1 h f (t : Int) l i j b1) s)))), (9, .inl (s : Int))] h1 C := by
  have hz := P.1.1
  unfold okSz at hz
  have n12 : NSL h ≤ 12 := by unfold NSL; omega
  have nh := NHR_le h
  have b12 : NBD h ≤ 12 := by unfold NBD; omega
  have en : h 16 16 = (NSL h : Int) := by unfold NSL; omega
  have ec : cTW h (t : Int) = nSN h + 2 := by unfold cTW; rw [if_neg (by omega)]
  unfold ROOM at rm
  have A1 : ∀ s, s < NSL h → 0 ≤ SA1 h f (t : Int) l i j b1 s ∧ SA1 h f (t : Int) l i j b1 s ≤ 90000000000000000 := fun s hs => SX_bd P rm hs HT_x (by omega)
  have A2 : ∀ s, s < NSL h → 0 ≤ SA2 h f (t : Int) l i j b1 b2 s ∧ SA2 h f (t : Int) l i j b1 b2 s ≤ 90000000000000000 := fun s hs => SX_bd P rm hs HT_x HT_x
  have S1 := fun k (hk : k ≤ NSL h) => sumN_bd (f := SA1 h f (t : Int) l i j b1) (B := 90000000000000000) (by omega) (n := k) (fun s hs => A1 s (by omega))
  have S2 := fun k (hk : k ≤ NSL h) => sumN_bd (f := SA2 h f (t : Int) l i j b1 b2) (B := 90000000000000000) (by omega) (n := k) (fun s hs => A2 s (by omega))
  have S1n := S1 (NSL h) (Nat.le_refl _)
  intro d
  induction d with
  | zero =>
    intro s hd hs
    have : s = NSL h := by omega
    subst this
    refine w_129_17 ?_
    rw [S.1.at 16 (by decide) (by decide), en]
    refine ⟨fun _ => ?_, fun z => absurd (Int.le_refl _) z⟩
    (repeat first | refine ck_ix (by omega) ?_ | refine ck_rg (by omega) ?_ | refine ck_rl (by omega) ?_)
    rw [show sumN (SA1 h f (t : Int) l i j b1) (NSL h) + (sumN (SA2 h f (t : Int) l i j b1 b2) (NSL h) - sumN (SA1 h f (t : Int) l i j b1) (NSL h)) = COSTT h f (t : Int) l b1 i b2 j by show _ = sumN (SA2 h f (t : Int) l i j b1 b2) (NSL h); omega, show ((((b1 : Int) * 12 + (i : Int)) * 12) * 12 + (b2 : Int) * 12) + (j : Int) = (KEYT b1 i b2 j : Int) by unfold KEYT; omega]
    exact hC
  | succ d ih =>
    intro s hd hs
    have hs2 : s < NSL h := by omega
    have a1 := A1 s hs2
    have a2 := A2 s hs2
    have s1 := S1 s (by omega)
    have s2 := S2 s (by omega)
    have nx := ih (s + 1) (by omega) (by omega)
    have ex := SX_xy (h := h) (n := nSN h) (MI1 h f l i) (MI1 h t l j) s (HF h f l i b1 s) (HF h t l j b2 s)
    have eT : h1 104 ((j * 12 + b2) * 12 + s) = HF h t l j b2 s := S.2.2.2.2.1 (by omega) j b2 s hj hb2 hs2 trivial
    have eA2 : SA2 h f (t : Int) l i j b1 b2 s = SX h (nSN h) (nSN h + 2) (MI1 h f l i) (MI1 h t l j) s (HF h f l i b1 s) (HF h t l j b2 s) := by unfold SA2; rw [ec, Int.toNat_natCast]
    have eA1 : SA1 h f (t : Int) l i j b1 s = SX h (nSN h) (nSN h + 2) (MI1 h f l i) (MI1 h t l j) s (HF h f l i b1 s) 0 := by unfold SA1; rw [ec, Int.toNat_natCast]
    have es := sl s hs2
    rw [ec, eA1] at es
    refine w_129_17 ?_
    rw [S.1.at 16 (by decide) (by decide), en, Int.toNat_natCast, show (((j : Int) * 12 + (b2 : Int)) * 12 + (s : Int)).toNat = (j * 12 + b2) * 12 + s by omega, eT, es, ex, ← eA1, ← eA2]
    refine ⟨fun z => by omega, fun _ => ?_⟩
    (repeat first | refine ck_ix (by omega) ?_ | refine ck_rg (by omega) ?_ | refine ck_rl (by omega) ?_)
    rw [show sumN (SA1 h f (t : Int) l i j b1) (NSL h) + (sumN (SA2 h f (t : Int) l i j b1 b2) s - sumN (SA1 h f (t : Int) l i j b1) s) + (SA2 h f (t : Int) l i j b1 b2 s - SA1 h f (t : Int) l i j b1 s) = sumN (SA1 h f (t : Int) l i j b1) (NSL h) + (sumN (SA2 h f (t : Int) l i j b1 b2) (s + 1) - sumN (SA1 h f (t : Int) l i j b1) (s + 1)) by
      show _ = sumN (SA1 h f (t : Int) l i j b1) (NSL h) + ((sumN (SA2 h f (t : Int) l i j b1 b2) s + SA2 h f (t : Int) l i j b1 b2 s) - (sumN (SA1 h f (t : Int) l i j b1) s + SA1 h f (t : Int) l i j b1 s))
      omega]
    exact nx
theorem CST.cmp {h : aH} {f : Nat} {s2 l E : Int} {h1 h2 : aH} (S : CST h f s2 l E h1) (fr : Fr [102] [] h1 h2) (e : ∀ k, k ≠ 11 → k ≠ 12 → h2 102 k = h1 102 k) : CST h f s2 l E h2 :=
  S.mv (fr.mono (by decide) (by decide)) (fr.dz (by decide) (by decide) (by decide) S.2.1.1) (fun k _ k1 k2 => e k k1 k2) (S.2.2.2.2.2.2.fr (fr.at 107 (by decide) (by decide)) (fr.at 108 (by decide) (by decide)))
theorem c_cs3 {N : Nat} {C : aH → Prop} {h : aH} {f t : Nat} {l E : Int} {i j b1 : Nat} (P : PI h) (rm : ROOM h (t : Int)) (hi : i < NHR h) (hj : j < NHR h) (hb1 : b1 < NBD h)
    {h0 : aH} (hx : ∀ h', Fr [102] [] h0 h' → (∀ k, k ≠ 11 → k ≠ 12 → h' 102 k = h0 102 k) → CST h f (t : Int) l E h' → MINL h f (t : Int) l (PRS i j (b1 + 1) 0) h' → C h') (sl : ∀ s, s < NSL h → h0 109 s = SX h (nSN h) (cTW h (t : Int)) (MI1 h f l i) (MI1 h t l j) s (HF h f l i b1 s) 1 - SA1 h f (t : Int) l i j b1 s) : ∀ (d b2 : Nat) (h1 : aH), d = NBD h - b2 → b2 ≤ NBD h → Fr [102] [] h0 h1 → (∀ k, k ≠ 11 → k ≠ 12 → h1 102 k = h0 102 k) → CST h f (t : Int) l E h1 → MINL h f (t : Int) l (PRS i j b1 b2) h1 →
    WV N 129 3 [(0, .inr (.inr 102)), (1, .inr (.inl (sumN (SA1 h f (t : Int) l i j b1) (NSL h)))), (3, .inl ((((b1 : Int) * 12 + (i : Int)) * 12) * 12)), (4, .inl (j : Int)), (5, .inl (b2 : Int))] h1 C := by
  have hz := P.1.1
  unfold okSz at hz
  have n12 : NSL h ≤ 12 := by unfold NSL; omega
  have nh := NHR_le h
  have b12 : NBD h ≤ 12 := by unfold NBD; omega
  have eb : h 16 14 = (NBD h : Int) := by unfold NBD; omega
  intro d
  induction d with
  | zero =>
    intro b2 h1 hd hb fr e S M
    have : b2 = NBD h := by omega
    subst this
    refine w_129_3 ?_
    rw [S.1.at 16 (by decide) (by decide), eb]
    refine ⟨fun _ => hx h1 fr e S (M.pr (fun b1' i' b2' j' I q => ?_)), fun z => absurd (Int.le_refl _) z⟩
    have := I.2.2.2 (by omega)
    unfold PRS at q ⊢
    omega
  | succ d ih =>
    intro b2 h1 hd hb fr e S M
    refine w_129_3 ?_
    rw [S.1.at 16 (by decide) (by decide), eb]
    refine ⟨fun z => by omega, fun _ => w_125_0 ?_⟩
    (repeat first | refine ck_ix (by omega) ?_ | refine ck_rg (by omega) ?_ | refine ck_rl (by omega) ?_)
    have r := c_cs17 (N := N) (C := C) (h1 := h1) (b2 := b2) P rm S hi hj hb1 (by omega) (fun s hs => by rw [fr.at 109 (by decide) (by decide)]; exact sl s hs) ?_ (NSL h) 0 rfl (Nat.zero_le _)
    · rw [show sumN (SA1 h f (t : Int) l i j b1) (NSL h) + (sumN (SA2 h f (t : Int) l i j b1 b2) 0 - sumN (SA1 h f (t : Int) l i j b1) 0) = sumN (SA1 h f (t : Int) l i j b1) (NSL h) by show _ + ((0 : Int) - 0) = _; omega] at r
      exact r
    · refine c_compare (q := PRS i j b1 (b2 + 1)) M ⟨hb1, hi, fun z => by omega, fun _ => ⟨by omega, hj⟩⟩ (fun b1' i' b2' j' I q => ?_) (fun h2 f2 e2 M2 => ck_rg (by omega) (ih (b2 + 1) h2 (by omega) (by omega) (fr.trans f2) (fun k k1 k2 => by rw [e2 k k1 k2, e k k1 k2]) (S.cmp f2 e2) M2))
      unfold PRS at q ⊢
      omega
theorem c_cb18 {N : Nat} {C : aH → Prop} {h h0 : aH} {f : Nat} {s2 l E : Int} {i j b1 : Nat} (P : PI h) (rm : ROOM h s2) (hi : i < NHR h) (hb1 : b1 < NBD h) (hj12 : j < 12)
    (G : WGT h (nSN h) (cTW h s2) (MI1 h f l i) (MI1 h s2.toNat l j) (s2 ≠ -1) (NSL h) h0) (S0 : CST h f s2 l E h0)
    (hC : ∀ h', Fr [109] [] h0 h' → (s2 ≠ -1 → ∀ s, s < NSL h → h' 109 s = SX h (nSN h) (cTW h s2) (MI1 h f l i) (MI1 h s2.toNat l j) s (HF h f l i b1 s) 1 - SA1 h f s2 l i j b1 s) → WV N 127 18 [(0, .inr (.inr 102)), (1, .inl (i : Int)), (2, .inl (j : Int)), (3, .inl (b1 : Int)), (4, .inl (((i : Int) * 12 + (b1 : Int)) * 12)), (5, .inr (.inl (sumN (SA1 h f s2 l i j b1) (NSL h)))), (7, .inl (NSL h : Int))] h' C) : ∀ (d s : Nat) (h1 : aH), d = NSL h - s → s ≤ NSL h → Fr [109] [] h0 h1 → (s2 ≠ -1 → ∀ s', s' < s → h1 109 s' = SX h (nSN h) (cTW h s2) (MI1 h f l i) (MI1 h s2.toNat l j) s' (HF h f l i b1 s') 1 - SA1 h f s2 l i j b1 s') →
    WV N 127 18 [(0, .inr (.inr 102)), (1, .inl (i : Int)), (2, .inl (j : Int)), (3, .inl (b1 : Int)), (4, .inl (((i : Int) * 12 + (b1 : Int)) * 12)), (5, .inr (.inl (sumN (fun s => SX h (nSN h) (cTW h s2) (MI1 h f l i) (MI1 h s2.toNat l j) s 0 0) (NSL h) + (sumN (SA1 h f s2 l i j b1) s - sumN (fun s => SX h (nSN h) (cTW h s2) (MI1 h f l i) (MI1 h s2.toNat l j) s 0 0) s)))), (7, .inl (s : Int))] h1 C := by
  have hz := P.1.1
  unfold okSz at hz
  have n12 : NSL h ≤ 12 := by unfold NSL; omega
  have nh := NHR_le h
  have b12 : NBD h ≤ 12 := by unfold NBD; omega
  have en : h 16 16 = (NSL h : Int) := by unfold NSL; omega
  unfold ROOM at rm
  have A1 : ∀ s, s < NSL h → 0 ≤ SA1 h f s2 l i j b1 s ∧ SA1 h f s2 l i j b1 s ≤ 90000000000000000 := fun s hs => SX_bd P rm hs HT_x (by omega)
  have A0 : ∀ s, s < NSL h → 0 ≤ SX h (nSN h) (cTW h s2) (MI1 h f l i) (MI1 h s2.toNat l j) s 0 0 ∧ SX h (nSN h) (cTW h s2) (MI1 h f l i) (MI1 h s2.toNat l j) s 0 0 ≤ 90000000000000000 := fun s hs => SX_bd P rm hs (by omega) (by omega)
  have S1 := fun k (hk : k ≤ NSL h) => sumN_bd (f := SA1 h f s2 l i j b1) (B := 90000000000000000) (by omega) (n := k) (fun s hs => A1 s (by omega))
  have S2 := fun k (hk : k ≤ NSL h) => sumN_bd (f := fun s => SX h (nSN h) (cTW h s2) (MI1 h f l i) (MI1 h s2.toNat l j) s 0 0) (B := 90000000000000000) (by omega) (n := k) (fun s hs => A0 s (by omega))
  have S2n := S2 (NSL h) (Nat.le_refl _)
  have cc : cTW h s2 = nSN h + 1 ∨ cTW h s2 = nSN h + 2 := by unfold cTW; split <;> omega
  intro d
  induction d with
  | zero =>
    intro s h1 hd hs fr sl
    have : s = NSL h := by omega
    subst this
    have := hC h1 fr sl
    rw [show sumN (fun s => SX h (nSN h) (cTW h s2) (MI1 h f l i) (MI1 h s2.toNat l j) s 0 0) (NSL h) + (sumN (SA1 h f s2 l i j b1) (NSL h) - sumN (fun s => SX h (nSN h) (cTW h s2) (MI1 h f l i) (MI1 h s2.toNat l j) s 0 0) (NSL h)) = sumN (SA1 h f s2 l i j b1) (NSL h) by omega]
    exact this
  | succ d ih =>
    intro s h1 hd hs fr sl
    have hs2 : s < NSL h := by omega
    have a1 := A1 s hs2
    have a0 := A0 s hs2
    have s1 := S1 s (by omega)
    have s0 := S2 s (by omega)
    have hx := HF_rg h f l i b1 s
    obtain ⟨g1, g2⟩ := G.2 s hs2
    have bb := S0.2.2.2.2.2.2 s (by omega)
    have eT : h0 103 ((i * 12 + b1) * 12 + s) = HF h f l i b1 s := S0.2.2.2.1 i b1 s hi hb1 hs2 trivial
    have ex := SX_x0 (h := h) cc (MI1 h f l i) (MI1 h s2.toNat l j) s (HF h f l i b1 s)
    have mb := mul10 bb.2 hx
    refine w_127_18 ?_
    rw [fr.at 16 (by decide) (by decide), S0.1.at 16 (by decide) (by decide), en, Int.toNat_natCast, show (((i : Int) * 12 + (b1 : Int)) * 12 + (s : Int)).toNat = (i * 12 + b1) * 12 + s by omega, fr.at 103 (by decide) (by decide), fr.at 106 (by decide) (by decide), fr.at 107 (by decide) (by decide), fr.at 108 (by decide) (by decide), eT, g1, ex]
    refine ⟨fun z => by omega, fun _ => ?_⟩
    have eA1 : SX h (nSN h) (cTW h s2) (MI1 h f l i) (MI1 h s2.toNat l j) s (HF h f l i b1 s) 0 = SA1 h f s2 l i j b1 s := rfl
    rw [eA1]
    (repeat first | refine ck_ix (by omega) ?_ | refine ck_rg (by omega) ?_ | refine ck_rl (by omega) ?_)
    have nx := ih (s + 1) (am_up h1 109 s (h0 107 s + h0 108 s * HF h f l i b1 s)) (by omega) (by omega) (fr.up (by decide) (by decide)) (fun two s' hs' => ?_)
    · rw [show sumN (fun s => SX h (nSN h) (cTW h s2) (MI1 h f l i) (MI1 h s2.toNat l j) s 0 0) (NSL h) + (sumN (SA1 h f s2 l i j b1) s - sumN (fun s => SX h (nSN h) (cTW h s2) (MI1 h f l i) (MI1 h s2.toNat l j) s 0 0) s) + (SA1 h f s2 l i j b1 s - SX h (nSN h) (cTW h s2) (MI1 h f l i) (MI1 h s2.toNat l j) s 0 0) = sumN (fun s => SX h (nSN h) (cTW h s2) (MI1 h f l i) (MI1 h s2.toNat l j) s 0 0) (NSL h) + (sumN (SA1 h f s2 l i j b1) (s + 1) - sumN (fun s => SX h (nSN h) (cTW h s2) (MI1 h f l i) (MI1 h s2.toNat l j) s 0 0) (s + 1)) by
        show _ = sumN (fun s => SX h (nSN h) (cTW h s2) (MI1 h f l i) (MI1 h s2.toNat l j) s 0 0) (NSL h) + ((sumN (SA1 h f s2 l i j b1) s + SA1 h f s2 l i j b1 s) - (sumN (fun s => SX h (nSN h) (cTW h s2) (MI1 h f l i) (MI1 h s2.toNat l j) s 0 0) s + SX h (nSN h) (cTW h s2) (MI1 h f l i) (MI1 h s2.toNat l j) s 0 0))
        omega]
      exact nx
    · rw [up_in]
      by_cases z : s' = s
      · rw [if_pos z, z]
        obtain ⟨k1, k2⟩ := g2 two
        have ec : cTW h s2 = nSN h + 2 := by unfold cTW; rw [if_neg two]
        have e1 := SX_x1 (h := h) (n := nSN h) (MI1 h f l i) (MI1 h s2.toNat l j) s (HF h f l i b1 s)
        rw [k1, k2, ec, e1]
        unfold SA1
        rw [ec]
      · rw [if_neg z]; exact sl two s' (by omega)
theorem c_cb3 {N : Nat} {C : aH → Prop} {h : aH} {f : Nat} {s2 l E : Int} {i j : Nat} (P : PI h) (rm : ROOM h s2) (hs2 : s2 = -1 ∨ 0 ≤ s2) (hi : i < NHR h) (hj : s2 ≠ -1 → j < NHR h) (hj0 : s2 = -1 → j = 0) (hC : ∀ h', CST h f s2 l E h' → MINL h f s2 l (PRS i (j + 1) 0 0) h' → C h') : ∀ (d b1 : Nat) (h1 : aH), d = NBD h - b1 → b1 ≤ NBD h → CST h f s2 l E h1 → WGT h (nSN h) (cTW h s2) (MI1 h f l i) (MI1 h s2.toNat l j) (s2 ≠ -1) (NSL h) h1 → MINL h f s2 l (PRS i j b1 0) h1 →
    WV N 127 3 [(0, .inr (.inr 102)), (1, .inl (i : Int)), (2, .inl (j : Int)), (3, .inl (b1 : Int))] h1 C := by
  have hz := P.1.1
  unfold okSz at hz
  have n12 : NSL h ≤ 12 := by unfold NSL; omega
  have nh := NHR_le h
  have b12 : NBD h ≤ 12 := by unfold NBD; omega
  have eb : h 16 14 = (NBD h : Int) := by unfold NBD; omega
  have en : h 16 16 = (NSL h : Int) := by unfold NSL; omega
  have hj12 : j < 12 := by
    by_cases z : s2 = -1
    · have := hj0 z; omega
    · have := hj z; omega
  intro d
  induction d with
  | zero =>
    intro b1 h1 hd hb S G M
    have : b1 = NBD h := by omega
    subst this
    refine w_127_3 ?_
    rw [S.1.at 16 (by decide) (by decide), eb]
    refine ⟨fun _ => hC h1 S (M.pr (fun b1' i' b2' j' I q => ?_)), fun z => absurd (Int.le_refl _) z⟩
    have := I.1
    unfold PRS at q ⊢
    omega
  | succ d ih =>
    intro b1 h1 hd hb S G M
    have hb1 : b1 < NBD h := by omega
    refine w_127_3 ?_
    rw [S.1.at 16 (by decide) (by decide), eb]
    refine ⟨fun z => by omega, fun _ => w_125_0 ?_⟩
    (repeat first | refine ck_ix (by omega) ?_ | refine ck_rg (by omega) ?_ | refine ck_rl (by omega) ?_)
    rw [G.1]
    have r := c_cb18 (N := N) (C := C) (h0 := h1) (E := E) (b1 := b1) P rm hi hb1 hj12 G S (fun h2 f2 sl2 => ?_) (NSL h) 0 h1 rfl (Nat.zero_le _) Fr.rfl (fun _ s' hs' => absurd hs' (Nat.not_lt_zero _))
    · rw [show sumN (fun s => SX h (nSN h) (cTW h s2) (MI1 h f l i) (MI1 h s2.toNat l j) s 0 0) (NSL h) + (sumN (SA1 h f s2 l i j b1) 0 - sumN (fun s => SX h (nSN h) (cTW h s2) (MI1 h f l i) (MI1 h s2.toNat l j) s 0 0) 0) = sumN (fun s => SX h (nSN h) (cTW h s2) (MI1 h f l i) (MI1 h s2.toNat l j) s 0 0) (NSL h) by show _ + ((0 : Int) - 0) = _; omega] at r
      exact r
    · have S2 : CST h f s2 l E h2 := S.mv (f2.mono (by decide) (by decide)) (f2.dz (by decide) (by decide) (by decide) S.2.1.1) (fun k _ _ _ => by rw [f2.at 102 (by decide) (by decide)]) (S.2.2.2.2.2.2.fr (f2.at 107 (by decide) (by decide)) (f2.at 108 (by decide) (by decide)))
      have M2 : MINL h f s2 l (PRS i j b1 0) h2 := M.fr (by rw [f2.at 102 (by decide) (by decide)]) (by rw [f2.at 102 (by decide) (by decide)])
      have Gk : ∀ h3, Fr [102] [] h2 h3 → (∀ k, k ≠ 11 → k ≠ 12 → h3 102 k = h2 102 k) → WGT h (nSN h) (cTW h s2) (MI1 h f l i) (MI1 h s2.toNat l j) (s2 ≠ -1) (NSL h) h3 := by
        intro h3 f3 e3
        unfold WGT at G ⊢
        rw [e3 10 (by decide) (by decide), f2.at 102 (by decide) (by decide), f3.at 106 (by decide) (by decide), f2.at 106 (by decide) (by decide), f3.at 107 (by decide) (by decide), f2.at 107 (by decide) (by decide), f3.at 108 (by decide) (by decide), f2.at 108 (by decide) (by decide)]
        exact G
      refine w_127_18 ?_
      rw [S2.1.at 16 (by decide) (by decide), en, S2.2.2.1.2.1]
      refine ⟨fun _ => ?_, fun z => absurd (Int.le_refl _) z⟩
      (repeat first | refine ck_ix (by omega) ?_ | refine ck_rg (by omega) ?_ | refine ck_rl (by omega) ?_)
      refine ⟨fun two => ?_, fun one => ?_⟩
      · obtain ⟨t, rfl⟩ := Int.eq_ofNat_of_zero_le (hs2.resolve_left two)
        rw [Int.toNat_natCast] at sl2
        refine w_129_0 (c_cs3 (h0 := h2) (E := E) (C := fun h' => am_rg ((b1 : Int) + 1) ∧ WV N 127 3 [(0, .inr (.inr 102)), (1, .inl (i : Int)), (2, .inl (j : Int)), (3, .inl ((b1 : Int) + 1))] h' C) P rm hi (hj two) hb1 (fun h3 f3 e3 S3 M3 => ck_rg (by omega) (ih (b1 + 1) h3 (by omega) (by omega) S3 (Gk h3 f3 e3) M3)) (sl2 two) _ 0 h2 rfl (Nat.zero_le _) Fr.rfl (fun _ _ _ => rfl) S2 M2)
      · have one := Decidable.not_not.mp one
        subst one
        have ec : cTW h (-1) = nSN h + 1 := by unfold cTW; rw [if_pos rfl]
        have j0 := hj0 rfl
        subst j0
        have eC : sumN (SA1 h f (-1) l i 0 b1) (NSL h) = COSTT h f (-1) l b1 i 0 0 := by
          unfold COSTT SA1
          refine sumN_congr (fun s hs => ?_)
          rw [ec, SX_y _ _ s _ (HF h (-1 : Int).toNat l 0 0 s)]
        rw [eC, show ((((b1 : Int) * 12 + (i : Int)) * 12) * 12) = (KEYT b1 i 0 0 : Int) by unfold KEYT; omega]
        refine c_compare (q := PRS i 0 (b1 + 1) 0) M2 ⟨hb1, hi, fun _ => ⟨rfl, rfl⟩, fun z => absurd rfl z⟩ (fun b1' i' b2' j' I q => ?_) (fun h3 f3 e3 M3 => ck_rg (by omega) (ih (b1 + 1) h3 (by omega) (by omega) (S2.cmp f3 e3) (Gk h3 f3 e3) M3))
        have := I.2.2.1 rfl
        unfold PRS at q ⊢
        omega
