/-! hours -/
/-- the first place, from j on, of at most d, that is not below x -/
def posF (f : Nat → Int) (x : Int) : Nat → Nat → Nat
  | 0, j => j
  | d + 1, j => if x ≤ f j then j else posF f x d (j + 1)
def insH (f : Nat → Int) (n : Nat) (x : Int) : Nat → Int := fun j => if j < posF f x n 0 then f j else if j = posF f x n 0 then x else f (j - 1)
/-- the hours, in order, each once -/
def hrN (hour : Nat → Int) : Nat → (Nat → Int) × Nat
  | 0 => (fun _ => 0, 0)
  | k + 1 => if hour k = -2 then hrN hour k else
    if posF (hrN hour k).1 (hour k) (hrN hour k).2 0 < (hrN hour k).2 ∧ (hrN hour k).1 (posF (hrN hour k).1 (hour k) (hrN hour k).2 0) = hour k then hrN hour k
    else (insH (hrN hour k).1 (hrN hour k).2 (hour k), (hrN hour k).2 + 1)
theorem posF_rg (f : Nat → Int) (x : Int) : ∀ d j, j ≤ posF f x d j ∧ posF f x d j ≤ j + d
  | 0, j => ⟨Nat.le_refl _, Nat.le_refl _⟩
  | d + 1, j => by
    unfold posF
    split
    · omega
    · have := posF_rg f x d (j + 1)
      omega
theorem posF_congr {f g : Nat → Int} {x : Int} : ∀ d j, (∀ i, j ≤ i → i < j + d → f i = g i) → posF f x d j = posF g x d j
  | 0, _, _ => rfl
  | d + 1, j, h => by
    unfold posF
    rw [h j (by omega) (by omega), posF_congr d (j + 1) (fun i h1 h2 => h i (by omega) (by omega))]
theorem hrN_le (hour : Nat → Int) : ∀ k, (hrN hour k).2 ≤ k
  | 0 => Nat.le_refl _
  | k + 1 => by
    have := hrN_le hour k
    unfold hrN
    split
    · omega
    · split
      · omega
      · show (hrN hour k).2 + 1 ≤ k + 1
        omega
/-- a row holds them -/
def hasL (r : Nat → Int) (p : (Nat → Int) × Nat) : Prop := ∀ j, j < p.2 → r j = p.1 j
theorem c_lhsh {N : Nat} {C : aH → Prop} {h : aH} {x : Int} {n p : Nat} (hn : h 16 17 = (n : Int)) (n12 : n < 12) (hp : p ≤ n) (hC : ∀ h', Fr [16, 26] [] h h' → (∀ j, j ≠ 17 → h' 16 j = h 16 j) → h' 16 17 = (n : Int) + 1 → (∀ j, j ≤ n → h' 26 j = if j < p then h 26 j else if j = p then x else h 26 (j - 1)) → C h') :
    ∀ (d i : Nat) (h1 : aH), d = i - p → p ≤ i → i ≤ n → Fr [26] [] h h1 → (∀ j, j ≤ n → j ≠ i → h1 26 j = if j < i then h 26 j else h 26 (j - 1)) → WV N 68 44 [(0, .inr (.inr 16)), (1, .inl x), (2, .inl (p : Int)), (4, .inl (i : Int))] h1 C := by
  intro d
  induction d with
  | zero =>
    intro i h1 hd hpi hi hf he
    have : i = p := by omega
    subst this
    refine w_68_44 ⟨fun _ => ?_, fun z => absurd (Int.le_refl _) z⟩
    rw [hf.at 16 (by decide) (by decide), hn]
    (repeat first | refine ck_ix (by omega) ?_ | refine ck_rg (by omega) ?_ | refine ck_rl (by omega) ?_)
    refine hC _ (((hf.mono (by decide) (by decide)).up (by decide) (by decide)).up (by decide) (by decide)) (fun j hj => ?_) (up_same _ _ _ _) (fun j hj => ?_)
    · rw [up_ne hj, up_row (by decide), hf.at 16 (by decide) (by decide)]
    · rw [up_row (by decide), up_in, Int.toNat_natCast]
      by_cases e : j = i
      · rw [if_pos e, if_neg (by omega), if_pos e]
      · rw [if_neg e, he j hj e, if_neg e]
  | succ d ih =>
    intro i h1 hd hpi hi hf he
    obtain ⟨k, rfl⟩ : ∃ k, i = k + 1 := ⟨i - 1, by omega⟩
    refine w_68_44 ⟨fun z => by omega, fun _ => ?_⟩
    (repeat first | refine ck_ix (by omega) ?_ | refine ck_rg (by omega) ?_ | refine ck_rl (by omega) ?_)
    rw [show (((k + 1 : Nat) : Int) - 1).toNat = k by omega, show (((k + 1 : Nat) : Int) + -1) = (k : Int) by omega, Int.toNat_natCast]
    refine ih k _ (by omega) (by omega) (by omega) (hf.up (by decide) (by decide)) (fun j hj hne => ?_)
    rw [up_in]
    by_cases e : j = k + 1
    · subst e
      rw [if_pos rfl, if_neg (by omega), he k (by omega) (by omega), if_pos (by omega)]
      rfl
    · rw [if_neg e, he j hj e]
      by_cases q : j < k
      · rw [if_pos q, if_pos (by omega)]
      · rw [if_neg q, if_neg (by omega)]
theorem c_lhpos {N : Nat} {C : aH → Prop} {h : aH} {x : Int} {n : Nat} (hn : h 16 17 = (n : Int)) (n12 : n ≤ 12) : ∀ (d i : Nat), d + i = n → WV N 68 16 [(0, .inr (.inr 16)), (1, .inl x), (2, .inl (posF (h 26) x d i : Nat))] h C →
    WV N 68 3 [(0, .inr (.inr 16)), (1, .inl x), (2, .inl (i : Int))] h C
  | 0, i, hd, k => by
    refine w_68_3 ?_
    rw [hn]
    exact ⟨fun _ => k, fun z => by omega⟩
  | d + 1, i, hd, k => by
    refine w_68_3 ?_
    rw [hn]
    refine ⟨fun z => by omega, fun _ => ck_ix (by omega) ?_⟩
    rw [Int.toNat_natCast]
    refine ⟨fun e => ?_, fun e => ck_rg (by omega) (c_lhpos hn n12 d (i + 1) (by omega) ?_)⟩
    · unfold posF at k
      rw [if_pos e] at k
      exact k
    · unfold posF at k
      rw [if_neg e] at k
      exact k
theorem c_lh {N : Nat} {C : aH → Prop} {h : aH} {x : Int} {n : Nat} (hn : h 16 17 = (n : Int)) (n12 : n < 12)
    (h1 : posF (h 26) x n 0 < n ∧ h 26 (posF (h 26) x n 0) = x → C h)
    (h2 : ¬ (posF (h 26) x n 0 < n ∧ h 26 (posF (h 26) x n 0) = x) → ∀ h', Fr [16, 26] [] h h' → (∀ j, j ≠ 17 → h' 16 j = h 16 j) → h' 16 17 = (n : Int) + 1 → (∀ j, j ≤ n → h' 26 j = insH (h 26) n x j) → C h') : WV N 68 0 [(0, .inr (.inr 16)), (1, .inl x)] h C := by
  have rg := posF_rg (h 26) x n 0
  refine w_68_0 (c_lhpos hn (by omega) n 0 rfl (w_68_16 ?_))
  rw [hn]
  have ins : ¬ (posF (h 26) x n 0 < n ∧ h 26 (posF (h 26) x n 0) = x) → WV N 68 27 [(0, .inr (.inr 16)), (1, .inl x), (2, .inl (posF (h 26) x n 0 : Nat))] h C := by
    intro q
    refine w_68_27 (w_68_32 ⟨fun z => absurd z (by decide), fun _ => ck_rg (by decide) ?_⟩)
    rw [hn]
    exact ⟨fun z => by omega, fun _ => c_lhsh hn n12 (by omega) (h2 q) _ n h rfl (by omega) (Nat.le_refl _) Fr.rfl (fun j hj hne => by rw [if_pos (by omega)])⟩
  refine ⟨fun e => ins (fun z => by omega), fun e => ck_ix (by omega) ?_⟩
  rw [Int.toNat_natCast]
  exact ⟨fun e2 => w_68_32 ⟨fun _ => h1 ⟨by omega, e2⟩, fun z => absurd rfl z⟩, fun e2 => ins (fun z => e2 z.2)⟩
theorem hrN_s2 {hour : Nat → Int} {k : Nat} (h : hour k = -2) : hrN hour (k + 1) = hrN hour k := by
  rw [show hrN hour (k + 1) = if hour k = -2 then hrN hour k else if posF (hrN hour k).1 (hour k) (hrN hour k).2 0 < (hrN hour k).2 ∧ (hrN hour k).1 (posF (hrN hour k).1 (hour k) (hrN hour k).2 0) = hour k then hrN hour k else (insH (hrN hour k).1 (hrN hour k).2 (hour k), (hrN hour k).2 + 1) from rfl, if_pos h]
theorem hrN_in {hour : Nat → Int} {k : Nat} {f : Nat → Int} (h : hour k ≠ -2) (hf : hasL f (hrN hour k)) :
    (posF f (hour k) (hrN hour k).2 0 < (hrN hour k).2 ∧ f (posF f (hour k) (hrN hour k).2 0) = hour k → hrN hour (k + 1) = hrN hour k) ∧
    (¬ (posF f (hour k) (hrN hour k).2 0 < (hrN hour k).2 ∧ f (posF f (hour k) (hrN hour k).2 0) = hour k) → (hrN hour (k + 1)).2 = (hrN hour k).2 + 1 ∧ ∀ g : Nat → Int, (∀ j, j ≤ (hrN hour k).2 → g j = insH f (hrN hour k).2 (hour k) j) → hasL g (hrN hour (k + 1))) := by
  have e : hrN hour (k + 1) = if hour k = -2 then hrN hour k else if posF (hrN hour k).1 (hour k) (hrN hour k).2 0 < (hrN hour k).2 ∧ (hrN hour k).1 (posF (hrN hour k).1 (hour k) (hrN hour k).2 0) = hour k then hrN hour k else (insH (hrN hour k).1 (hrN hour k).2 (hour k), (hrN hour k).2 + 1) := rfl
  rw [if_neg h] at e
  have p : posF f (hour k) (hrN hour k).2 0 = posF (hrN hour k).1 (hour k) (hrN hour k).2 0 := posF_congr _ _ (fun i _ h2 => hf i (by omega))
  have rg := posF_rg (hrN hour k).1 (hour k) (hrN hour k).2 0
  refine ⟨fun q => ?_, fun q => ?_⟩
  · rw [p] at q
    rw [e, if_pos ⟨q.1, by rw [← hf _ q.1]; exact q.2⟩]
  · rw [p] at q
    rw [if_neg (fun z => q ⟨z.1, by rw [hf _ z.1]; exact z.2⟩)] at e
    rw [e]
    refine ⟨rfl, fun g hg j hj => ?_⟩
    have hj : j < (hrN hour k).2 + 1 := hj
    rw [hg j (by omega)]
    show insH f _ _ j = insH (hrN hour k).1 _ _ j
    unfold insH
    rw [p]
    by_cases e1 : j < posF (hrN hour k).1 (hour k) (hrN hour k).2 0
    · rw [if_pos e1, if_pos e1, hf j (by omega)]
    · rw [if_neg e1, if_neg e1]
      by_cases e2 : j = posF (hrN hour k).1 (hour k) (hrN hour k).2 0
      · rw [if_pos e2, if_pos e2]
      · rw [if_neg e2, if_neg e2, hf (j - 1) (by omega)]
/-- the class's list of hours is right -/
def okHrs (h : aH) : Prop := h 16 17 = ((hrN (h 23) (h 16 16).toNat).2 : Int) ∧ hasL (h 26) (hrN (h 23) (h 16 16).toNat)
theorem c_listHours {N : Nat} {C : aH → Prop} {h : aH} (hs : 0 ≤ h 16 16 ∧ h 16 16 ≤ 12) (hC : ∀ h', Fr [16, 26] [] h h' → (∀ j, j ≠ 17 → h' 16 j = h 16 j) → okHrs h' → C h') : WV N 67 0 [(0, .inr (.inr 16))] h C := by
  have key : ∀ (d k : Nat) (h1 : aH), d = (h 16 16).toNat - k → k ≤ (h 16 16).toNat → Fr [16, 26] [] h h1 → (∀ j, j ≠ 17 → h1 16 j = h 16 j) → h1 16 17 = ((hrN (h 23) k).2 : Int) → hasL (h1 26) (hrN (h 23) k) → WV N 67 6 [(0, .inr (.inr 16)), (1, .inl (k : Int))] h1 C := by
    intro d
    induction d with
    | zero =>
      intro k h1 hd hk hf h16 hc hl
      have : k = (h 16 16).toNat := by omega
      subst this
      refine w_67_6 ?_
      rw [h16 16 (by decide)]
      refine ⟨fun _ => hC h1 hf h16 ?_, fun z => by omega⟩
      unfold okHrs
      rw [h16 16 (by decide), hf.at 23 (by decide) (by decide)]
      exact ⟨hc, hl⟩
    | succ d ih =>
      intro k h1 hd hk hf h16 hc hl
      have le := hrN_le (h 23) k
      refine w_67_6 ?_
      rw [h16 16 (by decide), hf.at 23 (by decide) (by decide)]
      refine ⟨fun z => by omega, fun _ => ck_ix (by omega) ?_⟩
      rw [Int.toNat_natCast]
      refine ⟨fun e => ck_rg (by omega) (ih (k + 1) h1 (by omega) (by omega) hf h16 (by rw [hrN_s2 e]; exact hc) (by rw [hrN_s2 e]; exact hl)), fun e => ck_ix (by omega) ?_⟩
      obtain ⟨i1, i2⟩ := hrN_in e hl
      refine c_lh hc (by omega) (fun q => ck_rg (by omega) (ih (k + 1) h1 (by omega) (by omega) hf h16 (by rw [i1 q]; exact hc) (by rw [i1 q]; exact hl))) (fun q h2 f2 g16 gc gl => ck_rg (by omega) ?_)
      obtain ⟨j1, j2⟩ := i2 q
      exact ih (k + 1) h2 (by omega) (by omega) (hf.trans f2) (fun j hj => (g16 j hj).trans (h16 j hj)) (by rw [j1, gc]; omega) (j2 _ gl)
  refine w_67_0 (key _ 0 _ rfl (Nat.zero_le _) (Fr.rfl.up (by decide) (by decide)) (fun j hj => up_ne hj) (up_same _ _ _ _) (fun j hj => absurd hj (Nat.not_lt_zero j)))
def vHours (h : aH) (x : Int) : Int := if x = -1 then (hrN (h 23) (h 16 16).toNat).2 else if 0 ≤ x ∧ x < (hrN (h 23) (h 16 16).toNat).2 then (hrN (h 23) (h 16 16).toNat).1 x.toNat else -1
theorem c_hours {N : Nat} {C : Int → aH → Prop} {h : aH} {x : Int} (hs : 0 ≤ h 16 16 ∧ h 16 16 ≤ 12) (O : okHrs h) (hC : C (vHours h x) h) : WI N 118 0 [(0, .inr (.inr 9)), (1, .inl x)] h C := by
  have le := hrN_le (h 23) (h 16 16).toNat
  refine w_118_0 ?_
  rw [O.1]
  unfold vHours at hC
  refine ⟨fun a => ?_, fun a => ?_⟩
  · rw [if_neg a] at hC
    refine ⟨fun q => ?_, fun q => ⟨fun q2 => ?_, fun q2 => ck_ix (by omega) ?_⟩⟩
    · rw [if_neg (by omega)] at hC; exact hC
    · rw [if_neg (by omega)] at hC; exact hC
    · rw [if_pos (by omega), ← O.2 x.toNat (by omega)] at hC; exact hC
  · rw [if_pos (Decidable.not_not.mp a)] at hC
    exact hC
