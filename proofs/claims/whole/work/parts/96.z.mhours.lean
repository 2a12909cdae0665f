/-! hours, the reference's -/
theorem m_lhsh {N : Nat} {C : aH → Prop} {h : aH} {s n p : Nat} (H : HI h) (R : RelH h) (hs : (s : Int) < h 16 16) (hn : h 130 58 = (n : Int)) (n12 : n < 12) (hp : p ≤ n) (hC : ∀ h', Fr [172] [58] h h' → h' 130 58 = (n : Int) + 1 → (∀ j, j ≤ n → h' 172 j = if j < p then h 172 j else if j = p then h 23 s else h 172 (j - 1)) → WV N 294 83 [(0, .inr (.inr 130)), (1, .inl (s : Int))] h' C) :
    ∀ (d i : Nat) (h1 : aH), d = i - p → p ≤ i → i ≤ n → Fr [172] [] h h1 → (∀ j, j ≤ n → j ≠ i → h1 172 j = if j < i then h 172 j else h 172 (j - 1)) → WV N 294 54 [(0, .inr (.inr 130)), (1, .inl (s : Int)), (2, .inl (p : Int)), (3, .inl (i : Int))] h1 C := by
  intro d
  induction d with
  | zero =>
    intro i h1 hd hpi hi hf he
    have : i = p := by omega
    subst this
    refine w_294_54 ⟨fun _ => ?_, fun z => absurd (Int.le_refl _) z⟩
    refine m_hour (H.mv hf (by decide)) (R.mv hf (by decide) (by decide) (by decide)) (by rw [hf.at 16 (by decide) (by decide)]; exact hs) ?_
    rw [hf.2 58 (by decide), hn, hf.at 23 (by decide) (by decide)]
    (repeat first | refine ck_ix (by omega) ?_ | refine ck_rg (by omega) ?_ | refine ck_rl (by omega) ?_)
    refine hC _ (((hf.mono (by decide) (by decide)).up (by decide) (by decide)).upM (by decide)) (up_same _ _ _ _) (fun j hj => ?_)
    rw [up_row (by decide), up_in, Int.toNat_natCast]
    by_cases e : j = i
    · rw [if_pos e, if_neg (by omega), if_pos e]
    · rw [if_neg e, he j hj e, if_neg e]
  | succ d ih =>
    intro i h1 hd hpi hi hf he
    obtain ⟨k, rfl⟩ : ∃ k, i = k + 1 := ⟨i - 1, by omega⟩
    refine w_294_54 ⟨fun z => by omega, fun _ => ?_⟩
    (repeat first | refine ck_ix (by omega) ?_ | refine ck_rg (by omega) ?_ | refine ck_rl (by omega) ?_)
    rw [show (((k + 1 : Nat) : Int) - 1).toNat = k by omega, show (((k + 1 : Nat) : Int) + -1) = (k : Int) by omega, Int.toNat_natCast]
    refine ih k _ (by omega) (by omega) (by omega) (hf.up (by decide) (by decide)) (fun j hj hne => ?_)
    rw [up_in]
    by_cases e : j = k + 1
    · subst e
      rw [if_pos rfl, if_neg (by omega), he k (by omega) (by omega), if_pos (by omega)]
      rfl
    · rw [if_neg e, he j hj e]
      by_cases q : j < k
      · rw [if_pos q, if_pos (by omega)]
      · rw [if_neg q, if_neg (by omega)]
theorem m_lhpos {N : Nat} {C : aH → Prop} {h : aH} {s n : Nat} (H : HI h) (R : RelH h) (hs : (s : Int) < h 16 16) (hn : h 130 58 = (n : Int)) (n12 : n ≤ 12) : ∀ (d i : Nat), d + i = n → WV N 294 36 [(0, .inr (.inr 130)), (1, .inl (s : Int)), (2, .inl (posF (h 172) (h 23 s) d i : Nat))] h C →
    WV N 294 21 [(0, .inr (.inr 130)), (1, .inl (s : Int)), (2, .inl (i : Int))] h C
  | 0, i, hd, k => by
    refine w_294_21 ?_
    rw [hn]
    exact ⟨fun _ => k, fun z => by omega⟩
  | d + 1, i, hd, k => by
    refine w_294_21 ?_
    rw [hn]
    refine ⟨fun z => by omega, fun _ => ck_ix (by omega) ?_⟩
    rw [Int.toNat_natCast]
    refine m_hour H R hs ⟨fun e => ?_, fun e => ck_rg (by omega) (m_lhpos H R hs hn n12 d (i + 1) (by omega) ?_)⟩
    · unfold posF at k
      rw [if_pos e] at k
      exact k
    · unfold posF at k
      rw [if_neg e] at k
      exact k
theorem m_lh {N : Nat} {C : aH → Prop} {h : aH} {s n : Nat} (H : HI h) (R : RelH h) (hs : (s : Int) < h 16 16) (hn : h 130 58 = (n : Int)) (n12 : n < 12)
    (h1 : posF (h 172) (h 23 s) n 0 < n ∧ h 172 (posF (h 172) (h 23 s) n 0) = h 23 s → WV N 294 83 [(0, .inr (.inr 130)), (1, .inl (s : Int))] h C)
    (h2 : ¬ (posF (h 172) (h 23 s) n 0 < n ∧ h 172 (posF (h 172) (h 23 s) n 0) = h 23 s) → ∀ h', Fr [172] [58] h h' → h' 130 58 = (n : Int) + 1 → (∀ j, j ≤ n → h' 172 j = insH (h 172) n (h 23 s) j) → WV N 294 83 [(0, .inr (.inr 130)), (1, .inl (s : Int))] h' C) : WV N 294 21 [(0, .inr (.inr 130)), (1, .inl (s : Int)), (2, .inl 0)] h C := by
  have rg := posF_rg (h 172) (h 23 s) n 0
  refine m_lhpos H R hs hn (by omega) n 0 rfl (w_294_36 ?_)
  rw [hn]
  have ins : ¬ (posF (h 172) (h 23 s) n 0 < n ∧ h 172 (posF (h 172) (h 23 s) n 0) = h 23 s) → WV N 294 50 [(0, .inr (.inr 130)), (1, .inl (s : Int)), (2, .inl (posF (h 172) (h 23 s) n 0 : Nat))] h C := by
    intro q
    refine w_294_50 ?_
    rw [hn]
    exact m_lhsh H R hs hn n12 (by omega) (h2 q) _ n h rfl (by omega) (Nat.le_refl _) Fr.rfl (fun j hj hne => by rw [if_pos (by omega)])
  refine ⟨fun e => ins (fun z => by omega), fun e => ck_ix (by omega) ?_⟩
  rw [Int.toNat_natCast]
  exact m_hour H R hs ⟨fun e2 => ins (fun z => e2 z.2), fun e2 => h1 ⟨by omega, Decidable.not_not.mp e2⟩⟩
theorem m_hoursNow {N : Nat} {C : aH → Prop} {h : aH} (H : HI h) (R : RelH h) (hC : ∀ h', Fr [172] [58] h h' → h' 130 58 = ((hrN (h 23) (h 16 16).toNat).2 : Int) → hasL (h' 172) (hrN (h 23) (h 16 16).toNat) → C h') : WV N 294 0 [(0, .inr (.inr 130))] h C := by
  have hz := H.1
  unfold okSz at hz
  have key : ∀ (d k : Nat) (h1 : aH), d = (h 16 16).toNat - k → k ≤ (h 16 16).toNat → Fr [172] [58] h h1 → h1 130 58 = ((hrN (h 23) k).2 : Int) → hasL (h1 172) (hrN (h 23) k) → WV N 294 6 [(0, .inr (.inr 130)), (1, .inl (k : Int))] h1 C := by
    intro d
    induction d with
    | zero =>
      intro k h1 hd hk hf hc hl
      have : k = (h 16 16).toNat := by omega
      subst this
      have R1 : RelH h1 := R.mv hf (by decide) (by decide) (by decide)
      have hL := R1.1
      have e3 := R1.2.1.2.2
      unfold Lv at e3
      refine w_294_6 (ck_ix (by omega) ?_)
      rw [e3, hf.at 16 (by decide) (by decide)]
      exact ⟨fun _ => hC h1 hf hc hl, fun z => by omega⟩
    | succ d ih =>
      intro k h1 hd hk hf hc hl
      have le := hrN_le (h 23) k
      have R1 : RelH h1 := R.mv hf (by decide) (by decide) (by decide)
      have H1 : HI h1 := H.mv hf (by decide)
      have hL := R1.1
      have e3 := R1.2.1.2.2
      unfold Lv at e3
      have ks : (k : Int) < h1 16 16 := by rw [hf.at 16 (by decide) (by decide)]; omega
      have e23 : h1 23 k = h 23 k := by rw [hf.at 23 (by decide) (by decide)]
      have hh := (H.2.2.2.1 k (by omega)).2.1
      refine w_294_6 (ck_ix (by omega) ?_)
      rw [e3, hf.at 16 (by decide) (by decide)]
      refine ⟨fun z => by omega, fun _ => m_hour H1 R1 ks ?_⟩
      rw [e23]
      refine ⟨fun e => ?_, fun e => ?_⟩
      · obtain ⟨i1, i2⟩ := hrN_in (hour := h 23) (k := k) (by omega) hl
        rw [← e23] at i1 i2
        refine m_lh H1 R1 ks hc (by omega) (fun q => w_294_83 (ck_rg (by omega) (ih (k + 1) h1 (by omega) (by omega) hf (by rw [i1 q]; exact hc) (by rw [i1 q]; exact hl)))) (fun q h2 f2 gc gl => w_294_83 (ck_rg (by omega) ?_))
        obtain ⟨j1, j2⟩ := i2 q
        exact ih (k + 1) h2 (by omega) (by omega) (hf.trans f2) (by rw [j1, gc]; omega) (j2 _ gl)
      · have e2 : h 23 k = -2 := by omega
        exact w_294_83 (ck_rg (by omega) (ih (k + 1) h1 (by omega) (by omega) hf (by rw [hrN_s2 e2]; exact hc) (by rw [hrN_s2 e2]; exact hl)))
  exact w_294_0 (key _ 0 _ rfl (Nat.zero_le _) (Fr.rfl.upM (by decide)) (up_same _ _ _ _) (fun j hj => absurd hj (Nat.not_lt_zero j)))
theorem m_hours {N : Nat} {C : Int → aH → Prop} {h : aH} {x : Int} (H : HI h) (R : RelH h) (hC : ∀ h', Fr [172] [58] h h' → C (vHours h x) h') : WI N 293 0 [(0, .inr (.inr 130)), (1, .inl x)] h C := by
  have hz := H.1
  unfold okSz at hz
  have le := hrN_le (h 23) (h 16 16).toNat
  refine w_293_0 (m_hoursNow H R (fun h1 hf hc hl => ?_))
  have key := hC h1 hf
  unfold vHours at key
  rw [hc]
  refine ⟨fun a => ck_rg (by omega) (m_in (fun q => z1 (ck_ix (by omega) ?_)) (fun q => z0 ?_)), fun a => ?_⟩
  · rw [if_neg a, if_pos (by omega), ← hl x.toNat (by omega)] at key
    exact key
  · rw [if_neg a, if_neg (by omega)] at key
    exact key
  · rw [if_pos (Decidable.not_not.mp a)] at key
    exact key
