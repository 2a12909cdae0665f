/-! read's end: the class begins a state of a house -/
theorem c_fl64 {N : Nat} {C : aH → Prop} {h : aH} {v : Int} (hC : ∀ h', Fr [64] [] h h' → (∀ j, j < 12 → h' 64 j = v) → C h') : ∀ (d j : Nat) (h1 : aH), d = 12 - j → j ≤ 12 → Fr [64] [] h h1 → (∀ i, i < j → h1 64 i = v) →
    WV N 71 6 [(0, .inr (.inr 64)), (1, .inl v), (2, .inl (j : Int)), (3, .inl 12)] h1 C := by
  intro d
  induction d with
  | zero =>
    intro j h1 hd hj hf hv
    have : j = 12 := by omega
    subst this
    exact w_71_6_r64 ⟨fun _ => hC h1 hf hv, fun z => absurd (show (12 : Int) ≤ ((12 : Nat) : Int) by decide) z⟩
  | succ d ih =>
    intro j h1 hd hj hf hv
    refine w_71_6_r64 ⟨fun z => by omega, fun _ => ?_⟩
    (repeat first | refine ck_ix (by omega) ?_ | refine ck_rg (by omega) ?_ | refine ck_rl (by omega) ?_)
    simp only [Int.toNat_natCast]
    refine ih (j + 1) _ (by omega) (by omega) (hf.up (by decide) (by decide)) (fun i hi => ?_)
    rw [up_in]
    by_cases e : i = j
    · rw [if_pos e]
    · rw [if_neg e]; exact hv i (by omega)
theorem c_begin {N : Nat} {C : aH → Prop} {h : aH} (hz : okSz h) (hb : ∀ s : Nat, (s : Int) < h 16 16 → 0 ≤ h 21 s ∧ h 21 s < h 16 14) (inj : ∀ s s' : Nat, (s : Int) < h 16 16 → (s' : Int) < h 16 16 → h 21 s = h 21 s' → s = s')
    (hC : ∀ h', Fr [58, 63, 64] [] h h' → (∀ j, j ≠ 10 → j ≠ 11 → j ≠ 12 → h' 58 j = h 58 j) → h' 58 10 = 0 → h' 58 11 = 0 → h' 58 12 = 0 → (∀ s : Nat, (s : Int) < h 16 16 → h' 63 s = h 21 s) → okLie h' → C h') : WV N 70 0 [(0, .inr (.inr 58)), (1, .inr (.inr 16))] h C := by
  unfold okSz at hz
  have key : ∀ (d k : Nat) (h1 : aH), d = (h 16 16).toNat - k → k ≤ (h 16 16).toNat → Fr [58, 63, 64] [] h h1 → (∀ j, j ≠ 10 → j ≠ 11 → j ≠ 12 → h1 58 j = h 58 j) → (h1 58 10 = 0 ∧ h1 58 11 = 0 ∧ h1 58 12 = 0) → (∀ s, s < k → h1 63 s = h 21 s ∧ h1 64 (h 21 s).toNat = (s : Int)) → (∀ b : Nat, b < 12 → h1 64 b = -2 ∨ ∃ s, s < k ∧ h 21 s = (b : Int) ∧ h1 64 b = (s : Int)) → WV N 70 16 [(0, .inr (.inr 58)), (1, .inr (.inr 16)), (2, .inl (k : Int))] h1 C := by
    intro d
    induction d with
    | zero =>
      intro k h1 hd hk f q58 q0 q1 q2
      have : k = (h 16 16).toNat := by omega
      subst this
      refine w_70_16 ?_
      rw [f.at 16 (by decide) (by decide)]
      refine ⟨fun _ => hC h1 f q58 q0.1 q0.2.1 q0.2.2 (fun s hs => (q1 s (by omega)).1) ⟨fun s hs => ?_, fun b hb2 => ?_⟩, fun z => by clear q2; omega⟩
      · rw [f.at 16 (by decide) (by decide)] at hs ⊢
        obtain ⟨a1, a2⟩ := q1 s (by clear q2; omega)
        rw [a1]
        exact ⟨(hb s hs).1, (hb s hs).2, a2⟩
      · rw [f.at 16 (by decide) (by decide)] at hb2 ⊢
        rcases q2 b (by clear q2; omega) with z | ⟨s, s1, s2, s3⟩
        · exact Or.inl z
        · refine Or.inr ?_
          rw [s3, Int.toNat_natCast, (q1 s s1).1]
          exact ⟨by omega, by clear q2; omega, s2⟩
    | succ d ih =>
      intro k h1 hd hk f q58 q0 q1 q2
      have hk2 : (k : Int) < h 16 16 := by clear q2; omega
      have fb := hb k hk2
      refine w_70_16 ?_
      rw [f.at 16 (by decide) (by decide), f.at 21 (by decide) (by decide)]
      refine ⟨fun z => by clear q2; omega, fun _ => ?_⟩
      rw [Int.toNat_natCast, up_in, if_pos rfl]
      refine ck_ix (by clear q2; omega) (ck_ix (by clear q2; omega) (ck_ix (by clear q2; omega) (ck_ix (by clear q2; omega) (ck_rg (by clear q2; omega) ?_))))
      refine ih (k + 1) _ (by clear q2; omega) (by clear q2; omega) ((f.up (by decide) (by decide)).up (by decide) (by decide)) (fun j a b c => ?_) ?_ (fun s hs => ?_) (fun b hb2 => ?_)
      · rw [up_row (by decide), up_row (by decide)]; exact q58 j a b c
      · rw [up_row (by decide), up_row (by decide)]; exact q0
      · rw [up_row (by decide), up_in, up_in]
        by_cases c : s = k
        · subst c
          rw [if_pos rfl, if_pos rfl]; exact ⟨rfl, rfl⟩
        · rw [if_neg c, if_neg (fun z => c (inj s k (by clear q2; omega) hk2 (by have := hb s (by clear q2; omega); clear q2; omega))), up_row (by decide)]
          exact q1 s (by clear q2; omega)
      · rw [up_in]
        by_cases c : b = (h 21 k).toNat
        · rw [if_pos c]
          exact Or.inr ⟨k, Nat.lt_succ_self k, by clear q2; omega, rfl⟩
        · rw [if_neg c, up_row (by decide)]
          rcases q2 b hb2 with z | ⟨s, s1, s2, s3⟩
          · exact Or.inl z
          · exact Or.inr ⟨s, by clear q2; omega, s2, s3⟩
  refine w_70_0 (w_71_0_r64 (ck_rg (by omega) (c_fl64 (fun h2 f2 hv => ?_) 12 0 _ rfl (Nat.zero_le _) Fr.rfl (fun i hi => absurd hi (Nat.not_lt_zero i)))))
  refine key _ 0 h2 rfl (Nat.zero_le _) (Fr.trans (((Fr.rfl.up (by decide) (by decide)).up (by decide) (by decide)).up (by decide) (by decide)) (f2.mono (by decide) (by decide))) (fun j a b c => ?_) ?_ (fun s hs => absurd hs (Nat.not_lt_zero s)) (fun b hb2 => Or.inl (hv b hb2))
  · rw [f2.at 58 (by decide) (by decide), up_ne c, up_ne b, up_ne a]
  · rw [f2.at 58 (by decide) (by decide)]
    refine ⟨?_, ?_, ?_⟩
    · rw [up_ne (by decide), up_ne (by decide), up_same]
    · rw [up_ne (by decide), up_same]
    · rw [up_same]
