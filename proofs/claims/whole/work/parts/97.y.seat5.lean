/-! SHAKES: the class seats a row -/
theorem c_fl118 {N : Nat} {C : aH → Prop} {h : aH} {v : Int} (hC : ∀ h', Fr [118] [] h h' → (∀ j, j < 25 → h' 118 j = v) → C h') : ∀ (d j : Nat) (h1 : aH), d = 25 - j → j ≤ 25 → Fr [118] [] h h1 → (∀ i, i < j → h1 118 i = v) →
    WV N 148 6 [(0, .inr (.inr 118)), (1, .inr (.inl v)), (3, .inl (j : Int)), (4, .inl 25)] h1 C := by
  intro d
  induction d with
  | zero =>
    intro j h1 hd hj hf hv
    have : j = 25 := by omega
    subst this
    exact w_148_6_r118 ⟨fun _ => hC h1 hf hv, fun z => absurd (show (25 : Int) ≤ ((25 : Nat) : Int) by decide) z⟩
  | succ d ih =>
    intro j h1 hd hj hf hv
    refine w_148_6_r118 ⟨fun z => by omega, fun _ => ?_⟩
    (repeat first | refine ck_ix (by omega) ?_ | refine ck_rg (by omega) ?_ | refine ck_rl (by omega) ?_)
    simp only [Int.toNat_natCast]
    refine ih (j + 1) _ (by omega) (by omega) (hf.up (by decide) (by decide)) (fun i hi => ?_)
    rw [up_in]
    by_cases e : i = j
    · rw [if_pos e]
    · rw [if_neg e]; exact hv i (by omega)
theorem HUN.a0 {h : aH} {c row : Nat} {U V A A' : Nat → Int} (H : HUN h c row U V A) (e : ∀ s, 1 ≤ s → A' s = A s) : HUN h c row U V A' := by
  obtain ⟨a, b, c1, c2, d, f⟩ := H
  refine ⟨a, fun s x y => by rw [e s x]; exact b s x y, fun s s' x y x' y' nz z => c1 s s' x y x' y' (by rw [← e s x]; exact nz) (by rw [← e s x, ← e s' x']; exact z), fun r x y => ?_, fun s x y => ⟨(d s x y).1, fun z => (d s x y).2 (by rw [← e s x]; exact z)⟩, f⟩
  obtain ⟨s, q1, q2, q3⟩ := c2 r x y
  exact ⟨s, q1, q2, by rw [e s q1]; exact q3⟩
theorem c_seat {N : Nat} {C : aH → Prop} {h h1 : aH} {c row : Nat} (P : PI h) (hc : 1 ≤ c ∧ c ≤ 2) (hr : 1 ≤ row ∧ row ≤ NE h) (K : HCX h c h1) (H : HUN h c row (h1 116) (h1 117) (h1 119)) (hq : -100000000000000 ≤ h1 117 0 ∧ h1 117 0 ≤ 100000000000000)
    (hC : ∀ h', HCX h c h' → HUN h c (row + 1) (h' 116) (h' 117) (h' 119) → (h1 117 0 - 6586148313000 ≤ h' 117 0 ∧ h' 117 0 ≤ h1 117 0 + 6586148313000) → C h') : WV N 149 0 [(0, .inr (.inr 113)), (1, .inl (row : Int))] h1 C := by
  refine w_149_0 (ck_ix (by omega) (w_148_0_r118 (ck_rg (by omega) (c_fl118 (fun h2 f2 hv => ?_) 25 0 _ rfl (Nat.zero_le _) Fr.rfl (fun i hi => absurd hi (Nat.not_lt_zero i))))))
  have K1 : HCX h c (am_up h1 119 0 (row : Int)) := K.mv (Fr.up (r := 119) Fr.rfl (by decide) (by decide))
  have K2 : HCX h c h2 := K1.mv (f2.mono (by decide) (by decide))
  have K3 : HCX h c (am_up h2 113 9 0) := ⟨K2.1.up (by decide) (by decide), by rw [up_ne (by decide)]; exact K2.2.1, by rw [up_row (by decide)]; exact K2.2.2⟩
  have e116 : (am_up h2 113 9 0) 116 = h1 116 := by rw [up_row (by decide), f2.at 116 (by decide) (by decide), up_row (by decide)]
  have e117 : (am_up h2 113 9 0) 117 = h1 117 := by rw [up_row (by decide), f2.at 117 (by decide) (by decide), up_row (by decide)]
  have e119 : ∀ s, (am_up h2 113 9 0) 119 s = if s = 0 then (row : Int) else h1 119 s := fun s => by rw [up_row (by decide), f2.at 119 (by decide) (by decide), up_in]
  have H3 : HUN h c row ((am_up h2 113 9 0) 116) ((am_up h2 113 9 0) 117) ((am_up h2 113 9 0) 119) := by
    rw [e116, e117]
    exact H.a0 (fun s hs => by rw [e119, if_neg (by omega)])
  have S := SEA.first (SL := (am_up h2 113 9 0) 118) (F := (am_up h2 113 9 0) 120) H3 (by rw [e119, if_pos rfl])
  have n8 := NE_le h
  have u0 : h1 116 row = 0 := H.2.2.2.2.2 row (by omega) (Or.inr (Nat.le_refl _))
  have m24 := NS_le (h := h) hc
  refine c_se17 P hc hr hq (fun h' t L t1 K' S' z e => ?_) _ 0 (fun _ => 0) _ rfl K3 S (by rw [up_same]; rfl) (fun _ j j1 j2 => by rw [up_row (by decide)]; exact hv j (by omega)) (by rw [e116, e117, u0, Int.add_zero])
  have bd := (S'.bd P hc (by omega) hr).1 row (by omega)
  refine c_se43 K' hc S' (fun h4 f4 B => hC h4 (K'.mv (f4.mono (by decide) (by decide))) ?_ ?_) t t 0 h' (Nat.le_refl t) (Nat.le_refl t) (by omega) Fr.rfl (HOL.start S' t1 z hr.1)
  · rw [f4.at 116 (by decide) (by decide), f4.at 117 (by decide) (by decide)]
    exact HOL.fin S' B t1
  · rw [f4.at 117 (by decide) (by decide)]
    omega
