/-! read: the class's draft is cleared, taken over -/
theorem Fr5 {R D : List Nat} {g g' : aH} (f : F5 R D g g') (h130 : 130 ∉ R) (h35 : 35 ∈ R) : Fr R [] g g' := by
  refine ⟨fun r a b => f.1 r (fun e => b (by rw [e]; exact h35)) b, fun j _ => ?_⟩
  rw [f.1 130 (by decide) h130]
theorem c_clear {N : Nat} {C : aH → Prop} {h : aH} (hC : ∀ h', Fr [36, 49, 50, 52, 53] [] h h' → (h' 36 14 = 0 ∧ h' 36 15 = 0 ∧ h' 36 16 = 0) → dflH (h' 50) (h' 49 2) → dflA (h' 53) (h' 52 2) → C h') : WV N 40 0 [(0, .inr (.inr 36))] h C := by
  refine w_40_0 (w_41_0 ?_)
  obtain ⟨a0, ha0⟩ : ∃ a0, a0 = am_up (am_up (am_up (am_up (am_up (am_up h 36 14 0) 36 15 0) 36 16 0) 36 17 0) 36 18 0) 49 2 0 := ⟨_, rfl⟩
  rw [← ha0]
  have fa0 : Fr [36, 49] [] h a0 := by
    rw [ha0]
    exact (((((Fr.rfl.up (by decide) (by decide)).up (by decide) (by decide)).up (by decide) (by decide)).up (by decide) (by decide)).up (by decide) (by decide)).up (by decide) (by decide)
  have e0 : a0 36 14 = 0 ∧ a0 36 15 = 0 ∧ a0 36 16 = 0 ∧ a0 49 2 = 0 := by
    rw [ha0]
    refine ⟨?_, ?_, ?_, ?_⟩
    · rw [up_row (by decide), up_ne (by decide), up_ne (by decide), up_ne (by decide), up_ne (by decide), up_same]
    · rw [up_row (by decide), up_ne (by decide), up_ne (by decide), up_ne (by decide), up_same]
    · rw [up_row (by decide), up_ne (by decide), up_ne (by decide), up_same]
    · rw [up_same]
  have st : ∀ (E : List Int) (z : Int) (g : aH) {D : aH → Prop}, g 49 2 = (E.length : Int) → stE (g 50) E → E.length < 400 → Fr [36, 49, 50] [] h g → (∀ j, g 36 j = a0 36 j) → (∀ g', g' 49 2 = ((E ++ [z]).length : Int) → stE (g' 50) (E ++ [z]) → Fr [36, 49, 50] [] h g' → (∀ j, g' 36 j = a0 36 j) → D g') → WV N 42 0 [(0, .inr (.inr 49)), (1, .inl z)] g D := by
    intro E z g D l s lt f k hD
    refine c_lput49 l s lt (fun g' f' l' s' _ => hD g' l' s' (f.trans ⟨fun r a b => ?_, fun j _ => ?_⟩) (fun j => ?_))
    · by_cases c : r = 35
      · subst c
        exact funext (fun j => f'.2 j (by simp))
      · exact f'.1 r c (fun z => b (by simp at z ⊢; omega))
    · rw [f'.at 130 (by decide) (by decide)]
    · rw [f'.at 36 (by decide) (by decide)]; exact k j
  refine st [] (-1) a0 e0.2.2.2 (fun i hi => absurd hi (Nat.not_lt_zero i)) (by decide) (fa0.mono (by decide) (by decide)) (fun _ => rfl) (fun g1 l1 s1 f1 k1 => st _ (-2) g1 l1 s1 (by decide) f1 k1 (fun g2 l2 s2 f2 k2 => st _ (-22) g2 l2 s2 (by decide) f2 k2 (fun g3 l3 s3 f3 k3 => st _ (-3) g3 l3 s3 (by decide) f3 k3 (fun g4 l4 s4 f4 k4 => st _ 3 g4 l4 s4 (by decide) f4 k4 (fun g5 l5 s5 f5 k5 => st _ (-23) g5 l5 s5 (by decide) f5 k5 (fun g6 l6 s6 f6 k6 => st _ (-22) g6 l6 s6 (by decide) f6 k6 (fun g7 l7 s7 f7 k7 => st _ (-6) g7 l7 s7 (by decide) f7 k7 (fun g8 l8 s8 f8 k8 => st _ 4 g8 l8 s8 (by decide) f8 k8 (fun g9 l9 s9 f9 k9 => st _ (-23) g9 l9 s9 (by decide) f9 k9 (fun g10 l10 s10 f10 k10 => st _ (-22) g10 l10 s10 (by decide) f10 k10 (fun g11 l11 s11 f11 k11 => ?_)))))))))))
  have f12 : Fr [52] [] g11 (am_up g11 52 2 0) := Fr.rfl.up (by decide) (by decide)
  refine c_lput52 (E := []) (up_same _ _ _ _) (fun i hi => absurd hi (Nat.not_lt_zero i)) (by decide) (fun g13 f13 l13 s13 _ => ?_)
  have F13 : Fr [52, 53] [] g11 g13 := by
    refine (f12.mono (by decide) (by decide)).trans ⟨fun r a b => ?_, fun j _ => ?_⟩
    · by_cases c : r = 35
      · subst c
        exact funext (fun j => f13.2 j (by simp))
      · exact f13.1 r c b
    · rw [f13.at 130 (by decide) (by decide)]
  refine hC g13 ((f11.mono (by decide) (by decide)).trans (F13.mono (by decide) (by decide))) ⟨?_, ?_, ?_⟩ ?_ ?_
  · rw [F13.at 36 (by decide) (by decide), k11]; exact e0.1
  · rw [F13.at 36 (by decide) (by decide), k11]; exact e0.2.1
  · rw [F13.at 36 (by decide) (by decide), k11]; exact e0.2.2.1
  · unfold dflH
    rw [F13.at 49 (by decide) (by decide), F13.at 50 (by decide) (by decide)]
    exact ⟨l11, s11 0 (by decide), s11 1 (by decide), s11 2 (by decide), s11 3 (by decide), s11 4 (by decide), s11 5 (by decide), s11 6 (by decide), s11 7 (by decide), s11 8 (by decide), s11 9 (by decide), s11 10 (by decide)⟩
  · exact ⟨l13, s13 0 (by decide)⟩
/-- the house is the draft -/
def HSD (h h' : aH) : Prop := (h' 16 14 = h 36 14 ∧ h' 16 15 = h 36 15 ∧ h' 16 16 = h 36 16) ∧ (∀ j : Nat, (j : Int) < h 36 14 → h' 17 j = h 37 j ∧ h' 18 j = h 38 j) ∧ (∀ j : Nat, (j : Int) < h 36 15 → h' 19 j = h 39 j ∧ h' 20 j = h 40 j) ∧
  (∀ j : Nat, (j : Int) < h 36 16 → h' 21 j = h 41 j ∧ h' 22 j = h 42 j ∧ h' 23 j = h 43 j ∧ h' 24 j = h 44 j ∧ h' 25 j = h 45 j) ∧
  (h' 29 2 = h 49 2 ∧ ∀ j : Nat, (j : Int) < h 49 2 → h' 30 j = h 50 j) ∧ (h' 32 2 = h 52 2 ∧ ∀ j : Nat, (j : Int) < h 52 2 → h' 33 j = h 53 j)
theorem c_takeFrom {N : Nat} {C : aH → Prop} {h : aH} {nb nc ns : Nat} (hb : h 36 14 = (nb : Int)) (b12 : nb ≤ 12) (hc : h 36 15 = (nc : Int)) (c9 : nc ≤ 9) (hs : h 36 16 = (ns : Int)) (s12 : ns ≤ 12) (lh : 0 ≤ h 49 2 ∧ h 49 2 ≤ 400) (la : 0 ≤ h 52 2 ∧ h 52 2 ≤ 400)
    (hC : ∀ h', Fr [16, 17, 18, 19, 20, 21, 22, 23, 24, 25, 26, 27, 29, 30, 32, 33] [] h h' → HSD h h' → okHrs h' → okEight h' → C h') : WV N 65 0 [(0, .inr (.inr 16)), (1, .inr (.inr 36))] h C := by
  refine w_65_0 ?_
  rw [hb, hc, hs]
  simp only [Int.toNat_natCast]
  refine ⟨⟨by omega, by omega, by omega, by omega, by omega⟩, ⟨by omega, by omega, by omega, by omega, by omega⟩, ⟨by omega, by omega, by omega, by omega, by omega⟩, ⟨by omega, by omega, by omega, by omega, by omega⟩, ⟨by omega, by omega, by omega, by omega, by omega⟩, ⟨by omega, by omega, by omega, by omega, by omega⟩, ⟨by omega, by omega, by omega, by omega, by omega⟩, ⟨by omega, by omega, by omega, by omega, by omega⟩, ⟨by omega, by omega, by omega, by omega, by omega⟩, ?_⟩
  obtain ⟨a, ha⟩ : ∃ a, a = am_cp (am_cp (am_cp (am_cp (am_cp (am_cp (am_cp (am_cp (am_cp (am_up (am_up (am_up h 16 14 (nb : Int)) 16 15 (nc : Int)) 16 16 (ns : Int)) 37 0 17 0 nb) 38 0 18 0 nb) 39 0 19 0 nc) 40 0 20 0 nc) 41 0 21 0 ns) 42 0 22 0 ns) 43 0 23 0 ns) 44 0 24 0 ns) 45 0 25 0 ns := ⟨_, rfl⟩
  rw [← ha]
  have fa : Fr [16, 17, 18, 19, 20, 21, 22, 23, 24, 25] [] h a := by
    rw [ha]
    exact (((((((((((Fr.rfl.up (by decide) (by decide)).up (by decide) (by decide)).up (by decide) (by decide)).cp (by decide) (by decide)).cp (by decide) (by decide)).cp (by decide) (by decide)).cp (by decide) (by decide)).cp (by decide) (by decide)).cp (by decide) (by decide)).cp (by decide) (by decide)).cp (by decide) (by decide)).cp (by decide) (by decide)
  have ea : (a 16 14 = (nb : Int) ∧ a 16 15 = (nc : Int) ∧ a 16 16 = (ns : Int)) ∧ (∀ j, j < nb → a 17 j = h 37 j ∧ a 18 j = h 38 j) ∧ (∀ j, j < nc → a 19 j = h 39 j ∧ a 20 j = h 40 j) ∧ (∀ j, j < ns → a 21 j = h 41 j ∧ a 22 j = h 42 j ∧ a 23 j = h 43 j ∧ a 24 j = h 44 j ∧ a 25 j = h 45 j) := by
    rw [ha]
    refine ⟨⟨?_, ?_, ?_⟩, fun j hj => ⟨?_, ?_⟩, fun j hj => ⟨?_, ?_⟩, fun j hj => ⟨?_, ?_, ?_, ?_, ?_⟩⟩
    · simp [cp_row, up_in]
    · simp [cp_row, up_in]
    · simp [cp_row, up_in]
    · simp [cp_row, cp_in, up_row, hj]
    · simp [cp_row, cp_in, up_row, hj]
    · simp [cp_row, cp_in, up_row, hj]
    · simp [cp_row, cp_in, up_row, hj]
    · simp [cp_row, cp_in, up_row, hj]
    · simp [cp_row, cp_in, up_row, hj]
    · simp [cp_row, cp_in, up_row, hj]
    · simp [cp_row, cp_in, up_row, hj]
    · simp [cp_row, cp_in, up_row, hj]
  obtain ⟨lhn, elh⟩ := Int.eq_ofNat_of_zero_le lh.1
  obtain ⟨lan, ela⟩ := Int.eq_ofNat_of_zero_le la.1
  refine w_66_0_r29_49 ?_
  rw [fa.at 49 (by decide) (by decide), elh]
  simp only [Int.toNat_natCast]
  refine ⟨⟨by omega, by omega, by omega, by omega, by omega⟩, w_66_0_r32_52 ?_⟩
  have f1 : Fr [29, 30] [] a (am_cp (am_up a 29 2 (lhn : Int)) 50 0 30 0 lhn) := (Fr.rfl.up (by decide) (by decide)).cp (by decide) (by decide)
  rw [f1.at 52 (by decide) (by decide), fa.at 52 (by decide) (by decide), ela]
  simp only [Int.toNat_natCast]
  obtain ⟨b, hbb⟩ : ∃ b, b = am_cp (am_up (am_cp (am_up a 29 2 (lhn : Int)) 50 0 30 0 lhn) 32 2 (lan : Int)) 53 0 33 0 lan := ⟨_, rfl⟩
  have f2 : Fr [29, 30, 32, 33] [] a b := by rw [hbb]; exact ((((Fr.rfl.up (by decide) (by decide)).cp (by decide) (by decide)).up (by decide) (by decide)).cp (by decide) (by decide))
  have eb : (b 29 2 = (lhn : Int) ∧ ∀ j, j < lhn → b 30 j = h 50 j) ∧ (b 32 2 = (lan : Int) ∧ ∀ j, j < lan → b 33 j = h 53 j) := by
    rw [hbb]
    refine ⟨⟨?_, fun j hj => ?_⟩, ?_, fun j hj => ?_⟩
    · simp [cp_row, up_row, up_in]
    · simp [cp_row, cp_in, up_row, hj, fa.at 50 (by decide) (by decide)]
    · simp [cp_row, up_row, up_in]
    · simp [cp_row, cp_in, up_row, hj, fa.at 53 (by decide) (by decide)]
  rw [← hbb]
  refine ⟨⟨by omega, by omega, by omega, by omega, by omega⟩, ?_⟩
  have sb : b 16 16 = (ns : Int) := by rw [f2.at 16 (by decide) (by decide)]; exact ea.1.2.2
  refine c_listHours (by omega) (fun h3 f3 k3 o3 => c_listEight (by rw [k3 16 (by decide)]; omega) (fun h4 f4 k4 o4 => hC h4 ?_ ?_ ?_ o4))
  · exact (fa.mono (by decide) (by decide)).trans ((f2.mono (by decide) (by decide)).trans ((f3.mono (by decide) (by decide)).trans (f4.mono (by decide) (by decide))))
  · unfold HSD
    rw [hb, hc, hs, elh, ela]
    refine ⟨⟨?_, ?_, ?_⟩, fun j hj => ?_, fun j hj => ?_, fun j hj => ?_, ⟨?_, fun j hj => ?_⟩, ?_, fun j hj => ?_⟩
    · rw [k4 14 (by decide), k3 14 (by decide), f2.at 16 (by decide) (by decide)]; exact ea.1.1
    · rw [k4 15 (by decide), k3 15 (by decide), f2.at 16 (by decide) (by decide)]; exact ea.1.2.1
    · rw [k4 16 (by decide), k3 16 (by decide)]; exact sb
    · rw [f4.at 17 (by decide) (by decide), f4.at 18 (by decide) (by decide), f3.at 17 (by decide) (by decide), f3.at 18 (by decide) (by decide), f2.at 17 (by decide) (by decide), f2.at 18 (by decide) (by decide)]
      exact ea.2.1 j (by omega)
    · rw [f4.at 19 (by decide) (by decide), f4.at 20 (by decide) (by decide), f3.at 19 (by decide) (by decide), f3.at 20 (by decide) (by decide), f2.at 19 (by decide) (by decide), f2.at 20 (by decide) (by decide)]
      exact ea.2.2.1 j (by omega)
    · rw [f4.at 21 (by decide) (by decide), f4.at 22 (by decide) (by decide), f4.at 23 (by decide) (by decide), f4.at 24 (by decide) (by decide), f4.at 25 (by decide) (by decide), f3.at 21 (by decide) (by decide), f3.at 22 (by decide) (by decide), f3.at 23 (by decide) (by decide), f3.at 24 (by decide) (by decide), f3.at 25 (by decide) (by decide), f2.at 21 (by decide) (by decide), f2.at 22 (by decide) (by decide), f2.at 23 (by decide) (by decide), f2.at 24 (by decide) (by decide), f2.at 25 (by decide) (by decide)]
      exact ea.2.2.2 j (by omega)
    · rw [f4.at 29 (by decide) (by decide), f3.at 29 (by decide) (by decide)]; exact eb.1.1
    · rw [f4.at 30 (by decide) (by decide), f3.at 30 (by decide) (by decide)]; exact eb.1.2 j (by omega)
    · rw [f4.at 32 (by decide) (by decide), f3.at 32 (by decide) (by decide)]; exact eb.2.1
    · rw [f4.at 33 (by decide) (by decide), f3.at 33 (by decide) (by decide)]; exact eb.2.2 j (by omega)
  · unfold okHrs at o3 ⊢
    rw [k4 17 (by decide), k4 16 (by decide), f4.at 26 (by decide) (by decide), f4.at 23 (by decide) (by decide)]
    exact o3
/-- what the night keeps in mind is forgotten -/
theorem c_forget {N : Nat} {C : aH → Prop} {h : aH} (hC : ∀ h', Fr [96] [] h h' → (∀ j, j < 4000 → h' 96 j = -1) → C h') : WV N 72 0 [(0, .inr (.inr 92))] h C := by
  have key : ∀ (d k : Nat) (h1 : aH), d = 4000 - k → k ≤ 4000 → Fr [96] [] h h1 → (∀ j, j < k → h1 96 j = -1) → WV N 73 6 [(0, .inr (.inr 96)), (1, .inl (-1)), (2, .inl (k : Int)), (3, .inl 4000)] h1 C := by
    intro d
    induction d with
    | zero =>
      intro k h1 hd hk f e
      have : k = 4000 := by omega
      subst this
      exact w_73_6 ⟨fun _ => hC h1 f e, fun z => absurd (show (4000 : Int) ≤ ((4000 : Nat) : Int) by decide) z⟩
    | succ d ih =>
      intro k h1 hd hk f e
      refine w_73_6 ⟨fun z => by omega, fun _ => ck_ix (by omega) (ck_rg (by omega) ?_)⟩
      rw [Int.toNat_natCast]
      refine ih (k + 1) _ (by omega) (by omega) (f.up (by decide) (by decide)) (fun j hj => ?_)
      rw [up_in]
      by_cases c : j = k
      · rw [if_pos c]; rfl
      · rw [if_neg c]; exact e j (by omega)
  exact w_72_0 (w_73_0 (ck_rg (by decide) (key 4000 0 h rfl (Nat.zero_le _) Fr.rfl (fun j hj => absurd hj (Nat.not_lt_zero j)))))
