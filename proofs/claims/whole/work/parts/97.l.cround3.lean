/-! THE ROUND: the class's answer -/
theorem c_po13 {N : Nat} {C : aH → Prop} {h : aH} {e en : Int} (P : PI h) (O : okEight h) (he : 0 ≤ e ∧ e ≤ 60) (hC : ∀ h' f a p, RCX h e h' → PKD h e en h' f (NE h) a p → C h') : ∀ (d k : Nat) (f : Nat → Nat) (a p : Int) (h2 : aH), d = NE h - k → k ≤ NE h → RCX h e h2 → BW (HRR h) (SPT h) e (NE h) en (h2 125) 0 0 → PKD h e en h2 f k a p →
    WV N 180 13 [(0, .inr (.inr 121)), (1, .inl (NE h : Int)), (2, .inl (MSK f k : Int)), (3, .inl a), (4, .inl p), (5, .inl (k : Int))] h2 C := by
  intro d
  induction d with
  | zero =>
    intro k f a p h2 hd hk R B K
    have : k = NE h := by omega
    subst this
    exact w_180_13 ⟨fun _ => hC h2 f a p R K, fun z => absurd (Int.le_refl _) z⟩
  | succ d ih =>
    intro k f a p h2 hd hk R B K
    have rg := simN_rg (H := HRR h) (S := SPT h) (e := e) (f := f) (n := k) (fun i hi => (EI_ok P (K.1.1 i hi)).2) (fun i hi => SPT_rg P (f i) (K.1.1 i hi)) k (Nat.le_refl k) a p K.2.1
    exact w_180_13 ⟨fun z => by omega, fun _ => c_po19 P O he (by omega) rg.1 rg.2 (fun h' g a' p' R' B' K' => ih (k + 1) g a' p' h' (by omega) (by omega) R' B' K') _ 0 h2 rfl (Nat.zero_le _) R B K (fun i' hi' => absurd hi' (Nat.not_lt_zero i'))⟩
theorem c_pickOrder {N : Nat} {C : aH → Prop} {h h1 : aH} {e en : Int} (P : PI h) (O : okEight h) (he : 0 ≤ e ∧ e ≤ 60) (R : RCX h e h1) (B : BW (HRR h) (SPT h) e (NE h) en (h1 125) 0 0) (F : FIN (HRR h) (SPT h) e (NE h) en (NE h) 0 0 0) (hC : ∀ h' f a p, RCX h e h' → PKD h e en h' f (NE h) a p → C h') : WV N 180 0 [(0, .inr (.inr 121))] h1 C := by
  have kp : Kp h h1 := Fr.kp R.1 (by decide)
  refine w_180_0 ?_
  rw [kp.at 16 (by decide), O.1]
  exact c_po13 P O he hC _ 0 (fun _ => 0) 0 0 h1 rfl (Nat.zero_le _) R B ⟨⟨fun i hi => absurd hi (Nat.not_lt_zero i), fun i j hi => absurd hi (Nat.not_lt_zero i)⟩, rfl, fun j hj => absurd hj (Nat.not_lt_zero j), F, fun j hj => absurd hj (Nat.not_lt_zero j)⟩
theorem EVH_some {h : aH} {e a p : Int} {q : Nat → Nat} (z : simN (HRR h) (SPT h) e q (NE h) = some (a, p)) : EVH h e q = a := by unfold EVH EV; rw [z]
theorem EVH_none {h : aH} {e : Int} {q : Nat → Nat} (z : simN (HRR h) (SPT h) e q (NE h) = none) : EVH h e q = -2 := by unfold EVH EV; rw [z]
theorem RD_low {h : aH} {e : Int} {T : Nat → Int} (P : PI h) (n0 : 0 < NE h) (W : FW (HRR h) (SPT h) e (NE h) T (2 ^ NE h - 1) 0 0) {q : Nat → Nat} (Q : PERM (NE h) q) {a p : Int} (z : simN (HRR h) (SPT h) e q (NE h) = some (a, p)) : ∃ j, j < NE h ∧ T ((2 ^ NE h - 1) * 8 + j) ≤ a := by
  have lo := FW_low (fun i hi => (EI_ok P hi).2) (SPT_rg P) W (f := q) (NE h - 1) a p
  rw [Nat.sub_add_cancel n0, MSK_full Q] at lo
  exact ⟨q (NE h - 1), Q.1 _ (by omega), lo Q z⟩
def RWK (h : aH) (e v : Int) (h' : aH) : Prop := (RNONE h e ∧ v = -2) ∨ ∃ b, RBEST h e v b ∧ ∀ k, k < NE h → h' 122 k = (EI h (b k) : Int)
theorem c_w50 {N : Nat} {C : Int → aH → Prop} {h : aH} {e : Int} (P : PI h) (O : okEight h) (he : 0 ≤ e ∧ e ≤ 60) (n0 : 0 < NE h) (hC : ∀ v h', FOR h h' → RWK h e v h' → C v h') : ∀ (d i : Nat) (h2 : aH) (m : Int), d = NE h - i → i ≤ NE h → RCX h e h2 → FW (HRR h) (SPT h) e (NE h) (h2 124) (2 ^ NE h - 1) 0 0 → m ≤ 100000 → (∀ j, j < i → m ≤ h2 124 ((2 ^ NE h - 1) * 8 + j)) → (m = 100000 ∨ ∃ j, j < NE h ∧ m = h2 124 ((2 ^ NE h - 1) * 8 + j)) →
    WI N 175 50 [(0, .inr (.inr 121)), (2, .inl (NE h : Int)), (3, .inl m), (4, .inl (i : Int))] h2 C := by
  have n8 := NE_le h
  have p8 : 2 ^ NE h ≤ 256 := two_le (m := 8) n8
  have p2 : 2 ≤ 2 ^ NE h := two_le (n := 1) n0
  intro d
  induction d with
  | zero =>
    intro i h2 m hd hi R W m1 m2 m3
    have : i = NE h := by omega
    subst this
    refine w_175_50 ⟨fun _ => ⟨fun ne => ?_, fun eq => ?_⟩, fun z => absurd (Int.le_refl _) z⟩
    · obtain ⟨j, hj, ej⟩ := m3.resolve_left ne
      have w1 := W.1 (2 ^ NE h - 1) j (by omega) hj
      rw [← ej] at w1
      obtain ⟨w2, k, f, I, mk, fl, sm⟩ := w1.2.2 (by omega)
      have bk := bts_msk I
      rw [mk, bts_full2] at bk
      rw [← bk] at I sm
      have F0 := FIN_of (en := m) I sm (Int.le_refl m) _ 0 0 0 rfl (Nat.zero_le _) rfl
      refine c_goBackward P O he n0 ⟨w1.1, w2⟩ R (fun h3 R3 B3 => c_pickOrder P O he R3 B3 F0 (fun h4 g a p R4 K => hC m h4 R4.1 (Or.inr ⟨g, ⟨w1.1, K.1, ?_, fun q Q => ?_⟩, K.2.2.2.2⟩)))
      · obtain ⟨j', hj', lo⟩ := RD_low P n0 W K.1 K.2.1
        have := m2 j' hj'
        have up := K.2.2.2.1
        rw [Nat.sub_self] at up
        have up : a ≤ m := up
        rw [EVH_some K.2.1]
        omega
      · cases z : simN (HRR h) (SPT h) e q (NE h) with
        | none => exact Or.inl (EVH_none z)
        | some v =>
          obtain ⟨b, c⟩ := v
          obtain ⟨j', hj', lo⟩ := RD_low P n0 W Q z
          have := m2 j' hj'
          rw [EVH_some z]
          by_cases y : m < b
          · exact Or.inr (Or.inl y)
          · exact Or.inr (Or.inr ⟨by omega, K.2.2.1.least n8 K.1 Q z (by omega)⟩)
    · have eq := Decidable.not_not.mp eq
      refine hC _ h2 R.1 (Or.inl ⟨fun q Q => ?_, rfl⟩)
      cases z : simN (HRR h) (SPT h) e q (NE h) with
      | none => exact EVH_none z
      | some v =>
        exfalso
        obtain ⟨b, c⟩ := v
        obtain ⟨j', hj', lo⟩ := RD_low P n0 W Q z
        have := m2 j' hj'
        have rg := simN_rg (H := HRR h) (S := SPT h) (e := e) (f := q) (n := NE h) (fun i hi => (EI_ok P (Q.1 i hi)).2) (fun i hi => SPT_rg P (q i) (Q.1 i hi)) (NE h) (Nat.le_refl _) b c z
        omega
  | succ d ih =>
    intro i h2 m hd hi R W m1 m2 m3
    have hi2 : i < NE h := by omega
    have m4 : m ≤ 100000 ∧ min m (h2 124 ((2 ^ NE h - 1) * 8 + i)) ≤ 100000 := by clear m3; omega
    refine w_175_50 ⟨fun z => by omega, fun _ => ?_⟩
    rw [R.2.2.1, show (((2 ^ NE h - 1 : Nat) : Int) * 8 + (i : Int)).toNat = (2 ^ NE h - 1) * 8 + i by omega]
    (repeat first | refine ck_ix (by omega) ?_ | refine ck_rg (by omega) ?_ | refine ck_rl (by omega) ?_)
    refine ih (i + 1) h2 _ (by clear m3 m4; omega) (by clear m3 m4; omega) R W m4.2 (fun j hj => ?_) ?_
    · by_cases c : j = i
      · rw [c]; exact Int.min_le_right _ _
      · exact Int.le_trans (Int.min_le_left _ _) (m2 j (by omega))
    · by_cases c : m ≤ h2 124 ((2 ^ NE h - 1) * 8 + i)
      · rw [Int.min_eq_left c]; exact m3
      · rw [Int.min_eq_right (by clear m3 m4; omega)]; exact Or.inr ⟨i, hi2, rfl⟩
theorem c_w21 {N : Nat} {C : Int → aH → Prop} {h : aH} {e : Int} (P : PI h) (O : okEight h) (he : 0 ≤ e ∧ e ≤ 60) (n0 : 0 < NE h) (hC : ∀ v h', FOR h h' → RWK h e v h' → C v h') : ∀ (d i : Nat) (h2 : aH), d = NE h - i → i ≤ NE h → FOR h h2 → h2 121 7 = e → h2 121 6 = ((2 ^ NE h - 1 : Nat) : Int) → (∀ j, j < i → h2 123 j = SPT h j) →
    WI N 175 21 [(0, .inr (.inr 121)), (2, .inl (NE h : Int)), (3, .inl (i : Int))] h2 C := by
  have hz := P.1.1
  unfold okSz at hz
  have n8 := NE_le h
  have n12 : NSL h ≤ 12 := by unfold NSL; omega
  intro d
  induction d with
  | zero =>
    intro i h2 hd hi f q1 q2 q3
    have : i = NE h := by omega
    subst this
    exact w_175_21 ⟨fun _ => c_goForward P O he n0 ⟨f, q1, q2, q3⟩ (fun h3 R3 W3 => c_w50 P O he n0 hC _ 0 h3 100000 rfl (Nat.zero_le _) R3 W3 (by omega) (fun j hj => absurd hj (Nat.not_lt_zero j)) (Or.inl rfl)), fun z => absurd (Int.le_refl _) z⟩
  | succ d ih =>
    intro i h2 hd hi f q1 q2 q3
    have hi2 : i < NE h := by omega
    have kp : Kp h h2 := Fr.kp f (by decide)
    obtain ⟨a, _⟩ := EI_ok P hi2
    have l := P.2.1.1 (EI h i) (by unfold NSL at a; omega)
    refine w_175_21 ⟨fun z => by omega, fun _ => ?_⟩
    rw [Int.toNat_natCast, kp.at 27 (by decide), O.2 i hi2, Int.toNat_natCast, kp.at 63 (by decide), kp.at 18 (by decide)]
    have es : h 18 (h 63 (EI h i)).toNat = SPT h i := rfl
    rw [es]
    (repeat first | refine ck_ix (by omega) ?_ | refine ck_rg (by omega) ?_ | refine ck_rl (by omega) ?_)
    refine ih (i + 1) _ (by omega) (by omega) (Fr.up f (r := 123) (by decide) (by decide)) ?_ ?_ (fun j hj => ?_)
    · rw [up_row (by decide)]; exact q1
    · rw [up_row (by decide)]; exact q2
    · rw [up_in]
      by_cases c : j = i
      · rw [if_pos c, c]
      · rw [if_neg c]; exact q3 j (by omega)
theorem c_walkRound {N : Nat} {C : Int → aH → Prop} {h : aH} {e : Int} (P : PI h) (O : okEight h) (he : 0 ≤ e ∧ e ≤ 60) (hC : ∀ v h', FOR h h' → RWK h e v h' → C v h') : WI N 175 0 [(0, .inr (.inr 121)), (1, .inl e)] h C := by
  have n8 := NE_le h
  have p8 : 2 ^ NE h ≤ 256 := two_le (m := 8) n8
  refine w_175_0 ?_
  rw [O.1]
  refine ⟨fun ne => ?_, fun eq => ?_⟩
  · have n0 : 0 < NE h := by omega
    have p2 : 2 ≤ 2 ^ NE h := two_le (n := 1) n0
    rw [bt_shl (by omega), show ((2 ^ NE h : Nat) : Int) - 1 = ((2 ^ NE h - 1 : Nat) : Int) by omega]
    (repeat first | refine ck_ix (by omega) ?_ | refine ck_rg (by omega) ?_ | refine ck_rl (by omega) ?_)
    exact c_w21 P O he n0 hC _ 0 _ rfl (Nat.zero_le _) (Fr.up (Fr.up Fr.rfl (r := 121) (by decide) (by decide)) (r := 121) (by decide) (by decide)) (by rw [up_ne (by decide), up_in, if_pos rfl]) (by rw [up_in, if_pos rfl]) (fun j hj => absurd hj (Nat.not_lt_zero j))
  · have z : NE h = 0 := by omega
    refine hC _ h Fr.rfl (Or.inr ⟨fun i => i, ⟨Int.le_refl 0, id_prm _, ?_, fun q Q => Or.inr (Or.inr ⟨?_, ?_⟩)⟩, fun k hk => absurd hk (by omega)⟩)
    · exact EVH_some (p := 0) (by rw [z]; rfl)
    · exact (EVH_some (p := 0) (by rw [z]; rfl)).symm
    · rw [z]; exact Nat.le_refl _
theorem c_isEarly {N : Nat} {C : Int → aH → Prop} {h : aH} {e : Int} (h1 : 0 ≤ e ∧ e ≤ 60 → C 1 h) (h0 : ¬ (0 ≤ e ∧ e ≤ 60) → C 0 h) : WI N 174 0 [(0, .inl e)] h C :=
  w_174_0 ⟨fun _ => ck_t0 (h0 (by omega)), fun _ => ⟨fun _ => ck_t0 (h0 (by omega)), fun _ => ck_t1 (h1 (by omega))⟩⟩
theorem c_round {N : Nat} {C : Int → aH → Prop} {h : aH} {e : Int} (P : PI h) (O : okEight h) (hC : ∀ v h', FOR h h' → RANS h e v → C v h') : WI N 173 0 [(0, .inr (.inr 9)), (1, .inl e)] h C := by
  refine w_173_0 (c_isEarly (fun he => z1 (c_walkRound P O he (fun v h' f K => hC v h' f ⟨fun z => absurd he z, fun _ => ?_⟩))) (fun ne => z0 (hC _ h Fr.rfl ⟨fun _ => rfl, fun z => absurd z ne⟩)))
  rcases K with K | ⟨b, K, _⟩
  · exact Or.inl K
  · exact Or.inr ⟨b, K⟩
theorem c_roundAt {N : Nat} {C : Int → aH → Prop} {h : aH} {e w : Int} (P : PI h) (O : okEight h) (hC : ∀ v h', FOR h h' → RAT h e w v → C v h') : WI N 181 0 [(0, .inr (.inr 9)), (1, .inl e), (2, .inl w)] h C := by
  have n8 := NE_le h
  have out : ¬ ((0 ≤ e ∧ e ≤ 60) ∧ (0 ≤ w ∧ w ≤ (NE h : Int) - 1)) → C (-1) h := fun z => hC _ h Fr.rfl ⟨fun _ => rfl, fun y => absurd y z⟩
  refine w_181_0 (c_isEarly (fun he => z1 ⟨fun lo => out (fun y => by omega), fun lo => ?_⟩) (fun ne => z0 (out (fun y => ne y.1))))
  rw [O.1]
  refine ⟨fun hi => out (fun y => by omega), fun hi => c_walkRound P O he (fun v h' f K => ?_)⟩
  rcases K with ⟨K, e2⟩ | ⟨b, K, o⟩
  · exact ⟨fun z => absurd e2 z, fun _ => hC _ h' f ⟨fun _ => rfl, fun _ => Or.inl ⟨K, rfl⟩⟩⟩
  · have := K.1
    refine ⟨fun _ => ck_ix (by omega) (hC _ h' f ⟨fun z => absurd ⟨he, by omega, by omega⟩ z, fun _ => Or.inr ⟨v, b, K, o w.toNat (by omega)⟩⟩), fun z => absurd (by omega) z⟩
