/-! fire, reaches: the reference's -/
theorem m_cry {N : Nat} {C : Int → aH → Prop} {h : aH} {s t : Nat} {v : Int} (P : PI h) (R : RelH h) (Q : RelP h) (hs : s < NSL h) (ht : t < NSL h) (hv : 1 ≤ v ∧ v ≤ 12) (hC : ∀ h', Fr [159, 160] [] h h' → C (HEAR h s (h 63 s) (WOF h s) v (h 63 t) 0) h') : WI N 257 0 [(0, .inr (.inr 130)), (1, .inl (s : Int)), (2, .inl v), (3, .inl (h 161 t)), (4, .inl 0)] h C := by
  have hz := P.1.1
  unfold okSz at hz
  unfold NSL at hs ht
  obtain ⟨a1, a2⟩ := Q.2.2 s (by omega)
  obtain ⟨b1, b2⟩ := Q.2.2 t (by omega)
  have l1 := P.2.1.1 s (by omega)
  have l2 := P.2.1.1 t (by omega)
  have tf := WOF_tf h s
  refine m_hearing P.1 R ⟨by omega, by omega⟩ ?_ ?_ ?_ (by omega) (fun h' f => ?_)
  · rw [Int.toNat_natCast, a1]; exact ⟨l1.1, l1.2.1⟩
  · rw [Int.toNat_natCast, a2]; exact tf
  · rw [b1]; exact ⟨l2.1, l2.2.1⟩
  · rw [Int.toNat_natCast, a1, a2, b1]
    exact hC h' f
theorem m_nsl {h : aH} (P : PI h) (R : RelH h) : (0 ≤ h 130 18 ∧ h 130 18 ≤ 1) ∧ h 147 (h 130 18).toNat = (NSL h : Int) ∧ NSL h ≤ 12 := by
  have hz := P.1.1
  unfold okSz at hz
  have hL := R.1
  have e := R.2.1.2.2
  unfold Lv at e
  refine ⟨by omega, ?_, ?_⟩
  · rw [e]; unfold NSL; omega
  · unfold NSL; omega
theorem m_in27 {N : Nat} {C : Int → aH → Prop} {h : aH} {v x : Int} {m c s : Nat} (P : PI h) (R : RelH h) (Q : RelP h) (hv : 1 ≤ v ∧ v ≤ 12) (hm : m < 2 ^ NSL h) (hc : c < 2 ^ NSL h) (hs : s < NSL h)
    (hC : ∀ h', Fr [159, 160] [] h h' → WI N 340 17 [(0, .inr (.inr 130)), (2, .inl v), (3, .inl x), (4, .inl (m : Int)), (6, .inl (INN c s (fun t => m.testBit t && CRY h v (THR x) s t) (NSL h) : Nat)), (7, .inl ((s : Int) + 1))] h' C) :
    ∀ (d j : Nat) (h1 : aH), d = NSL h - j → j ≤ NSL h → Fr [159, 160] [] h h1 → WI N 340 27 [(0, .inr (.inr 130)), (2, .inl v), (3, .inl x), (4, .inl (m : Int)), (6, .inl (INN c s (fun t => m.testBit t && CRY h v (THR x) s t) j : Nat)), (7, .inl (s : Int)), (8, .inl (j : Int))] h1 C := by
  intro d
  induction d with
  | zero =>
    intro j h1 hd hj hf
    have : j = NSL h := by omega
    subst this
    have kp := hf.kp (by decide)
    have n1 : NSL h1 = NSL h := by unfold NSL; rw [kp.at 16 (by decide)]
    obtain ⟨g1, g2, g3⟩ := m_nsl (kp.pi P) (R.mv hf (by decide) (by decide) (by decide))
    refine w_340_27 (ck_ix (by omega) ?_)
    rw [g2, n1]
    exact ⟨fun _ => ck_rg (by omega) (hC h1 hf), fun z => absurd (Int.le_refl _) z⟩
  | succ d ih =>
    intro j h1 hd hj hf
    have kp := hf.kp (by decide)
    have n1 : NSL h1 = NSL h := by unfold NSL; rw [kp.at 16 (by decide)]
    have R1 := R.mv hf (by decide) (by decide) (by decide)
    obtain ⟨g1, g2, g3⟩ := m_nsl (kp.pi P) R1
    have n12 : NSL h ≤ 12 := by omega
    have ci := INN_lt (p := fun t => m.testBit t && CRY h v (THR x) s t) (j := j) hc hs
    refine w_340_27 (ck_ix (by omega) ?_)
    rw [g2, n1, bt_tst (m31 n12 ci) (by omega), bt_tst (m31 n12 hm) (by omega)]
    refine ⟨fun z => by omega, fun _ => ⟨fun q => ck_rg (by omega) ?_, fun q => ⟨fun b0 => ck_ix (by omega) ?_, fun b1 => ck_rg (by omega) ?_⟩⟩⟩
    · have q := if_bit.1.mp q
      have nx := ih (j + 1) h1 (by omega) (by omega) hf
      have e : INN c s (fun t => m.testBit t && CRY h v (THR x) s t) (j + 1) = INN c s (fun t => m.testBit t && CRY h v (THR x) s t) j := by
        unfold INN
        rw [anyB_s]
        simp [q]
      rw [e] at nx
      exact nx
    · have q : m.testBit j = true := by
        cases hb : m.testBit j
        · exact absurd (if_bit.1.mpr hb) q
        · rfl
      have b0 : (INN c s (fun t => m.testBit t && CRY h v (THR x) s t) j).testBit s = false := by
        cases hb : (INN c s (fun t => m.testBit t && CRY h v (THR x) s t) j).testBit s
        · rfl
        · exact absurd (if_bit.2.mpr hb) b0
      obtain ⟨e1, e2⟩ := INN_f b0
      rw [Int.toNat_natCast]
      refine m_cry (kp.pi P) R1 (Q.keep kp hf (by decide) (by decide)) (by rw [n1]; exact hs) (by rw [n1]; omega) hv (fun h2 f2 => ?_)
      rw [kp.hear, kp.wof, kp.at 63 (by decide)]
      have nx := ih (j + 1) h2 (by omega) (by omega) (hf.trans f2)
      rw [e2] at nx
      have lo : ¬ (THR x ≤ HEAR h s (h 63 s) (WOF h s) v (h 63 j) 0) → WI N 340 27 [(0, .inr (.inr 130)), (2, .inl v), (3, .inl x), (4, .inl (m : Int)), (6, .inl (INN c s (fun t => m.testBit t && CRY h v (THR x) s t) j : Nat)), (7, .inl (s : Int)), (8, .inl ((j : Int) + 1))] h2 C := by
        intro z
        rw [if_neg (by simp [q, CRY]; omega), ← e1] at nx
        exact nx
      have hi : THR x ≤ HEAR h s (h 63 s) (WOF h s) v (h 63 j) 0 → WI N 340 27 [(0, .inr (.inr 130)), (2, .inl v), (3, .inl x), (4, .inl (m : Int)), (6, .inl (am_or (INN c s (fun t => m.testBit t && CRY h v (THR x) s t) j : Nat) (am_shl 1 (s : Int)))), (7, .inl (s : Int)), (8, .inl ((j : Int) + 1))] h2 C := by
        intro z
        rw [if_pos (by simp [q, CRY]; omega)] at nx
        rw [e1, bt_shl (show s < 31 by omega), bt_or (m31 n12 hc) (m31 n12 (two_lt hs))]
        exact nx
      have t0 : x = 0 → THR x = 10 := fun e => by unfold THR; rw [if_pos e]
      have t1 : ¬ x = 0 → THR x = 1 := fun e => by unfold THR; rw [if_neg e]
      refine ⟨fun ex => ?_, fun ex => ?_⟩
      · have := t0 ex
        exact ⟨fun a => ck_rg (by omega) (lo (by omega)), fun a => ck_rg (by omega) (hi (by omega))⟩
      · have := t1 ex
        exact ⟨fun a => ck_rg (by omega) (lo (by omega)), fun a => ck_rg (by omega) (hi (by omega))⟩
    · have b1 := if_bit.2.mp (Decidable.not_not.mp b1)
      have nx := ih (j + 1) h1 (by omega) (by omega) hf
      rw [INN_t b1] at nx
      exact nx
theorem m_min {N : Nat} {C : Int → aH → Prop} {h : aH} {v x : Int} {m : Nat} (P : PI h) (R : RelH h) (Q : RelP h) (hv : 1 ≤ v ∧ v ≤ 12) (hm : m < 2 ^ NSL h) (hcr : 0 ≤ h 130 81 ∧ h 130 81 ≤ 100)
    (hC1 : STEP h v (THR x) m = m → ∀ h', Fr [159, 160] [] h h' → WI N 340 10 [(0, .inr (.inr 130)), (2, .inl v), (3, .inl x), (4, .inl (m : Int)), (5, .inl 0)] h' C)
    (hC2 : STEP h v (THR x) m ≠ m → ∀ h', Fr [159, 160] [81] h h' → h' 130 81 = h 130 81 + 1 → WI N 340 10 [(0, .inr (.inr 130)), (2, .inl v), (3, .inl x), (4, .inl (STEP h v (THR x) m : Nat)), (5, .inl 1)] h' C) :
    ∀ (d k : Nat) (h1 : aH), d = NSL h - k → k ≤ NSL h → Fr [159, 160] [] h h1 →
      WI N 340 17 [(0, .inr (.inr 130)), (2, .inl v), (3, .inl x), (4, .inl (m : Int)), (6, .inl (stp m (fun s => anyB (fun t => m.testBit t && CRY h v (THR x) s t) (NSL h)) k : Nat)), (7, .inl (k : Int))] h1 C := by
  intro d
  induction d with
  | zero =>
    intro k h1 hd hk hf
    have : k = NSL h := by omega
    subst this
    have kp := hf.kp (by decide)
    have n1 : NSL h1 = NSL h := by unfold NSL; rw [kp.at 16 (by decide)]
    obtain ⟨g1, g2, g3⟩ := m_nsl (kp.pi P) (R.mv hf (by decide) (by decide) (by decide))
    refine w_340_17 (ck_ix (by omega) ?_)
    rw [g2, n1, hf.2 81 (by decide)]
    refine ⟨fun _ => ⟨fun e => ⟨fun _ => ?_, fun z => absurd rfl z⟩, fun e => ⟨fun z => absurd z (by decide), fun _ => ck_rg (by omega) ?_⟩⟩, fun z => absurd (Int.le_refl _) z⟩
    · rw [e]
      exact hC1 (by have : STEP h v (THR x) m = stp m (fun s => anyB (fun t => m.testBit t && CRY h v (THR x) s t) (NSL h)) (NSL h) := rfl
                    omega) h1 hf
    · exact hC2 (fun z => e (by have : STEP h v (THR x) m = stp m (fun s => anyB (fun t => m.testBit t && CRY h v (THR x) s t) (NSL h)) (NSL h) := rfl
                                omega)) _ ((hf.mono (by decide) (by decide)).upM (by decide)) (up_same _ _ _ _)
  | succ d ih =>
    intro k h1 hd hk hf
    have kp := hf.kp (by decide)
    have n1 : NSL h1 = NSL h := by unfold NSL; rw [kp.at 16 (by decide)]
    have R1 := R.mv hf (by decide) (by decide) (by decide)
    obtain ⟨g1, g2, g3⟩ := m_nsl (kp.pi P) R1
    have ec : CRY h1 = CRY h := by
      funext a b s t
      unfold CRY
      rw [kp.hear, kp.wof, kp.at 63 (by decide)]
    refine w_340_17 (ck_ix (by omega) ?_)
    rw [g2, n1]
    refine ⟨fun z => by omega, fun _ => ?_⟩
    have := m_in27 (N := N) (C := C) (h := h1) (v := v) (x := x) (m := m) (c := stp m (fun s => anyB (fun t => m.testBit t && CRY h v (THR x) s t) (NSL h)) k) (s := k) (kp.pi P) R1 (Q.keep kp hf (by decide) (by decide)) hv (by rw [n1]; exact hm) (by rw [n1]; exact stp_lt hm _ (by omega)) (by rw [n1]; omega) (fun h2 f2 => ?_) _ 0 h1 rfl (Nat.zero_le _) Fr.rfl
    · exact this
    · have nx := ih (k + 1) h2 (by omega) (by omega) (hf.trans f2)
      rw [n1, ec]
      exact nx
theorem m_cries {N : Nat} {C : Int → aH → Prop} {h : aH} {v x : Int} (P : PI h) (R : RelH h) (Q : RelP h) (hv : 1 ≤ v ∧ v ≤ 12) : ∀ (d i m : Nat) (h1 : aH), Fr [159, 160] [81] h h1 → h1 130 81 = (i : Int) → m < 2 ^ NSL h → NSL h ≤ BTS m (NSL h) + d → i + d ≤ 12 →
    (∀ h', Fr [159, 160] [81] h h' → h' 130 81 = ((fin (STEP h v (THR x)) d m).2 + i : Nat) → C ((fin (STEP h v (THR x)) d m).1 : Nat) h') → WI N 340 10 [(0, .inr (.inr 130)), (2, .inl v), (3, .inl x), (4, .inl (m : Int)), (5, .inl 1)] h1 C := by
  intro d
  induction d with
  | zero =>
    intro i m h1 hf hi hm hb hid hC
    have kp := hf.kp (by decide)
    have n1 : NSL h1 = NSL h := by unfold NSL; rw [kp.at 16 (by decide)]
    have e : STEP h v (THR x) m = m := bts_full hm (by omega) _ (STEP_lt hm) (fun t => STEP_sup)
    have e' : STEP h1 v (THR x) m = m := by rw [STEP_kp kp]; exact e
    refine w_340_10 ⟨fun z => absurd z (by decide), fun _ => ?_⟩
    refine m_min (kp.pi P) (R.mv hf (by decide) (by decide) (by decide)) (Q.keep kp hf (by decide) (by decide)) hv (by rw [n1]; exact hm) (by omega) (fun _ h2 f2 => w_340_10 ⟨fun _ => hC h2 (hf.trans (f2.mono (by decide) (by decide))) ?_, fun z => absurd rfl z⟩) (fun z => absurd e' z) _ 0 h1 rfl (Nat.zero_le _) Fr.rfl
    rw [f2.2 81 (by decide), hi]
    show (i : Int) = ((0 + i : Nat) : Int)
    omega
  | succ d ih =>
    intro i m h1 hf hi hm hb hid hC
    have kp := hf.kp (by decide)
    have n1 : NSL h1 = NSL h := by unfold NSL; rw [kp.at 16 (by decide)]
    have es : STEP h1 v (THR x) m = STEP h v (THR x) m := by rw [STEP_kp kp]
    refine w_340_10 ⟨fun z => absurd z (by decide), fun _ => ?_⟩
    refine m_min (kp.pi P) (R.mv hf (by decide) (by decide) (by decide)) (Q.keep kp hf (by decide) (by decide)) hv (by rw [n1]; exact hm) (by omega) (fun e h2 f2 => w_340_10 ⟨fun _ => ?_, fun z => absurd rfl z⟩) (fun z h2 f2 g2 => ?_) _ 0 h1 rfl (Nat.zero_le _) Fr.rfl
    · rw [es] at e
      have := hC h2 (hf.trans (f2.mono (by decide) (by decide)))
      rw [fin_eq e] at this
      refine this ?_
      rw [f2.2 81 (by decide), hi]
      show (i : Int) = ((0 + i : Nat) : Int)
      omega
    · rw [es] at z ⊢
      have lt := bts_lt hm (STEP_lt (v := v) (thr := THR x) hm) (fun t => STEP_sup) z
      refine ih (i + 1) (STEP h v (THR x) m) h2 (hf.trans f2) (by rw [g2, hi]; omega) (STEP_lt hm) (by omega) (by omega) (fun h3 f3 e3 => ?_)
      have := hC h3 f3
      rw [fin_ne z] at this
      refine this ?_
      rw [e3]
      show (((fin (STEP h v (THR x)) d (STEP h v (THR x) m)).2 + (i + 1) : Nat) : Int) = (((fin (STEP h v (THR x)) d (STEP h v (THR x) m)).2 + 1 + i : Nat) : Int)
      omega
theorem m_cries0 {N : Nat} {C : Int → aH → Prop} {h : aH} {s : Nat} {v x : Int} (P : PI h) (R : RelH h) (Q : RelP h) (hs : s < NSL h) (hv : 1 ≤ v ∧ v ≤ 12)
    (hC : ∀ h', Fr [159, 160] [81] h h' → h' 130 81 = ((fin (STEP h v (THR x)) 12 (2 ^ s)).2 : Nat) → C ((fin (STEP h v (THR x)) 12 (2 ^ s)).1 : Nat) h') : WI N 340 0 [(0, .inr (.inr 130)), (1, .inl (s : Int)), (2, .inl v), (3, .inl x)] h C := by
  obtain ⟨g1, g2, g3⟩ := m_nsl P R
  have := bts_one hs
  refine w_340_0 ?_
  rw [bt_shl (show s < 31 by omega)]
  exact m_cries P R Q hv 12 0 (2 ^ s) _ (Fr.rfl.upM (by decide)) (up_same _ _ _ _) (two_lt hs) (by omega) (by decide) hC
theorem m_reaches {N : Nat} {C : Int → aH → Prop} {h : aH} {s v x : Int} (P : PI h) (R : RelH h) (Q : RelP h) (hC : ∀ h', Fr [159, 160] [81] h h' → C (vReach h s v x) h') : WI N 341 0 [(0, .inr (.inr 130)), (1, .inl s), (2, .inl v), (3, .inl x)] h C := by
  have hz := P.1.1
  unfold okSz at hz
  unfold vReach at hC
  refine w_341_0 (m_isSleeper P.1 R (fun q1 => z1 (m_isLoud (fun q2 => z1 ?_) (fun q => z0 ?_))) (fun q => z0 ?_))
  · rw [if_pos ⟨q1, q2⟩] at hC
    obtain ⟨s, rfl⟩ := Int.eq_ofNat_of_zero_le q1.1
    simp only [Int.toNat_natCast] at hC
    exact m_cries0 P R Q (by unfold NSL; omega) q2 (fun h' f _ => hC h' f)
  · rw [if_neg (fun z => q z.2)] at hC
    exact hC h Fr.rfl
  · rw [if_neg (fun z => q z.1)] at hC
    exact hC h Fr.rfl
theorem m_fire {N : Nat} {C : Int → aH → Prop} {h : aH} {s v x : Int} (P : PI h) (R : RelH h) (Q : RelP h) (hC : ∀ h', Fr [159, 160] [81] h h' → C (vFire h s v x) h') : WI N 339 0 [(0, .inr (.inr 130)), (1, .inl s), (2, .inl v), (3, .inl x)] h C := by
  have hz := P.1.1
  unfold okSz at hz
  unfold vFire at hC
  refine w_339_0 (m_isSleeper P.1 R (fun q1 => z1 (m_isLoud (fun q2 => y1 ?_) (fun q => y0 ?_))) (fun q => z0 ?_))
  · rw [if_pos ⟨q1, q2⟩] at hC
    obtain ⟨s, rfl⟩ := Int.eq_ofNat_of_zero_le q1.1
    simp only [Int.toNat_natCast] at hC
    refine m_cries0 P R Q (by unfold NSL; omega) q2 (fun h' f e => ?_)
    have kp := f.kp (by decide)
    have n1 : NSL h' = NSL h := by unfold NSL; rw [kp.at 16 (by decide)]
    obtain ⟨g1, g2, g3⟩ := m_nsl (kp.pi P) (R.mv f (by decide) (by decide) (by decide))
    have h12 := two_le (n := NSL h) (m := 12) (by omega)
    have e12 : (2 : Nat) ^ 12 = 4096 := by decide
    have hp : 0 < 2 ^ NSL h := Nat.pow_pos (by decide)
    refine ck_ix (by omega) ?_
    rw [g2, n1, bt_shl (show NSL h < 31 by omega), show ((2 ^ NSL h : Nat) : Int) - 1 = (FLn h : Int) by unfold FLn; omega]
    have hl : FLn h < 4096 := by unfold FLn; omega
    have key := hC h' f
    refine ck_rg (by omega) ⟨fun z => ?_, fun z => ?_⟩
    · rw [if_neg (fun q => z (by rw [q]))] at key
      exact key
    · rw [if_pos (by have := Decidable.not_not.mp z; omega)] at key
      rw [e]
      exact key
  · rw [if_neg (fun z => q z.2)] at hC
    exact hC h Fr.rfl
  · rw [if_neg (fun z => q z.1)] at hC
    exact hC h Fr.rfl
