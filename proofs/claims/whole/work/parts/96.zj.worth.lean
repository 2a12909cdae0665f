/-! WORTH, WHOSE -/
/-- what one costs, lying there, with that wool -/
def SBW (h : aH) (s : Nat) (l w : Int) : Int := SHV h s (MTS h (-1) (CNT h (-1))) (fun j => HRD h s l w (NUM h (-1) (CNT h (-1)) j)) (CNT h (-1))
theorem SBW_bd {h : aH} (P : PI h) {s : Nat} (hs : (s : Int) < h 16 16) (l w : Int) : 0 ≤ SBW h s l w ∧ SBW h s l w ≤ 90000000000000000 := by
  have hp := p100_8 (CNT_le P.2.2.1 (-1))
  have := SHV_bd P.1 hs (mt := MTS h (-1) (CNT h (-1))) (hr := fun j => HRD h s l w (NUM h (-1) (CNT h (-1)) j)) (CNT_le P.2.2.1 (-1)) (fun j _ => HRD_rg _ _ _ _ _)
  unfold SBW
  omega
theorem SBW_kp {h h' : aH} (kp : Kp h h') : SBW h' = SBW h := by
  funext s l w
  unfold SBW
  rw [kp.shv, kp.mts, kp.cnt, kp.num, kp.hrd]
theorem c_lisF {N : Nat} {C : aH → Prop} {h h1 : aH} {s : Nat} {l w : Int} (P : PI h) (hs : (s : Int) < h 16 16) (hl : 0 ≤ l ∧ l < h 16 14) (G : NGT h h1) (hC : ∀ h', NGT h h' → Fr SN [] h1 h' → (∀ j, j < CNT h (-1) → h' 95 j = HRD h s l w (NUM h (-1) (CNT h (-1)) j)) → C h') : WV N 109 0 [(0, .inr (.inr 92)), (1, .inl (s : Int)), (2, .inl l), (3, .inl w)] h1 C := by
  obtain ⟨hf, hsc, ha⟩ := G
  have kp := hf.kp (by decide)
  refine c_listenFrom (c := CNT h (-1)) (num := NUM h (-1) (CNT h (-1))) (kp.pi P) hsc.2 (CNT_le P.2.2.1 _) ha.1 (fun j hj => ⟨(ha.2 j hj).1, by rw [kp.at 58 (by decide)]; exact NUM_lt P.2.2.1 hj⟩) ⟨by omega, by rw [kp.at 16 (by decide)]; exact hs⟩ (by rw [kp.at 16 (by decide)]; exact hl) (fun h2 hf2 h62 e2 => ?_)
  refine hC h2 ⟨hf.trans (hf2.mono (by decide) (by decide)), ⟨hf2.dz (by decide) (by decide) (by decide) hsc.1, h62⟩, ha.keep (hf2.at 92 (by decide) (by decide)) (hf2.at 93 (by decide) (by decide)) (hf2.at 94 (by decide) (by decide))⟩ (hf2.mono (by decide) (by decide)) (fun j hj => ?_)
  rw [e2 j hj, kp.hrd]
theorem c_shr {N : Nat} {C : Int → aH → Prop} {h h1 : aH} {s : Nat} {l w : Int} (P : PI h) (hs : (s : Int) < h 16 16) (G : NGT h h1) (L : ∀ j, j < CNT h (-1) → h1 95 j = HRD h s l w (NUM h (-1) (CNT h (-1)) j)) (hC : ∀ h', NGT h h' → Fr SN [] h1 h' → C (SBW h s l w) h') : WL N 116 0 [(0, .inr (.inr 92)), (1, .inl (s : Int))] h1 C := by
  obtain ⟨hf, hsc, ha⟩ := G
  have kp := hf.kp (by decide)
  refine c_share (c := CNT h (-1)) (mt := MTS h (-1) (CNT h (-1))) (hr := fun j => HRD h s l w (NUM h (-1) (CNT h (-1)) j)) (kp.pi P) hsc.1 (by rw [kp.at 16 (by decide)]; exact hs) (CNT_le P.2.2.1 _) ha.1 (fun j hj => ⟨(ha.2 j hj).2, L j hj, HRD_rg _ _ _ _ _, MTS_rg P.2.2.1 hj⟩) (MTS_srt h (-1) _) (fun h3 hf3 hdz3 => ?_)
  rw [kp.shv]
  exact hC h3 ⟨hf.trans (hf3.mono (by decide) (by decide)), ⟨hdz3, by rw [hf3.at 28 (by decide) (by decide)]; exact hsc.2⟩, ha.keep (hf3.at 92 (by decide) (by decide)) (hf3.at 93 (by decide) (by decide)) (hf3.at 94 (by decide) (by decide))⟩ (hf3.mono (by decide) (by decide))
/-- WORTH -/
def WTH (h : aH) (s : Nat) : Int := SBW h s (h 63 s) 0 - SBW h s (h 63 s) 1
theorem WTH_kp {h h' : aH} (kp : Kp h h') : WTH h' = WTH h := by
  funext s
  unfold WTH
  rw [SBW_kp kp, kp.at 63 (by decide)]
theorem WTH_bd {h : aH} (P : PI h) {s : Nat} (hs : (s : Int) < h 16 16) : -90000000000000000 ≤ WTH h s ∧ WTH h s ≤ 90000000000000000 := by
  have h0 := SBW_bd P hs (h 63 s) 0
  have h1 := SBW_bd P hs (h 63 s) 1
  unfold WTH
  omega
theorem c_wow {N : Nat} {C : Int → aH → Prop} {h h1 : aH} {s : Nat} (P : PI h) (hs : (s : Int) < h 16 16) (G : NGT h h1) (hC : ∀ h', NGT h h' → Fr SN [] h1 h' → C (WTH h s) h') : WL N 170 0 [(0, .inr (.inr 92)), (1, .inl (s : Int))] h1 C := by
  have hz := P.1.1
  unfold okSz at hz
  have hl := P.2.1.1 s hs
  have kp := G.1.kp (by decide)
  refine w_170_0 ?_
  (repeat first | refine ck_ix (by omega) ?_ | refine ck_rg (by omega) ?_ | refine ck_rl (by omega) ?_)
  rw [Int.toNat_natCast, kp.at 63 (by decide)]
  refine c_lisF P hs ⟨hl.1, hl.2.1⟩ G (fun h2 G2 f2 L2 => c_shr P hs G2 L2 (fun h3 G3 f3 => ?_))
  (repeat first | refine ck_ix (by omega) ?_ | refine ck_rg (by omega) ?_ | refine ck_rl (by omega) ?_)
  rw [G3.1.at 63 (by decide) (by decide)]
  refine c_lisF P hs ⟨hl.1, hl.2.1⟩ G3 (fun h4 G4 f4 L4 => c_shr P hs G4 L4 (fun h5 G5 f5 => ?_))
  have b := WTH_bd P hs
  unfold WTH at b
  exact ck_rl (by omega) (hC h5 G5 (((f2.trans f3).trans f4).trans f5))
def vWorth (h : aH) (s : Int) : Int := if 0 ≤ s ∧ s < h 16 16 then WTH h s.toNat else -1000000000000000000
theorem c_worth {N : Nat} {C : Int → aH → Prop} {h : aH} {s : Int} (P : PI h) (hs : scr h) (hC : ∀ h', Fr SNX [] h h' → scr h' → C (vWorth h s) h') : WL N 169 0 [(0, .inr (.inr 9)), (1, .inl s)] h C := by
  unfold vWorth at hC
  refine w_169_0 (c_isSleeper (fun hin => y1 ?_) (fun hout => y0 ?_))
  · rw [if_pos hin] at hC
    obtain ⟨s, rfl⟩ := Int.eq_ofNat_of_zero_le hin.1
    rw [Int.toNat_natCast] at hC
    exact c_night P hs (fun h1 G => c_wow P hin.2 G (fun h2 G2 _ => hC h2 G2.1 G2.2.1))
  · rw [if_neg hout] at hC; exact hC h Fr.rfl hs
theorem SHP_sbw (h : aH) (bd wl : Nat → Int) (s : Nat) : SHP h (h 58 10).toNat (h 59) (h 60) (h 61) (h 62) bd wl s = SBW h s (bd s) (wl s) := by
  have e1 : MTS h (-1) (h 58 10).toNat = (fun j => h 60 (ordI (h 60) (h 58 10).toNat j)) := by funext j; unfold MTS; rw [NUM_all]
  have e2 : (fun j => HRD h s (bd s) (wl s) (NUM h (-1) (h 58 10).toNat j)) = (fun j => HRP h (h 59) (h 60) (h 61) (h 62) s (bd s) (wl s) (ordI (h 60) (h 58 10).toNat j)) := by funext j; rw [NUM_all]; rfl
  unfold SHP SBW
  rw [CNT_all, e1, e2]
theorem COSTP_sbw (h : aH) (bd wl : Nat → Int) : COSTP h (h 58 10).toNat (h 59) (h 60) (h 61) (h 62) bd wl = sumN (fun s => SBW h s (bd s) (wl s)) (NSL h) := by
  unfold COSTP NSL
  exact sumN_congr (fun j _ => SHP_sbw h bd wl j)
theorem sumN_one {f g : Nat → Int} {s : Nat} : ∀ {n : Nat}, s < n → (∀ j, j < n → j ≠ s → f j = g j) → sumN f n - sumN g n = f s - g s
  | 0, h, _ => absurd h (Nat.not_lt_zero s)
  | n + 1, h, e => by
    rcases Nat.eq_or_lt_of_le (Nat.le_of_lt_succ h) with q | q
    · subst q
      have : sumN f s = sumN g s := sumN_congr (fun j hj => e j (by omega) (by omega))
      show sumN f s + f s - (sumN g s + g s) = _
      omega
    · have ih := sumN_one (n := n) q (fun j hj hne => e j (by omega) hne)
      have := e n (by omega) (by omega)
      show sumN f n + f n - (sumN g n + g n) = _
      omega
/-- the reference's COST of the plan that is there, of any beds and wool -/
def CSB (h : aH) (bd wl : Nat → Int) : Int := sumN (fun s => SBW h s (bd s) (wl s)) (NSL h)
theorem CSB_kp {h h' : aH} (kp : Kp h h') : CSB h' = CSB h := by
  funext bd wl
  unfold CSB NSL
  rw [SBW_kp kp, kp.at 16 (by decide)]
theorem CSB_bd {h : aH} (P : PI h) (bd wl : Nat → Int) : 0 ≤ CSB h bd wl ∧ CSB h bd wl ≤ 1080000000000000000 := by
  have hz := P.1.1
  unfold okSz at hz
  have := sumN_bd (f := fun s => SBW h s (bd s) (wl s)) (B := 90000000000000000) (by omega) (n := NSL h) (fun j hj => SBW_bd P (by unfold NSL at hj; omega) _ _)
  have n12 : NSL h ≤ 12 := by unfold NSL; omega
  unfold CSB
  omega
theorem m_csb {N : Nat} {C : Int → aH → Prop} {h : aH} {bd wl : Nat → Int} (P : PI h) (R : RelH h) (M : MPL h (h 58 10).toNat (h 59) (h 60) (h 61) (h 62)) (S : MSL h bd wl) (hC : ∀ h', Fr [159, 160, 167] [] h h' → C (CSB h bd wl) h') : WL N 289 0 [(0, .inr (.inr 130))] h C := by
  unfold CSB at hC
  rw [← COSTP_sbw] at hC
  exact m_costNow P R M P.2.2.1.okp S hC
theorem m_worthOf {N : Nat} {C : Int → aH → Prop} {h : aH} {s : Nat} (P : PI h) (R : RelH h) (Q : RelP h) (hs : (s : Int) < h 16 16) (hC : ∀ h', Fr [159, 160, 167] [] h h' → C (WTH h s) h') : WL N 322 0 [(0, .inr (.inr 130)), (1, .inl (s : Int))] h C := by
  have hz := P.1.1
  unfold okSz at hz
  have M := Q.mpl P.2.2.1
  have S := Q.msl P.2.1
  have hl := P.2.1.1 s hs
  have stp : ∀ (x : Int) (h1 : aH) (K : Int → aH → Prop), (x = 0 ∨ x = 1) → Fr [159, 160, 162, 167] [] h h1 → (∀ j, j ≠ s → h1 162 j = h 162 j) → (∀ h', Fr [159, 160, 162, 167] [] h h' → (∀ j, h' 162 j = if j = s then x else h 162 j) → K (CSB h (h 63) (fun t => if t = s then x else WOF h t)) h') → WL N 289 0 [(0, .inr (.inr 130))] (am_up h1 162 s x) K := by
    intro x h1 K hx f1 hw hK
    have f2 : Fr [159, 160, 162, 167] [] h (am_up h1 162 s x) := f1.up (by decide) (by decide)
    have kp := f2.kp (by decide)
    refine m_csb (bd := h 63) (wl := fun t => if t = s then x else WOF h t) (kp.pi P) (R.mv f2 (by decide) (by decide) (by decide)) ?_ ?_ (fun h3 f3 => ?_)
    · rw [kp.at 58 (by decide), kp.at 59 (by decide), kp.at 60 (by decide), kp.at 61 (by decide), kp.at 62 (by decide)]
      exact M.keep f2 (by decide) (by decide) (by decide) (by decide) (by decide)
    · intro t ht
      rw [kp.at 16 (by decide)] at ht ⊢
      obtain ⟨a1, a2, a3, a4⟩ := S t ht
      rw [f2.at 161 (by decide) (by decide), up_in]
      by_cases e : t = s
      · dsimp only
        rw [if_pos e, if_pos e]
        exact ⟨a1, rfl, a3, hx⟩
      · dsimp only
        rw [if_neg e, if_neg e, hw t e]
        exact ⟨a1, a2, a3, a4⟩
    · rw [CSB_kp kp]
      refine hK h3 (f2.trans (f3.mono (by decide) (by decide))) (fun j => ?_)
      rw [f3.at 162 (by decide) (by decide), up_in]
      by_cases e : j = s
      · rw [if_pos e, if_pos e]
      · rw [if_neg e, if_neg e, hw j e]
  refine w_322_0 ?_
  (repeat first | refine ck_ix (by omega) ?_ | refine ck_rg (by omega) ?_ | refine ck_rl (by omega) ?_)
  rw [Int.toNat_natCast]
  refine ck_t0 (stp 0 h _ (Or.inl rfl) Fr.rfl (fun j _ => rfl) (fun h1 f1 w1 => ?_))
  (repeat first | refine ck_ix (by omega) ?_ | refine ck_rg (by omega) ?_ | refine ck_rl (by omega) ?_)
  refine ck_t1 (stp 1 h1 _ (Or.inr rfl) f1 (fun j hj => by rw [w1, if_neg hj]) (fun h2 f2 w2 => ?_))
  have e : CSB h (h 63) (fun t => if t = s then 0 else WOF h t) - CSB h (h 63) (fun t => if t = s then 1 else WOF h t) = WTH h s := by
    unfold CSB
    rw [sumN_one (s := s) (by unfold NSL; omega) (fun j _ hj => by dsimp only; rw [if_neg hj, if_neg hj])]
    dsimp only
    rw [if_pos rfl, if_pos rfl]
    rfl
  have b := WTH_bd P hs
  rw [e]
  have tf : am_tf (h 162 s) := by rw [(Q.2.2 s hs).2]; exact WOF_tf h s
  refine ck_ix (by omega) ⟨tf, ck_rl (by omega) (hC _ ⟨fun r h0 hr => ?_, fun j hj => ?_⟩)⟩
  · by_cases e2 : r = 162
    · subst e2
      funext j
      rw [up_in, w2]
      by_cases e3 : j = s
      · rw [if_pos e3, e3]
      · rw [if_neg e3, if_neg e3]
    · rw [up_row e2]
      exact f2.1 r h0 (fun z => hr (by simp at z ⊢; omega))
  · rw [up_row (by decide)]
    exact f2.2 j hj
theorem m_worth {N : Nat} {C : Int → aH → Prop} {h : aH} {s : Int} (P : PI h) (R : RelH h) (Q : RelP h) (hC : ∀ h', Fr [159, 160, 167] [] h h' → C (vWorth h s) h') : WL N 321 0 [(0, .inr (.inr 130)), (1, .inl s)] h C := by
  unfold vWorth at hC
  refine w_321_0 (m_isSleeper P.1 R (fun hin => z1 ?_) (fun hout => z0 ?_))
  · rw [if_pos hin] at hC
    obtain ⟨s, rfl⟩ := Int.eq_ofNat_of_zero_le hin.1
    exact m_worthOf P R Q hin.2 hC
  · rw [if_neg hout] at hC; exact hC h Fr.rfl
/-- the first of the greatest above 0 -/
def mst (f : Nat → Int) : Nat → Int × Int
  | 0 => (-1, 0)
  | n + 1 => if (mst f n).2 < f n then ((n : Int), f n) else mst f n
theorem mst_s (f : Nat → Int) (n : Nat) : mst f (n + 1) = if (mst f n).2 < f n then ((n : Int), f n) else mst f n := rfl
theorem mst_rg (f : Nat → Int) : ∀ n, ((mst f n).1 = -1 ∧ (mst f n).2 = 0) ∨ (∃ k, k < n ∧ (mst f n).1 = (k : Nat) ∧ (mst f n).2 = f k ∧ 0 < f k)
  | 0 => Or.inl ⟨rfl, rfl⟩
  | n + 1 => by
    have ih := mst_rg f n
    rw [mst_s]
    by_cases c : (mst f n).2 < f n
    · rw [if_pos c]
      refine Or.inr ⟨n, by omega, rfl, rfl, ?_⟩
      rcases ih with ⟨_, z⟩ | ⟨k, _, _, z1, z2⟩ <;> omega
    · rw [if_neg c]
      rcases ih with z | ⟨k, k1, z⟩
      · exact Or.inl z
      · exact Or.inr ⟨k, by omega, z⟩
/-- WORTHs of those not yet told -/
def WTM (h : aH) (m s : Nat) : Int := if m.testBit s then 0 else WTH h s
def WPK (h : aH) (m : Nat) : Nat := if (mst (WTM h m) (NSL h)).1 = -1 then m else m ||| 2 ^ (mst (WTM h m) (NSL h)).1.toNat
def WHS (h : aH) : Nat → Nat → Nat
  | 0, m => m
  | d + 1, m => WHS h d (WPK h m)
theorem WHS_fix {h : aH} {m : Nat} (e : WPK h m = m) : ∀ d, WHS h d m = m
  | 0 => rfl
  | d + 1 => by unfold WHS; rw [e]; exact WHS_fix e d
def vWhose (h : aH) (w : Int) : Int := if 0 ≤ w ∧ w ≤ 12 then (WHS h w.toNat 0 : Nat) else -1
theorem WPK_lt {h : aH} {m : Nat} (hm : m < 2 ^ NSL h) : WPK h m < 2 ^ NSL h := by
  unfold WPK
  split
  · exact hm
  · rename_i q
    rcases mst_rg (WTM h m) (NSL h) with z | ⟨k, k1, z, _⟩
    · exact absurd z.1 q
    · rw [z, Int.toNat_natCast]
      exact Nat.or_lt_two_pow hm (two_lt k1)
theorem NGT.wr {h h1 : aH} (G : NGT h h1) {r k : Nat} {v : Int} (hr : r ∈ [101, 127, 128, 129]) : NGT h (am_up h1 r k v) := by
  obtain ⟨hf, hsc, ha⟩ := G
  have f : Fr [101, 127, 128, 129] [] h1 (am_up h1 r k v) := Fr.rfl.up hr (fun z => by rw [z] at hr; exact absurd hr (by decide))
  exact ⟨hf.trans (f.mono (by decide) (by decide)), ⟨f.dz (by decide) (by decide) (by decide) hsc.1, by rw [f.at 28 (by decide) (by decide)]; exact hsc.2⟩, ha.keep (f.at 92 (by decide) (by decide)) (f.at 93 (by decide) (by decide)) (f.at 94 (by decide) (by decide))⟩
theorem c_wtl {N : Nat} {C : Int → aH → Prop} {h : aH} {w : Nat} (P : PI h) (hC : ∀ h', NGT h h' → (∀ i, i < NSL h → h' 101 i = WTH h i) → WI N 172 25 [(0, .inr (.inr 92)), (1, .inl (w : Int)), (2, .inl 0), (3, .inl 0)] h' C) : ∀ (e k : Nat) (h1 : aH), e = NSL h - k → k ≤ NSL h → NGT h h1 →
    (∀ i, i < k → h1 101 i = WTH h i) → WI N 172 6 [(0, .inr (.inr 92)), (1, .inl (w : Int)), (2, .inl (k : Int))] h1 C := by
  have hz := P.1.1
  unfold okSz at hz
  have n12 : NSL h ≤ 12 := by unfold NSL; omega
  have en : h 16 16 = (NSL h : Int) := by unfold NSL; omega
  intro e
  induction e with
  | zero =>
    intro k h1 he hk G hw
    have : k = NSL h := by omega
    subst this
    refine w_172_6 ?_
    rw [G.1.at 16 (by decide) (by decide), en]
    exact ⟨fun _ => hC h1 G hw, fun z => absurd (Int.le_refl _) z⟩
  | succ e ih =>
    intro k h1 he hk G hw
    refine w_172_6 ?_
    rw [G.1.at 16 (by decide) (by decide), en]
    refine ⟨fun z => by omega, fun _ => c_wow P (by omega) G (fun h2 G2 f2 => ?_)⟩
    (repeat first | refine ck_ix (by omega) ?_ | refine ck_rg (by omega) ?_ | refine ck_rl (by omega) ?_)
    rw [Int.toNat_natCast]
    refine ih (k + 1) _ (by omega) (by omega) (G2.wr (by decide)) (fun i hi => ?_)
    rw [up_in]
    by_cases q : i = k
    · rw [if_pos q, q]
    · rw [if_neg q, f2.at 101 (by decide) (by decide)]
      exact hw i (by omega)
/-- the rows of worths, those told already 0 -/
def WRO (h h1 : aH) (m : Nat) : Prop := ∀ i, i < NSL h → h1 101 i = WTM h m i
theorem WTM_bd {h : aH} (P : PI h) (m : Nat) {s : Nat} (hs : s < NSL h) : -90000000000000000 ≤ WTM h m s ∧ WTM h m s ≤ 90000000000000000 := by
  have hz := P.1.1
  unfold okSz at hz
  have := WTH_bd P (s := s) (by unfold NSL at hs; omega)
  unfold WTM
  split <;> omega
theorem c_wpk {N : Nat} {C : Int → aH → Prop} {h : aH} {w m n : Nat} (P : PI h) (hm : m < 2 ^ NSL h) (hn : n < 12)
    (hC1 : WPK h m = m → ∀ h', NGT h h' → C (m : Int) h') (hC2 : ∀ h', NGT h h' → WRO h h' (WPK h m) → WI N 172 25 [(0, .inr (.inr 92)), (1, .inl (w : Int)), (2, .inl (WPK h m : Nat)), (3, .inl ((n : Int) + 1))] h' C) : ∀ (e k : Nat) (h1 : aH), e = NSL h - k → k ≤ NSL h → NGT h h1 → WRO h h1 m →
    WI N 172 33 [(0, .inr (.inr 92)), (1, .inl (w : Int)), (2, .inl (m : Int)), (3, .inl (n : Int)), (4, .inl (mst (WTM h m) k).1), (5, .inl (k : Int))] h1 C := by
  have hz := P.1.1
  unfold okSz at hz
  have n12 : NSL h ≤ 12 := by unfold NSL; omega
  have en : h 16 16 = (NSL h : Int) := by unfold NSL; omega
  intro e
  induction e with
  | zero =>
    intro k h1 he hk G hw
    have : k = NSL h := by omega
    subst this
    have key := hC2
    unfold WPK at key hC1
    refine w_172_33 ?_
    rw [G.1.at 16 (by decide) (by decide), en]
    refine ⟨fun _ => ?_, fun z => absurd (Int.le_refl _) z⟩
    rcases mst_rg (WTM h m) (NSL h) with ⟨q, _⟩ | ⟨b, b1, q, b2, b3⟩
    · rw [if_pos q] at hC1
      rw [q]
      exact ⟨fun z => absurd rfl z, fun _ => hC1 rfl h1 G⟩
    · rw [q] at key ⊢
      rw [if_neg (show ¬ ((b : Int) = -1) by omega)] at key
      refine ⟨fun _ => ?_, fun z => absurd (show ¬ ((b : Int) = -1) by omega) z⟩
      (repeat first | refine ck_ix (by omega) ?_ | refine ck_rg (by omega) ?_ | refine ck_rl (by omega) ?_)
      rw [bt_shl (show b < 31 by omega), bt_or (m31 n12 hm) (m31 n12 (two_lt b1))]
      rw [Int.toNat_natCast] at key ⊢
      refine key _ (G.wr (by decide)) (fun i hi => ?_)
      rw [up_in]
      unfold WTM
      rw [Nat.testBit_or, tb_two]
      by_cases q2 : i = b
      · rw [if_pos q2, q2, decide_eq_true rfl, Bool.or_true]; rfl
      · rw [if_neg q2, decide_eq_false (show ¬ b = i by omega), Bool.or_false]
        exact hw i hi
  | succ e ih =>
    intro k h1 he hk G hw
    have nx := ih (k + 1) h1 (by omega) (by omega) G hw
    rw [mst_s] at nx
    have hk2 := hw k (by omega)
    have hb := WTM_bd P m (show k < NSL h by omega)
    refine w_172_33 ?_
    rw [G.1.at 16 (by decide) (by decide), en]
    refine ⟨fun z => by omega, fun _ => ?_⟩
    (repeat first | refine ck_ix (by omega) ?_ | refine ck_rg (by omega) ?_ | refine ck_rl (by omega) ?_)
    rw [Int.toNat_natCast, hk2]
    simp only [sgn_le]
    rcases mst_rg (WTM h m) k with ⟨q, q2⟩ | ⟨b, b1, q, b2, b3⟩
    · rw [q]
      rw [q2] at nx
      refine ⟨fun z => ?_, fun z => ⟨fun _ => ?_, fun z2 => absurd rfl z2⟩⟩
      · (repeat first | refine ck_ix (by omega) ?_ | refine ck_rg (by omega) ?_ | refine ck_rl (by omega) ?_)
        rw [if_neg (by omega), q] at nx
        exact nx
      · (repeat first | refine ck_ix (by omega) ?_ | refine ck_rg (by omega) ?_ | refine ck_rl (by omega) ?_)
        rw [if_pos (by omega)] at nx
        exact nx
    · rw [b2] at nx
      rw [q]
      have hb2 := WTM_bd P m (show b < NSL h by omega)
      refine ⟨fun z => ?_, fun z => ⟨fun z2 => by omega, fun z2 => ?_⟩⟩
      · (repeat first | refine ck_ix (by omega) ?_ | refine ck_rg (by omega) ?_ | refine ck_rl (by omega) ?_)
        rw [if_neg (by omega), q] at nx
        exact nx
      · (repeat first | refine ck_ix (by omega) ?_ | refine ck_rg (by omega) ?_ | refine ck_rl (by omega) ?_)
        rw [Int.toNat_natCast, hw b (by omega)]
        refine ⟨fun z3 => ?_, fun z3 => ?_⟩
        · (repeat first | refine ck_ix (by omega) ?_ | refine ck_rg (by omega) ?_ | refine ck_rl (by omega) ?_)
          rw [if_neg (by omega), q] at nx
          exact nx
        · (repeat first | refine ck_ix (by omega) ?_ | refine ck_rg (by omega) ?_ | refine ck_rl (by omega) ?_)
          rw [if_pos (by omega)] at nx
          exact nx
theorem c_whl {N : Nat} {C : Int → aH → Prop} {h : aH} {w : Nat} (P : PI h) (hw : w ≤ 12) : ∀ (e n m : Nat) (h1 : aH), e = w - n → n ≤ w → m < 2 ^ NSL h → NGT h h1 → WRO h h1 m → (∀ h', NGT h h' → C (WHS h (w - n) m : Nat) h') →
    WI N 172 25 [(0, .inr (.inr 92)), (1, .inl (w : Int)), (2, .inl (m : Int)), (3, .inl (n : Int))] h1 C := by
  intro e
  induction e with
  | zero =>
    intro n m h1 he hn hm G W hC
    have : n = w := by omega
    subst this
    rw [Nat.sub_self] at hC
    exact w_172_25 ⟨fun _ => hC h1 G, fun z => absurd (Int.le_refl _) z⟩
  | succ e ih =>
    intro n m h1 he hn hm G W hC
    refine w_172_25 ⟨fun z => by omega, fun _ => c_wpk P hm (by omega) (fun q h2 G2 => ?_) (fun h2 G2 W2 => ?_) _ 0 h1 rfl (Nat.zero_le _) G W⟩
    · have := hC h2 G2
      rw [WHS_fix q] at this
      exact this
    · refine ih (n + 1) (WPK h m) h2 (by omega) (by omega) (WPK_lt hm) G2 W2 (fun h3 G3 => ?_)
      have := hC h3 G3
      rw [show w - n = (w - (n + 1)) + 1 by omega] at this
      exact this
theorem c_whose {N : Nat} {C : Int → aH → Prop} {h : aH} {w : Int} (P : PI h) (hs : scr h) (hC : ∀ h', Fr SNX [] h h' → scr h' → C (vWhose h w) h') : WI N 171 0 [(0, .inr (.inr 9)), (1, .inl w)] h C := by
  unfold vWhose at hC
  refine w_171_0 ⟨fun q => ?_, fun q => ⟨fun q2 => ?_, fun q2 => ?_⟩⟩
  · rw [if_neg (by omega)] at hC; exact hC h Fr.rfl hs
  · rw [if_neg (by omega)] at hC; exact hC h Fr.rfl hs
  · rw [if_pos (by omega)] at hC
    obtain ⟨w, rfl⟩ := Int.eq_ofNat_of_zero_le (show 0 ≤ w by omega)
    rw [Int.toNat_natCast] at hC
    refine w_172_0 (c_night P hs (fun h1 G => c_wtl P (fun h2 G2 W2 => ?_) _ 0 h1 rfl (Nat.zero_le _) G (fun i hi => by omega)))
    refine c_whl P (by omega) w 0 0 h2 rfl (Nat.zero_le _) (Nat.pow_pos (by decide)) G2 (fun i hi => ?_) (fun h3 G3 => hC h3 G3.1 G3.2.1)
    rw [W2 i hi]
    unfold WTM
    rw [Nat.zero_testBit]
    rfl
theorem m_wpk {N : Nat} {C : Int → aH → Prop} {h : aH} {w m n : Nat} (P : PI h) (R : RelH h) (Q : RelP h) (hm : m < 2 ^ NSL h) (hn : n < 12)
    (hC2 : ∀ h', Fr [159, 160, 167] [] h h' → WI N 323 12 [(0, .inr (.inr 130)), (1, .inl (w : Int)), (2, .inl (WPK h m : Nat)), (3, .inl ((n : Int) + 1))] h' C) : ∀ (e k : Nat) (h1 : aH), e = NSL h - k → k ≤ NSL h → Fr [159, 160, 167] [] h h1 →
    WI N 323 22 [(0, .inr (.inr 130)), (1, .inl (w : Int)), (2, .inl (m : Int)), (3, .inl (n : Int)), (4, .inl (mst (WTM h m) k).1), (5, .inr (.inl (mst (WTM h m) k).2)), (7, .inl (k : Int))] h1 C := by
  have hz := P.1.1
  unfold okSz at hz
  have n12 : NSL h ≤ 12 := by unfold NSL; omega
  have en : h 16 16 = (NSL h : Int) := by unfold NSL; omega
  intro e
  induction e with
  | zero =>
    intro k h1 he hk hf
    have : k = NSL h := by omega
    subst this
    have kp := hf.kp (by decide)
    have n1 : NSL h1 = NSL h := by unfold NSL; rw [kp.at 16 (by decide)]
    obtain ⟨g1, g2, g3⟩ := m_nsl (kp.pi P) (R.mv hf (by decide) (by decide) (by decide))
    have key := hC2 h1 hf
    unfold WPK at key
    refine w_323_22 (ck_ix (by omega) ?_)
    rw [g2, n1]
    refine ⟨fun _ => ?_, fun z => absurd (Int.le_refl _) z⟩
    rcases mst_rg (WTM h m) (NSL h) with ⟨q, _⟩ | ⟨b, b1, q, b2, b3⟩
    · rw [if_pos q] at key
      rw [q]
      exact ⟨fun _ => ck_rg (by omega) key, fun z => absurd rfl z⟩
    · rw [q] at key ⊢
      rw [if_neg (show ¬ ((b : Int) = -1) by omega), Int.toNat_natCast] at key
      refine ⟨fun z => by omega, fun _ => ck_rg (by omega) ?_⟩
      rw [bt_shl (show b < 31 by omega), bt_or (m31 n12 hm) (m31 n12 (two_lt b1))]
      exact key
  | succ e ih =>
    intro k h1 he hk hf
    have nx := fun h2 => ih (k + 1) h2 (by omega) (by omega)
    rw [mst_s] at nx
    have kp := hf.kp (by decide)
    have n1 : NSL h1 = NSL h := by unfold NSL; rw [kp.at 16 (by decide)]
    have R1 := R.mv hf (by decide) (by decide) (by decide)
    obtain ⟨g1, g2, g3⟩ := m_nsl (kp.pi P) R1
    have z0 : 0 ≤ (mst (WTM h m) k).2 := by rcases mst_rg (WTM h m) k with ⟨_, q⟩ | ⟨_, _, _, q, q2⟩ <;> omega
    refine w_323_22 (ck_ix (by omega) ?_)
    rw [g2, n1, bt_tst (m31 n12 hm) (by omega)]
    refine ⟨fun z => by omega, fun _ => ⟨fun q => ?_, fun q => ?_⟩⟩
    · have q : m.testBit k = false := by
        cases z : m.testBit k
        · rfl
        · exact absurd (if_bit.2.mpr z) q
      have ew : WTM h m k = WTH h k := by unfold WTM; rw [q]; rfl
      rw [ew] at nx
      refine m_worthOf (kp.pi P) R1 (Q.keep kp hf (by decide) (by decide)) (by rw [kp.at 16 (by decide)]; omega) (fun h2 f2 => ?_)
      rw [WTH_kp kp]
      simp only [sgn_gt]
      have nx2 := nx h2 (hf.trans f2)
      refine ⟨fun z => ck_rg (by omega) ?_, fun z => ck_rg (by omega) ?_⟩
      · rw [if_pos (by omega)] at nx2
        exact nx2
      · rw [if_neg (by omega)] at nx2
        exact nx2
    · have q := if_bit.2.mp (Decidable.not_not.mp q)
      have ew : WTM h m k = 0 := by unfold WTM; rw [q]; rfl
      rw [ew, if_neg (by omega)] at nx
      exact ck_rg (by omega) (nx h1 hf)
theorem WHS_kp {h h' : aH} (kp : Kp h h') : WHS h' = WHS h := by
  have e : WPK h' = WPK h := by
    funext m
    unfold WPK WTM NSL
    rw [WTH_kp kp, kp.at 16 (by decide)]
  funext d
  induction d with
  | zero => rfl
  | succ d ih => funext m; unfold WHS; rw [ih, e]
theorem m_whs {N : Nat} {C : Int → aH → Prop} {h : aH} {w : Nat} (P : PI h) (R : RelH h) (Q : RelP h) (hw : w ≤ 12) : ∀ (e n m : Nat) (h1 : aH), e = w - n → n ≤ w → m < 2 ^ NSL h → Fr [159, 160, 167] [] h h1 → (∀ h', Fr [159, 160, 167] [] h h' → C (WHS h (w - n) m : Nat) h') →
    WI N 323 12 [(0, .inr (.inr 130)), (1, .inl (w : Int)), (2, .inl (m : Int)), (3, .inl (n : Int))] h1 C := by
  intro e
  induction e with
  | zero =>
    intro n m h1 he hn hm hf hC
    have : n = w := by omega
    subst this
    rw [Nat.sub_self] at hC
    exact w_323_12 ⟨fun _ => hC h1 hf, fun z => absurd (Int.le_refl _) z⟩
  | succ e ih =>
    intro n m h1 he hn hm hf hC
    refine w_323_12 ⟨fun z => by omega, fun _ => m_wpk P R Q hm (by omega) (fun h2 f2 => ?_) _ 0 h1 rfl (Nat.zero_le _) hf⟩
    refine ih (n + 1) (WPK h m) h2 (by omega) (by omega) (WPK_lt hm) f2 (fun h3 f3 => ?_)
    have := hC h3 f3
    rw [show w - n = (w - (n + 1)) + 1 by omega] at this
    exact this
theorem m_whose {N : Nat} {C : Int → aH → Prop} {h : aH} {w : Int} (P : PI h) (R : RelH h) (Q : RelP h) (hC : ∀ h', Fr [159, 160, 167] [] h h' → C (vWhose h w) h') : WI N 323 0 [(0, .inr (.inr 130)), (1, .inl w)] h C := by
  unfold vWhose at hC
  refine w_323_0 (m_in (fun q => y1 ?_) (fun q => y0 ?_))
  · rw [if_pos q] at hC
    obtain ⟨w, rfl⟩ := Int.eq_ofNat_of_zero_le q.1
    exact m_whs P R Q (by omega) w 0 0 h rfl (Nat.zero_le _) (Nat.pow_pos (by decide)) Fr.rfl hC
  · rw [if_neg q] at hC; exact hC h Fr.rfl
