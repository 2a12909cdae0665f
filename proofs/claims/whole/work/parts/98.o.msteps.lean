/-! read: the reference's small steps -/
def TOKR (K PL : Nat → Nat) (VL : Nat → Int) (h : aH) : Prop := ∀ j, j ≤ 400 → (∀ i, i < j → K i < 31) → h 133 j = KMP (K j) ∧ h 134 j = (PL j : Int) ∧ (K j = 19 → h 135 j = VL j) ∧ (K j = 18 → h 136 j = VL j)
theorem KMP_inj : ∀ a b, a ≤ 32 → b ≤ 32 → KMP a = KMP b → a = b := by
  have : ∀ a, a < 33 → ∀ b, b < 33 → KMP a = KMP b → a = b := by decide +kernel
  exact fun a b ha hb => this a (by omega) b (by omega)
def WNK (h : aH) : Int × Int := (h 130 15, h 130 16)
/-- where the reference stands, E gone through from t on -/
def RFS (K PL : Nat → Nat) (VL : Nat → Int) (t : Nat) (E : List Nat) (h : aH) : Prop := TOKR K PL VL h ∧ (t ≤ 400 ∧ ∀ i, i < t → K i < 31) ∧
  ((FS K E t = none ∧ h 130 13 = 0 ∧ h 130 11 = ((t + E.length : Nat) : Int) ∧ (h 130 15 ≠ 0 → h 130 16 < (PL (t + E.length) : Int))) ∨ ∃ n q, FS K E t = some (n, q) ∧ h 130 13 = (n : Int) ∧ 1 ≤ n ∧ h 130 14 = (PL q : Int))
theorem TOKR.mv {K PL : Nat → Nat} {VL : Nat → Int} {R D : List Nat} {h h' : aH} (T : TOKR K PL VL h) (f : Fr R D h h') (hr : [133, 134, 135, 136].all (fun r => !(R.contains r)) = true) : TOKR K PL VL h' := by
  have k : ∀ r, r ∈ [133, 134, 135, 136] → h' r = h r := by
    intro r hh
    have h1 := List.all_eq_true.mp hr r hh
    refine f.1 r ?_ ?_
    · intro e; subst e; revert hh; decide
    · intro hc
      rw [Bool.not_eq_true', List.contains_eq_mem, decide_eq_false_iff_not] at h1
      exact h1 hc
  unfold TOKR at T ⊢
  rw [k 133 (by decide), k 134 (by decide), k 135 (by decide), k 136 (by decide)]
  exact T
theorem RFS.mv {K PL : Nat → Nat} {VL : Nat → Int} {t : Nat} {E : List Nat} {R D : List Nat} {h h' : aH} (S : RFS K PL VL t E h) (f : Fr R D h h') (hr : [133, 134, 135, 136].all (fun r => !(R.contains r)) = true) (hd : [11, 13, 14, 15, 16].all (fun d => !(D.contains d)) = true) : RFS K PL VL t E h' := by
  have k : ∀ j, j ∈ [11, 13, 14, 15, 16] → h' 130 j = h 130 j := by
    intro j hj
    have h1 := List.all_eq_true.mp hd j hj
    refine f.2 j (fun hc => ?_)
    rw [Bool.not_eq_true', List.contains_eq_mem, decide_eq_false_iff_not] at h1
    exact h1 hc
  obtain ⟨a, b, c⟩ := S
  refine ⟨a.mv f hr, b, ?_⟩
  rw [k 11 (by decide), k 13 (by decide), k 14 (by decide), k 15 (by decide), k 16 (by decide)]
  exact c
theorem WNK_fr {R D : List Nat} {h h' : aH} (f : Fr R D h h') (h15 : 15 ∉ D) (h16 : 16 ∉ D) : WNK h' = WNK h := by
  unfold WNK
  rw [f.2 15 h15, f.2 16 h16]
/-- before the next TOKEN -/
theorem RFS.pre {K PL : Nat → Nat} {VL : Nat → Int} {t : Nat} {E : List Nat} {h : aH} (S : RFS K PL VL t E h) (hE : ∀ k ∈ E, k < 31) (n : FS K E t = none) : (∀ i, i < t + E.length → K i < 31) ∧ t + E.length ≤ 400 := by
  obtain ⟨a, b⟩ := FS_none n
  refine ⟨fun i hi => ?_, b S.2.1.1⟩
  rcases Nat.lt_or_ge i t with y | y
  · exact S.2.1.2 i y
  · have e := a (i - t) (by omega)
    rw [show t + (i - t) = i by omega] at e
    rw [e]
    refine hE _ ?_
    rw [List.getD_eq_getElem?_getD, List.getElem?_eq_getElem (show i - t < E.length by omega)]
    exact List.getElem_mem _
theorem m_isR {N : Nat} {C : Int → aH → Prop} {K PL : Nat → Nat} {VL : Nat → Int} {t k : Nat} {kk : Int} {E : List Nat} {h : aH} (Q : TOKP K PL VL) (S : RFS K PL VL t E h) (hE : ∀ k ∈ E, k < 31) (hk : KMP k = kk ∧ k ≤ 32) (c1 : FS K E t = none → K (t + E.length) = k → C 1 h) (c0 : ¬ (FS K E t = none ∧ K (t + E.length) = k) → C 0 h) : WI N 225 0 [(0, .inr (.inr 130)), (1, .inl kk)] h C := by
  rcases S.2.2 with ⟨n, f0, ht, -⟩ | ⟨m, q, n, fm, m1, -⟩
  · obtain ⟨p1, p2⟩ := S.pre hE n
    obtain ⟨k1, -, -, -⟩ := S.1 _ p2 p1
    refine w_225_0 ?_
    rw [f0, ht, Int.toNat_natCast, k1]
    refine ⟨fun z => absurd rfl z, fun _ => ck_ix (by omega) ⟨fun ne => ck_t0 (c0 (fun z => ne (by rw [z.2]; exact hk.1))), fun eq => ck_t1 (c1 n (KMP_inj _ _ (Q.1 _) hk.2 ?_))⟩⟩
    rw [hk.1]; exact Classical.byContradiction eq
  · refine w_225_0 ?_
    rw [fm]
    exact ⟨fun _ => ck_t0 (c0 (fun z => by rw [z.1] at n; cases n)), fun z => absurd (by omega) z⟩
/-- a fault, if there is none yet -/
theorem m_failR {N : Nat} {C : aH → Prop} {K PL : Nat → Nat} {VL : Nat → Int} {t n : Nat} {E F : List Nat} {h : aH} (S : RFS K PL VL t E h) (hE : ∀ k ∈ E, k < 31) (n1 : 1 ≤ n) (hF : FS K E t = none → FS K (E ++ F) t = some (n, t + E.length)) (hC : ∀ h', Fr [] [13, 14] h h' → RFS K PL VL t (E ++ F) h' → C h') : WV N 227 0 [(0, .inr (.inr 130)), (1, .inl (n : Int))] h C := by
  rcases S.2.2 with ⟨nn, f0, ht, -⟩ | ⟨m, q, nn, fm, m1, fp⟩
  · obtain ⟨p1, p2⟩ := S.pre hE nn
    obtain ⟨-, k2, -, -⟩ := S.1 _ p2 p1
    refine w_227_0 ?_
    rw [f0, ht, Int.toNat_natCast, k2]
    refine ⟨fun _ => ck_ix (by omega) ?_, fun z => absurd (Int.le_refl _) z⟩
    have f : Fr [] [13, 14] h (am_up (am_up h 130 13 (n : Int)) 130 14 (PL (t + E.length) : Int)) := (Fr.rfl.upM (by decide)).upM (by decide)
    refine hC _ f ⟨S.1.mv f (by decide), S.2.1, Or.inr ⟨n, t + E.length, hF nn, ?_, n1, up_same _ _ _ _⟩⟩
    rw [up_ne (by decide), up_same]
  · refine w_227_0 ?_
    rw [fm]
    refine ⟨fun z => by omega, fun _ => hC h Fr.rfl ⟨S.1, S.2.1, Or.inr ⟨m, q, FS_app.2 _ nn, fm, m1, fp⟩⟩⟩
theorem m_goesOnR {N : Nat} {C : aH → Prop} {K PL : Nat → Nat} {VL : Nat → Int} {t k : Nat} {E : List Nat} {h : aH} (Q : TOKP K PL VL) (S : RFS K PL VL t E h) (hE : ∀ k ∈ E, k < 31) (ok : FS K E t = none ∧ K (t + E.length) = k) (k31 : k < 31) (hC : ∀ h', Fr [] [11, 13, 14] h h' → RFS K PL VL t (E ++ [k]) h' → C h') : WV N 229 0 [(0, .inr (.inr 130))] h C := by
  rcases S.2.2 with ⟨nn, f0, ht, wb⟩ | ⟨m, q, nn, fm, m1, fp⟩
  · obtain ⟨p1, p2⟩ := S.pre hE nn
    refine w_229_0 ?_
    rw [ht]
    refine ⟨fun ne => ck_rg (by omega) ?_, fun eq => ?_⟩
    · have f : Fr [] [11] h (am_up h 130 11 (((t + E.length : Nat) : Int) + 1)) := Fr.rfl.upM (by decide)
      refine hC _ (f.mono (by decide) (by decide)) ⟨S.1.mv f (by decide), S.2.1, Or.inl ⟨?_, ?_, ?_, fun z => ?_⟩⟩
      · rw [FS_app.1 nn, FS_3 ok.2 (by omega)]; rfl
      · rw [f.2 13 (by decide)]; exact f0
      · rw [up_same, List.length_append, List.length_singleton]; omega
      · rw [f.2 15 (by decide)] at z
        rw [f.2 16 (by decide)]
        have := wb z
        have pm := Q.2.1 (t + E.length) (by rw [ok.2]; omega)
        rw [List.length_append, List.length_singleton, show t + (E.length + 1) = t + E.length + 1 by omega]
        omega
    · have e4 : t + E.length = 400 := by have := Classical.byContradiction eq; omega
      exact m_failR (n := 2) S hE (by decide) (fun _ => by rw [FS_app.1 nn, FS_2 ok.2 (by omega)]) (fun h' f R => hC h' (f.mono (by decide) (by decide)) R)
  · rw [ok.1] at nn; cases nn
theorem m_mustR {N : Nat} {C : aH → Prop} {K PL : Nat → Nat} {VL : Nat → Int} {t k : Nat} {kk : Int} {E : List Nat} {h : aH} (Q : TOKP K PL VL) (S : RFS K PL VL t E h) (hE : ∀ k ∈ E, k < 31) (hk : KMP k = kk ∧ k < 31) (hC : ∀ h', Fr [] [11, 13, 14] h h' → RFS K PL VL t (E ++ [k]) h' → C h') : WV N 231 0 [(0, .inr (.inr 130)), (1, .inl kk)] h C := by
  refine w_231_0 (m_isR Q S hE ⟨hk.1, by omega⟩ (fun n e => ⟨fun z => absurd z (by decide), fun _ => m_goesOnR Q S hE ⟨n, e⟩ hk.2 hC⟩) (fun no => ⟨fun _ => m_failR (n := 1) (F := [k]) S hE (by decide) (fun nn => ?_) (fun h' f R => hC h' (f.mono (by decide) (by decide)) R), fun z => absurd rfl z⟩))
  rw [FS_app.1 nn, FS_1 (fun z => no ⟨nn, z⟩)]
/-- something is wrong at the s-th TOKEN -/
theorem m_wrongR {N : Nat} {C : aH → Prop} {K PL : Nat → Nat} {VL : Nat → Int} {s : Nat} {n : Int} {h : aH} (T : TOKR K PL VL h) (hs : s ≤ 400 ∧ ∀ i, i < s → K i < 31) (f0 : h 130 13 = 0) (n0 : n ≠ 0) (wb : h 130 15 ≠ 0 → h 130 16 < (PL s : Int) ∨ (h 130 16 = (PL s : Int) ∧ h 130 15 = n)) (hC : ∀ h', Fr [] [15, 16] h h' → EVT True n (PL s : Int) (WNK h) (WNK h') → C h') : WV N 232 0 [(0, .inr (.inr 130)), (1, .inl n), (2, .inl (s : Int))] h C := by
  obtain ⟨-, k2, -, -⟩ := T s hs.1 hs.2
  refine w_232_0 ?_
  rw [f0, Int.toNat_natCast, k2]
  refine ck_ix (by omega) ⟨fun z => absurd z (by decide), fun _ => ⟨fun w0 => ?_, fun w1 => ?_⟩⟩
  · refine hC _ ((Fr.rfl.upM (by decide)).upM (by decide)) ⟨fun _ => ?_, fun z => absurd ⟨w0, trivial⟩ z⟩
    unfold WNK
    rw [up_ne (by decide), up_same, up_same]
  · have same : C h := hC h Fr.rfl ⟨fun z => absurd z.1 w1, fun _ => rfl⟩
    refine ⟨fun _ => same, fun ge => ?_⟩
    rcases wb w1 with y | ⟨y1, y2⟩
    · omega
    · exact ⟨fun z => absurd y1.symm z, fun _ => ⟨fun z => by omega, fun _ => same⟩⟩
/-- an INT is told -/
theorem m_toldG {N : Nat} {C : Int → aH → Prop} {K PL : Nat → Nat} {VL : Nat → Int} {t : Nat} {lo hi : Int} {E : List Nat} {h : aH} (Q : TOKP K PL VL) (S : RFS K PL VL t E h) (hE : ∀ k ∈ E, k < 31) (hC : ∀ r h', (r = lo ∨ ∃ j, K j = 19 ∧ r = VL j) → Fr [] [11, 13, 14, 15, 16] h h' → RFS K PL VL t (E ++ [19]) h' → (FS K (E ++ [19]) t = none → r = VL (t + E.length) ∧ EVT (¬ (lo ≤ VL (t + E.length) ∧ VL (t + E.length) ≤ hi)) 5 (PL (t + E.length) : Int) (WNK h) (WNK h')) → C r h') : WI N 233 0 [(0, .inr (.inr 130)), (1, .inl lo), (2, .inl hi)] h C := by
  have no : ¬ (FS K E t = none ∧ K (t + E.length) = 19) → WV N 227 0 [(0, .inr (.inr 130)), (1, .inl 1)] h (fun h8 => C lo h8) := by
    intro n
    refine m_failR (n := 1) (F := [19]) S hE (by decide) (fun nn => by rw [FS_app.1 nn, FS_1 (fun z => n ⟨nn, z⟩)]) (fun h' f R => hC lo h' (Or.inl rfl) (f.mono (by decide) (by decide)) R (fun z => ?_))
    exfalso
    rcases S.2.2 with ⟨nn, -⟩ | ⟨m, q, nn, -⟩
    · rw [FS_app.1 nn, FS_1 (fun z => n ⟨nn, z⟩)] at z; cases z
    · rw [FS_app.2 _ nn] at z; cases z
  refine w_233_0 ?_
  rcases S.2.2 with ⟨nn, f0, ht, wb⟩ | ⟨m, q, nn, fm, m1, fp⟩
  · obtain ⟨p1, p2⟩ := S.pre hE nn
    rw [f0]
    refine ⟨fun z => absurd z (by decide), fun _ => m_isR Q S hE (k := 19) ⟨rfl, by decide⟩ (fun _ e => ⟨fun _ => ?_, fun z => absurd (by decide) z⟩) (fun n => ⟨fun z => absurd rfl z, fun _ => no n⟩)⟩
    obtain ⟨-, -, k3, -⟩ := S.1 _ p2 p1
    rw [ht, Int.toNat_natCast, k3 e]
    have bad : ¬ (lo ≤ VL (t + E.length) ∧ VL (t + E.length) ≤ hi) → WV N 232 0 [(0, .inr (.inr 130)), (1, .inl 5), (2, .inl ((t + E.length : Nat) : Int))] h (fun h3 => WV N 229 0 [(0, .inr (.inr 130))] h3 (fun h4 => C (VL (t + E.length)) h4)) := by
      intro b
      refine m_wrongR S.1 ⟨p2, p1⟩ f0 (by decide) (fun z => Or.inl (wb z)) (fun h2 f2 ev => ?_)
      have S2 : RFS K PL VL t E h2 ∨ True := Or.inr trivial
      -- going on, with what is wrong noted
      refine w_229_0 ?_
      have t2 : h2 130 11 = ((t + E.length : Nat) : Int) := by rw [f2.2 11 (by decide)]; exact ht
      have f02 : h2 130 13 = 0 := by rw [f2.2 13 (by decide)]; exact f0
      rw [t2]
      have pm := Q.2.1 (t + E.length) (by rw [e]; decide)
      have evb : EVT (¬ (lo ≤ VL (t + E.length) ∧ VL (t + E.length) ≤ hi)) 5 (PL (t + E.length) : Int) (WNK h) (WNK h2) := EVT.yes b ev
      refine ⟨fun ne => ck_rg (by omega) ?_, fun eq => ?_⟩
      · have f3 : Fr [] [11] h2 (am_up h2 130 11 (((t + E.length : Nat) : Int) + 1)) := Fr.rfl.upM (by decide)
        refine hC _ _ (Or.inr ⟨_, e, rfl⟩) ((f2.mono (by decide) (by decide)).trans (f3.mono (by decide) (by decide))) ⟨(S.1.mv f2 (by decide)).mv f3 (by decide), S.2.1, Or.inl ⟨?_, ?_, ?_, fun z => ?_⟩⟩ (fun _ => ⟨rfl, by rw [WNK_fr f3 (by decide) (by decide)]; exact evb⟩)
        · rw [FS_app.1 nn, FS_3 e (by omega)]; rfl
        · rw [f3.2 13 (by decide)]; exact f02
        · rw [up_same, List.length_append, List.length_singleton]; omega
        · rw [f3.2 15 (by decide)] at z
          rw [f3.2 16 (by decide), List.length_append, List.length_singleton, show t + (E.length + 1) = t + E.length + 1 by omega]
          by_cases w0 : h 130 15 = 0
          · have := ev.1 ⟨w0, trivial⟩
            unfold WNK at this
            injection this with e1 e2
            omega
          · have := ev.2 (fun y => w0 y.1)
            unfold WNK at this
            injection this with e1 e2
            have := wb w0
            omega
      · have e4 : t + E.length = 400 := by have := Classical.byContradiction eq; omega
        have T2 := S.1.mv f2 (by decide)
        obtain ⟨-, k2, -, -⟩ := T2 _ p2 p1
        refine w_227_0 ?_
        rw [f02, t2, Int.toNat_natCast, k2]
        refine ⟨fun _ => ck_ix (by omega) ?_, fun z => absurd (Int.le_refl _) z⟩
        have f3 : Fr [] [13, 14] h2 (am_up (am_up h2 130 13 2) 130 14 (PL (t + E.length) : Int)) := (Fr.rfl.upM (by decide)).upM (by decide)
        have fs : FS K (E ++ [19]) t = some (2, t + E.length) := by rw [FS_app.1 nn, FS_2 e (by omega)]
        refine hC _ _ (Or.inr ⟨_, e, rfl⟩) ((f2.mono (by decide) (by decide)).trans (f3.mono (by decide) (by decide))) ⟨T2.mv f3 (by decide), S.2.1, Or.inr ⟨2, t + E.length, fs, ?_, by decide, up_same _ _ _ _⟩⟩ (fun z => by rw [fs] at z; cases z)
        rw [up_ne (by decide), up_same]; rfl
    refine ck_ix (by omega) ⟨fun lt => bad (fun z => by omega), fun ge => ⟨fun le => ?_, fun gt => bad (fun z => by omega)⟩⟩
    exact m_goesOnR Q S hE ⟨nn, e⟩ (by decide) (fun h' f R => hC _ h' (Or.inr ⟨_, e, rfl⟩) (f.mono (by decide) (by decide)) R (fun _ => ⟨rfl, by rw [WNK_fr f (by decide) (by decide)]; exact EVT.no (fun z => z ⟨by omega, by omega⟩)⟩))
  · rw [fm]
    refine ⟨fun _ => ?_, fun z => by omega⟩
    refine m_failR (n := 1) (F := [19]) S hE (by decide) (fun z => by rw [z] at nn; cases nn) (fun h' f R => hC lo h' (Or.inl rfl) (f.mono (by decide) (by decide)) R (fun z => ?_))
    rw [FS_app.2 _ nn] at z; cases z
theorem m_toldR {N : Nat} {C : Int → aH → Prop} {K PL : Nat → Nat} {VL : Nat → Int} {t : Nat} {lo hi : Int} {E : List Nat} {h : aH} (Q : TOKP K PL VL) (S : RFS K PL VL t E h) (hE : ∀ k ∈ E, k < 31) (hC : ∀ r h', Fr [] [11, 13, 14, 15, 16] h h' → RFS K PL VL t (E ++ [19]) h' → (FS K (E ++ [19]) t = none → r = VL (t + E.length) ∧ EVT (¬ (lo ≤ VL (t + E.length) ∧ VL (t + E.length) ≤ hi)) 5 (PL (t + E.length) : Int) (WNK h) (WNK h')) → C r h') : WI N 233 0 [(0, .inr (.inr 130)), (1, .inl lo), (2, .inl hi)] h C := m_toldG Q S hE (fun r h' _ => hC r h')
