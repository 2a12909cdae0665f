/-! read: a sleeper told, the reference -/
/-- what is told of the sleeper -/
def SLT (K PL : Nat → Nat) (VL : Nat → Int) (t sd ns : Nat) (h h' : aH) : Prop := ∃ (v : Int) (s1 s2 s3 s4 : Int × Int), EVT (KNR h (VL (t + 1))) 3 (PL (t + 1) : Int) (WNK h) s1 ∧ FBR h (VL (t + 3)) v ∧ h' 148 (12 * sd + ns) = v ∧ (v = -1 → EVT True 4 (PL (t + 3) : Int) s1 s2) ∧ (v ≠ -1 → EVT (LYS h sd ns v) 3 (PL (t + 3) : Int) s1 s2) ∧
  EVT (¬ (0 ≤ VL (t + 5) ∧ VL (t + 5) ≤ 9)) 5 (PL (t + 5) : Int) s2 s3 ∧ h' 149 (12 * sd + ns) = VL (t + 5) ∧
  ((K (t + 6) = 13 ∧ h' 150 (12 * sd + ns) = VL (t + 7) ∧ h' 151 (12 * sd + ns) = VL (t + 9) ∧ h' 152 (12 * sd + ns) = 0 ∧ EVT (¬ (0 ≤ VL (t + 7) ∧ VL (t + 7) ≤ 399)) 5 (PL (t + 7) : Int) s3 s4 ∧ EVT (¬ (0 ≤ VL (t + 9) ∧ VL (t + 9) ≤ 9)) 5 (PL (t + 9) : Int) s4 (WNK h')) ∨
   (K (t + 6) = 15 ∧ h' 150 (12 * sd + ns) = -2 ∧ h' 151 (12 * sd + ns) = 0 ∧ h' 152 (12 * sd + ns) = VL (t + 7) ∧ EVT (¬ (0 ≤ VL (t + 7) ∧ VL (t + 7) ≤ 9)) 5 (PL (t + 7) : Int) s3 (WNK h')) ∨
   (K (t + 6) ≠ 13 ∧ K (t + 6) ≠ 15 ∧ h' 150 (12 * sd + ns) = -2 ∧ h' 151 (12 * sd + ns) = 0 ∧ h' 152 (12 * sd + ns) = 0 ∧ WNK h' = s3))
theorem SLT.mv {K PL : Nat → Nat} {VL : Nat → Int} {t sd ns : Nat} {h a b : aH} {R D : List Nat} (S : SLT K PL VL t sd ns h a) (f : Fr R D a b) (hr : [148, 149, 150, 151, 152].all (fun r => !(R.contains r)) = true) (h15 : 15 ∉ D) (h16 : 16 ∉ D) : SLT K PL VL t sd ns h b := by
  have k : ∀ r, r ∈ [148, 149, 150, 151, 152] → b r = a r := by
    intro r hh
    have h1 := List.all_eq_true.mp hr r hh
    refine f.1 r ?_ ?_
    · intro e; subst e; revert hh; decide
    · intro hc
      rw [Bool.not_eq_true', List.contains_eq_mem, decide_eq_false_iff_not] at h1
      exact h1 hc
  unfold SLT at S ⊢
  rw [k 148 (by decide), k 149 (by decide), k 150 (by decide), k 151 (by decide), k 152 (by decide), WNK_fr f h15 h16]
  exact S
/-- the sleepers' rows at other places -/
def SLO (sd ns : Nat) (h h' : aH) : Prop := ∀ j, j ≠ 12 * sd + ns → h' 148 j = h 148 j ∧ h' 149 j = h 149 j ∧ h' 150 j = h 150 j ∧ h' 151 j = h 151 j ∧ h' 152 j = h 152 j
theorem SLO.mv {sd ns : Nat} {h a b : aH} {R D : List Nat} (S : SLO sd ns h a) (f : Fr R D a b) (hr : [148, 149, 150, 151, 152].all (fun r => !(R.contains r)) = true) : SLO sd ns h b := by
  have k : ∀ r, r ∈ [148, 149, 150, 151, 152] → b r = a r := by
    intro r hh
    have h1 := List.all_eq_true.mp hr r hh
    refine f.1 r ?_ ?_
    · intro e; subst e; revert hh; decide
    · intro hc
      rw [Bool.not_eq_true', List.contains_eq_mem, decide_eq_false_iff_not] at h1
      exact h1 hc
  unfold SLO at S ⊢
  rw [k 148 (by decide), k 149 (by decide), k 150 (by decide), k 151 (by decide), k 152 (by decide)]
  exact S
theorem SLO.up {sd ns r : Nat} {v : Int} {h a : aH} (S : SLO sd ns h a) : SLO sd ns h (am_up a r (12 * sd + ns) v) := fun j hj => by
  have e : ∀ q, am_up a r (12 * sd + ns) v q j = a q j := fun q => by rw [am_up_at, if_neg (fun z => hj z.2)]
  rw [e, e, e, e, e]
  exact S j hj
def SLQ (K PL : Nat → Nat) (VL : Nat → Int) (t sd ns M : Nat) (h h' : aH) : Prop := Fr [138, 139, 140, 147, 148, 149, 150, 151, 152] [11, 13, 14, 15, 16, 20] h h' ∧ (h' 147 sd = (ns : Int) + 1 ∧ ∀ j, j ≠ sd → h' 147 j = h 147 j) ∧ SLO sd ns h h' ∧ NMR (VL (t + 1)) M 1 ns h h' ∧ SLT K PL VL t sd ns h h'
theorem LSL_e {K : Nat → Nat} {t : Nat} : LSL K t = ([11, 18, 12, 18, 4, 19] ++ DTY K (t + 6)) ++ [20] := by
  unfold LSL
  rw [List.append_assoc]
theorem DTY_lt {K : Nat → Nat} {t : Nat} : ∀ k ∈ [11, 18, 12, 18, 4, 19] ++ DTY K t, k < 31 := by
  unfold DTY
  split
  · decide
  · split
    · decide
    · decide
theorem m_tellSleeperR {N : Nat} {C : aH → Prop} {K PL : Nat → Nat} {VL : Nat → Int} {t sd ns M : Nat} {h : aH} (Q : TOKP K PL VL) (S : RFS K PL VL t [] h) (kt : K t = 11) (hsd : h 130 19 = (sd : Int)) (sd2 : sd < 2) (hns : h 147 sd = (ns : Int)) (ns12 : ns < 12) (hM : h 130 20 = (M : Int)) (M40 : M < 40) (na : ∀ i, i < M → h 139 i = 0 → 0 ≤ h 140 i)
    (hC : ∀ h', FrA (ALW sd) h h' → (FS K (LSL K t) t = none → RFS K PL VL (t + (LSL K t).length) [] h' ∧ SLQ K PL VL t sd ns M h h') → (∀ n q, FS K (LSL K t) t = some (n, q) → RFL PL n q h') → C h') : WV N 236 0 [(0, .inr (.inr 130))] h C := by
  have ek : ((12 : Int) * (sd : Int) + (ns : Int)).toNat = 12 * sd + ns := by omega
  have al : ∀ r, r = 148 ∨ r = 149 ∨ r = 150 ∨ r = 151 ∨ r = 152 → ALW sd r (12 * sd + ns) := fun r hr => by unfold ALW; omega
  -- the end
  have fin : ∀ (h8 : aH) (x2 : Int), FrA (ALW sd) h h8 → Fr [148, 149, 150, 151, 152] [11, 13, 14, 15, 16] h h8 → RFS K PL VL t ([11, 18, 12, 18, 4, 19] ++ DTY K (t + 6)) h8 → SLO sd ns h h8 → (FS K ([11, 18, 12, 18, 4, 19] ++ DTY K (t + 6)) t = none → x2 = ((t + 1 : Nat) : Int) ∧ SLT K PL VL t sd ns h h8) → WV N 236 105 [(0, .inr (.inr 130)), (2, .inl x2)] h8 C := by
    intro h8 x2 A4 F4 R4 ot dat
    refine w_236_105 (m_mustR Q R4 DTY_lt (k := 20) ⟨rfl, by decide⟩ (fun h5 f5 R5 => ?_))
    rw [← LSL_e] at R5
    have hk2 : ∀ k ∈ LSL K t, k < 31 := by
      rw [LSL_e]
      intro k hh
      rcases List.mem_append.mp hh with y | y
      · exact DTY_lt k y
      · have := List.mem_singleton.mp y; omega
    have oo := R5.out hk2
    have A5 := A4.trans (FrA.fr f5 (by decide) (by decide))
    have F5' : Fr [148, 149, 150, 151, 152] [11, 13, 14, 15, 16] h h5 := F4.trans (f5.mono (by decide) (by decide))
    refine ⟨fun le => ?_, fun gt => hC h5 A5 (fun nn => absurd (R5.f0.1 nn) (by omega)) oo.2⟩
    have nn : FS K (LSL K t) t = none := R5.f0.2.1 le
    have n8 : FS K ([11, 18, 12, 18, 4, 19] ++ DTY K (t + 6)) t = none := FS_pre (F := [20]) (by rw [← LSL_e]; exact nn)
    obtain ⟨e2, sl⟩ := dat n8
    have ks : K (t + 1) = 18 := (FS_none (FS_pre (E := [11, 18, 12, 18, 4, 19]) n8)).1 1 (by decide)
    have p := R5.pre hk2 nn
    have T5 := oo.1 nn
    have ll : (LSL K t).length = 6 + (DTY K (t + 6)).length + 1 := by rw [LSL_e, List.length_append, List.length_append]; rfl
    rw [F5'.2 19 (by decide), hsd, Int.toNat_natCast, F5'.at 147 (by decide) (by decide), hns, e2]
    refine ck_ix (by omega) (m_knowsR R5.1 ⟨by omega, fun i hi => p.1 i (by omega)⟩ ks (M := M) (by rw [F5'.2 20 (by decide)]; exact hM) M40 (fun h6 f6 n6 a6 o6 => ?_))
    rw [f6.2 19 (by decide), F5'.2 19 (by decide), hsd, Int.toNat_natCast, f6.at 147 (by decide) (by decide), F5'.at 147 (by decide) (by decide), hns]
    have f7 : Fr [147] [] h6 (am_up h6 147 sd ((ns : Int) + 1)) := Fr.rfl.up (by decide) (by decide)
    refine ck_ix (by omega) (ck_rg (by omega) (ck_ix (by omega) (hC _ ?_ (fun _ => ⟨?_, ?_⟩) (fun n q z => by rw [nn] at z; cases z))))
    · refine A5.trans ((FrA.fr f6 (by decide) (by decide)).trans (FrA.up FrA.rfl ?_))
      unfold ALW; omega
    · exact (RFS.mv T5 f6 (by decide) (by decide)).mv f7 (by decide) (by decide)
    · refine ⟨(F5'.mono (by decide) (by decide)).trans ((f6.mono (by decide) (by decide)).trans (f7.mono (by decide) (by decide))), ⟨up_same _ _ _ _, fun j hj => ?_⟩, ((ot.mv f5 (by decide)).mv f6 (by decide)).mv f7 (by decide), ⟨?_, ⟨?_, ?_, ?_⟩, fun j hj => ⟨?_, ?_, ?_⟩⟩, ((sl.mv f5 (by decide) (by decide) (by decide)).mv f6 (by decide) (by decide) (by decide)).mv f7 (by decide) (by decide) (by decide)⟩
      · rw [up_ne hj, f6.at 147 (by decide) (by decide), F5'.at 147 (by decide) (by decide)]
      · rw [f7.2 20 (by decide)]; exact n6
      · rw [f7.at 138 (by decide) (by decide)]; exact a6.1
      · rw [f7.at 139 (by decide) (by decide)]; exact a6.2.1
      · rw [f7.at 140 (by decide) (by decide)]; exact a6.2.2
      · rw [f7.at 138 (by decide) (by decide), (o6 j hj).1, F5'.at 138 (by decide) (by decide)]
      · rw [f7.at 139 (by decide) (by decide), (o6 j hj).2.1, F5'.at 139 (by decide) (by decide)]
      · rw [f7.at 140 (by decide) (by decide), (o6 j hj).2.2, F5'.at 140 (by decide) (by decide)]
  -- behind the bed
  have p31 : ∀ (h4 : aH) (x2 : Int), FrA (ALW sd) h h4 → Fr [148] [11, 13, 14, 15, 16] h h4 → RFS K PL VL t [11, 18, 12, 18] h4 → SLO sd ns h h4 → (FS K [11, 18, 12, 18] t = none → x2 = ((t + 1 : Nat) : Int) ∧ ∃ (v : Int) (s1 s2 : Int × Int), EVT (KNR h (VL (t + 1))) 3 (PL (t + 1) : Int) (WNK h) s1 ∧ FBR h (VL (t + 3)) v ∧ h4 148 (12 * sd + ns) = v ∧ (v = -1 → EVT True 4 (PL (t + 3) : Int) s1 (WNK h4)) ∧ (v ≠ -1 → EVT (LYS h sd ns v) 3 (PL (t + 3) : Int) s1 (WNK h4))) → WV N 236 31 [(0, .inr (.inr 130)), (1, .inl ((12 : Int) * (sd : Int) + (ns : Int))), (2, .inl x2)] h4 C := by
    intro h4 x2 A4 F4 R4 ot dat
    refine w_236_31 (m_mustR Q R4 (by decide) (k := 4) ⟨rfl, by decide⟩ (fun h5 f5 R5 => m_toldR Q R5 (by decide) (fun r6 h6 f6 R6 e6 => ck_ix (by omega) (ck_ix (by omega) (ck_ix (by omega) (ck_ix (by omega) ?_))))))
    rw [ek]
    obtain ⟨a6, ha6⟩ : ∃ a6, a6 = am_up (am_up (am_up (am_up h6 149 (12 * sd + ns) r6) 150 (12 * sd + ns) (-2)) 151 (12 * sd + ns) 0) 152 (12 * sd + ns) 0 := ⟨_, rfl⟩
    rw [← ha6]
    have fa6 : Fr [149, 150, 151, 152] [] h6 a6 := by rw [ha6]; exact (((Fr.rfl.up (by decide) (by decide)).up (by decide) (by decide)).up (by decide) (by decide)).up (by decide) (by decide)
    have ff : h6 130 13 = a6 130 13 := (fa6.2 13 (by decide)).symm
    rw [ff]
    have Ra : RFS K PL VL t [11, 18, 12, 18, 4, 19] a6 := R6.mv fa6 (by decide) (by decide)
    have Aa : FrA (ALW sd) h a6 := by
      refine A4.trans ((FrA.fr f5 (by decide) (by decide)).trans ((FrA.fr f6 (by decide) (by decide)).trans ?_))
      rw [ha6]
      exact FrA.up (FrA.up (FrA.up (FrA.up FrA.rfl (al _ (by omega))) (al _ (by omega))) (al _ (by omega))) (al _ (by omega))
    have Fa : Fr [148, 149, 150, 151, 152] [11, 13, 14, 15, 16] h a6 := (F4.mono (by decide) (by decide)).trans ((f5.mono (by decide) (by decide)).trans ((f6.mono (by decide) (by decide)).trans (fa6.mono (by decide) (by decide))))
    have oa : SLO sd ns h a6 := by
      rw [ha6]
      exact ((((ot.mv f5 (by decide)).mv f6 (by decide)).up.up).up).up
    have ca : a6 149 (12 * sd + ns) = r6 ∧ a6 150 (12 * sd + ns) = -2 ∧ a6 151 (12 * sd + ns) = 0 ∧ a6 152 (12 * sd + ns) = 0 := by
      rw [ha6]
      refine ⟨?_, ?_, ?_, ?_⟩
      · rw [up_row (by decide), up_row (by decide), up_row (by decide), up_same]
      · rw [up_row (by decide), up_row (by decide), up_same]
      · rw [up_row (by decide), up_same]
      · rw [up_same]
    have fb : a6 148 (12 * sd + ns) = h4 148 (12 * sd + ns) := by rw [fa6.at 148 (by decide) (by decide), f6.at 148 (by decide) (by decide), f5.at 148 (by decide) (by decide)]
    have d6 : FS K [11, 18, 12, 18, 4, 19] t = none → r6 = VL (t + 5) ∧ EVT (¬ (0 ≤ VL (t + 5) ∧ VL (t + 5) ≤ 9)) 5 (PL (t + 5) : Int) (WNK h4) (WNK a6) := fun nn => by
      obtain ⟨x, y⟩ : r6 = VL (t + 5) ∧ EVT (¬ (0 ≤ VL (t + 5) ∧ VL (t + 5) ≤ 9)) 5 (PL (t + 5) : Int) (WNK h5) (WNK h6) := e6 nn
      rw [WNK_fr f5 (by decide) (by decide)] at y
      rw [WNK_fr fa6 (by decide) (by decide)]
      exact ⟨x, y⟩
    -- no duty
    have none105 : (FS K [11, 18, 12, 18, 4, 19] t = none → K (t + 6) ≠ 13 ∧ K (t + 6) ≠ 15) → WV N 236 105 [(0, .inr (.inr 130)), (2, .inl x2)] a6 C := by
      intro imp
      rcases hx : FS K [11, 18, 12, 18, 4, 19] t with _ | e
      · obtain ⟨k13, k15⟩ := imp hx
        have eD : DTY K (t + 6) = [] := by unfold DTY; rw [if_neg k13, if_neg k15]
        refine fin a6 x2 Aa Fa (by rw [eD]; exact Ra) oa (fun _ => ?_)
        obtain ⟨x, v, s1, s2, q1, q2, q3, q4, q5⟩ := dat (FS_pre (F := [4, 19]) hx)
        obtain ⟨y1, y2⟩ := d6 hx
        exact ⟨x, v, s1, WNK h4, WNK a6, (0, 0), q1, q2, by rw [fb]; exact q3, q4, q5, y2, by rw [ca.1]; exact y1, Or.inr (Or.inr ⟨k13, k15, ca.2.1, ca.2.2.1, ca.2.2.2, rfl⟩)⟩
      · exact fin a6 x2 Aa Fa (Ra.ext hx) oa (fun z => by rw [FS_app.2 e hx] at z; cases z)
    have p87 : (FS K [11, 18, 12, 18, 4, 19] t = none → K (t + 6) ≠ 13) → WV N 236 87 [(0, .inr (.inr 130)), (1, .inl ((12 : Int) * (sd : Int) + (ns : Int))), (2, .inl x2)] a6 C := by
      intro imp
      refine w_236_87 ⟨fun f => none105 (fun nn => absurd (Ra.f0.1 nn) f), fun f => ?_⟩
      have nn : FS K [11, 18, 12, 18, 4, 19] t = none := Ra.f0.2.2 (Classical.byContradiction f)
      have k13 := imp nn
      refine m_isR Q Ra (by decide) (k := 15) ⟨rfl, by decide⟩ (fun _ k15 => ⟨fun z => absurd z (by decide), fun _ => ?_⟩) (fun no => ⟨fun _ => none105 (fun _ => ⟨k13, fun z => no ⟨nn, z⟩⟩), fun z => absurd rfl z⟩)
      have k15 : K (t + 6) = 15 := k15
      have eD : DTY K (t + 6) = [15, 19] := by unfold DTY; rw [if_neg k13, if_pos k15]
      refine m_goesOnR Q Ra (by decide) ⟨nn, k15⟩ (by decide) (fun h7 f7 R7 => m_toldR Q R7 (by decide) (fun r8 h8 f8 R8 e8 => ck_ix (by omega) ?_))
      rw [ek]
      have f9 : Fr [152] [] h8 (am_up h8 152 (12 * sd + ns) r8) := Fr.rfl.up (by decide) (by decide)
      refine fin _ x2 (Aa.trans ((FrA.fr f7 (by decide) (by decide)).trans ((FrA.fr f8 (by decide) (by decide)).trans (FrA.up FrA.rfl (al _ (by omega)))))) (Fa.trans ((f7.mono (by decide) (by decide)).trans ((f8.mono (by decide) (by decide)).trans (f9.mono (by decide) (by decide))))) (by rw [eD]; exact R8.mv f9 (by decide) (by decide)) (((oa.mv f7 (by decide)).mv f8 (by decide)).up) (fun n8 => ?_)
      rw [eD] at n8
      obtain ⟨x, v, s1, s2, q1, q2, q3, q4, q5⟩ := dat (FS_pre (F := [4, 19]) nn)
      obtain ⟨y1, y2⟩ := d6 nn
      obtain ⟨z1, z2⟩ : r8 = VL (t + 7) ∧ EVT (¬ (0 ≤ VL (t + 7) ∧ VL (t + 7) ≤ 9)) 5 (PL (t + 7) : Int) (WNK h7) (WNK h8) := e8 n8
      rw [WNK_fr f7 (by decide) (by decide)] at z2
      refine ⟨x, v, s1, WNK h4, WNK a6, (0, 0), q1, q2, ?_, q4, q5, y2, ?_, Or.inr (Or.inl ⟨k15, ?_, ?_, ?_, ?_⟩)⟩
      · rw [f9.at 148 (by decide) (by decide), f8.at 148 (by decide) (by decide), f7.at 148 (by decide) (by decide), fb]; exact q3
      · rw [f9.at 149 (by decide) (by decide), f8.at 149 (by decide) (by decide), f7.at 149 (by decide) (by decide), ca.1]; exact y1
      · rw [f9.at 150 (by decide) (by decide), f8.at 150 (by decide) (by decide), f7.at 150 (by decide) (by decide)]; exact ca.2.1
      · rw [f9.at 151 (by decide) (by decide), f8.at 151 (by decide) (by decide), f7.at 151 (by decide) (by decide)]; exact ca.2.2.1
      · rw [up_same]; exact z1
      · rw [WNK_fr f9 (by decide) (by decide)]; exact z2
    refine ⟨fun f => p87 (fun nn => absurd (Ra.f0.1 nn) f), fun f => ?_⟩
    have nn : FS K [11, 18, 12, 18, 4, 19] t = none := Ra.f0.2.2 (Classical.byContradiction f)
    refine m_isR Q Ra (by decide) (k := 13) ⟨rfl, by decide⟩ (fun _ k13 => ⟨fun z => absurd z (by decide), fun _ => ?_⟩) (fun no => ⟨fun _ => p87 (fun _ z => no ⟨nn, z⟩), fun z => absurd rfl z⟩)
    have k13 : K (t + 6) = 13 := k13
    have eD : DTY K (t + 6) = [13, 19, 14, 19] := by unfold DTY; rw [if_pos k13]
    refine m_goesOnR Q Ra (by decide) ⟨nn, k13⟩ (by decide) (fun h7 f7 R7 => m_toldR Q R7 (by decide) (fun r8 h8 f8 R8 e8 => ck_ix (by omega) ?_))
    have f9 : Fr [150] [] h8 (am_up h8 150 (12 * sd + ns) r8) := Fr.rfl.up (by decide) (by decide)
    refine m_mustR Q (R8.mv f9 (by decide) (by decide)) (by decide) (k := 14) ⟨rfl, by decide⟩ (fun h10 f10 R10 => m_toldR Q R10 (by decide) (fun r11 h11 f11 R11 e11 => ck_ix (by omega) ?_))
    have f12 : Fr [151] [] h11 (am_up h11 151 (12 * sd + ns) r11) := Fr.rfl.up (by decide) (by decide)
    refine fin _ x2 (Aa.trans ((FrA.fr f7 (by decide) (by decide)).trans ((FrA.fr f8 (by decide) (by decide)).trans (FrA.trans (FrA.up FrA.rfl (al _ (by omega))) ((FrA.fr f10 (by decide) (by decide)).trans ((FrA.fr f11 (by decide) (by decide)).trans (FrA.up FrA.rfl (al _ (by omega))))))))) (Fa.trans ((f7.mono (by decide) (by decide)).trans ((f8.mono (by decide) (by decide)).trans ((f9.mono (by decide) (by decide)).trans ((f10.mono (by decide) (by decide)).trans ((f11.mono (by decide) (by decide)).trans (f12.mono (by decide) (by decide)))))))) (by rw [eD]; exact R11.mv f12 (by decide) (by decide)) (((((oa.mv f7 (by decide)).mv f8 (by decide)).up.mv f10 (by decide)).mv f11 (by decide)).up) (fun n8 => ?_)
    rw [eD] at n8
    obtain ⟨x, v, s1, s2, q1, q2, q3, q4, q5⟩ := dat (FS_pre (F := [4, 19]) nn)
    obtain ⟨y1, y2⟩ := d6 nn
    obtain ⟨z1, z2⟩ : r8 = VL (t + 7) ∧ EVT (¬ (0 ≤ VL (t + 7) ∧ VL (t + 7) ≤ 399)) 5 (PL (t + 7) : Int) (WNK h7) (WNK h8) := e8 (FS_pre (E := [11, 18, 12, 18, 4, 19, 13, 19]) (F := [14, 19]) n8)
    obtain ⟨u1, u2⟩ : r11 = VL (t + 9) ∧ EVT (¬ (0 ≤ VL (t + 9) ∧ VL (t + 9) ≤ 9)) 5 (PL (t + 9) : Int) (WNK h10) (WNK h11) := e11 n8
    rw [WNK_fr f7 (by decide) (by decide)] at z2
    rw [WNK_fr f10 (by decide) (by decide), WNK_fr f9 (by decide) (by decide)] at u2
    refine ⟨x, v, s1, WNK h4, WNK a6, WNK h8, q1, q2, ?_, q4, q5, y2, ?_, Or.inl ⟨k13, ?_, ?_, ?_, z2, ?_⟩⟩
    · rw [f12.at 148 (by decide) (by decide), f11.at 148 (by decide) (by decide), f10.at 148 (by decide) (by decide), f9.at 148 (by decide) (by decide), f8.at 148 (by decide) (by decide), f7.at 148 (by decide) (by decide), fb]; exact q3
    · rw [f12.at 149 (by decide) (by decide), f11.at 149 (by decide) (by decide), f10.at 149 (by decide) (by decide), f9.at 149 (by decide) (by decide), f8.at 149 (by decide) (by decide), f7.at 149 (by decide) (by decide), ca.1]; exact y1
    · rw [f12.at 150 (by decide) (by decide), f11.at 150 (by decide) (by decide), f10.at 150 (by decide) (by decide), up_same]; exact z1
    · rw [up_same]; exact u1
    · rw [f12.at 152 (by decide) (by decide), f11.at 152 (by decide) (by decide), f10.at 152 (by decide) (by decide), f9.at 152 (by decide) (by decide), f8.at 152 (by decide) (by decide), f7.at 152 (by decide) (by decide)]; exact ca.2.2.2
    · rw [WNK_fr f12 (by decide) (by decide)]; exact u2
  refine w_236_0 ?_
  rw [hsd, Int.toNat_natCast, hns, ek]
  refine ck_rg (by omega) (ck_ix (by omega) (ck_rg (by omega) (m_goesOnR Q S (by simp) ⟨rfl, kt⟩ (by decide) (fun h1 f1 R1 => m_namedR Q R1 (by decide) (M := M) (by rw [f1.2 20 (by decide)]; exact hM) M40 (fun r2 h2 f2 R2 e2 => m_mustR Q R2 (by decide) (k := 12) ⟨rfl, by decide⟩ (fun h3 f3 R3 => ?_))))))
  have A3 : FrA (ALW sd) h h3 := (FrA.fr f1 (by decide) (by decide)).trans ((FrA.fr f2 (by decide) (by decide)).trans (FrA.fr f3 (by decide) (by decide)))
  have F3 : Fr [] [11, 13, 14, 15, 16] h h3 := (f1.mono (by decide) (by decide)).trans ((f2.mono (by decide) (by decide)).trans (f3.mono (by decide) (by decide)))
  have o3 : SLO sd ns h h3 := SLO.mv (fun j _ => ⟨rfl, rfl, rfl, rfl, rfl⟩) F3 (by decide)
  refine ⟨fun le => ?_, fun gt => ck_ix (by omega) ?_⟩
  · have n3 : FS K [11, 18, 12] t = none := R3.f0.2.1 le
    refine m_freeBedR Q R3 (by decide) (M := M) (sd := sd) (ns := ns) (by rw [F3.2 20 (by decide)]; exact hM) M40 (fun i hi => by rw [F3.at 139 (by decide) (by decide), F3.at 140 (by decide) (by decide)]; exact na i hi) (by rw [F3.2 19 (by decide)]; exact hsd) sd2 (by rw [F3.at 147 (by decide) (by decide)]; exact hns) (by omega) (fun r4 h4 f4 R4 e4 => ck_ix (by omega) ?_)
    have f5 : Fr [148] [] h4 (am_up h4 148 (12 * sd + ns) r4) := Fr.rfl.up (by decide) (by decide)
    refine p31 _ r2 (A3.trans ((FrA.fr f4 (by decide) (by decide)).trans (FrA.up FrA.rfl (al _ (by omega))))) ((F3.mono (by decide) (by decide)).trans ((f4.mono (by decide) (by decide)).trans (f5.mono (by decide) (by decide)))) (R4.mv f5 (by decide) (by decide)) ((o3.mv f4 (by decide)).up) (fun n4 => ?_)
    obtain ⟨e2a, e2b⟩ : r2 = ((t + 1 : Nat) : Int) ∧ EVT (KNR h1 (VL (t + 1))) 3 (PL (t + 1) : Int) (WNK h1) (WNK h2) := e2 (FS_pre (E := [11, 18]) (F := [12]) n3)
    obtain ⟨x1, x2, x3⟩ : FBR h3 (VL (t + 3)) r4 ∧ (r4 = -1 → EVT True 4 (PL (t + 3) : Int) (WNK h3) (WNK h4)) ∧ (r4 ≠ -1 → EVT (LYS h3 sd ns r4) 3 (PL (t + 3) : Int) (WNK h3) (WNK h4)) := e4 n4
    rw [KNR_fr f1 (by decide) (by decide), WNK_fr f1 (by decide) (by decide)] at e2b
    rw [WNK_fr f3 (by decide) (by decide)] at x2 x3
    refine ⟨e2a, r4, WNK h2, (0, 0), e2b, ?_, up_same _ _ _ _, ?_, ?_⟩
    · unfold FBR at x1 ⊢
      rw [F3.2 20 (by decide), F3.at 138 (by decide) (by decide), F3.at 139 (by decide) (by decide), F3.at 140 (by decide) (by decide)] at x1
      exact x1
    · rw [WNK_fr f5 (by decide) (by decide)]; exact x2
    · rw [WNK_fr f5 (by decide) (by decide)]
      unfold LYS at x3 ⊢
      rw [F3.at 148 (by decide) (by decide)] at x3
      exact x3
  · rcases hx : FS K [11, 18, 12] t with _ | e
    · exact absurd (R3.f0.1 hx) (by omega)
    · have f5 : Fr [148] [] h3 (am_up h3 148 (12 * sd + ns) (-1)) := Fr.rfl.up (by decide) (by decide)
      exact p31 _ r2 (A3.trans (FrA.up FrA.rfl (al _ (by omega)))) ((F3.mono (by decide) (by decide)).trans (f5.mono (by decide) (by decide))) ((R3.ext (F := [18]) hx).mv f5 (by decide) (by decide)) o3.up (fun z => by
        have y : FS K ([11, 18, 12] ++ [18]) t = some e := FS_app.2 e hx
        rw [show [11, 18, 12] ++ [18] = [11, 18, 12, 18] from rfl] at y
        rw [y] at z; cases z)
