/-! read: a clock told, the reference -/
def CKR (K PL : Nat → Nat) (VL : Nat → Int) (t sd nc M : Nat) (h h' : aH) : Prop := Fr [138, 139, 140, 144, 145, 146] [11, 13, 14, 15, 16, 20] h h' ∧ (h' 144 sd = (nc : Int) + 1 ∧ ∀ j, j ≠ sd → h' 144 j = h 144 j) ∧
  (h' 145 (9 * sd + nc) = VL (t + 2) ∧ (h' 146 (9 * sd + nc) = if K (t + 3) = 9 then -(VL (t + 4)) else if K (t + 3) = 10 then VL (t + 4) else 0) ∧ ∀ j, j ≠ 9 * sd + nc → h' 145 j = h 145 j ∧ h' 146 j = h 146 j) ∧ NMR (VL (t + 1)) M 1 nc h h' ∧
  ∃ s1 s2, EVT (KNR h (VL (t + 1))) 3 (PL (t + 1) : Int) (WNK h) s1 ∧ EVT (¬ (1 ≤ VL (t + 2) ∧ VL (t + 2) ≤ 12)) 5 (PL (t + 2) : Int) s1 s2 ∧ EVT ((K (t + 3) = 9 ∨ K (t + 3) = 10) ∧ ¬ (0 ≤ VL (t + 4) ∧ VL (t + 4) ≤ 30)) 5 (PL (t + 4) : Int) s2 (WNK h')
theorem LCK_y {K : Nat → Nat} {t : Nat} (o : K (t + 3) = 9 ∨ K (t + 3) = 10) : LCK K t = [8, 18, 19, K (t + 3), 19] ++ [20] := if_pos o
theorem LCK_n {K : Nat → Nat} {t : Nat} (o : ¬ (K (t + 3) = 9 ∨ K (t + 3) = 10)) : LCK K t = [8, 18, 19] ++ [20] := if_neg o
theorem m_tellClockR {N : Nat} {C : aH → Prop} {K PL : Nat → Nat} {VL : Nat → Int} {t sd nc M : Nat} {h : aH} (Q : TOKP K PL VL) (S : RFS K PL VL t [] h) (kt : K t = 8) (hsd : h 130 19 = (sd : Int)) (sd2 : sd < 2) (hnc : h 144 sd = (nc : Int)) (nc9 : nc < 9) (hM : h 130 20 = (M : Int)) (M40 : M < 40)
    (hC : ∀ h', FrA (ALW sd) h h' → (FS K (LCK K t) t = none → RFS K PL VL (t + (LCK K t).length) [] h' ∧ CKR K PL VL t sd nc M h h') → (∀ n q, FS K (LCK K t) t = some (n, q) → RFL PL n q h') → C h') : WV N 235 0 [(0, .inr (.inr 130))] h C := by
  -- the end
  have fin : ∀ (E4 : List Nat) (h4 : aH) (x2 : Int), E4 ++ [20] = LCK K t → (∀ k ∈ E4, k < 31) → FrA (ALW sd) h h4 → Fr [145, 146] [11, 13, 14, 15, 16] h h4 → RFS K PL VL t E4 h4 → (∀ j, j ≠ 9 * sd + nc → h4 145 j = h 145 j ∧ h4 146 j = h 146 j) →
      (FS K E4 t = none → x2 = ((t + 1 : Nat) : Int) ∧ K (t + 1) = 18 ∧ t + 2 ≤ t + E4.length ∧ h4 145 (9 * sd + nc) = VL (t + 2) ∧ (h4 146 (9 * sd + nc) = if K (t + 3) = 9 then -(VL (t + 4)) else if K (t + 3) = 10 then VL (t + 4) else 0) ∧ ∃ s1 s2, EVT (KNR h (VL (t + 1))) 3 (PL (t + 1) : Int) (WNK h) s1 ∧ EVT (¬ (1 ≤ VL (t + 2) ∧ VL (t + 2) ≤ 12)) 5 (PL (t + 2) : Int) s1 s2 ∧ EVT ((K (t + 3) = 9 ∨ K (t + 3) = 10) ∧ ¬ (0 ≤ VL (t + 4) ∧ VL (t + 4) ≤ 30)) 5 (PL (t + 4) : Int) s2 (WNK h4)) →
      WV N 235 63 [(0, .inr (.inr 130)), (2, .inl x2)] h4 C := by
    intro E4 h4 x2 hE hk A4 F4 R4 ot dat
    refine w_235_63 (m_mustR Q R4 hk (k := 20) ⟨rfl, by decide⟩ (fun h5 f5 R5 => ?_))
    rw [hE] at R5
    have hk2 : ∀ k ∈ LCK K t, k < 31 := by
      rw [← hE]
      intro k hh
      rcases List.mem_append.mp hh with y | y
      · exact hk k y
      · have := List.mem_singleton.mp y; omega
    have oo := R5.out hk2
    have A5 := A4.trans (FrA.fr f5 (by decide) (by decide))
    have F5' : Fr [145, 146] [11, 13, 14, 15, 16] h h5 := F4.trans (f5.mono (by decide) (by decide))
    refine ⟨fun le => ?_, fun gt => hC h5 A5 (fun nn => absurd (R5.f0.1 nn) (by omega)) oo.2⟩
    have nn : FS K (LCK K t) t = none := R5.f0.2.1 le
    obtain ⟨e2, ks, tl, d1, d2, s1, s2, v1, v2, v3⟩ := dat (FS_pre (F := [20]) (by rw [hE]; exact nn))
    have p := R5.pre hk2 nn
    have T5 := oo.1 nn
    have ll : (LCK K t).length = E4.length + 1 := by rw [← hE, List.length_append]; rfl
    rw [F5'.2 19 (by decide), hsd, Int.toNat_natCast, F5'.at 144 (by decide) (by decide), hnc, e2]
    refine ck_ix (by omega) (m_knowsR R5.1 ⟨by omega, fun i hi => p.1 i (by omega)⟩ ks (M := M) (by rw [F5'.2 20 (by decide)]; exact hM) M40 (fun h6 f6 n6 a6 o6 => ?_))
    rw [f6.2 19 (by decide), F5'.2 19 (by decide), hsd, Int.toNat_natCast, f6.at 144 (by decide) (by decide), F5'.at 144 (by decide) (by decide), hnc]
    have f7 : Fr [144] [] h6 (am_up h6 144 sd ((nc : Int) + 1)) := Fr.rfl.up (by decide) (by decide)
    refine ck_ix (by omega) (ck_rg (by omega) (ck_ix (by omega) (hC _ ?_ (fun _ => ⟨?_, ?_⟩) (fun n q z => by rw [nn] at z; cases z))))
    · refine A5.trans ((FrA.fr f6 (by decide) (by decide)).trans (FrA.up FrA.rfl ?_))
      unfold ALW; omega
    · exact (RFS.mv T5 f6 (by decide) (by decide)).mv f7 (by decide) (by decide)
    · refine ⟨(F5'.mono (by decide) (by decide)).trans ((f6.mono (by decide) (by decide)).trans (f7.mono (by decide) (by decide))), ⟨up_same _ _ _ _, fun j hj => ?_⟩, ⟨?_, ?_, fun j hj => ⟨?_, ?_⟩⟩, ⟨?_, ⟨?_, ?_, ?_⟩, fun j hj => ⟨?_, ?_, ?_⟩⟩, s1, s2, v1, v2, ?_⟩
      · rw [up_ne hj, f6.at 144 (by decide) (by decide), F5'.at 144 (by decide) (by decide)]
      · rw [f7.at 145 (by decide) (by decide), f6.at 145 (by decide) (by decide), f5.at 145 (by decide) (by decide)]; exact d1
      · rw [f7.at 146 (by decide) (by decide), f6.at 146 (by decide) (by decide), f5.at 146 (by decide) (by decide)]; exact d2
      · rw [f7.at 145 (by decide) (by decide), f6.at 145 (by decide) (by decide), f5.at 145 (by decide) (by decide)]; exact (ot j hj).1
      · rw [f7.at 146 (by decide) (by decide), f6.at 146 (by decide) (by decide), f5.at 146 (by decide) (by decide)]; exact (ot j hj).2
      · rw [f7.2 20 (by decide)]; exact n6
      · rw [f7.at 138 (by decide) (by decide)]; exact a6.1
      · rw [f7.at 139 (by decide) (by decide)]; exact a6.2.1
      · rw [f7.at 140 (by decide) (by decide)]; exact a6.2.2
      · rw [f7.at 138 (by decide) (by decide), (o6 j hj).1, F5'.at 138 (by decide) (by decide)]
      · rw [f7.at 139 (by decide) (by decide), (o6 j hj).2.1, F5'.at 139 (by decide) (by decide)]
      · rw [f7.at 140 (by decide) (by decide), (o6 j hj).2.2, F5'.at 140 (by decide) (by decide)]
      · rw [WNK_fr f7 (by decide) (by decide), WNK_fr f6 (by decide) (by decide), WNK_fr f5 (by decide) (by decide)]
        exact v3
  refine w_235_0 ?_
  rw [hsd, Int.toNat_natCast, hnc]
  have ek : ((9 : Int) * (sd : Int) + (nc : Int)).toNat = 9 * sd + nc := by omega
  rw [ek]
  refine ck_rg (by omega) (ck_ix (by omega) (ck_rg (by omega) (m_goesOnR Q S (by simp) ⟨rfl, kt⟩ (by decide) (fun h1 f1 R1 => m_namedR Q R1 (by decide) (M := M) (by rw [f1.2 20 (by decide)]; exact hM) M40 (fun r2 h2 f2 R2 e2 => m_toldR Q R2 (by decide) (fun r3 h3 f3 R3 e3 => ck_ix (by omega) (ck_ix (by omega) ?_)))))))
  obtain ⟨a3, ha3⟩ : ∃ a3, a3 = am_up (am_up h3 145 (9 * sd + nc) r3) 146 (9 * sd + nc) 0 := ⟨_, rfl⟩
  rw [← ha3]
  have fa3 : Fr [145, 146] [] h3 a3 := by rw [ha3]; exact (Fr.rfl.up (by decide) (by decide)).up (by decide) (by decide)
  have f3a : h3 130 13 = a3 130 13 := (fa3.2 13 (by decide)).symm
  rw [f3a]
  have Ra : RFS K PL VL t [8, 18, 19] a3 := R3.mv fa3 (by decide) (by decide)
  have Aa : FrA (ALW sd) h a3 := by
    refine (FrA.fr f1 (by decide) (by decide)).trans ((FrA.fr f2 (by decide) (by decide)).trans ((FrA.fr f3 (by decide) (by decide)).trans ?_))
    rw [ha3]
    refine FrA.up (FrA.up FrA.rfl ?_) ?_
    · unfold ALW; omega
    · unfold ALW; omega
  have Fa : Fr [145, 146] [11, 13, 14, 15, 16] h a3 := (f1.mono (by decide) (by decide)).trans ((f2.mono (by decide) (by decide)).trans ((f3.mono (by decide) (by decide)).trans (fa3.mono (by decide) (by decide))))
  have ola : ∀ j, a3 145 j = if j = 9 * sd + nc then r3 else h 145 j := fun j => by
    rw [ha3, up_row (by decide), up_in, f3.at 145 (by decide) (by decide), f2.at 145 (by decide) (by decide), f1.at 145 (by decide) (by decide)]
  have oma : ∀ j, a3 146 j = if j = 9 * sd + nc then 0 else h 146 j := fun j => by
    rw [ha3, up_in, up_row (by decide), f3.at 146 (by decide) (by decide), f2.at 146 (by decide) (by decide), f1.at 146 (by decide) (by decide)]
  have ota : ∀ j, j ≠ 9 * sd + nc → a3 145 j = h 145 j ∧ a3 146 j = h 146 j := fun j hj => ⟨by rw [ola, if_neg hj], by rw [oma, if_neg hj]⟩
  have data : FS K [8, 18, 19] t = none → r2 = ((t + 1 : Nat) : Int) ∧ K (t + 1) = 18 ∧ r3 = VL (t + 2) ∧ EVT (KNR h (VL (t + 1))) 3 (PL (t + 1) : Int) (WNK h) (WNK h2) ∧ EVT (¬ (1 ≤ VL (t + 2) ∧ VL (t + 2) ≤ 12)) 5 (PL (t + 2) : Int) (WNK h2) (WNK a3) := by
    intro nn
    obtain ⟨e2a, e2b⟩ : r2 = ((t + 1 : Nat) : Int) ∧ EVT (KNR h1 (VL (t + 1))) 3 (PL (t + 1) : Int) (WNK h1) (WNK h2) := e2 (FS_pre (E := [8, 18]) (F := [19]) nn)
    obtain ⟨e3a, e3b⟩ : r3 = VL (t + 2) ∧ EVT (¬ (1 ≤ VL (t + 2) ∧ VL (t + 2) ≤ 12)) 5 (PL (t + 2) : Int) (WNK h2) (WNK h3) := e3 nn
    refine ⟨e2a, (FS_none nn).1 1 (by decide), e3a, ?_, ?_⟩
    · rw [KNR_fr f1 (by decide) (by decide), WNK_fr f1 (by decide) (by decide)] at e2b
      exact e2b
    · rw [WNK_fr fa3 (by decide) (by decide)]; exact e3b
  -- a way told
  have way : ∀ h4, h4 = a3 → FS K [8, 18, 19] t = none → (K (t + 3) = 9 ∨ K (t + 3) = 10) → WV N 235 41 [(0, .inr (.inr 130)), (1, .inl ((9 : Int) * (sd : Int) + (nc : Int))), (2, .inl r2)] h4 C := by
    intro h4 e4 nn o
    subst e4
    have hL := LCK_y o
    have hk3 : ∀ k ∈ [8, 18, 19], k < 31 := by decide
    have hk4 : ∀ k ∈ [8, 18, 19] ++ [K (t + 3)], k < 31 := fun k hh => by
      rcases List.mem_append.mp hh with y | y
      · exact hk3 k y
      · have := List.mem_singleton.mp y; omega
    have hk5 : ∀ k ∈ [8, 18, 19] ++ [K (t + 3)] ++ [19], k < 31 := fun k hh => by
      rcases List.mem_append.mp hh with y | y
      · exact hk4 k y
      · have := List.mem_singleton.mp y; omega
    have dn := data nn
    have step : ∀ r1 : Int, (r1 = 1 ∧ K (t + 3) = 9 ∨ r1 = 0 ∧ K (t + 3) = 10) → WV N 229 0 [(0, .inr (.inr 130))] h4 (fun h2 => WI N 233 0 [(0, .inr (.inr 130)), (1, .inl 0), (2, .inl 30)] h2 (fun r3 h3 => (r1 = 0 → (am_ix ((9 : Int) * (sd : Int) + (nc : Int)) 18 ∧ WV N 235 63 [(0, .inr (.inr 130)), (2, .inl r2)] (am_up h3 146 ((9 : Int) * (sd : Int) + (nc : Int)).toNat r3) C)) ∧ (¬ (r1 = 0) → (am_rg (-r3) ∧ (am_ix ((9 : Int) * (sd : Int) + (nc : Int)) 18 ∧ WV N 235 63 [(0, .inr (.inr 130)), (2, .inl r2)] (am_up h3 146 ((9 : Int) * (sd : Int) + (nc : Int)).toNat (-r3)) C))))) := by
      intro r1 hr
      refine m_goesOnR Q Ra hk3 ⟨nn, (show K (t + 3) = K (t + 3) from rfl)⟩ (by omega) (fun h5 f5 R5 => m_toldG Q R5 hk4 (fun r6 h6 rg f6 R6 e6 => ?_))
      rw [ek]
      have go : ∀ v : Int, (FS K ([8, 18, 19] ++ [K (t + 3)] ++ [19]) t = none → v = if K (t + 3) = 9 then -(VL (t + 4)) else if K (t + 3) = 10 then VL (t + 4) else 0) → WV N 235 63 [(0, .inr (.inr 130)), (2, .inl r2)] (am_up h6 146 (9 * sd + nc) v) C := by
        intro v hv
        have f7 : Fr [146] [] h6 (am_up h6 146 (9 * sd + nc) v) := Fr.rfl.up (by decide) (by decide)
        refine fin ([8, 18, 19] ++ [K (t + 3)] ++ [19]) _ r2 hL.symm hk5 (Aa.trans ((FrA.fr f5 (by decide) (by decide)).trans ((FrA.fr f6 (by decide) (by decide)).trans (FrA.up FrA.rfl ?_)))) (Fa.trans ((f5.mono (by decide) (by decide)).trans ((f6.mono (by decide) (by decide)).trans (f7.mono (by decide) (by decide))))) (R6.mv f7 (by decide) (by decide)) (fun j hj => ⟨?_, ?_⟩) (fun n5 => ?_)
        · unfold ALW; omega
        · rw [f7.at 145 (by decide) (by decide), f6.at 145 (by decide) (by decide), f5.at 145 (by decide) (by decide)]; exact (ota j hj).1
        · rw [up_ne hj, f6.at 146 (by decide) (by decide), f5.at 146 (by decide) (by decide)]; exact (ota j hj).2
        · obtain ⟨d1, d2, d3, d4, d5⟩ := dn
          obtain ⟨e6a, e6b⟩ : r6 = VL (t + 4) ∧ EVT (¬ (0 ≤ VL (t + 4) ∧ VL (t + 4) ≤ 30)) 5 (PL (t + 4) : Int) (WNK h5) (WNK h6) := e6 n5
          refine ⟨d1, d2, by simp, ?_, ?_, WNK h2, WNK h4, d4, d5, ?_⟩
          · rw [f7.at 145 (by decide) (by decide), f6.at 145 (by decide) (by decide), f5.at 145 (by decide) (by decide), ola, if_pos rfl, d3]
          · rw [up_same]; exact hv n5
          · rw [WNK_fr f7 (by decide) (by decide)]
            rw [WNK_fr f5 (by decide) (by decide)] at e6b
            exact e6b.iff ⟨fun z => ⟨o, z⟩, fun z => z.2⟩
      have rg6 : FS K ([8, 18, 19] ++ [K (t + 3)] ++ [19]) t = none → r6 = VL (t + 4) := fun z => (e6 z).1
      refine ⟨fun z => ck_ix (by omega) (go r6 (fun n5 => ?_)), fun z => ck_rg ?_ (ck_ix (by omega) (go (-r6) (fun n5 => ?_)))⟩
      · clear rg
        rw [rg6 n5, if_neg (by omega), if_pos (by omega)]
      · rcases rg with y | ⟨j, k4, y⟩
        · omega
        · have := Q.2.2.1 _ k4
          omega
      · clear rg
        rw [rg6 n5, if_pos (by omega)]
    refine w_235_41 (m_isR Q Ra hk3 (k := 9) ⟨rfl, by decide⟩ (fun _ k9 => step 1 (Or.inl ⟨rfl, k9⟩)) (fun no => step 0 (Or.inr ⟨rfl, ?_⟩)))
    have : ¬ K (t + 3) = 9 := fun z => no ⟨nn, z⟩
    omega
  have no63 : ∀ h4, h4 = a3 → (FS K [8, 18, 19] t = none → ¬ (K (t + 3) = 9 ∨ K (t + 3) = 10)) → WV N 235 63 [(0, .inr (.inr 130)), (2, .inl r2)] h4 C := by
    intro h4 e4 imp
    subst e4
    by_cases o : K (t + 3) = 9 ∨ K (t + 3) = 10
    · rcases hx : FS K [8, 18, 19] t with _ | e
      · exact absurd o (imp hx)
      · have hk5 : ∀ k ∈ [8, 18, 19] ++ [K (t + 3), 19], k < 31 := fun k hh => by
          simp only [List.mem_append, List.mem_cons, List.not_mem_nil, or_false] at hh
          omega
        refine fin ([8, 18, 19] ++ [K (t + 3), 19]) h4 r2 (LCK_y o).symm hk5 Aa Fa (Ra.ext hx) ota (fun z => ?_)
        rw [FS_app.2 e hx] at z; cases z
    · refine fin [8, 18, 19] h4 r2 (LCK_n o).symm (by decide) Aa Fa Ra ota (fun nn => ?_)
      obtain ⟨d1, d2, d3, d4, d5⟩ := data nn
      refine ⟨d1, d2, by simp, ?_, ?_, WNK h2, WNK h4, d4, d5, EVT.no (fun z => o z.1)⟩
      · rw [ola, if_pos rfl, d3]
      · rw [oma, if_pos rfl, if_neg (fun z => o (Or.inl z)), if_neg (fun z => o (Or.inr z))]
  refine ⟨fun f => no63 _ rfl (fun nn => absurd (Ra.f0.1 nn) f), fun f => ?_⟩
  have nn : FS K [8, 18, 19] t = none := Ra.f0.2.2 (Classical.byContradiction f)
  refine m_isR Q Ra (by decide) (k := 9) ⟨rfl, by decide⟩ (fun _ k9 => ⟨fun _ => way _ rfl nn (Or.inl k9), fun z => absurd (by decide) z⟩) (fun n9 => ⟨fun z => absurd rfl z, fun _ => m_isR Q Ra (by decide) (k := 10) ⟨rfl, by decide⟩ (fun _ k10 => ⟨fun z => absurd z (by decide), fun _ => way _ rfl nn (Or.inr k10)⟩) (fun n10 => ⟨fun _ => no63 _ rfl (fun _ z => ?_), fun z => absurd rfl z⟩)⟩)
  rcases z with z | z
  · exact n9 ⟨nn, z⟩
  · exact n10 ⟨nn, z⟩
