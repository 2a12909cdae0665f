/-! rows of new cells, of Object's constructor, of arraycopy, of switches -/
theorem dv_fs : ∀ c, c < 13 → ∀ ad : Nat → Nat, ∀ j, j < nf c → defaultValue (cTy c j) = vp_V ((List.range (nf c)).map fun k => am_fv ad (ftab c k) (List.replicate (nf c) 0) (fun _ => 0) k) j := by
  intro c hc ad j hj
  have h := cls_ty c hc j hj
  unfold vp_V
  rw [List.getD_eq_getElem?_getD, List.getElem?_map, List.getElem?_range hj]
  show _ = am_fv ad (ftab c j) (List.replicate (nf c) 0) (fun _ => 0) j
  unfold tyIs at h
  split at h
  · rename_i e
    rw [e]
    have hz : am_nth 0 (List.replicate (nf c) 0) j = 0 := by
      have := am_nth_get 0 (List.replicate (nf c) 0) j (by simpa using hj)
      rw [List.getElem?_replicate, if_pos hj] at this
      exact (Option.some.inj this).symm
    show _ = cv ad (.inr (.inr (am_nth 0 (List.replicate (nf c) 0) j)))
    rw [hz]
    revert h
    cases cTy c j <;> intro h <;> first | rfl | cases h
  · rename_i e
    rw [e, of_decide_eq_true h]
    rfl
  · rename_i e
    rw [e, of_decide_eq_true h]
    rfl
  · rename_i e
    rw [e, of_decide_eq_true h]
    rfl
  · cases h
/-- classes that are made: in which class, which entry, which class -/
def tNw : List (Nat × Nat × Nat) := [(13, 7, 11), (11, 7, 10), (11, 16, 3), (3, 45, 4), (11, 23, 6), (6, 9, 3), (11, 32, 9), (11, 43, 5),
  (11, 52, 0), (11, 61, 2), (11, 68, 8), (11, 75, 7), (11, 82, 1), (13, 10, 12)]
theorem tNw_ok : ∀ q ∈ tNw, Cond.classLink (cN q.1) q.2.1 (cN q.2.2) ∈ lw_tbl := am_tab tNw [176, 7, 91, 5, 129, 5, 49, 73, 46, 58, 24, 48, 31, 929] (fun q => Cond.classLink (cN q.1) q.2.1 (cN q.2.2)) (by decide +kernel)
theorem tNw_lt : ∀ q ∈ tNw, q.2.2 < 13 := by decide +kernel
theorem ins_ok : ∀ q ∈ ([11, 10, 3, 4, 6, 9, 5, 0, 2, 8, 7, 1, 12] : List Nat), Cond.instantiable (cN q) (nf q) ∈ lw_tbl := am_tab _ [177, 7, 91, 5, 129, 55, 73, 46, 58, 24, 48, 31, 929] (fun q => Cond.instantiable (cN q) (nf q)) (by decide +kernel)
theorem ins_all : ∀ c, c < 13 → c ∈ ([11, 10, 3, 4, 6, 9, 5, 0, 2, 8, 7, 1, 12] : List Nat) := by decide
theorem ini_ok : ∀ q ∈ ([13, 11, 10, 14, 15, 16, 3, 4, 6, 9, 5, 0, 2, 8, 7, 1, 12, 17, 18, 19, 20] : List Nat), Cond.initialized (cN q) ∈ lw_tbl := am_tab _ [152, 0, 0, 0, 0, 0, 1, 0, 0, 0, 0, 0, 0, 0, 0, 0, 0, 0, 2, 0, 0] (fun q => Cond.initialized (cN q)) (by decide +kernel)
theorem ini_all : ∀ c, c < 21 → c ∈ ([13, 11, 10, 14, 15, 16, 3, 4, 6, 9, 5, 0, 2, 8, 7, 1, 12, 17, 18, 19, 20] : List Nat) := by decide
theorem arI : Cond.arrayClass .int ∈ lw_tbl := am_sel_in [275] _ _ (by decide +kernel)
theorem arJ : Cond.arrayClass .long ∈ lw_tbl := am_sel_in [274] _ _ (by decide +kernel)
theorem arB : Cond.arrayClass .byte ∈ lw_tbl := am_sel_in [273] _ _ (by decide +kernel)
theorem arZ : Cond.arrayClass .boolean ∈ lw_tbl := am_sel_in [1967] _ _ (by decide +kernel)
theorem arS : Cond.arrayOver (.object "WakeHouse$State") ∈ lw_tbl := am_sel_in [541] _ _ (by decide +kernel)
theorem mNf_at : ∀ c, c < 13 → mNa (1000 + c) = nf c := by decide +kernel
section S32
variable {G : aG} {cc : ByteArray} {own pc : Nat} {ls : aL} {st : List aV} {S : aS}
theorem s_new {ix ci : Nat} (hF : FX G cc own) (hd : decode cc pc = .ok (.new ix, 3)) (ht : (own, ix, ci) ∈ tNw) (hrm : S.1.length + 1 ≤ an0 G + (aR G).cells ∧ am_sz S.1 + nf ci ≤ az0 G + (aR G).slots)
    (k : WA G (pc + 3) ls (.inr (.inr S.1.length) :: st) (S.1 ++ [(10 + ci, mNa (1000 + ci), List.replicate (mNa (1000 + ci)) 0)], am_z S)) : WA G pc ls st S := by
  obtain ⟨p, l, e, R, s, m, args, below, meth, c, Q, nL, dC, dI, ct, ad, n0, z0, x0⟩ := G
  have hci : ci < 13 := tNw_lt _ ht
  rw [mNf_at ci hci] at k
  intro H locs lsC hR hlv h1 h2
  obtain ⟨hx, hb, hml, hown, hts, hK, hrow, hsz, h9⟩ := hF
  have hn := hR.2.2.2.1.1
  have hz := hR.2.2.2.2.1.1.1
  obtain ⟨r1, r2⟩ := hrm
  have r1 : S.1.length + 1 ≤ n0 + R.cells := r1
  have r2 : am_sz S.1 + nf ci ≤ z0 + R.slots := r2
  refine va_new (ci := ci) hx hb (lay_of hts hci) (fun w h => h) (cTy ci) (cls_pf ci hci) hown (hts _ (tNw_ok _ ht) rfl) (hts _ (ins_ok ci (ins_all ci hci)) rfl) (hts _ (ini_ok ci (ini_all ci (by omega))) rfl) hK hR.1 (am_w_D hrow S) hR.2.1 (fun q hq => by show ad 9 ≤ q; omega) (cls_at ci hci) (dv_fs ci hci ad) (by omega) (by omega) hd (fun q H1 hP1 hD1 hS1 => ?_)
  refine W_sz (fun hs => ?_)
  have hq := new_addr hrow (by omega) hP1 hD1 (by omega)
  subst hq
  have kk : W p l e R s m args below meth c H1 locs ((S.1 ++ [(10 + ci, nf ci, List.replicate (nf ci) 0)]).length - n0) (am_sz (S.1 ++ [(10 + ci, nf ci, List.replicate (nf ci) 0)]) - z0) Q (F0 m (pc + 3) lsC (cv ad (.inr (.inr S.1.length)) :: st.map (cv ad))) := k H1 locs lsC (RR.push h9 ⟨r1, r2⟩ hR (by rw [am_e_o (n := ci) rfl]) hP1 hS1) hlv h1 (ok_c.mpr ⟨trivial, h2⟩)
  rw [am_sz_app] at kk
  simp only at kk
  rw [show ∀ x : aC, (S.1 ++ [x]).length - n0 = S.1.length - n0 + 1 from fun x => by simp; omega, show am_sz S.1 + nf ci - z0 = am_sz S.1 - z0 + nf ci by omega] at kk
  rw [cv_ref (by omega) (by omega)] at kk
  exact kk
theorem s_newa {n : Int} {ty : ArrayType} {kd : Nat} (hF : FX G cc own) (hd : decode cc pc = .ok (.newarray ty, 2)) (hty : (ty = .int ∧ kd = 1) ∨ (ty = .long ∧ kd = 2) ∨ (ty = .byte ∧ kd = 3) ∨ (ty = .boolean ∧ kd = 4)) (hn : 0 ≤ n ∧ n ≤ 100000) (hrm : S.1.length + 1 ≤ an0 G + (aR G).cells ∧ am_sz S.1 + n.toNat ≤ az0 G + (aR G).slots)
    (k : WA G (pc + 2) ls (.inr (.inr S.1.length) :: st) (S.1 ++ [(kd, n.toNat, [])], am_z S)) : WA G pc ls (.inl n :: st) S := by
  obtain ⟨p, l, e, R, s, m, args, below, meth, c, Q, nL, dC, dI, ct, ad, n0, z0, x0⟩ := G
  intro H locs lsC hR hlv h1 h2
  obtain ⟨hx, hb, hml, hown, hts, hK, hrow, hsz, h9⟩ := hF
  have hnn := hR.2.2.2.1.1
  have hz := hR.2.2.2.2.1.1.1
  obtain ⟨r1, r2⟩ := hrm
  have r1 : S.1.length + 1 ≤ n0 + R.cells := r1
  have r2 : am_sz S.1 + n.toNat ≤ z0 + R.slots := r2
  have hrg : am_rg n := ⟨by omega, by omega⟩
  have hneg : ¬ Int32.ofInt n < 0 := fun z => by have := (lt32 hrg rg0).mp z; omega
  have fin : ∀ (q : Nat) (H1 : Heap) (x : va_E), am_e ftab ct ad (kd, n.toNat, []) (fun _ => 0) = x → va_P (dC, dI) vwCl (am_w ftab ct ad S ++ [(q, x)]) H1 → va_D (am_A ad) (am_w ftab ct ad S ++ [(q, x)]) → va_S (am_A ad) s.heap H1 locs →
      W p l e R s m args below meth c H1 locs (S.1.length - n0 + 1) (am_sz S.1 - z0 + n.toNat) Q (F0 m (pc + 2) lsC (.ref q :: st.map (cv ad))) := by
    intro q H1 x hxe hP1 hD1 hS1
    refine W_sz (fun hs => ?_)
    have hq := new_addr hrow (by omega) hP1 hD1 (by omega)
    subst hq
    have kk : W p l e R s m args below meth c H1 locs ((S.1 ++ [(kd, n.toNat, ([] : List Nat))]).length - n0) (am_sz (S.1 ++ [(kd, n.toNat, ([] : List Nat))]) - z0) Q (F0 m (pc + 2) lsC (cv ad (.inr (.inr S.1.length)) :: st.map (cv ad))) := k H1 locs lsC (RR.push h9 ⟨r1, r2⟩ hR hxe hP1 hS1) hlv h1 (ok_c.mpr ⟨trivial, (ok_c.mp h2).2⟩)
    rw [am_sz_app] at kk
    simp only at kk
    rw [show ∀ x : aC, (S.1 ++ [x]).length - n0 = S.1.length - n0 + 1 from fun x => by simp; omega, show am_sz S.1 + n.toNat - z0 = am_sz S.1 - z0 + n.toNat by omega] at kk
    rw [cv_ref (by omega) (by omega)] at kk
    exact kk
  rcases hty with ⟨rfl, rfl⟩ | ⟨rfl, rfl⟩ | ⟨rfl, rfl⟩ | ⟨rfl, rfl⟩
  · refine va_newa (atype := .int) (ty := .int) (a0 := (n.toNat, .inl fun _ => 0)) hx hb (hts _ arI rfl) rfl hK hR.1 (am_w_D hrow S) hR.2.1 (fun q hq => by show ad 9 ≤ q; omega) (fun cA => rfl) hneg (cl32 hrg) (by show n.toNat * 4 ≤ _; omega) (by omega) (by omega) hd (fun q cA H1 hK1 hP1 hD1 hS1 => ?_)
    have e : cA = ct 1 := Option.some.inj ((hK1.2 5 (cA, .int) rfl).2.symm.trans (hK.2 0 _ rfl).2)
    subst e
    exact fin q H1 _ rfl hP1 hD1 hS1
  · refine va_newa (atype := .long) (ty := .long) (a0 := (n.toNat, .inr (.inl fun _ => 0))) hx hb (hts _ arJ rfl) rfl hK hR.1 (am_w_D hrow S) hR.2.1 (fun q hq => by show ad 9 ≤ q; omega) (fun cA => rfl) hneg (cl32 hrg) (by show n.toNat * 8 ≤ _; omega) (by omega) (by omega) hd (fun q cA H1 hK1 hP1 hD1 hS1 => ?_)
    have e : cA = ct 2 := Option.some.inj ((hK1.2 5 (cA, .long) rfl).2.symm.trans (hK.2 1 _ rfl).2)
    subst e
    exact fin q H1 _ rfl hP1 hD1 hS1
  · refine va_newa (atype := .byte) (ty := .byte) (a0 := (n.toNat, .inl fun _ => 0)) hx hb (hts _ arB rfl) rfl hK hR.1 (am_w_D hrow S) hR.2.1 (fun q hq => by show ad 9 ≤ q; omega) (fun cA => rfl) hneg (cl32 hrg) (by show n.toNat * 1 ≤ _; omega) (by omega) (by omega) hd (fun q cA H1 hK1 hP1 hD1 hS1 => ?_)
    have e : cA = ct 3 := Option.some.inj ((hK1.2 5 (cA, .byte) rfl).2.symm.trans (hK.2 2 _ rfl).2)
    subst e
    exact fin q H1 _ rfl hP1 hD1 hS1
  · refine va_newa (atype := .boolean) (ty := .boolean) (a0 := (n.toNat, .inl fun _ => 0)) hx hb (hts _ arZ rfl) rfl hK hR.1 (am_w_D hrow S) hR.2.1 (fun q hq => by show ad 9 ≤ q; omega) (fun cA => rfl) hneg (cl32 hrg) (by show n.toNat * 1 ≤ _; omega) (by omega) (by omega) hd (fun q cA H1 hK1 hP1 hD1 hS1 => ?_)
    have e : cA = ct 4 := Option.some.inj ((hK1.2 5 (cA, .boolean) rfl).2.symm.trans (hK.2 3 _ rfl).2)
    subst e
    exact fin q H1 _ rfl hP1 hD1 hS1
theorem s_newq {n : Int} {ix : Nat} (hF : FX G cc own) (hd : decode cc pc = .ok (.anewarray ix, 3)) (ht : (own, ix, 9) ∈ tNw) (hn : 0 ≤ n ∧ n ≤ 100000) (hrm : S.1.length + 1 ≤ an0 G + (aR G).cells ∧ am_sz S.1 + n.toNat ≤ az0 G + (aR G).slots)
    (k : WA G (pc + 3) ls (.inr (.inr S.1.length) :: st) (S.1 ++ [(5, n.toNat, List.replicate n.toNat 0)], am_z S)) : WA G pc ls (.inl n :: st) S := by
  obtain ⟨p, l, e, R, s, m, args, below, meth, c, Q, nL, dC, dI, ct, ad, n0, z0, x0⟩ := G
  intro H locs lsC hR hlv h1 h2
  obtain ⟨hx, hb, hml, hown, hts, hK, hrow, hsz, h9⟩ := hF
  have hnn := hR.2.2.2.1.1
  have hz := hR.2.2.2.2.1.1.1
  obtain ⟨r1, r2⟩ := hrm
  have r1 : S.1.length + 1 ≤ n0 + R.cells := r1
  have r2 : am_sz S.1 + n.toNat ≤ z0 + R.slots := r2
  have hrg : am_rg n := ⟨by omega, by omega⟩
  have hneg : ¬ Int32.ofInt n < 0 := fun z => by have := (lt32 hrg rg0).mp z; omega
  refine va_newq (C := "WakeHouse$State") hx hb hown (hts _ (tNw_ok _ ht) rfl) (va_AO.of (hts _ arS rfl)) hK hR.1 (am_w_D hrow S) hR.2.1 (fun q hq => by show ad 9 ≤ q; omega) hneg (cl32 hrg) (by omega) (by omega) (by omega) hd (fun q cA H1 hK1 hP1 hD1 hS1 => ?_)
  have e : cA = ct 5 := by
    obtain ⟨_, _, _, _, _, e1⟩ := (hK1.2 5 (cA, .object "WakeHouse$State") rfl).2
    obtain ⟨_, _, _, _, _, e2⟩ := (hK.2 4 _ rfl).2
    exact Option.some.inj (e1.symm.trans e2)
  subst e
  refine W_sz (fun hs => ?_)
  have hq := new_addr hrow (by omega) hP1 hD1 (by omega)
  subst hq
  have hxe : am_e ftab ct ad (5, n.toNat, List.replicate n.toNat 0) (fun _ => 0) = Sum.inl (ct 5, n.toNat, Sum.inr (Sum.inr (Sum.inr (Sum.inr (fun _ => none))))) := by
    unfold am_e
    show Sum.inl (ct 5, n.toNat, Sum.inr (Sum.inr (Sum.inr (Sum.inr (fun j => am_opt ad (am_nth 0 (List.replicate n.toNat 0) j)))))) = _
    congr 7
    funext j
    have hz : am_nth 0 (List.replicate n.toNat 0) j = 0 := by
      rcases Nat.lt_or_ge j n.toNat with hj | hj
      · have := am_nth_get 0 (List.replicate n.toNat 0) j (by simpa using hj)
        rw [List.getElem?_replicate, if_pos hj] at this
        exact (Option.some.inj this).symm
      · exact am_nth_out _ _ _ (by simpa using hj)
    rw [hz]
    rfl
  have kk : W p l e R s m args below meth c H1 locs ((S.1 ++ [(5, n.toNat, List.replicate n.toNat 0)]).length - n0) (am_sz (S.1 ++ [(5, n.toNat, List.replicate n.toNat 0)]) - z0) Q (F0 m (pc + 3) lsC (cv ad (.inr (.inr S.1.length)) :: st.map (cv ad))) := k H1 locs lsC (RR.push h9 ⟨r1, r2⟩ hR hxe hP1 hS1) hlv h1 (ok_c.mpr ⟨trivial, (ok_c.mp h2).2⟩)
  rw [am_sz_app] at kk
  simp only at kk
  rw [show ∀ x : aC, (S.1 ++ [x]).length - n0 = S.1.length - n0 + 1 from fun x => by simp; omega, show am_sz S.1 + n.toNat - z0 = am_sz S.1 - z0 + n.toNat by omega] at kk
  rw [cv_ref (by omega) (by omega)] at kk
  exact kk
/-- Object's constructor: in which class, which entry -/
def tOi : List (Nat × Nat) := [(11, 1), (10, 1), (3, 3), (4, 3), (6, 3), (9, 3), (5, 3), (0, 3),
  (2, 3), (8, 5), (7, 3), (1, 3), (12, 7)]
theorem tOi_ok : ∀ q ∈ tOi, Cond.methodLink (cN q.1) q.2 Lib.objectInit ∈ lw_tbl := am_tab tOi [181, 7, 91, 5, 129, 55, 73, 46, 58, 24, 48, 31, 929] (fun q => Cond.methodLink (cN q.1) q.2 Lib.objectInit) (by decide +kernel)
theorem oiA : Cond.instanceMethod Lib.objectInit ∈ lw_tbl := am_sel_in [182] _ _ (by decide +kernel)
theorem oiB : Cond.code Lib.objectInit ⟨#[0xb1]⟩ 1 none ∈ lw_tbl := am_sel_in [183] _ _ (by decide +kernel)
theorem s_oi {r ix : Nat} (hF : FX G cc own) (hd : decode cc pc = .ok (.invokespecial ix, 3)) (ht : (own, ix) ∈ tOi) (h0 : r ≠ 0) (h8 : r ≠ 8) (hst : ((st.map (cv (aAd G))).map (fun v => v.category)).sum ≤ 8) (hrm : 1 ≤ (aR G).frames ∧ 20 ≤ (aR G).locals) (k : WA G (pc + 3) ls st S) : WA G pc ls (.inr (.inr r) :: st) S := by
  obtain ⟨p, l, e, R, s, m, args, below, meth, c, Q, nL, dC, dI, ct, ad, n0, z0, x0⟩ := G
  intro H locs lsC hR hlv h1 h2
  obtain ⟨hx, hb, hml, hown, hts, hK, hrow, hsz, h9⟩ := hF
  have kk := k H locs lsC hR hlv h1 (ok_c.mp h2).2
  show W p l e R s m args below meth c H locs _ _ Q (F0 m pc lsC (cv ad (.inr (.inr r)) :: st.map (cv ad)))
  rw [cv_ref h0 h8]
  obtain ⟨r1, r2⟩ := hrm
  have r2 : 20 ≤ R.locals := r2
  refine W.objInit hx hb hown (hts _ (tOi_ok _ ht) rfl) (hts _ oiA rfl) (hts _ oiB rfl) rfl (hlv.1.trans hml.symm) rfl hd r1 ?_ kk
  have := lv_room (m := m) (pc := pc) (ls := lsC) (rest := []) hst
  have e2 : (F0 m pc lsC (.ref (ad r) :: st.map (cv ad))).monitorRoom = (F0 m pc lsC []).monitorRoom := rfl
  rw [e2]
  have hst2 : (st.map (cv (aAd (p, l, e, R, s, m, args, below, meth, c, Q, nL, dC, dI, ct, ad, n0, z0, x0)))) = st.map (cv ad) := rfl
  rw [hst2] at this
  omega
/-- arraycopy: in which class, which entry -/
def tAc : List (Nat × Nat) := [(3, 86), (4, 22), (5, 161), (1, 61), (9, 66)]
theorem tAc_ok : ∀ q ∈ tAc, Cond.methodLink (cN q.1) q.2 arraycopyName ∈ lw_tbl := am_tab tAc [1039, 6, 401, 32, 187] (fun q => Cond.methodLink (cN q.1) q.2 arraycopyName) (by decide +kernel)
theorem acA : Cond.native arraycopyName ∈ lw_tbl := am_sel_in [1041] _ _ (by decide +kernel)
theorem acB : Cond.static arraycopyName ∈ lw_tbl := am_sel_in [1040] _ _ (by decide +kernel)
theorem acC : Cond.initialized "java/lang/System" ∈ lw_tbl := am_sel_in [172] _ _ (by decide +kernel)
theorem am_cp_at (h : aH) (s sp d dp n q j : Nat) : am_cp h s sp d dp n q j = if q = d ∧ dp ≤ j ∧ j < dp + n then h s (sp + (j - dp)) else h q j := by
  unfold am_cp
  by_cases e : q = d ∧ dp ≤ j ∧ j < dp + n
  · rw [if_pos e, e.1]
    simp [Nat.ble_eq_true_of_le e.2.1, Nat.blt, Nat.ble_eq_true_of_le (show j + 1 ≤ dp + n by omega)]
  · rw [if_neg e]
    have : (Nat.beq q d && (Nat.ble dp j && Nat.blt j (dp + n))) = false := by
      cases hb : (Nat.beq q d && (Nat.ble dp j && Nat.blt j (dp + n))) with
      | false => rfl
      | true =>
        obtain ⟨b1, b2⟩ := Bool.and_eq_true_iff.mp hb
        obtain ⟨b2, b3⟩ := Bool.and_eq_true_iff.mp b2
        exact absurd ⟨Nat.eq_of_beq_eq_true b1, Nat.le_of_ble_eq_true b2, Nat.le_of_ble_eq_true b3⟩ e
    rw [this]
    rfl
theorem s_ac {n dp sp : Int} {d s0 ix : Nat} (hF : FX G cc own) (hd : decode cc pc = .ok (.invokestatic ix, 3)) (ht : (own, ix) ∈ tAc) (hne : s0 ≠ d) (hks : am_kd S.1 s0 = 1) (hkd : am_kd S.1 d = 1)
    (hb0 : 0 ≤ n ∧ 0 ≤ sp ∧ 0 ≤ dp ∧ sp + n ≤ (am_nth am_o0 S.1 s0).2.1 ∧ dp + n ≤ (am_nth am_o0 S.1 d).2.1) (hst : ((st.map (cv (aAd G))).map (fun v => v.category)).sum ≤ 8) (hrm : 1 ≤ (aR G).frames ∧ 80 ≤ (aR G).locals)
    (k : WA G (pc + 3) ls st (S.1, am_cp S.2 s0 sp.toNat d dp.toNat n.toNat)) : WA G pc ls (.inl n :: .inl dp :: .inr (.inr d) :: .inl sp :: .inr (.inr s0) :: st) S := by
  obtain ⟨p, l, e, R, s, m, args, below, meth, c, Q, nL, dC, dI, ct, ad, n0, z0, x0⟩ := G
  intro H locs lsC hR hlv h1 h2
  obtain ⟨hx, hb, hml, hown, hts, hK, hrow, hsz, h9⟩ := hF
  obtain ⟨on, h2⟩ := ok_c.mp h2
  obtain ⟨od, h2⟩ := ok_c.mp h2
  obtain ⟨-, h2⟩ := ok_c.mp h2
  obtain ⟨os, h2⟩ := ok_c.mp h2
  obtain ⟨-, h2⟩ := ok_c.mp h2
  obtain ⟨s9, sc, sl⟩ := kd_w hks (by decide) (by decide)
  obtain ⟨d9, dc, dl⟩ := kd_w hkd (by decide) (by decide)
  show W p l e R s m args below meth c H locs _ _ Q (F0 m pc lsC (.int (Int32.ofInt n) :: .int (Int32.ofInt dp) :: cv ad (.inr (.inr d)) :: .int (Int32.ofInt sp) :: cv ad (.inr (.inr s0)) :: st.map (cv ad)))
  rw [cv_ref (r := d) (by omega) (by omega), cv_ref (r := s0) (by omega) (by omega)]
  have sw := am_w_get (ft := ftab) (ct := ct) (ad := ad) (S := S) s9 sl
  unfold am_e at sw
  rw [sc] at sw
  have dw := am_w_get (ft := ftab) (ct := ct) (ad := ad) (S := S) d9 dl
  unfold am_e at dw
  rw [dc] at dw
  obtain ⟨b1, b2, b3, b4, b5⟩ := hb0
  obtain ⟨r1, r2⟩ := hrm
  have r2 : 80 ≤ R.locals := r2
  have neg : ∀ {z : Int}, am_rg z → 0 ≤ z → ¬ Int32.ofInt z < 0 := fun hz h0 q => by have := (lt32 hz rg0).mp q; omega
  refine va_copyi (ty := .int) hx hb (hml.trans hlv.1.symm) hown (hts _ (tAc_ok _ ht) rfl) (hts _ acA rfl) (hts _ acB rfl) (hts _ acC rfl) hK hR.1 (am_w_D hrow S) hR.2.1 (s0 - 9) (d - 9) 0 0 sw dw rfl rfl rfl (neg os b2) (neg od b3) (neg on b1) (by rw [cl32 os, cl32 on]; omega) (by rw [cl32 od, cl32 on]; omega) (fun i _ => rfl) r1 ?_ hd (fun H1 locs1 hP1 hD1 hS1 => ?_)
  · have hst2 : ((st.map (cv ad)).map fun v => v.category).sum ≤ 8 := hst
    have : nativeFrameWords "java/lang/System" "arraycopy" 5 = 7 := rfl
    omega
  · rw [cl32 os, cl32 od, cl32 on] at hP1
    refine k H1 locs1 lsC (RR.store (S2 := (S.1, am_cp S.2 s0 sp.toNat d dp.toNat n.toNat)) hR d9 dl rfl rfl (by
      unfold am_e
      rw [dc]
      show Sum.inl (ct 1, (am_nth am_o0 S.1 d).2.1, Sum.inl (fun j => Int32.ofInt (am_cp S.2 s0 sp.toNat d dp.toNat n.toNat d j))) = Sum.inl (ct 1, (am_nth am_o0 S.1 d).2.1, Sum.inl (va_cpy (fun j => Int32.ofInt (S.2 s0 j)) (fun j => Int32.ofInt (S.2 d j)) sp.toNat dp.toNat n.toNat))
      congr 4
      funext j
      rw [am_cp_at]
      unfold va_cpy
      by_cases ej : dp.toNat ≤ j ∧ j < dp.toNat + n.toNat
      · rw [if_pos ⟨rfl, ej⟩, if_pos ej]
      · rw [if_neg (fun z => ej z.2), if_neg ej]) (fun q hq => ⟨rfl, by funext j; show am_cp _ _ _ _ _ _ q j = _; rw [am_cp_at, if_neg (fun z => hq z.1)]⟩) ?_ hP1 hS1) hlv h1 h2
    intro q j
    show ok_t (am_ty ftab S.1 q j) (am_cp S.2 s0 sp.toNat d dp.toNat n.toNat q j)
    rw [am_cp_at]
    by_cases eq : q = d ∧ dp.toNat ≤ j ∧ j < dp.toNat + n.toNat
    · rw [if_pos eq, eq.1]
      have := hR.2.2.1 s0 (sp.toNat + (j - dp.toNat))
      unfold am_ty at this ⊢
      rw [hks] at this
      rw [hkd]
      exact this
    · rw [if_neg eq]
      exact hR.2.2.1 q j
/-- Math's max, min, abs -/
def tMx : List (Nat × Nat) := [(15, 92), (11, 388), (0, 84), (7, 77)]
def tMn : List (Nat × Nat) := [(15, 38), (11, 383), (2, 56), (7, 57)]
def tMa : List (Nat × Nat) := [(3, 109), (7, 89)]
theorem tMx_ok : ∀ q ∈ tMx, Cond.methodLink (cN q.1) q.2 Lib.Math.max.name ∈ lw_tbl := am_tab tMx [890, 235, 167, 250] (fun q => Cond.methodLink (cN q.1) q.2 Lib.Math.max.name) (by decide +kernel)
theorem tMn_ok : ∀ q ∈ tMn, Cond.methodLink (cN q.1) q.2 Lib.Math.min.name ∈ lw_tbl := am_tab tMn [893, 231, 240, 180] (fun q => Cond.methodLink (cN q.1) q.2 Lib.Math.min.name) (by decide +kernel)
theorem tMa_ok : ∀ q ∈ tMa, Cond.methodLink (cN q.1) q.2 Lib.Math.abs.name ∈ lw_tbl := am_tab tMa [1115, 430] (fun q => Cond.methodLink (cN q.1) q.2 Lib.Math.abs.name) (by decide +kernel)
theorem mxS : Cond.static Lib.Math.max.name ∈ lw_tbl := am_sel_in [891] _ _ (by decide +kernel)
theorem mnS : Cond.static Lib.Math.min.name ∈ lw_tbl := am_sel_in [894] _ _ (by decide +kernel)
theorem maS : Cond.static Lib.Math.abs.name ∈ lw_tbl := am_sel_in [1116] _ _ (by decide +kernel)
theorem mxC : Cond.code Lib.Math.max.name Lib.Math.max.code 2 (some .int) ∈ lw_tbl := am_sel_in [892] _ _ (by decide +kernel)
theorem mnC : Cond.code Lib.Math.min.name Lib.Math.min.code 2 (some .int) ∈ lw_tbl := am_sel_in [895] _ _ (by decide +kernel)
theorem maC : Cond.code Lib.Math.abs.name Lib.Math.abs.code 1 (some .int) ∈ lw_tbl := am_sel_in [1117] _ _ (by decide +kernel)
theorem maI : Cond.initialized "java/lang/Math" ∈ lw_tbl := am_sel_in [170] _ _ (by decide +kernel)
theorem s_max {a b : Int} {ix : Nat} (hF : FX G cc own) (hd : decode cc pc = .ok (.invokestatic ix, 3)) (ht : (own, ix) ∈ tMx) (hst : ((st.map (cv (aAd G))).map (fun v => v.category)).sum ≤ 8) (hrm : 1 ≤ (aR G).frames ∧ 30 ≤ (aR G).locals) (k : WA G (pc + 3) ls (.inl (max a b) :: st) S) : WA G pc ls (.inl b :: .inl a :: st) S := by
  obtain ⟨p, l, e, R, s, m, args, below, meth, c, Q, nL, dC, dI, ct, ad, n0, z0, x0⟩ := G
  intro H locs lsC hR hlv h1 h2
  obtain ⟨hx, hb, hml, hown, hts, hK, hrow, hsz, h9⟩ := hF
  obtain ⟨ob, h2⟩ := ok_c.mp h2
  obtain ⟨oa, h2⟩ := ok_c.mp h2
  have kk := k H locs lsC hR hlv h1 (ok_c.mpr ⟨by show am_rg _; obtain ⟨a1, a2⟩ := oa; obtain ⟨b1, b2⟩ := ob; exact ⟨by omega, by omega⟩, h2⟩)
  obtain ⟨r1, r2⟩ := hrm
  have r2 : 30 ≤ R.locals := r2
  have hst2 : ((st.map (cv ad)).map fun v => v.category).sum ≤ 8 := hst
  refine va_mmax (x := Int32.ofInt a) (y := Int32.ofInt b) hx hb (hml.trans hlv.1.symm) hown (hts _ (tMx_ok _ ht) rfl) (hts _ mxS rfl) (hts _ maI rfl) (hts _ mxC rfl) r1 (by show ((st.map (cv ad)).map fun v => v.category).sum + 13 ≤ R.locals; omega) (by show S.1.length - n0 ≤ R.cells; have := hR.2.2.2.1; omega) (by show am_sz S.1 - z0 ≤ R.slots; have := hR.2.2.2.2.1.1; omega) hd ?_
  have e1 : (if Int32.ofInt a < Int32.ofInt b then Int32.ofInt b else Int32.ofInt a) = Int32.ofInt (max a b) := by
    by_cases q : a < b
    · rw [if_pos ((lt32 oa ob).mpr q), show max a b = b by omega]
    · rw [if_neg (fun z => q ((lt32 oa ob).mp z)), show max a b = a by omega]
  rw [e1]
  exact kk
theorem s_min {a b : Int} {ix : Nat} (hF : FX G cc own) (hd : decode cc pc = .ok (.invokestatic ix, 3)) (ht : (own, ix) ∈ tMn) (hst : ((st.map (cv (aAd G))).map (fun v => v.category)).sum ≤ 8) (hrm : 1 ≤ (aR G).frames ∧ 30 ≤ (aR G).locals) (k : WA G (pc + 3) ls (.inl (min a b) :: st) S) : WA G pc ls (.inl b :: .inl a :: st) S := by
  obtain ⟨p, l, e, R, s, m, args, below, meth, c, Q, nL, dC, dI, ct, ad, n0, z0, x0⟩ := G
  intro H locs lsC hR hlv h1 h2
  obtain ⟨hx, hb, hml, hown, hts, hK, hrow, hsz, h9⟩ := hF
  obtain ⟨ob, h2⟩ := ok_c.mp h2
  obtain ⟨oa, h2⟩ := ok_c.mp h2
  have kk := k H locs lsC hR hlv h1 (ok_c.mpr ⟨by show am_rg _; obtain ⟨a1, a2⟩ := oa; obtain ⟨b1, b2⟩ := ob; exact ⟨by omega, by omega⟩, h2⟩)
  obtain ⟨r1, r2⟩ := hrm
  have r2 : 30 ≤ R.locals := r2
  have hst2 : ((st.map (cv ad)).map fun v => v.category).sum ≤ 8 := hst
  refine va_mmin (x := Int32.ofInt a) (y := Int32.ofInt b) hx hb (hml.trans hlv.1.symm) hown (hts _ (tMn_ok _ ht) rfl) (hts _ mnS rfl) (hts _ maI rfl) (hts _ mnC rfl) r1 (by show ((st.map (cv ad)).map fun v => v.category).sum + 13 ≤ R.locals; omega) (by show S.1.length - n0 ≤ R.cells; have := hR.2.2.2.1; omega) (by show am_sz S.1 - z0 ≤ R.slots; have := hR.2.2.2.2.1.1; omega) hd ?_
  have e1 : (if Int32.ofInt b < Int32.ofInt a then Int32.ofInt b else Int32.ofInt a) = Int32.ofInt (min a b) := by
    by_cases q : b < a
    · rw [if_pos ((lt32 ob oa).mpr q), show min a b = b by omega]
    · rw [if_neg (fun z => q ((lt32 ob oa).mp z)), show min a b = a by omega]
  rw [e1]
  exact kk
theorem s_abs {a : Int} {ix : Nat} (hF : FX G cc own) (hd : decode cc pc = .ok (.invokestatic ix, 3)) (ht : (own, ix) ∈ tMa) (hst : ((st.map (cv (aAd G))).map (fun v => v.category)).sum ≤ 8) (hrm : 1 ≤ (aR G).frames ∧ 30 ≤ (aR G).locals) (hg : am_rg (-a)) (k : WA G (pc + 3) ls (.inl (max a (-a)) :: st) S) : WA G pc ls (.inl a :: st) S := by
  obtain ⟨p, l, e, R, s, m, args, below, meth, c, Q, nL, dC, dI, ct, ad, n0, z0, x0⟩ := G
  intro H locs lsC hR hlv h1 h2
  obtain ⟨hx, hb, hml, hown, hts, hK, hrow, hsz, h9⟩ := hF
  obtain ⟨oa, h2⟩ := ok_c.mp h2
  have kk := k H locs lsC hR hlv h1 (ok_c.mpr ⟨by show am_rg _; obtain ⟨a1, a2⟩ := oa; obtain ⟨b1, b2⟩ := hg; exact ⟨by omega, by omega⟩, h2⟩)
  obtain ⟨r1, r2⟩ := hrm
  have r2 : 30 ≤ R.locals := r2
  have hst2 : ((st.map (cv ad)).map fun v => v.category).sum ≤ 8 := hst
  refine va_mabs (x := Int32.ofInt a) hx hb (hml.trans hlv.1.symm) hown (hts _ (tMa_ok _ ht) rfl) (hts _ maS rfl) (hts _ maI rfl) (hts _ maC rfl) r1 (by show ((st.map (cv ad)).map fun v => v.category).sum + 13 ≤ R.locals; omega) (by show S.1.length - n0 ≤ R.cells; have := hR.2.2.2.1; omega) (by show am_sz S.1 - z0 ≤ R.slots; have := hR.2.2.2.2.1.1; omega) hd ?_
  have e1 : (if 0 ≤ Int32.ofInt a then Int32.ofInt a else 0 - Int32.ofInt a) = Int32.ofInt (max a (-a)) := by
    by_cases q : 0 ≤ a
    · rw [if_pos (show (0 : Int32) ≤ Int32.ofInt a from (le32 rg0 oa).mpr q), show max a (-a) = a by omega]
    · rw [if_neg (show ¬ (0 : Int32) ≤ Int32.ofInt a from fun z => q ((le32 rg0 oa).mp z)), show max a (-a) = 0 - a by omega, ← sub32]
      rfl
  rw [e1]
  exact kk
theorem am_sw_ok {v : Int} {jmp : Nat → Prop} : ∀ (l : List Int) (a : Int), am_sw (X := Prop) False (fun c _ x y => (c → x) ∧ (¬ c → y)) jmp v a l → ∃ j : Nat, j < l.length ∧ v = a + j ∧ jmp (am_nth 0 l j).toNat
  | [], _, h => h.elim
  | t :: l, a, h => by
    by_cases e : v = a
    · exact ⟨0, by simp, by omega, h.1 e⟩
    · obtain ⟨j, h1, h2, h3⟩ := am_sw_ok l (a + 1) (h.2 e)
      exact ⟨j + 1, by simpa using h1, by omega, h3⟩
theorem s_swOut {v d lo hi : Int} {offs : Array Int} {len t : Nat} (hF : FX G cc own) (hd : decode cc pc = .ok (.tableswitch d lo hi offs, len)) (h : v < lo ∨ hi < v) (ht : (pc : Int) + d = (t : Int)) (k : WA G t ls st S) : WA G pc ls (.inl v :: st) S := by
  obtain ⟨p, l, e, R, s, m, args, below, meth, c, Q, nL, dC, dI, ct, ad, n0, z0, x0⟩ := G
  exact WA.stk k (fun ho H locs lsC kk => lv_tableOut (x := Int32.ofInt v) hF.1 hF.2.1 hd (by rw [t32 (ok_c.mp ho).1]; exact h) ht kk) (fun ho => (ok_c.mp ho).2)
theorem s_swIn {v d lo hi off : Int} {offs : Array Int} {len t : Nat} (hF : FX G cc own) (hd : decode cc pc = .ok (.tableswitch d lo hi offs, len)) (h : ¬ v < lo) (h2 : ¬ hi < v) (ho2 : offs[(v - lo).toNat]? = some off) (ht : (pc : Int) + off = (t : Int)) (k : WA G t ls st S) : WA G pc ls (.inl v :: st) S := by
  obtain ⟨p, l, e, R, s, m, args, below, meth, c, Q, nL, dC, dI, ct, ad, n0, z0, x0⟩ := G
  exact WA.stk k (fun ho H locs lsC kk => lv_tableIn (x := Int32.ofInt v) hF.1 hF.2.1 hd (by rw [t32 (ok_c.mp ho).1]; exact h) (by rw [t32 (ok_c.mp ho).1]; exact h2) (by rw [t32 (ok_c.mp ho).1]; exact ho2) ht kk) (fun ho => (ok_c.mp ho).2)
end S32
