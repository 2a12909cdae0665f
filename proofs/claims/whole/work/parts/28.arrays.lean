/-! rows of arrays, static fields, texts -/
section S28
variable {G : aG} {cc : ByteArray} {own pc : Nat} {ls : aL} {st : List aV} {S : aS}
theorem s_iald {r : Nat} {i : Int} (hF : FX G cc own) (hd : decode cc pc = .ok (.iaload, 1)) (hk : am_kd S.1 r = 1 ∨ am_kd S.1 r = 6) (hi : am_ix i (am_nth am_o0 S.1 r).2.1) (k : WA G (pc + 1) ls (.inl (S.2 r i.toNat) :: st) S) : WA G pc ls (.inl i :: .inr (.inr r) :: st) S := by
  obtain ⟨p, l, e, R, s, m, args, below, meth, c, Q, nL, dC, dI, ct, ad, n0, z0, x0⟩ := G
  intro H locs lsC hR hlv h1 h2
  obtain ⟨hiv, h2⟩ := ok_c.mp h2
  have hok : am_rg (S.2 r i.toNat) := by
    have := hR.2.2.1 r i.toNat
    unfold am_ty at this
    rcases hk with hk | hk <;> (rw [hk] at this; exact this)
  have kk := k H locs lsC hR hlv h1 (ok_c.mpr ⟨hok, (ok_c.mp h2).2⟩)
  show W p l e R s m args below meth c H locs _ _ Q (F0 m pc lsC (.int (Int32.ofInt i) :: cv ad (.inr (.inr r)) :: st.map (cv ad)))
  rcases hk with hk | hk
  · obtain ⟨h9, hc, hl⟩ := kd_w hk (by decide) (by decide)
    rw [cv_ref (by omega) (by omega)]
    have hw := am_w_get (ft := ftab) (ct := ct) (ad := ad) (S := S) h9 hl
    unfold am_e at hw
    rw [hc] at hw
    refine va_iald hF.1 hF.2.1 hF.2.2.2.2.2.1 hR.1 (r - 9) 0 hw rfl (ix32 hi hiv) hd ?_
    rw [cl32 hiv]
    exact kk
  · obtain ⟨h9, h0, h8⟩ := kd_x hk (by decide)
    rw [cv_ref h0 h8]
    refine va_ti hF.1 hF.2.1 ((hR.2.2.2.2.2.1 r h9).1 hk) hR.2.1 (ix32 hi hiv) rfl hd ?_
    rw [cl32 hiv]
    exact kk
theorem s_lald {r : Nat} {i : Int} (hF : FX G cc own) (hd : decode cc pc = .ok (.laload, 1)) (hk : am_kd S.1 r = 2 ∨ am_kd S.1 r = 7) (hi : am_ix i (am_nth am_o0 S.1 r).2.1) (k : WA G (pc + 1) ls (.inr (.inl (S.2 r i.toNat)) :: st) S) : WA G pc ls (.inl i :: .inr (.inr r) :: st) S := by
  obtain ⟨p, l, e, R, s, m, args, below, meth, c, Q, nL, dC, dI, ct, ad, n0, z0, x0⟩ := G
  intro H locs lsC hR hlv h1 h2
  obtain ⟨hiv, h2⟩ := ok_c.mp h2
  have hok : am_rl (S.2 r i.toNat) := by
    have := hR.2.2.1 r i.toNat
    unfold am_ty at this
    rcases hk with hk | hk <;> (rw [hk] at this; exact this)
  have kk := k H locs lsC hR hlv h1 (ok_c.mpr ⟨hok, (ok_c.mp h2).2⟩)
  show W p l e R s m args below meth c H locs _ _ Q (F0 m pc lsC (.int (Int32.ofInt i) :: cv ad (.inr (.inr r)) :: st.map (cv ad)))
  rcases hk with hk | hk
  · obtain ⟨h9, hc, hl⟩ := kd_w hk (by decide) (by decide)
    rw [cv_ref (by omega) (by omega)]
    have hw := am_w_get (ft := ftab) (ct := ct) (ad := ad) (S := S) h9 hl
    unfold am_e at hw
    rw [hc] at hw
    refine va_lald hF.1 hF.2.1 hF.2.2.2.2.2.1 hR.1 (r - 9) 1 hw rfl (ix32 hi hiv) hd ?_
    rw [cl32 hiv]
    exact kk
  · obtain ⟨h9, h0, h8⟩ := kd_x hk (by decide)
    rw [cv_ref h0 h8]
    refine va_tl hF.1 hF.2.1 ((hR.2.2.2.2.2.1 r h9).2.1 hk) hR.2.1 (ix32 hi hiv) rfl hd ?_
    rw [cl32 hiv]
    exact kk
theorem s_bald {r : Nat} {i : Int} (hF : FX G cc own) (hd : decode cc pc = .ok (.baload, 1)) (hk : am_kd S.1 r = 3 ∨ am_kd S.1 r = 4 ∨ am_kd S.1 r = 8) (hi : am_ix i (am_nth am_o0 S.1 r).2.1) (k : WA G (pc + 1) ls (.inl (S.2 r i.toNat) :: st) S) : WA G pc ls (.inl i :: .inr (.inr r) :: st) S := by
  obtain ⟨p, l, e, R, s, m, args, below, meth, c, Q, nL, dC, dI, ct, ad, n0, z0, x0⟩ := G
  intro H locs lsC hR hlv h1 h2
  obtain ⟨hiv, h2⟩ := ok_c.mp h2
  have hok : am_rg (S.2 r i.toNat) := by
    have := hR.2.2.1 r i.toNat
    unfold am_ty at this
    rcases hk with hk | hk | hk <;> rw [hk] at this
    · exact ⟨by have := this.1; omega, by have := this.2; omega⟩
    · exact ok_tf this
    · exact ⟨by have := this.1; omega, by have := this.2; omega⟩
  have kk := k H locs lsC hR hlv h1 (ok_c.mpr ⟨hok, (ok_c.mp h2).2⟩)
  show W p l e R s m args below meth c H locs _ _ Q (F0 m pc lsC (.int (Int32.ofInt i) :: cv ad (.inr (.inr r)) :: st.map (cv ad)))
  rcases hk with hk | hk | hk
  · obtain ⟨h9, hc, hl⟩ := kd_w hk (by decide) (by decide)
    rw [cv_ref (by omega) (by omega)]
    have hw := am_w_get (ft := ftab) (ct := ct) (ad := ad) (S := S) h9 hl
    unfold am_e at hw
    rw [hc] at hw
    refine va_bald hF.1 hF.2.1 hF.2.2.2.2.2.1 hR.1 (r - 9) 2 hw rfl (ix32 hi hiv) hd ?_
    rw [cl32 hiv]
    exact kk
  · obtain ⟨h9, hc, hl⟩ := kd_w hk (by decide) (by decide)
    rw [cv_ref (by omega) (by omega)]
    have hw := am_w_get (ft := ftab) (ct := ct) (ad := ad) (S := S) h9 hl
    unfold am_e at hw
    rw [hc] at hw
    refine va_zald hF.1 hF.2.1 hF.2.2.2.2.2.1 hR.1 (r - 9) 3 hw rfl (ix32 hi hiv) hd ?_
    rw [cl32 hiv]
    exact kk
  · obtain ⟨h9, h0, h8⟩ := kd_x hk (by decide)
    rw [cv_ref h0 h8]
    refine va_tb hF.1 hF.2.1 ((hR.2.2.2.2.2.1 r h9).2.2.1 hk) hR.2.1 (ix32 hi hiv) rfl hd ?_
    rw [cl32 hiv]
    exact kk
theorem WP_same {pc2 : Nat} {lsC : Array Slot} {sv : List Value} {S2 : aS} {H : Heap} {locs : List Loc} (hl : S2.1.length = S.1.length) (hz : am_sz S2.1 = am_sz S.1) (h : WP G pc2 lsC sv S2 H locs) : WP G pc2 lsC sv S H locs := by
  unfold WP at h ⊢
  rw [← hl, ← hz]
  exact h
theorem s_iast {r : Nat} {i v : Int} (hF : FX G cc own) (hd : decode cc pc = .ok (.iastore, 1)) (hk : am_kd S.1 r = 1) (hi : am_ix i (am_nth am_o0 S.1 r).2.1) (k : WA G (pc + 1) ls st (S.1, am_up S.2 r i.toNat v)) : WA G pc ls (.inl v :: .inl i :: .inr (.inr r) :: st) S := by
  obtain ⟨p, l, e, R, s, m, args, below, meth, c, Q, nL, dC, dI, ct, ad, n0, z0, x0⟩ := G
  intro H locs lsC hR hlv h1 h2
  obtain ⟨hv, h2⟩ := ok_c.mp h2
  obtain ⟨hiv, h2⟩ := ok_c.mp h2
  obtain ⟨h9, hc, hl⟩ := kd_w hk (by decide) (by decide)
  show W p l e R s m args below meth c H locs _ _ Q (F0 m pc lsC (.int (Int32.ofInt v) :: .int (Int32.ofInt i) :: cv ad (.inr (.inr r)) :: st.map (cv ad)))
  rw [cv_ref (by omega) (by omega)]
  have hw := am_w_get (ft := ftab) (ct := ct) (ad := ad) (S := S) h9 hl
  unfold am_e at hw
  rw [hc] at hw
  refine va_iast hF.1 hF.2.1 hF.2.2.2.2.2.1 hR.1 (am_w_D hF.2.2.2.2.2.2.1 S) hR.2.1 (r - 9) 0 hw rfl (ix32 hi hiv) hd (fun H1 locs1 hP1 hD1 hS1 => ?_)
  rw [cl32 hiv] at hP1
  exact k H1 locs1 lsC (RR.store (S2 := (S.1, am_up S.2 r i.toNat v)) hR h9 hl rfl rfl (by unfold am_e; rw [hc]; show Sum.inl _ = Sum.inl _; rw [upd32]) (fun q hq => ⟨rfl, am_up_ne hq⟩) (ok_up hR.2.2.1 (by unfold am_ty; rw [hk]; exact hv)) hP1 hS1) hlv h1 (ok_c.mp h2).2
theorem s_last {r : Nat} {i v : Int} (hF : FX G cc own) (hd : decode cc pc = .ok (.lastore, 1)) (hk : am_kd S.1 r = 2) (hi : am_ix i (am_nth am_o0 S.1 r).2.1) (k : WA G (pc + 1) ls st (S.1, am_up S.2 r i.toNat v)) : WA G pc ls (.inr (.inl v) :: .inl i :: .inr (.inr r) :: st) S := by
  obtain ⟨p, l, e, R, s, m, args, below, meth, c, Q, nL, dC, dI, ct, ad, n0, z0, x0⟩ := G
  intro H locs lsC hR hlv h1 h2
  obtain ⟨hv, h2⟩ := ok_c.mp h2
  obtain ⟨hiv, h2⟩ := ok_c.mp h2
  obtain ⟨h9, hc, hl⟩ := kd_w hk (by decide) (by decide)
  show W p l e R s m args below meth c H locs _ _ Q (F0 m pc lsC (.long (Int64.ofInt v) :: .int (Int32.ofInt i) :: cv ad (.inr (.inr r)) :: st.map (cv ad)))
  rw [cv_ref (by omega) (by omega)]
  have hw := am_w_get (ft := ftab) (ct := ct) (ad := ad) (S := S) h9 hl
  unfold am_e at hw
  rw [hc] at hw
  refine va_last hF.1 hF.2.1 hF.2.2.2.2.2.1 hR.1 (am_w_D hF.2.2.2.2.2.2.1 S) hR.2.1 (r - 9) 1 hw rfl (ix32 hi hiv) hd (fun H1 locs1 hP1 hD1 hS1 => ?_)
  rw [cl32 hiv] at hP1
  exact k H1 locs1 lsC (RR.store (S2 := (S.1, am_up S.2 r i.toNat v)) hR h9 hl rfl rfl (by unfold am_e; rw [hc]; show Sum.inl _ = Sum.inl _; rw [upd64]) (fun q hq => ⟨rfl, am_up_ne hq⟩) (ok_up hR.2.2.1 (by unfold am_ty; rw [hk]; exact hv)) hP1 hS1) hlv h1 (ok_c.mp h2).2
theorem s_bast {r : Nat} {i v : Int} (hF : FX G cc own) (hd : decode cc pc = .ok (.bastore, 1)) (hk : am_kd S.1 r = 3) (hi : am_ix i (am_nth am_o0 S.1 r).2.1) (k : WA G (pc + 1) ls st (S.1, am_up S.2 r i.toNat (w8 v))) : WA G pc ls (.inl v :: .inl i :: .inr (.inr r) :: st) S := by
  obtain ⟨p, l, e, R, s, m, args, below, meth, c, Q, nL, dC, dI, ct, ad, n0, z0, x0⟩ := G
  intro H locs lsC hR hlv h1 h2
  obtain ⟨hv, h2⟩ := ok_c.mp h2
  obtain ⟨hiv, h2⟩ := ok_c.mp h2
  obtain ⟨h9, hc, hl⟩ := kd_w hk (by decide) (by decide)
  show W p l e R s m args below meth c H locs _ _ Q (F0 m pc lsC (.int (Int32.ofInt v) :: .int (Int32.ofInt i) :: cv ad (.inr (.inr r)) :: st.map (cv ad)))
  rw [cv_ref (by omega) (by omega)]
  have hw := am_w_get (ft := ftab) (ct := ct) (ad := ad) (S := S) h9 hl
  unfold am_e at hw
  rw [hc] at hw
  refine va_bast hF.1 hF.2.1 hF.2.2.2.2.2.1 hR.1 (am_w_D hF.2.2.2.2.2.2.1 S) hR.2.1 (r - 9) 2 hw rfl (ix32 hi hiv) hd (fun H1 locs1 hP1 hD1 hS1 => ?_)
  rw [cl32 hiv, vp_nar_byte, byte32] at hP1
  exact k H1 locs1 lsC (RR.store (S2 := (S.1, am_up S.2 r i.toNat (w8 v))) hR h9 hl rfl rfl (by unfold am_e; rw [hc]; show Sum.inl _ = Sum.inl _; rw [upd32]) (fun q hq => ⟨rfl, am_up_ne hq⟩) (ok_up hR.2.2.1 (by unfold am_ty; rw [hk]; exact w8_rg v)) hP1 hS1) hlv h1 (ok_c.mp h2).2
theorem nar_z {v : Int} (h : am_tf v) : vp_nar .boolean (Int32.ofInt v) = Int32.ofInt v := by
  rcases h with h | h <;> (subst h; decide)
theorem s_zast {r : Nat} {i v : Int} (hF : FX G cc own) (hd : decode cc pc = .ok (.bastore, 1)) (hk : am_kd S.1 r = 4) (hi : am_ix i (am_nth am_o0 S.1 r).2.1) (ht : am_tf v) (k : WA G (pc + 1) ls st (S.1, am_up S.2 r i.toNat v)) : WA G pc ls (.inl v :: .inl i :: .inr (.inr r) :: st) S := by
  obtain ⟨p, l, e, R, s, m, args, below, meth, c, Q, nL, dC, dI, ct, ad, n0, z0, x0⟩ := G
  intro H locs lsC hR hlv h1 h2
  obtain ⟨hv, h2⟩ := ok_c.mp h2
  obtain ⟨hiv, h2⟩ := ok_c.mp h2
  obtain ⟨h9, hc, hl⟩ := kd_w hk (by decide) (by decide)
  show W p l e R s m args below meth c H locs _ _ Q (F0 m pc lsC (.int (Int32.ofInt v) :: .int (Int32.ofInt i) :: cv ad (.inr (.inr r)) :: st.map (cv ad)))
  rw [cv_ref (by omega) (by omega)]
  have hw := am_w_get (ft := ftab) (ct := ct) (ad := ad) (S := S) h9 hl
  unfold am_e at hw
  rw [hc] at hw
  refine va_zast hF.1 hF.2.1 hF.2.2.2.2.2.1 hR.1 (am_w_D hF.2.2.2.2.2.2.1 S) hR.2.1 (r - 9) 3 hw rfl (ix32 hi hiv) hd (fun H1 locs1 hP1 hD1 hS1 => ?_)
  rw [cl32 hiv, nar_z ht] at hP1
  exact k H1 locs1 lsC (RR.store (S2 := (S.1, am_up S.2 r i.toNat v)) hR h9 hl rfl rfl (by unfold am_e; rw [hc]; show Sum.inl _ = Sum.inl _; rw [upd32]) (fun q hq => ⟨rfl, am_up_ne hq⟩) (ok_up hR.2.2.1 (by unfold am_ty; rw [hk]; exact ht)) hP1 hS1) hlv h1 (ok_c.mp h2).2
theorem s_alen {r : Nat} (hF : FX G cc own) (hd : decode cc pc = .ok (.arraylength, 1)) (hk : 1 ≤ am_kd S.1 r ∧ am_kd S.1 r ≤ 8) (hn : am_rg ((am_nth am_o0 S.1 r).2.1 : Int)) (k : WA G (pc + 1) ls (.inl ((am_nth am_o0 S.1 r).2.1 : Int) :: st) S) : WA G pc ls (.inr (.inr r) :: st) S := by
  obtain ⟨p, l, e, R, s, m, args, below, meth, c, Q, nL, dC, dI, ct, ad, n0, z0, x0⟩ := G
  intro H locs lsC hR hlv h1 h2
  have kk := k H locs lsC hR hlv h1 (ok_c.mpr ⟨hn, (ok_c.mp h2).2⟩)
  show W p l e R s m args below meth c H locs _ _ Q (F0 m pc lsC (cv ad (.inr (.inr r)) :: st.map (cv ad)))
  have hof : Int32.ofNat (am_nth am_o0 S.1 r).2.1 = Int32.ofInt ((am_nth am_o0 S.1 r).2.1 : Int) := rfl
  rcases (by omega : am_kd S.1 r = 1 ∨ am_kd S.1 r = 2 ∨ am_kd S.1 r = 3 ∨ am_kd S.1 r = 4 ∨ am_kd S.1 r = 5 ∨ am_kd S.1 r = 6 ∨ am_kd S.1 r = 7 ∨ am_kd S.1 r = 8) with hk | hk | hk | hk | hk | hk | hk | hk
  · obtain ⟨h9, hc, hl⟩ := kd_w hk (by decide) (by decide)
    rw [cv_ref (by omega) (by omega)]
    have hw := am_w_get (ft := ftab) (ct := ct) (ad := ad) (S := S) h9 hl
    unfold am_e at hw
    rw [hc] at hw
    exact va_alen hF.1 hF.2.1 hF.2.2.2.2.2.1 hR.1 (r - 9) 0 hw rfl hof hd kk
  · obtain ⟨h9, hc, hl⟩ := kd_w hk (by decide) (by decide)
    rw [cv_ref (by omega) (by omega)]
    have hw := am_w_get (ft := ftab) (ct := ct) (ad := ad) (S := S) h9 hl
    unfold am_e at hw
    rw [hc] at hw
    exact va_alen hF.1 hF.2.1 hF.2.2.2.2.2.1 hR.1 (r - 9) 1 hw rfl hof hd kk
  · obtain ⟨h9, hc, hl⟩ := kd_w hk (by decide) (by decide)
    rw [cv_ref (by omega) (by omega)]
    have hw := am_w_get (ft := ftab) (ct := ct) (ad := ad) (S := S) h9 hl
    unfold am_e at hw
    rw [hc] at hw
    exact va_alen hF.1 hF.2.1 hF.2.2.2.2.2.1 hR.1 (r - 9) 2 hw rfl hof hd kk
  · obtain ⟨h9, hc, hl⟩ := kd_w hk (by decide) (by decide)
    rw [cv_ref (by omega) (by omega)]
    have hw := am_w_get (ft := ftab) (ct := ct) (ad := ad) (S := S) h9 hl
    unfold am_e at hw
    rw [hc] at hw
    exact va_alen hF.1 hF.2.1 hF.2.2.2.2.2.1 hR.1 (r - 9) 3 hw rfl hof hd kk
  · obtain ⟨h9, hc, hl⟩ := kd_w hk (by decide) (by decide)
    rw [cv_ref (by omega) (by omega)]
    have hw := am_w_get (ft := ftab) (ct := ct) (ad := ad) (S := S) h9 hl
    unfold am_e at hw
    rw [hc] at hw
    exact va_alen hF.1 hF.2.1 hF.2.2.2.2.2.1 hR.1 (r - 9) 4 hw rfl hof hd kk
  · obtain ⟨h9, h0, h8⟩ := kd_x hk (by decide)
    rw [cv_ref h0 h8]
    exact va_tlen hF.1 hF.2.1 ((hR.2.2.2.2.2.1 r h9).1 hk) hR.2.1 hof hd kk
  · obtain ⟨h9, h0, h8⟩ := kd_x hk (by decide)
    rw [cv_ref h0 h8]
    exact va_tlen hF.1 hF.2.1 ((hR.2.2.2.2.2.1 r h9).2.1 hk) hR.2.1 hof hd kk
  · obtain ⟨h9, h0, h8⟩ := kd_x hk (by decide)
    rw [cv_ref h0 h8]
    exact va_tlen hF.1 hF.2.1 ((hR.2.2.2.2.2.1 r h9).2.2.1 hk) hR.2.1 hof hd kk
end S28
