/-! rows of calls -/
theorem goodSub {ws : List Cond} (h : ∀ w ∈ ws, w ∈ lw_g) : GoodIn lw_g ws := fun w hw => ⟨h w hw, good_of_word (List.mem_filter.mp (h w hw)).2⟩
/-- a method's start -/
def aRU (dC : Nat → ClassId) (dI : Nat → Nat → Nat) (ct : Nat → ClassId) (ad : Nat → Nat) (S : aS) (U : State) : Prop :=
  U.heap.size = ad 9 + (S.1.length - 9) ∧ va_P (dC, dI) vwCl (am_w ftab ct ad S) U.heap ∧ va_K (dC, dI) vwCl (am_ts ct) U ∧ XF ad S U U.heap ∧ XN U
/-- a method's end -/
def aQc (dC : Nat → ClassId) (dI : Nat → Nat → Nat) (ct : Nat → ClassId) (ad : Nat → Nat) (S : aS) (v : Option aV) (S2 : aS) : Array Value → State → Outcome → State → Prop := fun _ st oc t =>
  oc = .returned (v.map (cv ad)) ∧ va_P (dC, dI) vwCl (am_w ftab ct ad S2) t.heap ∧ va_F (am_A ad) st t ∧ ok_h ftab S2 ∧ (∀ x, v = some x → ok_v x) ∧ ∀ r, r < 9 → am_nth am_o0 S2.1 r = am_nth am_o0 S.1 r ∧ S2.2 r = S.2 r
def aWs (k : Nat) : List Cond := Cond.code (mY k) (mB k) (mLo k) (mR k) :: lw_g
def aRm (k : Nat) : Room := { frames := mFr k, cells := mCe k, slots := mSl k, locals := mWd k }
/-- a method's contract -/
def aM (l : Launch) (dC : Nat → ClassId) (dI : Nat → Nat → Nat) (ct : Nat → ClassId) (ad : Nat → Nat) (k : Nat) (as : List aV) (S : aS) (v : Option aV) (S2 : aS) : Prop :=
  Met l (mY k) (aWs k) (aRm k) (va_Pc (as.map (cv ad)) (aRU dC dI ct ad S)) (aQc dC dI ct ad S v S2) (mCe k) (mSl k) (am_A ad)
theorem aWs_in {k : Nat} (h : k < 353) : ∀ w ∈ aWs k, w ∈ lw_g := by
  intro w hw
  rcases List.mem_cons.mp hw with rfl | hw
  · exact List.mem_filter.mpr ⟨mC_ok h, rfl⟩
  · exact hw
theorem aRU_blind {dC : Nat → ClassId} {dI : Nat → Nat → Nat} {ct : Nat → ClassId} {ad : Nat → Nat} {S : aS} {av : List Value} : FrameBlind (va_Pc av (aRU dC dI ct ad S)) := by
  intro a U g mk h
  obtain ⟨h1, h2, h3, h4, h5, h6⟩ := h
  exact ⟨h1, h2, h3, va_K.moved (u := U) (U := U.calling g mk a) (Vm.Alike.refl U.vm) h4, XF.warm (s := U) (U := U.calling g mk a) (State.WarmedH.refl U) h5, XN.warm (s := U) (U := U.calling g mk a) (State.WarmedH.refl U) h6⟩
theorem am_cat_ok (ad : Nat → Nat) : ∀ st : List aV, ((st.map (cv ad)).map fun v => v.category).sum = am_cat st
  | [] => rfl
  | v :: st => by
    have h := am_cat_ok ad st
    show (cv ad v).category + ((st.map (cv ad)).map fun v => v.category).sum = (bif am_is2 v then 2 else 1) + am_cat st
    rw [h]
    have hc := cat2 (ad := ad) v
    cases hv : am_is2 v with
    | true =>
      rw [hv] at hc
      have : (cv ad v).category = 2 := by simpa using hc
      rw [this]; rfl
    | false => rw [cat1 hv]; rfl
section S34
variable {p : Program} {l : Launch} {e : Env} {R : Room} {s : State} {m : MethodId} {args : Array Value} {below : List Frame} {meth : Method} {c : Code} {Q : State → Prop} {nL : Nat} {dC : Nat → ClassId} {dI : Nat → Nat → Nat} {ct : Nat → ClassId} {ad : Nat → Nat} {n0 z0 : Nat} {x0 : Nat → aC × (Nat → Int)}
variable {cc : ByteArray} {own pc : Nat} {ls : aL} {st : List aV} {S : aS}
theorem RR.size {H : Heap} {locs : List Loc} {cells : Nat} (hR : RR (p, l, e, R, s, m, args, below, meth, c, Q, nL, dC, dI, ct, ad, n0, z0, x0) S H locs) (hrow : am_row ad) (hsz : s.heap.size = ad 9 + (n0 - 9)) (h9 : 9 ≤ n0) (hc : cells = S.1.length - n0) (hs : H.size ≤ s.heap.size + cells) : H.size = ad 9 + (S.1.length - 9) := by
  have hn := hR.2.2.2.1.1
  have h0 := hR.2.1.1
  rcases Nat.lt_or_ge n0 S.1.length with hl | hl
  · have hw := am_w_get (ft := ftab) (ct := ct) (ad := ad) (S := S) (r := S.1.length - 1) (by omega) (by omega)
    have h1 : ad (S.1.length - 1) < H.size := (hR.1 _ _ hw).lt
    rw [hrow _ (by omega)] at h1
    omega
  · omega
/-- behind a call -/
theorem am_after {H : Heap} {locs : List Loc} {lsC : Array Slot} {stv : List Value} {v : Option aV} {S2 : aS} {a : Array Value} {mc ms : Nat} (hr : va_Run p l e R s m args below meth c H locs (S.1.length - n0) (am_sz S.1 - z0) mc ms (F0 m pc lsC stv) (st.map (cv ad)) (aQc dC dI ct ad S v S2 a) (am_A ad))
    (hR : RR (p, l, e, R, s, m, args, below, meth, c, Q, nL, dC, dI, ct, ad, n0, z0, x0) S H locs) (hl : S2.1.length = S.1.length + mc) (hz : am_sz S2.1 = am_sz S.1 + ms) (hl2 : S2.1.length ≤ n0 + R.cells) (hz2 : am_sz S2.1 ≤ z0 + R.slots)
    (k : (∀ x, v = some x → ok_v x) → ∀ (H1 : Heap) (locs1 : List Loc), RR (p, l, e, R, s, m, args, below, meth, c, Q, nL, dC, dI, ct, ad, n0, z0, x0) S2 H1 locs1 → W p l e R s m args below meth c H1 locs1 (S2.1.length - n0) (am_sz S2.1 - z0) Q (F0 m (pc + 3) lsC ((am_psh v st).map (cv ad)))) :
    W p l e R s m args below meth c H locs (S.1.length - n0) (am_sz S.1 - z0) Q (F0 m pc lsC stv) := by
  intro T hT X
  obtain ⟨v2, st₀, t, T', L, h0, X', hL, e1, e2, ⟨hv, hP2, hF2, hok2, hov, hxa⟩, stp⟩ := hr T hT X
  have hv : v2 = v.map (cv ad) := by cases hv; rfl
  subst hv
  have hn := hR.2.2.2.1.1
  have hzz := hR.2.2.2.2.1.1.1
  have hS1 : va_S (am_A ad) s.heap T'.heap (locs ++ L) := by
    obtain ⟨q1, q2⟩ := hF2
    rw [h0] at q1 q2
    refine ⟨Nat.le_trans hR.2.1.1 (by rw [e1]; exact q1), fun q w1 w2 => ?_, fun q hq => ?_⟩
    · rw [e1, q2 q (Nat.lt_of_lt_of_le w1 hR.2.1.1) w2]
      exact hR.2.1.2.1 q w1 w2
    · rcases List.mem_append.mp hq with hq | hq
      · exact hR.2.1.2.2 q hq
      · exact hL q hq
  have hR2 : RR (p, l, e, R, s, m, args, below, meth, c, Q, nL, dC, dI, ct, ad, n0, z0, x0) S2 T'.heap (locs ++ L) := by
    refine ⟨by rw [e1]; exact hP2, hS1, hok2, ⟨by omega, hl2⟩, ⟨⟨by omega, hz2⟩, fun r hr => ?_⟩, hR.2.2.2.2.2.same (fun r hr => (hxa r hr).1) (fun r hr => (hxa r hr).2)⟩
    rw [(hxa r hr).1, (hxa r hr).2]
    exact hR.2.2.2.2.1.2 r hr
  have X2 : Stand p l e R s m args below meth c T' (locs ++ L) (S2.1.length - n0) (am_sz S2.1 - z0) := by
    rw [show S2.1.length - n0 = S.1.length - n0 + mc by omega, show am_sz S2.1 - z0 = am_sz S.1 - z0 + ms by omega]
    exact X'
  obtain ⟨t2, a1, b1⟩ := k hov T'.heap (locs ++ L) hR2 T' rfl X2
  refine ⟨t2, stp t2 ?_, b1⟩
  have e3 : (am_psh v st).map (cv ad) = (v.map (cv ad)).toList ++ st.map (cv ad) := by cases v <;> rfl
  rw [e3] at a1
  exact a1
theorem ok_psh {v : Option aV} (h1 : ∀ x, v = some x → ok_v x) (h2 : ∀ x ∈ st, ok_v x) : ∀ x ∈ am_psh v st, ok_v x := by
  cases v with
  | none => exact h2
  | some x => exact ok_c.mpr ⟨h1 x rfl, h2⟩
theorem map_rev (ad : Nat → Nat) (as : List aV) : (as.map (cv ad)).reverse = as.reverse.map (cv ad) := by rw [List.map_reverse]
theorem ok_app {as : List aV} (h : ∀ x ∈ as.reverse ++ st, ok_v x) : (∀ x ∈ as, ok_v x) ∧ ∀ x ∈ st, ok_v x := ⟨fun x hx => h x (List.mem_append_left _ (List.mem_reverse.mpr hx)), fun x hx => h x (List.mem_append_right _ hx)⟩
/-- what a call leaves -/
def aLeft (G : aG) (S S2 : aS) (id : Nat) : Prop := S2.1.length = S.1.length + mCe id ∧ am_sz S2.1 = am_sz S.1 + mSl id ∧ S2.1.length ≤ an0 G + (aR G).cells ∧ am_sz S2.1 ≤ az0 G + (aR G).slots
theorem s_callV {ix id r : Nat} {as : List aV} {v : Option aV} {S2 : aS} (hF : FX (p, l, e, R, s, m, args, below, meth, c, Q, nL, dC, dI, ct, ad, n0, z0, x0) cc own) (hd : decode cc pc = .ok (.invokevirtual ix, 3)) (ht : (own, ix, id) ∈ tMV)
    (hM : ok_h ftab S → (∀ x ∈ (Sum.inr (Sum.inr r) :: as : List aV), ok_v x) → aM l dC dI ct ad id (.inr (.inr r) :: as) S v S2) (hna : as.length + 1 = mNa id) (hk : am_kd S.1 r = mNa (2000 + id)) (hkd : (mNa (2000 + id) = 10 + mCs id ∧ mCs id < 13) ∨ (mNa (2000 + id) = 30 ∧ mCs id = 14))
    (hrm : mFr id + 1 ≤ R.frames ∧ 8 + (mLo id + 11) + mWd id ≤ R.locals) (hst : am_cat st ≤ 8) (hlf : aLeft (p, l, e, R, s, m, args, below, meth, c, Q, nL, dC, dI, ct, ad, n0, z0, x0) S S2 id)
    (k : WA (p, l, e, R, s, m, args, below, meth, c, Q, nL, dC, dI, ct, ad, n0, z0, x0) (pc + 3) ls (am_psh v st) S2) : WA (p, l, e, R, s, m, args, below, meth, c, Q, nL, dC, dI, ct, ad, n0, z0, x0) pc ls (as.reverse ++ .inr (.inr r) :: st) S := by
  obtain ⟨hid, him, hse, hpd, hce, hsl⟩ := tMV_id _ ht
  obtain ⟨g1, g2, g3, g4⟩ := hlf
  intro H locs lsC hR hlv h1 h2
  obtain ⟨hx, hb, hml, hown, hts, hK, hrow, hsz, h9⟩ := hF
  obtain ⟨hoa, h2⟩ := ok_app h2
  obtain ⟨-, h2⟩ := ok_c.mp h2
  have hrc : ∃ cell : Cell, H[ad r]? = some cell ∧ cell.vm.isStatics = false ∧ s.vm.findClass (cN (mCs id)) = some cell.cls := by
    rcases hkd with ⟨e1, e2⟩ | ⟨e1, e2⟩
    · obtain ⟨r9, rc, rl⟩ := kd_w (hk.trans e1) (by omega) (by
        have : ∀ c, c < 13 → am_xk (10 + c) = false := by decide
        exact this _ e2)
      have hw := am_w_get (ft := ftab) (ct := ct) (ad := ad) (S := S) r9 rl
      rw [am_e_o rc] at hw
      exact va_recv hK hR.1 (cls_at _ e2) hw
    · obtain ⟨r9, -, -⟩ := kd_x (hk.trans e1) (by decide)
      obtain ⟨cell, c1, c2, c3, c4⟩ := (((hR.2.2.2.2.2.1 r r9).2.2.2 (hk.trans e1)).1).kept hR.2.1.2.1
      refine ⟨cell, c1, c2, ?_⟩
      rw [e2]
      exact c3
  have hr0 : r ≠ 0 ∧ r ≠ 8 := by
    rcases hkd with ⟨e1, e2⟩ | ⟨e1, e2⟩
    · obtain ⟨r9, rc, rl⟩ := kd_w (hk.trans e1) (by omega) (by
        have : ∀ c, c < 13 → am_xk (10 + c) = false := by decide
        exact this _ e2)
      exact ⟨by omega, by omega⟩
    · obtain ⟨r9, a, b⟩ := kd_x (hk.trans e1) (by decide)
      exact ⟨a, b⟩
  show W p l e R s m args below meth c H locs (S.1.length - n0) (am_sz S.1 - z0) Q (F0 m pc lsC ((as.reverse ++ .inr (.inr r) :: st).map (cv ad)))
  refine W_sz (fun hs => ?_)
  have hHs := RR.size hR hrow hsz h9 rfl hs
  rw [List.map_append, List.map_cons, ← map_rev, cv_ref hr0.1 hr0.2]
  have hMM := hM hR.2.2.1 (ok_c.mpr ⟨trivial, hoa⟩)
  unfold aM at hMM
  rw [List.map_cons, cv_ref hr0.1 hr0.2] at hMM
  have cw : CallW R s args (cN own) (cN (mCs id)) ix (mY id) (mB id) (mLo id) (mR id) (aWs id) (aRm id) (mCe id) (mSl id) (mNa id - 1) := by
    refine ⟨callB_of (ws' := lw_g) _ (use_g hts) (goodSub (aWs_in hid)) rfl rfl rfl (hts _ (by rw [(mcl id hid).1]; exact ini_ok _ (ini_all _ (mcl id hid).2)) rfl) (hts _ (tMV_ok _ ht) rfl) ⟨(mmh id hid).1, (mmh id hid).2, hpd⟩ hrm, hts _ (mIm_ok _ him) rfl, hts _ (mSe_ok _ hse) rfl⟩
  refine am_after (va_runV (As := as.map (cv ad)) (rest := st.map (cv ad)) ⟨hx, hb, hml, hown, use_g hts⟩ hMM cw ⟨aRU_blind, hrc, fun U hU hW => ⟨rfl, by rw [hU]; exact hHs, by rw [hU]; exact hR.1, va_K.moved hW.alike hK, ?_, (XN.ofU hts).warm hW⟩⟩ rfl (by rw [List.length_map]; show as.length = mNa id - 1; omega) hlv.1 rfl (lv_room (by rw [am_cat_ok]; exact hst)) hd ⟨?_, ?_⟩) hR g1 g2 g3 g4 (fun hov H1 locs1 hR1 => k H1 locs1 lsC hR1 hlv h1 (ok_psh hov h2))
  · rw [hU]
    exact (hR.2.2.2.2.2.kept hR.2.1.2.1).warm hW
  · have : S2.1.length ≤ n0 + R.cells := g3
    have := hR.2.2.2.1.1
    omega
  · have : am_sz S2.1 ≤ z0 + R.slots := g4
    have := hR.2.2.2.2.1.1.1
    omega
theorem s_callS {ix id : Nat} {as : List aV} {v : Option aV} {S2 : aS} (hF : FX (p, l, e, R, s, m, args, below, meth, c, Q, nL, dC, dI, ct, ad, n0, z0, x0) cc own) (hd : decode cc pc = .ok (.invokestatic ix, 3)) (ht : (own, ix, id) ∈ tMS ∨ (own, ix, id) ∈ tMT)
    (hM : ok_h ftab S → (∀ x ∈ as, ok_v x) → aM l dC dI ct ad id as S v S2) (hna : as.length = mNa id)
    (hrm : mFr id + 1 ≤ R.frames ∧ 8 + (mLo id + 11) + mWd id ≤ R.locals) (hst : am_cat st ≤ 8) (hlf : aLeft (p, l, e, R, s, m, args, below, meth, c, Q, nL, dC, dI, ct, ad, n0, z0, x0) S S2 id)
    (k : WA (p, l, e, R, s, m, args, below, meth, c, Q, nL, dC, dI, ct, ad, n0, z0, x0) (pc + 3) ls (am_psh v st) S2) : WA (p, l, e, R, s, m, args, below, meth, c, Q, nL, dC, dI, ct, ad, n0, z0, x0) pc ls (as.reverse ++ st) S := by
  obtain ⟨g1, g2, g3, g4⟩ := hlf
  intro H locs lsC hR hlv h1 h2
  obtain ⟨hx, hb, hml, hown, hts, hK, hrow, hsz, h9⟩ := hF
  obtain ⟨hoa, h2⟩ := ok_app h2
  show W p l e R s m args below meth c H locs (S.1.length - n0) (am_sz S.1 - z0) Q (F0 m pc lsC ((as.reverse ++ st).map (cv ad)))
  refine W_sz (fun hs => ?_)
  have hHs := RR.size hR hrow hsz h9 rfl hs
  rw [List.map_append, ← map_rev]
  have hMM := hM hR.2.2.1 hoa
  unfold aM at hMM
  have pre : PreS s H (va_Pc (as.map (cv ad)) (aRU dC dI ct ad S)) (as.map (cv ad)) := ⟨aRU_blind, fun U hU hW => ⟨rfl, by rw [hU]; exact hHs, by rw [hU]; exact hR.1, va_K.moved hW.alike hK, by
    rw [hU]
    exact (hR.2.2.2.2.2.kept hR.2.1.2.1).warm hW, (XN.ofU hts).warm hW⟩⟩
  have room : S.1.length - n0 + mCe id ≤ R.cells ∧ am_sz S.1 - z0 + mSl id ≤ R.slots := by
    have q1 : S2.1.length ≤ n0 + R.cells := g3
    have q2 := hR.2.2.2.1.1
    have q3 : am_sz S2.1 ≤ z0 + R.slots := g4
    have q4 := hR.2.2.2.2.1.1.1
    constructor <;> omega
  rcases ht with ht | ht
  · obtain ⟨hid, hst2, hpd, hce, hsl⟩ := tMS_id _ ht
    exact am_after (va_runS (As := as.map (cv ad)) (rest := st.map (cv ad)) ⟨hx, hb, hml, hown, use_g hts⟩ hMM ⟨callB_of (ws' := lw_g) _ (use_g hts) (goodSub (aWs_in hid)) rfl rfl rfl (hts _ (by rw [(mcl id hid).1]; exact ini_ok _ (ini_all _ (mcl id hid).2)) rfl) (hts _ (tMS_ok _ ht) rfl) ⟨(mmh id hid).1, (mmh id hid).2, hpd⟩ hrm, hts _ (mSt_ok _ hst2) rfl⟩ pre rfl (by rw [List.length_map]; exact hna) hlv.1 rfl (lv_room (by rw [am_cat_ok]; exact hst)) hd room) hR g1 g2 g3 g4 (fun hov H1 locs1 hR1 => k H1 locs1 lsC hR1 hlv h1 (ok_psh hov h2))
  · obtain ⟨hid, hst2, hpd, hce, hsl⟩ := tMT_id _ ht
    exact am_after (va_runSN (As := as.map (cv ad)) (rest := st.map (cv ad)) ⟨hx, hb, hml, hown, use_g hts⟩ hMM ⟨va_cnB (ws' := lw_g) _ (use_g hts) (goodSub (aWs_in hid)) rfl rfl rfl (va_Nw.of rfl (hts _ (tMT_ok _ ht) rfl)) (hts _ (by rw [(mcl id hid).1]; exact ini_ok _ (ini_all _ (mcl id hid).2)) rfl) ⟨(mmh id hid).1, (mmh id hid).2, hpd⟩ hrm, hts _ (mSt_ok _ hst2) rfl, trivial⟩ pre rfl (by rw [List.length_map]; exact hna) hlv.1 rfl (lv_room (by rw [am_cat_ok]; exact hst)) hd room) hR g1 g2 g3 g4 (fun hov H1 locs1 hR1 => k H1 locs1 lsC hR1 hlv h1 (ok_psh hov h2))
theorem s_callI {ix id r : Nat} {as : List aV} {S2 : aS} (hF : FX (p, l, e, R, s, m, args, below, meth, c, Q, nL, dC, dI, ct, ad, n0, z0, x0) cc own) (hd : decode cc pc = .ok (.invokespecial ix, 3)) (ht : (own, ix, id) ∈ tMI ∨ (own, ix, id) ∈ tMJ)
    (hM : ok_h ftab S → (∀ x ∈ (Sum.inr (Sum.inr r) :: as : List aV), ok_v x) → aM l dC dI ct ad id (.inr (.inr r) :: as) S none S2) (hna : as.length + 1 = mNa id) (h0 : r ≠ 0) (h8 : r ≠ 8)
    (hrm : mFr id + 1 ≤ R.frames ∧ 8 + (mLo id + 11) + mWd id ≤ R.locals) (hst : am_cat st ≤ 8) (hlf : aLeft (p, l, e, R, s, m, args, below, meth, c, Q, nL, dC, dI, ct, ad, n0, z0, x0) S S2 id)
    (k : WA (p, l, e, R, s, m, args, below, meth, c, Q, nL, dC, dI, ct, ad, n0, z0, x0) (pc + 3) ls st S2) : WA (p, l, e, R, s, m, args, below, meth, c, Q, nL, dC, dI, ct, ad, n0, z0, x0) pc ls (as.reverse ++ .inr (.inr r) :: st) S := by
  obtain ⟨g1, g2, g3, g4⟩ := hlf
  intro H locs lsC hR hlv h1 h2
  obtain ⟨hx, hb, hml, hown, hts, hK, hrow, hsz, h9⟩ := hF
  obtain ⟨hoa, h2⟩ := ok_app h2
  obtain ⟨-, h2⟩ := ok_c.mp h2
  show W p l e R s m args below meth c H locs (S.1.length - n0) (am_sz S.1 - z0) Q (F0 m pc lsC ((as.reverse ++ .inr (.inr r) :: st).map (cv ad)))
  refine W_sz (fun hs => ?_)
  have hHs := RR.size hR hrow hsz h9 rfl hs
  rw [List.map_append, List.map_cons, ← map_rev, cv_ref h0 h8]
  have hMM := hM hR.2.2.1 (ok_c.mpr ⟨trivial, hoa⟩)
  unfold aM at hMM
  rw [List.map_cons, cv_ref h0 h8] at hMM
  have pre : PreS s H (va_Pc (.ref (ad r) :: as.map (cv ad)) (aRU dC dI ct ad S)) (.ref (ad r) :: as.map (cv ad)) := ⟨aRU_blind, fun U hU hW => ⟨rfl, by rw [hU]; exact hHs, by rw [hU]; exact hR.1, va_K.moved hW.alike hK, by
    rw [hU]
    exact (hR.2.2.2.2.2.kept hR.2.1.2.1).warm hW, (XN.ofU hts).warm hW⟩⟩
  have room : S.1.length - n0 + mCe id ≤ R.cells ∧ am_sz S.1 - z0 + mSl id ≤ R.slots := by
    have q1 : S2.1.length ≤ n0 + R.cells := g3
    have q2 := hR.2.2.2.1.1
    have q3 : am_sz S2.1 ≤ z0 + R.slots := g4
    have q4 := hR.2.2.2.2.1.1.1
    constructor <;> omega
  rcases ht with ht | ht
  · obtain ⟨hid, him, hnm, hpd, hret⟩ := tMI_id _ ht
    have hws : aWs id = Cond.code (mY id) (mB id) (mLo id) none :: lw_g := by unfold aWs; rw [show mR id = none from hret]
    exact am_after (va_runI (As := as.map (cv ad)) (rest := st.map (cv ad)) ⟨hx, hb, hml, hown, use_g hts⟩ hMM ⟨callB_of (ws' := lw_g) (bytes := mB id) (maxL := mLo id) (ret := none) _ (use_g hts) (goodSub (aWs_in hid)) hws rfl rfl (hts _ (by rw [(mcl id hid).1]; exact ini_ok _ (ini_all _ (mcl id hid).2)) rfl) (hts _ (tMI_ok _ ht) rfl) ⟨(mmh id hid).1, (mmh id hid).2, hpd⟩ hrm, hnm, hts _ (mIm_ok _ him) rfl⟩ pre rfl (by rw [List.length_map]; show as.length = mNa id - 1; omega) hlv.1 rfl (lv_room (by rw [am_cat_ok]; exact hst)) hd room) hR g1 g2 g3 g4 (fun hov H1 locs1 hR1 => k H1 locs1 lsC hR1 hlv h1 h2)
  · obtain ⟨hid, him, hnm, hpd, hret⟩ := tMJ_id _ ht
    have hws : aWs id = Cond.code (mY id) (mB id) (mLo id) none :: lw_g := by unfold aWs; rw [show mR id = none from hret]
    exact am_after (va_runIN (As := as.map (cv ad)) (rest := st.map (cv ad)) ⟨hx, hb, hml, hown, use_g hts⟩ hMM ⟨va_cnB (ws' := lw_g) (bytes := mB id) (maxL := mLo id) (ret := none) _ (use_g hts) (goodSub (aWs_in hid)) hws rfl rfl (va_Nw.of rfl (hts _ (tMJ_ok _ ht) rfl)) (hts _ (by rw [(mcl id hid).1]; exact ini_ok _ (ini_all _ (mcl id hid).2)) rfl) ⟨(mmh id hid).1, (mmh id hid).2, hpd⟩ hrm, hnm, hts _ (mIm_ok _ him) rfl⟩ pre rfl (by rw [List.length_map]; show as.length = mNa id - 1; omega) hlv.1 rfl (lv_room (by rw [am_cat_ok]; exact hst)) hd room) hR g1 g2 g3 g4 (fun hov H1 locs1 hR1 => k H1 locs1 lsC hR1 hlv h1 h2)
end S34
