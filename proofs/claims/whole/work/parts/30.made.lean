/-! rows of references in arrays, static fields, texts, of making cells, of copying -/
theorem lkA : Cond.fieldLink "WakeHouse" 210 "WakeHouse" "HUNDREDS" "[J" ∈ lw_tbl := am_sel_in [1201] _ _ (by decide +kernel)
theorem lkB : Cond.fieldLinkNest "WakeHouse$Changes" 52 "WakeHouse" "HUNDREDS" "[J" "WakeHouse" ∈ lw_tbl := am_sel_in [1480] _ _ (by decide +kernel)
theorem lkC : Cond.fieldLinkNest "WakeHouse$Night" 126 "WakeHouse" "HUNDREDS" "[J" "WakeHouse" ∈ lw_tbl := am_sel_in [1237] _ _ (by decide +kernel)
theorem lkD : Cond.fieldLink "WakeHouse$Shaking" 93 "WakeHouse$Shaking" "NINES" "[I" ∈ lw_tbl := am_sel_in [1396] _ _ (by decide +kernel)
theorem lkE : Cond.fieldLink "java/lang/String" 1053 "jdk/internal/util/Preconditions" "SIOOBE_FORMATTER" "Ljava/util/function/BiFunction;" ∈ lw_tbl := am_sel_in [215] _ _ (by decide +kernel)
theorem lkF : Cond.fieldLink "java/lang/String" 38 "java/lang/String" "COMPACT_STRINGS" "Z" ∈ lw_tbl := am_sel_in [199] _ _ (by decide +kernel)
theorem lkG : Cond.fieldLink "java/lang/String" 9 "java/lang/String" "value" "[B" ∈ lw_tbl := am_sel_in [2512] _ _ (by decide +kernel)
theorem lkH : Cond.fieldLink "java/lang/String" 15 "java/lang/String" "coder" "B" ∈ lw_tbl := am_sel_in [2513] _ _ (by decide +kernel)
/-- static references: in which class, which entry, which cell -/
def tSr : List (Nat × Nat × Nat) := [(11, 210, 2), (1, 52, 2), (5, 126, 2), (8, 93, 3), (14, 1053, 8)]
/-- texts -/
def tTx : List (Nat × Nat × Nat) := [(10, 27, 4), (10, 81, 6)]
def aR (G : aG) : Room := G.2.2.2.1
def an0 (G : aG) : Nat := G.2.2.2.2.2.2.2.2.2.2.2.2.2.2.2.2.1
def az0 (G : aG) : Nat := G.2.2.2.2.2.2.2.2.2.2.2.2.2.2.2.2.2.1
theorem am_aal_ok {i : Int} {nxt : Nat → Prop} : ∀ (l : List Nat) (a : Int), am_aal (X := Prop) False (fun c _ x y => (c → x) ∧ (¬ c → y)) i nxt a l → ∃ j : Nat, j < l.length ∧ i = a + j ∧ nxt (am_nth 0 l j)
  | [], _, h => h.elim
  | q :: l, a, h => by
    by_cases e : i = a
    · exact ⟨0, by simp, by omega, h.1 e⟩
    · obtain ⟨j, h1, h2, h3⟩ := am_aal_ok l (a + 1) (h.2 e)
      exact ⟨j + 1, by simpa using h1, by omega, h3⟩
section W30
variable {p : Program} {l : Launch} {e : Env} {R : Room} {s : State} {m : MethodId} {args : Array Value} {below : List Frame} {meth : Method} {c : Code} {H : Heap} {locs : List Loc} {cells slots : Nat} {Q : State → Prop} {g : JFrame}
theorem W_sz (h : H.size ≤ s.heap.size + cells → W p l e R s m args below meth c H locs cells slots Q g) : W p l e R s m args below meth c H locs cells slots Q g := fun T hT X => h (by rw [← hT]; exact X.heapSize) T hT X
end W30
/-- a new cell stands behind all others -/
theorem new_addr {dC : Nat → ClassId} {dI : Nat → Nat → Nat} {ct : Nat → ClassId} {ad : Nat → Nat} {S : aS} {q : Nat} {x : va_E} {H1 : Heap} (hrow : am_row ad) (h9 : 9 ≤ S.1.length) (hP : va_P (dC, dI) vwCl (am_w ftab ct ad S ++ [(q, x)]) H1) (hD : va_D (am_A ad) (am_w ftab ct ad S ++ [(q, x)])) (hs : H1.size ≤ ad 9 + (S.1.length - 9) + 1) : q = ad S.1.length := by
  have hlast : (am_w ftab ct ad S ++ [(q, x)])[S.1.length - 9]? = some (q, x) := by
    rw [List.getElem?_append_right (by rw [am_w_len]; exact Nat.le_refl _), am_w_len, Nat.sub_self]
    rfl
  have h1 := (hP _ _ hlast).lt
  have h2 : ad 9 ≤ q := hD.2 _ _ hlast
  have h3 := hrow S.1.length h9
  rcases Nat.lt_or_ge q (ad S.1.length) with h | h
  · have hj := am_w_get (ft := ftab) (ct := ct) (ad := ad) (S := S) (r := 9 + (q - ad 9)) (by omega) (by omega)
    rw [show 9 + (q - ad 9) - 9 = q - ad 9 by omega] at hj
    have hj2 : (am_w ftab ct ad S ++ [(q, x)])[q - ad 9]? = some (ad (9 + (q - ad 9)), am_e ftab ct ad (am_nth am_o0 S.1 (9 + (q - ad 9))) (S.2 (9 + (q - ad 9)))) := by
      rw [List.getElem?_append_left (by rw [am_w_len]; omega)]
      exact hj
    have h4 := hD.1 _ _ _ _ hj2 hlast (by
      show ad (9 + (q - ad 9)) = q
      rw [hrow _ (by omega)]
      omega)
    omega
  · show q = ad S.1.length
    have h1 : q < H1.size := h1
    omega
theorem am_sz_app : ∀ (l : List aC) (x : aC), am_sz (l ++ [x]) = am_sz l + x.2.1
  | [], x => by show x.2.1 + 0 = 0 + x.2.1; omega
  | y :: l, x => by
    show y.2.1 + am_sz (l ++ [x]) = y.2.1 + am_sz l + x.2.1
    rw [am_sz_app l x]; omega
theorem am_z_old {S : aS} {q : Nat} (h : q < S.1.length) : am_z S q = S.2 q := by
  funext j
  unfold am_z
  rw [nb_ne (Nat.ne_of_lt h)]
  rfl
theorem am_z_new (S : aS) : am_z S S.1.length = fun _ => 0 := by
  funext j
  unfold am_z
  rw [show Nat.beq S.1.length S.1.length = true by simp]
  rfl
theorem ok_t0 (ty : Nat) : ok_t ty 0 := by
  unfold ok_t
  split
  · trivial
  · exact rg_rl rg0
  · exact Or.inl rfl
  · omega
  · exact rg0
theorem ok_push {S : aS} {x : aC} (h : ok_h ftab S) : ok_h ftab (S.1 ++ [x], am_z S) := by
  intro q j
  show ok_t _ (am_z S q j)
  by_cases e : q = S.1.length
  · rw [e, am_z_new]; exact ok_t0 _
  · unfold am_z
    rw [nb_ne e]
    show ok_t _ (S.2 q j)
    rcases Nat.lt_or_ge q S.1.length with hl | hl
    · have := h q j
      unfold am_ty am_kd at this ⊢
      rw [am_nth_app _ _ _ _ hl]
      exact this
    · have := h q j
      unfold am_ty am_kd at this ⊢
      rw [am_nth_out _ _ _ hl] at this
      rw [am_nth_out _ _ _ (by simp; omega)]
      exact this
theorem RR.push {p : Program} {l : Launch} {e : Env} {R : Room} {s : State} {m : MethodId} {args : Array Value} {below : List Frame} {meth : Method} {c : Code} {Q : State → Prop} {nL : Nat} {dC : Nat → ClassId} {dI : Nat → Nat → Nat} {ct : Nat → ClassId} {ad : Nat → Nat} {n0 z0 : Nat} {x0 : Nat → aC × (Nat → Int)}
    {S : aS} {H : Heap} {locs : List Loc} {cl : aC} {x : va_E} (h9 : 9 ≤ n0) (hlim : S.1.length + 1 ≤ n0 + R.cells ∧ am_sz S.1 + cl.2.1 ≤ z0 + R.slots) (hR : RR (p, l, e, R, s, m, args, below, meth, c, Q, nL, dC, dI, ct, ad, n0, z0, x0) S H locs)
    (hx : am_e ftab ct ad cl (fun _ => 0) = x) {H1 : Heap} {locs1 : List Loc} (hP : va_P (dC, dI) vwCl (am_w ftab ct ad S ++ [(ad S.1.length, x)]) H1) (hS : va_S (am_A ad) s.heap H1 locs1) : RR (p, l, e, R, s, m, args, below, meth, c, Q, nL, dC, dI, ct, ad, n0, z0, x0) (S.1 ++ [cl], am_z S) H1 locs1 := by
  have hn := hR.2.2.2.1.1
  refine ⟨?_, hS, ok_push hR.2.2.1, ?_, ?_, ?_⟩
  · rw [am_w_push (T := (S.1 ++ [cl], am_z S)) (by omega) rfl (by show am_e ftab ct ad cl (am_z S S.1.length) = x; rw [am_z_new]; exact hx) (fun q hq => am_z_old hq)] at hP
    exact hP
  · show n0 ≤ (S.1 ++ [cl]).length ∧ (S.1 ++ [cl]).length ≤ n0 + R.cells
    simp; omega
  · refine ⟨?_, fun q hq => ?_⟩
    · show z0 ≤ am_sz (S.1 ++ [cl]) ∧ am_sz (S.1 ++ [cl]) ≤ z0 + R.slots
      rw [am_sz_app]
      have := hR.2.2.2.2.1.1
      omega
    · have := hR.2.2.2.2.1.2 q hq
      show am_nth am_o0 (S.1 ++ [cl]) q = _ ∧ am_z S q = _
      rw [am_nth_app _ _ _ _ (by omega), am_z_old (by omega)]
      exact this
  · exact hR.2.2.2.2.2.same (fun q hq => am_nth_app _ _ _ _ (by omega)) (fun q hq => am_z_old (by omega))
section S30
variable {G : aG} {cc : ByteArray} {own pc : Nat} {ls : aL} {st : List aV} {S : aS}
theorem s_gst {r ix : Nat} (hF : FX G cc own) (hd : decode cc pc = .ok (.getstatic ix, 3)) (ht : (own, ix, r) ∈ tSr) (k : WA G (pc + 3) ls (.inr (.inr r) :: st) S) : WA G pc ls st S := by
  obtain ⟨p, l, e, R, s, m, args, below, meth, c, Q, nL, dC, dI, ct, ad, n0, z0, x0⟩ := G
  intro H locs lsC hR hlv h1 h2
  have kk := k H locs lsC hR hlv h1 (ok_c.mpr ⟨trivial, h2⟩)
  obtain ⟨-, x2, x3, x4, x5, x6, x7⟩ := hR.2.2.2.2.2
  simp only [tSr, List.mem_cons, List.not_mem_nil, or_false, Prod.mk.injEq] at ht
  rcases ht with ⟨rfl, rfl, rfl⟩ | ⟨rfl, rfl, rfl⟩ | ⟨rfl, rfl, rfl⟩ | ⟨rfl, rfl, rfl⟩ | ⟨rfl, rfl, rfl⟩
  · exact va_gets hF.1 hF.2.1 x2 hR.2.1 hF.2.2.2.1 (hF.2.2.2.2.1 _ lkA rfl) (fun x h => h) hd kk
  · exact va_getsN hF.1 hF.2.1 x2 hR.2.1 hF.2.2.2.1 (hF.2.2.2.2.1 _ lkB rfl) (fun x h => h) hd kk
  · exact va_getsN hF.1 hF.2.1 x2 hR.2.1 hF.2.2.2.1 (hF.2.2.2.2.1 _ lkC rfl) (fun x h => h) hd kk
  · exact va_gets hF.1 hF.2.1 x3 hR.2.1 hF.2.2.2.1 (hF.2.2.2.2.1 _ lkD rfl) (fun x h => h) hd kk
  · exact va_gets hF.1 hF.2.1 x4 hR.2.1 hF.2.2.2.1 (hF.2.2.2.2.1 _ lkE rfl) (fun x h => h) hd kk
theorem s_gsi (hF : FX G cc 14) (hd : decode cc pc = .ok (.getstatic 38, 3)) (k : WA G (pc + 3) ls (.inl 1 :: st) S) : WA G pc ls st S := by
  obtain ⟨p, l, e, R, s, m, args, below, meth, c, Q, nL, dC, dI, ct, ad, n0, z0, x0⟩ := G
  intro H locs lsC hR hlv h1 h2
  have kk := k H locs lsC hR hlv h1 (ok_c.mpr ⟨by show am_rg 1; unfold am_rg; omega, h2⟩)
  obtain ⟨-, x2, x3, x4, x5, x6, x7⟩ := hR.2.2.2.2.2
  exact va_gets hF.1 hF.2.1 x5 hR.2.1 hF.2.2.2.1 (hF.2.2.2.2.1 _ lkF rfl) (fun x h => h) hd kk
theorem s_ldcS {r ix : Nat} (hF : FX G cc own) (hd : decode cc pc = .ok (.ldc ix, 2)) (ht : (own, ix, r) ∈ tTx) (k : WA G (pc + 2) ls (.inr (.inr r) :: st) S) : WA G pc ls st S := by
  obtain ⟨p, l, e, R, s, m, args, below, meth, c, Q, nL, dC, dI, ct, ad, n0, z0, x0⟩ := G
  intro H locs lsC hR hlv h1 h2
  have kk := k H locs lsC hR hlv h1 (ok_c.mpr ⟨trivial, h2⟩)
  obtain ⟨-, x2, x3, x4, x5, x6, x7⟩ := hR.2.2.2.2.2
  simp only [tTx, List.mem_cons, List.not_mem_nil, or_false, Prod.mk.injEq] at ht
  rcases ht with ⟨rfl, rfl, rfl⟩ | ⟨rfl, rfl, rfl⟩
  · exact va_ldcS hF.1 hF.2.1 hF.2.2.2.1 x6 hd kk
  · exact va_ldcS hF.1 hF.2.1 hF.2.2.2.1 x7 hd kk
theorem s_getS {r n ix : Nat} (hF : FX G cc 14) (hd : decode cc pc = .ok (.getfield ix, 3)) (hO : am_isO S.1 r n = true) (ht : (n = 2000 ∧ ix = 9) ∨ (n = 2001 ∧ ix = 15))
    (k : WA G (pc + 3) ls (am_getf (am_nth am_o0 S.1 r) (ftab (n / 100) (n % 100)) S.2 r (n % 100) :: st) S) : WA G pc ls (.inr (.inr r) :: st) S := by
  obtain ⟨p, l, e, R, s, m, args, below, meth, c, Q, nL, dC, dI, ct, ad, n0, z0, x0⟩ := G
  have hk : am_kd S.1 r = 30 := by
    have := (isO_ok hO).1
    rcases ht with ⟨rfl, -⟩ | ⟨rfl, -⟩ <;> exact this
  obtain ⟨h9, h0, h8⟩ := kd_x hk (by decide)
  intro H locs lsC hR hlv h1 h2
  have kk := k H locs lsC hR hlv h1 (ok_c.mpr ⟨ok_getf (by
    rw [← am_ty_o (ft := ftab) (k := n % 100) (c := n / 100) (by rw [hk]; rcases ht with ⟨rfl, -⟩ | ⟨rfl, -⟩ <;> rfl)]; exact hR.2.2.1 r _), (ok_c.mp h2).2⟩)
  obtain ⟨x1, -⟩ := hR.2.2.2.2.2
  obtain ⟨-, y2, y3⟩ := (x1 r h9).2.2.2 hk
  show W p l e R s m args below meth c H locs _ _ Q (F0 m pc lsC (cv ad (.inr (.inr r)) :: st.map (cv ad)))
  rw [cv_ref h0 h8]
  rcases ht with ⟨rfl, rfl⟩ | ⟨rfl, rfl⟩
  · exact vk_getf hF.1 hF.2.1 y2 hR.2.1 hF.2.2.2.1 (hF.2.2.2.2.1 _ lkG rfl) (fun x h => h) hd kk
  · exact vk_getf hF.1 hF.2.1 y3 hR.2.1 hF.2.2.2.1 (hF.2.2.2.2.1 _ lkH rfl) (fun x h => h) hd kk
theorem s_aald {r q : Nat} {i : Int} {j : Nat} (hF : FX G cc own) (hd : decode cc pc = .ok (.aaload, 1)) (hk : am_kd S.1 r = 5) (hi : am_ix i (am_nth am_o0 S.1 r).2.1) (hj : i = j) (hq : am_nth 0 (am_nth am_o0 S.1 r).2.2 j = q) (k : WA G (pc + 1) ls (.inr (.inr q) :: st) S) : WA G pc ls (.inl i :: .inr (.inr r) :: st) S := by
  obtain ⟨p, l, e, R, s, m, args, below, meth, c, Q, nL, dC, dI, ct, ad, n0, z0, x0⟩ := G
  intro H locs lsC hR hlv h1 h2
  obtain ⟨hiv, h2⟩ := ok_c.mp h2
  have kk := k H locs lsC hR hlv h1 (ok_c.mpr ⟨trivial, (ok_c.mp h2).2⟩)
  obtain ⟨h9, hc, hl⟩ := kd_w hk (by decide) (by decide)
  show W p l e R s m args below meth c H locs _ _ Q (F0 m pc lsC (.int (Int32.ofInt i) :: cv ad (.inr (.inr r)) :: st.map (cv ad)))
  rw [cv_ref (by omega) (by omega)]
  have hw := am_w_get (ft := ftab) (ct := ct) (ad := ad) (S := S) h9 hl
  unfold am_e at hw
  rw [hc] at hw
  refine va_aldq hF.1 hF.2.1 hF.2.2.2.2.2.1 hR.1 (r - 9) 4 hw rfl (ix32 hi hiv) hd ?_
  rw [cl32 hiv, am_opt_cv, hj, Int.toNat_natCast, hq]
  exact kk
theorem s_aast {r q : Nat} {i : Int} (hF : FX G cc own) (hd : decode cc pc = .ok (.aastore, 1)) (hk : am_kd S.1 r = 5) (hq : am_kd S.1 q = 19) (hi : am_ix i (am_nth am_o0 S.1 r).2.1) (hi2 : am_ix i (am_nth am_o0 S.1 r).2.2.length)
    (k : WA G (pc + 1) ls st (am_put (5, (am_nth am_o0 S.1 r).2.1, am_put q (am_nth am_o0 S.1 r).2.2 i.toNat) S.1 r, S.2)) : WA G pc ls (.inr (.inr q) :: .inl i :: .inr (.inr r) :: st) S := by
  obtain ⟨p, l, e, R, s, m, args, below, meth, c, Q, nL, dC, dI, ct, ad, n0, z0, x0⟩ := G
  intro H locs lsC hR hlv h1 h2
  obtain ⟨-, h2⟩ := ok_c.mp h2
  obtain ⟨hiv, h2⟩ := ok_c.mp h2
  obtain ⟨h9, hc, hl⟩ := kd_w hk (by decide) (by decide)
  obtain ⟨g9, gc, gl⟩ := kd_w hq (by decide) (by decide)
  show W p l e R s m args below meth c H locs _ _ Q (F0 m pc lsC (cv ad (.inr (.inr q)) :: .int (Int32.ofInt i) :: cv ad (.inr (.inr r)) :: st.map (cv ad)))
  rw [cv_ref (r := r) (by omega) (by omega), cv_ref (r := q) (by omega) (by omega)]
  have hw := am_w_get (ft := ftab) (ct := ct) (ad := ad) (S := S) h9 hl
  unfold am_e at hw
  rw [hc] at hw
  have gw := am_w_get (ft := ftab) (ct := ct) (ad := ad) (S := S) g9 gl
  rw [am_e_o (n := 9) gc] at gw
  refine va_astq hF.1 hF.2.1 hF.2.2.2.2.2.1 hR.1 (am_w_D hF.2.2.2.2.2.2.1 S) hR.2.1 (r - 9) 4 (q - 9) 9 hw (r := (cN 9, cT 9, nf 9)) rfl gw (cls_at 9 (by decide)) (ix32 hi hiv) hd (fun H1 locs1 hP1 hD1 hS1 => ?_)
  rw [cl32 hiv] at hP1
  have hlen : (am_put (5, (am_nth am_o0 S.1 r).2.1, am_put q (am_nth am_o0 S.1 r).2.2 i.toNat) S.1 r).length = S.1.length := am_put_len _ _ _
  have hsz : am_sz (am_put (5, (am_nth am_o0 S.1 r).2.1, am_put q (am_nth am_o0 S.1 r).2.2 i.toNat) S.1 r) = am_sz S.1 := am_sz_put _ _ _ rfl
  have hR1 := RR.store (S2 := (am_put (5, (am_nth am_o0 S.1 r).2.1, am_put q (am_nth am_o0 S.1 r).2.2 i.toNat) S.1 r, S.2)) hR h9 hl hlen hsz (by
      rw [am_nth_put _ _ _ _ _ hl, if_pos rfl]
      unfold am_e
      show Sum.inl (ct 5, (am_nth am_o0 S.1 r).2.1, Sum.inr (Sum.inr (Sum.inr (Sum.inr fun j => am_opt ad (am_nth 0 (am_put q (am_nth am_o0 S.1 r).2.2 i.toNat) j))))) = Sum.inl (ct 5, (am_nth am_o0 S.1 r).2.1, Sum.inr (Sum.inr (Sum.inr (Sum.inr (va_up (fun j => am_opt ad (am_nth 0 (am_nth am_o0 S.1 r).2.2 j)) i.toNat (some (ad q)))))))
      congr 7
      funext j
      obtain ⟨i1, i2⟩ := hi2
      rw [am_nth_put _ _ _ _ _ (by omega)]
      unfold va_up
      by_cases ej : j = i.toNat
      · rw [if_pos ej, if_pos ej]
        unfold am_opt
        rw [nb_ne (show q ≠ 0 by omega), nb_ne (show q ≠ 8 by omega)]
        rfl
      · rw [if_neg ej, if_neg ej]) (fun q2 hq2 => ⟨by rw [am_nth_put _ _ _ _ _ hl, if_neg hq2], rfl⟩) (ok_put hR.2.2.1 hl hc.symm) hP1 hS1
  exact WP_same (S := S) hlen hsz (k H1 locs1 lsC hR1 hlv h1 (ok_c.mp h2).2)
end S30
