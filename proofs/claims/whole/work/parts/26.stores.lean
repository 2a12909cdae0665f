/-! rows of stores -/
theorem am_up_ne {h : aH} {r k q : Nat} {v : Int} (hq : q ≠ r) : am_up h r k v q = h q := by
  funext j
  rw [am_up_at, if_neg (fun z => hq z.1)]
theorem am_up_row (h : aH) (r k : Nat) (v : Int) (j : Nat) : am_up h r k v r j = if j = k then v else h r j := by
  rw [am_up_at]
  by_cases e : j = k
  · rw [if_pos ⟨rfl, e⟩, if_pos e]
  · rw [if_neg (fun z => e z.2), if_neg e]
theorem am_sz_put : ∀ (l : List aC) (k : Nat) (x : aC), x.2.1 = (am_nth am_o0 l k).2.1 → am_sz (am_put x l k) = am_sz l
  | [], _, _, _ => rfl
  | y :: l, 0, x, h => by
    show x.2.1 + am_sz l = y.2.1 + am_sz l
    rw [h]; rfl
  | y :: l, k + 1, x, h => by
    show y.2.1 + am_sz (am_put x l k) = y.2.1 + am_sz l
    rw [am_sz_put l k x h]
theorem ok_up {S : aS} {r k : Nat} {v : Int} (h : ok_h ftab S) (hv : ok_t (am_ty ftab S.1 r k) v) : ok_h ftab (S.1, am_up S.2 r k v) := by
  intro q j
  show ok_t (am_ty ftab S.1 q j) (am_up S.2 r k v q j)
  rw [am_up_at]
  by_cases e : q = r ∧ j = k
  · rw [if_pos e, e.1, e.2]; exact hv
  · rw [if_neg e]; exact h q j
theorem am_kd_put {sh : List aC} {r : Nat} {x : aC} (hr : r < sh.length) (hx : x.1 = (am_nth am_o0 sh r).1) (q : Nat) : am_kd (am_put x sh r) q = am_kd sh q := by
  have e : (am_nth am_o0 (am_put x sh r) q).1 = (am_nth am_o0 sh q).1 := by
    rw [am_nth_put _ _ _ _ _ hr]
    by_cases e : q = r
    · rw [if_pos e, hx, e]
    · rw [if_neg e]
  unfold am_kd
  rw [e]
theorem ok_put {S : aS} {r : Nat} {x : aC} (h : ok_h ftab S) (hr : r < S.1.length) (hx : x.1 = (am_nth am_o0 S.1 r).1) : ok_h ftab (am_put x S.1 r, S.2) := by
  intro q j
  have := h q j
  unfold am_ty at this ⊢
  rw [am_kd_put hr hx]
  exact this
theorem upd32 (h : aH) (r k : Nat) (v : Int) : (fun j => Int32.ofInt (am_up h r k v r j)) = upd (fun j => Int32.ofInt (h r j)) k (Int32.ofInt v) := by
  funext j
  rw [am_up_row]
  unfold upd
  by_cases e : j = k
  · rw [if_pos e, if_pos e]
  · rw [if_neg e, if_neg e]
theorem upd64 (h : aH) (r k : Nat) (v : Int) : (fun j => Int64.ofInt (am_up h r k v r j)) = vp_updL (fun j => Int64.ofInt (h r j)) k (Int64.ofInt v) := by
  funext j
  rw [am_up_row]
  unfold vp_updL
  by_cases e : j = k
  · rw [if_pos e, if_pos e]
  · rw [if_neg e, if_neg e]
/-- a store: what it leaves -/
theorem RR.store {p : Program} {l : Launch} {e : Env} {R : Room} {s : State} {m : MethodId} {args : Array Value} {below : List Frame} {meth : Method} {c : Code} {Q : State → Prop} {nL : Nat} {dC : Nat → ClassId} {dI : Nat → Nat → Nat} {ct : Nat → ClassId} {ad : Nat → Nat} {n0 z0 : Nat} {x0 : Nat → aC × (Nat → Int)}
    {S S2 : aS} {H : Heap} {locs : List Loc} {r : Nat} {x : va_E} (hR : RR (p, l, e, R, s, m, args, below, meth, c, Q, nL, dC, dI, ct, ad, n0, z0, x0) S H locs) (h9 : 9 ≤ r) (hr : r < S.1.length) (hl : S2.1.length = S.1.length) (hz : am_sz S2.1 = am_sz S.1)
    (hx : am_e ftab ct ad (am_nth am_o0 S2.1 r) (S2.2 r) = x) (ho : ∀ q, q ≠ r → am_nth am_o0 S2.1 q = am_nth am_o0 S.1 q ∧ S2.2 q = S.2 q) (hok : ok_h ftab S2)
    {H1 : Heap} {locs1 : List Loc} (hP : va_P (dC, dI) vwCl ((am_w ftab ct ad S).set (r - 9) (ad r, x)) H1) (hS : va_S (am_A ad) s.heap H1 locs1) : RR (p, l, e, R, s, m, args, below, meth, c, Q, nL, dC, dI, ct, ad, n0, z0, x0) S2 H1 locs1 := by
  refine ⟨?_, hS, hok, ?_, ?_, ?_⟩
  · rw [am_w_set h9 hr hl hx (fun q hq _ => by rw [(ho q hq).1, (ho q hq).2])] at hP
    exact hP
  · rw [hl]; exact hR.2.2.2.1
  · exact ⟨by rw [hz]; exact hR.2.2.2.2.1.1, fun q hq => by rw [(ho q (by omega)).1, (ho q (by omega)).2]; exact hR.2.2.2.2.1.2 q hq⟩
  · exact hR.2.2.2.2.2.same (fun q hq => (ho q (by omega)).1) (fun q hq => (ho q (by omega)).2)
theorem set_fv {ad : Nat → Nat} {t : Nat → Nat} {rs rs2 : List Nat} {h h2 : Nat → Int} {n k : Nat} {v : Value} (hk : am_fv ad (t k) rs2 h2 k = v) (ho : ∀ j, j ≠ k → am_fv ad (t j) rs2 h2 j = am_fv ad (t j) rs h j) :
    (List.range n).map (fun j => am_fv ad (t j) rs2 h2 j) = ((List.range n).map (fun j => am_fv ad (t j) rs h j)).set k v := by
  apply List.ext_getElem?
  intro j
  rw [List.getElem?_map]
  by_cases hj : j < n
  · by_cases e : j = k
    · subst e
      rw [List.getElem?_range hj, List.getElem?_set_self (by simpa using hj), ← hk]
      rfl
    · rw [List.getElem?_set_ne (fun z => e z.symm), List.getElem?_map, List.getElem?_range hj]
      exact congrArg some (ho j e)
  · rw [List.getElem?_eq_none (by simpa using hj), List.getElem?_eq_none (by simpa using hj)]
    rfl
theorem fv_up (ad : Nat → Nat) (ty : Nat) (rs : List Nat) (h : aH) (r k : Nat) (v : Int) (j : Nat) (hj : j ≠ k) : am_fv ad ty rs (am_up h r k v r) j = am_fv ad ty rs (h r) j := by
  unfold am_fv
  rw [am_up_row, if_neg hj]
def aMe (G : aG) : Method := G.2.2.2.2.2.2.2.2.1
section S26
variable {G : aG} {cc : ByteArray} {own pc : Nat} {ls : aL} {st : List aV} {S : aS}
theorem s_put {r n ix : Nat} {v : aV} {S2 : aS} (hF : FX G cc own) (hd : decode cc pc = .ok (.putfield ix, 3)) (hO : am_isO S.1 r n = true) (ht : (own, ix, n / 100, n % 100) ∈ tFl)
    (hfin : (cT (n / 100) (n % 100)).2.2.2 = false ∨ ((aMe G).name = "<init>" ∧ own = n / 100))
    (hv : ok_v v → narrow (cTy (n / 100) (n % 100)) (cv (aAd G) v) = cv (aAd G) v ∧ fits (cTy (n / 100) (n % 100)) (cv (aAd G) v) = true)
    (hl : S2.1.length = S.1.length) (hz : am_sz S2.1 = am_sz S.1) (ho : ∀ q, q ≠ r → am_nth am_o0 S2.1 q = am_nth am_o0 S.1 q ∧ S2.2 q = S.2 q)
    (hx : (am_nth am_o0 S2.1 r).1 = (am_nth am_o0 S.1 r).1 ∧ (am_nth am_o0 S2.1 r).2.1 = (am_nth am_o0 S.1 r).2.1)
    (hk : am_fv (aAd G) (ftab (n / 100) (n % 100)) (am_nth am_o0 S2.1 r).2.2 (S2.2 r) (n % 100) = cv (aAd G) v)
    (hj : ∀ j, j ≠ n % 100 → am_fv (aAd G) (ftab (n / 100) j) (am_nth am_o0 S2.1 r).2.2 (S2.2 r) j = am_fv (aAd G) (ftab (n / 100) j) (am_nth am_o0 S.1 r).2.2 (S.2 r) j)
    (hok : ok_h ftab S → ok_v v → ok_h ftab S2) (k : WA G (pc + 3) ls st S2) : WA G pc ls (v :: .inr (.inr r) :: st) S := by
  obtain ⟨p, l, e, R, s, m, args, below, meth, c, Q, nL, dC, dI, ct, ad, n0, z0, x0⟩ := G
  obtain ⟨hkd, hn⟩ := isO_ok hO
  obtain ⟨h13, hnf⟩ := tFl_lt _ ht
  obtain ⟨h9, hc, hlen⟩ := kd_w hkd (by omega) (by
    have : ∀ c, c < 13 → am_xk (10 + c) = false := by decide
    exact this _ h13)
  intro H locs lsC hR hlv h1 h2
  obtain ⟨hv1, h2⟩ := ok_c.mp h2
  obtain ⟨-, h2⟩ := ok_c.mp h2
  obtain ⟨hv2, hv3⟩ := hv hv1
  show W p l e R s m args below meth c H locs _ _ Q (F0 m pc lsC (cv ad v :: cv ad (.inr (.inr r)) :: st.map (cv ad)))
  rw [cv_ref (by omega) (by omega)]
  have hw := am_w_get (ft := ftab) (ct := ct) (ad := ad) (S := S) h9 hlen
  rw [am_e_o hc] at hw
  have fin : ∀ (H1 : Heap) (locs1 : List Loc), va_P (dC, dI) vwCl ((am_w ftab ct ad S).set (r - 9) (ad r, .inr (n / 100, ((List.range (am_nth am_o0 S.1 r).2.1).map fun k => am_fv ad (ftab (n / 100) k) (am_nth am_o0 S.1 r).2.2 (S.2 r) k).set (n % 100) (cv ad v)))) H1 → va_D (am_A ad) ((am_w ftab ct ad S).set (r - 9) (ad r, .inr (n / 100, ((List.range (am_nth am_o0 S.1 r).2.1).map fun k => am_fv ad (ftab (n / 100) k) (am_nth am_o0 S.1 r).2.2 (S.2 r) k).set (n % 100) (cv ad v)))) → va_S (am_A ad) s.heap H1 locs1 →
      W p l e R s m args below meth c H1 locs1 (S.1.length - n0) (am_sz S.1 - z0) Q (F0 m (pc + 3) lsC (st.map (cv ad))) := by
    intro H1 locs1 hP1 hD1 hS1
    have hR1 := RR.store (S2 := S2) hR h9 hlen hl hz (by rw [am_e_o (n := n / 100) (by rw [hx.1, hc]), hx.2]; exact congrArg (fun x => Sum.inr (n / 100, x)) (set_fv (t := ftab (n / 100)) (ad := ad) hk hj)) ho (hok hR.2.2.1 hv1) hP1 hS1
    have q := k H1 locs1 lsC hR1 hlv h1 h2
    unfold WP at q
    rw [hl, hz] at q
    exact q
  rcases hfin with hfin | ⟨hfin, hown⟩
  · exact va_put hF.1 hF.2.1 (lay_of hF.2.2.2.2.1 h13) (fun w h => h) (cTy (n / 100)) (cls_pf _ h13) (cls_nm _ h13) hF.2.2.2.1 hF.2.2.2.2.2.1 hR.1 (am_w_D hF.2.2.2.2.2.2.1 S) hR.2.1 (r - 9) hw (cls_at _ h13) (n % 100) hnf (hF.2.2.2.2.1 _ (tFl_ok _ ht) rfl) (fun x hx => by rw [cls_own _ h13 _ hnf] at hx; exact hx) hfin (cls_pf _ h13 _ hnf) hv2 hv3 (by simpa using hn) hd fin
  · by_cases hf : (cT (n / 100) (n % 100)).2.2.2 = true
    · exact va_putF hF.1 hF.2.1 (lay_of hF.2.2.2.2.1 h13) (fun w h => h) (cTy (n / 100)) (cls_pf _ h13) (cls_nm _ h13) hF.2.2.2.1 hF.2.2.2.2.2.1 hR.1 (am_w_D hF.2.2.2.2.2.2.1 S) hR.2.1 (r - 9) hw (cls_at _ h13) (n % 100) hnf (hF.2.2.2.2.1 _ (tFl_ok _ ht) rfl) (fun x hx => by rw [cls_own _ h13 _ hnf] at hx; exact hx) hf hfin (by rw [cls_own _ h13 _ hnf, hown]) (cls_pf _ h13 _ hnf) hv2 hv3 (by simpa using hn) hd fin
    · exact va_put hF.1 hF.2.1 (lay_of hF.2.2.2.2.1 h13) (fun w h => h) (cTy (n / 100)) (cls_pf _ h13) (cls_nm _ h13) hF.2.2.2.1 hF.2.2.2.2.2.1 hR.1 (am_w_D hF.2.2.2.2.2.2.1 S) hR.2.1 (r - 9) hw (cls_at _ h13) (n % 100) hnf (hF.2.2.2.2.1 _ (tFl_ok _ ht) rfl) (fun x hx => by rw [cls_own _ h13 _ hnf] at hx; exact hx) (by simpa using hf) (cls_pf _ h13 _ hnf) hv2 hv3 (by simpa using hn) hd fin
end S26
