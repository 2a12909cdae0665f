/-! rows of fields, arrays, static fields -/
def nf (c : Nat) : Nat := am_nth 0 mNf c
def cTy (n : Nat) : Nat → FieldType := match n with
  | 0 => tyX0
  | 1 => tyX1
  | 2 => tyX2
  | 3 => tyX3
  | 4 => tyX4
  | 5 => tyX5
  | 6 => tyX6
  | 7 => tyX7
  | 8 => tyX8
  | 9 => tyX9
  | 10 => tyX10
  | 11 => tyX11
  | _ => tyX12
theorem c13 {P : Nat → Prop} (h0 : P 0) (h1 : P 1) (h2 : P 2) (h3 : P 3) (h4 : P 4) (h5 : P 5) (h6 : P 6) (h7 : P 7) (h8 : P 8) (h9 : P 9) (h10 : P 10) (h11 : P 11) (h12 : P 12) : ∀ c, c < 13 → P c
  | 0, _ => h0 | 1, _ => h1 | 2, _ => h2 | 3, _ => h3 | 4, _ => h4 | 5, _ => h5 | 6, _ => h6 | 7, _ => h7 | 8, _ => h8 | 9, _ => h9 | 10, _ => h10 | 11, _ => h11 | 12, _ => h12
  | n + 13, h => absurd h (by omega)
theorem cls_at : ∀ c, c < 13 → vwCl[c]? = some (cN c, cT c, nf c) := c13 rfl rfl rfl rfl rfl rfl rfl rfl rfl rfl rfl rfl rfl
theorem cls_in : ∀ c, c < 13 → ∀ w ∈ u_ws (cN c) (cT c) (nf c), w ∈ lw_tbl := c13 inX0 inX1 inX2 inX3 inX4 inX5 inX6 inX7 inX8 inX9 inX10 inX11 inX12
theorem cls_pf : ∀ c, c < 13 → ∀ k, k < nf c → parseFieldDescriptor (cT c k).2.2.1 = some (cTy c k) := c13 tyX0_ok tyX1_ok tyX2_ok tyX3_ok tyX4_ok tyX5_ok tyX6_ok tyX7_ok tyX8_ok tyX9_ok tyX10_ok tyX11_ok tyX12_ok
theorem cls_nm : ∀ c, c < 13 → ∀ a, a < nf c → ∀ b, b < nf c → a ≠ b → (cT c a).2.1 ≠ (cT c b).2.1 := c13 nmX0 nmX1 nmX2 nmX3 nmX4 nmX5 nmX6 nmX7 nmX8 nmX9 nmX10 nmX11 nmX12
theorem cls_own : ∀ c, c < 13 → ∀ k, k < nf c → (cT c k).1 = cN c := by decide +kernel
def refT : FieldType → Bool
  | .object _ => true
  | .array _ => true
  | _ => false
/-- a field's type by its number -/
def tyIs (n : Nat) (ty : FieldType) : Bool := match n with
  | 0 => refT ty
  | 1 => decide (ty = .int)
  | 2 => decide (ty = .long)
  | 3 => decide (ty = .boolean)
  | _ => false
theorem cls_ty : ∀ c, c < 13 → ∀ k, k < nf c → tyIs (ftab c k) (cTy c k) = true := by decide +kernel
theorem tFl_lt : ∀ q ∈ tFl, q.2.2.1 < 13 ∧ q.2.2.2 < nf q.2.2.1 := by decide +kernel
theorem xk0 {k : Nat} (h : am_xk k = false) : k ≠ 6 ∧ k ≠ 7 ∧ k ≠ 8 ∧ k ≠ 30 := by
  refine ⟨?_, ?_, ?_, ?_⟩ <;> (intro e; subst e; revert h; decide)
/-- a kind of the program's own -/
theorem kd_w {sh : List aC} {r K : Nat} (h : am_kd sh r = K) (h0 : K ≠ 0) (hx : am_xk K = false) : 9 ≤ r ∧ (am_nth am_o0 sh r).1 = K ∧ r < sh.length := by
  unfold am_kd at h
  cases h1 : (Nat.beq r 0 || Nat.beq r 8) with
  | true => rw [h1] at h; exact absurd h.symm h0
  | false =>
    rw [h1] at h
    simp only [cond_false] at h
    cases h2 : Nat.ble 9 r with
    | false =>
      rw [h2] at h
      simp only [cond_false] at h
      cases h3 : am_xk (am_nth am_o0 sh r).1 with
      | true =>
        rw [h3] at h
        simp only [cond_true] at h
        rw [h, hx] at h3
        cases h3
      | false => rw [h3] at h; exact absurd h.symm h0
    | true =>
      rw [h2] at h
      simp only [cond_true] at h
      cases h3 : am_xk (am_nth am_o0 sh r).1 with
      | true => rw [h3] at h; exact absurd h.symm h0
      | false =>
        rw [h3] at h
        simp only [cond_false] at h
        refine ⟨Nat.le_of_ble_eq_true h2, h, ?_⟩
        rcases Nat.lt_or_ge r sh.length with q | q
        · exact q
        · rw [am_nth_out _ _ _ q] at h
          exact absurd h.symm h0
/-- a kind of what was there before -/
theorem kd_x {sh : List aC} {r K : Nat} (h : am_kd sh r = K) (hx : am_xk K = true) : r < 9 ∧ r ≠ 0 ∧ r ≠ 8 := by
  have h0 : K ≠ 0 := fun e => by subst e; cases hx
  unfold am_kd at h
  cases h1 : (Nat.beq r 0 || Nat.beq r 8) with
  | true => rw [h1] at h; exact absurd h.symm h0
  | false =>
    have hz : r ≠ 0 ∧ r ≠ 8 := by
      constructor <;> (intro e; subst e; cases h1)
    rw [h1] at h
    simp only [cond_false] at h
    cases h2 : Nat.ble 9 r with
    | false =>
      refine ⟨Nat.not_le.mp fun q => ?_, hz⟩
      rw [Nat.ble_eq_true_of_le q] at h2
      cases h2
    | true =>
      rw [h2] at h
      simp only [cond_true] at h
      cases h3 : am_xk (am_nth am_o0 sh r).1 with
      | true => rw [h3] at h; exact absurd h.symm h0
      | false =>
        rw [h3] at h
        simp only [cond_false] at h
        rw [h, hx] at h3
        cases h3
theorem isO_ok {sh : List aC} {r n : Nat} (h : am_isO sh r n = true) : am_kd sh r = 10 + n / 100 ∧ n % 100 < (am_nth am_o0 sh r).2.1 := by
  obtain ⟨h1, h2⟩ := Bool.and_eq_true_iff.mp h
  exact ⟨Nat.eq_of_beq_eq_true h1, Nat.le_of_ble_eq_true h2⟩
theorem cv_getf (ad : Nat → Nat) (c : aC) (ty : Nat) (h : aH) (r k : Nat) : cv ad (am_getf c ty h r k) = am_fv ad ty c.2.2 (h r) k := by
  match ty with
  | 0 => rfl
  | 1 => rfl
  | 2 => rfl
  | n + 3 => rfl
theorem ok_tf {z : Int} (h : am_tf z) : am_rg z := by
  rcases h with h | h <;> (subst h; unfold am_rg; omega)
theorem ok_getf {c : aC} {ty : Nat} {h : aH} {r k : Nat} (ho : ok_t ty (h r k)) : ok_v (am_getf c ty h r k) := by
  unfold am_getf
  split
  · trivial
  · exact ho
  · rename_i x1 x2
    show am_rg _
    unfold ok_t at ho
    split at ho
    · exact absurd rfl x1
    · exact absurd rfl x2
    · exact ok_tf ho
    · exact ⟨by omega, by omega⟩
    · exact ho
theorem am_ty_o {ft : Nat → Nat → Nat} {sh : List aC} {r c k : Nat} (h : am_kd sh r = 10 + c) : am_ty ft sh r k = ft c k := by
  unfold am_ty
  split <;> first | omega | (rename_i n _ _ _ _ _ _ _ _ ; rw [show am_kd sh r - 10 = c by omega])
theorem am_e_o {ft : Nat → Nat → Nat} {ct : Nat → ClassId} {ad : Nat → Nat} {c : aC} {h : Nat → Int} {n : Nat} (hc : c.1 = 10 + n) : am_e ft ct ad c h = .inr (n, (List.range c.2.1).map fun k => am_fv ad (ft n k) c.2.2 h k) := by
  unfold am_e
  split <;> first | omega | rw [show c.1 - 10 = n by omega]
theorem lay_of {args : Array Value} {s : State} (hts : ∀ w ∈ lw_tbl, lw_use w = true → w.before args s = true) {c : Nat} (hc : c < 13) : ∀ w ∈ u_ws (cN c) (cT c) (nf c), w.before args s = true := by
  intro w hw
  refine hts w (cls_in c hc w hw) ?_
  obtain ⟨q, -, rfl⟩ := List.mem_map.mp hw
  unfold u_lay
  split <;> rfl
section S24
variable {G : aG} {cc : ByteArray} {own pc : Nat} {ls : aL} {st : List aV} {S : aS}
theorem s_getf {r n ix : Nat} (hF : FX G cc own) (hd : decode cc pc = .ok (.getfield ix, 3)) (hO : am_isO S.1 r n = true) (ht : (own, ix, n / 100, n % 100) ∈ tFl)
    (k : WA G (pc + 3) ls (am_getf (am_nth am_o0 S.1 r) (ftab (n / 100) (n % 100)) S.2 r (n % 100) :: st) S) : WA G pc ls (.inr (.inr r) :: st) S := by
  obtain ⟨p, l, e, R, s, m, args, below, meth, c, Q, nL, dC, dI, ct, ad, n0, z0, x0⟩ := G
  obtain ⟨hk, hn⟩ := isO_ok hO
  obtain ⟨h13, hnf⟩ := tFl_lt _ ht
  obtain ⟨h9, hc, hl⟩ := kd_w hk (by omega) (by
    have : ∀ c, c < 13 → am_xk (10 + c) = false := by decide
    exact this _ h13)
  intro H locs lsC hR hlv h1 h2
  have kk := k H locs lsC hR hlv h1 (ok_c.mpr ⟨ok_getf (by rw [← am_ty_o (ft := ftab) (k := n % 100) hk]; exact hR.2.2.1 r _), (ok_c.mp h2).2⟩)
  show W p l e R s m args below meth c H locs _ _ Q (F0 m pc lsC (cv ad (.inr (.inr r)) :: st.map (cv ad)))
  rw [cv_ref (by omega) (by omega)]
  have hw := am_w_get (ft := ftab) (ct := ct) (ad := ad) (S := S) h9 hl
  rw [am_e_o hc] at hw
  refine va_get hF.1 hF.2.1 (lay_of hF.2.2.2.2.1 h13) (fun w h => h) hF.2.2.2.1 hF.2.2.2.2.2.1 hR.1 (r - 9) hw (cls_at _ h13) (n % 100) hnf (hF.2.2.2.2.1 _ (tFl_ok _ ht) rfl) (fun x hx => by rw [cls_own _ h13 _ hnf] at hx; exact hx) (v := cv ad (am_getf (am_nth am_o0 S.1 r) (ftab (n / 100) (n % 100)) S.2 r (n % 100))) ?_ hd kk
  rw [List.getElem?_map, List.getElem?_range hn, cv_getf]
  rfl
end S24
