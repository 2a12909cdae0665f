/-! calls and stores as the step has them -/
theorem nf_le (c : Nat) : nf c ≤ 99 := by
  rcases Nat.lt_or_ge c 13 with h | h
  · have : ∀ c, c < 13 → nf c ≤ 99 := by decide
    exact this c h
  · show am_nth 0 mNf c ≤ 99
    rw [am_nth_out _ _ _ (show mNf.length ≤ c from h)]
    omega
theorem cv_refs (ad : Nat → Nat) (q : Nat) : cv ad (.inr (.inr q)) = .null ∨ ∃ a, cv ad (.inr (.inr q)) = .ref a := by
  show (bif Nat.beq q 0 || (Nat.beq q 8 && Nat.beq (ad 0) 0) then Value.null else Value.ref (ad q)) = .null ∨ ∃ a, (bif Nat.beq q 0 || (Nat.beq q 8 && Nat.beq (ad 0) 0) then Value.null else Value.ref (ad q)) = .ref a
  cases (Nat.beq q 0 || (Nat.beq q 8 && Nat.beq (ad 0) 0)) with
  | true => exact Or.inl rfl
  | false => exact Or.inr ⟨_, rfl⟩
theorem s_putf {G : aG} {cc : ByteArray} {own pc r n ix : Nat} {ls : aL} {st : List aV} {S : aS} {v : aV} {nx : aS → Prop} (hF : FX G cc own) (hd : decode cc pc = .ok (.putfield ix, 3)) (hO : am_isO S.1 r n = true) (ht : (own, ix, n / 100, n % 100) ∈ tFl)
    (hfin : (cT (n / 100) (n % 100)).2.2.2 = false ∨ ((aMe G).name = "<init>" ∧ own = n / 100)) (h : am_putf (X := Prop) False ckP (am_nth am_o0 S.1 r) (ftab (n / 100) (n % 100)) S r (n % 100) v nx) (k : ∀ S2, nx S2 → WA G (pc + 3) ls st S2) : WA G pc ls (v :: .inr (.inr r) :: st) S := by
  obtain ⟨hkd, hn⟩ := isO_ok hO
  obtain ⟨h13, hnf⟩ := tFl_lt _ ht
  obtain ⟨h9, hc, hlen⟩ := kd_w hkd (by omega) (by
    have : ∀ c, c < 13 → am_xk (10 + c) = false := by decide
    exact this _ h13)
  have hty := cls_ty _ h13 _ hnf
  have hty : tyIs (ftab (n / 100) (n % 100)) (cTy (n / 100) (n % 100)) = true := hty
  have num : ∀ (x : Int), (v = .inl x ∨ v = .inr (.inl x)) → (ok_v v → ok_t (ftab (n / 100) (n % 100)) x) → (ok_v v → narrow (cTy (n / 100) (n % 100)) (cv (aAd G) v) = cv (aAd G) v ∧ fits (cTy (n / 100) (n % 100)) (cv (aAd G) v) = true) → am_fv (aAd G) (ftab (n / 100) (n % 100)) (am_nth am_o0 S.1 r).2.2 (am_up S.2 r (n % 100) x r) (n % 100) = cv (aAd G) v → nx (S.1, am_up S.2 r (n % 100) x) → WA G pc ls (v :: .inr (.inr r) :: st) S := by
    intro x hvx hok hnf2 hfv hnx
    exact s_put (S2 := (S.1, am_up S.2 r (n % 100) x)) hF hd hO ht hfin hnf2 rfl rfl (fun q hq => ⟨rfl, am_up_ne hq⟩) ⟨rfl, rfl⟩ hfv (fun j hj => fv_up _ _ _ _ _ _ _ _ hj) (fun ho hov => ok_up ho (by rw [am_ty_o hkd]; exact hok hov)) (k _ hnx)
  unfold am_putf at h
  split at h
  · rename_i q e1
    rw [e1] at hty
    obtain ⟨hlt, h⟩ := bif_t (X := Nat) h
    have hlt : n % 100 < (am_nth am_o0 S.1 r).2.2.length := Nat.le_of_ble_eq_true hlt
    refine s_put (S2 := (am_put ((am_nth am_o0 S.1 r).1, (am_nth am_o0 S.1 r).2.1, am_put q (am_nth am_o0 S.1 r).2.2 (n % 100)) S.1 r, S.2)) hF hd hO ht hfin ?_ (am_put_len _ _ _) (am_sz_put _ _ _ rfl) (fun q2 hq2 => ⟨by rw [am_nth_put _ _ _ _ _ hlen, if_neg hq2], rfl⟩) (by rw [am_nth_put _ _ _ _ _ hlen, if_pos rfl]; exact ⟨rfl, rfl⟩) ?_ ?_ (fun ho _ => ok_put ho hlen rfl) (k _ h)
    · intro _
      have := fits_ref hty
      rcases cv_refs (aAd G) q with e | ⟨a, e⟩
      · rw [e]; exact ⟨(this 0).2.2.1, (this 0).2.2.2⟩
      · rw [e]; exact ⟨(this a).1, (this a).2.1⟩
    · rw [e1]
      show cv (aAd G) (.inr (.inr (am_nth 0 (am_nth am_o0 (am_put ((am_nth am_o0 S.1 r).1, (am_nth am_o0 S.1 r).2.1, am_put q (am_nth am_o0 S.1 r).2.2 (n % 100)) S.1 r) r).2.2 (n % 100)))) = _
      rw [am_nth_put _ _ _ _ _ hlen, if_pos rfl]
      show cv (aAd G) (.inr (.inr (am_nth 0 (am_put q (am_nth am_o0 S.1 r).2.2 (n % 100)) (n % 100)))) = _
      rw [am_nth_put _ _ _ _ _ hlt, if_pos rfl]
    · intro j hj
      rw [am_nth_put _ _ _ _ _ hlen, if_pos rfl]
      have e0 : am_nth 0 (am_put q (am_nth am_o0 S.1 r).2.2 (n % 100)) j = am_nth 0 (am_nth am_o0 S.1 r).2.2 j := by rw [am_nth_put _ _ _ _ _ hlt, if_neg hj]
      unfold am_fv
      simp only [e0]
  · rename_i x e1
    rw [e1] at hty
    have e2 : cTy (n / 100) (n % 100) = .int := of_decide_eq_true hty
    exact num x (Or.inl rfl) (fun h => by rw [e1]; exact h) (fun _ => by rw [e2]; exact ⟨rfl, rfl⟩) (by rw [e1]; show Value.int (Int32.ofInt (am_up S.2 r (n % 100) x r (n % 100))) = _; rw [am_up_row, if_pos rfl]; rfl) h
  · rename_i x e1
    rw [e1] at hty
    have e2 : cTy (n / 100) (n % 100) = .long := of_decide_eq_true hty
    exact num x (Or.inr rfl) (fun h => by rw [e1]; exact h) (fun _ => by rw [e2]; exact ⟨rfl, rfl⟩) (by rw [e1]; show Value.long (Int64.ofInt (am_up S.2 r (n % 100) x r (n % 100))) = _; rw [am_up_row, if_pos rfl]; rfl) h
  · rename_i x e1
    rw [e1] at hty
    have e2 : cTy (n / 100) (n % 100) = .boolean := of_decide_eq_true hty
    exact num x (Or.inl rfl) (fun _ => by rw [e1]; exact h.1) (fun _ => by rw [e2]; rcases h.1 with q | q <;> (subst q; exact ⟨rfl, rfl⟩)) (by rw [e1]; show Value.int (Int32.ofInt (am_up S.2 r (n % 100) x r (n % 100))) = _; rw [am_up_row, if_pos rfl]; rfl) h.2
  · exact h.elim
section S40
variable {G : aG} {cc : ByteArray} {own pc i x : Nat} {ls : aL} {st : List aV} {S : aS} {lim : Nat × Nat} {call : Nat → List aV → aS → (Option aV → aH → Prop) → Prop} {sp : Nat → List aV → aS → (aS → Prop) → Prop} {ret : Option aV → aS → Prop} {cut : Nat → aL → List aV → aS → Prop} {nxt : aL → List aV → aS → Prop} {jmp : Nat → aL → List aV → aS → Prop}
theorem s_cV {y : Nat} (hF : FX G cc own) (hd : decode cc pc = .ok (.invokevirtual x, 3)) (ht : (own, x, y) ∈ tMV) (h : am_1 (X := Prop) ftab mNa lim False brP ckP call sp ret cut i (.invokevirtual y) ls st S nxt jmp) (hkd : (mNa (2000 + y) = 10 + mCs y ∧ mCs y < 13) ∨ (mNa (2000 + y) = 30 ∧ mCs y = 14))
    (hrm : mFr y + 1 ≤ (aR G).frames ∧ 8 + (mLo y + 11) + mWd y ≤ (aR G).locals) (kcall : ∀ y as S cont, call y as S cont → ∃ v h, aMg G y as S v (S.1, h) ∧ cont v h) (k : ∀ ls st S, nxt ls st S → WA G (pc + 3) ls st S) : WA G pc ls st S := by
  simp only [am_1] at h
  split at h
  · rename_i r as st2 hp
    obtain ⟨xs, e1, e2, e3⟩ := pop_ok _ _ _ _ _ hp
    rw [List.append_nil] at e1
    subst e1
    obtain ⟨h0, h⟩ := bif_t (X := Nat) h
    obtain ⟨h0, h1⟩ := Bool.and_eq_true_iff.mp h0
    obtain ⟨v, hh, hM, hc⟩ := kcall _ _ _ _ h
    obtain ⟨p, l, e, R, s, m, args, below, meth, c, Q, nL, dC, dI, ct, ad, n0, z0, x0⟩ := G
    rw [e2, List.reverse_cons, List.append_assoc]
    obtain ⟨-, -, -, -, hce, hsl⟩ := tMV_id _ ht
    have hce : mCe y = 0 := hce
    have hsl : mSl y = 0 := hsl
    intro H locs lsC hR
    have hl := hR.2.2.2.1
    have hz := hR.2.2.2.2.1.1
    exact s_callV hF hd ht hM (by rw [← e3]; rfl) (Nat.eq_of_beq_eq_true h0) hkd hrm (Nat.le_of_ble_eq_true h1) ⟨by rw [hce]; rfl, by rw [hsl]; rfl, hl.2, hz.2⟩ (k _ _ _ hc) H locs lsC hR
  · exact h.elim
theorem s_cS {y : Nat} (hF : FX G cc own) (hd : decode cc pc = .ok (.invokestatic x, 3)) (ht : (own, x, y) ∈ tMS ∨ (own, x, y) ∈ tMT) (h : am_1 (X := Prop) ftab mNa lim False brP ckP call sp ret cut i (.invokestatic y) ls st S nxt jmp)
    (hrm : mFr y + 1 ≤ (aR G).frames ∧ 8 + (mLo y + 11) + mWd y ≤ (aR G).locals) (kcall : ∀ y as S cont, call y as S cont → ∃ v h, aMg G y as S v (S.1, h) ∧ cont v h) (k : ∀ ls st S, nxt ls st S → WA G (pc + 3) ls st S) : WA G pc ls st S := by
  simp only [am_1] at h
  split at h
  · rename_i as st2 hp
    obtain ⟨xs, e1, e2, e3⟩ := pop_ok _ _ _ _ _ hp
    rw [List.append_nil] at e1
    subst e1
    obtain ⟨h1, h⟩ := bif_t (X := Nat) h
    obtain ⟨v, hh, hM, hc⟩ := kcall _ _ _ _ h
    obtain ⟨p, l, e, R, s, m, args, below, meth, c, Q, nL, dC, dI, ct, ad, n0, z0, x0⟩ := G
    rw [e2]
    have hcs : mCe y = 0 ∧ mSl y = 0 := by
      rcases ht with ht | ht
      · obtain ⟨-, -, -, q1, q2⟩ := tMS_id _ ht
        exact ⟨q1, q2⟩
      · obtain ⟨-, -, -, q1, q2⟩ := tMT_id _ ht
        exact ⟨q1, q2⟩
    intro H locs lsC hR
    have hl := hR.2.2.2.1
    have hz := hR.2.2.2.2.1.1
    exact s_callS hF hd ht hM e3 hrm (Nat.le_of_ble_eq_true h1) ⟨by rw [hcs.1]; rfl, by rw [hcs.2]; rfl, hl.2, hz.2⟩ (k _ _ _ hc) H locs lsC hR
  · exact h.elim
theorem s_cI {y : Nat} (hF : FX G cc own) (hd : decode cc pc = .ok (.invokespecial x, 3)) (ht : (own, x, y) ∈ tMI ∨ (own, x, y) ∈ tMJ) (h : am_1 (X := Prop) ftab mNa lim False brP ckP call sp ret cut i (.invokespecial y) ls st S nxt jmp) (hk : 10 ≤ mNa (2000 + y) ∧ mNa (2000 + y) < 23)
    (hrm : mFr y + 1 ≤ (aR G).frames ∧ 8 + (mLo y + 11) + mWd y ≤ (aR G).locals) (hlim : lim.1 ≤ an0 G + (aR G).cells ∧ lim.2 ≤ az0 G + (aR G).slots) (ksp : ∀ y as S cont, sp y as S cont → ∃ S2 : aS, aMg G y as S none S2 ∧ S2.1.length = S.1.length + mCe y ∧ am_sz S2.1 = am_sz S.1 + mSl y ∧ S2.1.length ≤ lim.1 ∧ am_sz S2.1 ≤ lim.2 ∧ cont S2) (k : ∀ ls st S, nxt ls st S → WA G (pc + 3) ls st S) : WA G pc ls st S := by
  simp only [am_1] at h
  split at h
  · rename_i r as st2 hp
    obtain ⟨xs, e1, e2, e3⟩ := pop_ok _ _ _ _ _ hp
    rw [List.append_nil] at e1
    subst e1
    obtain ⟨h0, h⟩ := bif_t (X := Nat) h
    obtain ⟨h0, h1⟩ := Bool.and_eq_true_iff.mp h0
    obtain ⟨S2, hM, g1, g2, g3, g4, hc⟩ := ksp _ _ _ _ h
    have h0 := Nat.eq_of_beq_eq_true h0
    obtain ⟨r9, -, -⟩ := kd_w (sh := S.1) (r := r) (K := 10 + (mNa (2000 + y) - 10)) (by omega) (by omega) (by
      have : ∀ c, c < 13 → am_xk (10 + c) = false := by decide
      exact this _ (by omega))
    obtain ⟨p, l, e, R, s, m, args, below, meth, c, Q, nL, dC, dI, ct, ad, n0, z0, x0⟩ := G
    rw [e2, List.reverse_cons, List.append_assoc]
    exact s_callI hF hd ht hM (by rw [← e3]; rfl) (by omega) (by omega) hrm (Nat.le_of_ble_eq_true h1) ⟨g1, g2, Nat.le_trans g3 hlim.1, Nat.le_trans g4 hlim.2⟩ (k _ _ _ hc)
  · exact h.elim
theorem s_cX {id : Nat} (hF : FX G cc own) (hd : decode cc pc = .ok (.invokestatic x, 3)) (h : am_1 (X := Prop) ftab mNa lim False brP ckP call sp ret cut i (bif am_in2 tAc own x && Nat.ble 80 (mWd id) then .invokeinterface 1 0 else bif am_in2 tMx own x then .invokeinterface 2 0 else bif am_in2 tMn own x then .invokeinterface 3 0 else bif am_in2 tMa own x then .invokeinterface 4 0 else .athrow) ls st S nxt jmp)
    (hrm : 1 ≤ (aR G).frames ∧ 30 ≤ (aR G).locals) (hw : mWd id ≤ (aR G).locals) (k : ∀ ls st S, nxt ls st S → WA G (pc + 3) ls st S) : WA G pc ls st S := by
  cases b1 : (am_in2 tAc own x && Nat.ble 80 (mWd id)) with
  | true =>
    rw [b1] at h
    simp only [cond_true, am_1] at h
    obtain ⟨b1, b2⟩ := Bool.and_eq_true_iff.mp b1
    have b2 := Nat.le_of_ble_eq_true b2
    split at h
    · rename_i n dp d spp s0 st2
      obtain ⟨h0, h⟩ := bif_t (X := Nat) h
      simp only [Bool.and_eq_true] at h0
      obtain ⟨⟨⟨q1, q2⟩, q3⟩, q4⟩ := h0
      have q1 : s0 ≠ d := fun e => by subst e; simp at q1
      exact s_ac hF hd (am_in2_ok b1) q1 (Nat.eq_of_beq_eq_true q3) (Nat.eq_of_beq_eq_true q4) h.1 (by rw [am_cat_ok]; exact Nat.le_of_ble_eq_true q2) ⟨hrm.1, by omega⟩ (k _ _ _ h.2)
    · exact h.elim
  | false =>
    rw [b1] at h
    simp only [cond_false] at h
    cases b2 : am_in2 tMx own x with
    | true =>
      rw [b2] at h
      simp only [cond_true, am_1] at h
      obtain ⟨h0, h⟩ := bif_t (X := Nat) h
      obtain ⟨a, b, st2, rfl, h⟩ := bin_ok h
      exact s_max hF hd (am_in2_ok b2) (by rw [am_cat_ok]; have q := Nat.le_of_ble_eq_true h0; have q : 1 + (1 + am_cat st2) ≤ 10 := q; omega) hrm (k _ _ _ h)
    | false =>
      rw [b2] at h
      simp only [cond_false] at h
      cases b3 : am_in2 tMn own x with
      | true =>
        rw [b3] at h
        simp only [cond_true, am_1] at h
        obtain ⟨h0, h⟩ := bif_t (X := Nat) h
        obtain ⟨a, b, st2, rfl, h⟩ := bin_ok h
        exact s_min hF hd (am_in2_ok b3) (by rw [am_cat_ok]; have q := Nat.le_of_ble_eq_true h0; have q : 1 + (1 + am_cat st2) ≤ 10 := q; omega) hrm (k _ _ _ h)
      | false =>
        rw [b3] at h
        simp only [cond_false] at h
        cases b4 : am_in2 tMa own x with
        | true =>
          rw [b4] at h
          simp only [cond_true, am_1] at h
          split at h
          · rename_i a st2
            obtain ⟨h0, h⟩ := bif_t (X := Nat) h
            exact s_abs hF hd (am_in2_ok b4) (by rw [am_cat_ok]; exact Nat.le_of_ble_eq_true h0) hrm h.1 (k _ _ _ h.2)
          · exact h.elim
        | false => rw [b4] at h; exact (show False from h).elim
end S40
