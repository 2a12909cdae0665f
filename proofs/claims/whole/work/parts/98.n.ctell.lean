/-! read: the class reads all of a text -/
theorem tok_TOKP (h0 : aH) (L : Nat) : TOKP (KDT h0 L) (PLT h0 L) (VLT h0 L) := by
  have cs : ∀ j, (KDT h0 L j = 19 → 0 ≤ VLT h0 L j ∧ VLT h0 L j < 10000) ∧ (KDT h0 L j = 18 → 0 ≤ VLT h0 L j ∧ VLT h0 L j < 282429536481) := by
    intro j
    unfold KDT VLT
    obtain ⟨i, hi⟩ : ∃ i, i = tps (h0 11) L j := ⟨_, rfl⟩
    rw [← hi]
    rcases Nat.lt_or_ge i L with lt | ge
    · by_cases l : isLtr (h0 11 i)
      · obtain ⟨ek, ev, -⟩ := tk_L lt l
        have wl := (wixF_le (cde (h0 11) i (rnL (h0 11) (L - i) i)) 18 0 rfl).1
        rw [ek, ev]
        by_cases n8 : rnL (h0 11) (L - i) i ≤ 8
        · rw [if_pos n8, if_pos n8]
          exact ⟨fun z => by omega, fun _ => cde_hi (rnL_in (h0 11) (L - i) i)⟩
        · rw [if_neg n8]
          exact ⟨fun z => by omega, fun z => by omega⟩
      · by_cases g : isDgt (h0 11 i)
        · obtain ⟨ek, ev, -⟩ := tk_D lt g
          rw [ek, ev]
          refine ⟨fun _ => vle_hi (rnD_in (h0 11) (L - i) i), fun z => ?_⟩
          split at z <;> omega
        · obtain ⟨ek, -, -⟩ := tk_S lt l g
          have := sgK_rg (h0 11) L i
          rw [ek]
          exact ⟨fun z => by omega, fun z => by omega⟩
    · rw [(tk_E ge).1]
      exact ⟨fun z => by omega, fun z => by omega⟩
  exact ⟨fun j => tkd_rg _ _ _, fun j n => tps_lt n, fun j => (cs j).1, fun j => (cs j).2⟩
def s2o : (Nat × Nat) ⊕ (List Int × Nat) → Option (Nat × Nat)
  | .inl e => some e
  | .inr _ => none
/-- what one telling fails with -/
def TLF (K : Nat → Nat) (VL : Nat → Int) (g : aH) (t : Nat) : Option (Nat × Nat) :=
  if K t = 7 then FBD K (g 36 14).toNat t else if K t = 8 then FCK K (g 36 15).toNat t else if K t = 11 then FSL K (g 36 16).toNat t else if K t = 16 ∨ K t = 17 then s2o (FLW49 K VL t) else some (1, t)
/-- what one telling does -/
def OKT (K PL : Nat → Nat) (VL : Nat → Int) (t : Nat) (g g' : aH) : Prop :=
  (K t = 7 ∧ FBD K (g 36 14).toNat t = none ∧ BDS K PL VL t (g 36 14).toNat g g') ∨ (K t = 8 ∧ FCK K (g 36 15).toNat t = none ∧ CKS K PL VL t (g 36 15).toNat g g') ∨ (K t = 11 ∧ FSL K (g 36 16).toNat t = none ∧ SLPS K PL VL t (g 36 16).toNat g g') ∨
  (K t = 16 ∧ ∃ E' t', FLW49 K VL t = .inr (E', t') ∧ F5 [57, 49, 50] [7, 8, 9, 11, 12] g g' ∧ CSQ K PL VL t' g' ∧ g' 49 2 = (E'.length : Int) ∧ stE (g' 50) E') ∨
  (K t = 17 ∧ ∃ E' t', FLW49 K VL t = .inr (E', t') ∧ F5 [57, 52, 53] [7, 8, 9, 11, 12] g g' ∧ CSQ K PL VL t' g' ∧ g' 52 2 = (E'.length : Int) ∧ stE (g' 53) E')
/-- how the class stands between tellings -/
def CIV (K PL : Nat → Nat) (VL : Nat → Int) (t : Nat) (g : aH) : Prop := CSQ K PL VL t g ∧ NMC g ∧ ∃ nb nc ns m : Nat, (g 36 14 = (nb : Int) ∧ nb ≤ 12) ∧ (g 36 15 = (nc : Int) ∧ nc ≤ 9) ∧ (g 36 16 = (ns : Int) ∧ ns ≤ 12) ∧ (g 35 5 = (m : Int) ∧ m < 4096) ∧ g 35 4 ≤ (nb : Int) + nc + ns
theorem c_tell1 {N : Nat} {C : Int → aH → Prop} {K PL : Nat → Nat} {VL : Nat → Int} {t : Nat} {g : aH} (Q : TOKP K PL VL) (V : CIV K PL VL t g) (c1 : TLF K VL g t = none → ∀ g', OKT K PL VL t g g' → C 1 g') (c0 : ∀ n q, TLF K VL g t = some (n, q) → ∀ g', Fr RDL [] g g' → FLG PL n q g' → C 0 g') : WI N 44 0 [(0, .inr (.inr 35))] g C := by
  obtain ⟨S, M, nb, nc, ns, m, ⟨hb, b12⟩, ⟨hc, c9⟩, ⟨hs, s12⟩, ⟨hm, m4⟩, hn⟩ := V
  have bad : ¬ (K t = 7 ∨ K t = 8 ∨ K t = 11 ∨ K t = 16 ∨ K t = 17) → WI N 46 0 [(0, .inr (.inr 35)), (1, .inl 1)] g (fun r2 h2 => (am_tf r2 ∧ C r2 h2)) := by
    intro n
    refine c_fail (n := 1) S (fun g' f e => ck_t0 (c0 1 t ?_ g' (f.fr (by decide) (by decide)) e))
    unfold TLF
    rw [if_neg (by omega), if_neg (by omega), if_neg (by omega), if_neg (by omega)]
  have tf1 : ∀ {C : Int → aH → Prop} {g' : aH}, C 1 g' → am_tf (1 : Int) ∧ C 1 g' := fun h => ck_t1 h
  have tf0 : ∀ {C : Int → aH → Prop} {g' : aH}, C 0 g' → am_tf (0 : Int) ∧ C 0 g' := fun h => ck_t0 h
  have law : ∀ (r : Int) (g' : aH), (r = 0 ∨ r = 1) → C r g' → am_tf r ∧ C r g' := fun r g' o h => ⟨o, h⟩
  refine w_44_0 (c_kind S ⟨fun o => bad (by omega), fun no => ⟨fun e => ?_, fun n7 => ⟨fun e => ?_, fun n8 => ⟨fun e => bad (by omega), fun n9 => ⟨fun e => bad (by omega), fun n10 => ⟨fun e => ?_, fun n11 => ⟨fun e => bad (by omega), fun n12 => ⟨fun e => bad (by omega), fun n13 => ⟨fun e => bad (by omega), fun n14 => ⟨fun e => bad (by omega), fun n15 => ⟨fun e => ?_, fun n16 => ⟨fun e => ?_, fun n17 => absurd (by omega) n17⟩⟩⟩⟩⟩⟩⟩⟩⟩⟩⟩⟩)
  · have k : K t = 7 := by omega
    have eF : TLF K VL g t = FBD K nb t := by unfold TLF; rw [if_pos k, hb]; rfl
    refine c_tellBed Q S k M (fun z => by omega) hb (fun fn g' B => ck_t1 (c1 (by rw [eF]; exact fn) g' (Or.inl ⟨k, ?_, ?_⟩))) (fun n q fs g' f e => ck_t0 (c0 n q (by rw [eF]; exact fs) g' f e))
    · rw [hb]; exact fn
    · rw [hb]; exact B
  · have k : K t = 8 := by omega
    have eF : TLF K VL g t = FCK K nc t := by unfold TLF; rw [if_neg (by omega), if_pos k, hc]; rfl
    refine c_tellClock Q S k M (fun z => by omega) hc (fun fn g' B => ck_t1 (c1 (by rw [eF]; exact fn) g' (Or.inr (Or.inl ⟨k, ?_, ?_⟩)))) (fun n q fs g' f e => ck_t0 (c0 n q (by rw [eF]; exact fs) g' f e))
    · rw [hc]; exact fn
    · rw [hc]; exact B
  · have k : K t = 11 := by omega
    have eF : TLF K VL g t = FSL K ns t := by unfold TLF; rw [if_neg (by omega), if_neg (by omega), if_pos k, hs]; rfl
    refine c_tellSleeper Q S k M (fun z => by omega) hm m4 hs (fun fn g' B => ck_t1 (c1 (by rw [eF]; exact fn) g' (Or.inr (Or.inr (Or.inl ⟨k, ?_, ?_⟩))))) (fun n q fs g' f e => ck_t0 (c0 n q (by rw [eF]; exact fs) g' f e))
    · rw [hs]; exact fn
    · rw [hs]; exact B
  · have k : K t = 16 := by omega
    have eF : TLF K VL g t = s2o (FLW49 K VL t) := by unfold TLF; rw [if_neg (by omega), if_neg (by omega), if_neg (by omega), if_pos (Or.inl k)]
    refine c_tellLaw49 Q S (by omega) (fun r g' f L => ?_)
    cases hw : FLW49 K VL t with
    | inl e =>
      obtain ⟨n, q⟩ := e
      obtain ⟨r0, fl⟩ := L.1 n q hw
      subst r0
      exact ck_t0 (c0 n q (by rw [eF, hw]; rfl) g' (f.fr (by decide) (by decide)) fl)
    | inr e =>
      obtain ⟨E', t'⟩ := e
      obtain ⟨r1, s1, l1, l2⟩ := L.2 E' t' hw
      subst r1
      exact ck_t1 (c1 (by rw [eF, hw]; rfl) g' (Or.inr (Or.inr (Or.inr (Or.inl ⟨k, E', t', hw, f, s1, l1, l2⟩)))))
  · have k : K t = 17 := by omega
    have eF : TLF K VL g t = s2o (FLW49 K VL t) := by unfold TLF; rw [if_neg (by omega), if_neg (by omega), if_neg (by omega), if_pos (Or.inr k)]
    refine c_tellLaw52 Q S (by omega) (fun r g' f L => ?_)
    have e52 : FLW52 K VL t = FLW49 K VL t := rfl
    rw [e52] at L
    cases hw : FLW49 K VL t with
    | inl e =>
      obtain ⟨n, q⟩ := e
      obtain ⟨r0, fl⟩ := L.1 n q hw
      subst r0
      exact ck_t0 (c0 n q (by rw [eF, hw]; rfl) g' (f.fr (by decide) (by decide)) fl)
    | inr e =>
      obtain ⟨E', t'⟩ := e
      obtain ⟨r1, s1, l1, l2⟩ := L.2 E' t' hw
      subst r1
      exact ck_t1 (c1 (by rw [eF, hw]; rfl) g' (Or.inr (Or.inr (Or.inr (Or.inr ⟨k, E', t', hw, f, s1, l1, l2⟩)))))
theorem LR_inr {K : Nat → Nat} {VL : Nat → Int} : ∀ (m : Nat) (u : Bool) (t : Nat) (S : List Nat) (d : Nat) (E E' : List Int) (t' : Nat), LR K VL m u t S d E = .inr (E', t') → t < t' ∧ t' ≤ 400 ∧ S.length + E.length ≤ S.length + E.length
  | 0, u, t, S, d, E, E', t', h => by cases h
  | m + 1, u, t, S, d, E, E', t', h => by
    unfold LR at h
    split at h
    · cases h
    · split at h
      · cases h
      · split at h
        · injection h with h
          injection h with h1 h2
          omega
        · have := LR_inr m _ _ _ _ _ _ _ h
          omega
/-- from telling to telling -/
theorem CIV.next {K PL : Nat → Nat} {VL : Nat → Int} {t : Nat} {g g' : aH} (V : CIV K PL VL t g) (O : OKT K PL VL t g g') : Fr RDL [] g g' ∧ ∃ t', t < t' ∧ CIV K PL VL t' g' := by
  obtain ⟨S, M, nb, nc, ns, m, ⟨hb, b12⟩, ⟨hc, c9⟩, ⟨hs, s12⟩, ⟨hm, m4⟩, hn⟩ := V
  rcases O with ⟨k, fn, B⟩ | ⟨k, fn, B⟩ | ⟨k, fn, B⟩ | ⟨k, E', t', fw, f, s1, l1, l2⟩ | ⟨k, E', t', fw, f, s1, l1, l2⟩
  · rw [hb, Int.toNat_natCast] at fn B
    obtain ⟨f, s1, ⟨n1, n2⟩, -, nm, -⟩ := B
    have lt : nb < 12 := by
      rcases Nat.lt_or_ge nb 12 with y | y
      · exact y
      · unfold FBD at fn; rw [if_pos y] at fn; cases fn
    refine ⟨f.fr (by decide) (by decide), t + 5, by omega, s1, nm.1, nb + 1, nc, ns, m, ⟨by rw [n1]; omega, by omega⟩, ⟨by rw [n2 15 (by decide)]; exact hc, c9⟩, ⟨by rw [n2 16 (by decide)]; exact hs, s12⟩, ⟨by rw [f.2 5 (by decide)]; exact hm, m4⟩, ?_⟩
    have := nm.2.1
    omega
  · rw [hc, Int.toNat_natCast] at fn B
    obtain ⟨f, s1, ⟨n1, n2⟩, -, nm, -⟩ := B
    have lt : nc < 9 := by
      rcases Nat.lt_or_ge nc 9 with y | y
      · exact y
      · unfold FCK at fn; rw [if_pos y] at fn; cases fn
    have ln : 1 ≤ (LCK K t).length := by
      unfold LCK
      split <;> simp
    refine ⟨f.fr (by decide) (by decide), _, by omega, s1, nm.1, nb, nc + 1, ns, m, ⟨by rw [n2 14 (by decide)]; exact hb, b12⟩, ⟨by rw [n1]; omega, by omega⟩, ⟨by rw [n2 16 (by decide)]; exact hs, s12⟩, ⟨by rw [f.2 5 (by decide)]; exact hm, m4⟩, ?_⟩
    have := nm.2.1
    omega
  · rw [hs, Int.toNat_natCast] at fn B
    obtain ⟨f, s1, ⟨n1, n2⟩, -, gn, v, ma, mb, -, -, -, -, nm, ⟨q1, q2, q3⟩, -, -, -, -, ⟨-, hmb, mb4⟩, -⟩ := B
    have lt : ns < 12 := by
      rcases Nat.lt_or_ge ns 12 with y | y
      · exact y
      · unfold FSL at fn; rw [if_pos y] at fn; cases fn
    have ln : 1 ≤ (LSL K t).length := by unfold LSL; simp
    have M' : NMC g' := by
      have := nm.1
      unfold NMC at this ⊢
      rw [q1, q2, q3]; exact this
    refine ⟨f.fr (by decide) (by decide), _, by omega, s1, M', nb, nc, ns + 1, mb, ⟨by rw [n2 14 (by decide)]; exact hb, b12⟩, ⟨by rw [n2 15 (by decide)]; exact hc, c9⟩, ⟨by rw [n1]; omega, by omega⟩, ⟨hmb, mb4⟩, ?_⟩
    have := nm.2.1
    rw [q1]
    omega
  · have tt : t < t' := by
      unfold FLW49 at fw
      split at fw
      · cases fw
      · have := LR_inr _ _ _ _ _ _ _ _ fw; omega
    refine ⟨f.fr (by decide) (by decide), t', tt, s1, ?_, nb, nc, ns, m, ⟨by rw [f.at 36 (by decide) (by decide)]; exact hb, b12⟩, ⟨by rw [f.at 36 (by decide) (by decide)]; exact hc, c9⟩, ⟨by rw [f.at 36 (by decide) (by decide)]; exact hs, s12⟩, ⟨by rw [f.2 5 (by decide)]; exact hm, m4⟩, by rw [f.2 4 (by decide)]; exact hn⟩
    unfold NMC at M ⊢
    rw [f.2 4 (by decide), f.at 55 (by decide) (by decide), f.at 56 (by decide) (by decide)]; exact M
  · have tt : t < t' := by
      unfold FLW49 at fw
      split at fw
      · cases fw
      · have := LR_inr _ _ _ _ _ _ _ _ fw; omega
    refine ⟨f.fr (by decide) (by decide), t', tt, s1, ?_, nb, nc, ns, m, ⟨by rw [f.at 36 (by decide) (by decide)]; exact hb, b12⟩, ⟨by rw [f.at 36 (by decide) (by decide)]; exact hc, c9⟩, ⟨by rw [f.at 36 (by decide) (by decide)]; exact hs, s12⟩, ⟨by rw [f.2 5 (by decide)]; exact hm, m4⟩, by rw [f.2 4 (by decide)]; exact hn⟩
    unfold NMC at M ⊢
    rw [f.2 4 (by decide), f.at 55 (by decide) (by decide), f.at 56 (by decide) (by decide)]; exact M
/-- telling after telling, to a fault or the end -/
def PTR (K PL : Nat → Nat) (VL : Nat → Int) : Nat → Nat → aH → Option (Nat × Nat) → aH → Prop
  | 0, _, _, _, _ => False
  | m + 1, t, g, res, g' => (K t = 31 ∧ res = none ∧ g' = g) ∨ (K t ≠ 31 ∧ ∃ n q, TLF K VL g t = some (n, q) ∧ res = some (n, q)) ∨ (K t ≠ 31 ∧ TLF K VL g t = none ∧ ∃ g1 t1, OKT K PL VL t g g1 ∧ t < t1 ∧ CIV K PL VL t1 g1 ∧ PTR K PL VL m t1 g1 res g')
theorem c_rt32 {N : Nat} {C : Int → aH → Prop} {K PL : Nat → Nat} {VL : Nat → Int} {g0 : aH} (Q : TOKP K PL VL) : ∀ (m t : Nat) (g : aH) (i : Nat), 401 ≤ m + t → i ≤ t → CIV K PL VL t g → Fr RDL [] g0 g →
    (∀ res g1 v h', PTR K PL VL m t g res g1 → Fr (10 :: RDL) [] g0 h' → (∀ j, j ≠ 5 → h' 10 j = g0 10 j) → h' 10 5 = 0 → (∀ n q, res = some (n, q) → v = (n : Int) ∧ h' 35 12 = (PL q : Int)) → (res = none → (∀ r, r ≠ 10 → r ≠ 35 → h' r = g1 r) ∧ (g1 35 13 = 0 → v = 0 ∧ h' 35 12 = -1) ∧ (g1 35 13 ≠ 0 → v = g1 35 13 ∧ h' 35 12 = g1 35 14)) → C v h') →
    WI N 25 32 [(0, .inr (.inr 35)), (1, .inl 1), (2, .inl (i : Int))] g C
  | 0, t, g, i, hm, hi, V, f, hC => by have := V.1.2.2.1; omega
  | m + 1, t, g, i, hm, hi, V, f, hC => by
    have t4 := V.1.2.2.1
    have F10 : ∀ {h' : aH} (v : Int), Fr RDL [] g0 h' → Fr (10 :: RDL) [] g0 (am_up h' 10 5 v) := fun v f => Fr.up (f.mono (by decide) (by decide)) (by decide) (by decide)
    refine w_25_32 ⟨fun z => by omega, fun _ => ⟨fun z => absurd z (by decide), fun _ => c_kind V.1 ⟨fun e => ?_, fun ne => ?_⟩⟩⟩
    · have k : K t = 31 := by omega
      have p : PTR K PL VL (m + 1) t g none g := Or.inl ⟨k, rfl, rfl⟩
      obtain ⟨e1, e2⟩ := V.1.2.2.2.2
      refine ⟨fun z => absurd z (by decide), fun _ => ⟨fun s0 => ?_, fun s1 => ?_⟩⟩
      · rw [e1]
        refine hC none g 0 _ p (F10 0 f) (fun j hj => by rw [up_ne hj, f.at 10 (by decide) (by decide)]) (up_same _ _ _ _) (fun n q z => by cases z) (fun _ => ⟨fun r a b => by rw [up_row a], fun _ => ⟨rfl, by rw [up_row (by decide)]; exact e2⟩, fun z => absurd s0 z⟩)
      · have f2 : Fr RDL [] g0 (am_up (am_up g 35 11 (g 35 13)) 35 12 (g 35 14)) := (f.up (by decide) (by decide)).up (by decide) (by decide)
        refine hC none g (g 35 13) _ p (F10 0 f2) (fun j hj => by rw [up_ne hj, up_row (by decide), up_row (by decide), f.at 10 (by decide) (by decide)]) (up_same _ _ _ _) (fun n q z => by cases z) (fun _ => ⟨fun r a b => by rw [up_row a, up_row b, up_row b], fun z => absurd z s1, fun _ => ⟨rfl, by rw [up_row (by decide), up_same]⟩⟩)
    · have k : K t ≠ 31 := fun z => ne (by rw [z]; rfl)
      refine c_tell1 Q V (fun fn g' O => ck_rg (by omega) ?_) (fun n q fs g' f' e => ck_rg (by omega) ?_)
      · obtain ⟨f1, t1, tt, V1⟩ := V.next O
        have IH := c_rt32 (N := N) (C := C) (g0 := g0) Q m t1 g' (i + 1) (by omega) (by omega) V1 (f.trans f1) (fun res g1 v h' P => hC res g1 v h' (Or.inr (Or.inr ⟨k, fn, g', t1, O, tt, V1, P⟩)))
        exact IH
      · have F' := f.trans f'
        have p : PTR K PL VL (m + 1) t g (some (n, q)) g' := Or.inr (Or.inl ⟨k, n, q, fs, rfl⟩)
        have go : C (g' 35 11) (am_up g' 10 5 0) := by
          rw [e.1]
          refine hC (some (n, q)) g' n _ p (F10 0 F') (fun j hj => by rw [up_ne hj, F'.at 10 (by decide) (by decide)]) (up_same _ _ _ _) (fun n' q' z => ?_) (fun z => by cases z)
          injection z with z
          injection z with z1 z2
          subst z1 z2
          exact ⟨rfl, by rw [up_row (by decide)]; exact e.2⟩
        exact w_25_32 ⟨fun _ => ⟨fun _ => go, fun z => absurd rfl z⟩, fun _ => ⟨fun _ => ⟨fun _ => go, fun z => absurd rfl z⟩, fun z => absurd rfl z⟩⟩
