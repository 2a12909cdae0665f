/-! read: fixed rows of TOKENS; the class's small steps -/
/-- the TOKENS are as rows of kinds; the first that does not fit: (1: another one, 2: one too many), its number -/
def FS (K : Nat → Nat) : List Nat → Nat → Option (Nat × Nat)
  | [], _ => none
  | k :: E, t => if K t ≠ k then some (1, t) else if 400 ≤ t then some (2, t) else FS K E (t + 1)
theorem FS_1 {K : Nat → Nat} {k t : Nat} {E : List Nat} (h : K t ≠ k) : FS K (k :: E) t = some (1, t) := if_pos h
theorem FS_2 {K : Nat → Nat} {k t : Nat} {E : List Nat} (h : K t = k) (l : 400 ≤ t) : FS K (k :: E) t = some (2, t) := (if_neg (fun z => z h)).trans (if_pos l)
theorem FS_3 {K : Nat → Nat} {k t : Nat} {E : List Nat} (h : K t = k) (l : t < 400) : FS K (k :: E) t = FS K E (t + 1) := (if_neg (fun z => z h)).trans (if_neg (Nat.not_le.mpr l))
theorem FS_app {K : Nat → Nat} : ∀ {E F : List Nat} {t : Nat}, (FS K E t = none → FS K (E ++ F) t = FS K F (t + E.length)) ∧ ∀ e, FS K E t = some e → FS K (E ++ F) t = some e
  | [], F, t => ⟨fun _ => rfl, fun e h => by cases h⟩
  | k :: E, F, t => by
    have ih := FS_app (K := K) (E := E) (F := F) (t := t + 1)
    show (FS K (k :: E) t = none → FS K (k :: (E ++ F)) t = _) ∧ ∀ e, FS K (k :: E) t = some e → FS K (k :: (E ++ F)) t = some e
    by_cases h : K t = k
    · by_cases l : 400 ≤ t
      · rw [FS_2 h l, FS_2 h l]
        exact ⟨fun z => (nomatch z), fun e z => z⟩
      · rw [FS_3 h (by omega), FS_3 h (by omega)]
        refine ⟨fun z => ?_, ih.2⟩
        rw [ih.1 z, List.length_cons]
        congr 1
        omega
    · rw [FS_1 h, FS_1 h]
      exact ⟨fun z => (nomatch z), fun e z => z⟩
/-- all fit: each of them, and how far -/
theorem FS_none {K : Nat → Nat} : ∀ {E : List Nat} {t : Nat}, FS K E t = none → (∀ j, j < E.length → K (t + j) = E.getD j 0) ∧ (t ≤ 400 → t + E.length ≤ 400)
  | [], t, _ => ⟨fun j hj => absurd hj (Nat.not_lt_zero j), fun h => h⟩
  | k :: E, t, h => by
    by_cases e : K t = k
    · by_cases l : 400 ≤ t
      · rw [FS_2 e l] at h; cases h
      · rw [FS_3 e (by omega)] at h
        obtain ⟨a, b⟩ := FS_none h
        refine ⟨fun j hj => ?_, fun _ => by have := b (by omega); rw [List.length_cons]; omega⟩
        cases j with
        | zero => exact e
        | succ j =>
          have := a j (by rw [List.length_cons] at hj; omega)
          rw [show t + (j + 1) = t + 1 + j by omega]
          exact this
    · rw [FS_1 e] at h; cases h
/-- rows that reading may change -/
def RDL : List Nat := [35, 36, 37, 38, 39, 40, 41, 42, 43, 44, 45, 49, 50, 52, 53, 55, 56, 57]
/-- of the reader's own cell all but these -/
def F5 (R D : List Nat) (g g' : aH) : Prop := (∀ r, r ≠ 35 → r ∉ R → g' r = g r) ∧ ∀ j, j ∉ D → g' 35 j = g 35 j
theorem F5.rfl {R D : List Nat} {g : aH} : F5 R D g g := ⟨fun _ _ _ => Eq.refl _, fun _ _ => Eq.refl _⟩
theorem F5.trans {R D : List Nat} {a b c : aH} (x : F5 R D a b) (y : F5 R D b c) : F5 R D a c := ⟨fun r hr hc => (y.1 r hr hc).trans (x.1 r hr hc), fun j hj => (y.2 j hj).trans (x.2 j hj)⟩
theorem F5.mono {R D R' D' : List Nat} {g g' : aH} (a : F5 R D g g') (hR : ∀ r ∈ R, r ∈ R') (hD : ∀ r ∈ D, r ∈ D') : F5 R' D' g g' := ⟨fun r hr hc => a.1 r hr (fun z => hc (hR r z)), fun j hj => a.2 j (fun z => hj (hD j z))⟩
theorem F5.up {R D : List Nat} {g g' : aH} (a : F5 R D g g') {r k : Nat} {v : Int} (hr : r ∈ R) (h0 : r ≠ 35) : F5 R D g (am_up g' r k v) :=
  ⟨fun q hq hc => by rw [up_row (show q ≠ r from fun e => hc (by rw [e]; exact hr))]; exact a.1 q hq hc, fun j hj => by rw [up_row (fun e => h0 e.symm)]; exact a.2 j hj⟩
theorem F5.upM {R D : List Nat} {g g' : aH} (a : F5 R D g g') {k : Nat} {v : Int} (hk : k ∈ D) : F5 R D g (am_up g' 35 k v) :=
  ⟨fun q hq hc => by rw [up_row hq]; exact a.1 q hq hc, fun j hj => by rw [up_ne (show j ≠ k from fun e => hj (by rw [e]; exact hk))]; exact a.2 j hj⟩
theorem F5.at {R D : List Nat} {g g' : aH} (a : F5 R D g g') (r : Nat) (hr : r ∉ R) (h0 : r ≠ 35) : g' r = g r := a.1 r h0 hr
theorem F5.fr {R D : List Nat} {g g' : aH} (a : F5 R D g g') (hR : ∀ r ∈ R, r ∈ RDL) (h130 : 130 ∉ R) : Fr RDL [] g g' :=
  ⟨fun r _ hc => a.1 r (fun e => hc (by rw [e]; decide)) (fun z => hc (hR r z)), fun j _ => by rw [a.1 130 (by decide) h130]⟩
/-- the class's TOKENS, where it stands -/
def TOKC (K PL : Nat → Nat) (VL : Nat → Int) (g : aH) : Prop := ∀ j, j ≤ 400 → (∀ i, i < j → K i < 31) → g 13 j = (K j : Int) ∧ g 14 j = (PL j : Int) ∧ g 15 j = VL j
def TOKP (K PL : Nat → Nat) (VL : Nat → Int) : Prop := (∀ j, K j ≤ 32) ∧ (∀ j, K j ≠ 31 → PL j < PL (j + 1)) ∧ (∀ j, K j = 19 → 0 ≤ VL j ∧ VL j < 10000) ∧ ∀ j, K j = 18 → 0 ≤ VL j ∧ VL j < 282429536481
def CSQ (K PL : Nat → Nat) (VL : Nat → Int) (t : Nat) (g : aH) : Prop := TOKC K PL VL g ∧ g 35 9 = (t : Int) ∧ t ≤ 400 ∧ (∀ i, i < t → K i < 31) ∧ g 35 11 = 0 ∧ g 35 12 = -1
theorem TOKC.mv {K PL : Nat → Nat} {VL : Nat → Int} {R D : List Nat} {g g' : aH} (T : TOKC K PL VL g) (f : F5 R D g g') (h : [13, 14, 15].all (fun r => !(R.contains r)) = true) : TOKC K PL VL g' := by
  have k : ∀ r, r ∈ [13, 14, 15] → g' r = g r := by
    intro r hr
    have h1 := List.all_eq_true.mp h r hr
    refine f.1 r ?_ ?_
    · intro e; subst e; revert hr; decide
    · intro hc
      rw [Bool.not_eq_true', List.contains_eq_mem, decide_eq_false_iff_not] at h1
      exact h1 hc
  unfold TOKC at T ⊢
  rw [k 13 (by decide), k 14 (by decide), k 15 (by decide)]
  exact T
theorem CSQ.mv {K PL : Nat → Nat} {VL : Nat → Int} {t : Nat} {R D : List Nat} {g g' : aH} (S : CSQ K PL VL t g) (f : F5 R D g g') (h : [13, 14, 15].all (fun r => !(R.contains r)) = true) (hD : [9, 11, 12].all (fun d => !(D.contains d)) = true) : CSQ K PL VL t g' := by
  have k : ∀ j, j ∈ [9, 11, 12] → g' 35 j = g 35 j := by
    intro j hj
    have h1 := List.all_eq_true.mp hD j hj
    refine f.2 j (fun hc => ?_)
    rw [Bool.not_eq_true', List.contains_eq_mem, decide_eq_false_iff_not] at h1
    exact h1 hc
  exact ⟨S.1.mv f h, by rw [k 9 (by decide)]; exact S.2.1, S.2.2.1, S.2.2.2.1, by rw [k 11 (by decide)]; exact S.2.2.2.2.1, by rw [k 12 (by decide)]; exact S.2.2.2.2.2⟩
theorem c_kind {N : Nat} {C : Int → aH → Prop} {K PL : Nat → Nat} {VL : Nat → Int} {t : Nat} {g : aH} (S : CSQ K PL VL t g) (hC : C (K t : Int) g) : WI N 43 0 [(0, .inr (.inr 35))] g C := by
  obtain ⟨a, b, c, d, e0⟩ := S
  refine w_43_0 ?_
  rw [b, Int.toNat_natCast, (a t c d).1]
  exact ck_ix (by omega) hC
/-- it failed: number n at the q-th TOKEN -/
def FLG (PL : Nat → Nat) (n q : Nat) (g : aH) : Prop := g 35 11 = (n : Int) ∧ g 35 12 = (PL q : Int)
theorem c_fail {N : Nat} {C : Int → aH → Prop} {K PL : Nat → Nat} {VL : Nat → Int} {t n : Nat} {g : aH} (S : CSQ K PL VL t g) (hC : ∀ g', F5 [] [11, 12] g g' → FLG PL n t g' → C 0 g') : WI N 46 0 [(0, .inr (.inr 35)), (1, .inl (n : Int))] g C := by
  obtain ⟨a, b, c, d, e0⟩ := S
  refine w_46_0 ?_
  rw [b, Int.toNat_natCast, (a t c d).2.1]
  refine ck_ix (by omega) (ck_t0 (hC _ ((F5.rfl.upM (by decide)).upM (by decide)) ⟨?_, up_same _ _ _ _⟩))
  rw [up_ne (by decide), up_same]
theorem c_goOn {N : Nat} {C : Int → aH → Prop} {K PL : Nat → Nat} {VL : Nat → Int} {t : Nat} {g : aH} (S : CSQ K PL VL t g) (k31 : K t < 31) (c1 : t < 400 → ∀ g', F5 [] [9] g g' → CSQ K PL VL (t + 1) g' → C 1 g') (c0 : 400 ≤ t → ∀ g', F5 [] [11, 12] g g' → FLG PL 2 t g' → C 0 g') : WI N 47 0 [(0, .inr (.inr 35))] g C := by
  obtain ⟨a, b, c, d, e0⟩ := S
  refine w_47_0 ?_
  rw [b]
  refine ⟨fun lt => ck_rg (by omega) (ck_t1 (c1 (by omega) _ (F5.rfl.upM (by decide)) ⟨?_, ?_, by omega, fun i hi => ?_, by rw [up_ne (by decide)]; exact e0.1, by rw [up_ne (by decide)]; exact e0.2⟩)), fun ge => c_fail (n := 2) ⟨a, b, c, d, e0⟩ (fun g' f e => ck_t0 (c0 (by omega) g' f e))⟩
  · exact a.mv (F5.rfl.upM (D := [9]) (by decide)) (R := []) (by decide)
  · rw [up_same]; omega
  · by_cases e : i = t
    · rw [e]; exact k31
    · exact d i (by omega)
theorem c_take {N : Nat} {C : Int → aH → Prop} {K PL : Nat → Nat} {VL : Nat → Int} {t k : Nat} {g : aH} (S : CSQ K PL VL t g) (k31 : k < 31) (c1 : K t = k → t < 400 → ∀ g', F5 [] [9] g g' → CSQ K PL VL (t + 1) g' → C 1 g') (c0 : ∀ n q, FS K [k] t = some (n, q) → ∀ g', F5 [] [11, 12] g g' → FLG PL n q g' → C 0 g') : WI N 52 0 [(0, .inr (.inr 35)), (1, .inl (k : Int))] g C := by
  refine w_52_0 (c_kind S ⟨fun ne => c_fail (n := 1) S (fun g' f e => ck_t0 (c0 1 t (FS_1 (fun z => ne (by rw [z]))) g' f e)), fun eq => ?_⟩)
  have e : K t = k := by have := Classical.byContradiction eq; omega
  exact c_goOn S (by omega) (fun lt g' f s => ck_t1 (c1 e lt g' f s)) (fun ge g' f q => ck_t0 (c0 2 t (FS_2 e ge) g' f q))
/-- a fault of sense: the first stays -/
def EVT (bad : Prop) (n p : Int) (s s' : Int × Int) : Prop := (s.1 = 0 ∧ bad → s' = (n, p)) ∧ (¬ (s.1 = 0 ∧ bad) → s' = s)
def SNK (g : aH) : Int × Int := (g 35 13, g 35 14)
theorem SNK_F5 {R D : List Nat} {g g' : aH} (f : F5 R D g g') (h13 : 13 ∉ D) (h14 : 14 ∉ D) : SNK g' = SNK g := by
  unfold SNK
  rw [f.2 13 h13, f.2 14 h14]
theorem c_doubt {N : Nat} {C : aH → Prop} {K PL : Nat → Nat} {VL : Nat → Int} {t : Nat} {n : Int} {g : aH} (S : CSQ K PL VL t g) (hC : ∀ g', F5 [] [13, 14] g g' → EVT True n (PL t : Int) (SNK g) (SNK g') → C g') : WV N 50 0 [(0, .inr (.inr 35)), (1, .inl n)] g C := by
  obtain ⟨a, b, c, d, e0⟩ := S
  refine w_50_0 ⟨fun ne => hC g F5.rfl ⟨fun z => absurd z.1 ne, fun _ => rfl⟩, fun eq => ?_⟩
  rw [b, Int.toNat_natCast, (a t c d).2.1]
  refine ck_ix (by omega) (hC _ ((F5.rfl.upM (by decide)).upM (by decide)) ⟨fun _ => ?_, fun z => absurd ⟨Classical.byContradiction eq, trivial⟩ z⟩)
  unfold SNK
  rw [up_ne (by decide), up_same, up_same]
theorem EVT.no {bad : Prop} {n p : Int} {s : Int × Int} (h : ¬ bad) : EVT bad n p s s := ⟨fun z => absurd z.2 h, fun _ => rfl⟩
theorem EVT.yes {bad : Prop} {n p : Int} {s s' : Int × Int} (h : bad) (e : EVT True n p s s') : EVT bad n p s s' := ⟨fun z => e.1 ⟨z.1, trivial⟩, fun z => e.2 (fun y => z ⟨y.1, h⟩)⟩
/-- an INT is taken -/
def INS (K PL : Nat → Nat) (VL : Nat → Int) (t : Nat) (lo hi : Int) (g g' : aH) : Prop := F5 [] [9, 10, 13, 14] g g' ∧ CSQ K PL VL (t + 1) g' ∧ g' 35 10 = VL t ∧ EVT (¬ (lo ≤ VL t ∧ VL t ≤ hi)) 5 (PL t : Int) (SNK g) (SNK g')
theorem c_takeInt {N : Nat} {C : Int → aH → Prop} {K PL : Nat → Nat} {VL : Nat → Int} {t : Nat} {lo hi : Int} {g : aH} (Q : TOKP K PL VL) (S : CSQ K PL VL t g) (c1 : K t = 19 → t < 400 → ∀ g', INS K PL VL t lo hi g g' → C 1 g') (c0 : ∀ n q, FS K [19] t = some (n, q) → ∀ g', F5 [] [10, 11, 12, 13, 14] g g' → FLG PL n q g' → C 0 g') : WI N 51 0 [(0, .inr (.inr 35)), (1, .inl lo), (2, .inl hi)] g C := by
  refine w_51_0 (c_kind S ⟨fun eq => ?_, fun ne => c_fail (n := 1) S (fun g' f e => ck_t0 (c0 1 t (FS_1 (fun z => ne (by rw [z]; rfl))) g' (f.mono (by decide) (by decide)) e))⟩)
  have e : K t = 19 := by omega
  have vr := Q.2.2.1 t e
  have t4 := S.2.2.1
  have w : w32 (VL t) = VL t := by unfold w32; omega
  have ts := (S.1 t S.2.2.1 S.2.2.2.1).2.2
  rw [S.2.1, Int.toNat_natCast, ts, w]
  have f1 : F5 [] [10] g (am_up g 35 10 (VL t)) := F5.rfl.upM (by decide)
  have S1 : CSQ K PL VL t (am_up g 35 10 (VL t)) := S.mv f1 (by decide) (by decide)
  have sn1 : SNK (am_up g 35 10 (VL t)) = SNK g := SNK_F5 f1 (by decide) (by decide)
  have bad : ¬ (lo ≤ VL t ∧ VL t ≤ hi) → WV N 50 0 [(0, .inr (.inr 35)), (1, .inl 5)] (am_up g 35 10 (VL t)) (fun h2 => WI N 47 0 [(0, .inr (.inr 35))] h2 (fun r3 h3 => (am_tf r3 ∧ C r3 h3))) := by
    intro b
    refine c_doubt S1 (fun g2 f2 ev => c_goOn (S1.mv f2 (by decide) (by decide)) (by omega) (fun lt g3 f3 s3 => ck_t1 (c1 e lt g3 ⟨?_, s3, ?_, ?_⟩)) (fun ge g3 f3 e3 => ck_t0 (c0 2 t (FS_2 e ge) g3 ?_ e3)))
    · exact (f1.mono (by decide) (by decide)).trans ((f2.mono (by decide) (by decide)).trans (f3.mono (by decide) (by decide)))
    · rw [f3.2 10 (by decide), f2.2 10 (by decide), up_same]
    · rw [SNK_F5 f3 (by decide) (by decide)]
      rw [sn1] at ev
      exact EVT.yes b ev
    · exact (f1.mono (by decide) (by decide)).trans ((f2.mono (by decide) (by decide)).trans (f3.mono (by decide) (by decide)))
  refine ck_ix (by omega) ⟨fun lt => bad (fun z => by omega), fun ge => ⟨fun le => ?_, fun gt => bad (fun z => by omega)⟩⟩
  refine c_goOn S1 (by omega) (fun lt g3 f3 s3 => ck_t1 (c1 e lt g3 ⟨?_, s3, ?_, ?_⟩)) (fun ge g3 f3 e3 => ck_t0 (c0 2 t (FS_2 e ge) g3 ?_ e3))
  · exact (f1.mono (by decide) (by decide)).trans (f3.mono (by decide) (by decide))
  · rw [f3.2 10 (by decide), up_same]
  · rw [SNK_F5 f3 (by decide) (by decide), sn1]
    exact EVT.no (fun z => z ⟨by omega, by omega⟩)
  · exact (f1.mono (by decide) (by decide)).trans (f3.mono (by decide) (by decide))
/-- the class's names -/
def NMC (g : aH) : Prop := 0 ≤ g 35 4 ∧ g 35 4 ≤ 33 ∧ ∀ i : Nat, (i : Int) < g 35 4 → 0 ≤ g 55 i ∧ g 55 i < 282429536481 ∧ -1 ≤ g 56 i ∧ g 56 i < 12
def KNW (g : aH) (v : Int) : Prop := ∃ i : Nat, (i : Int) < g 35 4 ∧ g 55 i = v
theorem c_numberOf {N : Nat} {C : Int → aH → Prop} {g : aH} {v : Int} (M : NMC g) (hv : 0 ≤ v ∧ v < 282429536481) (c0 : ¬ KNW g v → C (-1) g) (c1 : ∀ i : Nat, (i : Int) < g 35 4 → g 55 i = v → (∀ j, j < i → g 55 j ≠ v) → C (i : Int) g) : WI N 49 0 [(0, .inr (.inr 35)), (1, .inr (.inl v))] g C := by
  obtain ⟨m0, m1, m2⟩ := M
  have key : ∀ (d i : Nat), d = (g 35 4).toNat - i → i ≤ (g 35 4).toNat → (∀ j, j < i → g 55 j ≠ v) → WI N 49 3 [(0, .inr (.inr 35)), (1, .inr (.inl v)), (3, .inl (i : Int))] g C := by
    intro d
    induction d with
    | zero =>
      intro i hd hi e
      exact w_49_3 ⟨fun _ => c0 (fun ⟨j, j1, j2⟩ => e j (by omega) j2), fun z => by omega⟩
    | succ d ih =>
      intro i hd hi e
      have := m2 i (by omega)
      refine w_49_3 ⟨fun z => by omega, fun _ => ck_ix (by omega) ?_⟩
      rw [Int.toNat_natCast]
      refine ⟨fun ne => ck_rg (by omega) (ih (i + 1) (by omega) (by omega) (fun j hj => ?_)), fun eq => c1 i (by omega) ?_ e⟩
      · by_cases z : j = i
        · rw [z]; exact fun q => ne (sgn_eq.mpr (by omega))
        · exact e j (by omega)
      · have := sgn_eq.mp (Classical.byContradiction eq)
        omega
  exact w_49_0 (key _ 0 rfl (Nat.zero_le _) (fun j hj => absurd hj (Nat.not_lt_zero j)))
