/-! read: an expression, the reference -/
/-- where an expression ends -/
def LEND (K PL : Nat → Nat) (VL : Nat → Int) (sd c0 : Nat) (res : (Nat × Nat) ⊕ (List Int × Nat)) (h' : aH) : Prop := (∃ n q, res = .inl (n, q) ∧ RFL PL n q h') ∨ ∃ t' E', LRS K PL VL sd c0 t' t' [] 0 E' h' ∧ (K t' = 20 → res = if 400 ≤ t' then .inl (2, t') else .inr (E', t' + 1)) ∧ (K t' ≠ 20 → res = .inl (1, t'))
theorem LR_e {K : Nat → Nat} {VL : Nat → Int} {m t d : Nat} {u : Bool} {S : List Nat} {E : List Int} {R : Nat × Bool × List Nat × Nat × List Int} (h : LTK u (K t) (VL t) S d E = R) : LR K VL (m + 1) u t S d E = (if R.1 = 1 ∨ R.1 = 2 then .inl (R.1, t) else if 400 ≤ t then .inl (2, t) else if R.1 = 3 then .inr (R.2.2.2.2, t + 1) else LR K VL m R.2.1 (t + 1) R.2.2.1 R.2.2.2.1 R.2.2.2.2) := by rw [← h]; rfl
theorem LR_f {K : Nat → Nat} {VL : Nat → Int} {m t d n : Nat} {u : Bool} {S : List Nat} {E : List Int} {R : Bool × List Nat × Nat × List Int} (h : LTK u (K t) (VL t) S d E = (n, R)) (h1 : n = 1 ∨ n = 2) : LR K VL (m + 1) u t S d E = .inl (n, t) := by rw [LR_e h, if_pos h1]
theorem LR_400 {K : Nat → Nat} {VL : Nat → Int} {m t d : Nat} {u u2 : Bool} {S S2 : List Nat} {d2 : Nat} {E E2 : List Int} (h : LTK u (K t) (VL t) S d E = (0, u2, S2, d2, E2)) (g : 400 ≤ t) : LR K VL (m + 1) u t S d E = .inl (2, t) := by rw [LR_e h, if_neg (by simp), if_pos g]
theorem LR_s {K : Nat → Nat} {VL : Nat → Int} {m t d : Nat} {u u2 : Bool} {S S2 : List Nat} {d2 : Nat} {E E2 : List Int} (h : LTK u (K t) (VL t) S d E = (0, u2, S2, d2, E2)) (g : t < 400) : LR K VL (m + 1) u t S d E = LR K VL m u2 (t + 1) S2 d2 E2 := by rw [LR_e h, if_neg (by simp), if_neg (by omega), if_neg (by simp)]
theorem LRS.b {K PL : Nat → Nat} {VL : Nat → Int} {sd c0 t d b : Nat} {W : List Int} {E : List Int} {h : aH} (X : LRS K PL VL sd c0 t b W d E h) : LRS K PL VL sd c0 t (b + 1) W d E h := by
  obtain ⟨y1, y2, y3, y4, y5, y6, y7, y8, y9⟩ := X
  exact ⟨y1, y2, y3, y4, y5, y6, y7, by omega, y9⟩
theorem brk_popS {lo : Nat} {S : List Nat} (h : 21 ≤ lo) : brk (popW lo S).1 = brk S := brk_popW h S
theorem m_exgo {N : Nat} {C : aH → Prop} {K PL : Nat → Nat} {VL : Nat → Int} {sd c0 : Nat} {h0 : aH} (Q : TOKP K PL VL) : ∀ m,
    (∀ (t : Nat) (S : List Nat) (E : List Int) (h : aH), LRS K PL VL sd c0 t t (xW S) (brk S) E h → (∀ s ∈ S, s ≤ 30) → brk S ≤ 6 → 401 ≤ m + t → FrA (ALC sd c0) h0 h → (∀ h', FrA (ALC sd c0) h0 h' → LEND K PL VL sd c0 (LR K VL m true t S (brk S) E) h' → C h') → WV N 238 11 [(0, .inr (.inr 130)), (1, .inl 1)] h C) ∧
    (∀ (t : Nat) (S : List Nat) (E : List Int) (h : aH), LRS K PL VL sd c0 t t (xW S) (brk S) E h → (∀ s ∈ S, s ≤ 30) → brk S ≤ 6 → 401 ≤ m + t → FrA (ALC sd c0) h0 h → (∀ h', FrA (ALC sd c0) h0 h' → LEND K PL VL sd c0 (LR K VL m false t S (brk S) E) h' → C h') → WI N 242 1 [(0, .inr (.inr 130))] h (fun r4 h4 => (r4 = 0 → WV N 238 62 [(0, .inr (.inr 130))] h4 C) ∧ (¬ (r4 = 0) → WV N 238 11 [(0, .inr (.inr 130)), (1, .inl 1)] h4 C))) := by
  -- at a fault all ends
  have end1 : ∀ (x1 : Int) (h : aH), 1 ≤ h 130 13 → C h → WV N 238 11 [(0, .inr (.inr 130)), (1, .inl x1)] h C := fun x1 h f c => w_238_11 ⟨fun _ => c, fun _ => ⟨fun _ => c, fun z => absurd (Classical.byContradiction z) (by omega)⟩⟩
  have end62 : ∀ (h : aH), C h → WV N 238 62 [(0, .inr (.inr 130))] h C := fun h c => w_238_62 (w_238_11 ⟨fun _ => c, fun z => absurd rfl z⟩)
  intro m
  induction m with
  | zero =>
    refine ⟨fun t S E h X _ _ hm => ?_, fun t S E h X _ _ hm => ?_⟩
    · have := X.1.kd.2.2.1; omega
    · have := X.1.kd.2.2.1; omega
  | succ m ih =>
    obtain ⟨ihA, ihB⟩ := ih
    refine ⟨fun t S E h X hS b6 hm F hC => ?_, fun t S E h X hS b6 hm F hC => ?_⟩
    · obtain ⟨f0, ht, t4, tk, tv⟩ := X.1.kd
      -- a bracket
      have open1 : (K t = 26 ∨ K t = 28) → WV N 238 25 [(0, .inr (.inr 130)), (1, .inl 1)] h C := by
        intro o
        have p33 : brk S < 6 → WV N 238 33 [(0, .inr (.inr 130)), (1, .inl 1)] h C := by
          intro b5
          have eL : LTK true (K t) (VL t) S (brk S) E = (0, true, K t :: S, brk S + 1, E) := by
            unfold LTK
            rw [if_pos rfl, if_pos o, if_neg (by omega)]
          have ho := X.2.2.2.1
          refine w_238_33 ?_
          rw [f0, ho, ht, Int.toNat_natCast, tk]
          have f1 : Fr [] [12] h (am_up h 130 12 ((brk S : Int) + 1)) := Fr.rfl.upM (by decide)
          have X1 : LRS K PL VL sd c0 t t (xW S) (brk S + 1) E (am_up h 130 12 ((brk S : Int) + 1)) := by
            obtain ⟨R, hw, hs, ho, hc, hE, c4, lb, sd2⟩ := X
            refine ⟨R.mv f1 (by decide) (by decide), ?_, hs, ?_, ?_, hE, c4, lb, sd2⟩
            · rw [f1.2 43 (by decide)]; exact hw
            · rw [up_same]; omega
            · rw [f1.2 39 (by decide)]; exact hc
          refine ⟨fun _ => ck_rg (by omega) (ck_ix (by omega) (m_waitForR Q X1 (by omega) (by omega) (fun h2 f2 l g => ?_))), fun z => absurd (Int.le_refl _) z⟩
          have F2 : FrA (ALC sd c0) h0 h2 := F.trans ((FrA.frc f1 (by decide) (by decide)).trans f2)
          rcases Nat.lt_or_ge t 400 with lt | ge
          · have X2 := l lt
            have eb : brk (K t :: S) = brk S + 1 := brk_n (by omega)
            have ew : xW (K t :: S) = KMP (K t) :: xW S := xW_n (by omega)
            rw [← ew, ← eb] at X2
            refine ihA (t + 1) (K t :: S) E h2 X2 (fun s hs => ?_) (by omega) (by omega) F2 (fun h' F' L => hC h' F' ?_)
            · rcases List.mem_cons.mp hs with e | e
              · omega
              · exact hS s e
            · rw [LR_s eL lt]; rw [eb] at L; exact L
          · have G := g ge
            exact end1 1 h2 (by have := G.1; have := G.2.1; omega) (hC h2 F2 (Or.inl ⟨2, t, LR_400 eL ge, G⟩))
        refine w_238_25 ?_
        rw [X.2.2.2.1]
        refine ⟨fun ne => p33 (by omega), fun eq => ?_⟩
        have b6' : brk S = 6 := by have := Classical.byContradiction eq; omega
        have eL : LTK true (K t) (VL t) S (brk S) E = (2, true, S, brk S, E) := by
          unfold LTK
          rw [if_pos rfl, if_pos o, if_pos (by omega)]
        refine m_failL (n := 2) X.1 (by decide) (fun h1 f1 G => w_238_33 ⟨fun z => ?_, fun _ => hC h1 (F.trans (FrA.frc f1 (by decide) (by decide))) (Or.inl ⟨2, t, LR_f eL (Or.inr rfl), G⟩)⟩)
        have := G.1
        omega
      refine w_238_11 ⟨fun z => absurd z (by decide), fun _ => ⟨fun z => absurd f0 z, fun _ => m_isR Q X.1 (by simp) (k := 26) ⟨rfl, by decide⟩ (fun _ k26 => ⟨fun _ => open1 (Or.inl k26), fun z => absurd (by decide) z⟩) (fun n26 => ⟨fun z => absurd rfl z, fun _ => m_isR Q X.1 (by simp) (k := 28) ⟨rfl, by decide⟩ (fun _ k28 => ⟨fun z => absurd z (by decide), fun _ => open1 (Or.inr k28)⟩) (fun n28 => ⟨fun _ => ?_, fun z => absurd rfl z⟩)⟩)⟩⟩
      have no : ¬ (K t = 26 ∨ K t = 28) := fun z => by
        rcases z with z | z
        · exact n26 ⟨rfl, z⟩
        · exact n28 ⟨rfl, z⟩
      refine m_unitR Q X no (fun z hz h1 f1 l g => ?_) (fun n19 n6 h1 f1 G => ⟨fun _ => end62 h1 (hC h1 (F.trans f1) (Or.inl ⟨1, t, ?_, G⟩)), fun y => ?_⟩)
      · have eL : LTK true (K t) (VL t) S (brk S) E = (0, false, S, brk S, E ++ [z]) := by
          unfold LTK
          rw [if_pos rfl, if_neg no]
          rcases hz with ⟨k, e⟩ | ⟨k, e⟩
          · rw [if_pos k, e]
          · rw [if_neg (by omega), if_pos k, e]
        rcases Nat.lt_or_ge t 400 with lt | ge
        · have X1 := l lt
          refine ⟨fun y => absurd X1.1.kd.1 y, fun _ => w_242_0 (ihB (t + 1) S (E ++ [z]) h1 X1 hS b6 (by omega) (F.trans f1) (fun h' F' L => hC h' F' ?_))⟩
          rw [LR_s eL lt]; exact L
        · have G := g ge
          refine ⟨fun _ => end62 h1 (hC h1 (F.trans f1) (Or.inl ⟨2, t, LR_400 eL ge, G⟩)), fun y => ?_⟩
          have := G.1
          have := Classical.byContradiction y
          omega
      · refine LR_f (R := (true, S, brk S, E)) ?_ (Or.inl rfl)
        unfold LTK
        rw [if_pos rfl, if_neg no, if_neg n19, if_neg n6]
      · have := G.1
        have := Classical.byContradiction y
        omega
    · obtain ⟨f0, ht, t4, tk, tv⟩ := X.1.kd
      -- a sign waits, then a unit
      have wait : ∀ (S2 : List Nat) (W2 : List Int) (E2 : List Int) (h1 : aH), FrA (ALC sd c0) h0 h1 → LRS K PL VL sd c0 t t W2 (brk S2) E2 h1 → K t < 31 → KMP (K t) :: W2 = xW S2 → (∀ s ∈ S2, s ≤ 30) → brk S2 ≤ 6 → LTK false (K t) (VL t) S (brk S) E = (0, true, S2, brk S2, E2) → WV N 239 0 [(0, .inr (.inr 130)), (1, .inl (KMP (K t)))] h1 (fun h2 => (am_tf (1 : Int) ∧ (((1 : Int) = 0 → WV N 238 62 [(0, .inr (.inr 130))] h2 C) ∧ (¬ ((1 : Int) = 0) → WV N 238 11 [(0, .inr (.inr 130)), (1, .inl 1)] h2 C)))) := by
        intro S2 W2 E2 h1 F1 X1 k31 eW hS2 b2 eL
        refine m_waitForR Q X1 (by omega) k31 (fun h2 f2 l g => ck_t1 ⟨fun z => absurd z (by decide), fun _ => ?_⟩)
        rcases Nat.lt_or_ge t 400 with lt | ge
        · have X2 := l lt
          rw [eW] at X2
          refine ihA (t + 1) S2 E2 h2 X2 hS2 b2 (by omega) (F1.trans f2) (fun h' F' L => hC h' F' ?_)
          rw [LR_s eL lt]; exact L
        · have G := g ge
          exact end1 1 h2 (by have := G.1; have := G.2.1; omega) (hC h2 (F1.trans f2) (Or.inl ⟨2, t, LR_400 eL ge, G⟩))
      have strong : (K t = 23 ∨ K t = 24) → WI N 242 13 [(0, .inr (.inr 130))] h (fun r4 h4 => (r4 = 0 → WV N 238 62 [(0, .inr (.inr 130))] h4 C) ∧ (¬ (r4 = 0) → WV N 238 11 [(0, .inr (.inr 130)), (1, .inl 1)] h4 C)) := by
        intro o
        refine w_242_13 (w_243_0 (m_comesOutR (lo := 23) (x1 := 1) (by omega) (Or.inr ⟨by decide, rfl⟩) S E h X hS (fun h1 f1 X1 => ?_)))
        obtain ⟨g0, gt, -, gk, -⟩ := X1.1.kd
        rw [gt, Int.toNat_natCast, gk]
        have eb : brk (K t :: (popW 23 S).1) = brk S := by rw [brk_y (by omega)]; exact brk_popS (by decide)
        refine ck_ix (by omega) (wait (K t :: (popW 23 S).1) (xW (popW 23 S).1) (E ++ (popW 23 S).2) h1 (F.trans f1) (by rw [eb]; exact X1) (by omega) (xW_n (by omega)).symm (fun s hs => ?_) (by omega) ?_)
        · rcases List.mem_cons.mp hs with e | e
          · omega
          · exact hS s (popW_mem _ _ _ e)
        · unfold LTK
          rw [if_neg (by decide), if_pos (by omega), if_neg (by omega), if_pos o, eb]
      refine w_242_1 ⟨fun z => absurd f0 z, fun _ => m_isR Q X.1 (by simp) (k := 23) ⟨rfl, by decide⟩ (fun _ k23 => ⟨fun _ => strong (Or.inl k23), fun z => absurd (by decide) z⟩) (fun n23 => ⟨fun z => absurd rfl z, fun _ => m_isR Q X.1 (by simp) (k := 24) ⟨rfl, by decide⟩ (fun _ k24 => ⟨fun z => absurd z (by decide), fun _ => strong (Or.inr k24)⟩) (fun n24 => ⟨fun _ => ?_, fun z => absurd rfl z⟩)⟩)⟩
      have n23 : K t ≠ 23 := fun z => n23 ⟨rfl, z⟩
      have n24 : K t ≠ 24 := fun z => n24 ⟨rfl, z⟩
      refine w_243_0 (m_comesOutR (lo := 21) (x1 := 0) (by omega) (Or.inl ⟨rfl, rfl⟩) S E h X hS (fun h1 f1 X1 => ?_))
      obtain ⟨S1, e1, hp⟩ : ∃ S1 e1, popW 21 S = (S1, e1) := ⟨_, _, rfl⟩
      have hS1 : ∀ s ∈ S1, s ≤ 30 := fun s hs => hS s (popW_mem 21 S s (by rw [hp]; exact hs))
      have eb : brk S1 = brk S := by have := brk_popS (lo := 21) (S := S) (by decide); rw [hp] at this; exact this
      rw [hp] at X1
      have X1 : LRS K PL VL sd c0 t t (xW S1) (brk S) (E ++ e1) h1 := X1
      have F1 : FrA (ALC sd c0) h0 h1 := F.trans f1
      obtain ⟨g0, gt, -, gk, -⟩ := X1.1.kd
      have lW : (xW S1).length ≤ 420 := by
        have := X1.2.2.2.2.2.2.2.1
        have := X1.2.2.2.2.2.2.1
        omega
      have wo : ∀ (k : Nat) {D : Int → aH → Prop}, k ≤ 32 → (∀ S2, S1 = k :: S2 → D 1 h1) → ((∀ S2, S1 ≠ k :: S2) → D 0 h1) → WI N 245 0 [(0, .inr (.inr 130)), (1, .inl (KMP k))] h1 D := fun k {D} hk d1 d0 => m_waitsOnR X1.2.1 X1.2.2.1 lW (fun W2 z => by
        obtain ⟨S2, e⟩ := xW_top hk hS1 z
        exact d1 S2 e) (fun z => d0 (fun S2 e => by
          obtain ⟨W, hW⟩ := xW_hd k S2
          exact z W (by rw [e, hW])))
      -- plus and minus
      have weak : (K t = 21 ∨ K t = 22) → WI N 242 37 [(0, .inr (.inr 130))] h1 (fun r4 h4 => (r4 = 0 → WV N 238 62 [(0, .inr (.inr 130))] h4 C) ∧ (¬ (r4 = 0) → WV N 238 11 [(0, .inr (.inr 130)), (1, .inl 1)] h4 C)) := by
        intro o
        refine w_242_37 ?_
        rw [gt, Int.toNat_natCast, gk]
        have eb2 : brk (K t :: S1) = brk S := by rw [brk_y (by omega)]; exact eb
        refine ck_ix (by omega) (wait (K t :: S1) (xW S1) (E ++ e1) h1 F1 (by rw [eb2]; exact X1) (by omega) (xW_n (by omega)).symm (fun s hs => ?_) (by omega) ?_)
        · rcases List.mem_cons.mp hs with e | e
          · omega
          · exact hS1 s e
        · unfold LTK
          rw [if_neg (by decide), if_pos (by omega), if_neg (by omega), if_neg (by omega), hp, eb2]
      -- all that fails, or ends
      have p117 : ((∃ s S2, S1 = s :: S2) → LTK false (K t) (VL t) S (brk S) E = (1, true, S, brk S, E)) → (S1 = [] → (K t = 20 → LTK false (K t) (VL t) S (brk S) E = (3, false, [], brk S, E ++ e1)) ∧ (K t ≠ 20 → LTK false (K t) (VL t) S (brk S) E = (1, true, S, brk S, E))) → WI N 242 117 [(0, .inr (.inr 130))] h1 (fun r4 h4 => (r4 = 0 → WV N 238 62 [(0, .inr (.inr 130))] h4 C) ∧ (¬ (r4 = 0) → WV N 238 11 [(0, .inr (.inr 130)), (1, .inl 1)] h4 C)) := by
        intro i1 i2
        refine w_242_117 ⟨fun le => ?_, fun gt0 => ?_⟩
        · have e0 : S1 = [] := by
            cases hs : S1 with
            | nil => rfl
            | cons s S2 =>
              obtain ⟨W, hW⟩ := xW_hd s S2
              have := X1.2.1
              rw [hs, hW, List.length_cons] at this
              omega
          obtain ⟨j1, j2⟩ := i2 e0
          have b0 : brk S = 0 := by rw [← eb, e0]; rfl
          rw [e0, b0] at X1
          refine w_242_124 (ck_t0 ⟨fun _ => end62 h1 (hC h1 F1 (Or.inr ⟨t, E ++ e1, X1, fun k20 => ?_, fun n20 => LR_f (j2 n20) (Or.inl rfl)⟩)), fun z => absurd rfl z⟩)
          rw [LR_e (j1 k20), if_neg (by simp)]
          by_cases ge : 400 ≤ t
          · rw [if_pos ge, if_pos ge]
          · rw [if_neg ge, if_neg ge, if_pos rfl]
        · have e0 : ∃ s S2, S1 = s :: S2 := by
            cases hs : S1 with
            | nil =>
              have := X1.2.1
              rw [hs] at this
              exact absurd (show h1 130 43 ≤ 0 by rw [this]; exact Int.le_refl _) gt0
            | cons s S2 => exact ⟨s, S2, rfl⟩
          refine m_failL (n := 1) X1.1 (by decide) (fun h2 f2 G => w_242_124 (ck_t0 ⟨fun _ => end62 h2 (hC h2 (F1.trans (FrA.frc f2 (by decide) (by decide))) (Or.inl ⟨1, t, LR_f (i1 e0) (Or.inl rfl), G⟩)), fun z => absurd rfl z⟩))
      -- a bracket is closed
      have p127 : ∀ (S2 : List Nat) (E2 : List Int) (h2 : aH), FrA (ALC sd c0) h0 h2 → LRS K PL VL sd c0 t t (xW S2) (brk S) E2 h2 → brk S = brk S2 + 1 → (∀ s ∈ S2, s ≤ 30) → K t < 31 → LTK false (K t) (VL t) S (brk S) E = (0, false, S2, brk S2, E2) → WI N 242 127 [(0, .inr (.inr 130))] h2 (fun r4 h4 => (r4 = 0 → WV N 238 62 [(0, .inr (.inr 130))] h4 C) ∧ (¬ (r4 = 0) → WV N 238 11 [(0, .inr (.inr 130)), (1, .inl 1)] h4 C)) := by
        intro S2 E2 h2 F2 X2 hb hS2 k31 eL
        refine w_242_127 ?_
        have ho := X2.2.2.2.1
        rw [ho, show ((brk S : Nat) : Int) - 1 = (brk S2 : Int) by omega]
        have f3 : Fr [] [12] h2 (am_up h2 130 12 (brk S2 : Int)) := Fr.rfl.upM (by decide)
        have X3 : LRS K PL VL sd c0 t t (xW S2) (brk S2) E2 (am_up h2 130 12 (brk S2 : Int)) := by
          obtain ⟨R, hw, hs, ho, hc, hE, c4, lb, sd2⟩ := X2
          refine ⟨R.mv f3 (by decide) (by decide), ?_, hs, up_same _ _ _ _, ?_, hE, c4, lb, sd2⟩
          · rw [f3.2 43 (by decide)]; exact hw
          · rw [f3.2 39 (by decide)]; exact hc
        refine ck_rg (by omega) (m_goesOnL Q X3 k31 (fun h4 f4 l g => ?_))
        have F4 : FrA (ALC sd c0) h0 h4 := F2.trans ((FrA.frc f3 (by decide) (by decide)).trans f4)
        rcases Nat.lt_or_ge t 400 with lt | ge
        · refine ihB (t + 1) S2 E2 h4 (l lt).b hS2 (by omega) (by omega) F4 (fun h' F' L => hC h' F' ?_)
          rw [LR_s eL lt]; exact L
        · have G := g ge
          have c := hC h4 F4 (Or.inl ⟨2, t, LR_400 eL ge, G⟩)
          refine w_242_1 ⟨fun _ => ck_t0 ⟨fun _ => end62 h4 c, fun z => absurd rfl z⟩, fun z => ?_⟩
          have := G.1
          have := Classical.byContradiction z
          omega
      -- what it is, past plus and minus
      have LTKc : ¬ ((21 ≤ K t ∧ K t ≤ 25) ∨ K t = 30) → LTK false (K t) (VL t) S (brk S) E = LTc (K t) S (brk S) E e1 S1 := by
        intro n
        unfold LTK
        rw [if_neg (by decide), if_neg n, hp]
      have LTKt : (K t = 25 ∨ K t = 30) → LTK false (K t) (VL t) S (brk S) E = LTt (K t) S (brk S) E e1 S1 := by
        intro o
        unfold LTK
        rw [if_neg (by decide), if_pos (by omega), if_pos o, hp]
      have p85 : K t ≠ 21 → K t ≠ 22 → ((K t = 25 ∨ K t = 30) → ∀ S2, S1 ≠ 28 :: S2) → (K t = 27 → ∀ S2, S1 ≠ 26 :: S2) → WI N 242 85 [(0, .inr (.inr 130))] h1 (fun r4 h4 => (r4 = 0 → WV N 238 62 [(0, .inr (.inr 130))] h4 C) ∧ (¬ (r4 = 0) → WV N 238 11 [(0, .inr (.inr 130)), (1, .inl 1)] h4 C)) := by
        intro n21 n22 nt np
        have no : (K t = 29 → ∀ S2, S1 ≠ 25 :: S2 ∧ S1 ≠ 30 :: S2) → WI N 242 117 [(0, .inr (.inr 130))] h1 (fun r4 h4 => (r4 = 0 → WV N 238 62 [(0, .inr (.inr 130))] h4 C) ∧ (¬ (r4 = 0) → WV N 238 11 [(0, .inr (.inr 130)), (1, .inl 1)] h4 C)) := by
          intro na
          by_cases o : K t = 25 ∨ K t = 30
          · refine p117 (fun ⟨s, S2, e⟩ => ?_) (fun e => ⟨fun z => by omega, fun _ => ?_⟩)
            · rw [LTKt o, e]
              have := LTt_n (k := K t) (d := brk S) (S := S) (S2 := S2) (E := E) (e := e1) (s := s) (fun z => nt o S2 (by rw [e, z]))
              exact this
            · rw [LTKt o, e]; rfl
          · have n : ¬ ((21 ≤ K t ∧ K t ≤ 25) ∨ K t = 30) := by omega
            refine p117 (fun ⟨s, S2, e⟩ => ?_) (fun e => ⟨fun z => ?_, fun z => ?_⟩)
            · rw [LTKc n, e]
              exact LTc_n (fun z => np z.1 S2 (by rw [e, z.2])) (fun z => by
                rcases z.2 with y | y
                · exact (na z.1 S2).1 (by rw [e, y])
                · exact (na z.1 S2).2 (by rw [e, y]))
            · rw [LTKc n, e, LTc_0 z]
            · rw [LTKc n, e, LTc_n0 z]
        refine w_242_85 (m_isR Q X1.1 (by simp) (k := 29) ⟨rfl, by decide⟩ (fun _ k29 => ⟨fun z => absurd z (by decide), fun _ => ?_⟩) (fun n29 => ⟨fun _ => no (fun z => absurd ⟨rfl, z⟩ n29), fun z => absurd rfl z⟩))
        have k29 : K t = 29 := k29
        have n : ¬ ((21 ≤ K t ∧ K t ≤ 25) ∨ K t = 30) := by omega
        -- two come off, a test is emitted
        have shut : ∀ (s : Nat) (S2 : List Nat) (c : Int), S1 = s :: S2 → (s = 25 ∧ c = 6 ∨ s = 30 ∧ c = 7) → WV N 241 0 [(0, .inr (.inr 130)), (1, .inl c), (2, .inl 0)] h1 (fun h2 => WI N 242 109 [(0, .inr (.inr 130))] h2 (fun r4 h4 => (r4 = 0 → WV N 238 62 [(0, .inr (.inr 130))] h4 C) ∧ (¬ (r4 = 0) → WV N 238 11 [(0, .inr (.inr 130)), (1, .inl 1)] h4 C))) := by
          intro s S2 c e o
          have o2 : s = 25 ∨ s = 30 := by omega
          rw [e, xW_y o2] at X1
          refine m_emitR (z := -(s : Int)) X1 (by omega) (by unfold cdR; omega) (fun h2 f2 X2 => w_242_109 ?_)
          obtain ⟨R, hw, hs, ho, hc, hE, c4, lb, sd2⟩ := X2
          have l2 : (((KMP s :: 14 :: xW S2).length : Nat) : Int) = ((xW S2).length : Int) + 2 := by rw [List.length_cons, List.length_cons]; omega
          rw [hw, l2, show ((xW S2).length : Int) + 2 - 2 = ((xW S2).length : Int) by omega]
          rw [List.length_cons, List.length_cons] at lb
          have f3 : Fr [] [43] h2 (am_up h2 130 43 ((xW S2).length : Int)) := Fr.rfl.upM (by decide)
          have eb2 : brk S = brk S2 + 1 := by rw [← eb, e]; exact brk_n (by omega)
          refine ck_rg (by omega) (p127 S2 (E ++ e1 ++ [-(s : Int)]) _ (F1.trans (f2.trans (FrA.frc f3 (by decide) (by decide)))) ⟨R.mv f3 (by decide) (by decide), up_same _ _ _ _, hs.2.2, ?_, ?_, hE, c4, by omega, sd2⟩ eb2 (fun x hx => hS1 x (by rw [e]; exact List.mem_cons_of_mem _ hx)) (by omega) ?_)
          · rw [f3.2 12 (by decide)]; exact ho
          · rw [f3.2 39 (by decide)]; exact hc
          · rw [LTKc n, e, LTc_2 (by omega) ⟨k29, o2⟩, eb2]; rfl
        have p98 : (∃ s S2, S1 = s :: S2 ∧ (s = 25 ∨ s = 30)) → WI N 242 98 [(0, .inr (.inr 130))] h1 (fun r4 h4 => (r4 = 0 → WV N 238 62 [(0, .inr (.inr 130))] h4 C) ∧ (¬ (r4 = 0) → WV N 238 11 [(0, .inr (.inr 130)), (1, .inl 1)] h4 C)) := by
          rintro ⟨s, S2, e, o⟩
          refine w_242_98 (wo 25 (by decide) (fun S3 e3 => ⟨fun z => absurd z (by decide), fun _ => shut 25 S3 6 e3 (by omega)⟩) (fun n25 => ⟨fun _ => shut s S2 7 e ?_, fun z => absurd rfl z⟩))
          rcases o with o | o
          · exact absurd (by rw [e, o]) (n25 S2)
          · exact Or.inr ⟨o, rfl⟩
        refine wo 25 (by decide) (fun S2 e => ⟨fun _ => p98 ⟨25, S2, e, Or.inl rfl⟩, fun z => absurd (by decide) z⟩) (fun n25 => ⟨fun z => absurd rfl z, fun _ => wo 30 (by decide) (fun S2 e => ⟨fun z => absurd z (by decide), fun _ => p98 ⟨30, S2, e, Or.inr rfl⟩⟩) (fun n30 => ⟨fun _ => no (fun _ S2 => ⟨n25 S2, n30 S2⟩), fun z => absurd rfl z⟩)⟩)
      have p69 : K t ≠ 21 → K t ≠ 22 → ((K t = 25 ∨ K t = 30) → ∀ S2, S1 ≠ 28 :: S2) → WI N 242 69 [(0, .inr (.inr 130))] h1 (fun r4 h4 => (r4 = 0 → WV N 238 62 [(0, .inr (.inr 130))] h4 C) ∧ (¬ (r4 = 0) → WV N 238 11 [(0, .inr (.inr 130)), (1, .inl 1)] h4 C)) := by
        intro n21 n22 nt
        refine w_242_69 (m_isR Q X1.1 (by simp) (k := 27) ⟨rfl, by decide⟩ (fun _ k27 => ⟨fun z => absurd z (by decide), fun _ => ?_⟩) (fun n27 => ⟨fun _ => p85 n21 n22 nt (fun z => absurd ⟨rfl, z⟩ n27), fun z => absurd rfl z⟩))
        have k27 : K t = 27 := k27
        refine wo 26 (by decide) (fun S2 e => ⟨fun z => absurd z (by decide), fun _ => ?_⟩) (fun n26 => ⟨fun _ => p85 n21 n22 nt (fun _ => n26), fun z => absurd rfl z⟩)
        rw [e, xW_n (by decide)] at X1
        obtain ⟨b1, Y⟩ := X1.pop
        have lw := X1.2.1
        have l2 : (((KMP 26 :: xW S2).length : Nat) : Int) = ((xW S2).length : Int) + 1 := by rw [List.length_cons]; omega
        rw [lw, l2, show ((xW S2).length : Int) + 1 - 1 = ((xW S2).length : Int) by omega]
        have eb2 : brk S = brk S2 + 1 := by rw [← eb, e]; exact brk_n (by omega)
        have lW2 : (xW S2).length ≤ 420 := by
          rw [e, xW_n (by decide), List.length_cons] at lW; omega
        refine ck_rg (by omega) (p127 S2 (E ++ e1) _ (F1.trans (FrA.up FrA.rfl (by unfold ALC; omega))) ?_ eb2 (fun x hx => hS1 x (by rw [e]; exact List.mem_cons_of_mem _ hx)) (by omega) ?_)
        · obtain ⟨y1, y2, y3, y4, y5, y6, y7, y8, y9⟩ := Y
          exact ⟨y1, y2, y3, y4, y5, y6, y7, by omega, y9⟩
        · have n : ¬ ((21 ≤ K t ∧ K t ≤ 25) ∨ K t = 30) := by omega
          rw [LTKc n, e, LTc_1 ⟨k27, rfl⟩, eb2]; rfl
      have p55 : (K t = 25 ∨ K t = 30) → WI N 242 55 [(0, .inr (.inr 130))] h1 (fun r4 h4 => (r4 = 0 → WV N 238 62 [(0, .inr (.inr 130))] h4 C) ∧ (¬ (r4 = 0) → WV N 238 11 [(0, .inr (.inr 130)), (1, .inl 1)] h4 C)) := by
        intro o
        refine w_242_55 (wo 28 (by decide) (fun S2 e => ⟨fun z => absurd z (by decide), fun _ => ?_⟩) (fun n28 => ⟨fun _ => p69 (by omega) (by omega) (fun _ => n28), fun z => absurd rfl z⟩))
        rw [gt, Int.toNat_natCast, gk]
        have eb2 : brk (K t :: S2) = brk S := by
          rw [brk_n (by omega), ← eb, e]; exact (brk_n (by omega)).symm
        have X2 := X1
        rw [e, xW_n (by decide)] at X2
        refine ck_ix (by omega) (wait (K t :: S2) (KMP 28 :: xW S2) (E ++ e1) h1 F1 (by rw [eb2]; exact X2) (by omega) (xW_y o).symm (fun s hs => ?_) (by omega) ?_)
        · rcases List.mem_cons.mp hs with z | z
          · omega
          · exact hS1 s (by rw [e]; exact List.mem_cons_of_mem _ z)
        · rw [LTKt o, e, LTt_y rfl, eb2]
      refine m_isR Q X1.1 (by simp) (k := 21) ⟨rfl, by decide⟩ (fun _ k21 => ⟨fun _ => weak (Or.inl k21), fun z => absurd (by decide) z⟩) (fun n21 => ⟨fun z => absurd rfl z, fun _ => m_isR Q X1.1 (by simp) (k := 22) ⟨rfl, by decide⟩ (fun _ k22 => ⟨fun z => absurd z (by decide), fun _ => weak (Or.inr k22)⟩) (fun n22 => ⟨fun _ => ?_, fun z => absurd rfl z⟩)⟩)
      refine m_isR Q X1.1 (by simp) (k := 25) ⟨rfl, by decide⟩ (fun _ k25 => ⟨fun _ => p55 (Or.inl k25), fun z => absurd (by decide) z⟩) (fun n25 => ⟨fun z => absurd rfl z, fun _ => m_isR Q X1.1 (by simp) (k := 30) ⟨rfl, by decide⟩ (fun _ k30 => ⟨fun z => absurd z (by decide), fun _ => p55 (Or.inr k30)⟩) (fun n30 => ⟨fun _ => p69 (fun z => n21 ⟨rfl, z⟩) (fun z => n22 ⟨rfl, z⟩) (fun z => ?_), fun z => absurd rfl z⟩)⟩)
      rcases z with z | z
      · exact absurd ⟨rfl, z⟩ n25
      · exact absurd ⟨rfl, z⟩ n30
/-- cells that a law's telling may change -/
def ALD (sd cc lw r j : Nat) : Prop := ALC sd cc r j ∨ ((r = 153 ∨ r = 154 ∨ r = 155) ∧ j = lw)
/-- a law told -/
def LWR (K PL : Nat → Nat) (VL : Nat → Int) (sd cc lw : Nat) (E' : List Int) (t' : Nat) (h' : aH) : Prop := RFS K PL VL t' [] h' ∧ h' 130 12 = 0 ∧ h' 153 lw = 1 ∧ h' 154 lw = (cc : Int) ∧ h' 155 lw = ((cc + E'.length : Nat) : Int) ∧ h' 130 39 = ((cc + E'.length : Nat) : Int) ∧ (∀ i, i < E'.length → cdR (h' 156 (cc + i)) (h' 157 (cc + i)) (E'.getD i 0)) ∧ cc + E'.length ≤ 420 * sd + t'
theorem m_tellLawR {N : Nat} {C : aH → Prop} {K PL : Nat → Nat} {VL : Nat → Int} {t sd cc lw : Nat} {h : aH} (Q : TOKP K PL VL) (S : RFS K PL VL t [] h) (kt : K t = 16 ∨ K t = 17) (el : lw = 2 * sd + (K t - 16)) (hsd : h 130 19 = (sd : Int)) (sd2 : sd < 2) (hop : h 130 12 = 0) (hcc : h 130 39 = (cc : Int)) (c1 : 420 * sd ≤ cc) (c2 : cc ≤ 420 * sd + t)
    (hC : ∀ h', FrA (ALD sd cc lw) h h' → (∀ n q, FLW49 K VL t = .inl (n, q) → RFL PL n q h') → (∀ E' t', FLW49 K VL t = .inr (E', t') → LWR K PL VL sd cc lw E' t' h') → C h') : WV N 226 58 [(0, .inr (.inr 130))] h C := by
  obtain ⟨f0, ht, t4, tk, tv⟩ := S.kd
  have kk : KMP (K t) = 14 + (K t : Int) := by
    rcases kt with e | e <;> rw [e] <;> rfl
  have c0c : ∀ r j, ALC sd cc r j → ALD sd cc lw r j := fun r j h => Or.inl h
  refine w_226_58 ?_
  rw [hsd, ht, Int.toNat_natCast, tk, kk]
  have ew : ((2 : Int) * (sd : Int) + (14 + (K t : Int)) - 30) = (lw : Int) := by omega
  rw [ew, Int.toNat_natCast]
  have lw4 : lw < 4 := by omega
  refine ck_rg (by omega) (ck_ix (by omega) (ck_rg (by omega) (ck_rg (by omega) (m_goesOnR Q S (by simp) ⟨rfl, (show K t = K t from rfl)⟩ (by omega) (fun h1 f1 R1 => ck_ix (by omega) ⟨Or.inr rfl, ck_ix (by omega) ?_⟩)))))
  have k1 : ∀ k ∈ [] ++ [K t], k < 31 := by simp; omega
  rw [f1.2 39 (by decide), hcc]
  obtain ⟨a1, ha1⟩ : ∃ a1, a1 = am_up (am_up h1 153 lw 1) 154 lw (cc : Int) := ⟨_, rfl⟩
  rw [← ha1]
  have fa1 : Fr [153, 154] [] h1 a1 := by rw [ha1]; exact (Fr.rfl.up (by decide) (by decide)).up (by decide) (by decide)
  have Fa1 : FrA (ALD sd cc lw) h a1 := by
    refine ((FrA.frc (sd := sd) (c0 := cc) f1 (by decide) (by decide)).mono c0c).trans ?_
    rw [ha1]
    refine FrA.up (FrA.up FrA.rfl ?_) ?_
    · unfold ALD; omega
    · unfold ALD; omega
  have v1 : a1 153 lw = 1 ∧ a1 154 lw = (cc : Int) := by
    rw [ha1]
    exact ⟨by rw [up_row (by decide), up_same], up_same _ _ _ _⟩
  have Ra := R1.mv fa1 (by decide) (by decide)
  have wf : Fr [] [43] a1 (am_up a1 130 43 0) := Fr.rfl.upM (by decide)
  have FaW : FrA (ALD sd cc lw) h (am_up a1 130 43 0) := Fa1.trans ((FrA.frc (sd := sd) (c0 := cc) wf (by decide) (by decide)).mono c0c)
  have upTo : ∀ (h2 : aH) (v : Int), FrA (ALD sd cc lw) h h2 → FrA (ALD sd cc lw) h (am_up h2 155 lw v) := fun h2 v F => FrA.up F (by unfold ALD; omega)
  refine w_238_0 ⟨fun f => ?_, fun f => ?_⟩
  · -- no TOKEN is left
    rcases hx : FS K ([] ++ [K t]) t with _ | ⟨n, q⟩
    · exact absurd (Ra.f0.1 hx) f
    · have ge : 400 ≤ t := by
        rcases Nat.lt_or_ge t 400 with lt | ge
        · have : FS K ([] ++ [K t]) t = none := by rw [show [] ++ [K t] = [K t] from rfl, FS_3 rfl lt]; rfl
          rw [this] at hx; cases hx
        · exact ge
      have hx2 : FS K ([] ++ [K t]) t = some (2, t) := FS_2 rfl ge
      have G : RFL PL 2 t a1 := (Ra.out k1).2 2 t hx2
      have Gw : RFL PL 2 t (am_up a1 130 43 0) := by
        refine ⟨?_, G.2.1, ?_⟩
        · rw [wf.2 13 (by decide)]; exact G.1
        · rw [wf.2 14 (by decide)]; exact G.2.2
      have eF : FLW49 K VL t = .inl (2, t) := if_pos ge
      refine w_238_11 ⟨fun _ => ck_ix (by omega) ?_, fun z => absurd rfl z⟩
      refine m_mustF (by have := Gw.1; rw [up_row (by decide)]; omega) (hC _ (upTo _ _ FaW) (fun n q e => ?_) (fun E' t' e => by rw [eF] at e; cases e))
      rw [eF] at e
      injection e with e
      injection e with e1 e2
      subst e1 e2
      unfold RFL
      rw [up_row (by decide)]
      exact Gw
  · have lt : t < 400 := by
      rcases Nat.lt_or_ge t 400 with lt | ge
      · exact lt
      · have hx2 : FS K ([] ++ [K t]) t = some (2, t) := FS_2 rfl ge
        have := ((Ra.out k1).2 2 t hx2).1
        have := Classical.byContradiction f
        omega
    have hx : FS K ([] ++ [K t]) t = none := by rw [show [] ++ [K t] = [K t] from rfl, FS_3 rfl lt]; rfl
    have R2 : RFS K PL VL (t + 1) [] a1 := (Ra.out k1).1 hx
    have eF : FLW49 K VL t = LR K VL 401 true (t + 1) [] 0 [] := if_neg (by omega)
    have X : LRS K PL VL sd cc (t + 1) (t + 1) (xW []) (brk []) [] (am_up a1 130 43 0) := by
      refine ⟨R2.mv wf (by decide) (by decide), up_same _ _ _ _, trivial, ?_, ?_, fun i hi => absurd hi (Nat.not_lt_zero i), c1, ?_, sd2⟩
      · rw [wf.2 12 (by decide), fa1.2 12 (by decide), f1.2 12 (by decide)]; exact hop
      · rw [wf.2 39 (by decide), fa1.2 39 (by decide), f1.2 39 (by decide)]; exact hcc
      · show cc + 0 + 0 ≤ _; omega
    refine (m_exgo (h0 := am_up a1 130 43 0) Q 401).1 (t + 1) [] [] _ X (by simp) (Nat.zero_le _) (by omega) FrA.rfl (fun h2 F2 L => ck_ix (by omega) ?_)
    have F2' : FrA (ALD sd cc lw) h h2 := FaW.trans (F2.mono c0c)
    have L : LEND K PL VL sd cc (FLW49 K VL t) h2 := by rw [eF]; exact L
    have w2 : h2 153 lw = 1 ∧ h2 154 lw = (cc : Int) := by
      rw [F2 153 lw (by unfold ALC; omega), F2 154 lw (by unfold ALC; omega), up_row (by decide), up_row (by decide)]
      exact v1
    rcases L with ⟨n, q, e, G⟩ | ⟨t', E', X2, e20, en⟩
    · refine m_mustF (by have := G.1; have := G.2.1; rw [up_row (by decide)]; omega) (hC _ (upTo _ _ F2') (fun n' q' e' => ?_) (fun E' t' e' => by rw [e] at e'; cases e'))
      rw [e] at e'
      injection e' with e'
      injection e' with e1 e2
      subst e1 e2
      unfold RFL
      rw [up_row (by decide)]
      exact G
    · obtain ⟨R, hw, hs, ho, hc, hE, c4, lb, -⟩ := X2
      have f3 : Fr [155] [] h2 (am_up h2 155 lw (h2 130 39)) := Fr.rfl.up (by decide) (by decide)
      refine m_mustR Q (R.mv f3 (by decide) (by decide)) (by simp) (k := 20) ⟨rfl, by decide⟩ (fun h4 f4 R4 => hC h4 ((upTo _ _ F2').trans ((FrA.frc (sd := sd) (c0 := cc) f4 (by decide) (by decide)).mono c0c)) (fun n q e => ?_) (fun E2 t2 e => ?_))
      · have oo := R4.out (E := [20]) (by decide)
        by_cases k20 : K t' = 20
        · have e2 := e20 k20
          by_cases ge : 400 ≤ t'
          · rw [if_pos ge] at e2
            rw [e2] at e
            injection e with e
            injection e with e1 e2
            subst e1 e2
            exact oo.2 2 t' (FS_2 k20 ge)
          · rw [if_neg ge] at e2
            rw [e2] at e; cases e
        · rw [en k20] at e
          injection e with e
          injection e with e1 e2
          subst e1 e2
          exact oo.2 1 t' (FS_1 k20)
      · have oo := R4.out (E := [20]) (by decide)
        by_cases k20 : K t' = 20
        · have e2 := e20 k20
          by_cases ge : 400 ≤ t'
          · rw [if_pos ge] at e2
            rw [e2] at e; cases e
          · rw [if_neg ge] at e2
            rw [e2] at e
            injection e with e
            injection e with e1 e2
            subst e1 e2
            have l0 : (([] : List Int).length) = 0 := rfl
            rw [l0] at lb
            refine ⟨oo.1 (by rw [FS_3 k20 (by omega)]; rfl), ?_, ?_, ?_, ?_, ?_, ?_, by omega⟩
            · rw [f4.2 12 (by decide), f3.2 12 (by decide)]; exact ho
            · rw [f4.at 153 (by decide) (by decide), f3.at 153 (by decide) (by decide)]; exact w2.1
            · rw [f4.at 154 (by decide) (by decide), f3.at 154 (by decide) (by decide)]; exact w2.2
            · rw [f4.at 155 (by decide) (by decide), up_same]; exact hc
            · rw [f4.2 39 (by decide), f3.2 39 (by decide)]; exact hc
            · rw [f4.at 156 (by decide) (by decide), f4.at 157 (by decide) (by decide), f3.at 156 (by decide) (by decide), f3.at 157 (by decide) (by decide)]; exact hE
        · rw [en k20] at e; cases e
