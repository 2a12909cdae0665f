/-! read: a law, TOKEN by TOKEN; the class's -/
/-- signs that wait and bind no less come out -/
def popW (lo : Nat) : List Nat → List Nat × List Int
  | [] => ([], [])
  | s :: S => if lo ≤ s ∧ s ≤ 24 then ((popW lo S).1, -(s : Int) :: (popW lo S).2) else (s :: S, [])
theorem popW_y {lo s : Nat} {S : List Nat} (h : lo ≤ s ∧ s ≤ 24) : popW lo (s :: S) = ((popW lo S).1, -(s : Int) :: (popW lo S).2) := if_pos h
theorem popW_n {lo s : Nat} {S : List Nat} (h : ¬ (lo ≤ s ∧ s ≤ 24)) : popW lo (s :: S) = (s :: S, []) := if_neg h
theorem popW_len (lo : Nat) : ∀ S, (popW lo S).1.length + (popW lo S).2.length = S.length
  | [] => rfl
  | s :: S => by
    by_cases c : lo ≤ s ∧ s ≤ 24
    · rw [popW_y c]
      have := popW_len lo S
      simp only [List.length_cons]
      omega
    · rw [popW_n c]; rfl
theorem popW_mem (lo : Nat) : ∀ S x, x ∈ (popW lo S).1 → x ∈ S
  | [], x, h => h
  | s :: S, x, h => by
    by_cases c : lo ≤ s ∧ s ≤ 24
    · rw [popW_y c] at h
      exact List.mem_cons_of_mem _ (popW_mem lo S x h)
    · rw [popW_n c] at h; exact h
/-- a sign of a test, behind what came out -/
def LTt (k : Nat) (S : List Nat) (d : Nat) (E e : List Int) : List Nat → Nat × Bool × List Nat × Nat × List Int
  | [] => (1, true, S, d, E)
  | s :: S2 => if s = 28 then (0, true, k :: S2, d, E ++ e) else (1, true, S, d, E)
/-- what closes, behind what came out -/
def LTc (k : Nat) (S : List Nat) (d : Nat) (E e : List Int) : List Nat → Nat × Bool × List Nat × Nat × List Int
  | [] => if k = 20 then (3, false, [], d, E ++ e) else (1, true, S, d, E)
  | s :: S2 => if k = 27 ∧ s = 26 then (0, false, S2, d - 1, E ++ e) else if k = 29 ∧ (s = 25 ∨ s = 30) then (0, false, S2, d - 1, E ++ e ++ [-(s : Int)]) else (1, true, S, d, E)
theorem LTt_y {k s d : Nat} {S S2 : List Nat} {E e : List Int} (h : s = 28) : LTt k S d E e (s :: S2) = (0, true, k :: S2, d, E ++ e) := if_pos h
theorem LTt_n {k s d : Nat} {S S2 : List Nat} {E e : List Int} (h : ¬ s = 28) : LTt k S d E e (s :: S2) = (1, true, S, d, E) := if_neg h
theorem LTc_0 {k d : Nat} {S : List Nat} {E e : List Int} (h : k = 20) : LTc k S d E e [] = (3, false, [], d, E ++ e) := if_pos h
theorem LTc_n0 {k d : Nat} {S : List Nat} {E e : List Int} (h : ¬ k = 20) : LTc k S d E e [] = (1, true, S, d, E) := if_neg h
theorem LTc_1 {k s d : Nat} {S S2 : List Nat} {E e : List Int} (h : k = 27 ∧ s = 26) : LTc k S d E e (s :: S2) = (0, false, S2, d - 1, E ++ e) := if_pos h
theorem LTc_2 {k s d : Nat} {S S2 : List Nat} {E e : List Int} (h1 : ¬ (k = 27 ∧ s = 26)) (h : k = 29 ∧ (s = 25 ∨ s = 30)) : LTc k S d E e (s :: S2) = (0, false, S2, d - 1, E ++ e ++ [-(s : Int)]) := (if_neg h1).trans (if_pos h)
theorem LTc_n {k s d : Nat} {S S2 : List Nat} {E e : List Int} (h1 : ¬ (k = 27 ∧ s = 26)) (h : ¬ (k = 29 ∧ (s = 25 ∨ s = 30))) : LTc k S d E e (s :: S2) = (1, true, S, d, E) := (if_neg h1).trans (if_neg h)
/-- one TOKEN of a law: (0 goes on, 1 and 2 faults, 3 the end; a unit is next; signs; depth; steps) -/
def LTK (u : Bool) (k : Nat) (v : Int) (S : List Nat) (d : Nat) (E : List Int) : Nat × Bool × List Nat × Nat × List Int :=
  if u = true then
    (if k = 26 ∨ k = 28 then (if 6 ≤ d then (2, true, S, d, E) else (0, true, k :: S, d + 1, E))
     else if k = 19 then (0, false, S, d, E ++ [v]) else if k ≤ 6 then (0, false, S, d, E ++ [-1 - (k : Int)]) else (1, true, S, d, E))
  else if (21 ≤ k ∧ k ≤ 25) ∨ k = 30 then
    (if k = 25 ∨ k = 30 then LTt k S d E (popW 21 S).2 (popW 21 S).1
     else (0, true, k :: (popW (if k = 23 ∨ k = 24 then 23 else 21) S).1, d, E ++ (popW (if k = 23 ∨ k = 24 then 23 else 21) S).2))
  else LTc k S d E (popW 21 S).2 (popW 21 S).1
/-- all of a law, from the t-th TOKEN on -/
def LR (K : Nat → Nat) (VL : Nat → Int) : Nat → Bool → Nat → List Nat → Nat → List Int → (Nat × Nat) ⊕ (List Int × Nat)
  | 0, _, t, _, _, _ => .inl (1, t)
  | m + 1, u, t, S, d, E =>
    if (LTK u (K t) (VL t) S d E).1 = 1 ∨ (LTK u (K t) (VL t) S d E).1 = 2 then .inl ((LTK u (K t) (VL t) S d E).1, t)
    else if 400 ≤ t then .inl (2, t)
    else if (LTK u (K t) (VL t) S d E).1 = 3 then .inr ((LTK u (K t) (VL t) S d E).2.2.2.2, t + 1)
    else LR K VL m (LTK u (K t) (VL t) S d E).2.1 (t + 1) (LTK u (K t) (VL t) S d E).2.2.1 (LTK u (K t) (VL t) S d E).2.2.2.1 (LTK u (K t) (VL t) S d E).2.2.2.2
/-- the signs' row, the top first -/
def stN (f : Nat → Int) : List Nat → Prop
  | [] => True
  | a :: S => f S.length = (a : Int) ∧ stN f S
theorem stN_congr {f g : Nat → Int} : ∀ {S : List Nat}, (∀ j, j < S.length → f j = g j) → stN f S → stN g S
  | [], _, _ => trivial
  | a :: S, e, ⟨h1, h2⟩ => ⟨by rw [← e S.length (by simp)]; exact h1, stN_congr (fun j hj => e j (by simp; omega)) h2⟩
theorem stN_up {f : Nat → Int} {v : Int} {S : List Nat} {k : Nat} (hk : S.length ≤ k) (h : stN f S) : stN (fun j => if j = k then v else f j) S := stN_congr (fun j hj => (if_neg (by omega)).symm) h
/-- the steps' row -/
def stE (f : Nat → Int) (E : List Int) : Prop := ∀ i, i < E.length → f i = E.getD i 0
theorem stE_app {f : Nat → Int} {E : List Int} {z : Int} (h : stE f E) : stE (fun j => if j = E.length then z else f j) (E ++ [z]) := by
  intro i hi
  rw [List.length_append, List.length_singleton] at hi
  dsimp only
  by_cases e : i = E.length
  · rw [if_pos e, e]; simp
  · rw [if_neg e, h i (by omega)]
    simp [List.getD_eq_getElem?_getD, List.getElem?_append_left (show i < E.length by omega)]
/-- how the class stands within a law -/
def LCS49 (K PL : Nat → Nat) (VL : Nat → Int) (t : Nat) (S : List Nat) (d : Nat) (E : List Int) (g : aH) : Prop := CSQ K PL VL t g ∧ g 35 7 = (S.length : Int) ∧ stN (g 57) S ∧ g 35 8 = (d : Int) ∧ g 49 2 = (E.length : Int) ∧ stE (g 50) E ∧ S.length + E.length < t ∧ t ≤ 400
theorem c_lput49 {N : Nat} {C : aH → Prop} {E : List Int} {z : Int} {g : aH} (e2 : g 49 2 = (E.length : Int)) (e3 : stE (g 50) E) (lt : E.length < 400) (hC : ∀ g', F5 [49, 50] [] g g' → g' 49 2 = ((E ++ [z]).length : Int) → stE (g' 50) (E ++ [z]) → (∀ j, j ≠ 2 → g' 49 j = g 49 j) → C g') : WV N 42 0 [(0, .inr (.inr 49)), (1, .inl z)] g C := by
  refine w_42_0_r49 ?_
  rw [e2]
  refine ⟨fun ge => by omega, fun _ => ck_ix (by omega) (ck_rg (by omega) (hC _ ((F5.rfl.up (by decide) (by decide)).up (by decide) (by decide)) ?_ ?_ (fun j hj => ?_)))⟩
  · rw [up_same]; simp
  · rw [up_row (by decide), Int.toNat_natCast, up_fun]
    exact stE_app e3
  · rw [up_ne hj, up_row (by decide)]
theorem c_putWaiting49 {N : Nat} {C : aH → Prop} {K PL : Nat → Nat} {VL : Nat → Int} {t d : Nat} {E : List Int} {S : List Nat} {lo : Nat} {x : Int} {g : aH} (X : LCS49 K PL VL t S d E g) (hl : (x = 0 ∧ lo = 21) ∨ (x ≠ 0 ∧ lo = 23)) (hC : ∀ g', F5 [49, 50] [7] g g' → LCS49 K PL VL t (popW lo S).1 d (E ++ (popW lo S).2) g' → C g') : WV N 62 0 [(0, .inr (.inr 35)), (1, .inr (.inr 49)), (2, .inl x)] g C := by
  have key : ∀ (S : List Nat) (E : List Int) (g1 : aH), F5 [49, 50] [7] g g1 → LCS49 K PL VL t S d E g1 → (∀ g', F5 [49, 50] [7] g g' → LCS49 K PL VL t (popW lo S).1 d (E ++ (popW lo S).2) g' → C g') → WV N 62 7 [(0, .inr (.inr 35)), (1, .inr (.inr 49)), (3, .inl (lo : Int))] g1 C := by
    intro S
    induction S with
    | nil =>
      intro E g1 f X hC
      refine w_62_7_r35_49 ?_
      rw [X.2.1]
      refine ⟨fun _ => hC g1 f ?_, fun z => absurd (by decide) z⟩
      rw [show popW lo [] = ([], []) from rfl, List.append_nil]
      exact X
    | cons s S ih =>
      intro E g1 f X hC
      obtain ⟨x1, x2, ⟨x3, x3'⟩, x4, x5, x6, x7, x8⟩ := X
      have ln : ((s :: S).length : Int) = (S.length : Int) + 1 := by simp
      refine w_62_7_r35_49 ?_
      rw [x2, ln, show ((S.length : Int) + 1 - 1) = (S.length : Int) by omega, Int.toNat_natCast, x3]
      rw [List.length_cons] at x7
      have stay : ¬ (lo ≤ s ∧ s ≤ 24) → C g1 := fun n => by
        refine hC g1 f ?_
        rw [popW_n n, List.append_nil]
        exact ⟨x1, x2, ⟨x3, x3'⟩, x4, x5, x6, by rw [List.length_cons]; omega, x8⟩
      refine ⟨fun z => by omega, fun _ => ck_rg (by omega) (ck_ix (by omega) ⟨fun l => stay (by omega), fun g2 => ck_rg (by omega) (ck_ix (by omega) ⟨fun l => stay (by omega), fun g3 => ck_rg (by omega) (ck_ix (by omega) (ck_rg (by omega) ?_))⟩)⟩)⟩
      have y : lo ≤ s ∧ s ≤ 24 := by omega
      rw [popW_y y] at hC
      have f1 : F5 [] [7] g1 (am_up g1 35 7 (S.length : Int)) := F5.rfl.upM (by decide)
      refine c_lput49 (E := E) (by rw [f1.at 49 (by decide) (by decide)]; exact x5) (by rw [f1.at 50 (by decide) (by decide)]; exact x6) (by omega) (fun g2 f2 l2 l3 l4 => ?_)
      have F2 : F5 [49, 50] [7] g g2 := f.trans ((f1.mono (by decide) (by decide)).trans (f2.mono (by decide) (by decide)))
      refine ih (E ++ [-(s : Int)]) g2 F2 ⟨(x1.mv f1 (by decide) (by decide)).mv f2 (by decide) (by decide), ?_, ?_, ?_, l2, l3, ?_, x8⟩ (fun g' f' X' => hC g' f' ?_)
      · rw [f2.2 7 (by decide), up_same]
      · rw [f2.at 57 (by decide) (by decide), f1.at 57 (by decide) (by decide)]; exact x3'
      · rw [f2.2 8 (by decide), f1.2 8 (by decide)]; exact x4
      · rw [List.length_append, List.length_singleton]; omega
      · rw [List.append_assoc] at X'
        exact X'
  rcases hl with ⟨a, b⟩ | ⟨a, b⟩
  · refine w_62_0_r35_49 ⟨fun _ => ?_, fun z => absurd a z⟩
    have := key S E g F5.rfl X hC
    rw [b] at this
    exact this
  · refine w_62_0_r35_49 ⟨fun z => absurd z a, fun _ => ?_⟩
    have := key S E g F5.rfl X hC
    rw [b] at this
    exact this
theorem c_closes49 {N : Nat} {C : Int → aH → Prop} {K PL : Nat → Nat} {VL : Nat → Int} {t d : Nat} {E : List Int} {S : List Nat} {k : Nat} {g : aH} (X : LCS49 K PL VL t S d E g) (c1 : ∀ S2 g', S = k :: S2 → F5 [] [7] g g' → LCS49 K PL VL t S2 d E g' → C 1 g') (c0 : (∀ S2, S ≠ k :: S2) → ∀ g', F5 [] [7] g g' → LCS49 K PL VL t S d E g' → C 0 g') : WI N 63 0 [(0, .inr (.inr 35)), (1, .inl (k : Int))] g C := by
  obtain ⟨x1, x2, x3, x4, x5, x6, x7, x8⟩ := X
  have mk : ∀ (S' : List Nat), (stN (g 57) S') → S'.length ≤ S.length → LCS49 K PL VL t S' d E (am_up g 35 7 (S'.length : Int)) := by
    intro S' s l
    have f1 : F5 [] [7] g (am_up g 35 7 (S'.length : Int)) := F5.rfl.upM (by decide)
    exact ⟨x1.mv f1 (by decide) (by decide), up_same _ _ _ _, by rw [f1.at 57 (by decide) (by decide)]; exact s, by rw [f1.2 8 (by decide)]; exact x4, by rw [f1.at 49 (by decide) (by decide)]; exact x5, by rw [f1.at 50 (by decide) (by decide)]; exact x6, by omega, x8⟩
  have f1 : ∀ v : Int, F5 [] [7] g (am_up g 35 7 v) := fun v => F5.rfl.upM (by decide)
  refine w_63_0 ?_
  rw [x2]
  have no : (∀ S2, S ≠ k :: S2) → ((0 : Int) = 0 → (am_rg (((S.length : Int)) - 0) ∧ (am_tf (0 : Int) ∧ C 0 (am_up g 35 7 (((S.length : Int)) - 0))))) ∧ (¬ ((0 : Int) = 0) → (am_rg (((S.length : Int)) - 1) ∧ (am_tf (0 : Int) ∧ C 0 (am_up g 35 7 (((S.length : Int)) - 1))))) := by
    intro n
    refine ⟨fun _ => ck_rg (by omega) (ck_t0 ?_), fun z => absurd rfl z⟩
    rw [Int.sub_zero]
    exact c0 n _ (f1 _) (mk S x3 (Nat.le_refl _))
  refine ⟨fun z => no (fun S2 e => by rw [e, List.length_cons] at z; omega), fun z => ck_rg (by omega) (ck_ix (by omega) ⟨fun ne => no (fun S2 e => ?_), fun eq => ⟨fun q => absurd q (by decide), fun _ => ck_rg (by omega) (ck_t1 ?_)⟩⟩)⟩
  · subst e
    rw [List.length_cons, show (((S2.length + 1 : Nat) : Int) - 1) = (S2.length : Int) by omega, Int.toNat_natCast] at ne
    exact ne x3.1
  · cases S with
    | nil => exact absurd (by decide) z
    | cons s S2 =>
      have eq := Classical.byContradiction eq
      rw [List.length_cons, show (((S2.length + 1 : Nat) : Int) - 1) = (S2.length : Int) by omega, Int.toNat_natCast, x3.1] at eq
      have es : s = k := by omega
      rw [List.length_cons, show (((S2.length + 1 : Nat) : Int) - 1) = (S2.length : Int) by omega]
      exact c1 S2 _ (by rw [es]) (f1 _) (mk S2 x3.2 (by simp))
theorem c_pushSign49 {N : Nat} {C : aH → Prop} {K PL : Nat → Nat} {VL : Nat → Int} {t d : Nat} {E : List Int} {S : List Nat} {k : Nat} {g : aH} (X : CSQ K PL VL t g ∧ g 35 7 = (S.length : Int) ∧ stN (g 57) S ∧ g 35 8 = (d : Int) ∧ g 49 2 = (E.length : Int) ∧ stE (g 50) E ∧ S.length + E.length < t ∧ t ≤ 400) (hC : ∀ g', F5 [57] [7] g g' → CSQ K PL VL t g' ∧ g' 35 7 = ((k :: S).length : Int) ∧ stN (g' 57) (k :: S) ∧ g' 35 8 = (d : Int) ∧ g' 49 2 = (E.length : Int) ∧ stE (g' 50) E → C g') : WV N 59 0 [(0, .inr (.inr 35)), (1, .inl (k : Int))] g C := by
  obtain ⟨x1, x2, x3, x4, x5, x6, x7, x8⟩ := X
  have f1 : F5 [57] [7] g (am_up (am_up g 57 S.length (k : Int)) 35 7 ((S.length : Int) + 1)) := (F5.rfl.up (by decide) (by decide)).upM (by decide)
  refine w_59_0 ?_
  rw [x2, Int.toNat_natCast]
  refine ck_rg (by decide) ⟨fun z => by omega, fun _ => ck_ix (by omega) (ck_rg (by omega) (hC _ f1 ⟨x1.mv f1 (by decide) (by decide), ?_, ?_, ?_, ?_, ?_⟩))⟩
  · rw [up_same]; simp
  · rw [up_row (by decide), up_fun]
    exact ⟨if_pos rfl, stN_up (Nat.le_refl _) x3⟩
  · rw [f1.2 8 (by decide)]; exact x4
  · rw [f1.at 49 (by decide) (by decide)]; exact x5
  · rw [f1.at 50 (by decide) (by decide)]; exact x6
/-- how the class stands within a law -/
def LCS52 (K PL : Nat → Nat) (VL : Nat → Int) (t : Nat) (S : List Nat) (d : Nat) (E : List Int) (g : aH) : Prop := CSQ K PL VL t g ∧ g 35 7 = (S.length : Int) ∧ stN (g 57) S ∧ g 35 8 = (d : Int) ∧ g 52 2 = (E.length : Int) ∧ stE (g 53) E ∧ S.length + E.length < t ∧ t ≤ 400
theorem c_lput52 {N : Nat} {C : aH → Prop} {E : List Int} {z : Int} {g : aH} (e2 : g 52 2 = (E.length : Int)) (e3 : stE (g 53) E) (lt : E.length < 400) (hC : ∀ g', F5 [52, 53] [] g g' → g' 52 2 = ((E ++ [z]).length : Int) → stE (g' 53) (E ++ [z]) → (∀ j, j ≠ 2 → g' 52 j = g 52 j) → C g') : WV N 42 0 [(0, .inr (.inr 52)), (1, .inl z)] g C := by
  refine w_42_0_r52 ?_
  rw [e2]
  refine ⟨fun ge => by omega, fun _ => ck_ix (by omega) (ck_rg (by omega) (hC _ ((F5.rfl.up (by decide) (by decide)).up (by decide) (by decide)) ?_ ?_ (fun j hj => ?_)))⟩
  · rw [up_same]; simp
  · rw [up_row (by decide), Int.toNat_natCast, up_fun]
    exact stE_app e3
  · rw [up_ne hj, up_row (by decide)]
theorem c_putWaiting52 {N : Nat} {C : aH → Prop} {K PL : Nat → Nat} {VL : Nat → Int} {t d : Nat} {E : List Int} {S : List Nat} {lo : Nat} {x : Int} {g : aH} (X : LCS52 K PL VL t S d E g) (hl : (x = 0 ∧ lo = 21) ∨ (x ≠ 0 ∧ lo = 23)) (hC : ∀ g', F5 [52, 53] [7] g g' → LCS52 K PL VL t (popW lo S).1 d (E ++ (popW lo S).2) g' → C g') : WV N 62 0 [(0, .inr (.inr 35)), (1, .inr (.inr 52)), (2, .inl x)] g C := by
  have key : ∀ (S : List Nat) (E : List Int) (g1 : aH), F5 [52, 53] [7] g g1 → LCS52 K PL VL t S d E g1 → (∀ g', F5 [52, 53] [7] g g' → LCS52 K PL VL t (popW lo S).1 d (E ++ (popW lo S).2) g' → C g') → WV N 62 7 [(0, .inr (.inr 35)), (1, .inr (.inr 52)), (3, .inl (lo : Int))] g1 C := by
    intro S
    induction S with
    | nil =>
      intro E g1 f X hC
      refine w_62_7_r35_52 ?_
      rw [X.2.1]
      refine ⟨fun _ => hC g1 f ?_, fun z => absurd (by decide) z⟩
      rw [show popW lo [] = ([], []) from rfl, List.append_nil]
      exact X
    | cons s S ih =>
      intro E g1 f X hC
      obtain ⟨x1, x2, ⟨x3, x3'⟩, x4, x5, x6, x7, x8⟩ := X
      have ln : ((s :: S).length : Int) = (S.length : Int) + 1 := by simp
      refine w_62_7_r35_52 ?_
      rw [x2, ln, show ((S.length : Int) + 1 - 1) = (S.length : Int) by omega, Int.toNat_natCast, x3]
      rw [List.length_cons] at x7
      have stay : ¬ (lo ≤ s ∧ s ≤ 24) → C g1 := fun n => by
        refine hC g1 f ?_
        rw [popW_n n, List.append_nil]
        exact ⟨x1, x2, ⟨x3, x3'⟩, x4, x5, x6, by rw [List.length_cons]; omega, x8⟩
      refine ⟨fun z => by omega, fun _ => ck_rg (by omega) (ck_ix (by omega) ⟨fun l => stay (by omega), fun g2 => ck_rg (by omega) (ck_ix (by omega) ⟨fun l => stay (by omega), fun g3 => ck_rg (by omega) (ck_ix (by omega) (ck_rg (by omega) ?_))⟩)⟩)⟩
      have y : lo ≤ s ∧ s ≤ 24 := by omega
      rw [popW_y y] at hC
      have f1 : F5 [] [7] g1 (am_up g1 35 7 (S.length : Int)) := F5.rfl.upM (by decide)
      refine c_lput52 (E := E) (by rw [f1.at 52 (by decide) (by decide)]; exact x5) (by rw [f1.at 53 (by decide) (by decide)]; exact x6) (by omega) (fun g2 f2 l2 l3 l4 => ?_)
      have F2 : F5 [52, 53] [7] g g2 := f.trans ((f1.mono (by decide) (by decide)).trans (f2.mono (by decide) (by decide)))
      refine ih (E ++ [-(s : Int)]) g2 F2 ⟨(x1.mv f1 (by decide) (by decide)).mv f2 (by decide) (by decide), ?_, ?_, ?_, l2, l3, ?_, x8⟩ (fun g' f' X' => hC g' f' ?_)
      · rw [f2.2 7 (by decide), up_same]
      · rw [f2.at 57 (by decide) (by decide), f1.at 57 (by decide) (by decide)]; exact x3'
      · rw [f2.2 8 (by decide), f1.2 8 (by decide)]; exact x4
      · rw [List.length_append, List.length_singleton]; omega
      · rw [List.append_assoc] at X'
        exact X'
  rcases hl with ⟨a, b⟩ | ⟨a, b⟩
  · refine w_62_0_r35_52 ⟨fun _ => ?_, fun z => absurd a z⟩
    have := key S E g F5.rfl X hC
    rw [b] at this
    exact this
  · refine w_62_0_r35_52 ⟨fun z => absurd z a, fun _ => ?_⟩
    have := key S E g F5.rfl X hC
    rw [b] at this
    exact this
theorem c_closes52 {N : Nat} {C : Int → aH → Prop} {K PL : Nat → Nat} {VL : Nat → Int} {t d : Nat} {E : List Int} {S : List Nat} {k : Nat} {g : aH} (X : LCS52 K PL VL t S d E g) (c1 : ∀ S2 g', S = k :: S2 → F5 [] [7] g g' → LCS52 K PL VL t S2 d E g' → C 1 g') (c0 : (∀ S2, S ≠ k :: S2) → ∀ g', F5 [] [7] g g' → LCS52 K PL VL t S d E g' → C 0 g') : WI N 63 0 [(0, .inr (.inr 35)), (1, .inl (k : Int))] g C := by
  obtain ⟨x1, x2, x3, x4, x5, x6, x7, x8⟩ := X
  have mk : ∀ (S' : List Nat), (stN (g 57) S') → S'.length ≤ S.length → LCS52 K PL VL t S' d E (am_up g 35 7 (S'.length : Int)) := by
    intro S' s l
    have f1 : F5 [] [7] g (am_up g 35 7 (S'.length : Int)) := F5.rfl.upM (by decide)
    exact ⟨x1.mv f1 (by decide) (by decide), up_same _ _ _ _, by rw [f1.at 57 (by decide) (by decide)]; exact s, by rw [f1.2 8 (by decide)]; exact x4, by rw [f1.at 52 (by decide) (by decide)]; exact x5, by rw [f1.at 53 (by decide) (by decide)]; exact x6, by omega, x8⟩
  have f1 : ∀ v : Int, F5 [] [7] g (am_up g 35 7 v) := fun v => F5.rfl.upM (by decide)
  refine w_63_0 ?_
  rw [x2]
  have no : (∀ S2, S ≠ k :: S2) → ((0 : Int) = 0 → (am_rg (((S.length : Int)) - 0) ∧ (am_tf (0 : Int) ∧ C 0 (am_up g 35 7 (((S.length : Int)) - 0))))) ∧ (¬ ((0 : Int) = 0) → (am_rg (((S.length : Int)) - 1) ∧ (am_tf (0 : Int) ∧ C 0 (am_up g 35 7 (((S.length : Int)) - 1))))) := by
    intro n
    refine ⟨fun _ => ck_rg (by omega) (ck_t0 ?_), fun z => absurd rfl z⟩
    rw [Int.sub_zero]
    exact c0 n _ (f1 _) (mk S x3 (Nat.le_refl _))
  refine ⟨fun z => no (fun S2 e => by rw [e, List.length_cons] at z; omega), fun z => ck_rg (by omega) (ck_ix (by omega) ⟨fun ne => no (fun S2 e => ?_), fun eq => ⟨fun q => absurd q (by decide), fun _ => ck_rg (by omega) (ck_t1 ?_)⟩⟩)⟩
  · subst e
    rw [List.length_cons, show (((S2.length + 1 : Nat) : Int) - 1) = (S2.length : Int) by omega, Int.toNat_natCast] at ne
    exact ne x3.1
  · cases S with
    | nil => exact absurd (by decide) z
    | cons s S2 =>
      have eq := Classical.byContradiction eq
      rw [List.length_cons, show (((S2.length + 1 : Nat) : Int) - 1) = (S2.length : Int) by omega, Int.toNat_natCast, x3.1] at eq
      have es : s = k := by omega
      rw [List.length_cons, show (((S2.length + 1 : Nat) : Int) - 1) = (S2.length : Int) by omega]
      exact c1 S2 _ (by rw [es]) (f1 _) (mk S2 x3.2 (by simp))
theorem c_pushSign52 {N : Nat} {C : aH → Prop} {K PL : Nat → Nat} {VL : Nat → Int} {t d : Nat} {E : List Int} {S : List Nat} {k : Nat} {g : aH} (X : CSQ K PL VL t g ∧ g 35 7 = (S.length : Int) ∧ stN (g 57) S ∧ g 35 8 = (d : Int) ∧ g 52 2 = (E.length : Int) ∧ stE (g 53) E ∧ S.length + E.length < t ∧ t ≤ 400) (hC : ∀ g', F5 [57] [7] g g' → CSQ K PL VL t g' ∧ g' 35 7 = ((k :: S).length : Int) ∧ stN (g' 57) (k :: S) ∧ g' 35 8 = (d : Int) ∧ g' 52 2 = (E.length : Int) ∧ stE (g' 53) E → C g') : WV N 59 0 [(0, .inr (.inr 35)), (1, .inl (k : Int))] g C := by
  obtain ⟨x1, x2, x3, x4, x5, x6, x7, x8⟩ := X
  have f1 : F5 [57] [7] g (am_up (am_up g 57 S.length (k : Int)) 35 7 ((S.length : Int) + 1)) := (F5.rfl.up (by decide) (by decide)).upM (by decide)
  refine w_59_0 ?_
  rw [x2, Int.toNat_natCast]
  refine ck_rg (by decide) ⟨fun z => by omega, fun _ => ck_ix (by omega) (ck_rg (by omega) (hC _ f1 ⟨x1.mv f1 (by decide) (by decide), ?_, ?_, ?_, ?_, ?_⟩))⟩
  · rw [up_same]; simp
  · rw [up_row (by decide), up_fun]
    exact ⟨if_pos rfl, stN_up (Nat.le_refl _) x3⟩
  · rw [f1.2 8 (by decide)]; exact x4
  · rw [f1.at 52 (by decide) (by decide)]; exact x5
  · rw [f1.at 53 (by decide) (by decide)]; exact x6
