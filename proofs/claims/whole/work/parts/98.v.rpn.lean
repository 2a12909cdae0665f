/-! read: a law told never wants a value, and leaves one -/
theorem dpt_congr {f g : Nat → Int} : ∀ {n : Nat}, (∀ i, i < n → f i = g i) → dpt f n = dpt g n
  | 0, _ => rfl
  | n + 1, h => by
    unfold dpt
    rw [h n (Nat.lt_succ_self n), dpt_congr (fun i hi => h i (by omega))]
/-- a step as it may be -/
def OKZ (z : Int) : Prop := (-7 ≤ z ∧ z ≤ 9999) ∨ z = -21 ∨ z = -22 ∨ z = -23 ∨ z = -24 ∨ z = -25 ∨ z = -30
def gE (E : List Int) (i : Nat) : Int := E.getD i 0
def DP (E : List Int) : Nat := dpt (gE E) E.length
def RP (E : List Int) : Prop := (∀ i, i < E.length → ¬ (-7 ≤ gE E i) → 2 ≤ dpt (gE E) i) ∧ ∀ z ∈ E, OKZ z
theorem gE_lt {E F : List Int} {i : Nat} (h : i < E.length) : gE (E ++ F) i = gE E i := by
  unfold gE
  rw [List.getD_eq_getElem?_getD, List.getElem?_append_left h, ← List.getD_eq_getElem?_getD]
theorem gE_at {E : List Int} {z : Int} : gE (E ++ [z]) E.length = z := by
  unfold gE
  rw [List.getD_eq_getElem?_getD, List.getElem?_concat_length]; rfl
theorem RP.app {E : List Int} {z : Int} (R : RP E) (ok : OKZ z) (h : -7 ≤ z ∨ 2 ≤ DP E) : RP (E ++ [z]) ∧ DP (E ++ [z]) = if -7 ≤ z then DP E + 1 else DP E - 1 := by
  have pre : ∀ n, n ≤ E.length → dpt (gE (E ++ [z])) n = dpt (gE E) n := fun n hn => dpt_congr (fun i hi => gE_lt (by omega))
  refine ⟨⟨fun i hi nz => ?_, fun y hy => ?_⟩, ?_⟩
  · rw [List.length_append, List.length_singleton] at hi
    rw [pre i (by omega)]
    rcases Nat.lt_or_ge i E.length with lt | ge
    · rw [gE_lt lt] at nz
      exact R.1 i lt nz
    · have : i = E.length := by omega
      subst this
      rw [gE_at] at nz
      rcases h with h | h
      · exact absurd h nz
      · exact h
  · rcases List.mem_append.mp hy with y1 | y1
    · exact R.2 y y1
    · rw [List.mem_singleton.mp y1]; exact ok
  · unfold DP
    rw [List.length_append, List.length_singleton]
    show (if -7 ≤ gE (E ++ [z]) E.length then dpt (gE (E ++ [z])) E.length + 1 else dpt (gE (E ++ [z])) E.length - 1) = _
    rw [gE_at, pre _ (Nat.le_refl _)]
/-- signs of two sides that wait -/
def bop (s : Nat) : Prop := (21 ≤ s ∧ s ≤ 25) ∨ s = 30
def cB : List Nat → Nat
  | [] => 0
  | s :: S => if (21 ≤ s ∧ s ≤ 25) ∨ s = 30 then cB S + 1 else cB S
theorem cB_y {s : Nat} {S : List Nat} (h : (21 ≤ s ∧ s ≤ 25) ∨ s = 30) : cB (s :: S) = cB S + 1 := if_pos h
theorem cB_n {s : Nat} {S : List Nat} (h : ¬ ((21 ≤ s ∧ s ≤ 25) ∨ s = 30)) : cB (s :: S) = cB S := if_neg h
theorem pop_good {lo : Nat} (hl : 21 ≤ lo) : ∀ (S : List Nat) (E : List Int), RP E → DP E = 1 + cB S → RP (E ++ (popW lo S).2) ∧ DP (E ++ (popW lo S).2) = 1 + cB (popW lo S).1
  | [], E, R, d => by
    show RP (E ++ []) ∧ DP (E ++ []) = _
    rw [List.append_nil]; exact ⟨R, d⟩
  | s :: S, E, R, d => by
    by_cases c : lo ≤ s ∧ s ≤ 24
    · rw [popW_y c]
      rw [cB_y (by omega)] at d
      obtain ⟨R1, d1⟩ := R.app (z := -(s : Int)) (by unfold OKZ; omega) (Or.inr (by omega))
      rw [if_neg (by omega)] at d1
      have := pop_good hl S (E ++ [-(s : Int)]) R1 (by omega)
      rw [List.append_assoc] at this
      exact this
    · rw [popW_n c]
      show RP (E ++ []) ∧ DP (E ++ []) = _
      rw [List.append_nil]; exact ⟨R, d⟩
/-- what holds from TOKEN to TOKEN -/
def GD (u : Bool) (S : List Nat) (E : List Int) : Prop := RP E ∧ DP E = (if u = true then 0 else 1) + cB S
theorem LTK_good {u : Bool} {k d : Nat} {v : Int} {S : List Nat} {E : List Int} (hv : k = 19 → 0 ≤ v ∧ v < 10000) (G : GD u S E) : ((LTK u k v S d E).1 = 0 → GD (LTK u k v S d E).2.1 (LTK u k v S d E).2.2.1 (LTK u k v S d E).2.2.2.2) ∧ ((LTK u k v S d E).1 = 3 → RP (LTK u k v S d E).2.2.2.2 ∧ DP (LTK u k v S d E).2.2.2.2 = 1) := by
  obtain ⟨R, dd⟩ := G
  unfold LTK
  by_cases hu : u = true
  · rw [if_pos hu] at dd ⊢
    by_cases c1 : k = 26 ∨ k = 28
    · rw [if_pos c1]
      by_cases c2 : 6 ≤ d
      · rw [if_pos c2]
        exact ⟨fun z => (by cases z), fun z => (by cases z)⟩
      · rw [if_neg c2]
        refine ⟨fun _ => ⟨R, ?_⟩, fun z => by cases z⟩
        show DP E = 0 + cB (k :: S)
        rw [cB_n (by omega)]; exact dd
    · rw [if_neg c1]
      by_cases c2 : k = 19
      · rw [if_pos c2]
        have := hv c2
        obtain ⟨R1, d1⟩ := R.app (z := v) (by unfold OKZ; omega) (Or.inl (by omega))
        rw [if_pos (by omega)] at d1
        refine ⟨fun _ => ⟨R1, ?_⟩, fun z => by cases z⟩
        show DP (E ++ [v]) = 1 + cB S
        omega
      · rw [if_neg c2]
        by_cases c3 : k ≤ 6
        · rw [if_pos c3]
          obtain ⟨R1, d1⟩ := R.app (z := -1 - (k : Int)) (by unfold OKZ; omega) (Or.inl (by omega))
          rw [if_pos (by omega)] at d1
          refine ⟨fun _ => ⟨R1, ?_⟩, fun z => by cases z⟩
          show DP (E ++ [-1 - (k : Int)]) = 1 + cB S
          omega
        · rw [if_neg c3]
          exact ⟨fun z => (by cases z), fun z => (by cases z)⟩
  · rw [if_neg hu] at dd ⊢
    obtain ⟨P1, P2⟩ := pop_good (lo := 21) (by decide) S E R dd
    by_cases c1 : (21 ≤ k ∧ k ≤ 25) ∨ k = 30
    · rw [if_pos c1]
      by_cases c2 : k = 25 ∨ k = 30
      · rw [if_pos c2]
        cases hs : (popW 21 S).1 with
        | nil => exact ⟨fun z => (by cases z), fun z => (by cases z)⟩
        | cons s S2 =>
          by_cases c3 : s = 28
          · rw [LTt_y c3]
            rw [hs, cB_n (by omega)] at P2
            refine ⟨fun _ => ⟨P1, ?_⟩, fun z => by cases z⟩
            show DP (E ++ (popW 21 S).2) = 0 + cB (k :: S2)
            rw [cB_y c1]; omega
          · rw [LTt_n c3]
            exact ⟨fun z => (by cases z), fun z => (by cases z)⟩
      · rw [if_neg c2]
        obtain ⟨P1, P2⟩ := pop_good (lo := if k = 23 ∨ k = 24 then 23 else 21) (by split <;> decide) S E R dd
        refine ⟨fun _ => ⟨P1, ?_⟩, fun z => by cases z⟩
        show DP (E ++ (popW (if k = 23 ∨ k = 24 then 23 else 21) S).2) = 0 + cB (k :: (popW (if k = 23 ∨ k = 24 then 23 else 21) S).1)
        rw [cB_y c1]; omega
    · rw [if_neg c1]
      cases hs : (popW 21 S).1 with
      | nil =>
        by_cases c3 : k = 20
        · rw [LTc_0 c3]
          rw [hs] at P2
          exact ⟨fun z => (by cases z), fun _ => ⟨P1, P2⟩⟩
        · rw [LTc_n0 c3]
          exact ⟨fun z => (by cases z), fun z => (by cases z)⟩
      | cons s S2 =>
        rw [hs] at P2
        by_cases c3 : k = 27 ∧ s = 26
        · rw [LTc_1 c3]
          rw [cB_n (by omega)] at P2
          exact ⟨fun _ => ⟨P1, P2⟩, fun z => by cases z⟩
        · by_cases c4 : k = 29 ∧ (s = 25 ∨ s = 30)
          · rw [LTc_2 c3 c4]
            rw [cB_y (by omega)] at P2
            obtain ⟨R1, d1⟩ := P1.app (z := -(s : Int)) (by unfold OKZ; omega) (Or.inr (by omega))
            rw [if_neg (by omega)] at d1
            refine ⟨fun _ => ⟨R1, ?_⟩, fun z => by cases z⟩
            show DP (E ++ (popW 21 S).2 ++ [-(s : Int)]) = 1 + cB S2
            omega
          · rw [LTc_n c3 c4]
            exact ⟨fun z => (by cases z), fun z => (by cases z)⟩
theorem LTt_rg {k : Nat} {S : List Nat} {d : Nat} {E e : List Int} : ∀ L, (LTt k S d E e L).1 ≤ 3
  | [] => by show 1 ≤ 3; decide
  | s :: S2 => by
    by_cases c : s = 28
    · rw [LTt_y c]; exact Nat.zero_le _
    · rw [LTt_n c]; exact (show 1 ≤ 3 by decide)
theorem LTc_rg {k : Nat} {S : List Nat} {d : Nat} {E e : List Int} : ∀ L, (LTc k S d E e L).1 ≤ 3
  | [] => by
    by_cases c : k = 20
    · rw [LTc_0 c]; exact Nat.le_refl _
    · rw [LTc_n0 c]; exact (show 1 ≤ 3 by decide)
  | s :: S2 => by
    by_cases c3 : k = 27 ∧ s = 26
    · rw [LTc_1 c3]; exact Nat.zero_le _
    · by_cases c4 : k = 29 ∧ (s = 25 ∨ s = 30)
      · rw [LTc_2 c3 c4]; exact Nat.zero_le _
      · rw [LTc_n c3 c4]; exact (show 1 ≤ 3 by decide)
theorem LTK_rg {u : Bool} {k d : Nat} {v : Int} {S : List Nat} {E : List Int} : (LTK u k v S d E).1 ≤ 3 := by
  unfold LTK
  split
  · split
    · split
      · exact (show 2 ≤ 3 by decide)
      · exact Nat.zero_le _
    · split
      · exact Nat.zero_le _
      · split
        · exact Nat.zero_le _
        · exact (show 1 ≤ 3 by decide)
  · split
    · split
      · exact LTt_rg _
      · exact Nat.zero_le _
    · exact LTc_rg _
theorem LR_good {K : Nat → Nat} {VL : Nat → Int} (hv : ∀ j, K j = 19 → 0 ≤ VL j ∧ VL j < 10000) : ∀ (m : Nat) (u : Bool) (t : Nat) (S : List Nat) (d : Nat) (E E' : List Int) (t' : Nat), GD u S E → S.length + E.length ≤ t → LR K VL m u t S d E = .inr (E', t') → RP E' ∧ DP E' = 1 ∧ E'.length ≤ t' ∧ t' ≤ 400
  | 0, u, t, S, d, E, E', t', _, _, h => by cases h
  | m + 1, u, t, S, d, E, E', t', G, l, h => by
    obtain ⟨g0, g3⟩ := LTK_good (u := u) (k := K t) (d := d) (v := VL t) (S := S) (E := E) (hv t) G
    have lk := (LTK_k (u := u) (k := K t) (d := d) (v := VL t) (S := S) (E := E)).2.2
    unfold LR at h
    split at h
    · cases h
    · split at h
      · cases h
      · split at h
        · rename_i h3
          injection h with h
          injection h with h1 h2
          obtain ⟨a, b⟩ := g3 h3
          have := lk (Or.inr h3)
          rw [h1] at a b this
          exact ⟨a, b, by omega, by omega⟩
        · rename_i n12 lt n3
          have z0 : (LTK u (K t) (VL t) S d E).1 = 0 := by
            have := LTK_rg (u := u) (k := K t) (d := d) (v := VL t) (S := S) (E := E)
            omega
          have := lk (Or.inl z0)
          exact LR_good hv m _ _ _ _ _ _ _ (g0 z0) (by omega) h
theorem FLW_good {K : Nat → Nat} {VL : Nat → Int} (hv : ∀ j, K j = 19 → 0 ≤ VL j ∧ VL j < 10000) {t t' : Nat} {E' : List Int} (h : FLW49 K VL t = .inr (E', t')) : RP E' ∧ DP E' = 1 ∧ E'.length ≤ t' ∧ t' ≤ 400 := by
  unfold FLW49 at h
  split at h
  · cases h
  · refine LR_good hv 401 true (t + 1) [] 0 [] E' t' ⟨⟨fun i hi => absurd hi (Nat.not_lt_zero i), by simp⟩, rfl⟩ (Nat.zero_le _) h
/-- the steps as a row -/
theorem RP.law {E : List Int} (R : RP E) (d : DP E = 1) (l : E.length ≤ 400) {steps : Nat → Int} (h : stE steps E) : okLaw steps (E.length : Int) ∧ okRpn steps (E.length : Int) := by
  have e : ∀ i, i < E.length → steps i = gE E i := fun i hi => h i hi
  refine ⟨⟨by omega, by omega, fun i hi => ?_⟩, fun i hi nz => ?_, ?_⟩
  · rw [e i (by omega)]
    have hm : gE E i ∈ E := by
      unfold gE
      rw [List.getD_eq_getElem?_getD, List.getElem?_eq_getElem (show i < E.length by omega)]
      exact List.getElem_mem _
    exact R.2 _ hm
  · rw [e i (by omega)] at nz
    rw [dpt_congr (g := gE E) (fun j hj => e j (by omega))]
    exact R.1 i (by omega) nz
  · rw [Int.toNat_natCast, dpt_congr (g := gE E) (fun j hj => e j hj)]
    show 1 ≤ DP E
    omega
