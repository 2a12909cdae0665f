/-! SHAKES: one turn of seating -/
def SEA (h : aH) (c row t : Nat) (L : Nat → Nat) (U V SL A F : Nat → Int) : Prop :=
  ((∀ r s, 1 ≤ r → (r < row ∨ r = row ∧ 1 ≤ t) → 1 ≤ s → s ≤ NS h c → U r + V s ≤ PP h c r s) ∧
  (∀ s, 1 ≤ s → s ≤ NS h c → A s = 0 ∨ ∃ r : Nat, A s = (r : Int) ∧ 1 ≤ r ∧ r < row ∧ U r + V s = PP h c r s) ∧
  (∀ s s', 1 ≤ s → s ≤ NS h c → 1 ≤ s' → s' ≤ NS h c → A s ≠ 0 → A s = A s' → s = s') ∧
  (∀ r, 1 ≤ r → r < row → ∃ s, 1 ≤ s ∧ s ≤ NS h c ∧ A s = (r : Int)) ∧
  (∀ s, 1 ≤ s → s ≤ NS h c → V s ≤ 0 ∧ (A s = 0 → V s = 0)) ∧
  (∀ r, r ≤ 8 → r = 0 ∨ row < r ∨ (r = row ∧ t = 0) → U r = 0)) ∧
  (A 0 = (row : Int) ∧ L 0 = 0 ∧ (∀ i, 1 ≤ i → i ≤ t → 1 ≤ L i ∧ L i ≤ NS h c) ∧ ∀ i j, i ≤ t → j ≤ t → L i = L j → i = j) ∧
  (∀ i, i < t → ∃ r : Nat, A (L i) = (r : Int) ∧ 1 ≤ r ∧ r ≤ row) ∧
  (1 ≤ t → ∀ j, 1 ≤ j → j ≤ NS h c → (∀ i, i < t → L i ≠ j) → (∃ a, a < t ∧ F j = (L a : Int) ∧ ∃ r : Nat, A (L a) = (r : Int) ∧ SL j = PP h c r j - U r - V j) ∧ ∀ a, a < t → ∀ r : Nat, A (L a) = (r : Int) → SL j ≤ PP h c r j - U r - V j) ∧
  ∀ i, 1 ≤ i → i ≤ t → ∃ a, a < i ∧ F (L i) = (L a : Int) ∧ ∃ r : Nat, A (L a) = (r : Int) ∧ PP h c r (L i) = U r + V (L i)
theorem SEA.turn {h : aH} {c row t ρ nx : Nat} {L L' : Nat → Nat} {U V SL A F U' V' SL1 SL' F1 : Nat → Int} {v : Int} (S : SEA h c row t L U V SL A F) (hρ : A (L t) = (ρ : Int)) (ρ1 : 1 ≤ ρ ∧ ρ ≤ row)
    (hS : ∀ j, 1 ≤ j → j ≤ NS h c → (∀ i, i ≤ t → L i ≠ j) → SL1 j = min (SL j) (PP h c ρ j - U ρ - V j) ∧ F1 j = if PP h c ρ j - U ρ - V j < SL j then (L t : Int) else F j)
    (hF : ∀ i, 1 ≤ i → i ≤ t → F1 (L i) = F (L i)) (big : t = 0 → ∀ j, 1 ≤ j → j ≤ NS h c → PP h c ρ j - U ρ - V j < SL j)
    (hn : 1 ≤ nx ∧ nx ≤ NS h c ∧ (∀ i, i ≤ t → L i ≠ nx) ∧ ∀ j, 1 ≤ j → j ≤ NS h c → (∀ i, i ≤ t → L i ≠ j) → SL1 nx ≤ SL1 j) (hv : v = SL1 nx)
    (hV1 : ∀ i, i ≤ t → V' (L i) = V (L i) - v) (hV0 : ∀ j, (∀ i, i ≤ t → L i ≠ j) → V' j = V j) (hS2 : ∀ j, 1 ≤ j → j ≤ NS h c → (∀ i, i ≤ t → L i ≠ j) → SL' j = SL1 j - v)
    (hU1 : ∀ i, i ≤ t → ∀ r : Nat, A (L i) = (r : Int) → U' r = U r + v) (hU0 : ∀ r : Nat, (∀ i, i ≤ t → A (L i) ≠ (r : Int)) → U' r = U r)
    (hL : ∀ i, i ≤ t → L' i = L i) (hL1 : L' (t + 1) = nx) : SEA h c row (t + 1) L' U' V' SL' A F1 := by
  obtain ⟨⟨s1, s2, s3, s4, s5, s6⟩, ⟨s7, s8, s9, s10⟩, s11, s12, s13⟩ := S
  obtain ⟨n1, n2, n3, n4⟩ := hn
  have vpos : 1 ≤ t → 0 ≤ v := by
    intro ht
    obtain ⟨q1, -⟩ := hS nx n1 n2 n3
    obtain ⟨⟨a, a1, a2, r, r1, r2⟩, -⟩ := s12 ht nx n1 n2 (fun i hi => n3 i (by omega))
    obtain ⟨r', r1', r2', r3'⟩ := s11 a a1
    have er : r = r' := by rw [r1] at r1'; omega
    have o1 := s1 r nx (by omega) (by omega) n1 n2
    have o2 := s1 ρ nx ρ1.1 (by omega) n1 n2
    rw [hv, q1]
    omega
  have le1 : ∀ j, 1 ≤ j → j ≤ NS h c → (∀ i, i ≤ t → L i ≠ j) → ∀ i, i ≤ t → ∀ r : Nat, A (L i) = (r : Int) → SL1 j ≤ PP h c r j - U r - V j := by
    intro j j1 j2 un i hi r hr
    obtain ⟨q1, -⟩ := hS j j1 j2 un
    by_cases e : i = t
    · rw [e, hρ] at hr
      have : ρ = r := by omega
      subst this
      rw [q1]; omega
    · have := (s12 (by omega) j j1 j2 (fun i hi => un i (by omega))).2 i (by omega) r hr
      rw [q1]; omega
  have tpos : ∀ i s, i ≤ t → 1 ≤ s → L i = s → 1 ≤ t := by
    intro i s hi hs e
    rcases Nat.eq_zero_or_pos i with z | z
    · rw [z, s8] at e; omega
    · omega
  refine ⟨⟨fun r s hr1 hr s1' s2' => ?_, fun s a b => ?_, s3, s4, fun s a b => ?_, fun r r8 o => ?_⟩, ⟨s7, by rw [hL 0 (Nat.zero_le t)]; exact s8, fun i i1 i2 => ?_, fun i j hi hj e => ?_⟩, fun i hi => ?_, fun _ j j1 j2 un => ?_, fun i i1 i2 => ?_⟩
  · by_cases dr : ∃ i, i ≤ t ∧ A (L i) = (r : Int)
    · obtain ⟨i, hi, ei⟩ := dr
      rw [hU1 i hi r ei]
      by_cases ds : ∃ j, j ≤ t ∧ L j = s
      · obtain ⟨j, hj, ej⟩ := ds
        have tp := tpos j s hj s1' ej
        have o := s1 r s hr1 (by omega) s1' s2'
        have w := hV1 j hj
        rw [ej] at w
        rw [w]
        omega
      · have un : ∀ j, j ≤ t → L j ≠ s := fun j hj e => ds ⟨j, hj, e⟩
        have o := le1 s s1' s2' un i hi r ei
        have m := n4 s s1' s2' un
        rw [hV0 s un]
        clear ds
        omega
    · have nd : ∀ i, i ≤ t → A (L i) ≠ (r : Int) := fun i hi e => dr ⟨i, hi, e⟩
      have ne : r ≠ row := fun e => nd 0 (Nat.zero_le t) (by rw [s8, s7, e])
      have o := s1 r s hr1 (Or.inl (by clear dr; omega)) s1' s2'
      rw [hU0 r nd]
      by_cases ds : ∃ j, j ≤ t ∧ L j = s
      · obtain ⟨j, hj, ej⟩ := ds
        have vp := vpos (tpos j s hj s1' ej)
        have w := hV1 j hj
        rw [ej] at w
        rw [w]
        clear dr
        omega
      · rw [hV0 s (fun j hj e => ds ⟨j, hj, e⟩)]
        exact o
  · rcases s2 s a b with z | ⟨r, r1, r2, r3, r4⟩
    · exact Or.inl z
    · refine Or.inr ⟨r, r1, r2, r3, ?_⟩
      by_cases ds : ∃ j, j ≤ t ∧ L j = s
      · obtain ⟨j, hj, ej⟩ := ds
        have w := hV1 j hj
        rw [ej] at w
        rw [w, hU1 j hj r (by rw [ej]; exact r1)]
        omega
      · have un : ∀ j, j ≤ t → L j ≠ s := fun j hj e => ds ⟨j, hj, e⟩
        rw [hV0 s un, hU0 r (fun i hi e => ?_)]
        · exact r4
        · rcases Nat.eq_zero_or_pos i with z | z
          · rw [z, s8, s7] at e
            clear ds
            omega
          · have k := s9 i z hi
            exact un i hi (s3 (L i) s k.1 k.2 a b (by rw [e]; clear ds; omega) (by rw [e, r1]))
  · by_cases ds : ∃ j, j ≤ t ∧ L j = s
    · obtain ⟨j, hj, ej⟩ := ds
      have vp := vpos (tpos j s hj a ej)
      have w := hV1 j hj
      rw [ej] at w
      have o := s5 s a b
      refine ⟨by rw [w]; omega, fun z => ?_⟩
      exfalso
      rw [← ej] at z
      by_cases e : j = t
      · rw [e, hρ] at z; omega
      · obtain ⟨r, r1, r2, r3⟩ := s11 j (by omega)
        rw [r1] at z; omega
    · rw [hV0 s (fun j hj e => ds ⟨j, hj, e⟩)]
      exact s5 s a b
  · rw [hU0 r (fun i hi e => ?_)]
    · exact s6 r r8 (by omega)
    · by_cases z : i = t
      · rw [z, hρ] at e; omega
      · obtain ⟨r', r1, r2, r3⟩ := s11 i (by omega)
        rw [r1] at e; omega
  · by_cases z : i = t + 1
    · rw [z, hL1]; exact ⟨n1, n2⟩
    · rw [hL i (by omega)]; exact s9 i i1 (by omega)
  · by_cases z : i = t + 1 <;> by_cases y : j = t + 1
    · omega
    · rw [z, hL1, hL j (by omega)] at e; exact absurd e.symm (n3 j (by omega))
    · rw [y, hL1, hL i (by omega)] at e; exact absurd e (n3 i (by omega))
    · rw [hL i (by omega), hL j (by omega)] at e; exact s10 i j (by omega) (by omega) e
  · rw [hL i (by omega)]
    by_cases z : i = t
    · exact ⟨ρ, by rw [z]; exact hρ, ρ1⟩
    · exact s11 i (by omega)
  · have un : ∀ i, i ≤ t → L i ≠ j := fun i hi => by have := un i (by omega); rw [hL i hi] at this; exact this
    obtain ⟨q1, q2⟩ := hS j j1 j2 un
    have q3 := hS2 j j1 j2 un
    have q4 := hV0 j un
    refine ⟨?_, fun a ha r hr => ?_⟩
    · by_cases lt : PP h c ρ j - U ρ - V j < SL j
      · rw [if_pos lt] at q2
        have u := hU1 t (Nat.le_refl t) ρ hρ
        exact ⟨t, Nat.lt_succ_self t, by rw [q2, hL t (Nat.le_refl t)], ρ, by rw [hL t (Nat.le_refl t)]; exact hρ, by rw [q3, q1, q4, u]; omega⟩
      · rw [if_neg lt] at q2
        have tp : 1 ≤ t := by
          rcases Nat.eq_zero_or_pos t with z | z
          · exact absurd (big z j j1 j2) lt
          · exact z
        obtain ⟨⟨a, a1, a2, r, r1, r2⟩, -⟩ := s12 tp j j1 j2 (fun i hi => un i (by omega))
        have u := hU1 a (by omega) r r1
        exact ⟨a, by omega, by rw [q2, hL a (by omega)]; exact a2, r, by rw [hL a (by omega)]; exact r1, by rw [q3, q1, q4, u]; omega⟩
    · rw [hL a (by omega)] at hr
      have o := le1 j j1 j2 un a (by omega) r hr
      rw [q3, q4, hU1 a (by omega) r hr]
      omega
  · by_cases z : i = t + 1
    · subst z
      obtain ⟨q1, q2⟩ := hS nx n1 n2 n3
      have q4 := hV0 nx n3
      rw [hL1, q4]
      by_cases lt : PP h c ρ nx - U ρ - V nx < SL nx
      · rw [if_pos lt] at q2
        have u := hU1 t (Nat.le_refl t) ρ hρ
        exact ⟨t, Nat.lt_succ_self t, by rw [q2, hL t (Nat.le_refl t)], ρ, by rw [hL t (Nat.le_refl t)]; exact hρ, by rw [u, hv, q1]; omega⟩
      · rw [if_neg lt] at q2
        have tp : 1 ≤ t := by
          rcases Nat.eq_zero_or_pos t with z | z
          · exact absurd (big z nx n1 n2) lt
          · exact z
        obtain ⟨⟨a, a1, a2, r, r1, r2⟩, -⟩ := s12 tp nx n1 n2 (fun i hi => n3 i (by omega))
        have u := hU1 a (by omega) r r1
        exact ⟨a, by omega, by rw [q2, hL a (by omega)]; exact a2, r, by rw [hL a (by omega)]; exact r1, by rw [u, hv, q1]; omega⟩
    · obtain ⟨a, a1, a2, r, r1, r2⟩ := s13 i i1 (by omega)
      rw [hL i (by omega)]
      have u := hU1 a (by omega) r r1
      have w := hV1 i (by omega)
      exact ⟨a, a1, by rw [hF i i1 (by omega), hL a (by omega)]; exact a2, r, by rw [hL a (by omega)]; exact r1, by rw [u, w]; omega⟩
