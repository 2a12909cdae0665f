/-! SHAKES: the walk back -/
def HOL (h : aH) (c row : Nat) (L : Nat → Nat) (U V A : Nat → Int) (i : Nat) (B : Nat → Int) : Prop :=
  (∀ a, a < i → B (L a) = A (L a)) ∧
  (∀ s, s ≤ NS h c → s ≠ L i → B s = 0 ∨ ∃ r : Nat, B s = (r : Int) ∧ 1 ≤ r ∧ r ≤ row ∧ (1 ≤ s → U r + V s = PP h c r s)) ∧
  (∀ s s', s ≤ NS h c → s' ≤ NS h c → s ≠ L i → s' ≠ L i → B s ≠ 0 → B s = B s' → s = s') ∧
  (∀ r, 1 ≤ r → r ≤ row → ∃ s, s ≤ NS h c ∧ s ≠ L i ∧ B s = (r : Int)) ∧
  ∀ s, 1 ≤ s → s ≤ NS h c → s ≠ L i → B s = 0 → V s = 0
theorem HOL.start {h : aH} {c row t : Nat} {L : Nat → Nat} {U V SL A F : Nat → Int} (S : SEA h c row t L U V SL A F) (t1 : 1 ≤ t) (z : A (L t) = 0) (r1 : 1 ≤ row) : HOL h c row L U V A t A := by
  obtain ⟨⟨s1, s2, s3, s4, s5, s6⟩, ⟨s7, s8, s9, s10⟩, s11, s12, s13⟩ := S
  have lt := s9 t t1 (Nat.le_refl t)
  have small : ∀ s, 1 ≤ s → s ≤ NS h c → A s ≠ (row : Int) := by
    intro s a b e
    rcases s2 s a b with y | ⟨r, q1, q2, q3, q4⟩
    · rw [y] at e; omega
    · rw [q1] at e; omega
  refine ⟨fun a _ => rfl, fun s a ne => ?_, fun s s' a a' ne ne' nz e => ?_, fun r a b => ?_, fun s a b _ y => (s5 s a b).2 y⟩
  · rcases Nat.eq_zero_or_pos s with y | y
    · rw [y]; exact Or.inr ⟨row, s7, r1, Nat.le_refl _, fun w => by omega⟩
    · rcases s2 s y a with w | ⟨r, q1, q2, q3, q4⟩
      · exact Or.inl w
      · exact Or.inr ⟨r, q1, q2, by omega, fun _ => q4⟩
  · rcases Nat.eq_zero_or_pos s with y | y <;> rcases Nat.eq_zero_or_pos s' with y' | y'
    · omega
    · rw [y, s7] at e; exact absurd e.symm (small s' y' a')
    · rw [y', s7] at e; exact absurd e (small s y a)
    · exact s3 s s' y a y' a' nz e
  · by_cases e : r = row
    · exact ⟨0, Nat.zero_le _, by omega, by rw [s7, e]⟩
    · obtain ⟨s, q1, q2, q3⟩ := s4 r a (by omega)
      exact ⟨s, q2, fun y => by rw [y, z] at q3; omega, q3⟩
theorem HOL.step {h : aH} {c row t i : Nat} {L : Nat → Nat} {U V SL A F B : Nat → Int} (S : SEA h c row t L U V SL A F) (H : HOL h c row L U V A i B) (i1 : 1 ≤ i) (it : i ≤ t) : ∃ a, a < i ∧ F (L i) = (L a : Int) ∧ HOL h c row L U V A a (fun s => if s = L i then B (L a) else B s) := by
  obtain ⟨-, ⟨s7, s8, s9, s10⟩, s11, s12, s13⟩ := S
  obtain ⟨h1, h2, h3, h4, h5⟩ := H
  obtain ⟨a, a1, a2, r, r1, r2⟩ := s13 i i1 it
  obtain ⟨r', q1, q2, q3⟩ := s11 a (by omega)
  have er : r = r' := by rw [r1] at q1; omega
  subst er
  have ba : B (L a) = (r : Int) := by rw [h1 a a1]; exact r1
  have ne : ∀ k, k < i → L k ≠ L i := fun k hk e => by have := s10 k i (by omega) it e; omega
  have la : L a ≤ NS h c := by
    rcases Nat.eq_zero_or_pos a with y | y
    · rw [y, s8]; exact Nat.zero_le _
    · exact (s9 a y (by omega)).2
  have li := s9 i i1 it
  refine ⟨a, a1, a2, fun k hk => ?_, fun s b e => ?_, fun s s' b b' e e' nz z => ?_, fun x x1 x2 => ?_, fun s b b2 e z => ?_⟩
  · show (if L k = L i then B (L a) else B (L k)) = _
    rw [if_neg (ne k (by omega))]
    exact h1 k (by omega)
  · show (if s = L i then B (L a) else B s) = 0 ∨ ∃ r : Nat, (if s = L i then B (L a) else B s) = (r : Int) ∧ _
    by_cases y : s = L i
    · rw [if_pos y, ba]
      exact Or.inr ⟨r, rfl, q2, q3, fun _ => by rw [y]; exact r2.symm⟩
    · rw [if_neg y]; exact h2 s b y
  · have z : (if s = L i then B (L a) else B s) = (if s' = L i then B (L a) else B s') := z
    have nz : (if s = L i then B (L a) else B s) ≠ 0 := nz
    by_cases y : s = L i <;> by_cases y' : s' = L i
    · rw [y, y']
    · rw [if_pos y, if_neg y'] at z
      exact absurd (h3 (L a) s' la b' (ne a a1) y' (by rw [ba]; omega) z).symm e'
    · rw [if_neg y, if_pos y'] at z
      rw [if_neg y] at nz
      exact absurd (h3 s (L a) b la y (ne a a1) nz z) e
    · rw [if_neg y, if_neg y'] at z
      rw [if_neg y] at nz
      exact h3 s s' b b' y y' nz z
  · obtain ⟨s, b, e, z⟩ := h4 x x1 x2
    by_cases y : s = L a
    · refine ⟨L i, li.2, fun w => ne a a1 w.symm, ?_⟩
      show (if L i = L i then B (L a) else B (L i)) = _
      rw [if_pos rfl, ← y]; exact z
    · refine ⟨s, b, y, ?_⟩
      show (if s = L i then B (L a) else B s) = _
      rw [if_neg e]; exact z
  · have z : (if s = L i then B (L a) else B s) = 0 := z
    by_cases y : s = L i
    · rw [if_pos y, ba] at z; omega
    · rw [if_neg y] at z
      exact h5 s b b2 y z
theorem HOL.fin {h : aH} {c row t : Nat} {L : Nat → Nat} {U V SL A F B : Nat → Int} (S : SEA h c row t L U V SL A F) (H : HOL h c row L U V A 0 B) (t1 : 1 ≤ t) : HUN h c (row + 1) U V B := by
  obtain ⟨⟨s1, s2, s3, s4, s5, s6⟩, ⟨s7, s8, s9, s10⟩, s11, s12, s13⟩ := S
  obtain ⟨h1, h2, h3, h4, h5⟩ := H
  rw [s8] at h2 h3 h4 h5
  refine ⟨fun r s a b d e => s1 r s a (by omega) d e, fun s a b => ?_, fun s s' a b a' b' nz z => h3 s s' b b' (by omega) (by omega) nz z, fun r a b => ?_, fun s a b => ⟨(s5 s a b).1, fun z => h5 s a b (by omega) z⟩, fun r r8 o => s6 r r8 (by omega)⟩
  · rcases h2 s b (by omega) with z | ⟨r, q1, q2, q3, q4⟩
    · exact Or.inl z
    · exact Or.inr ⟨r, q1, q2, by omega, q4 a⟩
  · obtain ⟨s, q1, q2, q3⟩ := h4 r a (by omega)
    exact ⟨s, by omega, q1, q3⟩
theorem SEA.first {h : aH} {c row : Nat} {U V SL A F : Nat → Int} (H : HUN h c row U V A) (a0 : A 0 = (row : Int)) : SEA h c row 0 (fun _ => 0) U V SL A F := by
  obtain ⟨a, b, c1, c2, d, e⟩ := H
  exact ⟨⟨fun r s x y => a r s x (by omega), b, c1, c2, d, fun r r8 o => e r r8 (by omega)⟩, ⟨a0, rfl, fun i x y => by omega, fun i j x y _ => by omega⟩, fun i x => absurd x (Nat.not_lt_zero i), fun x => absurd x (by decide), fun i x y => by omega⟩
