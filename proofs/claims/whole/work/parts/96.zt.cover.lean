/-! FEWEST: covers -/
def orL : List Nat → Nat
  | [] => 0
  | w :: L => w ||| orL L
theorem orL_tb {t : Nat} : ∀ {L : List Nat}, (orL L).testBit t = true ↔ ∃ w, w ∈ L ∧ w.testBit t = true
  | [] => ⟨fun h => (by rw [show orL [] = 0 from rfl, Nat.zero_testBit] at h; cases h), fun ⟨_, h, _⟩ => by cases h⟩
  | w :: L => by
    rw [show orL (w :: L) = w ||| orL L from rfl, Nat.testBit_or, Bool.or_eq_true, orL_tb (L := L)]
    refine ⟨fun h => ?_, fun ⟨v, hv, hb⟩ => ?_⟩
    · rcases h with h | ⟨v, hv, hb⟩
      · exact ⟨w, List.mem_cons_self, h⟩
      · exact ⟨v, List.mem_cons_of_mem _ hv, hb⟩
    · rcases List.mem_cons.mp hv with e | e
      · rw [e] at hb; exact Or.inl hb
      · exact Or.inr ⟨v, e, hb⟩
theorem subB_refl (a : Nat) : subB a a := fun _ h => h
theorem subB_antisymm {a b : Nat} (h1 : subB a b) (h2 : subB b a) : a = b := Nat.eq_of_testBit_eq fun t => bool_eq ⟨h1 t, h2 t⟩
theorem subB_le {a b : Nat} (h : subB a b) : a ≤ b := by
  have e : a &&& b = a := Nat.eq_of_testBit_eq fun t => by
    rw [Nat.testBit_and]
    cases q : a.testBit t
    · rfl
    · rw [h t q]; rfl
  rw [← e]
  exact Nat.and_le_right
theorem or_sub {a b c : Nat} (h1 : subB a c) (h2 : subB b c) : subB (a ||| b) c := fun t ht => by
  rw [Nat.testBit_or, Bool.or_eq_true] at ht
  rcases ht with q | q
  · exact h1 t q
  · exact h2 t q
def ALLH (h : aH) : Nat := bset (HASH h) (NSL h)
def RW (h : aH) (c w : Nat) : Prop := ∃ b j, INR h b j ∧ w = RNG h c b j
def COV (h : aH) (c k : Nat) : Prop := ∃ L : List Nat, L.length = k ∧ (∀ w, w ∈ L → RW h c w) ∧ orL L = ALLH h
/-- what FEWEST answers -/
def FEW (h : aH) (c : Nat) (v : Int) : Prop := (DEAF h c ≠ 0 ∧ v = -2) ∨ (DEAF h c = 0 ∧ ∃ k : Nat, v = (k : Int) ∧ COV h c k ∧ ∀ k', COV h c k' → k ≤ k')
theorem FEW_uniq {h : aH} {c : Nat} {v v' : Int} (a : FEW h c v) (b : FEW h c v') : v = v' := by
  rcases a with ⟨a1, a2⟩ | ⟨a1, k, a2, a3, a4⟩ <;> rcases b with ⟨b1, b2⟩ | ⟨b1, k', b2, b3, b4⟩
  · rw [a2, b2]
  · exact absurd b1 a1
  · exact absurd a1 b1
  · have h1 := a4 k' b3
    have h2 := b4 k a3
    omega
theorem RNG_sub (h : aH) (c b j : Nat) : subB (RNG h c b j) (ALLH h) := by
  intro t ht
  unfold RNG WKS at ht
  unfold ALLH
  rw [bset_tb] at ht ⊢
  rw [Bool.and_eq_true] at ht
  rw [ht.1, Bool.true_and]
  have := ht.2
  unfold WKB at this
  rw [Bool.and_eq_true, Bool.and_eq_true] at this
  exact this.1.1
theorem RW_sub {h : aH} {c w : Nat} (r : RW h c w) : subB w (ALLH h) := by obtain ⟨b, j, _, e⟩ := r; rw [e]; exact RNG_sub h c b j
theorem orL_sub {h : aH} {c : Nat} {L : List Nat} (hL : ∀ w, w ∈ L → RW h c w) : subB (orL L) (ALLH h) := fun t ht => by
  obtain ⟨w, hw, hb⟩ := orL_tb.mp ht
  exact RW_sub (hL w hw) t hb
theorem nz_bit {a n : Nat} (h : a ≠ 0) (hn : a < 2 ^ n) : ∃ t, t < n ∧ a.testBit t = true := by
  refine Decidable.byContradiction fun z => h (Nat.eq_of_testBit_eq fun t => ?_)
  rw [Nat.zero_testBit]
  by_cases ht : t < n
  · cases q : a.testBit t
    · rfl
    · exact absurd ⟨t, ht, q⟩ z
  · exact Nat.testBit_lt_two_pow (Nat.lt_of_lt_of_le hn (two_le (by omega)))
theorem cov_no {h : aH} {c : Nat} (hd : DEAF h c ≠ 0) (k : Nat) : ¬ COV h c k := by
  rintro ⟨L, _, hL, e⟩
  obtain ⟨t, ht, hb⟩ := nz_bit hd (bset_lt _ _ (Nat.le_refl (NSL h)))
  unfold DEAF at hb
  rw [bset_tb, Bool.and_eq_true, Bool.and_eq_true] at hb
  have h1 : (ALLH h).testBit t = true := by unfold ALLH; rw [bset_tb, hb.1, hb.2.1]; rfl
  rw [← e] at h1
  obtain ⟨w, hw, hwb⟩ := orL_tb.mp h1
  obtain ⟨b, j, q1, q2⟩ := hL w hw
  have : ANR h c t = true := ANR_iff.mpr ⟨b, j, q1, by rw [← q2]; exact hwb⟩
  rw [this] at hb
  exact absurd hb.2.2 (by decide)
theorem cov_12 {h : aH} {c : Nat} (hd : DEAF h c = 0) : ∃ k, k ≤ NSL h ∧ COV h c k := by
  have key : ∀ i, i ≤ NSL h → ∃ L : List Nat, L.length ≤ i ∧ (∀ w, w ∈ L → RW h c w) ∧ ∀ t, t < i → HASH h t = true → (orL L).testBit t = true := by
    intro i
    induction i with
    | zero => intro _; exact ⟨[], Nat.le_refl _, fun w hw => (by cases hw), fun t ht => absurd ht (Nat.not_lt_zero t)⟩
    | succ i ih =>
      intro hi
      obtain ⟨L, l1, l2, l3⟩ := ih (by omega)
      cases q : HASH h i with
      | false =>
        refine ⟨L, by omega, l2, fun t ht hh => ?_⟩
        by_cases e : t = i
        · rw [e, q] at hh; cases hh
        · exact l3 t (by omega) hh
      | true =>
        have a : ANR h c i = true := by
          have z : (DEAF h c).testBit i = false := by rw [hd, Nat.zero_testBit]
          unfold DEAF at z
          rw [bset_tb, decide_eq_true (show i < NSL h by omega), q, Bool.true_and, Bool.true_and] at z
          cases y : ANR h c i
          · rw [y] at z; cases z
          · rfl
        obtain ⟨b, j, q1, q2⟩ := ANR_iff.mp a
        refine ⟨RNG h c b j :: L, by rw [List.length_cons]; omega, fun w hw => ?_, fun t ht hh => ?_⟩
        · rcases List.mem_cons.mp hw with e | e
          · exact ⟨b, j, q1, e⟩
          · exact l2 w e
        · by_cases e : t = i
          · rw [e]; exact orL_tb.mpr ⟨_, List.mem_cons_self, q2⟩
          · obtain ⟨w, hw, hb⟩ := orL_tb.mp (l3 t (by omega) hh)
            exact orL_tb.mpr ⟨w, List.mem_cons_of_mem _ hw, hb⟩
  obtain ⟨L, l1, l2, l3⟩ := key (NSL h) (Nat.le_refl _)
  refine ⟨L.length, l1, L, rfl, l2, subB_antisymm (orL_sub l2) (fun t ht => ?_)⟩
  unfold ALLH at ht
  rw [bset_tb, Bool.and_eq_true, decide_eq_true_iff] at ht
  exact l3 t ht.1 ht.2
theorem ALLH_lt {h : aH} (P : PI h) : ALLH h < 4096 := by
  have hz := P.1.1
  unfold okSz at hz
  have := bset_lt (HASH h) (NSL h) (Nat.le_refl _)
  have l := two_le (n := NSL h) (m := 12) (by unfold NSL; omega)
  rw [show (2 : Nat) ^ 12 = 4096 by decide] at l
  unfold ALLH
  omega
theorem or_4096 {a b : Nat} (ha : a < 4096) (hb : b < 4096) : a ||| b < 4096 := Nat.or_lt_two_pow (n := 12) ha hb
/-- a table of how many rings make a set: each entry below 100 is made by so many -/
def TSO (h : aH) (c : Nat) (f : Nat → Int) : Prop := f 0 = 0 ∧ ∀ S, S < 4096 → (0 ≤ f S ∧ f S ≤ 100) ∧ (f S < 100 → ∃ L : List Nat, (L.length : Int) ≤ f S ∧ (∀ w, w ∈ L → RW h c w) ∧ orL L = S)
theorem few_of {h : aH} {c : Nat} (P : PI h) {f : Nat → Int} (T : TSO h c f) (hc : ∀ L : List Nat, (∀ w, w ∈ L → RW h c w) → orL L = ALLH h → f (ALLH h) ≤ (L.length : Int)) : (DEAF h c ≠ 0 → f (ALLH h) = 100) ∧ (DEAF h c = 0 → f (ALLH h) ≤ 12 ∧ FEW h c (f (ALLH h))) := by
  have hz := P.1.1
  unfold okSz at hz
  have n12 : NSL h ≤ 12 := by unfold NSL; omega
  obtain ⟨t1, t2⟩ := T.2 (ALLH h) (ALLH_lt P)
  refine ⟨fun hd => ?_, fun hd => ?_⟩
  · refine Decidable.byContradiction fun z => ?_
    obtain ⟨L, _, l2, l3⟩ := t2 (by clear t2; omega)
    exact cov_no hd L.length ⟨L, rfl, l2, l3⟩
  · obtain ⟨k, k1, L, l1, l2, l3⟩ := cov_12 hd
    have le := hc L l2 l3
    refine ⟨by clear t2; omega, Or.inr ⟨hd, ?_⟩⟩
    obtain ⟨L2, m1, m2, m3⟩ := t2 (by clear t2; omega)
    have le2 := hc L2 m2 m3
    refine ⟨L2.length, by omega, ⟨L2, rfl, m2, m3⟩, fun k' ⟨L3, p1, p2, p3⟩ => ?_⟩
    have le3 := hc L3 p2 p3
    omega
theorem TSO_up {h : aH} {c : Nat} {f : Nat → Int} (T : TSO h c f) {S W : Nat} {v : Int} (hS : S < 4096) (hW : RW h c W) (hW2 : W < 4096) (hne : S ||| W ≠ 0) (hv : v ≤ f (S ||| W)) (hv2 : v = f (S ||| W) ∨ v = f S + 1) {g : Nat → Int} (hg : ∀ j, g j = if j = S ||| W then v else f j) : TSO h c g := by
  obtain ⟨t0, t1⟩ := T
  have sw := or_4096 hS hW2
  obtain ⟨a1, a2⟩ := t1 S hS
  obtain ⟨b1, b2⟩ := t1 (S ||| W) sw
  refine ⟨by rw [hg, if_neg (fun z => hne z.symm)]; exact t0, fun S' hS' => ?_⟩
  rw [hg]
  by_cases e : S' = S ||| W
  · rw [if_pos e]
    refine ⟨by clear a2 b2 t1; omega, fun lt => ?_⟩
    rcases hv2 with q | q
    · obtain ⟨L, l1, l2, l3⟩ := b2 (by clear a2 b2 t1; omega)
      exact ⟨L, by omega, l2, by rw [l3, e]⟩
    · obtain ⟨L, l1, l2, l3⟩ := a2 (by clear a2 b2 t1; omega)
      refine ⟨W :: L, by rw [List.length_cons]; omega, fun w hw => ?_, ?_⟩
      · rcases List.mem_cons.mp hw with z | z
        · rw [z]; exact hW
        · exact l2 w z
      · show W ||| orL L = S'
        rw [l3, e, Nat.or_comm]
  · rw [if_neg e]
    exact t1 S' hS'
/-! the reference's table -/
def RPR (h : aH) (c : Nat) (pr : Nat → Nat → Prop) (w : Nat) : Prop := ∃ b j, INR h b j ∧ pr b j ∧ w = RNG h c b j
def TCM (h : aH) (c : Nat) (pr : Nat → Nat → Prop) (f : Nat → Int) : Prop := ∀ L : List Nat, (∀ w, w ∈ L → RPR h c pr w) → f (orL L) ≤ (L.length : Int)
theorem RPR_rw {h : aH} {c : Nat} {pr : Nat → Nat → Prop} {w : Nat} (r : RPR h c pr w) : RW h c w := by obtain ⟨b, j, q, _, e⟩ := r; exact ⟨b, j, q, e⟩
theorem len_filter {W : Nat} : ∀ {L : List Nat}, W ∈ L → (L.filter (fun w => !Nat.beq w W)).length + 1 ≤ L.length
  | [], h => by cases h
  | v :: L, h => by
    by_cases e : v = W
    · have : (!Nat.beq v W) = false := by rw [e]; simp
      rw [List.filter_cons_of_neg (p := fun w => !Nat.beq w W) (by rw [this]; decide), List.length_cons]
      have := List.length_filter_le (fun w => !Nat.beq w W) L
      omega
    · rcases List.mem_cons.mp h with q | q
      · exact absurd q.symm e
      · have ih := len_filter q
        have : (!Nat.beq v W) = true := by
          cases z : Nat.beq v W
          · rfl
          · exact absurd (Nat.eq_of_beq_eq_true z) e
        rw [List.filter_cons_of_pos (p := fun w => !Nat.beq w W) this, List.length_cons, List.length_cons]
        omega
theorem orL_filter {W : Nat} {L : List Nat} (h : W ∈ L) : orL L = orL (L.filter (fun w => !Nat.beq w W)) ||| W := by
  refine Nat.eq_of_testBit_eq fun t => bool_eq ?_
  rw [Nat.testBit_or, Bool.or_eq_true, orL_tb, orL_tb]
  refine ⟨fun ⟨w, hw, hb⟩ => ?_, fun q => ?_⟩
  · by_cases e : w = W
    · rw [e] at hb; exact Or.inr hb
    · refine Or.inl ⟨w, List.mem_filter.mpr ⟨hw, ?_⟩, hb⟩
      cases z : Nat.beq w W
      · rfl
      · exact absurd (Nat.eq_of_beq_eq_true z) e
  · rcases q with ⟨w, hw, hb⟩ | hb
    · exact ⟨w, (List.mem_filter.mp hw).1, hb⟩
    · exact ⟨W, h, hb⟩
theorem TCM_step {h : aH} {c : Nat} (P : PI h) {pr pr' : Nat → Nat → Prop} {b j : Nat} {f g : Nat → Int} (T : TCM h c pr f) (hpr : ∀ b' j', pr' b' j' → (b' = b ∧ j' = j) ∨ pr b' j') (hm : ∀ S, S < 4096 → g S ≤ f S) (hu : RNG h c b j ≠ 0 → ∀ S, S < 4096 → subB S (ALLH h) → g (S ||| RNG h c b j) ≤ f S + 1) : TCM h c pr' g := by
  intro L hL
  have hrw : ∀ w, w ∈ L → RW h c w := fun w hw => RPR_rw (hL w hw)
  have lt : orL L < 4096 := Nat.lt_of_le_of_lt (subB_le (orL_sub hrw)) (ALLH_lt P)
  by_cases hW : RNG h c b j ∈ L
  · have hF : ∀ w, w ∈ L.filter (fun w => !Nat.beq w (RNG h c b j)) → RPR h c pr w := by
      intro w hw
      obtain ⟨m1, m2⟩ := List.mem_filter.mp hw
      obtain ⟨b', j', q1, q2, q3⟩ := hL w m1
      rcases hpr b' j' q2 with ⟨e1, e2⟩ | e
      · rw [e1, e2] at q3
        rw [q3] at m2
        simp at m2
      · exact ⟨b', j', q1, e, q3⟩
    have hF2 : ∀ w, w ∈ L.filter (fun w => !Nat.beq w (RNG h c b j)) → RW h c w := fun w hw => RPR_rw (hF w hw)
    have lt2 : orL (L.filter (fun w => !Nat.beq w (RNG h c b j))) < 4096 := Nat.lt_of_le_of_lt (subB_le (orL_sub hF2)) (ALLH_lt P)
    have t := T _ hF
    have ln := len_filter hW
    by_cases z : RNG h c b j = 0
    · have e := orL_filter hW
      rw [z, Nat.or_zero] at e
      rw [← z] at e
      have := hm _ lt
      rw [e] at this ⊢
      omega
    · have u := hu z _ lt2 (orL_sub hF2)
      rw [← orL_filter hW] at u
      omega
  · have : ∀ w, w ∈ L → RPR h c pr w := by
      intro w hw
      obtain ⟨b', j', q1, q2, q3⟩ := hL w hw
      rcases hpr b' j' q2 with ⟨e1, e2⟩ | e
      · rw [e1, e2] at q3
        rw [q3] at hw
        exact absurd hw hW
      · exact ⟨b', j', q1, e, q3⟩
    have t := T L this
    have := hm _ lt
    omega
