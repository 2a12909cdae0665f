/-! THE ROUND: by who is done, and who was the last -/
def INJ (n k : Nat) (f : Nat → Nat) : Prop := (∀ i, i < k → f i < n) ∧ ∀ i j, i < k → j < k → f i = f j → i = j
theorem INJ.sub {n k m : Nat} {f : Nat → Nat} (I : INJ n k f) (h : m ≤ k) : INJ n m f := ⟨fun i hi => I.1 i (by omega), fun i j hi hj z => I.2 i j (by omega) (by omega) z⟩
def MSK (f : Nat → Nat) : Nat → Nat
  | 0 => 0
  | k + 1 => MSK f k ||| 2 ^ (f k)
theorem MSK_congr {f g : Nat → Nat} : ∀ {k : Nat}, (∀ j, j < k → f j = g j) → MSK f k = MSK g k
  | 0, _ => rfl
  | k + 1, h => by unfold MSK; rw [MSK_congr (fun j hj => h j (by omega)), h k (by omega)]
theorem MSK_tb {f : Nat → Nat} {t : Nat} : ∀ {k : Nat}, (MSK f k).testBit t = true ↔ ∃ j, j < k ∧ f j = t
  | 0 => ⟨fun z => (by unfold MSK at z; rw [Nat.zero_testBit] at z; cases z), fun ⟨j, hj, _⟩ => absurd hj (Nat.not_lt_zero j)⟩
  | k + 1 => by
    unfold MSK
    rw [Nat.testBit_or, tb_two, Bool.or_eq_true, MSK_tb]
    constructor
    · rintro (⟨j, hj, z⟩ | z)
      · exact ⟨j, by omega, z⟩
      · exact ⟨k, by omega, of_decide_eq_true z⟩
    · rintro ⟨j, hj, z⟩
      by_cases c : j = k
      · exact Or.inr (decide_eq_true (by rw [← c]; exact z))
      · exact Or.inl ⟨j, by omega, z⟩
theorem MSK_lt {f : Nat → Nat} {n : Nat} : ∀ {k : Nat}, (∀ j, j < k → f j < n) → MSK f k < 2 ^ n
  | 0, _ => Nat.two_pow_pos n
  | k + 1, h => by
    unfold MSK
    exact Nat.or_lt_two_pow (MSK_lt (fun j hj => h j (by omega))) (Nat.pow_lt_pow_right (by omega) (h k (by omega)))
theorem cnt_set {p q : Nat → Bool} {i : Nat} (hp : p i = false) (hq : q i = true) (he : ∀ j, j ≠ i → q j = p j) : ∀ n, cntB q n = cntB p n + (if i < n then 1 else 0)
  | 0 => rfl
  | n + 1 => by
    have ih := cnt_set hp hq he n
    have e1 : cntB q (n + 1) = cntB q n + (bif q n then 1 else 0) := rfl
    have e2 : cntB p (n + 1) = cntB p n + (bif p n then 1 else 0) := rfl
    rw [e1, e2, ih]
    by_cases c : n = i
    · subst c
      rw [hp, hq, if_neg (by omega), if_pos (by omega)]
      rfl
    · rw [he n c]
      by_cases c2 : i < n
      · rw [if_pos c2, if_pos (by omega)]; omega
      · rw [if_neg c2, if_neg (by omega)]; omega
theorem bts_or {s i n : Nat} (b : s.testBit i = false) (hi : i < n) : BTS (s ||| 2 ^ i) n = BTS s n + 1 := by
  unfold BTS
  rw [cnt_set (p := fun t => s.testBit t) (q := fun t => (s ||| 2 ^ i).testBit t) (i := i) b (by rw [Nat.testBit_or, tb_two, decide_eq_true rfl, Bool.or_true]) (fun j hj => by rw [Nat.testBit_or, tb_two, decide_eq_false (fun z => hj z.symm), Bool.or_false]) n, if_pos hi]
theorem bts_0 (n : Nat) : BTS 0 n = 0 := by
  unfold BTS
  induction n with
  | zero => rfl
  | succ n ih =>
    have e1 : cntB (fun t => (0 : Nat).testBit t) (n + 1) = cntB (fun t => (0 : Nat).testBit t) n + (bif (0 : Nat).testBit n then 1 else 0) := rfl
    rw [e1, ih, Nat.zero_testBit]
    rfl
theorem MSK_out {f : Nat → Nat} {n k : Nat} (I : INJ n (k + 1) f) : (MSK f k).testBit (f k) = false := by
  cases c : (MSK f k).testBit (f k) with
  | false => rfl
  | true =>
    obtain ⟨j, hj, z⟩ := MSK_tb.1 c
    have := I.2 j k (by omega) (by omega) z
    omega
theorem bts_msk {n : Nat} {f : Nat → Nat} : ∀ {k : Nat}, INJ n k f → BTS (MSK f k) n = k
  | 0, _ => bts_0 n
  | k + 1, I => by
    unfold MSK
    rw [bts_or (MSK_out I) (I.1 k (by omega)), bts_msk (I.sub (Nat.le_succ k))]
theorem bts_full2 (n : Nat) : BTS (2 ^ n - 1) n = n := by
  unfold BTS
  have : ∀ k, k ≤ n → cntB (fun t => (2 ^ n - 1).testBit t) k = k := by
    intro k
    induction k with
    | zero => intro _; rfl
    | succ k ih =>
      intro hk
      have e1 : cntB (fun t => (2 ^ n - 1).testBit t) (k + 1) = cntB (fun t => (2 ^ n - 1).testBit t) k + (bif (2 ^ n - 1).testBit k then 1 else 0) := rfl
      rw [e1, ih (by omega), Nat.testBit_two_pow_sub_one, decide_eq_true (show k < n by omega)]
      rfl
  exact this n (Nat.le_refl n)
theorem MSK_full {n : Nat} {f : Nat → Nat} (F : PERM n f) : MSK f n = 2 ^ n - 1 := by
  refine Nat.eq_of_testBit_eq fun t => ?_
  rw [Nat.testBit_two_pow_sub_one]
  by_cases c : t < n
  · rw [decide_eq_true c]
    obtain ⟨i, hi, z⟩ := prm_surj F t c
    exact MSK_tb.2 ⟨i, hi, z⟩
  · rw [decide_eq_false c]
    cases q : (MSK f n).testBit t with
    | false => rfl
    | true =>
      obtain ⟨j, hj, z⟩ := MSK_tb.1 q
      have := F.1 j hj
      omega
theorem or_gt {s i : Nat} (b : s.testBit i = false) : s < s ||| 2 ^ i := by
  have h1 : s ≤ s ||| 2 ^ i := Nat.left_le_or
  have h2 : s ≠ s ||| 2 ^ i := fun z => by
    have : (s ||| 2 ^ i).testBit i = true := by rw [Nat.testBit_or, tb_two, decide_eq_true rfl, Bool.or_true]
    rw [← z, b] at this
    cases this
  omega
theorem or_lt {s i n : Nat} (hs : s < 2 ^ n) (hi : i < n) : s ||| 2 ^ i < 2 ^ n := Nat.or_lt_two_pow hs (Nat.pow_lt_pow_right (by omega) hi)
theorem WAY_comm (a b : Int) : WAY a b = WAY b a := by unfold WAY; omega
/-- the knock, or too late -/
def KNK (H e a : Int) : Int := if H < KN H e a then 100000 else KN H e a
theorem KNK_rg {H e a : Int} (hH : 0 ≤ H ∧ H ≤ 399) (ha : 0 ≤ a) : (KNK H e a = 100000 ∧ H < KN H e a) ∨ (KNK H e a = KN H e a ∧ KN H e a ≤ H ∧ 0 ≤ KN H e a ∧ KN H e a ≤ 399) := by
  unfold KNK
  have : 0 ≤ KN H e a := by unfold KN; omega
  by_cases c : H < KN H e a
  · rw [if_pos c]; exact Or.inl ⟨rfl, c⟩
  · rw [if_neg c]; exact Or.inr ⟨rfl, by omega, this, by omega⟩
def ATT (H S : Nat → Int) (e : Int) (n s l : Nat) (a : Int) : Prop := ∃ k f, INJ n (k + 1) f ∧ MSK f (k + 1) = s ∧ f k = l ∧ simN H S e f (k + 1) = some (a, S l)
theorem ATT_step {H S : Nat → Int} {e : Int} {n s l i : Nat} {a : Int} (A : ATT H S e n s l a) (hi : i < n) (b : s.testBit i = false) (ok : KN (H i) e (a + WAY (S i) (S l)) ≤ H i) : ATT H S e n (s ||| 2 ^ i) i (KN (H i) e (a + WAY (S i) (S l))) := by
  obtain ⟨k, f, I, m, hl, q⟩ := A
  have out : ∀ j, j < k + 1 → f j ≠ i := fun j hj z => by
    have : (MSK f (k + 1)).testBit i = true := MSK_tb.2 ⟨j, hj, z⟩
    rw [m, b] at this
    cases this
  have eg : ∀ j, j < k + 1 → (fun j => if j = k + 1 then i else f j) j = f j := fun j hj => if_neg (by omega)
  have gk : (fun j => if j = k + 1 then i else f j) (k + 1) = i := if_pos rfl
  refine ⟨k + 1, fun j => if j = k + 1 then i else f j, ⟨fun j hj => ?_, fun j1 j2 h1 h2 z => ?_⟩, ?_, gk, ?_⟩
  · by_cases c : j = k + 1
    · show (if j = k + 1 then i else f j) < n
      rw [if_pos c]; exact hi
    · show (if j = k + 1 then i else f j) < n
      rw [if_neg c]; exact I.1 j (by omega)
  · have z : (if j1 = k + 1 then i else f j1) = (if j2 = k + 1 then i else f j2) := z
    by_cases c1 : j1 = k + 1 <;> by_cases c2 : j2 = k + 1
    · omega
    · rw [if_pos c1, if_neg c2] at z; exact absurd z.symm (out j2 (by omega))
    · rw [if_neg c1, if_pos c2] at z; exact absurd z (out j1 (by omega))
    · rw [if_neg c1, if_neg c2] at z; exact I.2 j1 j2 (by omega) (by omega) z
  · show MSK _ (k + 1) ||| 2 ^ _ = _
    rw [MSK_congr eg, m, gk]
  · have := simN_s (H := H) (S := S) (e := e) (f := fun j => if j = k + 1 then i else f j) (k := k + 1) (a := a) (p := S l) (by rw [simN_congr eg]; exact q)
    have gk' : (if k + 1 = k + 1 then i else f (k + 1)) = i := if_pos rfl
    rw [this, gk', if_pos ok]
/-- the way there: what the table holds so far -/
def FW (H S : Nat → Int) (e : Int) (n : Nat) (T : Nat → Int) (x l i : Nat) : Prop :=
  (∀ s j, s < 2 ^ n → j < n → 0 ≤ T (s * 8 + j) ∧ T (s * 8 + j) ≤ 100000 ∧ (T (s * 8 + j) < 100000 → T (s * 8 + j) ≤ 399 ∧ ATT H S e n s j (T (s * 8 + j)))) ∧
  (∀ j, j < n → T (2 ^ j * 8 + j) ≤ KNK (H j) e (S j)) ∧
  ∀ s k j, 0 < s → s < 2 ^ n → k < n → j < n → s.testBit j = false → (s < x ∨ s = x ∧ (k < l ∨ k = l ∧ j < i)) → T (s * 8 + k) < 100000 → T ((s ||| 2 ^ j) * 8 + j) ≤ KNK (H j) e (T (s * 8 + k) + WAY (S j) (S k))
theorem FW_step {H S : Nat → Int} {e : Int} {n x l i : Nat} {T T' : Nat → Int} (n8 : n ≤ 8) (hH : ∀ i, i < n → 0 ≤ H i ∧ H i ≤ 399) (W : FW H S e n T x l i) (hx : x < 2 ^ n) (hl : l < n) (hi : i < n) (b : x.testBit i = false) (ha : T (x * 8 + l) < 100000) (hT : ∀ j, T' j = if j = (x ||| 2 ^ i) * 8 + i then min (T ((x ||| 2 ^ i) * 8 + i)) (KNK (H i) e (T (x * 8 + l) + WAY (S i) (S l))) else T j) : FW H S e n T' x l (i + 1) := by
  obtain ⟨w1, w2, w3⟩ := W
  have gt := or_gt b
  have wy : 0 ≤ WAY (S i) (S l) := by unfold WAY; omega
  have t0 := w1 x l hx hl
  have kr := KNK_rg (e := e) (a := T (x * 8 + l) + WAY (S i) (S l)) (hH i hi) (by omega)
  have le : ∀ j, T' j ≤ T j := fun j => by
    rw [hT]
    by_cases c : j = (x ||| 2 ^ i) * 8 + i
    · rw [if_pos c, c]; omega
    · rw [if_neg c]; exact Int.le_refl _
  refine ⟨fun s j hs hj => ?_, fun j hj => Int.le_trans (le _) (w2 j hj), fun s k j s0 hs hk hj bj o lt => ?_⟩
  · rw [hT]
    by_cases c : s * 8 + j = (x ||| 2 ^ i) * 8 + i
    · have e1 : s = x ||| 2 ^ i := by omega
      have e2 : j = i := by omega
      subst e2
      rw [if_pos c]
      have t1 := w1 (x ||| 2 ^ j) j (or_lt hx hi) hi
      by_cases m : T ((x ||| 2 ^ j) * 8 + j) ≤ KNK (H j) e (T (x * 8 + l) + WAY (S j) (S l))
      · rw [Int.min_eq_left m, e1]; exact t1
      · rw [Int.min_eq_right (by omega)]
        rcases kr with ⟨k1, k2⟩ | ⟨k1, k2, k3, k4⟩
        · omega
        · rw [k1, e1]
          exact ⟨k3, by omega, fun _ => ⟨k4, ATT_step (t0.2.2 ha).2 hi b k2⟩⟩
    · rw [if_neg c]; exact w1 s j hs hj
  · have sx : s ≤ x := by omega
    have e1 : T' (s * 8 + k) = T (s * 8 + k) := by rw [hT, if_neg (by omega)]
    rw [e1] at lt ⊢
    by_cases c : s < x ∨ s = x ∧ (k < l ∨ k = l ∧ j < i)
    · exact Int.le_trans (le _) (w3 s k j s0 hs hk hj bj c lt)
    · have a1 : s = x := by omega
      have a2 : k = l := by omega
      have a3 : j = i := by omega
      subst a1 a2 a3
      rw [hT, if_pos rfl]
      omega
theorem simN_at {H S : Nat → Int} {e : Int} {f : Nat → Nat} {k : Nat} {a p : Int} (h : simN H S e f (k + 1) = some (a, p)) : ∃ a' p', simN H S e f k = some (a', p') ∧ a = KN (H (f k)) e (a' + WAY (S (f k)) p') ∧ a ≤ H (f k) ∧ p = S (f k) := by
  cases q : simN H S e f k with
  | none => have := simN_none q 1; rw [this] at h; cases h
  | some v =>
    obtain ⟨a', p'⟩ := v
    rw [simN_s q] at h
    by_cases c : KN (H (f k)) e (a' + WAY (S (f k)) p') ≤ H (f k)
    · rw [if_pos c] at h
      have := Option.some.inj h
      injection this with e1 e2
      exact ⟨a', p', rfl, e1.symm, by rw [← e1]; exact c, e2.symm⟩
    · rw [if_neg c] at h; cases h
theorem KNK_ok {H e a : Int} (h : KN H e a ≤ H) : KNK H e a = KN H e a := by unfold KNK; rw [if_neg (by omega)]
theorem FW_low {H S : Nat → Int} {e : Int} {n : Nat} {T : Nat → Int} (hH : ∀ i, i < n → 0 ≤ H i ∧ H i ≤ 399) (hS : ∀ i, i < n → 0 ≤ S i ∧ S i ≤ 9) (W : FW H S e n T (2 ^ n - 1) 0 0) {f : Nat → Nat} : ∀ k a p, INJ n (k + 1) f → simN H S e f (k + 1) = some (a, p) → T (MSK f (k + 1) * 8 + f k) ≤ a := by
  intro k
  induction k with
  | zero =>
    intro a p I h
    obtain ⟨a', p', q, e1, le, e2⟩ := simN_at h
    have q : some ((0 : Int), (0 : Int)) = some (a', p') := q
    have := Option.some.inj q
    injection this with z1 z2
    subst z1 z2
    have i0 := I.1 0 (by omega)
    have := W.2.1 (f 0) i0
    have s0 := hS (f 0) i0
    have em : MSK f (0 + 1) = 2 ^ f 0 := by show 0 ||| 2 ^ f 0 = _; rw [Nat.zero_or]
    rw [show (0 : Int) + WAY (S (f 0)) 0 = S (f 0) by unfold WAY; omega] at e1
    rw [KNK_ok (by rw [← e1]; exact le), ← e1] at this
    rw [em]
    exact this
  | succ k ih =>
    intro a p I h
    obtain ⟨a', p', q, e1, le, e2⟩ := simN_at h
    obtain ⟨_, _, _, _, le', e3⟩ := simN_at q
    have lo := ih a' p' (I.sub (by omega)) q
    have ik := I.1 k (by omega)
    have ik1 := I.1 (k + 1) (by omega)
    have hk := hH _ ik
    have out := MSK_out I
    have lt := MSK_lt (f := f) (n := n) (k := k + 1) (fun j hj => I.1 j (by omega))
    have gt := or_gt out
    have lt2 := or_lt lt ik1
    have pos : 0 < MSK f (k + 1) := by
      rcases Nat.eq_zero_or_pos (MSK f (k + 1)) with z | z
      · have := bts_msk (I.sub (Nat.le_succ (k + 1)))
        rw [z, bts_0] at this
        omega
      · exact z
    have t := W.2.2 (MSK f (k + 1)) (f k) (f (k + 1)) pos lt ik ik1 out (Or.inl (by omega)) (by omega)
    have em : MSK f (k + 1 + 1) = MSK f (k + 1) ||| 2 ^ f (k + 1) := rfl
    rw [em]
    refine Int.le_trans t ?_
    rw [e3] at e1
    have mono : KN (H (f (k + 1))) e (T (MSK f (k + 1) * 8 + f k) + WAY (S (f (k + 1))) (S (f k))) ≤ a := by rw [e1]; unfold KN; omega
    rw [KNK_ok (by omega)]
    exact mono
/-- the way back: the rest can be done by the end -/
def FIN (H S : Nat → Int) (e : Int) (n : Nat) (en : Int) : Nat → Nat → Int → Int → Prop
  | 0, _, _, t => t ≤ en
  | d + 1, s, p, t => ∃ i, i < n ∧ s.testBit i = false ∧ KN (H i) e (t + WAY (S i) p) ≤ H i ∧ FIN H S e n en d (s ||| 2 ^ i) (S i) (KN (H i) e (t + WAY (S i) p))
theorem FIN_of {H S : Nat → Int} {e : Int} {n : Nat} {en : Int} {q : Nat → Nat} (F : PERM n q) {b c : Int} (hq : simN H S e q n = some (b, c)) (hb : b ≤ en) : ∀ d k a p, d = n - k → k ≤ n → simN H S e q k = some (a, p) → FIN H S e n en d (MSK q k) p a := by
  intro d
  induction d with
  | zero =>
    intro k a p hd hk h
    have : k = n := by omega
    subst this
    rw [hq] at h
    have := Option.some.inj h
    injection this with e1 e2
    show a ≤ en
    omega
  | succ d ih =>
    intro k a p hd hk h
    have I : INJ n (k + 1) q := ⟨fun i hi => F.1 i (by omega), fun i j hi hj z => F.2 i j (by omega) (by omega) z⟩
    cases z : simN H S e q (k + 1) with
    | none =>
      have := simN_none z (n - (k + 1))
      rw [show k + 1 + (n - (k + 1)) = n by omega, hq] at this
      cases this
    | some v =>
      obtain ⟨a', p'⟩ := v
      obtain ⟨a2, p2, h2, e1, le, e2⟩ := simN_at z
      rw [h] at h2
      have := Option.some.inj h2
      injection this with y1 y2
      subst y1 y2
      have g := ih (k + 1) a' p' (by omega) (by omega) z
      refine ⟨q k, F.1 k (by omega), MSK_out I, by rw [← e1]; exact le, ?_⟩
      rw [← e1, ← e2]
      exact g
