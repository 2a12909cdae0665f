/-! ways to take so many -/
def bin : Nat → Nat → Nat
  | _, 0 => 1
  | 0, _ + 1 => 0
  | n + 1, k + 1 => bin n k + bin n (k + 1)
theorem bin_0 (n : Nat) : bin n 0 = 1 := by cases n <;> rfl
theorem bin_out : ∀ {n k : Nat}, n < k → bin n k = 0
  | n, 0, h => absurd h (Nat.not_lt_zero n)
  | 0, k + 1, _ => rfl
  | n + 1, k + 1, h => by
    show bin n k + bin n (k + 1) = 0
    rw [bin_out (by omega), bin_out (by omega)]
theorem bin_self : ∀ n, bin n n = 1
  | 0 => rfl
  | n + 1 => by
    show bin n n + bin n (n + 1) = 1
    rw [bin_self n, bin_out (by omega)]
theorem bin_mul : ∀ n k, (k + 1) * bin (n + 1) (k + 1) = (n + 1) * bin n k
  | 0, 0 => rfl
  | 0, k + 1 => by
    show (k + 1 + 1) * (bin 0 (k + 1) + bin 0 (k + 1 + 1)) = (0 + 1) * bin 0 (k + 1)
    rw [bin_out (show 0 < k + 1 by omega), bin_out (show 0 < k + 1 + 1 by omega)]
    simp
  | n + 1, 0 => by
    have h : (0 + 1) * bin (n + 1) 1 = (n + 1) * bin n 0 := bin_mul n 0
    show (0 + 1) * (bin (n + 1) 0 + bin (n + 1) 1) = (n + 1 + 1) * bin (n + 1) 0
    rw [bin_0] at h ⊢
    omega
  | n + 1, k + 1 => by
    have h1 := bin_mul n k
    have h2 := bin_mul n (k + 1)
    have e : bin (n + 1) (k + 1) = bin n k + bin n (k + 1) := rfl
    show (k + 1 + 1) * (bin (n + 1) (k + 1) + bin (n + 1) (k + 1 + 1)) = (n + 1 + 1) * bin (n + 1) (k + 1)
    rw [Nat.mul_add, h2]
    have : (k + 1 + 1) * bin (n + 1) (k + 1) = (k + 1) * bin (n + 1) (k + 1) + bin (n + 1) (k + 1) := by rw [Nat.add_mul, Nat.one_mul]
    rw [this, h1]
    have : (n + 1 + 1) * bin (n + 1) (k + 1) = (n + 1) * bin (n + 1) (k + 1) + bin (n + 1) (k + 1) := by rw [Nat.add_mul, Nat.one_mul]
    rw [this]
    have : (n + 1) * bin (n + 1) (k + 1) = (n + 1) * bin n k + (n + 1) * bin n (k + 1) := by rw [e, Nat.mul_add]
    omega
theorem bin_sym : ∀ {n k : Nat}, k ≤ n → bin n k = bin n (n - k)
  | 0, k, h => by
    have : k = 0 := by omega
    subst this; rfl
  | n + 1, 0, _ => by rw [bin_0, Nat.sub_zero, bin_self]
  | n + 1, k + 1, h => by
    rcases Nat.eq_or_lt_of_le h with e | e
    · have : k = n := by omega
      subst this
      rw [bin_self, Nat.sub_self, bin_0]
    · show bin n k + bin n (k + 1) = _
      rw [show n + 1 - (k + 1) = (n - (k + 1)) + 1 by omega]
      show _ = bin n (n - (k + 1)) + bin n (n - (k + 1) + 1)
      rw [bin_sym (n := n) (k := k) (by omega), bin_sym (n := n) (k := k + 1) (by omega), show n - (k + 1) + 1 = n - k by omega, Nat.add_comm]
theorem bin_10 : (List.range 11).all (fun k => Nat.ble (bin 10 k) 252) = true := by decide +kernel
theorem bin_mono : ∀ {n m k : Nat}, n ≤ m → bin n k ≤ bin m k
  | n, m, 0, _ => by rw [bin_0, bin_0]; omega
  | 0, m, k + 1, _ => Nat.zero_le _
  | n + 1, m, k + 1, h => by
    obtain ⟨q, rfl⟩ : ∃ q, m = q + 1 := ⟨m - 1, by omega⟩
    show bin n k + bin n (k + 1) ≤ bin q k + bin q (k + 1)
    have h1 := bin_mono (n := n) (m := q) (k := k) (by omega)
    have h2 := bin_mono (n := n) (m := q) (k := k + 1) (by omega)
    omega
theorem bin_bd : ∀ (d k : Nat), bin (10 + d) k ≤ 252 * 2 ^ d
  | 0, k => by
    rcases Nat.lt_or_ge k 11 with h | h
    · have := Nat.le_of_ble_eq_true (all_lt bin_10 h)
      simpa using this
    · rw [bin_out (by omega)]; omega
  | d + 1, 0 => by
    rw [bin_0]
    have := Nat.pow_pos (n := d + 1) (show 0 < 2 by decide)
    omega
  | d + 1, k + 1 => by
    have h1 := bin_bd d k
    have h2 := bin_bd d (k + 1)
    show bin (10 + d) k + bin (10 + d) (k + 1) ≤ _
    rw [Nat.pow_succ]
    omega
theorem bin_59 {n k : Nat} (h : n ≤ 59) : bin n k ≤ 141863388262170624 := by
  have h1 := bin_mono (k := k) h
  have h2 := bin_bd 49 k
  have e : 252 * 2 ^ 49 = 141863388262170624 := by decide
  rw [e] at h2
  exact Nat.le_trans h1 h2
theorem bin_60 {n k : Nat} (h : n ≤ 60) : bin n k ≤ 283726776524341248 := by
  have h1 := bin_mono (k := k) h
  have h2 := bin_bd 50 k
  have e : 252 * 2 ^ 50 = 283726776524341248 := by decide
  rw [e] at h2
  exact Nat.le_trans h1 h2
/-- one step of the product -/
theorem bin_step {m i : Nat} (h : m + (i + 1) ≤ 60) : (bin (m + i) i : Int) * ((m : Int) + ((i + 1 : Nat) : Int)) < 9223372036854775808 ∧ w64 (((bin (m + i) i : Int) * ((m : Int) + ((i + 1 : Nat) : Int))).tdiv ((i + 1 : Nat) : Int)) = (bin (m + (i + 1)) (i + 1) : Nat) := by
  have hb := bin_59 (n := m + i) (k := i) (by omega)
  have hm := bin_mul (m + i) i
  have e1 : (bin (m + i) i : Int) * ((m : Int) + ((i + 1 : Nat) : Int)) = (((i + 1) * bin (m + i + 1) (i + 1) : Nat) : Int) := by
    rw [hm, show ((m : Int) + ((i + 1 : Nat) : Int)) = ((m + i + 1 : Nat) : Int) by omega, ← Int.natCast_mul, Nat.mul_comm]
  have h2 := bin_60 (n := m + i + 1) (k := i + 1) (by omega)
  refine ⟨?_, ?_⟩
  · have := mul_bd (a := (bin (m + i) i : Int)) (b := (m : Int) + ((i + 1 : Nat) : Int)) (A := 141863388262170624) (B := 60) (by omega) (by omega) (by omega) (by omega)
    omega
  · rw [e1]
    have : (((i + 1) * bin (m + i + 1) (i + 1) : Nat) : Int).tdiv ((i + 1 : Nat) : Int) = (bin (m + i + 1) (i + 1) : Nat) := by
      rw [Int.natCast_mul, Int.mul_tdiv_cancel_left _ (by omega)]
    rw [this, show m + (i + 1) = m + i + 1 by omega]
    exact w64_id (by unfold am_rl; omega)
theorem c_chl {N : Nat} {C : Int → aH → Prop} {h : aH} {n few : Nat} (hn : n ≤ 60) (hf : few ≤ n) (hC : C (bin n few : Nat) h) : ∀ (d i : Nat), d = few - i → i ≤ few → WL N 194 18 [(0, .inl (n : Int)), (2, .inr (.inl (bin (n - few + i) i : Nat))), (4, .inl (few : Int)), (5, .inl ((i : Int) + 1))] h C := by
  intro d
  induction d with
  | zero =>
    intro i hd hi
    have : i = few := by omega
    subst this
    rw [show n - i + i = n by omega]
    exact w_194_18 ⟨fun _ => hC, fun z => by omega⟩
  | succ d ih =>
    intro i hd hi
    obtain ⟨s1, s2⟩ := bin_step (m := n - few) (i := i) (by omega)
    have hb := bin_59 (n := n - few + i) (k := i) (by omega)
    refine w_194_18 ⟨fun z => by omega, fun _ => ?_⟩
    have e : ((n : Int) - (few : Int)) + ((i : Int) + 1) = ((n - few : Nat) : Int) + ((i + 1 : Nat) : Int) := by omega
    have h0 := Int.mul_nonneg (a := (bin (n - few + i) i : Int)) (b := ((n - few : Nat) : Int) + ((i + 1 : Nat) : Int)) (by omega) (by omega)
    (repeat first | refine ck_ix (by omega) ?_ | refine ck_rg (by omega) ?_ | refine ck_rl (by omega) ?_)
    rw [e]
    refine ck_rl ⟨by omega, s1⟩ ⟨by omega, ck_rg (by omega) ?_⟩
    rw [show ((i : Int) + 1) = ((i + 1 : Nat) : Int) by omega, s2]
    exact ih (i + 1) (by omega) (by omega)
/-- ways to take k of n, none below 0 -/
def binZ (n : Nat) (k : Int) : Nat := if 0 ≤ k then bin n k.toNat else 0
theorem c_choose {N : Nat} {C : Int → aH → Prop} {h : aH} {n : Nat} {k : Int} (hn : n ≤ 60) (hC : C (binZ n k : Nat) h) : WL N 194 0 [(0, .inl (n : Int)), (1, .inl k)] h C := by
  unfold binZ at hC
  refine w_194_0 ⟨fun a => ?_, fun a => ⟨fun b => ?_, fun b => ?_⟩⟩
  · rw [if_neg (by omega)] at hC; exact hC
  · rw [if_pos (by omega)] at hC
    obtain ⟨k, rfl⟩ := Int.eq_ofNat_of_zero_le (show 0 ≤ k by omega)
    simp only [Int.toNat_natCast] at hC
    (repeat first | refine ck_ix (by omega) ?_ | refine ck_rg (by omega) ?_ | refine ck_rl (by omega) ?_)
    have hkn : k ≤ n := by omega
    rw [show min (k : Int) ((n : Int) - (k : Int)) = ((min k (n - k) : Nat) : Int) by omega]
    have key : C (bin n (min k (n - k)) : Nat) h := by
      rcases Nat.le_total k (n - k) with q | q
      · rw [Nat.min_eq_left q]; exact hC
      · rw [Nat.min_eq_right q, ← bin_sym hkn]; exact hC
    have := c_chl (N := N) hn (show min k (n - k) ≤ n by omega) key _ 0 rfl (Nat.zero_le _)
    rw [bin_0] at this
    exact this
  · rw [if_pos (by omega), bin_out (by omega)] at hC; exact hC
theorem m_pkl {N : Nat} {C : Int → aH → Prop} {h : aH} {n r : Nat} (hn : n ≤ 60) (hf : r ≤ n) (hC : C (bin n r : Nat) h) : ∀ (d i : Nat), d = r - i → i ≤ r → WL N 338 12 [(0, .inl (n : Int)), (1, .inl (r : Int)), (2, .inr (.inl (bin (n - r + i) i : Nat))), (4, .inl ((i : Int) + 1))] h C := by
  intro d
  induction d with
  | zero =>
    intro i hd hi
    have : i = r := by omega
    subst this
    rw [show n - i + i = n by omega]
    exact w_338_12 ⟨fun _ => hC, fun z => by omega⟩
  | succ d ih =>
    intro i hd hi
    obtain ⟨s1, s2⟩ := bin_step (m := n - r) (i := i) (by omega)
    refine w_338_12 ⟨fun z => by omega, fun _ => ?_⟩
    have e : ((n : Int) - (r : Int)) + ((i : Int) + 1) = ((n - r : Nat) : Int) + ((i + 1 : Nat) : Int) := by omega
    have h0 := Int.mul_nonneg (a := (bin (n - r + i) i : Int)) (b := ((n - r : Nat) : Int) + ((i + 1 : Nat) : Int)) (by omega) (by omega)
    (repeat first | refine ck_ix (by omega) ?_ | refine ck_rg (by omega) ?_ | refine ck_rl (by omega) ?_)
    rw [e]
    refine ck_rl ⟨by omega, s1⟩ ⟨by omega, ck_rg (by omega) ?_⟩
    rw [show ((i : Int) + 1) = ((i + 1 : Nat) : Int) by omega, s2]
    exact ih (i + 1) (by omega) (by omega)
theorem m_picks {N : Nat} {C : Int → aH → Prop} {h : aH} {n : Nat} {k : Int} (hn : n ≤ 60) (hC : C (binZ n k : Nat) h) : WL N 338 0 [(0, .inl (n : Int)), (1, .inl k)] h C := by
  unfold binZ at hC
  refine w_338_0 ⟨fun a => ?_, fun a => ⟨fun b => ?_, fun b => ?_⟩⟩
  · rw [if_neg (by omega)] at hC; exact hC
  · rw [if_pos (by omega)] at hC
    obtain ⟨k, rfl⟩ := Int.eq_ofNat_of_zero_le (show 0 ≤ k by omega)
    simp only [Int.toNat_natCast] at hC
    have := m_pkl (N := N) hn (show k ≤ n by omega) hC _ 0 rfl (Nat.zero_le _)
    rw [bin_0] at this
    exact this
  · rw [if_pos (by omega), bin_out (by omega)] at hC; exact hC
/-- Vandermonde's sum -/
def vdm (a b u : Nat) : Nat → Nat
  | 0 => 0
  | e + 1 => vdm a b u e + bin a e * binZ b ((u : Int) - e)
theorem binZ_s (b : Nat) {u e : Nat} (h : e ≤ u) : binZ b ((u : Int) - e) = bin b (u - e) := by
  unfold binZ
  rw [if_pos (by omega), show ((u : Int) - (e : Int)).toNat = u - e by omega]
theorem binZ_n (b : Nat) {u e : Nat} (h : u < e) : binZ b ((u : Int) - e) = 0 := by
  unfold binZ
  rw [if_neg (by omega)]
theorem vdm_s (a b u : Nat) : ∀ e, vdm (a + 1) b (u + 1) (e + 1) = vdm a b u e + vdm a b (u + 1) (e + 1)
  | 0 => by
    show 0 + bin (a + 1) 0 * binZ b (((u + 1 : Nat) : Int) - (0 : Nat)) = 0 + (0 + bin a 0 * binZ b (((u + 1 : Nat) : Int) - (0 : Nat)))
    rw [bin_0, bin_0]; omega
  | e + 1 => by
    have ih := vdm_s a b u e
    show vdm (a + 1) b (u + 1) (e + 1) + bin (a + 1) (e + 1) * binZ b (((u + 1 : Nat) : Int) - ((e + 1 : Nat) : Int)) = (vdm a b u e + bin a e * binZ b ((u : Int) - (e : Int))) + (vdm a b (u + 1) (e + 1) + bin a (e + 1) * binZ b (((u + 1 : Nat) : Int) - ((e + 1 : Nat) : Int)))
    rw [ih, show (((u + 1 : Nat) : Int) - ((e + 1 : Nat) : Int)) = (u : Int) - (e : Int) by omega]
    show _ + (bin a e + bin a (e + 1)) * binZ b ((u : Int) - (e : Int)) = _
    rw [Nat.add_mul]
    omega
theorem vdm_big (a b u : Nat) : ∀ d, vdm a b u (u + 1 + d) = vdm a b u (u + 1)
  | 0 => rfl
  | d + 1 => by
    show vdm a b u (u + 1 + d) + bin a (u + 1 + d) * binZ b ((u : Int) - ((u + 1 + d : Nat) : Int)) = _
    rw [binZ_n b (by omega), Nat.mul_zero, vdm_big a b u d]
    rfl
theorem vdm_all : ∀ (a b u : Nat), vdm a b u (u + 1) = bin (a + b) u
  | 0, b, u => by
    have key : ∀ e, vdm 0 b u (e + 1) = bin b u := by
      intro e
      induction e with
      | zero =>
        show 0 + bin 0 0 * binZ b ((u : Int) - ((0 : Nat) : Int)) = _
        rw [binZ_s b (Nat.zero_le u), bin_0, Nat.one_mul, Nat.zero_add, Nat.sub_zero]
      | succ e ih =>
        show vdm 0 b u (e + 1) + bin 0 (e + 1) * binZ b ((u : Int) - ((e + 1 : Nat) : Int)) = _
        rw [ih, bin_out (show 0 < e + 1 by omega), Nat.zero_mul, Nat.add_zero]
    rw [key, Nat.zero_add]
  | a + 1, b, 0 => by
    show 0 + bin (a + 1) 0 * binZ b (((0 : Nat) : Int) - ((0 : Nat) : Int)) = bin (a + 1 + b) 0
    rw [binZ_s b (Nat.le_refl 0), bin_0, bin_0, bin_0]
  | a + 1, b, u + 1 => by
    rw [vdm_s a b u (u + 1), vdm_all a b u, vdm_all a b (u + 1), show a + 1 + b = (a + b) + 1 by omega]
    rfl
theorem vdm_mono (a b u : Nat) : ∀ e, vdm a b u e ≤ bin (a + b) u := by
  intro e
  have mono : ∀ e d, vdm a b u e ≤ vdm a b u (e + d) := by
    intro e d
    induction d with
    | zero => exact Nat.le_refl _
    | succ d ih => exact Nat.le_trans ih (Nat.le_add_right _ _)
  have h1 := mono e (u + 1)
  rw [Nat.add_comm e (u + 1), vdm_big, vdm_all] at h1
  exact h1
/-- the sum from a number on -/
def vdf (s a b u : Nat) : Nat → Nat
  | 0 => 0
  | e + 1 => vdf s a b u e + (if s ≤ e then bin a e * binZ b ((u : Int) - e) else 0)
theorem vdf_le (s a b u : Nat) : ∀ e, vdf s a b u e ≤ vdm a b u e
  | 0 => Nat.le_refl _
  | e + 1 => by
    have := vdf_le s a b u e
    unfold vdf vdm
    split <;> omega
theorem vdf_0 (s a b u : Nat) : ∀ e, e ≤ s → vdf s a b u e = 0
  | 0, _ => rfl
  | e + 1, h => by
    unfold vdf
    rw [vdf_0 s a b u e (by omega), if_neg (by omega)]
theorem vdf_z (s a b u : Nat) {e : Nat} (h : a < e ∨ u < e) : ∀ d, vdf s a b u (e + d) = vdf s a b u e
  | 0 => rfl
  | d + 1 => by
    show vdf s a b u (e + d) + (if s ≤ e + d then bin a (e + d) * binZ b ((u : Int) - ((e + d : Nat) : Int)) else 0) = _
    have : bin a (e + d) * binZ b ((u : Int) - ((e + d : Nat) : Int)) = 0 := by
      rcases h with h | h
      · rw [bin_out (by omega), Nat.zero_mul]
      · rw [binZ_n b (by omega), Nat.mul_zero]
    rw [this, vdf_z s a b u h d]
    split <;> omega
theorem vdf_end (s a b u : Nat) : vdf s a b u (u + 1) = vdf s a b u (a + 1) := by
  rcases Nat.le_total u a with h | h
  · have := vdf_z s a b u (e := u + 1) (Or.inr (by omega)) (a - u)
    rw [show u + 1 + (a - u) = a + 1 by omega] at this
    exact this.symm
  · have := vdf_z s a b u (e := a + 1) (Or.inl (by omega)) (u - a)
    rw [show a + 1 + (u - a) = u + 1 by omega] at this
    exact this
