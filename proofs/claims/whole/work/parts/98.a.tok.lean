/-! read: TOKENS, as numbers -/
def isLtr (b : Int) : Prop := 97 ≤ b ∧ b ≤ 122
def isDgt (b : Int) : Prop := 48 ≤ b ∧ b ≤ 57
def isBlk (b : Int) : Prop := b = 9 ∨ b = 10 ∨ b = 13 ∨ b = 32
/-- past the blanks -/
def skB (B : Nat → Int) : Nat → Nat → Nat
  | 0, i => i
  | d + 1, i => if B i = 9 ∨ B i = 10 ∨ B i = 13 ∨ B i = 32 then skB B d (i + 1) else i
/-- how many letters, digits -/
def rnL (B : Nat → Int) : Nat → Nat → Nat
  | 0, _ => 0
  | d + 1, i => if 97 ≤ B i ∧ B i ≤ 122 then rnL B d (i + 1) + 1 else 0
def rnD (B : Nat → Int) : Nat → Nat → Nat
  | 0, _ => 0
  | d + 1, i => if 48 ≤ B i ∧ B i ≤ 57 then rnD B d (i + 1) + 1 else 0
def cde (B : Nat → Int) (i : Nat) : Nat → Int
  | 0 => 0
  | k + 1 => if k < 8 then cde B i k * 27 + (B (i + k) - 97 + 1) else cde B i k
def vle (B : Nat → Int) (i : Nat) : Nat → Int
  | 0 => 0
  | k + 1 => if k < 4 then vle B i k * 10 + (B (i + k) - 48) else vle B i k
def WRD (j : Nat) : Int := [247702, 5146, 92777419, 168984, 82528, 464061, 664272, 1597, 1841546, 119360, 383153, 7535943612, 257, 583, 237470, 434012, 4351177, 670208].getD j 0
def KYS (j : Nat) : Int := [1597, 1841546, 119360, 383153, 7535943612, 257, 82528, 583, 237470, 434012, 4351177, 670208, 247702, 5146, 92777419, 168984, 464061, 664272].getD j 0
/-- the reference's kind of a kind -/
def KMP (k : Nat) : Int := [32, 33, 34, 35, 26, 36, 37, 20, 21, 22, 23, 24, 25, 27, 28, 29, 30, 31, 1, 2, 4, 8, 9, 10, 11, 13, 6, 7, 14, 15, 12, 0, 3].getD k 0
def wixF (c : Int) : Nat → Nat → Nat
  | 0, _ => 18
  | d + 1, j => if WRD j = c then j else wixF c d (j + 1)
def sgK (B : Nat → Int) (L i : Nat) : Nat :=
  if B i = 61 then (if i + 1 < L ∧ B (i + 1) = 61 then 30 else 32) else if B i = 59 then 20 else if B i = 43 then 21 else if B i = 45 then 22 else if B i = 42 then 23 else if B i = 47 then 24 else if B i = 60 then 25 else if B i = 40 then 26 else if B i = 41 then 27 else if B i = 91 then 28 else if B i = 93 then 29 else 32
/-- what stands at i: its kind, number, where it ends -/
def tkd (B : Nat → Int) (L i : Nat) : Nat :=
  if L ≤ i then 31 else if 97 ≤ B i ∧ B i ≤ 122 then (if rnL B (L - i) i ≤ 8 then wixF (cde B i (rnL B (L - i) i)) 18 0 else 32) else if 48 ≤ B i ∧ B i ≤ 57 then (if rnD B (L - i) i ≤ 4 then 19 else 32) else sgK B L i
def tvl (B : Nat → Int) (L i : Nat) : Int :=
  if L ≤ i then 0 else if 97 ≤ B i ∧ B i ≤ 122 then (if rnL B (L - i) i ≤ 8 then cde B i (rnL B (L - i) i) else 0) else if 48 ≤ B i ∧ B i ≤ 57 then vle B i (rnD B (L - i) i) else 0
def ten (B : Nat → Int) (L i : Nat) : Nat :=
  if L ≤ i then i else if 97 ≤ B i ∧ B i ≤ 122 then i + rnL B (L - i) i else if 48 ≤ B i ∧ B i ≤ 57 then i + rnD B (L - i) i else if sgK B L i = 30 then i + 2 else i + 1
def nxp (B : Nat → Int) (L : Nat) : Nat → Nat
  | 0 => 0
  | j + 1 => ten B L (skB B (L - nxp B L j) (nxp B L j))
def tps (B : Nat → Int) (L j : Nat) : Nat := skB B (L - nxp B L j) (nxp B L j)
theorem skB_rg (B : Nat → Int) : ∀ d i, i ≤ skB B d i ∧ skB B d i ≤ i + d
  | 0, i => ⟨Nat.le_refl i, Nat.le_refl i⟩
  | d + 1, i => by
    unfold skB
    split
    · have := skB_rg B d (i + 1); omega
    · omega
theorem skB_nb (B : Nat → Int) : ∀ d i, skB B d i < i + d → ¬ isBlk (B (skB B d i))
  | 0, i, h => absurd h (Nat.lt_irrefl i)
  | d + 1, i, h => by
    unfold skB at h ⊢
    by_cases c : B i = 9 ∨ B i = 10 ∨ B i = 13 ∨ B i = 32
    · rw [if_pos c] at h ⊢
      exact skB_nb B d (i + 1) (by omega)
    · rw [if_neg c]; exact c
theorem rnL_rg (B : Nat → Int) : ∀ d i, rnL B d i ≤ d
  | 0, _ => Nat.le_refl 0
  | d + 1, i => by
    have := rnL_rg B d (i + 1)
    unfold rnL
    split <;> omega
theorem rnD_rg (B : Nat → Int) : ∀ d i, rnD B d i ≤ d
  | 0, _ => Nat.le_refl 0
  | d + 1, i => by
    have := rnD_rg B d (i + 1)
    unfold rnD
    split <;> omega
theorem rnL_in (B : Nat → Int) : ∀ d i k, k < rnL B d i → isLtr (B (i + k))
  | 0, _, k, h => absurd h (Nat.not_lt_zero k)
  | d + 1, i, k, h => by
    unfold rnL at h
    by_cases c : 97 ≤ B i ∧ B i ≤ 122
    · rw [if_pos c] at h
      cases k with
      | zero => exact c
      | succ k =>
        have := rnL_in B d (i + 1) k (by omega)
        rw [show i + (k + 1) = i + 1 + k by omega]
        exact this
    · rw [if_neg c] at h
      exact absurd h (Nat.not_lt_zero k)
theorem rnD_in (B : Nat → Int) : ∀ d i k, k < rnD B d i → isDgt (B (i + k))
  | 0, _, k, h => absurd h (Nat.not_lt_zero k)
  | d + 1, i, k, h => by
    unfold rnD at h
    by_cases c : 48 ≤ B i ∧ B i ≤ 57
    · rw [if_pos c] at h
      cases k with
      | zero => exact c
      | succ k =>
        have := rnD_in B d (i + 1) k (by omega)
        rw [show i + (k + 1) = i + 1 + k by omega]
        exact this
    · rw [if_neg c] at h
      exact absurd h (Nat.not_lt_zero k)
theorem cde_rg {B : Nat → Int} {i : Nat} : ∀ k, (∀ j, j < k → isLtr (B (i + j))) → 0 ≤ cde B i k ∧ cde B i k < ((27 ^ (min k 8) : Nat) : Int) ∧ (1 ≤ k → ((27 ^ (min k 8 - 1) : Nat) : Int) ≤ cde B i k)
  | 0, _ => ⟨Int.le_refl 0, (show (0 : Int) < ((27 ^ (min 0 8) : Nat) : Int) from by decide), fun z => absurd z (by decide)⟩
  | k + 1, e => by
    obtain ⟨a, b, d⟩ := cde_rg k (fun j hj => e j (by omega))
    have l := e k (Nat.lt_succ_self k)
    unfold isLtr at l
    unfold cde
    by_cases c : k < 8
    · rw [if_pos c]
      have e1 : min (k + 1) 8 = min k 8 + 1 := by omega
      rw [e1, Nat.pow_succ, Nat.add_sub_cancel]
      refine ⟨by omega, by omega, fun _ => ?_⟩
      by_cases z : k = 0
      · subst z
        simp only [Nat.zero_min, Nat.pow_zero]
        omega
      · have e2 : min k 8 = (min k 8 - 1) + 1 := by omega
        have := d (by omega)
        rw [e2, Nat.pow_succ]
        omega
    · rw [if_neg c]
      have e1 : min (k + 1) 8 = min k 8 := by omega
      rw [e1]
      exact ⟨a, b, fun _ => d (by omega)⟩
theorem cde_hi {B : Nat → Int} {i k : Nat} (e : ∀ j, j < k → isLtr (B (i + j))) : 0 ≤ cde B i k ∧ cde B i k < 282429536481 := by
  obtain ⟨a, b, -⟩ := cde_rg k e
  have : (27 ^ (min k 8) : Nat) ≤ 27 ^ 8 := Nat.pow_le_pow_right (by decide) (by omega)
  omega
theorem vle_rg {B : Nat → Int} {i : Nat} : ∀ k, (∀ j, j < k → isDgt (B (i + j))) → 0 ≤ vle B i k ∧ vle B i k < ((10 ^ (min k 4) : Nat) : Int)
  | 0, _ => ⟨Int.le_refl 0, (show (0 : Int) < ((10 ^ (min 0 4) : Nat) : Int) from by decide)⟩
  | k + 1, e => by
    obtain ⟨a, b⟩ := vle_rg k (fun j hj => e j (by omega))
    have l := e k (Nat.lt_succ_self k)
    unfold isDgt at l
    unfold vle
    by_cases c : k < 4
    · rw [if_pos c]
      have e1 : min (k + 1) 4 = min k 4 + 1 := by omega
      rw [e1, Nat.pow_succ]
      omega
    · rw [if_neg c]
      have e1 : min (k + 1) 4 = min k 4 := by omega
      rw [e1]
      exact ⟨a, b⟩
theorem vle_hi {B : Nat → Int} {i k : Nat} (e : ∀ j, j < k → isDgt (B (i + j))) : 0 ≤ vle B i k ∧ vle B i k < 10000 := by
  obtain ⟨a, b⟩ := vle_rg k e
  have : (10 ^ (min k 4) : Nat) ≤ 10 ^ 4 := Nat.pow_le_pow_right (by decide) (by omega)
  omega
theorem wixF_le (c : Int) : ∀ d j, j + d = 18 → wixF c d j ≤ 18 ∧ (wixF c d j < 18 → WRD (wixF c d j) = c) ∧ ∀ m, j ≤ m → m < wixF c d j → WRD m ≠ c
  | 0, j, h => ⟨Nat.le_refl 18, fun z => absurd z (Nat.lt_irrefl 18), fun m a b => by unfold wixF at b; omega⟩
  | d + 1, j, h => by
    have ih := wixF_le c d (j + 1) (by omega)
    unfold wixF
    by_cases e : WRD j = c
    · rw [if_pos e]
      exact ⟨by omega, fun _ => e, fun m a b => by omega⟩
    · rw [if_neg e]
      refine ⟨ih.1, ih.2.1, fun m a b => ?_⟩
      by_cases z : m = j
      · rw [z]; exact e
      · exact ih.2.2 m (by omega) b
theorem sgK_rg (B : Nat → Int) (L i : Nat) : 20 ≤ sgK B L i ∧ sgK B L i ≤ 32 ∧ sgK B L i ≠ 31 := by
  unfold sgK
  repeat' split
  all_goals decide
theorem tkd_rg (B : Nat → Int) (L i : Nat) : tkd B L i ≤ 32 := by
  unfold tkd
  have := sgK_rg B L i
  have := (wixF_le (cde B i (rnL B (L - i) i)) 18 0 rfl).1
  repeat' split
  all_goals omega
theorem ten_rg {B : Nat → Int} {L i : Nat} (h : i ≤ L) : ten B L i ≤ L ∧ (i < L → i < ten B L i) := by
  unfold ten
  by_cases c : L ≤ i
  · rw [if_pos c]; omega
  · rw [if_neg c]
    by_cases l : 97 ≤ B i ∧ B i ≤ 122
    · rw [if_pos l]
      have a := rnL_rg B (L - i) i
      obtain ⟨d, hd⟩ : ∃ d, L - i = d + 1 := ⟨L - i - 1, by omega⟩
      have e : 0 < rnL B (L - i) i := by
        rw [hd]; unfold rnL; rw [if_pos l]; omega
      omega
    · rw [if_neg l]
      by_cases g : 48 ≤ B i ∧ B i ≤ 57
      · rw [if_pos g]
        have a := rnD_rg B (L - i) i
        obtain ⟨d, hd⟩ : ∃ d, L - i = d + 1 := ⟨L - i - 1, by omega⟩
        have e : 0 < rnD B (L - i) i := by
          rw [hd]; unfold rnD; rw [if_pos g]; omega
        omega
      · rw [if_neg g]
        by_cases s : sgK B L i = 30
        · rw [if_pos s]
          have : i + 1 < L := by
            unfold sgK at s
            by_cases q : B i = 61
            · rw [if_pos q] at s
              by_cases r : i + 1 < L ∧ B (i + 1) = 61
              · exact r.1
              · rw [if_neg r] at s; omega
            · rw [if_neg q] at s
              exfalso
              revert s
              repeat' split
              all_goals decide
          omega
        · rw [if_neg s]; omega
theorem nxp_le (B : Nat → Int) (L : Nat) : ∀ j, nxp B L j ≤ L ∧ tps B L j ≤ L
  | 0 => by
    have := skB_rg B (L - 0) 0
    exact ⟨Nat.zero_le _, by unfold tps nxp; omega⟩
  | j + 1 => by
    have ih := nxp_le B L j
    have a : nxp B L (j + 1) ≤ L := (ten_rg ih.2).1
    have := skB_rg B (L - nxp B L (j + 1)) (nxp B L (j + 1))
    exact ⟨a, by unfold tps; omega⟩
theorem tps_lt {B : Nat → Int} {L j : Nat} (h : tkd B L (tps B L j) ≠ 31) : tps B L j < tps B L (j + 1) := by
  have b := nxp_le B L j
  have c : tps B L j < L := by
    rcases Nat.lt_or_ge (tps B L j) L with y | y
    · exact y
    · exact absurd (if_pos y) h
  have d := (ten_rg (B := B) b.2).2 c
  have e := (skB_rg B (L - nxp B L (j + 1)) (nxp B L (j + 1))).1
  have f : nxp B L (j + 1) = ten B L (tps B L j) := rfl
  show tps B L j < skB B (L - nxp B L (j + 1)) (nxp B L (j + 1))
  omega
theorem tk_E {B : Nat → Int} {L i : Nat} (h : L ≤ i) : tkd B L i = 31 ∧ tvl B L i = 0 ∧ ten B L i = i := ⟨if_pos h, if_pos h, if_pos h⟩
theorem tk_L {B : Nat → Int} {L i : Nat} (h : i < L) (l : isLtr (B i)) : (tkd B L i = if rnL B (L - i) i ≤ 8 then wixF (cde B i (rnL B (L - i) i)) 18 0 else 32) ∧ (tvl B L i = if rnL B (L - i) i ≤ 8 then cde B i (rnL B (L - i) i) else 0) ∧ ten B L i = i + rnL B (L - i) i :=
  have l : 97 ≤ B i ∧ B i ≤ 122 := l
  have n : ¬ L ≤ i := Nat.not_le.mpr h
  ⟨(if_neg n).trans (if_pos l), (if_neg n).trans (if_pos l), (if_neg n).trans (if_pos l)⟩
theorem tk_D {B : Nat → Int} {L i : Nat} (h : i < L) (l : isDgt (B i)) : (tkd B L i = if rnD B (L - i) i ≤ 4 then 19 else 32) ∧ tvl B L i = vle B i (rnD B (L - i) i) ∧ ten B L i = i + rnD B (L - i) i :=
  have l : 48 ≤ B i ∧ B i ≤ 57 := l
  have g : ¬ (97 ≤ B i ∧ B i ≤ 122) := by omega
  have n : ¬ L ≤ i := Nat.not_le.mpr h
  ⟨(if_neg n).trans ((if_neg g).trans (if_pos l)), (if_neg n).trans ((if_neg g).trans (if_pos l)), (if_neg n).trans ((if_neg g).trans (if_pos l))⟩
theorem tk_S {B : Nat → Int} {L i : Nat} (h : i < L) (l : ¬ isLtr (B i)) (g : ¬ isDgt (B i)) : tkd B L i = sgK B L i ∧ tvl B L i = 0 ∧ ten B L i = if sgK B L i = 30 then i + 2 else i + 1 :=
  have l : ¬ (97 ≤ B i ∧ B i ≤ 122) := l
  have g : ¬ (48 ≤ B i ∧ B i ≤ 57) := g
  have n : ¬ L ≤ i := Nat.not_le.mpr h
  ⟨(if_neg n).trans ((if_neg l).trans (if_neg g)), (if_neg n).trans ((if_neg l).trans (if_neg g)), (if_neg n).trans ((if_neg l).trans (if_neg g))⟩
