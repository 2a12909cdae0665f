/-! read: the reference's TOKENS -/
theorem and_255 (x : Int) : am_and x 255 = x % 256 := by
  unfold am_and
  have e : (Int32.ofInt x &&& Int32.ofInt 255).toBitVec = BitVec.ofInt 32 x &&& 255#32 := rfl
  rw [show (Int32.ofInt x &&& Int32.ofInt 255).toInt = (Int32.ofInt x &&& Int32.ofInt 255).toBitVec.toInt from rfl, e]
  have h1 : (BitVec.ofInt 32 x &&& 255#32).toNat = (x % 4294967296).toNat % 256 := by
    rw [BitVec.toNat_and, BitVec.toNat_ofInt]
    show (x % 4294967296).toNat &&& 255 = _
    exact Nat.and_two_pow_sub_one_eq_mod _ 8
  rw [BitVec.toInt_eq_toNat_cond, h1]
  omega
def okKey (h : aH) : Prop := ∀ j, j < 18 → h 137 j = KYS j
/-- the reference's text is B -/
def okTxt (B : Nat → Int) (L : Nat) (h : aH) : Prop := h 130 4 = (L : Int) ∧ L ≤ 2000 ∧ (∀ i, i < L → h 132 i = B i) ∧ ∀ i, i < L → -128 ≤ B i ∧ B i < 128
def BYT (B : Nat → Int) (L i : Nat) : Int := if L ≤ i then 0 else B i % 256
theorem m_byteAt {N : Nat} {C : Int → aH → Prop} {h : aH} {B : Nat → Int} {L i : Nat} (Y : okTxt B L h) (hC : C (BYT B L i) h) : WI N 220 0 [(0, .inr (.inr 130)), (1, .inl (i : Int))] h C := by
  obtain ⟨y1, y2, y3, y4⟩ := Y
  refine w_220_0 ?_
  rw [y1]
  unfold BYT at hC
  refine ⟨fun z => ?_, fun z => ck_ix (by omega) ?_⟩
  · rw [if_pos (by omega)] at hC; exact hC
  · rw [if_neg (by omega)] at hC
    rw [Int.toNat_natCast, y3 i (by omega), and_255]; exact hC
theorem m_isLetter {N : Nat} {C : Int → aH → Prop} {h : aH} {b : Int} (y : isLtr b → C 1 h) (n : ¬ isLtr b → C 0 h) : WI N 222 0 [(0, .inl b)] h C :=
  w_222_0 ⟨fun _ => ck_t0 (n (fun z => by have := z.1; omega)), fun _ => ⟨fun _ => ck_t0 (n (fun z => by have := z.2; omega)), fun _ => ck_t1 (y ⟨by omega, by omega⟩)⟩⟩
theorem m_isDigit {N : Nat} {C : Int → aH → Prop} {h : aH} {b : Int} (y : isDgt b → C 1 h) (n : ¬ isDgt b → C 0 h) : WI N 223 0 [(0, .inl b)] h C :=
  w_223_0 ⟨fun _ => ck_t0 (n (fun z => by have := z.1; omega)), fun _ => ⟨fun _ => ck_t0 (n (fun z => by have := z.2; omega)), fun _ => ck_t1 (y ⟨by omega, by omega⟩)⟩⟩
/-- one TOKEN more -/
def PUTM (h1 : aH) (T pl : Nat) (kd vl nm : Int) (h' : aH) : Prop := Fr [133, 134, 135, 136] [10] h1 h' ∧ h' 130 10 = (T : Int) + 1 ∧ (h' 133 T = kd ∧ h' 134 T = (pl : Int) ∧ h' 135 T = vl ∧ h' 136 T = nm) ∧ ∀ j, j < T → h' 133 j = h1 133 j ∧ h' 134 j = h1 134 j ∧ h' 135 j = h1 135 j ∧ h' 136 j = h1 136 j
theorem m_token {N : Nat} {C : aH → Prop} {h : aH} {T pl : Nat} {kd vl nm : Int} (hT : h 130 10 = (T : Int)) (T2 : T < 403) (hC : ∀ h', PUTM h T pl kd vl nm h' → C h') : WV N 221 0 [(0, .inr (.inr 130)), (1, .inl kd), (2, .inl (pl : Int)), (3, .inl vl), (4, .inr (.inl nm))] h C := by
  refine w_221_0 ?_
  rw [hT]
  refine ck_ix (by omega) (ck_ix (by omega) (ck_ix (by omega) (ck_ix (by omega) (ck_rg (by omega) ?_))))
  rw [Int.toNat_natCast]
  refine hC _ ⟨((((Fr.rfl.up (by decide) (by decide)).up (by decide) (by decide)).up (by decide) (by decide)).up (by decide) (by decide)).upM (by decide), ?_, ⟨?_, ?_, ?_, ?_⟩, fun j hj => ⟨?_, ?_, ?_, ?_⟩⟩
  · simp [up_in, up_row]
  · simp [up_in, up_row]
  · simp [up_in, up_row]
  · simp [up_in, up_row]
  · simp [up_in, up_row]
  · simp [up_in, up_row, show j ≠ T by omega]
  · simp [up_in, up_row, show j ≠ T by omega]
  · simp [up_in, up_row, show j ≠ T by omega]
  · simp [up_in, up_row, show j ≠ T by omega]
def kyF (c : Int) : Nat → Int
  | 0 => 1
  | j + 1 => if KYS j = c then 20 + (j : Int) else kyF c j
theorem kyF_n {c : Int} : ∀ j, (∀ i, i < j → KYS i ≠ c) → kyF c j = 1
  | 0, _ => rfl
  | j + 1, e => by
    unfold kyF
    rw [if_neg (e j (Nat.lt_succ_self j))]
    exact kyF_n j (fun i hi => e i (Nat.lt_succ_of_lt hi))
theorem kyF_w (c : Int) : kyF c 18 = KMP (wixF c 18 0) := by
  obtain ⟨a, b, d⟩ := wixF_le c 18 0 rfl
  rcases Nat.lt_or_ge (wixF c 18 0) 18 with y | y
  · have e := b y
    have all : ∀ j, j < 18 → kyF (WRD j) 18 = KMP j := by decide
    have := all _ y
    rw [e] at this
    exact this
  · have w : wixF c 18 0 = 18 := by omega
    rw [w]
    have pm : ∀ j, j < 18 → ∃ i, i < 18 ∧ WRD i = KYS j := by decide
    refine kyF_n 18 (fun j hj z => ?_)
    obtain ⟨i, i1, i2⟩ := pm j hj
    exact d i (Nat.zero_le _) (by omega) (by rw [i2]; exact z)
def sgC (c : Int) : Nat := if c = 59 then 20 else if c = 43 then 21 else if c = 45 then 22 else if c = 42 then 23 else if c = 47 then 24 else if c = 60 then 25 else if c = 40 then 26 else if c = 41 then 27 else if c = 91 then 28 else if c = 93 then 29 else 32
def F70 (c x : Int) : Int := if c = 93 then 15 else x
def F64 (c x : Int) : Int := F70 c (if c = 91 then 14 else x)
def F58 (c x : Int) : Int := F64 c (if c = 60 then 13 else x)
def F52 (c x : Int) : Int := F58 c (if c = 47 then 11 else x)
def F46 (c x : Int) : Int := F52 c (if c = 42 then 10 else x)
def F40 (c x : Int) : Int := F46 c (if c = 45 then 9 else x)
def F34 (c x : Int) : Int := F40 c (if c = 43 then 8 else x)
theorem F34_sg {c : Int} (h : 0 ≤ c ∧ c < 256) : F34 c (if c = 59 then 4 else if c = 40 then 6 else if c = 41 then 7 else 3) = KMP (sgC c) := by
  obtain ⟨n, rfl⟩ := Int.eq_ofNat_of_zero_le h.1
  have : ∀ n : Nat, n < 256 → F34 (n : Int) (if (n : Int) = 59 then 4 else if (n : Int) = 40 then 6 else if (n : Int) = 41 then 7 else 3) = KMP (sgC (n : Int)) := by decide +kernel
  exact this n (by omega)
theorem F34_61 : F34 61 12 = 12 := by decide
theorem sgK_C {B : Nat → Int} {L i : Nat} (n : B i ≠ 61) (hb : -128 ≤ B i ∧ B i < 128) : sgK B L i = sgC (B i % 256) := by
  unfold sgK sgC
  rw [if_neg n]
  have e : ∀ k : Int, 0 ≤ k → k < 128 → (B i = k ↔ B i % 256 = k) := fun k a b => by omega
  simp only [e 59 (by decide) (by decide), e 43 (by decide) (by decide), e 45 (by decide) (by decide), e 42 (by decide) (by decide), e 47 (by decide) (by decide), e 60 (by decide) (by decide), e 40 (by decide) (by decide), e 41 (by decide) (by decide), e 91 (by decide) (by decide), e 93 (by decide) (by decide)]
theorem m_sg34 {N : Nat} {C : Int → aH → Prop} {h : aH} {i c x4 x5 : Int} (H : WI N 224 76 [(0, .inr (.inr 130)), (1, .inl i), (4, .inl x4), (5, .inl (F34 c x5))] h C) : WI N 224 34 [(0, .inr (.inr 130)), (1, .inl i), (2, .inl c), (4, .inl x4), (5, .inl x5)] h C := by
  have s70 : ∀ x, WI N 224 76 [(0, .inr (.inr 130)), (1, .inl i), (4, .inl x4), (5, .inl (F70 c x))] h C → WI N 224 70 [(0, .inr (.inr 130)), (1, .inl i), (2, .inl c), (4, .inl x4), (5, .inl x)] h C := fun x g => by
    unfold F70 at g
    exact w_224_70 ⟨fun z => by rw [if_neg z] at g; exact g, fun z => by rw [if_pos (Classical.byContradiction z)] at g; exact g⟩
  have s64 : ∀ x, WI N 224 76 [(0, .inr (.inr 130)), (1, .inl i), (4, .inl x4), (5, .inl (F64 c x))] h C → WI N 224 64 [(0, .inr (.inr 130)), (1, .inl i), (2, .inl c), (4, .inl x4), (5, .inl x)] h C := fun x g => by
    unfold F64 at g
    exact w_224_64 ⟨fun z => by rw [if_neg z] at g; exact s70 _ g, fun z => by rw [if_pos (Classical.byContradiction z)] at g; exact s70 _ g⟩
  have s58 : ∀ x, WI N 224 76 [(0, .inr (.inr 130)), (1, .inl i), (4, .inl x4), (5, .inl (F58 c x))] h C → WI N 224 58 [(0, .inr (.inr 130)), (1, .inl i), (2, .inl c), (4, .inl x4), (5, .inl x)] h C := fun x g => by
    unfold F58 at g
    exact w_224_58 ⟨fun z => by rw [if_neg z] at g; exact s64 _ g, fun z => by rw [if_pos (Classical.byContradiction z)] at g; exact s64 _ g⟩
  have s52 : ∀ x, WI N 224 76 [(0, .inr (.inr 130)), (1, .inl i), (4, .inl x4), (5, .inl (F52 c x))] h C → WI N 224 52 [(0, .inr (.inr 130)), (1, .inl i), (2, .inl c), (4, .inl x4), (5, .inl x)] h C := fun x g => by
    unfold F52 at g
    exact w_224_52 ⟨fun z => by rw [if_neg z] at g; exact s58 _ g, fun z => by rw [if_pos (Classical.byContradiction z)] at g; exact s58 _ g⟩
  have s46 : ∀ x, WI N 224 76 [(0, .inr (.inr 130)), (1, .inl i), (4, .inl x4), (5, .inl (F46 c x))] h C → WI N 224 46 [(0, .inr (.inr 130)), (1, .inl i), (2, .inl c), (4, .inl x4), (5, .inl x)] h C := fun x g => by
    unfold F46 at g
    exact w_224_46 ⟨fun z => by rw [if_neg z] at g; exact s52 _ g, fun z => by rw [if_pos (Classical.byContradiction z)] at g; exact s52 _ g⟩
  have s40 : ∀ x, WI N 224 76 [(0, .inr (.inr 130)), (1, .inl i), (4, .inl x4), (5, .inl (F40 c x))] h C → WI N 224 40 [(0, .inr (.inr 130)), (1, .inl i), (2, .inl c), (4, .inl x4), (5, .inl x)] h C := fun x g => by
    unfold F40 at g
    exact w_224_40 ⟨fun z => by rw [if_neg z] at g; exact s46 _ g, fun z => by rw [if_pos (Classical.byContradiction z)] at g; exact s46 _ g⟩
  unfold F34 at H
  exact w_224_34 ⟨fun z => by rw [if_neg z] at H; exact s40 _ H, fun z => by rw [if_pos (Classical.byContradiction z)] at H; exact s40 _ H⟩
theorem m_sign {N : Nat} {C : Int → aH → Prop} {h : aH} {B : Nat → Int} {L T i : Nat} (Y : okTxt B L h) (iL : i < L) (nl : ¬ isLtr (B i)) (nd : ¬ isDgt (B i)) (hT : h 130 10 = (T : Int)) (T2 : T < 403) (hC : ∀ h' v, PUTM h T i (KMP (tkd B L i)) 0 0 h' → (i : Int) + v = ((ten B L i : Nat) : Int) → C v h') : WI N 224 0 [(0, .inr (.inr 130)), (1, .inl (i : Int)), (2, .inl (BYT B L i)), (3, .inl (BYT B L (i + 1)))] h C := by
  obtain ⟨ek, -, ee⟩ := tk_S iL nl nd
  have hb := Y.2.2.2 i iL
  have e1 : BYT B L i = B i % 256 := if_neg (Nat.not_le.mpr iL)
  have e2 : BYT B L (i + 1) = 61 ↔ i + 1 < L ∧ B (i + 1) = 61 := by
    unfold BYT
    by_cases z : L ≤ i + 1
    · rw [if_pos z]; omega
    · rw [if_neg z]
      have := Y.2.2.2 (i + 1) (by omega)
      omega
  have fin : ∀ (x4 kd : Int), kd = KMP (tkd B L i) → ((x4 = 0 ∧ ten B L i = i + 1) ∨ (x4 = 1 ∧ ten B L i = i + 2)) → WI N 224 76 [(0, .inr (.inr 130)), (1, .inl (i : Int)), (4, .inl x4), (5, .inl kd)] h C := by
    intro x4 kd e o
    refine w_224_76 (m_token hT T2 (fun h' P => ?_))
    rw [e] at P
    refine ⟨fun z => hC h' 1 P (by omega), fun z => hC h' 2 P (by omega)⟩
  have zero : ¬ (B i = 61 ∧ (i + 1 < L ∧ B (i + 1) = 61)) → WI N 224 12 [(0, .inr (.inr 130)), (1, .inl (i : Int)), (2, .inl (BYT B L i)), (4, .inl 0)] h C := by
    intro ne
    have s30 : ¬ sgK B L i = 30 := by
      by_cases q : B i = 61
      · unfold sgK
        rw [if_pos q, if_neg (fun z => ne ⟨q, z⟩)]
        decide
      · exact sgK_30 q
    rw [if_neg s30] at ee
    have kq : F34 (BYT B L i) (if BYT B L i = 59 then 4 else if BYT B L i = 40 then 6 else if BYT B L i = 41 then 7 else 3) = KMP (tkd B L i) := by
      rw [ek, e1]
      by_cases q : B i = 61
      · have : sgK B L i = 32 := by
          unfold sgK
          rw [if_pos q, if_neg (fun z => ne ⟨q, z⟩)]
        rw [this, q]; decide
      · rw [sgK_C q hb]
        exact F34_sg (by omega)
    have go := fun (x : Int) (e : x = if BYT B L i = 59 then 4 else if BYT B L i = 40 then 6 else if BYT B L i = 41 then 7 else 3) => m_sg34 (N := N) (C := C) (h := h) (i := (i : Int)) (c := BYT B L i) (x4 := 0) (x5 := x) (fin 0 _ (by rw [e]; exact kq) (Or.inl ⟨rfl, ee⟩))
    refine w_224_12 ⟨fun _ => ⟨fun n59 => ⟨fun n40 => ⟨fun n41 => go 3 ?_, fun y41 => go 7 ?_⟩, fun y40 => go 6 ?_⟩, fun y59 => go 4 ?_⟩, fun z => absurd rfl z⟩
    · rw [if_neg n59, if_neg n40, if_neg n41]
    · rw [if_neg n59, if_neg n40, if_pos (Classical.byContradiction y41)]
    · rw [if_neg n59, if_pos (Classical.byContradiction y40)]
    · rw [if_pos (Classical.byContradiction y59)]
  refine w_224_0 ⟨fun ne => w_224_9 (zero (fun z => ne (by rw [e1, z.1]; rfl))), fun eq => ⟨fun ne => w_224_9 (zero (fun z => ne (e2.mpr z.2))), fun eq2 => ?_⟩⟩
  have b61 : B i = 61 := by
    have := Classical.byContradiction eq
    rw [e1] at this
    omega
  have nx := e2.mp (Classical.byContradiction eq2)
  have s30 : sgK B L i = 30 := by
    unfold sgK
    rw [if_pos b61, if_pos nx]
  rw [if_pos s30] at ee
  refine w_224_12 ⟨fun z => absurd z (by decide), fun _ => m_sg34 (fin 1 _ ?_ (Or.inr ⟨rfl, ee⟩))⟩
  rw [ek, s30, e1, b61]
  decide
