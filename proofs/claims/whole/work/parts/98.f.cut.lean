/-! read: the reference cuts the text -/
/-- T TOKENS are there -/
def TRN (B : Nat → Int) (L : Nat) (h0 : aH) (T : Nat) (h1 : aH) : Prop := Fr [133, 134, 135, 136] [10] h0 h1 ∧ h1 130 10 = (T : Int) ∧ ∀ j, j < T → h1 133 j = KMP (tkd B L (tps B L j)) ∧ h1 134 j = ((tps B L j : Nat) : Int) ∧ (tkd B L (tps B L j) = 19 → h1 135 j = tvl B L (tps B L j)) ∧ (tkd B L (tps B L j) = 18 → h1 136 j = tvl B L (tps B L j))
theorem TRN.put {B : Nat → Int} {L T : Nat} {h0 h1 h' : aH} (K : TRN B L h0 T h1) {vl nm : Int} (P : PUTM h1 T (tps B L T) (KMP (tkd B L (tps B L T))) vl nm h') (e1 : tkd B L (tps B L T) = 19 → vl = tvl B L (tps B L T)) (e2 : tkd B L (tps B L T) = 18 → nm = tvl B L (tps B L T)) : TRN B L h0 (T + 1) h' := by
  obtain ⟨a, b, c⟩ := K
  obtain ⟨p1, p2, p3, p4⟩ := P
  refine ⟨a.trans p1, by rw [p2]; omega, fun j hj => ?_⟩
  by_cases e : j = T
  · rw [e]
    exact ⟨p3.1, p3.2.1, fun z => by rw [p3.2.2.1]; exact e1 z, fun z => by rw [p3.2.2.2]; exact e2 z⟩
  · obtain ⟨q1, q2, q3, q4⟩ := p4 j (by omega)
    rw [q1, q2, q3, q4]; exact c j (by omega)
theorem okTxt.mv {B : Nat → Int} {L : Nat} {h h' : aH} (Y : okTxt B L h) (f : Fr [133, 134, 135, 136] [10] h h') : okTxt B L h' := by
  unfold okTxt at Y ⊢
  rw [f.2 4 (by decide), f.at 132 (by decide) (by decide)]
  exact Y
theorem BYT_lt {B : Nat → Int} {L i : Nat} {h : aH} (Y : okTxt B L h) : (isLtr (BYT B L i) ↔ i < L ∧ isLtr (B i)) ∧ (isDgt (BYT B L i) ↔ i < L ∧ isDgt (B i)) ∧ ((BYT B L i = 9 ∨ BYT B L i = 10 ∨ BYT B L i = 13 ∨ BYT B L i = 32) ↔ i < L ∧ isBlk (B i)) ∧ (i < L → 0 ≤ B i → BYT B L i = B i) := by
  unfold BYT isLtr isDgt isBlk
  by_cases z : L ≤ i
  · rw [if_pos z]
    refine ⟨⟨fun y => by omega, fun y => by omega⟩, ⟨fun y => by omega, fun y => by omega⟩, ⟨fun y => by omega, fun y => by omega⟩, fun y => by omega⟩
  · rw [if_neg z]
    have := Y.2.2.2 i (by omega)
    refine ⟨⟨fun y => by omega, fun y => by omega⟩, ⟨fun y => by omega, fun y => by omega⟩, ⟨fun y => by omega, fun y => by omega⟩, fun _ y => by omega⟩
/-- what is left of the keys to look at -/
theorem m_k84 {N : Nat} {C : aH → Prop} {h : aH} {i n : Nat} {c : Int} (O : okKey h) (hc : 0 ≤ c ∧ c < 282429536481) (hC : WV N 219 102 [(0, .inr (.inr 130)), (1, .inl (i : Int)), (3, .inl (n : Int)), (4, .inr (.inl c)), (6, .inl (kyF c 18))] h C) : ∀ (d j : Nat), d = 18 - j → j ≤ 18 → WV N 219 84 [(0, .inr (.inr 130)), (1, .inl (i : Int)), (3, .inl (n : Int)), (4, .inr (.inl c)), (6, .inl (kyF c j)), (7, .inl (j : Int))] h C := by
  intro d
  induction d with
  | zero =>
    intro j hd hj
    have : j = 18 := by omega
    subst this
    exact w_219_84 ⟨fun _ => hC, fun z => absurd (show (18 : Int) ≤ ((18 : Nat) : Int) by decide) z⟩
  | succ d ih =>
    intro j hd hj
    have ky : 0 ≤ KYS j ∧ KYS j < 282429536481 := by
      have : ∀ j, j < 18 → 0 ≤ KYS j ∧ KYS j < 282429536481 := by decide
      exact this j (by omega)
    have nx := ih (j + 1) (by omega) (by omega)
    have s : kyF c (j + 1) = if KYS j = c then 20 + (j : Int) else kyF c j := rfl
    refine w_219_84 ⟨fun z => by omega, fun _ => ck_ix (by omega) ?_⟩
    rw [Int.toNat_natCast, O j (by omega)]
    refine ⟨fun ne => w_219_99 (ck_rg (by omega) ?_), fun eq => ck_rg (by omega) (w_219_99 (ck_rg (by omega) ?_))⟩
    · rw [s, if_neg (fun z => ne (sgn_eq.mpr (by omega)))] at nx; exact nx
    · have q : KYS j = c := by have := sgn_eq.mp (Classical.byContradiction eq); omega
      rw [s, if_pos q] at nx; exact nx
theorem wix_8 {B : Nat → Int} {i : Nat} (lin : ∀ j, j < 8 → isLtr (B (i + j))) : wixF (cde B i 8) 18 0 = 18 := by
  obtain ⟨a, b, -⟩ := wixF_le (cde B i 8) 18 0 rfl
  have r := (cde_rg 8 lin).2.2 (by decide)
  have e : ((27 ^ (min 8 8 - 1) : Nat) : Int) = 10460353203 := by decide
  rw [e] at r
  rcases Nat.lt_or_ge (wixF (cde B i 8) 18 0) 18 with y | y
  · have q := b y
    have : ∀ j, j < 18 → WRD j < 10460353203 := by decide
    have := this _ y
    omega
  · omega
theorem m_letters {N : Nat} {C : aH → Prop} {h : aH} {B : Nat → Int} {L T i : Nat} (O : okKey h) (Y : okTxt B L h) (iL : i < L) (lt : isLtr (B i)) (hT : h 130 10 = (T : Int)) (T2 : T < 403) (hC : ∀ h' vl nm, PUTM h T i (KMP (tkd B L i)) vl nm h' → (tkd B L i = 18 → nm = tvl B L i) → WV N 219 6 [(0, .inr (.inr 130)), (1, .inl ((ten B L i : Nat) : Int))] h' C) : WV N 219 49 [(0, .inr (.inr 130)), (1, .inl (i : Int)), (3, .inl 0), (4, .inr (.inl 0))] h C := by
  obtain ⟨ek, ev, ee⟩ := tk_L iL lt
  have lin := rnL_in B (L - i) i
  have lle := rnL_rg B (L - i) i
  have hL2 := Y.2.1
  obtain ⟨n, hn2⟩ : ∃ n, n = rnL B (L - i) i := ⟨_, rfl⟩
  rw [← hn2] at ek ev ee lin lle
  have cr := cde_hi (B := B) (i := i) (k := n) lin
  have out : ∀ kd : Int, kd = KMP (tkd B L i) → WV N 219 102 [(0, .inr (.inr 130)), (1, .inl (i : Int)), (3, .inl (n : Int)), (4, .inr (.inl (cde B i n))), (6, .inl kd)] h C := by
    intro kd e
    rw [e]
    refine w_219_102 (m_token hT T2 (fun h' P => ck_rg (by omega) ?_))
    have := hC h' _ _ P (fun z => ?_)
    · rw [ee] at this
      rw [show ((i + n : Nat) : Int) = (i : Int) + (n : Int) by omega] at this
      exact this
    · rw [ev]
      by_cases q : n ≤ 8
      · rw [if_pos q]
      · rw [if_neg q] at ek; omega
  have fin : (((n : Nat) : Int) ≤ 8 → WV N 219 78 [(0, .inr (.inr 130)), (1, .inl (i : Int)), (3, .inl (n : Int)), (4, .inr (.inl (cde B i n))), (6, .inl 1)] h C) ∧ (¬ (((n : Nat) : Int) ≤ 8) → WV N 219 78 [(0, .inr (.inr 130)), (1, .inl (i : Int)), (3, .inl (n : Int)), (4, .inr (.inl (cde B i n))), (6, .inl 3)] h C) := by
    refine ⟨fun z => w_219_78 ⟨fun q => out 1 ?_, fun q => ?_⟩, fun z => w_219_78 ⟨fun q => out 3 ?_, fun q => by omega⟩⟩
    · have : n = 8 := by omega
      rw [ek, if_pos (by omega), this, wix_8 (fun j hj => lin j (by omega))]
      rfl
    · refine m_k84 O cr (out _ ?_) 18 0 rfl (by decide)
      rw [ek, if_pos (by omega)]
      exact kyF_w _
    · rw [ek, if_neg (by omega)]; rfl
  have key : ∀ (d k : Nat), d = L - (i + k) → i + k ≤ L → n = k + rnL B d (i + k) → WV N 219 49 [(0, .inr (.inr 130)), (1, .inl (i : Int)), (3, .inl (k : Int)), (4, .inr (.inl (cde B i k)))] h C := by
    have stop : ∀ k, n = k → i + k ≤ L → ¬ isLtr (BYT B L (i + k)) → WV N 219 49 [(0, .inr (.inr 130)), (1, .inl (i : Int)), (3, .inl (k : Int)), (4, .inr (.inl (cde B i k)))] h C := by
      intro k e hk nl
      subst e
      refine w_219_49 (ck_rg (by omega) ?_)
      rw [show (i : Int) + (n : Int) = ((i + n : Nat) : Int) by omega]
      exact m_byteAt Y (m_isLetter (fun y => absurd y nl) (fun _ => ⟨fun _ => fin, fun z => absurd rfl z⟩))
    intro d
    induction d with
    | zero =>
      intro k hd hk e
      exact stop k e hk (fun z => by have := (BYT_lt Y).1.mp z; omega)
    | succ d ih =>
      intro k hd hk e
      by_cases y : isLtr (B (i + k))
      · rw [rnL_y y] at e
        have nx := ih (k + 1) (by omega) (by omega) (by rw [show i + (k + 1) = i + k + 1 by omega]; omega)
        have sc : cde B i (k + 1) = if k < 8 then cde B i k * 27 + (B (i + k) - 97 + 1) else cde B i k := rfl
        have crk := cde_hi (B := B) (i := i) (k := k) (fun j hj => lin j (by omega))
        have bt := (BYT_lt (i := i + k) Y).2.2.2 (by omega) (by unfold isLtr at y; omega)
        refine w_219_49 (ck_rg (by omega) ?_)
        rw [show (i : Int) + (k : Int) = ((i + k : Nat) : Int) by omega]
        refine m_byteAt Y (m_isLetter (fun _ => ⟨fun z => absurd z (by decide), fun _ => ⟨fun z => w_219_68 (ck_rg (by omega) ?_), fun z => ck_rg (by omega) (m_byteAt Y (w_214_0 ⟨fun nz => ?_, fun z0 => ?_⟩))⟩⟩) (fun z => absurd ((BYT_lt Y).1.mpr ⟨by omega, y⟩) z))
        · rw [sc, if_neg (by omega)] at nx; exact nx
        · unfold isLtr at y
          rw [sc, if_pos (by omega)] at nx
          rw [bt, show (27 : Int) * cde B i k = cde B i k * 27 by omega]
          exact ck_rl (by omega) (ck_rg (by omega) (ck_rg (by omega) (ck_rl (by omega) (w_219_68 (ck_rg (by omega) nx)))))
        · unfold isLtr at y
          rw [bt] at z0
          omega
      · rw [rnL_n y] at e
        exact stop k e hk (fun z => y ((BYT_lt Y).1.mp z).2)
  exact key (L - i) 0 rfl (by omega) (by rw [Nat.add_zero]; omega)
theorem m_digits {N : Nat} {C : aH → Prop} {h : aH} {B : Nat → Int} {L T i : Nat} (Y : okTxt B L h) (iL : i < L) (lt : isDgt (B i)) (hT : h 130 10 = (T : Int)) (T2 : T < 403) (hC : ∀ h' vl nm, PUTM h T i (KMP (tkd B L i)) vl nm h' → (tkd B L i = 19 → vl = tvl B L i) → WV N 219 6 [(0, .inr (.inr 130)), (1, .inl ((ten B L i : Nat) : Int))] h' C) : WV N 219 121 [(0, .inr (.inr 130)), (1, .inl (i : Int)), (3, .inl 0), (4, .inl 0)] h C := by
  obtain ⟨ek, ev, ee⟩ := tk_D iL lt
  have lin := rnD_in B (L - i) i
  have lle := rnD_rg B (L - i) i
  have hL2 := Y.2.1
  obtain ⟨n, hn2⟩ : ∃ n, n = rnD B (L - i) i := ⟨_, rfl⟩
  rw [← hn2] at ek ev ee lin lle
  have out : ∀ kd : Int, kd = KMP (tkd B L i) → WV N 221 0 [(0, .inr (.inr 130)), (1, .inl kd), (2, .inl (i : Int)), (3, .inl (vle B i n)), (4, .inr (.inl 0))] h (fun h3 => WV N 219 158 [(0, .inr (.inr 130)), (1, .inl (i : Int)), (3, .inl (n : Int))] h3 C) := by
    intro kd e
    rw [e]
    refine m_token hT T2 (fun h' P => w_219_158 (ck_rg (by omega) ?_))
    have := hC h' _ _ P (fun _ => ev.symm)
    rw [ee, show ((i + n : Nat) : Int) = (i : Int) + (n : Int) by omega] at this
    exact this
  have key : ∀ (d k : Nat), d = L - (i + k) → i + k ≤ L → n = k + rnD B d (i + k) → WV N 219 121 [(0, .inr (.inr 130)), (1, .inl (i : Int)), (3, .inl (k : Int)), (4, .inl (vle B i k))] h C := by
    have stop : ∀ k, n = k → i + k ≤ L → ¬ isDgt (BYT B L (i + k)) → WV N 219 121 [(0, .inr (.inr 130)), (1, .inl (i : Int)), (3, .inl (k : Int)), (4, .inl (vle B i k))] h C := by
      intro k e hk nl
      subst e
      refine w_219_121 (ck_rg (by omega) ?_)
      rw [show (i : Int) + (n : Int) = ((i + n : Nat) : Int) by omega]
      refine m_byteAt Y (m_isDigit (fun y => absurd y nl) (fun _ => ⟨fun _ => ⟨fun z => out 2 ?_, fun z => out 3 ?_⟩, fun z => absurd rfl z⟩))
      · rw [ek, if_pos (by omega)]; rfl
      · rw [ek, if_neg (by omega)]; rfl
    intro d
    induction d with
    | zero =>
      intro k hd hk e
      exact stop k e hk (fun z => by have := (BYT_lt Y).2.1.mp z; omega)
    | succ d ih =>
      intro k hd hk e
      by_cases y : isDgt (B (i + k))
      · rw [rnD_y y] at e
        have nx := ih (k + 1) (by omega) (by omega) (by rw [show i + (k + 1) = i + k + 1 by omega]; omega)
        have sc : vle B i (k + 1) = if k < 4 then vle B i k * 10 + (B (i + k) - 48) else vle B i k := rfl
        have crk := vle_hi (B := B) (i := i) (k := k) (fun j hj => lin j (by omega))
        have bt := (BYT_lt (i := i + k) Y).2.2.2 (by omega) (by unfold isDgt at y; omega)
        unfold isDgt at y
        refine w_219_121 (ck_rg (by omega) ?_)
        rw [show (i : Int) + (k : Int) = ((i + k : Nat) : Int) by omega]
        refine m_byteAt Y (m_isDigit (fun _ => ⟨fun z => absurd z (by decide), fun _ => ⟨fun z => w_219_144 (ck_rg (by omega) ?_), fun z => ck_rg (by omega) (ck_rg (by omega) (m_byteAt Y ?_))⟩⟩) (fun z => absurd ((BYT_lt Y).2.1.mpr ⟨by omega, y⟩) z))
        · rw [sc, if_neg (by omega)] at nx; exact nx
        · rw [sc, if_pos (by omega)] at nx
          rw [bt, show (10 : Int) * vle B i k + B (i + k) - 48 = vle B i k * 10 + (B (i + k) - 48) by omega]
          exact ck_rg (by omega) (ck_rg (by omega) (w_219_144 (ck_rg (by omega) nx)))
      · rw [rnD_n y] at e
        exact stop k e hk (fun z => y ((BYT_lt Y).2.1.mp z).2)
  exact key (L - i) 0 rfl (by omega) (by rw [Nat.add_zero]; omega)
/-- the reference's TOKENS, as far as they are looked at -/
def TRF (B : Nat → Int) (L : Nat) (h0 h1 : aH) : Prop := Fr [133, 134, 135, 136] [10] h0 h1 ∧ ∀ j, j ≤ 400 → (∀ i, i < j → tkd B L (tps B L i) < 31) → h1 133 j = KMP (tkd B L (tps B L j)) ∧ h1 134 j = ((tps B L j : Nat) : Int) ∧ (tkd B L (tps B L j) = 19 → h1 135 j = tvl B L (tps B L j)) ∧ (tkd B L (tps B L j) = 18 → h1 136 j = tvl B L (tps B L j))
theorem m_cut {N : Nat} {C : aH → Prop} {h0 : aH} {B : Nat → Int} {L : Nat} (O : okKey h0) (Y : okTxt B L h0) (hC : ∀ h', TRF B L h0 h' → C h') : WV N 219 0 [(0, .inr (.inr 130))] h0 C := by
  have hL2 := Y.2.1
  have key : ∀ (e T : Nat), e = 401 - T → T ≤ 401 → ∀ (d i : Nat) (h1 : aH), d = L - i → i ≤ L → TRN B L h0 T h1 → skB B d i = tps B L T → WV N 219 6 [(0, .inr (.inr 130)), (1, .inl (i : Int))] h1 C := by
    intro e
    induction e with
    | zero =>
      intro T he hT d i h1 hd hi K es
      have : T = 401 := by omega
      subst this
      refine w_219_6 ⟨fun _ => hC h1 ⟨K.1, fun j hj _ => K.2.2 j (by omega)⟩, fun z => by rw [K.2.1] at z; exact absurd (by decide) z⟩
    | succ e ihe =>
      intro T he hT d
      induction d with
      | zero =>
        intro i h1 hd hi K es
        have : i = L := by omega
        subst this
        have es : i = tps B i T := es
        obtain ⟨k1, k2, k3⟩ := tk_E (B := B) (Nat.le_refl i)
        have Y1 := Y.mv K.1
        have sz := Y1.1
        refine w_219_6 ⟨fun z => by rw [K.2.1] at z; omega, fun _ => m_byteAt Y1 ⟨fun z => by omega, fun _ => ?_⟩⟩
        rw [sz]
        refine m_token K.2.1 (by omega) (fun h' P => hC h' ?_)
        have Q : TRN B i h0 (T + 1) h' := by
          refine K.put (vl := 0) (nm := 0) ?_ (fun z => ?_) (fun z => ?_)
          · rw [← es, k1]; exact P
          · rw [← es, k1] at z; omega
          · rw [← es, k1] at z; omega
        refine ⟨Q.1, fun j hj pre => Q.2.2 j ?_⟩
        rcases Nat.lt_or_ge j (T + 1) with y | y
        · exact y
        · have := pre T (by omega)
          rw [← es, k1] at this
          omega
      | succ d ihd =>
        intro i h1 hd hi K es
        have iL : i < L := by omega
        have Y1 := Y.mv K.1
        have sz := Y1.1
        have O1 : okKey h1 := by
          intro j hj
          rw [K.1.at 137 (by decide) (by decide)]
          exact O j hj
        have next : ∀ h', TRN B L h0 (T + 1) h' → tps B L T = i → WV N 219 6 [(0, .inr (.inr 130)), (1, .inl ((ten B L i : Nat) : Int))] h' C := by
          intro h' Q e
          refine ihe (T + 1) (by omega) (by omega) _ (ten B L i) h' rfl (ten_rg (by omega)).1 Q ?_
          show skB B (L - ten B L i) (ten B L i) = skB B (L - ten B L (tps B L T)) (ten B L (tps B L T))
          rw [e]
        refine w_219_6 ⟨fun z => by rw [K.2.1] at z; omega, fun _ => m_byteAt Y1 ⟨fun _ => ?_, fun z => by omega⟩⟩
        by_cases bl : isBlk (B i)
        · have e3 : skB B (d + 1) i = skB B d (i + 1) := if_pos bl
          rw [e3] at es
          have go : WV N 219 39 [(0, .inr (.inr 130)), (1, .inl (i : Int))] h1 C := w_219_39 (ck_rg (by omega) (ihd (i + 1) h1 (by omega) (by omega) K es))
          have b4 := (BYT_lt Y1).2.2.1.mpr ⟨iL, bl⟩
          exact ⟨fun _ => go, fun n1 => ⟨fun _ => go, fun n2 => ⟨fun _ => go, fun n3 => ⟨fun n4 => by omega, fun _ => go⟩⟩⟩⟩
        · have e3 : skB B (d + 1) i = i := if_neg bl
          rw [e3] at es
          have b4 : ¬ (BYT B L i = 9 ∨ BYT B L i = 10 ∨ BYT B L i = 13 ∨ BYT B L i = 32) := fun z => bl ((BYT_lt Y1).2.2.1.mp z).2
          refine ⟨fun z => by omega, fun _ => ⟨fun z => by omega, fun _ => ⟨fun z => by omega, fun _ => ⟨fun _ => ?_, fun z => by omega⟩⟩⟩⟩
          refine m_isLetter (fun l => ⟨fun z => absurd z (by decide), fun _ => ?_⟩) (fun nl => ⟨fun _ => m_isDigit (fun g => ⟨fun z => absurd z (by decide), fun _ => ?_⟩) (fun ng => ⟨fun _ => ck_rg (by omega) ?_, fun z => absurd rfl z⟩), fun z => absurd rfl z⟩)
          · have l2 := ((BYT_lt Y1).1.mp l).2
            refine m_letters O1 Y1 iL l2 K.2.1 (by omega) (fun h' vl nm P e2 => next h' (K.put (vl := vl) (nm := nm) ?_ (fun z => ?_) (fun z => ?_)) es.symm)
            · rw [← es]; exact P
            · exfalso
              rw [← es, (tk_L iL l2).1] at z
              have := (wixF_le (cde B i (rnL B (L - i) i)) 18 0 rfl).1
              split at z <;> omega
            · rw [← es] at z ⊢; exact e2 z
          · have g2 := ((BYT_lt Y1).2.1.mp g).2
            refine m_digits Y1 iL g2 K.2.1 (by omega) (fun h' vl nm P e1 => next h' (K.put (vl := vl) (nm := nm) ?_ (fun z => ?_) (fun z => ?_)) es.symm)
            · rw [← es]; exact P
            · rw [← es] at z ⊢; exact e1 z
            · exfalso
              rw [← es, (tk_D iL g2).1] at z
              split at z <;> omega
          · have nl2 : ¬ isLtr (B i) := fun z => nl ((BYT_lt Y1).1.mpr ⟨iL, z⟩)
            have ng2 : ¬ isDgt (B i) := fun z => ng ((BYT_lt Y1).2.1.mpr ⟨iL, z⟩)
            rw [show (i : Int) + 1 = ((i + 1 : Nat) : Int) by omega]
            refine m_byteAt Y1 (m_sign Y1 iL nl2 ng2 K.2.1 (by omega) (fun h' v P ev => ?_))
            have tl := (ten_rg (B := B) (L := L) (i := i) (by omega)).1
            refine ck_rg (by omega) ?_
            rw [ev]
            have sk := sgK_rg B L i
            have ek := (tk_S iL nl2 ng2).1
            refine next h' (K.put (vl := 0) (nm := 0) ?_ (fun z => ?_) (fun z => ?_)) es.symm
            · rw [← es]; exact P
            · rw [← es] at z; omega
            · rw [← es] at z; omega
  exact w_219_0 (key 401 0 rfl (by decide) _ 0 _ rfl (Nat.zero_le _) ⟨Fr.rfl.upM (by decide), up_same _ _ _ _, fun j hj => absurd hj (Nat.not_lt_zero j)⟩ rfl)
