/-! THE ROUND: the reference's answer -/
def EVH (h : aH) (e : Int) (q : Nat → Nat) : Int := EV (HRR h) (SPT h) e q (NE h)
theorem SPT_rg {h : aH} (P : PI h) : ∀ i, i < NE h → 0 ≤ SPT h i ∧ SPT h i ≤ 9 := fun i hi => by
  have hz := P.1.1
  unfold okSz at hz
  obtain ⟨a, _⟩ := EI_ok P hi
  have l := P.2.1.1 (EI h i) (by unfold NSL at a; omega)
  have := P.1.2.1 (h 63 (EI h i)).toNat (by omega)
  exact this.2.2
theorem EVH_rg {h : aH} {e : Int} {q : Nat → Nat} (P : PI h) (F : PERM (NE h) q) : EVH h e q = -2 ∨ (0 ≤ EVH h e q ∧ EVH h e q ≤ 399) := by
  unfold EVH EV
  cases c : simN (HRR h) (SPT h) e q (NE h) with
  | none => exact Or.inl rfl
  | some v =>
    obtain ⟨a, p⟩ := v
    exact Or.inr (simN_rg (H := HRR h) (S := SPT h) (f := q) (fun i hi => (EI_ok P (F.1 i hi)).2) (fun i hi => SPT_rg P (q i) (F.1 i hi)) (NE h) (Nat.le_refl _) a p c).1
theorem EVH_congr {h : aH} {e : Int} {f g : Nat → Nat} (E : ∀ j, j < NE h → f j = g j) : EVH h e f = EVH h e g := by
  unfold EVH EV
  rw [simN_congr E]
theorem EVH_cod {h : aH} {e : Int} {f g : Nat → Nat} (F : PERM (NE h) f) (G : PERM (NE h) g) (E : cod f (NE h) = cod g (NE h)) : EVH h e f = EVH h e g := by
  have n8 := NE_le h
  exact EVH_congr (cod_inj (fun j hj => ⟨by have := F.1 j hj; omega, by have := G.1 j hj; omega⟩) E)
def RNONE (h : aH) (e : Int) : Prop := ∀ q, PERM (NE h) q → EVH h e q = -2
def RBEST (h : aH) (e v : Int) (b : Nat → Nat) : Prop := 0 ≤ v ∧ PERM (NE h) b ∧ EVH h e b = v ∧ ∀ q, PERM (NE h) q → EVH h e q = -2 ∨ v < EVH h e q ∨ (v = EVH h e q ∧ cod b (NE h) ≤ cod q (NE h))
theorem RBEST_uniq {h : aH} {e v v' : Int} {b b' : Nat → Nat} (B : RBEST h e v b) (B' : RBEST h e v' b') : v = v' ∧ ∀ k, k < NE h → b k = b' k := by
  have n8 := NE_le h
  obtain ⟨a1, a2, a3, a4⟩ := B
  obtain ⟨c1, c2, c3, c4⟩ := B'
  have x := a4 b' c2
  have y := c4 b a2
  have ev : v = v' := by omega
  refine ⟨ev, cod_inj (fun j hj => ⟨by have := a2.1 j hj; omega, by have := c2.1 j hj; omega⟩) (by omega)⟩
theorem RBEST_none {h : aH} {e v : Int} {b : Nat → Nat} (B : RBEST h e v b) (n : RNONE h e) : False := by
  have := n b B.2.1
  have h1 := B.1
  have h2 := B.2.2.1
  omega
/-- what round answers -/
def RANS (h : aH) (e v : Int) : Prop := (¬ (0 ≤ e ∧ e ≤ 60) → v = -1) ∧ ((0 ≤ e ∧ e ≤ 60) → (RNONE h e ∧ v = -2) ∨ ∃ b, RBEST h e v b)
theorem RANS_uniq {h : aH} {e v w : Int} (A : RANS h e v) (B : RANS h e w) : v = w := by
  by_cases c : 0 ≤ e ∧ e ≤ 60
  · rcases A.2 c with ⟨n, q⟩ | ⟨b, q⟩ <;> rcases B.2 c with ⟨n', q'⟩ | ⟨b', q'⟩
    · rw [q, q']
    · exact (RBEST_none q' n).elim
    · exact (RBEST_none q n').elim
    · exact (RBEST_uniq q q').1
  · rw [A.1 c, B.1 c]
/-- what roundAt answers -/
def RAT (h : aH) (e w v : Int) : Prop := (¬ ((0 ≤ e ∧ e ≤ 60) ∧ (0 ≤ w ∧ w ≤ (NE h : Int) - 1)) → v = -1) ∧ ((0 ≤ e ∧ e ≤ 60) ∧ (0 ≤ w ∧ w ≤ (NE h : Int) - 1) → (RNONE h e ∧ v = -1) ∨ ∃ u b, RBEST h e u b ∧ v = (EI h (b w.toNat) : Int))
theorem RAT_uniq {h : aH} {e w v v' : Int} (A : RAT h e w v) (B : RAT h e w v') : v = v' := by
  by_cases c : (0 ≤ e ∧ e ≤ 60) ∧ (0 ≤ w ∧ w ≤ (NE h : Int) - 1)
  · rcases A.2 c with ⟨n, q⟩ | ⟨u, b, q, r2⟩ <;> rcases B.2 c with ⟨n', q'⟩ | ⟨u', b', q', r2'⟩
    · rw [q, q']
    · exact (RBEST_none q' n).elim
    · exact (RBEST_none q n').elim
    · rw [r2, r2', (RBEST_uniq q q').2 w.toNat (by omega)]
  · rw [A.1 c, B.1 c]
/-- those that have an hour are listed -/
def RST (h h1 : aH) (k : Nat) : Prop := h1 130 72 = ((e8 (h 23) k).2 : Int) ∧ ∀ j, j < (e8 (h 23) k).2 → h1 182 j = ((e8 (h 23) k).1 j : Int) ∧ h1 183 j = (j : Int)
theorem m_rb6 {N : Nat} {C : Int → aH → Prop} {h : aH} {e : Int} (P : PI h) (R : RelH h) (hC : ∀ h', FRR h h' → RWH h h' → (∀ j, j < NE h → h' 183 j = (j : Int)) → WI N 325 45 [(0, .inr (.inr 130)), (1, .inl e)] h' C) : ∀ (d i : Nat) (h1 : aH), d = NSL h - i → i ≤ NSL h → FRR h h1 → RST h h1 i →
    WI N 325 6 [(0, .inr (.inr 130)), (1, .inl e), (2, .inl (i : Int))] h1 C := by
  have hz := P.1.1
  unfold okSz at hz
  have n12 : NSL h ≤ 12 := by unfold NSL; omega
  intro d
  induction d with
  | zero =>
    intro i h1 hd hi fr S
    have : i = NSL h := by omega
    subst this
    have kp : Kp h h1 := Fr.kp fr (by decide)
    have R1 : RelH h1 := R.mv fr (by decide) (by decide) (by decide)
    have hs := R1.2.1.2.2
    unfold Lv at hs
    have hL := R1.1
    refine w_325_6 (ck_ix (by omega) ?_)
    rw [hs, kp.at 16 (by decide)]
    exact ⟨fun _ => hC h1 fr ⟨S.1, fun j hj => (S.2 j hj).1⟩ (fun j hj => (S.2 j hj).2), fun z => absurd (by unfold NSL; omega) z⟩
  | succ d ih =>
    intro i h1 hd hi fr S
    have hi2 : i < NSL h := by omega
    have kp : Kp h h1 := Fr.kp fr (by decide)
    have R1 : RelH h1 := R.mv fr (by decide) (by decide) (by decide)
    have hs := R1.2.1.2.2
    unfold Lv at hs
    have hL := R1.1
    have hsl : (i : Int) < h1 16 16 := by rw [kp.at 16 (by decide)]; unfold NSL at hi2; omega
    obtain ⟨c8, ck, cj⟩ := e8_ok (h 23) i
    have hv := (P.1.2.2.2.1 i (by unfold NSL at hi2; omega)).2.1
    refine w_325_6 (ck_ix (by omega) ?_)
    rw [hs, kp.at 16 (by decide), S.1]
    refine ⟨fun z => absurd z (by unfold NSL at hi2; omega), fun _ => ⟨fun full => ?_, fun room => m_hour (kp.pi P).1 R1 hsl ?_⟩⟩
    · have e := e8_full (hour := h 23) (k := i) (by omega) (NSL h - i)
      rw [show i + (NSL h - i) = NSL h by omega] at e
      refine hC h1 fr ⟨?_, ?_⟩ ?_
      · unfold NE; rw [e]; exact S.1
      · unfold NE EI; rw [e]; exact fun j hj => (S.2 j hj).1
      · unfold NE; rw [e]; exact fun j hj => (S.2 j hj).2
    · rw [S.1, kp.at 23 (by decide)]
      refine ⟨fun yes => ?_, fun no => ?_⟩
      · simp only [Int.toNat_natCast]
        (repeat first | refine ck_ix (by omega) ?_ | refine ck_rg (by omega) ?_ | refine ck_rl (by omega) ?_)
        refine w_325_42 ?_
        (repeat first | refine ck_ix (by omega) ?_ | refine ck_rg (by omega) ?_ | refine ck_rl (by omega) ?_)
        have y : h 23 i ≠ -2 ∧ (e8 (h 23) i).2 < 8 := ⟨by omega, by omega⟩
        refine ih (i + 1) _ (by omega) (by omega) (((fr.up (by decide) (by decide)).up (by decide) (by decide)).upM (by decide)) ?_
        unfold RST
        rw [e8_y y]
        refine ⟨by rw [up_in, if_pos rfl]; rfl, fun j hj => ?_⟩
        have hj : j < (e8 (h 23) i).2 + 1 := hj
        dsimp only
        rw [up_row (by decide), up_row (by decide), up_in, up_row (by decide), up_in, up_row (by decide)]
        by_cases z : j = (e8 (h 23) i).2
        · rw [if_pos z, if_pos z, if_pos z, z]; exact ⟨rfl, rfl⟩
        · rw [if_neg z, if_neg z, if_neg z]; exact S.2 j (by omega)
      · refine w_325_42 ?_
        (repeat first | refine ck_ix (by omega) ?_ | refine ck_rg (by omega) ?_ | refine ck_rl (by omega) ?_)
        have y : ¬ (h 23 i ≠ -2 ∧ (e8 (h 23) i).2 < 8) := by omega
        refine ih (i + 1) _ (by omega) (by omega) fr ?_
        unfold RST
        rw [e8_n y]
        exact S
theorem m_rb69 {N : Nat} {C : Int → aH → Prop} {h h1 : aH} {e x2 : Int} {p : Nat → Nat} (W : RWH h h1) (F : PERM (NE h) p) (hr : ∀ k, k < NE h → h1 183 k = (p k : Int)) (hC : ∀ h', Fr [184] [] h1 h' → (∀ k, k < NE h → h' 184 k = (EI h (p k) : Int)) → WI N 325 87 [(0, .inr (.inr 130)), (1, .inl e), (2, .inl x2)] h' C) : ∀ (d k : Nat) (h2 : aH), d = NE h - k → k ≤ NE h → Fr [184] [] h1 h2 → (∀ j, j < k → h2 184 j = (EI h (p j) : Int)) →
    WI N 325 69 [(0, .inr (.inr 130)), (1, .inl e), (2, .inl x2), (5, .inl (k : Int))] h2 C := by
  have n8 := NE_le h
  intro d
  induction d with
  | zero =>
    intro k h2 hd hk f hb
    have : k = NE h := by omega
    subst this
    refine w_325_69 ?_
    rw [f.2 72 (by decide), W.1]
    exact ⟨fun _ => hC h2 f hb, fun z => absurd (Int.le_refl _) z⟩
  | succ d ih =>
    intro k h2 hd hk f hb
    have hk2 : k < NE h := by omega
    have fk := F.1 k hk2
    refine w_325_69 ?_
    rw [f.2 72 (by decide), W.1, Int.toNat_natCast, f.at 183 (by decide) (by decide), hr k hk2, f.at 182 (by decide) (by decide), Int.toNat_natCast, W.2 _ fk]
    refine ⟨fun z => by omega, fun _ => ?_⟩
    (repeat first | refine ck_ix (by omega) ?_ | refine ck_rg (by omega) ?_ | refine ck_rl (by omega) ?_)
    refine ih (k + 1) _ (by omega) (by omega) (f.up (by decide) (by decide)) (fun j hj => ?_)
    rw [up_in]
    by_cases z : j = k
    · rw [if_pos z, z]
    · rw [if_neg z]; exact hb j (by omega)
/-- the best of those seen -/
def RIN (h : aH) (e : Int) (V : (Nat → Nat) → Prop) (x2 : Int) (h1 : aH) : Prop :=
  (x2 = -2 ∧ ∀ q, PERM (NE h) q → V q → EVH h e q = -2) ∨
  (0 ≤ x2 ∧ ∃ b, PERM (NE h) b ∧ V b ∧ EVH h e b = x2 ∧ (∀ k, k < NE h → h1 184 k = (EI h (b k) : Int)) ∧ ∀ q, PERM (NE h) q → V q → EVH h e q = -2 ∨ x2 < EVH h e q ∨ (x2 = EVH h e q ∧ cod b (NE h) ≤ cod q (NE h)))
theorem RIN.fr {h : aH} {e x2 : Int} {V : (Nat → Nat) → Prop} {h1 h2 : aH} (B : RIN h e V x2 h1) (q : h2 184 = h1 184) : RIN h e V x2 h2 := by
  unfold RIN at B ⊢
  rw [q]
  exact B
theorem RIN.pr {h : aH} {e x2 : Int} {V V' : (Nat → Nat) → Prop} {h1 : aH} (B : RIN h e V x2 h1) (i : ∀ q, PERM (NE h) q → (V q ↔ V' q)) : RIN h e V' x2 h1 := by
  rcases B with ⟨a, b⟩ | ⟨a, b, c1, c2, c3, c4, c5⟩
  · exact Or.inl ⟨a, fun q Q v => b q Q ((i q Q).2 v)⟩
  · exact Or.inr ⟨a, b, c1, (i b c1).1 c2, c3, c4, fun q Q v => c5 q Q ((i q Q).2 v)⟩
theorem m_rb50 {N : Nat} {C : Int → aH → Prop} {h : aH} {e : Int} (P : PI h) (R : RelH h) (Q : RelP h) (he : 0 ≤ e ∧ e ≤ 60) {M : Nat} (hM : ∀ q, PERM (NE h) q → cod q (NE h) < M) (hC : ∀ x2 h', FRR h h' → RWH h h' → RIN h e (fun _ => True) x2 h' → C x2 h') : ∀ (d : Nat) (p : Nat → Nat) (x2 : Int) (h1 : aH), M ≤ d + cod p (NE h) → FRR h h1 → RWH h h1 → PERM (NE h) p → (∀ k, k < NE h → h1 183 k = (p k : Int)) → RIN h e (fun q => cod q (NE h) < cod p (NE h)) x2 h1 →
    WI N 325 50 [(0, .inr (.inr 130)), (1, .inl e), (2, .inl x2), (3, .inl 1)] h1 C := by
  have n8 := NE_le h
  intro d
  induction d with
  | zero => intro p x2 h1 hd fr W F; have := hM p F; omega
  | succ d ih =>
    intro p x2 h1 hd fr W F hr B
    have go : ∀ y h2, FRR h h2 → RWH h h2 → (∀ k, k < NE h → h2 183 k = (p k : Int)) → RIN h e (fun q => cod q (NE h) ≤ cod p (NE h)) y h2 → WI N 325 87 [(0, .inr (.inr 130)), (1, .inl e), (2, .inl y)] h2 C := by
      intro y h2 fr2 W2 hr2 B2
      refine w_325_87 (m_nextOrder n8 F W2.1 hr2 (fun i j c h3 f3 q3 => ?_) (fun dn => ?_))
      · obtain ⟨n1, n2⟩ := next_ok n8 F c
        refine ih (nxo (NE h) p i j) y h3 (by omega) (Fr.trans fr2 (f3.mono (by decide) (by decide))) ⟨by rw [f3.2 72 (by decide)]; exact W2.1, fun j hj => by rw [f3.at 182 (by decide) (by decide)]; exact W2.2 j hj⟩ (nxo_prm F (by have := c.1; omega) c.2.2.2.2.1 (by have := c.2.2.2.1; omega)) q3 ((B2.fr (f3.at 184 (by decide) (by decide))).pr (fun q Q => ?_))
        have := n2 q Q
        constructor
        · intro z; omega
        · intro z; omega
      · exact w_325_50 ⟨fun _ => hC y h2 fr2 W2 (B2.pr (fun q Q => ⟨fun _ => trivial, fun _ => last_ok n8 F dn q Q⟩)), fun z => absurd rfl z⟩
    have same : ∀ q, PERM (NE h) q → cod q (NE h) = cod p (NE h) → EVH h e q = EVH h e p := fun q Q' z => EVH_cod Q' F z
    have rg := EVH_rg (e := e) P F
    have eE : EV (HRR h) (SPT h) e p (NE h) = EVH h e p := rfl
    have new : 0 ≤ EVH h e p → (∀ q, PERM (NE h) q → cod q (NE h) < cod p (NE h) → EVH h e q = -2 ∨ EVH h e p < EVH h e q) → WI N 325 64 [(0, .inr (.inr 130)), (1, .inl e), (4, .inl (EVH h e p))] h1 C := by
      intro pos bt
      refine w_325_64 (m_rb69 W F hr (fun h2 f2 q2 => go _ h2 (Fr.trans fr (f2.mono (by decide) (by decide))) ⟨by rw [f2.2 72 (by decide)]; exact W.1, fun j hj => by rw [f2.at 182 (by decide) (by decide)]; exact W.2 j hj⟩ (fun k hk => by rw [f2.at 183 (by decide) (by decide)]; exact hr k hk) (Or.inr ⟨pos, p, F, Nat.le_refl _, rfl, q2, fun q Q v => ?_⟩)) _ 0 h1 rfl (Nat.zero_le _) Fr.rfl (fun j hj => absurd hj (by omega)))
      rcases Nat.lt_or_ge (cod q (NE h)) (cod p (NE h)) with z | z
      · rcases bt q Q z with a | a
        · exact Or.inl a
        · exact Or.inr (Or.inl a)
      · exact Or.inr (Or.inr ⟨(same q Q (by omega)).symm, z⟩)
    refine w_325_50 ⟨fun z => absurd z (by decide), fun _ => m_roundDone P R Q he fr W F hr ?_⟩
    show (EVH h e p < 0 → _) ∧ (¬ (EVH h e p < 0) → _)
    refine ⟨fun neg => go x2 h1 fr W hr ?_, fun pos => ⟨fun b0 => ?_, fun b1 => ⟨fun le => go x2 h1 fr W hr ?_, fun gt => ?_⟩⟩⟩
    · have e2 : EVH h e p = -2 := by omega
      rcases B with ⟨a, b⟩ | ⟨a, b, c1, c2, c3, c4, c5⟩
      · refine Or.inl ⟨a, fun q Q v => ?_⟩
        rcases Nat.lt_or_ge (cod q (NE h)) (cod p (NE h)) with z | z
        · exact b q Q z
        · rw [same q Q (by omega)]; exact e2
      · refine Or.inr ⟨a, b, c1, Nat.le_of_lt c2, c3, c4, fun q Q v => ?_⟩
        rcases Nat.lt_or_ge (cod q (NE h)) (cod p (NE h)) with z | z
        · exact c5 q Q z
        · rw [same q Q (by omega)]; exact Or.inl e2
    · rcases B with ⟨a, b⟩ | ⟨a, b, c1, c2, c3, c4, c5⟩
      · exact new (by omega) (fun q Q z => Or.inl (b q Q z))
      · omega
    · rcases B with ⟨a, b⟩ | ⟨a, b, c1, c2, c3, c4, c5⟩
      · omega
      · refine Or.inr ⟨a, b, c1, Nat.le_of_lt c2, c3, c4, fun q Q v => ?_⟩
        rcases Nat.lt_or_ge (cod q (NE h)) (cod p (NE h)) with z | z
        · exact c5 q Q z
        · rw [same q Q (by omega)]
          have c2 : cod b (NE h) < cod p (NE h) := c2
          omega
    · rcases B with ⟨a, b⟩ | ⟨a, b, c1, c2, c3, c4, c5⟩
      · omega
      · exact new (by omega) (fun q Q z => by have := c5 q Q z; omega)
theorem m_roundBy {N : Nat} {C : Int → aH → Prop} {h : aH} {e : Int} (P : PI h) (R : RelH h) (Q : RelP h) (he : 0 ≤ e ∧ e ≤ 60) (hC : ∀ x2 h', FRR h h' → RWH h h' → RIN h e (fun _ => True) x2 h' → C x2 h') : WI N 325 0 [(0, .inr (.inr 130)), (1, .inl e)] h C := by
  have n8 := NE_le h
  refine w_325_0 (m_rb6 P R (fun h1 fr W hr => w_325_45 (m_rb50 P R Q he (M := 8 ^ (NE h)) (fun q F => cod_bd (fun j hj => by have := F.1 j hj; omega)) hC _ (fun k => k) (-2) h1 (Nat.le_add_right _ _) fr W (id_prm _) hr (Or.inl ⟨rfl, fun q F v => ?_⟩))) _ 0 _ rfl (Nat.zero_le _) (Fr.rfl.upM (by decide)) ⟨by rw [up_in, if_pos rfl]; rfl, fun j hj => absurd hj (Nat.not_lt_zero j)⟩)
  have := id_first n8 q F
  have v : cod q (NE h) < cod (fun k => k) (NE h) := v
  omega
theorem FRR.relp {h h1 : aH} (Q : RelP h) (fr : FRR h h1) : RelP h1 := Q.keep (Fr.kp fr (by decide)) fr (by decide) (by decide)
theorem m_round {N : Nat} {C : Int → aH → Prop} {h : aH} {e : Int} (P : PI h) (R : RelH h) (Q : RelP h) (hC : ∀ v h', FRR h h' → RANS h e v → C v h') : WI N 324 0 [(0, .inr (.inr 130)), (1, .inl e)] h C := by
  refine w_324_0 (m_in (fun he => z1 (m_roundBy P R Q he (fun v h' fr W B => hC v h' fr ⟨fun z => absurd he z, fun _ => ?_⟩))) (fun ne => z0 (hC _ h Fr.rfl ⟨fun _ => rfl, fun z => absurd z ne⟩)))
  rcases B with ⟨a, b⟩ | ⟨a, b, c1, c2, c3, c4, c5⟩
  · exact Or.inl ⟨fun q F => b q F trivial, a⟩
  · exact Or.inr ⟨b, a, c1, c3, fun q F => c5 q F trivial⟩
theorem m_roundAt {N : Nat} {C : Int → aH → Prop} {h : aH} {e w : Int} (P : PI h) (R : RelH h) (Q : RelP h) (hC : ∀ v h', FRR h h' → RAT h e w v → C v h') : WI N 328 0 [(0, .inr (.inr 130)), (1, .inl e), (2, .inl w)] h C := by
  have n8 := NE_le h
  refine w_328_0 (m_in (fun he => z1 (m_roundBy P R Q he (fun v h' fr W B => ?_))) (fun ne => z0 (hC _ h Fr.rfl ⟨fun _ => rfl, fun z => absurd z.1 ne⟩)))
  rcases B with ⟨a, b⟩ | ⟨a, b, c1, c2, c3, c4, c5⟩
  · exact ⟨fun _ => hC _ h' fr ⟨fun _ => rfl, fun _ => Or.inl ⟨fun q F => b q F trivial, rfl⟩⟩, fun z => absurd (by omega) z⟩
  · have B : RBEST h e v b := ⟨a, c1, c3, fun q F => c5 q F trivial⟩
    refine ⟨fun z => by omega, fun _ => ?_⟩
    rw [W.1]
    refine ck_rg (by omega) (m_in (fun hw => ⟨fun _ => ck_ix (by omega) (hC _ h' fr ⟨fun z => absurd ⟨he, hw⟩ z, fun _ => Or.inr ⟨v, b, B, c4 w.toNat (by omega)⟩⟩), fun z => absurd (by decide) z⟩) (fun nw => ⟨fun z => absurd rfl z, fun _ => hC _ h' fr ⟨fun _ => rfl, fun z => absurd z.2 nw⟩⟩))
