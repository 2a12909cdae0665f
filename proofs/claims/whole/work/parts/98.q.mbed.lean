/-! read: what the reference's tellings may change; a bed told -/
def FrA (P : Nat → Nat → Prop) (h h' : aH) : Prop := ∀ r j, ¬ P r j → h' r j = h r j
theorem FrA.rfl {P : Nat → Nat → Prop} {h : aH} : FrA P h h := fun _ _ _ => Eq.refl _
theorem FrA.trans {P : Nat → Nat → Prop} {a b c : aH} (x : FrA P a b) (y : FrA P b c) : FrA P a c := fun r j n => (y r j n).trans (x r j n)
theorem FrA.mono {P P' : Nat → Nat → Prop} {a b : aH} (x : FrA P a b) (i : ∀ r j, P r j → P' r j) : FrA P' a b := fun r j n => x r j (fun z => n (i r j z))
theorem FrA.up {P : Nat → Nat → Prop} {a b : aH} (x : FrA P a b) {r k : Nat} {v : Int} (p : P r k) : FrA P a (am_up b r k v) := fun q j n => by
  rw [am_up_at, if_neg (fun e => n (by rw [e.1, e.2]; exact p))]; exact x q j n
theorem FrA.of {P : Nat → Nat → Prop} {R D : List Nat} {a b : aH} (f : Fr R D a b) (hR : ∀ r ∈ R, ∀ j, P r j) (hD : ∀ d ∈ D, P 130 d) : FrA P a b := fun r j n => by
  by_cases e : r = 130
  · subst e; exact f.2 j (fun z => n (hD j z))
  · rw [f.1 r e (fun z => n (hR r z j))]
theorem FrA.row {P : Nat → Nat → Prop} {a b : aH} (x : FrA P a b) (r : Nat) (n : ∀ j, ¬ P r j) : b r = a r := funext (fun j => x r j (n j))
/-- cells that a telling of the reference may change -/
def ALW (sd r j : Nat) : Prop :=
  (r = 130 ∧ (j = 11 ∨ j = 12 ∨ j = 13 ∨ j = 14 ∨ j = 15 ∨ j = 16 ∨ j = 20 ∨ j = 39 ∨ j = 43)) ∨ (r = 138 ∨ r = 139 ∨ r = 140 ∨ r = 158) ∨ ((r = 142 ∨ r = 143 ∨ r = 148 ∨ r = 149 ∨ r = 150 ∨ r = 151 ∨ r = 152) ∧ 12 * sd ≤ j ∧ j < 12 * sd + 12) ∨ ((r = 145 ∨ r = 146) ∧ 9 * sd ≤ j ∧ j < 9 * sd + 9) ∨
  ((r = 141 ∨ r = 144 ∨ r = 147) ∧ j = sd) ∨ ((r = 153 ∨ r = 154 ∨ r = 155) ∧ (j = 2 * sd ∨ j = 2 * sd + 1)) ∨ ((r = 156 ∨ r = 157) ∧ 420 * sd ≤ j ∧ j < 420 * sd + 420)
theorem FrA.fr {sd : Nat} {R D : List Nat} {a b : aH} (f : Fr R D a b) (hR : R.all (fun r => [138, 139, 140, 158].contains r) = true) (hD : D.all (fun d => [11, 12, 13, 14, 15, 16, 20, 39, 43].contains d) = true) : FrA (ALW sd) a b := by
  refine FrA.of f (fun r hr j => ?_) (fun d hd => ?_)
  · have := List.all_eq_true.mp hR r hr
    rw [List.contains_eq_mem, decide_eq_true_eq] at this
    simp only [List.mem_cons, List.not_mem_nil, or_false] at this
    exact Or.inr (Or.inl this)
  · have := List.all_eq_true.mp hD d hd
    rw [List.contains_eq_mem, decide_eq_true_eq] at this
    simp only [List.mem_cons, List.not_mem_nil, or_false] at this
    exact Or.inl ⟨Eq.refl _, this⟩
theorem FS_pre {K : Nat → Nat} {E F : List Nat} {t : Nat} (h : FS K (E ++ F) t = none) : FS K E t = none := by
  cases hx : FS K E t with
  | none => rfl
  | some e => rw [FS_app.2 e hx] at h; cases h
/-- a fault of the reference -/
def RFL (PL : Nat → Nat) (n q : Nat) (h : aH) : Prop := h 130 13 = (n : Int) ∧ 1 ≤ n ∧ h 130 14 = (PL q : Int)
theorem RFS.out {K PL : Nat → Nat} {VL : Nat → Int} {t : Nat} {E : List Nat} {h : aH} (S : RFS K PL VL t E h) (hE : ∀ k ∈ E, k < 31) : (FS K E t = none → RFS K PL VL (t + E.length) [] h) ∧ ∀ n q, FS K E t = some (n, q) → RFL PL n q h := by
  have S0 := S
  obtain ⟨a, b, c⟩ := S0
  refine ⟨fun nn => ?_, fun n q ss => ?_⟩
  · obtain ⟨p1, p2⟩ := S.pre hE nn
    rcases c with ⟨_, f0, ht, wb⟩ | ⟨m, q, z, _⟩
    · exact ⟨a, ⟨p2, p1⟩, Or.inl ⟨rfl, f0, ht, wb⟩⟩
    · rw [nn] at z; cases z
  · rcases c with ⟨z, _⟩ | ⟨m, q', z, e1, e2, e3⟩
    · rw [ss] at z; cases z
    · rw [ss] at z
      injection z with z
      injection z with z1 z2
      subst z1 z2
      exact ⟨e1, e2, e3⟩
theorem RFS.ext {K PL : Nat → Nat} {VL : Nat → Int} {t : Nat} {E F : List Nat} {e : Nat × Nat} {h : aH} (S : RFS K PL VL t E h) (hs : FS K E t = some e) : RFS K PL VL t (E ++ F) h := by
  obtain ⟨a, b, c⟩ := S
  refine ⟨a, b, ?_⟩
  rcases c with ⟨z, _⟩ | ⟨m, q', z, e3⟩
  · rw [hs] at z; cases z
  · exact Or.inr ⟨m, q', FS_app.2 _ z, e3⟩
theorem RFS.f0 {K PL : Nat → Nat} {VL : Nat → Int} {t : Nat} {E : List Nat} {h : aH} (S : RFS K PL VL t E h) : (FS K E t = none → h 130 13 = 0) ∧ (h 130 13 ≤ 0 → FS K E t = none) ∧ (h 130 13 = 0 → FS K E t = none) := by
  rcases S.2.2 with ⟨z, f, _⟩ | ⟨m, q', z, e1, e2, e3⟩
  · exact ⟨fun _ => f, fun _ => z, fun _ => z⟩
  · refine ⟨fun y => ?_, fun y => ?_, fun y => ?_⟩
    · rw [y] at z; cases z
    · omega
    · omega
theorem KNR_fr {R D : List Nat} {h h' : aH} {v : Int} (f : Fr R D h h') (h20 : 20 ∉ D) (h138 : 138 ∉ R) : KNR h' v = KNR h v := by
  unfold KNR
  rw [f.2 20 h20, f.at 138 h138 (by decide)]
/-- the reference knows a name more -/
def NMR (v : Int) (M : Nat) (srt w : Int) (h h' : aH) : Prop := h' 130 20 = (M : Int) + 1 ∧ (h' 138 M = v ∧ h' 139 M = srt ∧ h' 140 M = w) ∧ ∀ j, j ≠ M → h' 138 j = h 138 j ∧ h' 139 j = h 139 j ∧ h' 140 j = h 140 j
def BDR (PL : Nat → Nat) (VL : Nat → Int) (t sd nb M : Nat) (h h' : aH) : Prop := Fr [138, 139, 140, 141, 142, 143] [11, 13, 14, 15, 16, 20] h h' ∧ (h' 141 sd = (nb : Int) + 1 ∧ ∀ j, j ≠ sd → h' 141 j = h 141 j) ∧
  (h' 142 (12 * sd + nb) = VL (t + 2) ∧ h' 143 (12 * sd + nb) = VL (t + 3) ∧ ∀ j, j ≠ 12 * sd + nb → h' 142 j = h 142 j ∧ h' 143 j = h 143 j) ∧ NMR (VL (t + 1)) M 0 nb h h' ∧
  ∃ s1 s2, EVT (KNR h (VL (t + 1))) 3 (PL (t + 1) : Int) (WNK h) s1 ∧ EVT (¬ (0 ≤ VL (t + 2) ∧ VL (t + 2) ≤ 3)) 5 (PL (t + 2) : Int) s1 s2 ∧ EVT (¬ (0 ≤ VL (t + 3) ∧ VL (t + 3) ≤ 9)) 5 (PL (t + 3) : Int) s2 (WNK h')
theorem m_tellBedR {N : Nat} {C : aH → Prop} {K PL : Nat → Nat} {VL : Nat → Int} {t sd nb M : Nat} {h : aH} (Q : TOKP K PL VL) (S : RFS K PL VL t [] h) (kt : K t = 7) (hsd : h 130 19 = (sd : Int)) (sd2 : sd < 2) (hnb : h 141 sd = (nb : Int)) (nb12 : nb < 12) (hM : h 130 20 = (M : Int)) (M40 : M < 40)
    (hC : ∀ h', FrA (ALW sd) h h' → (FS K [7, 18, 19, 19, 20] t = none → RFS K PL VL (t + 5) [] h' ∧ BDR PL VL t sd nb M h h') → (∀ n q, FS K [7, 18, 19, 19, 20] t = some (n, q) → RFL PL n q h') → C h') : WV N 228 0 [(0, .inr (.inr 130))] h C := by
  refine w_228_0 ?_
  rw [hsd, Int.toNat_natCast, hnb]
  have ek : ((12 : Int) * (sd : Int) + (nb : Int)).toNat = 12 * sd + nb := by omega
  rw [ek]
  refine ck_rg (by omega) (ck_ix (by omega) (ck_rg (by omega) (m_goesOnR Q S (by simp) ⟨rfl, kt⟩ (by decide) (fun h1 f1 R1 => m_namedR Q R1 (by decide) (M := M) (by rw [f1.2 20 (by decide)]; exact hM) M40 (fun r2 h2 f2 R2 e2 => m_toldR Q R2 (by decide) (fun r3 h3 f3 R3 e3 => ck_ix (by omega) ?_))))))
  have fa3 : Fr [142] [] h3 (am_up h3 142 (12 * sd + nb) r3) := Fr.rfl.up (by decide) (by decide)
  refine m_toldR Q (R3.mv fa3 (by decide) (by decide)) (by decide) (fun r4 h4 f4 R4 e4 => ck_ix (by omega) ?_)
  have fa4 : Fr [143] [] h4 (am_up h4 143 (12 * sd + nb) r4) := Fr.rfl.up (by decide) (by decide)
  refine m_mustR Q (R4.mv fa4 (by decide) (by decide)) (by decide) (k := 20) ⟨rfl, by decide⟩ (fun h5 f5 R5 => ?_)
  have A5 : FrA (ALW sd) h h5 := by
    refine (FrA.fr f1 (by decide) (by decide)).trans ((FrA.fr f2 (by decide) (by decide)).trans ((FrA.fr f3 (by decide) (by decide)).trans (FrA.trans (FrA.up FrA.rfl ?_) ((FrA.fr f4 (by decide) (by decide)).trans (FrA.trans (FrA.up FrA.rfl ?_) (FrA.fr f5 (by decide) (by decide)))))))
    · unfold ALW; omega
    · unfold ALW; omega
  have F5' : Fr [142, 143] [11, 13, 14, 15, 16] h h5 := (f1.mono (by decide) (by decide)).trans ((f2.mono (by decide) (by decide)).trans ((f3.mono (by decide) (by decide)).trans ((fa3.mono (by decide) (by decide)).trans ((f4.mono (by decide) (by decide)).trans ((fa4.mono (by decide) (by decide)).trans (f5.mono (by decide) (by decide)))))))
  have oo := R5.out (by decide)
  refine ⟨fun le => ?_, fun gt => hC h5 A5 (fun nn => absurd (R5.f0.1 nn) (by omega)) oo.2⟩
  have nn : FS K [7, 18, 19, 19, 20] t = none := R5.f0.2.1 le
  obtain ⟨e2a, e2b⟩ : r2 = ((t + 1 : Nat) : Int) ∧ EVT (KNR h1 (VL (t + 1))) 3 (PL (t + 1) : Int) (WNK h1) (WNK h2) := e2 (FS_pre (E := [7, 18]) (F := [19, 19, 20]) nn)
  obtain ⟨e3a, e3b⟩ : r3 = VL (t + 2) ∧ EVT (¬ (0 ≤ VL (t + 2) ∧ VL (t + 2) ≤ 3)) 5 (PL (t + 2) : Int) (WNK h2) (WNK h3) := e3 (FS_pre (E := [7, 18, 19]) (F := [19, 20]) nn)
  obtain ⟨e4a, e4b⟩ : r4 = VL (t + 3) ∧ EVT (¬ (0 ≤ VL (t + 3) ∧ VL (t + 3) ≤ 9)) 5 (PL (t + 3) : Int) (WNK (am_up h3 142 (12 * sd + nb) r3)) (WNK h4) := e4 (FS_pre (E := [7, 18, 19, 19]) (F := [20]) nn)
  have ks : K (t + 1) = 18 := (FS_none nn).1 1 (by decide)
  have p := R5.pre (by decide) nn
  have T5 := oo.1 nn
  rw [F5'.2 19 (by decide), hsd, Int.toNat_natCast, F5'.at 141 (by decide) (by decide), hnb, e2a]
  refine ck_ix (by omega) (m_knowsR R5.1 ⟨by have := p.2; simp at this; omega, fun i hi => p.1 i (by simp; omega)⟩ ks (M := M) (by rw [F5'.2 20 (by decide)]; exact hM) M40 (fun h6 f6 n6 a6 o6 => ?_))
  rw [f6.2 19 (by decide), F5'.2 19 (by decide), hsd, Int.toNat_natCast, f6.at 141 (by decide) (by decide), F5'.at 141 (by decide) (by decide), hnb]
  have f7 : Fr [141] [] h6 (am_up h6 141 sd ((nb : Int) + 1)) := Fr.rfl.up (by decide) (by decide)
  refine ck_ix (by omega) (ck_rg (by omega) (ck_ix (by omega) (hC _ ?_ (fun _ => ⟨?_, ?_⟩) (fun n q z => by rw [nn] at z; cases z))))
  · refine A5.trans ((FrA.fr f6 (by decide) (by decide)).trans (FrA.up FrA.rfl ?_))
    unfold ALW; omega
  · exact (RFS.mv T5 f6 (by decide) (by decide)).mv f7 (by decide) (by decide)
  · refine ⟨(F5'.mono (by decide) (by decide)).trans ((f6.mono (by decide) (by decide)).trans (f7.mono (by decide) (by decide))), ⟨up_same _ _ _ _, fun j hj => ?_⟩, ⟨?_, ?_, fun j hj => ⟨?_, ?_⟩⟩, ⟨?_, ⟨?_, ?_, ?_⟩, fun j hj => ⟨?_, ?_, ?_⟩⟩, WNK h2, WNK h3, ?_, e3b, ?_⟩
    · rw [up_ne hj, f6.at 141 (by decide) (by decide), F5'.at 141 (by decide) (by decide)]
    · rw [f7.at 142 (by decide) (by decide), f6.at 142 (by decide) (by decide), f5.at 142 (by decide) (by decide), fa4.at 142 (by decide) (by decide), f4.at 142 (by decide) (by decide), up_same, e3a]
    · rw [f7.at 143 (by decide) (by decide), f6.at 143 (by decide) (by decide), f5.at 143 (by decide) (by decide), up_same, e4a]
    · rw [f7.at 142 (by decide) (by decide), f6.at 142 (by decide) (by decide), f5.at 142 (by decide) (by decide), fa4.at 142 (by decide) (by decide), f4.at 142 (by decide) (by decide), up_ne hj, f3.at 142 (by decide) (by decide), f2.at 142 (by decide) (by decide), f1.at 142 (by decide) (by decide)]
    · rw [f7.at 143 (by decide) (by decide), f6.at 143 (by decide) (by decide), f5.at 143 (by decide) (by decide), up_ne hj, f4.at 143 (by decide) (by decide), fa3.at 143 (by decide) (by decide), f3.at 143 (by decide) (by decide), f2.at 143 (by decide) (by decide), f1.at 143 (by decide) (by decide)]
    · rw [f7.2 20 (by decide)]; exact n6
    · rw [f7.at 138 (by decide) (by decide)]; exact a6.1
    · rw [f7.at 139 (by decide) (by decide)]; exact a6.2.1
    · rw [f7.at 140 (by decide) (by decide)]; exact a6.2.2
    · rw [f7.at 138 (by decide) (by decide), (o6 j hj).1, F5'.at 138 (by decide) (by decide)]
    · rw [f7.at 139 (by decide) (by decide), (o6 j hj).2.1, F5'.at 139 (by decide) (by decide)]
    · rw [f7.at 140 (by decide) (by decide), (o6 j hj).2.2, F5'.at 140 (by decide) (by decide)]
    · rw [KNR_fr f1 (by decide) (by decide), WNK_fr f1 (by decide) (by decide)] at e2b
      exact e2b
    · rw [WNK_fr fa3 (by decide) (by decide)] at e4b
      rw [WNK_fr f7 (by decide) (by decide), WNK_fr f6 (by decide) (by decide), WNK_fr f5 (by decide) (by decide), WNK_fr fa4 (by decide) (by decide)]
      exact e4b
