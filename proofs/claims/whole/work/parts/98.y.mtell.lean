/-! read: the reference is told what the class is told -/
theorem ALD.al {sd cc lw r j : Nat} (h : ALD sd cc lw r j) (l : lw = 2 * sd ∨ lw = 2 * sd + 1) (c : 420 * sd ≤ cc) : ALW sd r j := by
  unfold ALD ALC at h
  unfold ALW
  omega
theorem OKT.now {K PL : Nat → Nat} {VL : Nat → Int} {t t1 : Nat} {g g1 : aH} {t2 : Nat} (a : CSQ K PL VL t1 g1) (b : CSQ K PL VL t2 g1) : t1 = t2 := by
  have := a.2.1
  have := b.2.1
  omega
theorem m_tellR {N : Nat} {C : aH → Prop} {K PL : Nat → Nat} {VL : Nat → Int} {sd t : Nat} {g h : aH} (Q : TOKP K PL VL) (V : RDS K PL VL sd t g h) (c0 : ∀ n q, TLF K VL g t = some (n, q) → ∀ h', FrA (ALW sd) h h' → RFL PL n q h' → C h') (c1 : TLF K VL g t = none → ∀ h', FrA (ALW sd) h h' → (∀ g1 t1, OKT K PL VL t g g1 → CSQ K PL VL t1 g1 → RDS K PL VL sd t1 g1 h') → C h') : WV N 226 0 [(0, .inr (.inr 130))] h C := by
  have V0 := V
  obtain ⟨nb, nc, ns, M, ⟨R0, hsd, sd2, ho⟩, ⟨b1, b2, b3⟩, ⟨k1, k2, k3⟩, ⟨s1, s2, s3⟩, ⟨hM, eM, na⟩, ⟨cc, q1, q2, q3⟩, L1, L2, E, D⟩ := V0
  obtain ⟨f0, ht, t4, tk, tv⟩ := R0.kd
  have k32 := Q.1 t
  have all : ∀ k, k < 33 → (KMP k = 20 ↔ k = 7) ∧ (KMP k = 21 ↔ k = 8) ∧ (KMP k = 24 ↔ k = 11) ∧ (KMP k = 30 ↔ k = 16) ∧ (KMP k = 31 ↔ k = 17) := by decide
  obtain ⟨a1, a2, a3, a4, a5⟩ := all (K t) (by omega)
  have p97 : ¬ (K t = 7 ∨ K t = 8 ∨ K t = 11 ∨ K t = 16 ∨ K t = 17) → WV N 226 97 [(0, .inr (.inr 130))] h C := fun n => w_226_97 (m_failL (n := 1) R0 (by decide) (fun h1 f1 G => c0 1 t (by unfold TLF; rw [if_neg (by omega), if_neg (by omega), if_neg (by omega), if_neg (by omega)]) h1 (FrA.fr f1 (by decide) (by decide)) G))
  have p58 : (K t = 16 ∨ K t = 17) → WV N 226 58 [(0, .inr (.inr 130))] h C := by
    intro o
    have eF : TLF K VL g t = s2o (FLW49 K VL t) := by unfold TLF; rw [if_neg (by omega), if_neg (by omega), if_neg (by omega), if_pos o]
    obtain ⟨lw, el⟩ : ∃ lw, lw = 2 * sd + (K t - 16) := ⟨_, rfl⟩
    have lo : lw = 2 * sd ∨ lw = 2 * sd + 1 := by omega
    refine m_tellLawR Q R0 o el hsd sd2 ho q1 q2 q3 (fun h' F e0 e1 => ?_)
    have F' : FrA (ALW sd) h h' := F.mono (fun r j z => z.al lo q2)
    cases hw : FLW49 K VL t with
    | inl e =>
      obtain ⟨n, q⟩ := e
      exact c0 n q (by rw [eF, hw]; rfl) h' F' (e0 n q hw)
    | inr e =>
      obtain ⟨E', t'⟩ := e
      refine c1 (by rw [eF, hw]; rfl) h' F' (fun g1 t1 O S1 => ?_)
      have W := e1 E' t' hw
      rcases O with ⟨k, -⟩ | ⟨k, -⟩ | ⟨k, -⟩ | ⟨k, E2, t2, fw, f, c, l1, l2⟩ | ⟨k, E2, t2, fw, f, c, l1, l2⟩
      · omega
      · omega
      · omega
      · rw [hw] at fw
        injection fw with fw
        injection fw with x1 x2
        subst x1 x2
        rw [OKT.now (K := K) (PL := PL) (VL := VL) (t := t) (g := g) S1 c]
        exact V.law Q hw F q1 W (Or.inl ⟨by omega, f, l1, l2⟩)
      · rw [hw] at fw
        injection fw with fw
        injection fw with x1 x2
        subst x1 x2
        rw [OKT.now (K := K) (PL := PL) (VL := VL) (t := t) (g := g) S1 c]
        exact V.law Q hw F q1 W (Or.inr ⟨by omega, f, l1, l2⟩)
  have p17 : K t = 7 → (¬ h 141 sd = 12 → WV N 226 17 [(0, .inr (.inr 130))] h C) ∧ (¬ ¬ h 141 sd = 12 → WV N 227 0 [(0, .inr (.inr 130)), (1, .inl 2)] h (fun h1 => WV N 226 17 [(0, .inr (.inr 130))] h1 C)) := by
    intro k
    have eF : TLF K VL g t = FBD K nb t := by unfold TLF; rw [if_pos k, b1]; rfl
    rw [b2]
    refine ⟨fun ne => w_226_17 ⟨fun z => absurd f0 z, fun _ => m_tellBedR Q R0 k hsd sd2 b2 (by omega) hM (by omega) (fun h' F e1 e0 => ?_)⟩, fun eq => m_failL (n := 2) R0 (by decide) (fun h1 f1 G => w_226_17 ⟨fun _ => c0 2 t (by rw [eF]; unfold FBD; rw [if_pos (by omega)]) h1 (FrA.fr f1 (by decide) (by decide)) G, fun z => ?_⟩)⟩
    · have eB : FBD K nb t = FS K [7, 18, 19, 19, 20] t := by unfold FBD; rw [if_neg (by omega)]
      cases hw : FS K [7, 18, 19, 19, 20] t with
      | some e =>
        obtain ⟨n, q⟩ := e
        exact c0 n q (by rw [eF, eB, hw]) h' F (e0 n q hw)
      | none =>
        refine c1 (by rw [eF, eB, hw]) h' F (fun g1 t1 O S1 => ?_)
        rcases O with ⟨-, fn, B⟩ | ⟨k', -⟩ | ⟨k', -⟩ | ⟨k', -⟩ | ⟨k', -⟩
        · rw [OKT.now (K := K) (PL := PL) (VL := VL) (t := t) (g := g) S1 B.2.1]
          refine V.bed fn B (fun nb' M' x y z => ?_)
          have e1 := e1 hw
          have : nb' = nb := by omega
          subst this
          have : M' = M := by omega
          subst this
          exact e1
        all_goals omega
    · have := G.1
      have := Classical.byContradiction z
      omega
  have p34 : K t = 8 → (¬ h 144 sd = 9 → WV N 226 34 [(0, .inr (.inr 130))] h C) ∧ (¬ ¬ h 144 sd = 9 → WV N 227 0 [(0, .inr (.inr 130)), (1, .inl 2)] h (fun h1 => WV N 226 34 [(0, .inr (.inr 130))] h1 C)) := by
    intro k
    have eF : TLF K VL g t = FCK K nc t := by unfold TLF; rw [if_neg (by omega), if_pos k, k1]; rfl
    rw [k2]
    refine ⟨fun ne => w_226_34 ⟨fun z => absurd f0 z, fun _ => m_tellClockR Q R0 k hsd sd2 k2 (by omega) hM (by omega) (fun h' F e1 e0 => ?_)⟩, fun eq => m_failL (n := 2) R0 (by decide) (fun h1 f1 G => w_226_34 ⟨fun _ => c0 2 t (by rw [eF]; unfold FCK; rw [if_pos (by omega)]) h1 (FrA.fr f1 (by decide) (by decide)) G, fun z => ?_⟩)⟩
    · have eB : FCK K nc t = FS K (LCK K t) t := by unfold FCK; rw [if_neg (by omega)]
      cases hw : FS K (LCK K t) t with
      | some e =>
        obtain ⟨n, q⟩ := e
        exact c0 n q (by rw [eF, eB, hw]) h' F (e0 n q hw)
      | none =>
        refine c1 (by rw [eF, eB, hw]) h' F (fun g1 t1 O S1 => ?_)
        rcases O with ⟨k', -⟩ | ⟨-, fn, B⟩ | ⟨k', -⟩ | ⟨k', -⟩ | ⟨k', -⟩
        · omega
        · rw [OKT.now (K := K) (PL := PL) (VL := VL) (t := t) (g := g) S1 B.2.1]
          refine V.clock fn B (fun nb' M' x y z => ?_)
          have e1 := e1 hw
          have : nb' = nc := by omega
          subst this
          have : M' = M := by omega
          subst this
          exact e1
        all_goals omega
    · have := G.1
      have := Classical.byContradiction z
      omega
  have p51 : K t = 11 → (¬ h 147 sd = 12 → WV N 226 51 [(0, .inr (.inr 130))] h C) ∧ (¬ ¬ h 147 sd = 12 → WV N 227 0 [(0, .inr (.inr 130)), (1, .inl 2)] h (fun h1 => WV N 226 51 [(0, .inr (.inr 130))] h1 C)) := by
    intro k
    have eF : TLF K VL g t = FSL K ns t := by unfold TLF; rw [if_neg (by omega), if_neg (by omega), if_pos k, s1]; rfl
    rw [s2]
    refine ⟨fun ne => w_226_51 ⟨fun z => absurd f0 z, fun _ => m_tellSleeperR Q R0 k hsd sd2 s2 (by omega) hM (by omega) na (fun h' F e1 e0 => ?_)⟩, fun eq => m_failL (n := 2) R0 (by decide) (fun h1 f1 G => w_226_51 ⟨fun _ => c0 2 t (by rw [eF]; unfold FSL; rw [if_pos (by omega)]) h1 (FrA.fr f1 (by decide) (by decide)) G, fun z => ?_⟩)⟩
    · have eB : FSL K ns t = FS K (LSL K t) t := by unfold FSL; rw [if_neg (by omega)]
      cases hw : FS K (LSL K t) t with
      | some e =>
        obtain ⟨n, q⟩ := e
        exact c0 n q (by rw [eF, eB, hw]) h' F (e0 n q hw)
      | none =>
        refine c1 (by rw [eF, eB, hw]) h' F (fun g1 t1 O S1 => ?_)
        rcases O with ⟨k', -⟩ | ⟨k', -⟩ | ⟨-, fn, B⟩ | ⟨k', -⟩ | ⟨k', -⟩
        · omega
        · omega
        · rw [OKT.now (K := K) (PL := PL) (VL := VL) (t := t) (g := g) S1 B.2.1]
          refine V.sleeper fn B (fun nb' M' x y z => ?_)
          have e1 := e1 hw
          have : nb' = ns := by omega
          subst this
          have : M' = M := by omega
          subst this
          exact e1
        all_goals omega
    · have := G.1
      have := Classical.byContradiction z
      omega
  refine w_226_0 ?_
  rw [ht, hsd, Int.toNat_natCast, Int.toNat_natCast, tk]
  have not : ∀ v : Int, v ≠ 20 → v ≠ 21 → v ≠ 24 → v ≠ 30 → v ≠ 31 → KMP (K t) = v → WV N 226 97 [(0, .inr (.inr 130))] h C := by
    intro v n1 n2 n3 n4 n5 e
    refine p97 (fun z => ?_)
    rcases z with z | z | z | z | z
    · exact n1 (by rw [← e]; exact a1.mpr z)
    · exact n2 (by rw [← e]; exact a2.mpr z)
    · exact n3 (by rw [← e]; exact a3.mpr z)
    · exact n4 (by rw [← e]; exact a4.mpr z)
    · exact n5 (by rw [← e]; exact a5.mpr z)
  refine ck_ix (by omega) ⟨fun o => not _ (by omega) (by omega) (by omega) (by omega) (by omega) rfl, fun o => ⟨fun e => ck_ix (by omega) (p17 (a1.mp e)), fun n20 => ⟨fun e => ck_ix (by omega) (p34 (a2.mp e)), fun n21 => ⟨fun e => not 22 (by decide) (by decide) (by decide) (by decide) (by decide) e, fun n22 => ⟨fun e => not 23 (by decide) (by decide) (by decide) (by decide) (by decide) e, fun n23 => ⟨fun e => ck_ix (by omega) (p51 (a3.mp e)), fun n24 => ⟨fun e => not 25 (by decide) (by decide) (by decide) (by decide) (by decide) e, fun n25 => ⟨fun e => not 26 (by decide) (by decide) (by decide) (by decide) (by decide) e, fun n26 => ⟨fun e => not 27 (by decide) (by decide) (by decide) (by decide) (by decide) e, fun n27 => ⟨fun e => not 28 (by decide) (by decide) (by decide) (by decide) (by decide) e, fun n28 => ⟨fun e => not 29 (by decide) (by decide) (by decide) (by decide) (by decide) e, fun n29 => ⟨fun e => p58 (Or.inl (a4.mp e)), fun n30 => ⟨fun e => p58 (Or.inr (a5.mp e)), fun n31 => by omega⟩⟩⟩⟩⟩⟩⟩⟩⟩⟩⟩⟩⟩
/-- telling after telling -/
theorem m_tells {N : Nat} {C : Int → aH → Prop} {K PL : Nat → Nat} {VL : Nat → Int} {sd : Nat} {h0 : aH} (Q : TOKP K PL VL) : ∀ (m t : Nat) (g h : aH) (res : Option (Nat × Nat)) (g' : aH), PTR K PL VL m t g res g' → RDS K PL VL sd t g h → FrA (ALW sd) h0 h →
    (∀ n q, res = some (n, q) → ∀ h', FrA (ALW sd) h0 h' → RFL PL n q h' → WI N 218 101 [(0, .inr (.inr 130))] h' C) → (res = none → ∀ h' t', FrA (ALW sd) h0 h' → RDS K PL VL sd t' g' h' → WI N 218 101 [(0, .inr (.inr 130))] h' C) → WI N 218 90 [(0, .inr (.inr 130))] h C
  | 0, _, _, _, _, _, P, _, _, _, _ => P.elim
  | m + 1, t, g, h, res, g', P, V, F, c0, c1 => by
    have R0 : RFS K PL VL t [] h := by
      obtain ⟨nb, nc, ns, M, ⟨R0, -⟩, -⟩ := V
      exact R0
    obtain ⟨f0, ht, t4, tk, tv⟩ := R0.kd
    refine w_218_90 ⟨fun z => absurd f0 z, fun _ => m_isR Q R0 (by simp) (k := 31) ⟨rfl, by decide⟩ (fun _ k31 => ⟨fun _ => ?_, fun z => absurd (by decide) z⟩) (fun n31 => ⟨fun z => absurd rfl z, fun _ => ?_⟩)⟩
    · rcases P with ⟨-, e1, e2⟩ | ⟨k, -⟩ | ⟨k, -⟩
      · subst e2
        exact c1 e1 h t F V
      · exact absurd k31 k
      · exact absurd k31 k
    · have k : K t ≠ 31 := fun z => n31 ⟨rfl, z⟩
      rcases P with ⟨k', -⟩ | ⟨-, n, q, e1, e2⟩ | ⟨-, e1, g1, t1, O, tt, V1, P1⟩
      · exact absurd k' k
      · refine m_tellR Q V (fun n' q' e h' F' G => ?_) (fun z => by rw [z] at e1; cases e1)
        rw [e1] at e
        injection e with e
        injection e with x1 x2
        subst x1 x2
        have f1 : ¬ h' 130 13 = 0 := by have := G.1; have := G.2.1; omega
        exact w_218_90 ⟨fun _ => c0 n q e2 h' (F.trans F') G, fun z => absurd f1 z⟩
      · exact m_tellR Q V (fun n' q' e => by rw [e1] at e; cases e) (fun _ h' F' S => m_tells Q m t1 g1 h' res g' P1 (S g1 t1 O V1.1) (F.trans F') c0 c1)
