/-! read: the reference's names, free beds -/
theorem RFS.wr {K PL : Nat → Nat} {VL : Nat → Int} {t s : Nat} {n : Int} {bad : Prop} {E : List Nat} {h h' : aH} (Q : TOKP K PL VL) (S : RFS K PL VL t E h) (f : Fr [] [15, 16] h h') (ev : EVT bad n (PL s : Int) (WNK h) (WNK h')) (ok : FS K E t = none) (hs : s + 1 = t + E.length) (k31 : K s ≠ 31) : RFS K PL VL t E h' := by
  obtain ⟨a, b, c⟩ := S
  refine ⟨a.mv f (by decide), b, ?_⟩
  rcases c with ⟨nn, f0, ht, wb⟩ | ⟨m, q, nn, -⟩
  · refine Or.inl ⟨nn, by rw [f.2 13 (by decide)]; exact f0, by rw [f.2 11 (by decide)]; exact ht, fun z => ?_⟩
    have pm := Q.2.1 s k31
    rw [← hs] at wb ⊢
    rcases Classical.em ((WNK h).1 = 0 ∧ bad) with y | y
    · have := ev.1 y
      unfold WNK at this
      injection this with e1 e2
      omega
    · have := ev.2 y
      unfold WNK at this
      injection this with e1 e2
      rw [e1] at z
      rw [e2]
      exact wb z
  · rw [ok] at nn; cases nn
theorem EVT.more {bad bad' : Prop} {n p : Int} {s s1 s2 : Int × Int} (n0 : n ≠ 0) (a : EVT bad n p s s1) (b : EVT bad' n p s1 s2) : EVT (bad ∨ bad') n p s s2 := by
  rcases Classical.em (s.1 = 0 ∧ bad) with y | y
  · have e1 := a.1 y
    have e2 := b.2 (fun z => n0 (by have := z.1; rw [e1] at this; exact this))
    exact ⟨fun _ => by rw [e2, e1], fun z => absurd ⟨y.1, Or.inl y.2⟩ z⟩
  · have e1 := a.2 y
    rw [e1] at b
    refine ⟨fun z => b.1 ⟨z.1, ?_⟩, fun z => b.2 (fun q => z ⟨q.1, Or.inr q.2⟩)⟩
    rcases z.2 with q | q
    · exact absurd ⟨z.1, q⟩ y
    · exact q
theorem EVT.iff {bad bad' : Prop} {n p : Int} {s s' : Int × Int} (h : bad ↔ bad') (e : EVT bad n p s s') : EVT bad' n p s s' := ⟨fun z => e.1 ⟨z.1, h.mpr z.2⟩, fun z => e.2 (fun y => z ⟨y.1, h.mp y.2⟩)⟩
/-- what is wrong so far at the s-th TOKEN -/
theorem EVT.wb {bad : Prop} {n p : Int} {h h' : aH} (wb : h 130 15 ≠ 0 → h 130 16 < p) (ev : EVT bad n p (WNK h) (WNK h')) : h' 130 15 ≠ 0 → h' 130 16 < p ∨ (h' 130 16 = p ∧ h' 130 15 = n) := by
  intro z
  rcases Classical.em ((WNK h).1 = 0 ∧ bad) with y | y
  · have := ev.1 y
    unfold WNK at this
    injection this with e1 e2
    exact Or.inr ⟨e2, e1⟩
  · have := ev.2 y
    unfold WNK at this
    injection this with e1 e2
    rw [e1] at z
    rw [e2]
    exact Or.inl (wb z)
def KNR (h : aH) (v : Int) : Prop := ∃ i : Nat, (i : Int) < h 130 20 ∧ h 138 i = v
theorem m_namedR {N : Nat} {C : Int → aH → Prop} {K PL : Nat → Nat} {VL : Nat → Int} {t M : Nat} {E : List Nat} {h : aH} (Q : TOKP K PL VL) (S : RFS K PL VL t E h) (hE : ∀ k ∈ E, k < 31) (hM : h 130 20 = (M : Int)) (M40 : M < 40) (hC : ∀ r h', Fr [] [11, 13, 14, 15, 16] h h' → RFS K PL VL t (E ++ [18]) h' → (FS K (E ++ [18]) t = none → r = ((t + E.length : Nat) : Int) ∧ EVT (KNR h (VL (t + E.length))) 3 (PL (t + E.length) : Int) (WNK h) (WNK h')) → C r h') : WI N 230 0 [(0, .inr (.inr 130))] h C := by
  have hE2 : ∀ k ∈ E ++ [18], k < 31 := fun k hk => by
    rcases List.mem_append.mp hk with y | y
    · exact hE k y
    · have := List.mem_singleton.mp y; omega
  refine w_230_0 (m_mustR Q S hE (k := 18) ⟨rfl, by decide⟩ (fun h1 f1 R1 => ?_))
  rcases R1.2.2 with ⟨n1, f0, ht1, wb1⟩ | ⟨m, q, n1, fm, m1, fp⟩
  · have nn : FS K E t = none := by
      cases hx : FS K E t with
      | none => rfl
      | some e => rw [FS_app.2 e hx] at n1; cases n1
    obtain ⟨s, hs⟩ : ∃ s, s = t + E.length := ⟨_, rfl⟩
    obtain ⟨p1, p2⟩ := S.pre hE nn
    rw [← hs] at hC p1 p2
    have ks : K s = 18 := by
      rw [FS_app.1 nn, ← hs] at n1
      by_cases y : K s = 18
      · exact y
      · rw [FS_1 y] at n1; cases n1
    have ht : h 130 11 = (s : Int) := by
      rcases S.2.2 with ⟨-, -, z, -⟩ | ⟨m, q, z, -⟩
      · rw [hs]; exact z
      · rw [nn] at z; cases z
    have wb0 : h 130 15 ≠ 0 → h 130 16 < (PL s : Int) := by
      rcases S.2.2 with ⟨-, -, -, z⟩ | ⟨m, q, z, -⟩
      · rw [hs]; exact z
      · rw [nn] at z; cases z
    have w1 : WNK h1 = WNK h := WNK_fr f1 (by decide) (by decide)
    have nm : (R1.1 s p2 p1).2.2.2 ks = (R1.1 s p2 p1).2.2.2 ks := rfl
    obtain ⟨-, -, -, k4⟩ := R1.1 s p2 p1
    have k4 := k4 ks
    have key : ∀ (d k : Nat) (h2 : aH), d = M - k → k ≤ M → Fr [] [15, 16] h1 h2 → EVT (∃ i : Nat, i < k ∧ h 138 i = VL s) 3 (PL s : Int) (WNK h1) (WNK h2) → WI N 230 9 [(0, .inr (.inr 130)), (1, .inl (s : Int)), (2, .inl (k : Int))] h2 C := by
      intro d
      induction d with
      | zero =>
        intro k h2 hd hk f2 ev
        have : k = M := by omega
        subst this
        refine w_230_9 ?_
        rw [f2.2 20 (by decide), f1.2 20 (by decide), hM]
        refine ⟨fun _ => hC _ h2 (f1.mono (by decide) (by decide) |>.trans (f2.mono (by decide) (by decide))) (R1.wr Q f2 ev n1 (by rw [List.length_append, List.length_singleton]; omega) (by omega)) (fun _ => ⟨rfl, ?_⟩), fun z => absurd (Int.le_refl _) z⟩
        rw [w1] at ev
        refine ev.iff ⟨fun ⟨i, i1, i2⟩ => ⟨i, by rw [hM]; omega, i2⟩, fun ⟨i, i1, i2⟩ => ⟨i, by rw [hM] at i1; omega, i2⟩⟩
      | succ d ih =>
        intro k h2 hd hk f2 ev
        refine w_230_9 ?_
        rw [f2.2 20 (by decide), f1.2 20 (by decide), hM, f2.2 13 (by decide), f0, Int.toNat_natCast, Int.toNat_natCast, f2.at 138 (by decide) (by decide), f1.at 138 (by decide) (by decide), f2.at 136 (by decide) (by decide), k4]
        have nx : ∀ h3, Fr [] [15, 16] h1 h3 → EVT (∃ i : Nat, i < k + 1 ∧ h 138 i = VL s) 3 (PL s : Int) (WNK h1) (WNK h3) → WI N 230 9 [(0, .inr (.inr 130)), (1, .inl (s : Int)), (2, .inl ((k : Int) + 1))] h3 C := fun h3 f3 e3 => ih (k + 1) h3 (by omega) (by omega) f3 e3
        refine ⟨fun z => by omega, fun _ => ⟨fun z => absurd rfl z, fun _ => ck_ix (by omega) (ck_ix (by omega) ⟨fun ne => ck_rg (by omega) (nx h2 f2 (ev.iff ⟨fun ⟨i, i1, i2⟩ => ⟨i, by omega, i2⟩, fun ⟨i, i1, i2⟩ => ⟨i, ?_, i2⟩⟩)), fun eq => ?_⟩)⟩⟩
        · by_cases y : i = k
          · exfalso
            rw [y] at i2
            exact ne (sgn_eq.mpr (by omega))
          · omega
        · have e : h 138 k = VL s := by have := sgn_eq.mp (Classical.byContradiction eq); omega
          refine m_wrongR (R1.1.mv f2 (by decide)) ⟨p2, p1⟩ (by rw [f2.2 13 (by decide)]; exact f0) (by decide) ?_ (fun h3 f3 e3 => ck_rg (by omega) (nx h3 (f2.trans f3) ?_))
          · rw [w1] at ev
            exact EVT.wb wb0 ev
          · refine (ev.more (by decide) e3).iff ⟨fun z => ?_, fun _ => Or.inr trivial⟩
            exact ⟨k, by omega, e⟩
    rw [ht]
    exact key _ 0 h1 rfl (Nat.zero_le _) Fr.rfl ⟨fun z => by obtain ⟨i, i1, -⟩ := z.2; omega, fun _ => rfl⟩
  · refine w_230_9 ?_
    have go : C (h 130 11) h1 := hC _ h1 (f1.mono (by decide) (by decide)) R1 (fun z => by rw [z] at n1; cases n1)
    refine ⟨fun _ => go, fun _ => ⟨fun _ => go, fun z => absurd (by rw [fm]; omega) z⟩⟩
theorem m_knowsR {N : Nat} {C : aH → Prop} {K PL : Nat → Nat} {VL : Nat → Int} {s M : Nat} {srt w : Int} {h : aH} (T : TOKR K PL VL h) (hs : s ≤ 400 ∧ ∀ i, i < s → K i < 31) (ks : K s = 18) (hM : h 130 20 = (M : Int)) (M40 : M < 40) (hC : ∀ h', Fr [138, 139, 140] [20] h h' → h' 130 20 = (M : Int) + 1 → (h' 138 M = VL s ∧ h' 139 M = srt ∧ h' 140 M = w) → (∀ j, j ≠ M → h' 138 j = h 138 j ∧ h' 139 j = h 139 j ∧ h' 140 j = h 140 j) → C h') : WV N 234 0 [(0, .inr (.inr 130)), (1, .inl (s : Int)), (2, .inl srt), (3, .inl w)] h C := by
  obtain ⟨-, -, -, k4⟩ := T s hs.1 hs.2
  have k4 := k4 ks
  refine w_234_0 ?_
  rw [hM, Int.toNat_natCast, Int.toNat_natCast, k4]
  refine ck_ix (by omega) (ck_ix (by omega) (ck_ix (by omega) (ck_ix (by omega) (ck_rg (by omega) (hC _ ((((Fr.rfl.up (by decide) (by decide)).up (by decide) (by decide)).up (by decide) (by decide)).upM (by decide)) ?_ ⟨?_, ?_, ?_⟩ (fun j hj => ⟨?_, ?_, ?_⟩))))))
  · simp [up_in, up_row]
  · simp [up_in, up_row]
  · simp [up_in, up_row]
  · simp [up_in, up_row]
  · simp [up_in, up_row, hj]
  · simp [up_in, up_row, hj]
  · simp [up_in, up_row, hj]
/-- the bed that a name says, as the reference finds it -/
def FBR (h : aH) (x v : Int) : Prop := (v = -1 ∧ ∀ i : Nat, (i : Int) < h 130 20 → ¬ (h 138 i = x ∧ h 139 i = 0)) ∨ ∃ i : Nat, (i : Int) < h 130 20 ∧ h 138 i = x ∧ h 139 i = 0 ∧ (∀ j, j < i → ¬ (h 138 j = x ∧ h 139 j = 0)) ∧ h 140 i = v
def LYS (h : aH) (sd ns : Nat) (v : Int) : Prop := ∃ s, s < ns ∧ h 148 (12 * sd + s) = v
theorem m_freeBedR {N : Nat} {C : Int → aH → Prop} {K PL : Nat → Nat} {VL : Nat → Int} {t M sd ns : Nat} {E : List Nat} {h : aH} (Q : TOKP K PL VL) (S : RFS K PL VL t E h) (hE : ∀ k ∈ E, k < 31) (hM : h 130 20 = (M : Int)) (M40 : M < 40) (na : ∀ i, i < M → h 139 i = 0 → 0 ≤ h 140 i) (hsd : h 130 19 = (sd : Int)) (sd2 : sd < 2) (hns : h 147 sd = (ns : Int)) (ns12 : ns ≤ 12) (hC : ∀ r h', Fr [] [11, 13, 14, 15, 16] h h' → RFS K PL VL t (E ++ [18]) h' → (FS K (E ++ [18]) t = none → FBR h (VL (t + E.length)) r ∧ (r = -1 → EVT True 4 (PL (t + E.length) : Int) (WNK h) (WNK h')) ∧ (r ≠ -1 → EVT (LYS h sd ns r) 3 (PL (t + E.length) : Int) (WNK h) (WNK h'))) → C r h') : WI N 237 0 [(0, .inr (.inr 130))] h C := by
  refine w_237_0 (m_mustR Q S hE (k := 18) ⟨rfl, by decide⟩ (fun h1 f1 R1 => ?_))
  rcases R1.2.2 with ⟨n1, f0, ht1, wb1⟩ | ⟨m, q, n1, fm, m1, fp⟩
  · have nn : FS K E t = none := by
      cases hx : FS K E t with
      | none => rfl
      | some e => rw [FS_app.2 e hx] at n1; cases n1
    obtain ⟨s, hs⟩ : ∃ s, s = t + E.length := ⟨_, rfl⟩
    obtain ⟨p1, p2⟩ := S.pre hE nn
    rw [← hs] at hC p1 p2
    have ks : K s = 18 := by
      rw [FS_app.1 nn, ← hs] at n1
      by_cases y : K s = 18
      · exact y
      · rw [FS_1 y] at n1; cases n1
    have ht : h 130 11 = (s : Int) := by
      rcases S.2.2 with ⟨-, -, z, -⟩ | ⟨m, q, z, -⟩
      · rw [hs]; exact z
      · rw [nn] at z; cases z
    have wb0 : h 130 15 ≠ 0 → h 130 16 < (PL s : Int) := by
      rcases S.2.2 with ⟨-, -, -, z⟩ | ⟨m, q, z, -⟩
      · rw [hs]; exact z
      · rw [nn] at z; cases z
    have w1 : WNK h1 = WNK h := WNK_fr f1 (by decide) (by decide)
    obtain ⟨-, -, -, k4⟩ := R1.1 s p2 p1
    have k4 := k4 ks
    have lenE : s + 1 = t + (E ++ [18]).length := by rw [List.length_append, List.length_singleton]; omega
    -- the sleepers
    have slp : ∀ v : Int, v ≠ -1 → FBR h (VL s) v → ∀ (d k : Nat) (h2 : aH), d = ns - k → k ≤ ns → Fr [] [15, 16] h1 h2 → EVT (∃ i, i < k ∧ h 148 (12 * sd + i) = v) 3 (PL s : Int) (WNK h1) (WNK h2) → WI N 237 55 [(0, .inr (.inr 130)), (1, .inl (s : Int)), (2, .inl v), (3, .inl (k : Int))] h2 C := by
      intro v v1 fb d
      induction d with
      | zero =>
        intro k h2 hd hk f2 ev
        have : k = ns := by omega
        subst this
        refine w_237_55 ?_
        rw [f2.2 19 (by decide), f1.2 19 (by decide), hsd, Int.toNat_natCast, f2.at 147 (by decide) (by decide), f1.at 147 (by decide) (by decide), hns]
        refine ck_ix (by omega) ⟨fun _ => hC v h2 (f1.mono (by decide) (by decide) |>.trans (f2.mono (by decide) (by decide))) (R1.wr Q f2 ev n1 lenE (by omega)) (fun _ => ⟨fb, fun z => absurd z v1, fun _ => ?_⟩), fun z => absurd (Int.le_refl _) z⟩
        rw [w1] at ev
        exact ev
      | succ d ih =>
        intro k h2 hd hk f2 ev
        refine w_237_55 ?_
        rw [f2.2 19 (by decide), f1.2 19 (by decide), hsd, Int.toNat_natCast, f2.at 147 (by decide) (by decide), f1.at 147 (by decide) (by decide), hns, f2.at 148 (by decide) (by decide), f1.at 148 (by decide) (by decide), show ((12 : Int) * (sd : Int) + (k : Int)).toNat = 12 * sd + k by omega]
        have nx : ∀ h3, Fr [] [15, 16] h1 h3 → EVT (∃ i, i < k + 1 ∧ h 148 (12 * sd + i) = v) 3 (PL s : Int) (WNK h1) (WNK h3) → WI N 237 55 [(0, .inr (.inr 130)), (1, .inl (s : Int)), (2, .inl v), (3, .inl ((k : Int) + 1))] h3 C := fun h3 f3 e3 => ih (k + 1) h3 (by omega) (by omega) f3 e3
        refine ck_ix (by omega) ⟨fun z => by omega, fun _ => ⟨fun z => absurd z v1, fun _ => ck_rg (by omega) (ck_rg (by omega) (ck_ix (by omega) ⟨fun ne => ck_rg (by omega) (nx h2 f2 (ev.iff ⟨fun ⟨i, i1, i2⟩ => ⟨i, by omega, i2⟩, fun ⟨i, i1, i2⟩ => ⟨i, ?_, i2⟩⟩)), fun eq => ?_⟩))⟩⟩
        · by_cases y : i = k
          · exact absurd (by rw [← y]; exact i2) ne
          · omega
        · refine m_wrongR (R1.1.mv f2 (by decide)) ⟨p2, p1⟩ (by rw [f2.2 13 (by decide)]; exact f0) (by decide) ?_ (fun h3 f3 e3 => ck_rg (by omega) (nx h3 (f2.trans f3) ?_))
          · rw [w1] at ev
            exact EVT.wb wb0 ev
          · refine (ev.more (by decide) e3).iff ⟨fun z => ⟨k, by omega, Classical.byContradiction eq⟩, fun _ => Or.inr trivial⟩
    -- the names
    have key : ∀ (d k : Nat) (v : Int), d = M - k → k ≤ M → ((v = -1 ∧ ∀ i, i < k → ¬ (h 138 i = VL s ∧ h 139 i = 0)) ∨ (v ≠ -1 ∧ ∃ i, i < k ∧ h 138 i = VL s ∧ h 139 i = 0 ∧ (∀ j, j < i → ¬ (h 138 j = VL s ∧ h 139 j = 0)) ∧ h 140 i = v)) → WI N 237 16 [(0, .inr (.inr 130)), (1, .inl (s : Int)), (2, .inl v), (3, .inl (k : Int))] h1 C := by
      intro d
      induction d with
      | zero =>
        intro k v hd hk o
        have : k = M := by omega
        subst this
        refine w_237_16 ?_
        rw [f1.2 20 (by decide), hM]
        refine ⟨fun _ => ⟨fun v1 => ?_, fun v0 => ?_⟩, fun z => absurd (Int.le_refl _) z⟩
        · rcases o with ⟨o, -⟩ | ⟨-, i, i1, i2, i3, i4, i5⟩
          · exact absurd o v1
          · exact slp v v1 (Or.inr ⟨i, by rw [hM]; omega, i2, i3, i4, i5⟩) _ 0 h1 rfl (Nat.zero_le _) Fr.rfl ⟨fun z => by obtain ⟨i, i1, -⟩ := z.2; omega, fun _ => rfl⟩
        · have v0 := Classical.byContradiction v0
          rcases o with ⟨-, o⟩ | ⟨o, -⟩
          · refine m_wrongR R1.1 ⟨p2, p1⟩ f0 (by decide) (fun z => Or.inl ?_) (fun h2 f2 ev => ?_)
            · have := w1
              unfold WNK at this
              injection this with e1 e2
              rw [e1] at z
              rw [e2]
              exact wb0 z
            · refine w_237_55 ?_
              rw [f2.2 19 (by decide), f1.2 19 (by decide), hsd]
              have go : C v h2 := by
                refine hC v h2 (f1.mono (by decide) (by decide) |>.trans (f2.mono (by decide) (by decide))) (R1.wr Q f2 ev n1 lenE (by omega)) (fun _ => ⟨Or.inl ⟨v0, fun i i1 => o i (by rw [hM] at i1; omega)⟩, fun _ => ?_, fun z => absurd v0 z⟩)
                rw [w1] at ev
                exact ev
              exact ck_ix (by omega) ⟨fun _ => go, fun _ => ⟨fun _ => go, fun z => absurd v0 z⟩⟩
          · exact absurd v0 o
      | succ d ih =>
        intro k v hd hk o
        refine w_237_16 ?_
        rw [f1.2 20 (by decide), hM, Int.toNat_natCast, Int.toNat_natCast, f1.at 138 (by decide) (by decide), f1.at 139 (by decide) (by decide), f1.at 140 (by decide) (by decide), k4]
        refine ⟨fun z => by omega, fun _ => ⟨fun v1 => ck_rg (by omega) (ih (k + 1) v (by omega) (by omega) (Or.inr ⟨v1, ?_⟩)), fun v0 => ck_ix (by omega) (ck_ix (by omega) ⟨fun ne => ck_rg (by omega) (ih (k + 1) v (by omega) (by omega) (Or.inl ⟨Classical.byContradiction v0, fun i hi => ?_⟩)), fun eq => ck_ix (by omega) ⟨fun ns0 => ck_rg (by omega) (ih (k + 1) v (by omega) (by omega) (Or.inl ⟨Classical.byContradiction v0, fun i hi => ?_⟩)), fun s0 => ck_ix (by omega) (ck_rg (by omega) (ih (k + 1) _ (by omega) (by omega) (Or.inr ⟨?_, k, by omega, ?_, Classical.byContradiction s0, fun j hj => ?_, rfl⟩)))⟩⟩)⟩⟩
        · rcases o with ⟨o, -⟩ | ⟨-, i, i1, i2⟩
          · exact absurd o v1
          · exact ⟨i, by omega, i2⟩
        · rcases o with ⟨-, o⟩ | ⟨o, -⟩
          · by_cases y : i = k
            · rw [y]; exact fun z => ne (sgn_eq.mpr (by omega))
            · exact o i (by omega)
          · exact absurd (Classical.byContradiction v0) o
        · rcases o with ⟨-, o⟩ | ⟨o, -⟩
          · by_cases y : i = k
            · rw [y]; exact fun z => ns0 z.2
            · exact o i (by omega)
          · exact absurd (Classical.byContradiction v0) o
        · have := na k (by omega) (Classical.byContradiction s0)
          omega
        · have := sgn_eq.mp (Classical.byContradiction eq); omega
        · rcases o with ⟨-, o⟩ | ⟨o, -⟩
          · exact o j hj
          · exact absurd (Classical.byContradiction v0) o
    refine ⟨fun _ => ?_, fun z => absurd (by rw [f0]; exact Int.le_refl _) z⟩
    rw [ht]
    exact key _ 0 (-1) rfl (Nat.zero_le _) (Or.inl ⟨rfl, fun i hi => absurd hi (Nat.not_lt_zero i)⟩)
  · refine ⟨fun z => by rw [fm] at z; omega, fun _ => hC (-1) h1 (f1.mono (by decide) (by decide)) R1 (fun z => by rw [z] at n1; cases n1)⟩
