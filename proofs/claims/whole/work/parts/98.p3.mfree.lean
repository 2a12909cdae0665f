/-! read: the reference, a free bed -/
/-- the bed that a name says, as the reference finds it -/
def FBR (h : aH) (x v : Int) : Prop := (v = -1 ∧ ∀ i : Nat, (i : Int) < h 130 20 → ¬ (h 138 i = x ∧ h 139 i = 0)) ∨ ∃ i : Nat, (i : Int) < h 130 20 ∧ h 138 i = x ∧ h 139 i = 0 ∧ (∀ j, j < i → ¬ (h 138 j = x ∧ h 139 j = 0)) ∧ h 140 i = v
def LYS (h : aH) (sd ns : Nat) (v : Int) : Prop := ∃ s, s < ns ∧ h 148 (12 * sd + s) = v
theorem m_freeBedR {N : Nat} {C : Int → aH → Prop} {K PL : Nat → Nat} {VL : Nat → Int} {t M sd ns : Nat} {E : List Nat} {h : aH} (Q : TOKP K PL VL) (S : RFS K PL VL t E h) (hE : ∀ k ∈ E, k < 31) (hM : h 130 20 = (M : Int)) (M40 : M < 40) (na : ∀ i, i < M → h 139 i = 0 → 0 ≤ h 140 i) (hsd : h 130 19 = (sd : Int)) (sd2 : sd < 2) (hns : h 147 sd = (ns : Int)) (ns12 : ns ≤ 12) (hC : ∀ r h', Fr [] [11, 13, 14, 15, 16] h h' → RFS K PL VL t (E ++ [18]) h' → (FS K (E ++ [18]) t = none → FBR h (VL (t + E.length)) r ∧ (r = -1 → EVT True 4 (PL (t + E.length) : Int) (WNK h) (WNK h')) ∧ (r ≠ -1 → EVT (LYS h sd ns r) 3 (PL (t + E.length) : Int) (WNK h) (WNK h'))) → C r h') : WI N 237 0 [(0, .inr (.inr 130))] h C := by
  refine w_237_0 (m_mustR Q S hE (k := 18) ⟨rfl, by decide⟩ (fun h1 f1 R1 => ?_))
  rcases R1.2.2 with ⟨n1, f0, ht1, wb1⟩ | ⟨m, q, n1, fm, m1, fp⟩
  · have nn : FS K E t = none := by
      cases hx : FS K E t with
      | none => rfl
      | some e => rw [FS_app.2 e hx] at n1; cases n1
    obtain ⟨s, hs⟩ : ∃ s, s = t + E.length := ⟨_, rfl⟩
    obtain ⟨p1, p2⟩ := S.pre hE nn
    rw [← hs] at hC p1 p2
    have ks : K s = 18 := by
      rw [FS_app.1 nn, ← hs] at n1
      by_cases y : K s = 18
      · exact y
      · rw [FS_1 y] at n1; cases n1
    have ht : h 130 11 = (s : Int) := by
      rcases S.2.2 with ⟨-, -, z, -⟩ | ⟨m, q, z, -⟩
      · rw [hs]; exact z
      · rw [nn] at z; cases z
    have wb0 : h 130 15 ≠ 0 → h 130 16 < (PL s : Int) := by
      rcases S.2.2 with ⟨-, -, -, z⟩ | ⟨m, q, z, -⟩
      · rw [hs]; exact z
      · rw [nn] at z; cases z
    have w1 : WNK h1 = WNK h := WNK_fr f1 (by decide) (by decide)
    obtain ⟨-, -, -, k4⟩ := R1.1 s p2 p1
    have k4 := k4 ks
    have lenE : s + 1 = t + (E ++ [18]).length := by rw [List.length_append, List.length_singleton]; omega
    -- the sleepers
    have slp : ∀ v : Int, v ≠ -1 → FBR h (VL s) v → ∀ (d k : Nat) (h2 : aH), d = ns - k → k ≤ ns → Fr [] [15, 16] h1 h2 → EVT (∃ i, i < k ∧ h 148 (12 * sd + i) = v) 3 (PL s : Int) (WNK h1) (WNK h2) → WI N 237 55 [(0, .inr (.inr 130)), (1, .inl (s : Int)), (2, .inl v), (3, .inl (k : Int))] h2 C := by
      intro v v1 fb d
      induction d with
      | zero =>
        intro k h2 hd hk f2 ev
        have : k = ns := by omega
        subst this
        refine w_237_55 ?_
        rw [f2.2 19 (by decide), f1.2 19 (by decide), hsd, Int.toNat_natCast, f2.at 147 (by decide) (by decide), f1.at 147 (by decide) (by decide), hns]
        refine ck_ix (by omega) ⟨fun _ => hC v h2 (f1.mono (by decide) (by decide) |>.trans (f2.mono (by decide) (by decide))) (R1.wr Q f2 ev n1 lenE (by omega)) (fun _ => ⟨fb, fun z => absurd z v1, fun _ => ?_⟩), fun z => absurd (Int.le_refl _) z⟩
        rw [w1] at ev
        exact ev
      | succ d ih =>
        intro k h2 hd hk f2 ev
        refine w_237_55 ?_
        rw [f2.2 19 (by decide), f1.2 19 (by decide), hsd, Int.toNat_natCast, f2.at 147 (by decide) (by decide), f1.at 147 (by decide) (by decide), hns, f2.at 148 (by decide) (by decide), f1.at 148 (by decide) (by decide), show ((12 : Int) * (sd : Int) + (k : Int)).toNat = 12 * sd + k by omega]
        have nx : ∀ h3, Fr [] [15, 16] h1 h3 → EVT (∃ i, i < k + 1 ∧ h 148 (12 * sd + i) = v) 3 (PL s : Int) (WNK h1) (WNK h3) → WI N 237 55 [(0, .inr (.inr 130)), (1, .inl (s : Int)), (2, .inl v), (3, .inl ((k : Int) + 1))] h3 C := fun h3 f3 e3 => ih (k + 1) h3 (by omega) (by omega) f3 e3
        refine ck_ix (by omega) ⟨fun z => by omega, fun _ => ⟨fun z => absurd z v1, fun _ => ck_rg (by omega) (ck_rg (by omega) (ck_ix (by omega) ⟨fun ne => ck_rg (by omega) (nx h2 f2 (ev.iff ⟨fun z => ?_, fun z => ?_⟩)), fun eq => ?_⟩))⟩⟩
        · obtain ⟨i, i1, i2⟩ := z
          exact ⟨i, by omega, i2⟩
        · obtain ⟨i, i1, i2⟩ := z
          by_cases y : i = k
          · exact absurd (by rw [← y]; exact i2) ne
          · exact ⟨i, by omega, i2⟩
        · refine m_wrongR (R1.1.mv f2 (by decide)) ⟨p2, p1⟩ (by rw [f2.2 13 (by decide)]; exact f0) (by decide) ?_ (fun h3 f3 e3 => ck_rg (by omega) (nx h3 (f2.trans f3) ?_))
          · rw [w1] at ev
            exact EVT.wb wb0 ev
          · refine (ev.more (by decide) e3).iff ⟨fun z => ⟨k, by omega, Classical.byContradiction eq⟩, fun _ => Or.inr trivial⟩
    -- the names
    have key : ∀ (d k : Nat) (v : Int), d = M - k → k ≤ M → ((v = -1 ∧ ∀ i, i < k → ¬ (h 138 i = VL s ∧ h 139 i = 0)) ∨ (v ≠ -1 ∧ ∃ i, i < k ∧ h 138 i = VL s ∧ h 139 i = 0 ∧ (∀ j, j < i → ¬ (h 138 j = VL s ∧ h 139 j = 0)) ∧ h 140 i = v)) → WI N 237 16 [(0, .inr (.inr 130)), (1, .inl (s : Int)), (2, .inl v), (3, .inl (k : Int))] h1 C := by
      intro d
      induction d with
      | zero =>
        intro k v hd hk o
        have : k = M := by omega
        subst this
        refine w_237_16 ?_
        rw [f1.2 20 (by decide), hM]
        refine ⟨fun _ => ⟨fun v1 => ?_, fun v0 => ?_⟩, fun z => absurd (Int.le_refl _) z⟩
        · rcases o with ⟨o, -⟩ | ⟨-, i, i1, i2, i3, i4, i5⟩
          · exact absurd o v1
          · exact slp v v1 (Or.inr ⟨i, by rw [hM]; omega, i2, i3, i4, i5⟩) _ 0 h1 rfl (Nat.zero_le _) Fr.rfl ⟨fun z => by obtain ⟨i, i1, -⟩ := z.2; omega, fun _ => rfl⟩
        · have v0 := Classical.byContradiction v0
          rcases o with ⟨-, o⟩ | ⟨o, -⟩
          · refine m_wrongR R1.1 ⟨p2, p1⟩ f0 (by decide) (fun z => Or.inl ?_) (fun h2 f2 ev => ?_)
            · have := w1
              unfold WNK at this
              injection this with e1 e2
              rw [e1] at z
              rw [e2]
              exact wb0 z
            · refine w_237_55 ?_
              rw [f2.2 19 (by decide), f1.2 19 (by decide), hsd]
              have go : C v h2 := by
                refine hC v h2 (f1.mono (by decide) (by decide) |>.trans (f2.mono (by decide) (by decide))) (R1.wr Q f2 ev n1 lenE (by omega)) (fun _ => ⟨Or.inl ⟨v0, fun i i1 => o i (by rw [hM] at i1; omega)⟩, fun _ => ?_, fun z => absurd v0 z⟩)
                rw [w1] at ev
                exact ev
              exact ck_ix (by omega) ⟨fun _ => go, fun _ => ⟨fun _ => go, fun z => absurd v0 z⟩⟩
          · exact absurd v0 o
      | succ d ih =>
        intro k v hd hk o
        refine w_237_16 ?_
        rw [f1.2 20 (by decide), hM, Int.toNat_natCast, Int.toNat_natCast, f1.at 138 (by decide) (by decide), f1.at 139 (by decide) (by decide), f1.at 140 (by decide) (by decide), k4]
        refine ⟨fun z => by clear o; omega, fun _ => ⟨fun v1 => ck_rg (by clear o; omega) (ih (k + 1) v (by clear o; omega) (by clear o; omega) (Or.inr ⟨v1, ?_⟩)), fun v0 => ck_ix (by clear o; omega) (ck_ix (by clear o; omega) ⟨fun ne => ck_rg (by clear o; omega) (ih (k + 1) v (by clear o; omega) (by clear o; omega) (Or.inl ⟨Classical.byContradiction v0, fun i hi => ?_⟩)), fun eq => ck_ix (by clear o; omega) ⟨fun ns0 => ck_rg (by clear o; omega) (ih (k + 1) v (by clear o; omega) (by clear o; omega) (Or.inl ⟨Classical.byContradiction v0, fun i hi => ?_⟩)), fun s0 => ck_ix (by clear o; omega) (ck_rg (by clear o; omega) (ih (k + 1) _ (by clear o; omega) (by clear o; omega) (Or.inr ⟨?_, k, by omega, ?_, Classical.byContradiction s0, fun j hj => ?_, rfl⟩)))⟩⟩)⟩⟩
        · rcases o with ⟨o, -⟩ | ⟨-, i, i1, i2⟩
          · exact absurd o v1
          · exact ⟨i, by omega, i2⟩
        · rcases o with ⟨-, o⟩ | ⟨o, -⟩
          · by_cases y : i = k
            · rw [y]; exact fun z => ne (sgn_eq.mpr (by omega))
            · exact o i (by omega)
          · exact absurd (Classical.byContradiction v0) o
        · rcases o with ⟨-, o⟩ | ⟨o, -⟩
          · by_cases y : i = k
            · rw [y]; exact fun z => ns0 z.2
            · exact o i (by omega)
          · exact absurd (Classical.byContradiction v0) o
        · have := na k (by clear o; omega) (Classical.byContradiction s0)
          clear o
          omega
        · have := sgn_eq.mp (Classical.byContradiction eq); clear o; omega
        · rcases o with ⟨-, o⟩ | ⟨o, -⟩
          · exact o j hj
          · exact absurd (Classical.byContradiction v0) o
    refine ⟨fun _ => ?_, fun z => absurd (by rw [f0]; exact Int.le_refl _) z⟩
    rw [ht]
    exact key _ 0 (-1) rfl (Nat.zero_le _) (Or.inl ⟨rfl, fun i hi => absurd hi (Nat.not_lt_zero i)⟩)
  · refine ⟨fun z => by rw [fm] at z; omega, fun _ => hC (-1) h1 (f1.mono (by decide) (by decide)) R1 (fun z => by rw [z] at n1; cases n1)⟩
