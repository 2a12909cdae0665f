/-! read: the reference, a name told -/
theorem m_namedR {N : Nat} {C : Int → aH → Prop} {K PL : Nat → Nat} {VL : Nat → Int} {t M : Nat} {E : List Nat} {h : aH} (Q : TOKP K PL VL) (S : RFS K PL VL t E h) (hE : ∀ k ∈ E, k < 31) (hM : h 130 20 = (M : Int)) (M40 : M < 40) (hC : ∀ r h', Fr [] [11, 13, 14, 15, 16] h h' → RFS K PL VL t (E ++ [18]) h' → (FS K (E ++ [18]) t = none → r = ((t + E.length : Nat) : Int) ∧ EVT (KNR h (VL (t + E.length))) 3 (PL (t + E.length) : Int) (WNK h) (WNK h')) → C r h') : WI N 230 0 [(0, .inr (.inr 130))] h C := by
  have hE2 : ∀ k ∈ E ++ [18], k < 31 := fun k hk => by
    rcases List.mem_append.mp hk with y | y
    · exact hE k y
    · have := List.mem_singleton.mp y; omega
  refine w_230_0 (m_mustR Q S hE (k := 18) ⟨rfl, by decide⟩ (fun h1 f1 R1 => ?_))
  rcases R1.2.2 with ⟨n1, f0, ht1, wb1⟩ | ⟨m, q, n1, fm, m1, fp⟩
  · have nn : FS K E t = none := by
      cases hx : FS K E t with
      | none => rfl
      | some e => rw [FS_app.2 e hx] at n1; cases n1
    obtain ⟨s, hs⟩ : ∃ s, s = t + E.length := ⟨_, rfl⟩
    obtain ⟨p1, p2⟩ := S.pre hE nn
    rw [← hs] at hC p1 p2
    have ks : K s = 18 := by
      rw [FS_app.1 nn, ← hs] at n1
      by_cases y : K s = 18
      · exact y
      · rw [FS_1 y] at n1; cases n1
    have ht : h 130 11 = (s : Int) := by
      rcases S.2.2 with ⟨-, -, z, -⟩ | ⟨m, q, z, -⟩
      · rw [hs]; exact z
      · rw [nn] at z; cases z
    have wb0 : h 130 15 ≠ 0 → h 130 16 < (PL s : Int) := by
      rcases S.2.2 with ⟨-, -, -, z⟩ | ⟨m, q, z, -⟩
      · rw [hs]; exact z
      · rw [nn] at z; cases z
    have w1 : WNK h1 = WNK h := WNK_fr f1 (by decide) (by decide)
    have nm : (R1.1 s p2 p1).2.2.2 ks = (R1.1 s p2 p1).2.2.2 ks := rfl
    obtain ⟨-, -, -, k4⟩ := R1.1 s p2 p1
    have k4 := k4 ks
    have key : ∀ (d k : Nat) (h2 : aH), d = M - k → k ≤ M → Fr [] [15, 16] h1 h2 → EVT (∃ i : Nat, i < k ∧ h 138 i = VL s) 3 (PL s : Int) (WNK h1) (WNK h2) → WI N 230 9 [(0, .inr (.inr 130)), (1, .inl (s : Int)), (2, .inl (k : Int))] h2 C := by
      intro d
      induction d with
      | zero =>
        intro k h2 hd hk f2 ev
        have : k = M := by omega
        subst this
        refine w_230_9 ?_
        rw [f2.2 20 (by decide), f1.2 20 (by decide), hM]
        refine ⟨fun _ => hC _ h2 (f1.mono (by decide) (by decide) |>.trans (f2.mono (by decide) (by decide))) (R1.wr Q f2 ev n1 (by rw [List.length_append, List.length_singleton]; omega) (by omega)) (fun _ => ⟨rfl, ?_⟩), fun z => absurd (Int.le_refl _) z⟩
        rw [w1] at ev
        refine ev.iff ⟨fun ⟨i, i1, i2⟩ => ⟨i, by rw [hM]; omega, i2⟩, fun ⟨i, i1, i2⟩ => ⟨i, by rw [hM] at i1; omega, i2⟩⟩
      | succ d ih =>
        intro k h2 hd hk f2 ev
        refine w_230_9 ?_
        rw [f2.2 20 (by decide), f1.2 20 (by decide), hM, f2.2 13 (by decide), f0, Int.toNat_natCast, Int.toNat_natCast, f2.at 138 (by decide) (by decide), f1.at 138 (by decide) (by decide), f2.at 136 (by decide) (by decide), k4]
        have nx : ∀ h3, Fr [] [15, 16] h1 h3 → EVT (∃ i : Nat, i < k + 1 ∧ h 138 i = VL s) 3 (PL s : Int) (WNK h1) (WNK h3) → WI N 230 9 [(0, .inr (.inr 130)), (1, .inl (s : Int)), (2, .inl ((k : Int) + 1))] h3 C := fun h3 f3 e3 => ih (k + 1) h3 (by omega) (by omega) f3 e3
        refine ⟨fun z => by omega, fun _ => ⟨fun z => absurd rfl z, fun _ => ck_ix (by omega) (ck_ix (by omega) ⟨fun ne => ck_rg (by omega) (nx h2 f2 (ev.iff ⟨fun z => ?_, fun z => ?_⟩)), fun eq => ?_⟩)⟩⟩
        · obtain ⟨i, i1, i2⟩ := z
          exact ⟨i, by omega, i2⟩
        · obtain ⟨i, i1, i2⟩ := z
          by_cases y : i = k
          · exfalso
            rw [y] at i2
            exact ne (sgn_eq.mpr (by omega))
          · exact ⟨i, by omega, i2⟩
        · have e : h 138 k = VL s := by have := sgn_eq.mp (Classical.byContradiction eq); omega
          refine m_wrongR (R1.1.mv f2 (by decide)) ⟨p2, p1⟩ (by rw [f2.2 13 (by decide)]; exact f0) (by decide) ?_ (fun h3 f3 e3 => ck_rg (by omega) (nx h3 (f2.trans f3) ?_))
          · rw [w1] at ev
            exact EVT.wb wb0 ev
          · refine (ev.more (by decide) e3).iff ⟨fun z => ?_, fun _ => Or.inr trivial⟩
            exact ⟨k, by omega, e⟩
    rw [ht]
    exact key _ 0 h1 rfl (Nat.zero_le _) Fr.rfl ⟨fun z => by obtain ⟨i, i1, -⟩ := z.2; omega, fun _ => rfl⟩
  · refine w_230_9 ?_
    have go : C (h 130 11) h1 := hC _ h1 (f1.mono (by decide) (by decide)) R1 (fun z => by rw [z] at n1; cases n1)
    refine ⟨fun _ => go, fun _ => ⟨fun _ => go, fun z => absurd (by rw [fm]; omega) z⟩⟩
