/-! read: the reference's names, free beds -/
theorem RFS.wr {K PL : Nat → Nat} {VL : Nat → Int} {t s : Nat} {n : Int} {bad : Prop} {E : List Nat} {h h' : aH} (Q : TOKP K PL VL) (S : RFS K PL VL t E h) (f : Fr [] [15, 16] h h') (ev : EVT bad n (PL s : Int) (WNK h) (WNK h')) (ok : FS K E t = none) (hs : s + 1 = t + E.length) (k31 : K s ≠ 31) : RFS K PL VL t E h' := by
  obtain ⟨a, b, c⟩ := S
  refine ⟨a.mv f (by decide), b, ?_⟩
  rcases c with ⟨nn, f0, ht, wb⟩ | ⟨m, q, nn, -⟩
  · refine Or.inl ⟨nn, by rw [f.2 13 (by decide)]; exact f0, by rw [f.2 11 (by decide)]; exact ht, fun z => ?_⟩
    have pm := Q.2.1 s k31
    rw [← hs] at wb ⊢
    rcases Classical.em ((WNK h).1 = 0 ∧ bad) with y | y
    · have := ev.1 y
      unfold WNK at this
      injection this with e1 e2
      omega
    · have := ev.2 y
      unfold WNK at this
      injection this with e1 e2
      rw [e1] at z
      rw [e2]
      exact wb z
  · rw [ok] at nn; cases nn
theorem EVT.more {bad bad' : Prop} {n p : Int} {s s1 s2 : Int × Int} (n0 : n ≠ 0) (a : EVT bad n p s s1) (b : EVT bad' n p s1 s2) : EVT (bad ∨ bad') n p s s2 := by
  rcases Classical.em (s.1 = 0 ∧ bad) with y | y
  · have e1 := a.1 y
    have e2 := b.2 (fun z => n0 (by have := z.1; rw [e1] at this; exact this))
    exact ⟨fun _ => by rw [e2, e1], fun z => absurd ⟨y.1, Or.inl y.2⟩ z⟩
  · have e1 := a.2 y
    rw [e1] at b
    refine ⟨fun z => b.1 ⟨z.1, ?_⟩, fun z => b.2 (fun q => z ⟨q.1, Or.inr q.2⟩)⟩
    rcases z.2 with q | q
    · exact absurd ⟨z.1, q⟩ y
    · exact q
theorem EVT.iff {bad bad' : Prop} {n p : Int} {s s' : Int × Int} (h : bad ↔ bad') (e : EVT bad n p s s') : EVT bad' n p s s' := ⟨fun z => e.1 ⟨z.1, h.mpr z.2⟩, fun z => e.2 (fun y => z ⟨y.1, h.mp y.2⟩)⟩
/-- what is wrong so far at the s-th TOKEN -/
theorem EVT.wb {bad : Prop} {n p : Int} {h h' : aH} (wb : h 130 15 ≠ 0 → h 130 16 < p) (ev : EVT bad n p (WNK h) (WNK h')) : h' 130 15 ≠ 0 → h' 130 16 < p ∨ (h' 130 16 = p ∧ h' 130 15 = n) := by
  intro z
  rcases Classical.em ((WNK h).1 = 0 ∧ bad) with y | y
  · have := ev.1 y
    unfold WNK at this
    injection this with e1 e2
    exact Or.inr ⟨e2, e1⟩
  · have := ev.2 y
    unfold WNK at this
    injection this with e1 e2
    rw [e1] at z
    rw [e2]
    exact Or.inl (wb z)
def KNR (h : aH) (v : Int) : Prop := ∃ i : Nat, (i : Int) < h 130 20 ∧ h 138 i = v
