/-! read: the reference's other half stays; what faults there are; where the reference ends -/
theorem Lv_of {sd : Nat} {h : aH} (hl : h 130 18 = 1 - (sd : Int)) (sd2 : sd < 2) : Lv h = 1 - sd := by
  unfold Lv
  omega
theorem FrA.fr2 {sd : Nat} {a b : aH} (F : FrA (ALR sd) a b) : Fr [132, 133, 134, 135, 136, 138, 139, 140, 141, 142, 143, 144, 145, 146, 147, 148, 149, 150, 151, 152, 153, 154, 155, 156, 157, 158] [2, 4, 10, 11, 12, 13, 14, 15, 16, 19, 20, 39, 43] a b := by
  refine ⟨fun r hr hc => F.row r (fun j => ?_), fun j hj => F 130 j ?_⟩
  · simp at hc
    unfold ALR ALW
    omega
  · simp at hj
    unfold ALR ALW
    omega
theorem RelL.far {sd law : Nat} {h h' : aH} {steps : Nat → Int} {n : Int} (R : RelL h law steps n) (F : FrA (ALR sd) h h') (sd2 : sd < 2) (ne : law / 2 = 1 - sd) (lo : 420 * ((1 - sd : Nat) : Int) ≤ h 154 law) (hi : h 155 law ≤ 420 * ((1 - sd : Nat) : Int) + 420) : RelL h' law steps n := by
  obtain ⟨r0, r1, r2, r3, r4⟩ := R
  have e4 : h' 154 law = h 154 law := F 154 law (by unfold ALR ALW; omega)
  have e5 : h' 155 law = h 155 law := F 155 law (by unfold ALR ALW; omega)
  unfold RelL
  rw [e4, e5]
  refine ⟨r0, r1, r2, fun i hi2 => ?_, r4⟩
  rw [F 156 _ (by unfold ALR ALW; omega), F 157 _ (by unfold ALR ALW; omega)]
  exact r3 i hi2
theorem RelH.far {sd : Nat} {h h' : aH} (H : HI h) (R : RelH h) (G : okReg h) (hl : h 130 18 = 1 - (sd : Int)) (sd2 : sd < 2) (F : FrA (ALR sd) h h') : RelH h' ∧ okReg h' := by
  have L := Lv_of hl sd2
  have e18 : h' 130 18 = h 130 18 := F 130 18 (by unfold ALR ALW; omega)
  have eL : Lv h' = Lv h := by unfold Lv; rw [e18]
  have f2 := F.fr2
  have z := H.1
  unfold okSz at z
  have t0 : ∀ law, law / 2 = 1 - sd → h' 153 law = h 153 law := fun law e => F 153 law (by unfold ALR ALW; omega)
  refine ⟨?_, ?_⟩
  · unfold RelH at R ⊢
    rw [eL, e18, f2.at 16 (by decide) (by decide), f2.at 17 (by decide) (by decide), f2.at 18 (by decide) (by decide), f2.at 19 (by decide) (by decide), f2.at 20 (by decide) (by decide), f2.at 22 (by decide) (by decide), f2.at 23 (by decide) (by decide), f2.at 24 (by decide) (by decide), f2.at 25 (by decide) (by decide), f2.at 29 (by decide) (by decide), f2.at 30 (by decide) (by decide), f2.at 32 (by decide) (by decide), f2.at 33 (by decide) (by decide)]
    unfold okReg at G
    rw [L] at R G ⊢
    obtain ⟨r1, ⟨r2, r3, r4⟩, r5, r6, r7, r8, r9⟩ := R
    refine ⟨r1, ⟨?_, ?_, ?_⟩, fun b hb => ?_, fun c hc => ?_, fun s hs => ?_, ?_, ?_⟩
    · rw [F 141 _ (by unfold ALR ALW; omega)]; exact r2
    · rw [F 144 _ (by unfold ALR ALW; omega)]; exact r3
    · rw [F 147 _ (by unfold ALR ALW; omega)]; exact r4
    · rw [F 142 _ (by unfold ALR ALW; omega), F 143 _ (by unfold ALR ALW; omega)]; exact r5 b hb
    · rw [F 145 _ (by unfold ALR ALW; omega), F 146 _ (by unfold ALR ALW; omega)]; exact r6 c hc
    · rw [F 149 _ (by unfold ALR ALW; omega), F 150 _ (by unfold ALR ALW; omega), F 151 _ (by unfold ALR ALW; omega), F 152 _ (by unfold ALR ALW; omega)]; exact r7 s hs
    · rw [t0 _ (by omega)]
      rcases r8 with y | ⟨y1, y2⟩ | y
      · exact Or.inl y
      · obtain ⟨g1, g2⟩ := G _ (Or.inl rfl) y1
        exact Or.inr (Or.inl ⟨y1, y2.far F sd2 (by omega) g1 g2⟩)
      · exact Or.inr (Or.inr y)
    · rw [t0 _ (by omega)]
      rcases r9 with y | ⟨y1, y2⟩ | y
      · exact Or.inl y
      · obtain ⟨g1, g2⟩ := G _ (Or.inr rfl) y1
        exact Or.inr (Or.inl ⟨y1, y2.far F sd2 (by omega) g1 g2⟩)
      · exact Or.inr (Or.inr y)
  · unfold okReg at G ⊢
    rw [eL]
    rw [L] at G ⊢
    intro law hlaw ht
    rw [t0 law (by omega)] at ht
    rw [F 154 law (by unfold ALR ALW; omega), F 155 law (by unfold ALR ALW; omega)]
    exact G law hlaw ht
/-- where the reference ends: a fault -/
theorem m_endF {N : Nat} {C : Int → aH → Prop} {h : aH} {PL : Nat → Nat} {n q : Nat} (G : RFL PL n q h) (hC : C (n : Int) (am_up h 130 17 (PL q : Int))) : WI N 218 101 [(0, .inr (.inr 130))] h C := by
  obtain ⟨g1, g2, g3⟩ := G
  refine w_218_101 ⟨fun z => by omega, fun _ => w_218_117 ?_⟩
  rw [up_ne (by decide), g1, g3]
  exact ⟨fun z => by omega, fun _ => hC⟩
/-- something is wrong -/
theorem m_endW {N : Nat} {C : Int → aH → Prop} {h : aH} (f : h 130 13 = 0) (w : 0 < h 130 15) (hC : C (h 130 15) (am_up h 130 17 (h 130 16))) : WI N 218 101 [(0, .inr (.inr 130))] h C := by
  refine w_218_101 ⟨fun _ => ⟨fun z => by omega, fun _ => w_218_117 ?_⟩, fun z => absurd (by rw [f]; exact Int.le_refl _) z⟩
  rw [up_ne (by decide), up_ne (by decide), f]
  exact ⟨fun _ => ⟨fun z => by omega, fun _ => hC⟩, fun z => absurd (Int.le_refl _) z⟩
/-- all is well -/
theorem m_endC {N : Nat} {C : Int → aH → Prop} {h : aH} {sd ns : Nat} (f : h 130 13 = 0) (w : h 130 15 = 0) (hsd : h 130 19 = (sd : Int)) (sd2 : sd < 2) (hs : h 147 sd = (ns : Int)) (s12 : ns ≤ 12)
    (hC : ∀ h', Fr [161, 162, 189] [17, 18, 48, 76] h h' → h' 130 17 = -1 → h' 130 18 = (sd : Int) → h' 130 48 = 0 → h' 130 76 = 0 → (∀ s, s < ns → h' 161 s = h 148 (12 * sd + s)) → (∀ j, j < 12 → h' 162 j = 0) → h' 189 0 = -1 → h' 189 1 = -1 → C 0 h') : WI N 218 101 [(0, .inr (.inr 130))] h C := by
  have f1 : Fr [] [17, 18] h (am_up (am_up h 130 17 (-1)) 130 18 (sd : Int)) := (Fr.rfl.upM (by decide)).upM (by decide)
  refine w_218_101 ⟨fun _ => ⟨fun _ => w_218_117 ?_, fun z => by omega⟩, fun z => absurd (by rw [f]; exact Int.le_refl _) z⟩
  rw [up_ne (by decide), up_ne (by decide), up_ne (by decide), f, w, hsd]
  refine ⟨fun _ => ⟨fun _ => m_begins (sd := sd) (ns := ns) (up_same _ _ _ _) sd2 (by rw [f1.at 147 (by decide) (by decide)]; exact hs) s12 (fun h2 f2 e1 e2 e3 e4 e5 e6 => hC h2 ((f1.mono (by decide) (by decide)).trans (f2.mono (by decide) (by decide))) ?_ ?_ e1 e2 (fun s hs2 => ?_) e4 e5 e6), fun z => absurd (Int.le_refl _) z⟩, fun z => absurd (Int.le_refl _) z⟩
  · rw [f2.2 17 (by decide), up_ne (by decide), up_same]
  · rw [f2.2 18 (by decide), up_same]
  · rw [e3 s hs2, f1.at 148 (by decide) (by decide)]
theorem WI_ex {N k : Nat} {r : Nat} {h : aH} {F : Prop} (w : WI N k 0 [(0, .inr (.inr r))] h (fun _ _ => F)) : F := by
  have hl : LoS [(0, (.inr (.inr r) : aV))] [(0, .inr (.inr r))] := ⟨fun _ q => q, en_ND [.inr (.inr r)] 0⟩
  obtain ⟨v, h2, ⟨x, -, f⟩, -⟩ := w (0, 0) _ hl
  exact f
