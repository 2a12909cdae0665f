/-! read: a law, TOKEN by TOKEN, the reference: steps -/
/-- the reference's signs that wait: a test's bracket stays beneath its sign -/
def xW : List Nat → List Int
  | [] => []
  | s :: S => if s = 25 ∨ s = 30 then KMP s :: 14 :: xW S else KMP s :: xW S
theorem xW_y {s : Nat} {S : List Nat} (h : s = 25 ∨ s = 30) : xW (s :: S) = KMP s :: 14 :: xW S := if_pos h
theorem xW_n {s : Nat} {S : List Nat} (h : ¬ (s = 25 ∨ s = 30)) : xW (s :: S) = KMP s :: xW S := if_neg h
theorem xW_hd (s : Nat) (S : List Nat) : ∃ W, xW (s :: S) = KMP s :: W := by
  by_cases h : s = 25 ∨ s = 30
  · exact ⟨_, xW_y h⟩
  · exact ⟨_, xW_n h⟩
/-- who waits on top -/
theorem xW_top {k : Nat} {S : List Nat} (hk : k ≤ 32) (hS : ∀ s ∈ S, s ≤ 30) {W2 : List Int} (e : xW S = KMP k :: W2) : ∃ S2, S = k :: S2 := by
  cases S with
  | nil => cases e
  | cons s S2 =>
    obtain ⟨W, hW⟩ := xW_hd s S2
    rw [hW] at e
    injection e with e1 e2
    have := hS s (List.mem_cons_self ..)
    exact ⟨S2, by rw [KMP_inj s k (by omega) hk e1]⟩
def LRS (K PL : Nat → Nat) (VL : Nat → Int) (sd c0 t b : Nat) (W : List Int) (d : Nat) (E : List Int) (h : aH) : Prop := RFS K PL VL t [] h ∧ h 130 43 = (W.length : Int) ∧ stk (h 158) W ∧ h 130 12 = (d : Int) ∧ h 130 39 = ((c0 + E.length : Nat) : Int) ∧ (∀ i, i < E.length → cdR (h 156 (c0 + i)) (h 157 (c0 + i)) (E.getD i 0)) ∧ 420 * sd ≤ c0 ∧ c0 + E.length + W.length ≤ 420 * sd + b ∧ sd < 2
def ALC (sd c0 r j : Nat) : Prop := (r = 130 ∧ (j = 11 ∨ j = 12 ∨ j = 13 ∨ j = 14 ∨ j = 39 ∨ j = 43)) ∨ r = 158 ∨ ((r = 156 ∨ r = 157) ∧ c0 ≤ j ∧ j < 420 * sd + 420)
theorem FrA.frc {sd c0 : Nat} {R D : List Nat} {a b : aH} (f : Fr R D a b) (hR : R.all (fun r => [158].contains r) = true) (hD : D.all (fun d => [11, 12, 13, 14, 39, 43].contains d) = true) : FrA (ALC sd c0) a b := by
  refine FrA.of f (fun r hr j => ?_) (fun d hd => ?_)
  · have := List.all_eq_true.mp hR r hr
    rw [List.contains_eq_mem, decide_eq_true_eq] at this
    simp only [List.mem_cons, List.not_mem_nil, or_false] at this
    exact Or.inr (Or.inl this)
  · have := List.all_eq_true.mp hD d hd
    rw [List.contains_eq_mem, decide_eq_true_eq] at this
    simp only [List.mem_cons, List.not_mem_nil, or_false] at this
    exact Or.inl ⟨Eq.refl _, this⟩
theorem m_waitsOnR {N : Nat} {C : Int → aH → Prop} {h : aH} {W : List Int} {k : Int} (hw : h 130 43 = (W.length : Int)) (hs : stk (h 158) W) (w4 : W.length ≤ 420) (c1 : ∀ W2, W = k :: W2 → C 1 h) (c0 : (∀ W2, W ≠ k :: W2) → C 0 h) : WI N 245 0 [(0, .inr (.inr 130)), (1, .inl k)] h C := by
  refine w_245_0 ?_
  rw [hw]
  cases W with
  | nil => exact ⟨fun _ => ck_t0 (c0 (fun W2 z => by cases z)), fun z => absurd (by simp) z⟩
  | cons a W2 =>
    have l : (((a :: W2).length : Nat) : Int) = (W2.length : Int) + 1 := by rw [List.length_cons]; omega
    have w4 : W2.length + 1 ≤ 420 := w4
    rw [l, show (W2.length : Int) + 1 - 1 = (W2.length : Int) by omega, Int.toNat_natCast, hs.1]
    refine ⟨fun z => by omega, fun _ => ck_rg (by omega) (ck_ix (by omega) ⟨fun ne => ck_t0 (c0 (fun W3 z => ?_)), fun eq => ck_t1 (c1 W2 ?_)⟩)⟩
    · injection z with z1 z2
      exact ne z1
    · rw [Classical.byContradiction eq]
theorem m_emitR {N : Nat} {C : aH → Prop} {K PL : Nat → Nat} {VL : Nat → Int} {sd c0 t b d : Nat} {W E : List Int} {k v z : Int} {h : aH} (X : LRS K PL VL sd c0 t b W d E h) (b4 : b ≤ 402) (hz : cdR k v z) (hC : ∀ h', FrA (ALC sd c0) h h' → LRS K PL VL sd c0 t (b + 1) W d (E ++ [z]) h' → C h') : WV N 241 0 [(0, .inr (.inr 130)), (1, .inl k), (2, .inl v)] h C := by
  obtain ⟨R, hw, hs, ho, hc, hE, c4, lb, sd2⟩ := X
  refine w_241_0 ?_
  rw [R.f0.1 rfl, hc, Int.toNat_natCast]
  refine ⟨fun _ => ck_ix (by omega) (ck_ix (by omega) (ck_rg (by omega) ?_)), fun z => absurd (Int.le_refl _) z⟩
  have f : Fr [156, 157] [39] h (am_up (am_up (am_up h 156 (c0 + E.length) k) 157 (c0 + E.length) v) 130 39 (((c0 + E.length : Nat) : Int) + 1)) := ((Fr.rfl.up (by decide) (by decide)).up (by decide) (by decide)).upM (by decide)
  refine hC _ (FrA.up (FrA.up (FrA.up FrA.rfl ?_) ?_) ?_) ⟨R.mv f (by decide) (by decide), ?_, ?_, ?_, ?_, fun i hi => ?_, c4, ?_, sd2⟩
  · unfold ALC; omega
  · unfold ALC; omega
  · unfold ALC; omega
  · rw [f.2 43 (by decide)]; exact hw
  · rw [f.at 158 (by decide) (by decide)]; exact hs
  · rw [f.2 12 (by decide)]; exact ho
  · rw [up_same, List.length_append, List.length_singleton]; omega
  · rw [List.length_append, List.length_singleton] at hi
    have e6 : am_up (am_up (am_up h 156 (c0 + E.length) k) 157 (c0 + E.length) v) 130 39 (((c0 + E.length : Nat) : Int) + 1) 156 (c0 + i) = if c0 + i = c0 + E.length then k else h 156 (c0 + i) := by rw [up_row (by decide), up_row (by decide), up_in]
    have e7 : am_up (am_up (am_up h 156 (c0 + E.length) k) 157 (c0 + E.length) v) 130 39 (((c0 + E.length : Nat) : Int) + 1) 157 (c0 + i) = if c0 + i = c0 + E.length then v else h 157 (c0 + i) := by rw [up_row (by decide), up_in, up_row (by decide)]
    rw [e6, e7]
    by_cases e : i = E.length
    · subst e
      rw [if_pos rfl, if_pos rfl, List.getD_eq_getElem?_getD, List.getElem?_concat_length]
      exact hz
    · rw [if_neg (by omega), if_neg (by omega), List.getD_eq_getElem?_getD, List.getElem?_append_left (by omega), ← List.getD_eq_getElem?_getD]
      exact hE i (by omega)
  · rw [List.length_append, List.length_singleton]; omega
theorem m_goesOnL {N : Nat} {C : aH → Prop} {K PL : Nat → Nat} {VL : Nat → Int} {sd c0 t b d : Nat} {W E : List Int} {h : aH} (Q : TOKP K PL VL) (X : LRS K PL VL sd c0 t b W d E h) (k31 : K t < 31) (hC : ∀ h', FrA (ALC sd c0) h h' → (t < 400 → LRS K PL VL sd c0 (t + 1) b W d E h') → (400 ≤ t → RFL PL 2 t h') → C h') : WV N 229 0 [(0, .inr (.inr 130))] h C := by
  obtain ⟨R, hw, hs, ho, hc, hE, c4, lb, sd2⟩ := X
  refine m_goesOnR Q R (by simp) ⟨rfl, (show K t = K t from rfl)⟩ k31 (fun h' f R1 => hC h' (FrA.frc f (by decide) (by decide)) (fun lt => ?_) (fun ge => ?_))
  · have oo := (R1.out (E := [K t]) (by simpa using k31)).1 (by rw [FS_3 rfl lt]; rfl)
    refine ⟨oo, ?_, ?_, ?_, ?_, ?_, c4, lb, sd2⟩
    · rw [f.2 43 (by decide)]; exact hw
    · rw [f.at 158 (by decide) (by decide)]; exact hs
    · rw [f.2 12 (by decide)]; exact ho
    · rw [f.2 39 (by decide)]; exact hc
    · rw [f.at 156 (by decide) (by decide), f.at 157 (by decide) (by decide)]; exact hE
  · exact (R1.out (E := [K t]) (by simpa using k31)).2 2 t (FS_2 rfl ge)
theorem LRS.pop {K PL : Nat → Nat} {VL : Nat → Int} {sd c0 t b d : Nat} {a : Int} {W E : List Int} {h : aH} (X : LRS K PL VL sd c0 t b (a :: W) d E h) : 1 ≤ b ∧ LRS K PL VL sd c0 t (b - 1) W d E (am_up h 130 43 (W.length : Int)) := by
  obtain ⟨R, hw, hs, ho, hc, hE, c4, lb, sd2⟩ := X
  rw [List.length_cons] at lb
  have f : Fr [] [43] h (am_up h 130 43 (W.length : Int)) := Fr.rfl.upM (by decide)
  refine ⟨by omega, R.mv f (by decide) (by decide), up_same _ _ _ _, hs.2, ?_, ?_, hE, c4, by omega, sd2⟩
  · rw [f.2 12 (by decide)]; exact ho
  · rw [f.2 39 (by decide)]; exact hc
theorem m_waitForR {N : Nat} {C : aH → Prop} {K PL : Nat → Nat} {VL : Nat → Int} {sd c0 t b d : Nat} {v : Int} {W E : List Int} {h : aH} (Q : TOKP K PL VL) (X : LRS K PL VL sd c0 t b W d E h) (b4 : b ≤ 410) (k31 : K t < 31) (hC : ∀ h', FrA (ALC sd c0) h h' → (t < 400 → LRS K PL VL sd c0 (t + 1) (b + 1) (v :: W) d E h') → (400 ≤ t → RFL PL 2 t h') → C h') : WV N 239 0 [(0, .inr (.inr 130)), (1, .inl v)] h C := by
  have X0 := X
  obtain ⟨R, hw, hs, ho, hc, hE, c4, lb, sd2⟩ := X0
  refine w_239_0 ?_
  rw [hw, Int.toNat_natCast]
  have f : Fr [158] [43] h (am_up (am_up h 158 W.length v) 130 43 ((W.length : Int) + 1)) := (Fr.rfl.up (by decide) (by decide)).upM (by decide)
  refine ck_ix (by omega) (ck_rg (by omega) (m_goesOnL (b := b + 1) (W := v :: W) (d := d) (E := E) (sd := sd) (c0 := c0) Q ⟨R.mv f (by decide) (by decide), ?_, ⟨?_, ?_⟩, ?_, ?_, ?_, c4, ?_, sd2⟩ k31 (fun h' fa l g => hC h' ((FrA.frc f (by decide) (by decide)).trans fa) l g)))
  · rw [up_same, List.length_cons]; omega
  · rw [up_row (by decide), up_same]
  · rw [up_row (by decide)]; exact stk_up (Nat.le_refl _) hs
  · rw [f.2 12 (by decide)]; exact ho
  · rw [f.2 39 (by decide)]; exact hc
  · rw [f.at 156 (by decide) (by decide), f.at 157 (by decide) (by decide)]; exact hE
  · rw [List.length_cons]; omega
theorem m_failL {N : Nat} {C : aH → Prop} {K PL : Nat → Nat} {VL : Nat → Int} {t n : Nat} {h : aH} (S : RFS K PL VL t [] h) (n1 : 1 ≤ n) (hC : ∀ h', Fr [] [13, 14] h h' → RFL PL n t h' → C h') : WV N 227 0 [(0, .inr (.inr 130)), (1, .inl (n : Int))] h C := by
  rcases S.2.2 with ⟨nn, f0, ht, -⟩ | ⟨m, q, nn, -⟩
  · obtain ⟨p1, p2⟩ := S.pre (by simp) nn
    obtain ⟨-, k2, -, -⟩ := S.1 _ p2 p1
    refine w_227_0 ?_
    rw [f0, ht, Int.toNat_natCast, k2]
    refine ⟨fun _ => ck_ix (by omega) (hC _ ((Fr.rfl.upM (by decide)).upM (by decide)) ⟨?_, n1, up_same _ _ _ _⟩), fun z => absurd (Int.le_refl _) z⟩
    rw [up_ne (by decide), up_same]
  · cases nn
theorem m_mustF {N : Nat} {C : aH → Prop} {h : aH} {k : Int} (f : 1 ≤ h 130 13) (hC : C h) : WV N 231 0 [(0, .inr (.inr 130)), (1, .inl k)] h C := by
  refine w_231_0 (w_225_0 ⟨fun _ => ck_t0 ⟨fun _ => w_227_0 ⟨fun z => by omega, fun _ => hC⟩, fun z => absurd rfl z⟩, fun z => absurd (Classical.byContradiction z) (by omega)⟩)
theorem RFS.kd {K PL : Nat → Nat} {VL : Nat → Int} {t : Nat} {h : aH} (S : RFS K PL VL t [] h) : h 130 13 = 0 ∧ h 130 11 = (t : Int) ∧ t ≤ 400 ∧ h 133 t = KMP (K t) ∧ (K t = 19 → h 135 t = VL t) := by
  rcases S.2.2 with ⟨nn, f0, ht, -⟩ | ⟨m, q, nn, -⟩
  · obtain ⟨p1, p2⟩ := S.pre (by simp) nn
    obtain ⟨k1, -, k3, -⟩ := S.1 _ p2 p1
    exact ⟨f0, ht, p2, k1, k3⟩
  · cases nn
/-- signs come out -/
theorem m_pop15 {N : Nat} {C : aH → Prop} {K PL : Nat → Nat} {VL : Nat → Int} {sd c0 t b d s : Nat} {x1 : Int} {S : List Nat} {E : List Int} {h : aH} (X : LRS K PL VL sd c0 t b (xW (s :: S)) d E h) (b4 : b ≤ 402) (hs : 21 ≤ s ∧ s ≤ 24) (hC : ∀ h', FrA (ALC sd c0) h h' → LRS K PL VL sd c0 t b (xW S) d (E ++ [-(s : Int)]) h' → WV N 243 1 [(0, .inr (.inr 130)), (1, .inl x1)] h' C) : WV N 243 15 [(0, .inr (.inr 130)), (1, .inl x1)] h C := by
  rw [xW_n (by omega)] at X
  obtain ⟨b1, Y⟩ := X.pop
  obtain ⟨R, hw, hst, ho, hc, hE, c4, lb, sd2⟩ := X
  rw [List.length_cons] at lb
  have l : (((KMP s :: xW S).length : Nat) : Int) = ((xW S).length : Int) + 1 := by rw [List.length_cons]; omega
  refine w_243_15 ?_
  rw [hw, l, show ((xW S).length : Int) + 1 - 1 = ((xW S).length : Int) by omega, Int.toNat_natCast, hst.1]
  have fa : FrA (ALC sd c0) h (am_up h 130 43 ((xW S).length : Int)) := FrA.up FrA.rfl (by unfold ALC; omega)
  have em : ∀ k : Int, cdR k 0 (-(s : Int)) → WV N 241 0 [(0, .inr (.inr 130)), (1, .inl k), (2, .inl 0)] (am_up h 130 43 ((xW S).length : Int)) (fun h1 => WV N 243 1 [(0, .inr (.inr 130)), (1, .inl x1)] h1 C) := fun k hk => m_emitR Y (by omega) hk (fun h' f' X' => hC h' (fa.trans f') (by rw [show b - 1 + 1 = b by omega] at X'; exact X'))
  have cases4 : s = 21 ∨ s = 22 ∨ s = 23 ∨ s = 24 := by omega
  refine ck_rg (by omega) (ck_ix (by omega) (ck_rg (by omega) ?_))
  rcases cases4 with e | e | e | e <;> subst e
  · exact ⟨fun z => absurd rfl z, fun _ => em 2 (by unfold cdR; omega)⟩
  · exact ⟨fun _ => ⟨fun z => absurd rfl z, fun _ => em 3 (by unfold cdR; omega)⟩, fun z => absurd (show ¬ (KMP 22 = 8) by decide) z⟩
  · exact ⟨fun _ => ⟨fun _ => ⟨fun z => absurd rfl z, fun _ => em 4 (by unfold cdR; omega)⟩, fun z => absurd (show ¬ (KMP 23 = 9) by decide) z⟩, fun z => absurd (show ¬ (KMP 23 = 8) by decide) z⟩
  · exact ⟨fun _ => ⟨fun _ => ⟨fun _ => em 5 (by unfold cdR; omega), fun z => absurd (show ¬ (KMP 24 = 10) by decide) z⟩, fun z => absurd (show ¬ (KMP 24 = 9) by decide) z⟩, fun z => absurd (show ¬ (KMP 24 = 8) by decide) z⟩
theorem m_comesOutR {N : Nat} {C : aH → Prop} {K PL : Nat → Nat} {VL : Nat → Int} {sd c0 t b d lo : Nat} {x1 : Int} (b4 : b ≤ 402) (hl : (x1 = 0 ∧ lo = 21) ∨ (x1 ≠ 0 ∧ lo = 23)) : ∀ (S : List Nat) (E : List Int) (h : aH), LRS K PL VL sd c0 t b (xW S) d E h → (∀ s ∈ S, s ≤ 30) → (∀ h', FrA (ALC sd c0) h h' → LRS K PL VL sd c0 t b (xW (popW lo S).1) d (E ++ (popW lo S).2) h' → C h') → WV N 243 1 [(0, .inr (.inr 130)), (1, .inl x1)] h C := by
  intro S
  induction S with
  | nil =>
    intro E h X hS hC
    have nx : ∀ (k : Int) {D : Int → aH → Prop}, D 0 h → WI N 245 0 [(0, .inr (.inr 130)), (1, .inl k)] h D := fun k {D} d => m_waitsOnR X.2.1 X.2.2.1 (by simp [xW]) (fun W2 z => by cases z) (fun _ => d)
    have fin : C h := hC h FrA.rfl (by rw [show E ++ (popW lo []).2 = E from List.append_nil E]; exact X)
    refine w_243_1 (w_244_0 (nx 10 ⟨fun z => absurd rfl z, fun _ => nx 11 ⟨fun _ => ck_t0 ⟨fun z => absurd rfl z, fun _ => ⟨fun _ => fin, fun _ => nx 8 ⟨fun z => absurd rfl z, fun _ => nx 9 ⟨fun _ => fin, fun z => absurd rfl z⟩⟩⟩⟩, fun z => absurd rfl z⟩⟩))
  | cons s S ih =>
    intro E h X hS hC
    have s30 := hS s (List.mem_cons_self ..)
    have lW : (xW (s :: S)).length ≤ 420 := by
      have := X.2.2.2.2.2.2.2.1
      have := X.2.2.2.2.2.2.1
      omega
    obtain ⟨W, hW⟩ := xW_hd s S
    have wo : ∀ (k : Nat) {D : Int → aH → Prop}, k ≤ 32 → (s = k → D 1 h) → (s ≠ k → D 0 h) → WI N 245 0 [(0, .inr (.inr 130)), (1, .inl (KMP k))] h D := fun k {D} hk d1 d0 => m_waitsOnR X.2.1 X.2.2.1 lW (fun W2 z => d1 (by rw [hW] at z; injection z with z1 z2; exact KMP_inj s k (by omega) hk z1)) (fun z => d0 (fun e => z W (by rw [hW, e])))
    have pop : lo ≤ s ∧ s ≤ 24 → WV N 243 15 [(0, .inr (.inr 130)), (1, .inl x1)] h C := fun c => m_pop15 X b4 (by omega) (fun h' f' X' => ih (E ++ [-(s : Int)]) h' X' (fun x hx => hS x (List.mem_cons_of_mem _ hx)) (fun h2 f2 X2 => hC h2 (f'.trans f2) (by
      rw [popW_y c]
      rw [List.append_assoc] at X2
      exact X2)))
    have stay : ¬ (lo ≤ s ∧ s ≤ 24) → C h := fun c => hC h FrA.rfl (by rw [popW_n c, List.append_nil]; exact X)
    have w10 : ∀ {D : Int → aH → Prop}, (s = 23 → D 1 h) → (s ≠ 23 → D 0 h) → WI N 245 0 [(0, .inr (.inr 130)), (1, .inl 10)] h D := fun d1 d0 => wo 23 (by decide) d1 d0
    have w11 : ∀ {D : Int → aH → Prop}, (s = 24 → D 1 h) → (s ≠ 24 → D 0 h) → WI N 245 0 [(0, .inr (.inr 130)), (1, .inl 11)] h D := fun d1 d0 => wo 24 (by decide) d1 d0
    have w8 : ∀ {D : Int → aH → Prop}, (s = 21 → D 1 h) → (s ≠ 21 → D 0 h) → WI N 245 0 [(0, .inr (.inr 130)), (1, .inl 8)] h D := fun d1 d0 => wo 21 (by decide) d1 d0
    have w9 : ∀ {D : Int → aH → Prop}, (s = 22 → D 1 h) → (s ≠ 22 → D 0 h) → WI N 245 0 [(0, .inr (.inr 130)), (1, .inl 9)] h D := fun d1 d0 => wo 22 (by decide) d1 d0
    refine w_243_1 (w_244_0 (w10 (fun e => ⟨fun _ => ck_t1 ⟨fun _ => pop (by omega), fun z => absurd (by decide) z⟩, fun z => absurd (by decide) z⟩) (fun n23 => ⟨fun z => absurd rfl z, fun _ => w11 (fun e => ⟨fun z => absurd z (by decide), fun _ => ck_t1 ⟨fun _ => pop (by omega), fun z => absurd (by decide) z⟩⟩) (fun n24 => ⟨fun _ => ck_t0 ⟨fun z => absurd rfl z, fun _ => ⟨fun x0 => stay (by omega), fun x0 => ?_⟩⟩, fun z => absurd rfl z⟩)⟩)))
    have x0 : x1 = 0 := Classical.byContradiction x0
    refine w8 (fun e => ⟨fun _ => pop (by omega), fun z => absurd (by decide) z⟩) (fun n21 => ⟨fun z => absurd rfl z, fun _ => w9 (fun e => ⟨fun z => absurd z (by decide), fun _ => pop (by omega)⟩) (fun n22 => ⟨fun _ => stay (by omega), fun z => absurd rfl z⟩)⟩)
/-- a unit -/
theorem m_unitR {N : Nat} {C : aH → Prop} {K PL : Nat → Nat} {VL : Nat → Int} {sd c0 t d : Nat} {W E : List Int} {h : aH} (Q : TOKP K PL VL) (X : LRS K PL VL sd c0 t t W d E h) (hk : ¬ (K t = 26 ∨ K t = 28))
    (c1 : ∀ z, (K t = 19 ∧ z = VL t ∨ K t ≤ 6 ∧ z = -1 - (K t : Int)) → ∀ h', FrA (ALC sd c0) h h' → (t < 400 → LRS K PL VL sd c0 (t + 1) (t + 1) W d (E ++ [z]) h') → (400 ≤ t → RFL PL 2 t h') → C h') (c0' : K t ≠ 19 → ¬ K t ≤ 6 → ∀ h', FrA (ALC sd c0) h h' → RFL PL 1 t h' → C h') : WV N 240 0 [(0, .inr (.inr 130))] h C := by
  obtain ⟨f0, ht, t4, tk, tv⟩ := X.1.kd
  have em : ∀ (k v z : Int), cdR k v z → (K t = 19 ∧ z = VL t ∨ K t ≤ 6 ∧ z = -1 - (K t : Int)) → WV N 241 0 [(0, .inr (.inr 130)), (1, .inl k), (2, .inl v)] h (fun h1 => (¬ (h1 130 13) = 0 → C h1) ∧ (¬ ¬ (h1 130 13) = 0 → WV N 229 0 [(0, .inr (.inr 130))] h1 (fun h2 => C h2))) := by
    intro k v z hk o
    refine m_emitR X (by omega) hk (fun h1 f1 X1 => ⟨fun y => absurd X1.1.kd.1 y, fun _ => m_goesOnL Q X1 (by omega) (fun h2 f2 l g => c1 z o h2 (f1.trans f2) l g)⟩)
  have bad : K t ≠ 19 → ¬ K t ≤ 6 → WV N 227 0 [(0, .inr (.inr 130)), (1, .inl 1)] h (fun h1 => (¬ (h1 130 13) = 0 → C h1) ∧ (¬ ¬ (h1 130 13) = 0 → WV N 229 0 [(0, .inr (.inr 130))] h1 (fun h2 => C h2))) := by
    intro n19 n6
    refine m_failL (n := 1) X.1 (by decide) (fun h1 f1 F1 => ⟨fun _ => c0' n19 n6 h1 (FrA.frc f1 (by decide) (by decide)) F1, fun z => ?_⟩)
    have := F1.1
    exact absurd (Classical.byContradiction z) (by omega)
  have hk32 := Q.1 t
  have inj : ∀ k, k ≤ 32 → KMP (K t) = KMP k → K t = k := fun k hk e => KMP_inj _ _ hk32 hk e
  have all : ∀ k, k < 33 → (KMP k = 2 ↔ k = 19) ∧ (KMP k = 26 ↔ k = 4) ∧ (KMP k = 36 ↔ k = 5) ∧ (KMP k = 37 ↔ k = 6) ∧ (32 ≤ KMP k ∧ KMP k ≤ 35 ↔ k ≤ 3) ∧ (k ≤ 3 → KMP k = 32 + (k : Int)) := by decide
  obtain ⟨a1, a2, a3, a4, a5, a6⟩ := all (K t) (by omega)
  refine w_240_0 ?_
  rw [ht, Int.toNat_natCast, tk]
  have words : ¬ K t = 19 → ¬ K t ≤ 3 → (¬ KMP (K t) = 26 → (¬ KMP (K t) = 36 → (¬ KMP (K t) = 37 → WV N 227 0 [(0, .inr (.inr 130)), (1, .inl 1)] h (fun h1 => (¬ (h1 130 13) = 0 → C h1) ∧ (¬ ¬ (h1 130 13) = 0 → WV N 229 0 [(0, .inr (.inr 130))] h1 (fun h2 => C h2)))) ∧ (¬ ¬ KMP (K t) = 37 → WV N 241 0 [(0, .inr (.inr 130)), (1, .inl 1), (2, .inl 6)] h (fun h1 => (¬ (h1 130 13) = 0 → C h1) ∧ (¬ ¬ (h1 130 13) = 0 → WV N 229 0 [(0, .inr (.inr 130))] h1 (fun h2 => C h2))))) ∧ (¬ ¬ KMP (K t) = 36 → WV N 241 0 [(0, .inr (.inr 130)), (1, .inl 1), (2, .inl 5)] h (fun h1 => (¬ (h1 130 13) = 0 → C h1) ∧ (¬ ¬ (h1 130 13) = 0 → WV N 229 0 [(0, .inr (.inr 130))] h1 (fun h2 => C h2))))) ∧ (¬ ¬ KMP (K t) = 26 → WV N 241 0 [(0, .inr (.inr 130)), (1, .inl 1), (2, .inl 4)] h (fun h1 => (¬ (h1 130 13) = 0 → C h1) ∧ (¬ ¬ (h1 130 13) = 0 → WV N 229 0 [(0, .inr (.inr 130))] h1 (fun h2 => C h2)))) := by
    intro n19 n3
    refine ⟨fun n26 => ⟨fun n36 => ⟨fun n37 => bad n19 (by omega), fun y => ?_⟩, fun y => ?_⟩, fun y => ?_⟩
    · have k6 := a4.mp (Classical.byContradiction y)
      exact em 1 6 (-7) (by unfold cdR; omega) (Or.inr ⟨by omega, by omega⟩)
    · have k5 := a3.mp (Classical.byContradiction y)
      exact em 1 5 (-6) (by unfold cdR; omega) (Or.inr ⟨by omega, by omega⟩)
    · have k4 := a2.mp (Classical.byContradiction y)
      exact em 1 4 (-5) (by unfold cdR; omega) (Or.inr ⟨by omega, by omega⟩)
  refine ck_ix (by omega) ⟨fun n2 => ?_, fun y2 => ck_ix (by omega) ?_⟩
  · have n19 : ¬ K t = 19 := fun z => n2 (a1.mpr z)
    refine ⟨fun lt => words n19 (fun z => by have := a5.mpr z; omega), fun ge => ⟨fun gt => words n19 (fun z => by have := a5.mpr z; omega), fun le => ck_rg (by omega) ?_⟩⟩
    have k3 := a5.mp ⟨by omega, by omega⟩
    have e := a6 k3
    exact em 1 _ (-1 - (K t : Int)) (by unfold cdR; omega) (Or.inr ⟨by omega, rfl⟩)
  · have k19 := a1.mp (Classical.byContradiction y2)
    have vr := Q.2.2.1 t k19
    rw [tv k19]
    exact em 0 _ (VL t) (by unfold cdR; omega) (Or.inl ⟨k19, rfl⟩)
