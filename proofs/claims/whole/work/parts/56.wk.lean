/-! RUNS OVER THE CONTENTS ALONE: the shape stays as it is after both constructors -/
def SH (N : Nat) : List aC := [(0, 0, []), (6, N, []), (7, 9, []), (6, 8, []), (30, 2, [5, 0]), (8, 93, []), (30, 2, [7, 0]), (8, 10, []),
  (0, 0, []), (21, 12, [10, 35, 16, 58, 69, 92, 102, 110, 113, 121, 126, 0]), (20, 8, [11, 12, 13, 14, 15, 0, 0, 0]), (3, 2000, []), (2, 18, []), (1, 402, []), (1, 402, []), (2, 402, []),
  (13, 19, [17, 18, 19, 20, 21, 22, 23, 24, 25, 26, 27, 28, 29, 32, 0, 0, 0, 0, 0]), (1, 12, []), (1, 12, []), (1, 9, []), (1, 9, []), (1, 12, []), (1, 12, []), (1, 12, []),
  (1, 12, []), (1, 12, []), (1, 12, []), (1, 8, []), (1, 7, []), (14, 3, [30, 31, 0]), (1, 400, []), (1, 400, []),
  (14, 3, [33, 34, 0]), (1, 400, []), (1, 400, []), (16, 15, [10, 36, 55, 56, 0, 0, 57, 0, 0, 0, 0, 0, 0, 0, 0]), (13, 19, [37, 38, 39, 40, 41, 42, 43, 44, 45, 46, 47, 48, 49, 52, 0, 0, 0, 0, 0]), (1, 12, []), (1, 12, []), (1, 9, []),
  (1, 9, []), (1, 12, []), (1, 12, []), (1, 12, []), (1, 12, []), (1, 12, []), (1, 12, []), (1, 8, []),
  (1, 7, []), (14, 3, [50, 51, 0]), (1, 400, []), (1, 400, []), (14, 3, [53, 54, 0]), (1, 400, []), (1, 400, []), (2, 33, []),
  (1, 33, []), (1, 400, []), (19, 14, [59, 60, 61, 62, 63, 64, 65, 66, 67, 68, 0, 0, 0, 0]), (1, 8, []), (1, 8, []), (1, 8, []), (1, 8, []), (1, 12, []),
  (1, 12, []), (1, 60, []), (1, 60, []), (1, 60, []), (1, 4, []), (5, 2, [70, 81]), (19, 14, [71, 72, 73, 74, 75, 76, 77, 78, 79, 80, 0, 0, 0, 0]), (1, 8, []),
  (1, 8, []), (1, 8, []), (1, 8, []), (1, 12, []), (1, 12, []), (1, 60, []), (1, 60, []), (1, 60, []),
  (1, 4, []), (19, 14, [82, 83, 84, 85, 86, 87, 88, 89, 90, 91, 0, 0, 0, 0]), (1, 8, []), (1, 8, []), (1, 8, []), (1, 8, []), (1, 12, []), (1, 12, []),
  (1, 60, []), (1, 60, []), (1, 60, []), (1, 4, []), (15, 12, [16, 58, 93, 94, 95, 96, 97, 98, 99, 100, 101, 0]), (1, 8, []), (1, 8, []), (1, 8, []),
  (3, 4000, []), (1, 7, []), (1, 3, []), (1, 3, []), (1, 31, []), (2, 12, []), (10, 17, [16, 58, 92, 103, 104, 105, 106, 107, 108, 109, 0, 0, 0, 0, 0, 0, 0]), (1, 1728, []),
  (1, 1728, []), (1, 96, []), (2, 12, []), (2, 12, []), (2, 12, []), (2, 12, []), (12, 6, [16, 58, 92, 111, 112, 0]), (1, 144, []),
  (1, 4096, []), (18, 13, [16, 58, 114, 115, 116, 117, 118, 119, 120, 0, 0, 0, 0]), (1, 12, []), (2, 192, []), (2, 9, []), (2, 25, []), (2, 25, []), (1, 25, []),
  (1, 25, []), (17, 8, [16, 58, 122, 123, 124, 125, 0, 0]), (1, 8, []), (1, 8, []), (1, 2048, []), (1, 2048, []), (11, 6, [16, 58, 92, 127, 128, 129]), (2, 144, []),
  (1, 12, []), (1, 2, []), (22, 90, [0, 131, 0, 132, 0, 133, 134, 135, 136, 137, 0, 0, 0, 0, 0, 0, 0, 0, 0, 0, 0, 138, 139, 140, 141, 142, 143, 144, 145, 146, 147, 148, 149, 150, 151, 152, 153, 154, 155, 0, 156, 157, 158, 0, 159, 160, 161, 162, 0, 163, 164, 165, 166, 167, 168, 169, 170, 171, 0, 172, 173, 0, 174, 175, 176, 177, 178, 0, 0, 179, 180, 181, 0, 182, 183, 184, 0, 185, 186, 187, 188, 0, 189, 190, 191, 192, 193, 194, 195, 196]), (3, 2000, []), (3, 2000, []), (1, 403, []), (1, 403, []), (1, 403, []),
  (2, 403, []), (2, 18, []), (2, 40, []), (1, 40, []), (1, 40, []), (1, 2, []), (1, 24, []), (1, 24, []),
  (1, 2, []), (1, 18, []), (1, 18, []), (1, 2, []), (1, 24, []), (1, 24, []), (1, 24, []), (1, 24, []),
  (1, 24, []), (4, 4, []), (1, 4, []), (1, 4, []), (1, 840, []), (1, 840, []), (1, 420, []), (1, 7, []),
  (1, 420, []), (1, 12, []), (4, 12, []), (1, 10, []), (1, 10, []), (1, 10, []), (1, 10, []), (1, 10, []),
  (1, 10, []), (1, 10, []), (1, 10, []), (1, 10, []), (1, 12, []), (1, 4, []), (1, 4096, []), (1, 12, []),
  (1, 12, []), (1, 12, []), (1, 12, []), (1, 3, []), (1, 3, []), (1, 2, []), (1, 8, []), (1, 8, []),
  (1, 8, []), (1, 180, []), (1, 180, []), (1, 180, []), (1, 180, []), (1, 2, []), (1, 16, []), (1, 16, []),
  (1, 16, []), (1, 16, []), (1, 24, []), (4, 24, []), (1, 2, [])]
set_option maxRecDepth 100000 in
theorem SH_len (N : Nat) : (SH N).length = 197 := rfl
/-- not a constructor -/
def okB (y : Nat) : Bool := (Nat.ble 20 y || (Nat.ble 2 y && Nat.ble y 9)) && (!(Nat.beq y 212) && Nat.blt y 353)
set_option maxRecDepth 100000 in
theorem okB_all : (List.range 353).all (fun y => !(okB y) || (mM y).all okI) = true := by decide +kernel
theorem okB_at {y : Nat} (h : okB y = true) : y < 353 ∧ (mM y).all okI = true := by
  have hy : y < 353 := by
    unfold okB at h
    rw [Bool.and_eq_true_iff, Bool.and_eq_true_iff] at h
    have := h.2.2
    unfold Nat.blt at this
    exact Nat.le_of_ble_eq_true this
  refine ⟨hy, ?_⟩
  have := List.all_eq_true.mp okB_all y (List.mem_range.mpr hy)
  rw [h] at this
  simpa using this
/-- what a method answers: 0 nothing, 1 an int, 2 a long -/
def rT (y : Nat) : Nat := (447549896681984777518258541052362273082173230255574329092245947356570593208355721268089661580621248901139694538135122735675103174443451530142691763607511600702225344963631365442142697820355197343910496734632547664 >>> (2 * y)) % 4
def WK (N k i : Nat) (ls : aL) (h : aH) (Q : Option aV → aH → Prop) : Prop := ∀ (lim : Nat × Nat) (ls2 : aL), LoS ls ls2 → ∃ v h2, Q v h2 ∧ ∃ n0, ∀ n, n0 ≤ n → am_R mM n k lim i ls2 [] (SH N, h) v (SH N, h2)
def QV (C : aH → Prop) : Option aV → aH → Prop := fun v h => v = none ∧ C h
def QI (C : Int → aH → Prop) : Option aV → aH → Prop := fun v h => ∃ x, v = some (.inl x) ∧ C x h
def QL (C : Int → aH → Prop) : Option aV → aH → Prop := fun v h => ∃ x, v = some (.inr (.inl x)) ∧ C x h
/-- method k from place i on, with these locals, over these contents, leaves so that .. (an int, a long, nothing) -/
def WV (N k i : Nat) (ls : aL) (h : aH) (C : aH → Prop) : Prop := WK N k i ls h (QV C)
def WI (N k i : Nat) (ls : aL) (h : aH) (C : Int → aH → Prop) : Prop := WK N k i ls h (QI C)
def WL (N k i : Nat) (ls : aL) (h : aH) (C : Int → aH → Prop) : Prop := WK N k i ls h (QL C)
def kCall (N : Nat) : Nat → List aV → aS → (Option aV → aH → Prop) → Prop := fun y as S cont =>
  bif okB y && Nat.ble (am_cat as) (mLo y) then
    (match rT y with
    | 0 => WV N y 0 (am_en 0 as) S.2 (fun h => cont none h)
    | 1 => WI N y 0 (am_en 0 as) S.2 (fun x h => cont (some (.inl x)) h)
    | _ => WL N y 0 (am_en 0 as) S.2 (fun x h => cont (some (.inr (.inl x))) h))
  else False
/-- some of the locals -/
def lo_sel : List Nat → aL → aL
  | [], _ => []
  | k :: L, ls => match am_find k ls with
    | some v => (k, v) :: lo_sel L ls
    | none => lo_sel L ls
theorem sel_mem {q : Nat × aV} : ∀ {L : List Nat} {ls : aL}, q ∈ lo_sel L ls → q ∈ ls
  | [], ls, h => by cases h
  | k :: L, ls, h => by
    unfold lo_sel at h
    split at h
    · rename_i v hv
      rcases List.mem_cons.mp h with e | h
      · rw [e]; exact find_mem hv
      · exact sel_mem h
    · exact sel_mem h
theorem en_keys : ∀ (vs : List aV) (i : Nat), ∀ q ∈ am_en i vs, i ≤ q.1
  | [], _, q, hq => by cases hq
  | v :: vs, i, q, hq => by
    rcases List.mem_cons.mp hq with e | hq
    · rw [e]; exact Nat.le_refl _
    · have := en_keys vs _ q hq
      cases hv : am_is2 v <;> rw [hv] at this
      · exact Nat.le_trans (Nat.le_succ i) this
      · exact Nat.le_trans (by omega) (show i + 2 ≤ q.1 from this)
theorem en_ND : ∀ (vs : List aV) (i : Nat), LoN (am_en i vs)
  | [], _ => List.nodup_nil
  | v :: vs, i => by
    unfold LoN
    show (i :: (am_en (bif am_is2 v then i + 2 else i + 1) vs).map Prod.fst).Nodup
    rw [List.nodup_cons]
    refine ⟨fun hm => ?_, en_ND vs _⟩
    obtain ⟨q, hq, e⟩ := List.mem_map.mp hm
    have := en_keys vs _ q hq
    cases hv : am_is2 v <;> rw [hv] at this
    · exact absurd (show i + 1 ≤ q.1 from this) (by omega)
    · exact absurd (show i + 2 ≤ q.1 from this) (by omega)
/-- THE STEP: one stretch -/
theorem WK.step {N k i : Nat} {ls : aL} {h : aH} {Q : Option aV → aH → Prop} {retX : Option aV → aS → Prop} {cutX : Nat → aL → List aV → aS → Prop} (hk : ((mM k).drop i).all okI = true)
    (hret : ∀ v h, retX v (SH N, h) → Q v h) (hcut : ∀ i ls st h, cutX i ls st (SH N, h) → ∃ ls', (∀ q ∈ ls', q ∈ ls) ∧ st = [] ∧ WK N k i ls' h Q)
    (H : am_x (X := Prop) ftab mNa (0, 0) False brP ckP (kCall N) (fun _ _ _ _ => False) retX cutX (mM k) 5000 i ((mM k).drop i) ls [] (SH N, h)) : WK N k i ls h Q := by
  intro lim ls2 hls
  have key := am_x_par (X := Prop) (Y := Nat → Option aV → aH → Prop) (fun x y => x → ∃ v h2, Q v h2 ∧ ∃ n0, ∀ n, n0 ≤ n → y n v h2)
    LoS (fun hl _ _ e => hl.find e) (fun k v hl => hl.set1 k v) (fun k v hl => hl.set2 k v) (badX := False) (badY := fun _ _ _ => False) (brX := brP) (brY := fun c d x y => fun n v h2 => brP c d (x n v h2) (y n v h2)) (ckX := ckP) (ckY := fun c d x => fun n v h2 => ckP c d (x n v h2))
    (na := mNa) (limX := (0, 0)) (limY := lim) (callX := kCall N)
    (callY := fun y as S cont => fun n v h2 => ∃ (w : Option aV) (h' : aH), am_fit y as S ∧ am_R mM n y (S.1.length + mCe y, am_sz S.1 + mSl y) 0 (am_en 0 as) [] S w (S.1, h') ∧ cont w h' n v h2)
    (spX := fun _ _ _ _ => False) (spY := fun _ _ _ _ => fun _ _ _ => False)
    (retX := retX) (retY := fun v' S' => fun _ v h2 => v = v' ∧ (SH N, h2) = S')
    (cutX := cutX) (cutY := fun i ls st S => fun n v h2 => am_R mM n k lim i ls st S v (SH N, h2)) (sh := SH N) (code := mM k) (i0 := i)
    (fun _ hf => hf.elim) ?_ ?_ ?_ ?_ ?_ hk 5000 i _ ls ls2 [] h hls (Nat.le_refl _) hk H
  · obtain ⟨v, h2, hq, n0, hn⟩ := key
    refine ⟨v, h2, hq, n0 + 1, fun n hle => ?_⟩
    obtain ⟨n, rfl⟩ : ∃ m, n = m + 1 := ⟨n - 1, by omega⟩
    exact am_x_par (X := Nat → Option aV → aH → Prop) (Y := Prop) (fun f p => f n v h2 → p)
      (fun a b => a = b) (fun e _ _ q => e ▸ q) (fun _ _ e => by rw [e]) (fun _ _ e => by rw [e]) (badX := fun _ _ _ => False) (badY := False) (brY := brP) (brX := fun c d x y => fun n v h2 => brP c d (x n v h2) (y n v h2)) (ckY := ckP) (ckX := fun c d x => fun n v h2 => ckP c d (x n v h2))
      (na := mNa) (limX := lim) (limY := lim)
      (callX := fun y as S cont => fun n v h2 => ∃ (w : Option aV) (h' : aH), am_fit y as S ∧ am_R mM n y (S.1.length + mCe y, am_sz S.1 + mSl y) 0 (am_en 0 as) [] S w (S.1, h') ∧ cont w h' n v h2)
      (callY := fun y as S cont => ∃ (w : Option aV) (h' : aH), am_fit y as S ∧ am_R mM n y (S.1.length + mCe y, am_sz S.1 + mSl y) 0 (am_en 0 as) [] S w (S.1, h') ∧ cont w h')
      (spX := fun _ _ _ _ => fun _ _ _ => False) (spY := fun y as S cont => ∃ S2 : aS, am_fit y as S ∧ am_R mM n y (S.1.length + mCe y, am_sz S.1 + mSl y) 0 (am_en 0 as) [] S none S2 ∧ S2.1.length = S.1.length + mCe y ∧ am_sz S2.1 = am_sz S.1 + mSl y ∧ S2.1.length ≤ lim.1 ∧ am_sz S2.1 ≤ lim.2 ∧ cont S2)
      (retX := fun v' S' => fun _ v h2 => v = v' ∧ (SH N, h2) = S') (retY := fun v' S' => v = v' ∧ (SH N, h2) = S')
      (cutX := fun i ls st S => fun n v h2 => am_R mM n k lim i ls st S v (SH N, h2)) (cutY := fun i ls st S => am_R mM n k lim i ls st S v (SH N, h2)) (sh := SH N) (code := mM k) (i0 := i)
      (fun _ hf => hf.elim) (fun c d x x' y y' h1 h2 hx => ⟨fun hc => h1 (hx.1 hc), fun hc => h2 (hx.2 hc)⟩) (fun c d x y h1 hx => ⟨hx.1, h1 hx.2⟩)
      (fun y as h0 cX cY hc hx => by
        obtain ⟨w, h', g1, g2, g3⟩ := hx
        exact ⟨w, h', g1, g2, hc w h' g3⟩)
      (fun v' h' hx => hx)
      (fun i a b st h0 hab hx => by rw [← hab]; exact hx) hk 5000 i _ ls2 ls2 [] h rfl (Nat.le_refl _) hk (hn n (by omega))
  · intro c d x x' y y' h1 h2 hx
    rcases Classical.em c with hc | hc
    · obtain ⟨v, h2', hq, n0, hn⟩ := h1 (hx.1 hc)
      exact ⟨v, h2', hq, n0, fun n hle => ⟨fun _ => hn n hle, fun hnc => absurd hc hnc⟩⟩
    · obtain ⟨v, h2', hq, n0, hn⟩ := h2 (hx.2 hc)
      exact ⟨v, h2', hq, n0, fun n hle => ⟨fun hcc => absurd hcc hc, fun _ => hn n hle⟩⟩
  · intro c d x y h1 hx
    obtain ⟨v, h2', hq, n0, hn⟩ := h1 hx.2
    exact ⟨v, h2', hq, n0, fun n hle => ⟨hx.1, hn n hle⟩⟩
  · intro y as h0 cX cY hc hx
    have hx : (bif okB y && Nat.ble (am_cat as) (mLo y) then (match rT y with
      | 0 => WV N y 0 (am_en 0 as) h0 (fun h => cX none h)
      | 1 => WI N y 0 (am_en 0 as) h0 (fun x h => cX (some (.inl x)) h)
      | _ => WL N y 0 (am_en 0 as) h0 (fun x h => cX (some (.inr (.inl x))) h)) else False) := hx
    cases hb : (okB y && Nat.ble (am_cat as) (mLo y)) with
    | false => rw [hb] at hx; exact hx.elim
    | true =>
      rw [hb] at hx
      obtain ⟨hb1, hb2⟩ := Bool.and_eq_true_iff.mp hb
      have hfit : am_fit y as (SH N, h0) := ⟨(okB_at hb1).1, Nat.le_of_ble_eq_true hb2, (show 9 ≤ (SH N).length by rw [SH_len]; decide)⟩
      have fin : ∀ (w : Option aV) (h' : aH), cX w h' → (∃ n0, ∀ n, n0 ≤ n → am_R mM n y ((SH N).length + mCe y, am_sz (SH N) + mSl y) 0 (am_en 0 as) [] (SH N, h0) w (SH N, h')) →
          ∃ v h2, Q v h2 ∧ ∃ n0, ∀ n, n0 ≤ n → ∃ (w : Option aV) (h' : aH), am_fit y as (SH N, h0) ∧ am_R mM n y ((SH N).length + mCe y, am_sz (SH N) + mSl y) 0 (am_en 0 as) [] (SH N, h0) w (SH N, h') ∧ cY w h' n v h2 := by
        intro w h' hcx hr
        obtain ⟨n1, hr⟩ := hr
        obtain ⟨v, h2, hq, n2, hn⟩ := hc w h' hcx
        exact ⟨v, h2, hq, max n1 n2, fun n hle => ⟨w, h', hfit, hr n (by omega), hn n (by omega)⟩⟩
      have hen : LoS (am_en 0 as) (am_en 0 as) := ⟨fun _ hq => hq, en_ND as 0⟩
      have hx : (match rT y with
        | 0 => WV N y 0 (am_en 0 as) h0 (fun h => cX none h)
        | 1 => WI N y 0 (am_en 0 as) h0 (fun x h => cX (some (.inl x)) h)
        | _ => WL N y 0 (am_en 0 as) h0 (fun x h => cX (some (.inr (.inl x))) h)) := hx
      split at hx
      · obtain ⟨v, h2, ⟨rfl, hcx⟩, hr⟩ := hx _ _ hen
        exact fin _ _ hcx hr
      · obtain ⟨v, h2, ⟨x, rfl, hcx⟩, hr⟩ := hx _ _ hen
        exact fin _ _ hcx hr
      · obtain ⟨v, h2, ⟨x, rfl, hcx⟩, hr⟩ := hx _ _ hen
        exact fin _ _ hcx hr
  · intro v h0 hq
    exact ⟨v, h0, hret v h0 hq, 0, fun n _ => ⟨rfl, rfl⟩⟩
  · intro i a b st h0 hab hx
    obtain ⟨ls', hsub, rfl, hw⟩ := hcut i a st h0 hx
    exact hw lim b ⟨fun q hq => hab.1 q (hsub q hq), hab.2⟩
theorem okB_drop {k : Nat} (i : Nat) (hk : okB k = true) : ((mM k).drop i).all okI = true := okI_drop (i := 0) (okB_at hk).2 (Nat.zero_le _)
/-- what comes behind may be more -/
theorem WV.mono {N k i : Nat} {ls : aL} {h : aH} {C D : aH → Prop} (H : WV N k i ls h C) (hm : ∀ h, C h → D h) : WV N k i ls h D := fun lim ls2 hl => by
  obtain ⟨v, h2, ⟨e, hc⟩, hr⟩ := H lim ls2 hl
  exact ⟨v, h2, ⟨e, hm _ hc⟩, hr⟩
theorem WI.mono {N k i : Nat} {ls : aL} {h : aH} {C D : Int → aH → Prop} (H : WI N k i ls h C) (hm : ∀ x h, C x h → D x h) : WI N k i ls h D := fun lim ls2 hl => by
  obtain ⟨v, h2, ⟨x, e, hc⟩, hr⟩ := H lim ls2 hl
  exact ⟨v, h2, ⟨x, e, hm _ _ hc⟩, hr⟩
theorem WL.mono {N k i : Nat} {ls : aL} {h : aH} {C D : Int → aH → Prop} (H : WL N k i ls h C) (hm : ∀ x h, C x h → D x h) : WL N k i ls h D := fun lim ls2 hl => by
  obtain ⟨v, h2, ⟨x, e, hc⟩, hr⟩ := H lim ls2 hl
  exact ⟨v, h2, ⟨x, e, hm _ _ hc⟩, hr⟩
