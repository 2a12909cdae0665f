/-! the reference: a night, COST, of any plan and any beds -/
/-- what is heard of a sound of a plan -/
def HRP (h : aH) (kd mn ld wh : Nat → Int) (s l w : Int) (k : Nat) : Int := if kd k = 1 then (if wh k = s then 10 else 0) else HEAR h s l w (ld k) (wh k) (mn k)
theorem HRP_rg (h : aH) (kd mn ld wh : Nat → Int) (s l w : Int) (k : Nat) : 0 ≤ HRP h kd mn ld wh s l w k ∧ HRP h kd mn ld wh s l w k ≤ 10 := by
  unfold HRP
  have := HEAR_rg h s l w (ld k) (wh k) (mn k)
  split <;> (try split) <;> omega
def MPL (h : aH) (n : Nat) (kd mn ld wh : Nat → Int) : Prop := h 130 48 = (n : Int) ∧ ∀ j, j < n → h 163 j = kd j ∧ h 164 j = mn j ∧ h 165 j = ld j ∧ h 166 j = wh j
def OKP (h : aH) (n : Nat) (kd mn ld wh : Nat → Int) : Prop := n ≤ 8 ∧ ∀ k, k < n → (0 ≤ mn k ∧ mn k ≤ 399) ∧ (0 ≤ ld k ∧ ld k ≤ 12) ∧ (kd k = 1 → 0 ≤ wh k ∧ wh k < h 16 16) ∧ (kd k ≠ 1 → 0 ≤ wh k ∧ wh k < h 16 14)
def MSL (h : aH) (bd wl : Nat → Int) : Prop := ∀ s : Nat, (s : Int) < h 16 16 → h 161 s = bd s ∧ h 162 s = wl s ∧ (0 ≤ bd s ∧ bd s < h 16 14) ∧ (wl s = 0 ∨ wl s = 1)
/-- the sounds in their order -/
def MOR (h : aH) (n : Nat) (mn : Nat → Int) : Prop := ∀ j, j < n → h 167 j = (ordI mn n j : Nat)
theorem MPL.keep {h h' : aH} {n : Nat} {kd mn ld wh : Nat → Int} (a : MPL h n kd mn ld wh) {C D : List Nat} (f : Fr C D h h') (h48 : 48 ∉ D) (h1 : 163 ∉ C) (h2 : 164 ∉ C) (h3 : 165 ∉ C) (h4 : 166 ∉ C) : MPL h' n kd mn ld wh := by
  unfold MPL at a ⊢
  rw [f.2 48 h48, f.at 163 h1 (by decide), f.at 164 h2 (by decide), f.at 165 h3 (by decide), f.at 166 h4 (by decide)]
  exact a
theorem MSL.keep {h h' : aH} {bd wl : Nat → Int} (a : MSL h bd wl) {C D : List Nat} (f : Fr C D h h') (h1 : 161 ∉ C) (h2 : 162 ∉ C) (h3 : 16 ∉ C) : MSL h' bd wl := by
  unfold MSL at a ⊢
  rw [f.at 161 h1 (by decide), f.at 162 h2 (by decide), f.at 16 h3 (by decide)]
  exact a
theorem OKP.keep {h h' : aH} {n : Nat} {kd mn ld wh : Nat → Int} (a : OKP h n kd mn ld wh) (kp : Kp h h') : OKP h' n kd mn ld wh := by
  unfold OKP at a ⊢
  rw [kp.at 16 (by decide)]
  exact a
theorem Kp.hrp {h h' : aH} (a : Kp h h') : HRP h' = HRP h := by
  funext kd mn ld wh s l w k
  unfold HRP
  rw [a.hear]
theorem m_hour {N : Nat} {C : Int → aH → Prop} {h : aH} {s : Nat} (H : HI h) (R : RelH h) (hs : (s : Int) < h 16 16) (hC : C (h 23 s) h) : WI N 281 0 [(0, .inr (.inr 130)), (1, .inl (s : Int))] h C := by
  have hz := H.1
  unfold okSz at hz
  have hL := R.1
  have e := (R.2.2.2.2.1 s hs).2.1
  unfold Lv at e
  refine w_281_0 ?_
  rw [show ((12 : Int) * h 130 18 + (s : Int)).toNat = 12 * (h 130 18).toNat + s by omega, e]
  (repeat first | refine ck_ix (by omega) ?_ | refine ck_rg (by omega) ?_ | refine ck_rl (by omega) ?_)
  exact hC
theorem m_heard {N : Nat} {C : Int → aH → Prop} {h : aH} {s k n : Nat} {kd mn ld wh bd wl : Nat → Int} (H : HI h) (R : RelH h) (M : MPL h n kd mn ld wh) (O : OKP h n kd mn ld wh) (S : MSL h bd wl) (hs : (s : Int) < h 16 16) (hk : k < n)
    (hC : ∀ h', Fr [159, 160] [] h h' → C (HRP h kd mn ld wh s (bd s) (wl s) k) h') : WI N 285 0 [(0, .inr (.inr 130)), (1, .inl (s : Int)), (2, .inl (k : Int))] h C := by
  obtain ⟨e1, e2, e3, e4⟩ := M.2 k hk
  obtain ⟨o1, o2, o3, o4⟩ := O.2 k hk
  obtain ⟨s1, s2, s3, s4⟩ := S s hs
  have h8 := O.1
  unfold HRP at hC
  refine w_285_0 ?_
  simp only [Int.toNat_natCast]
  rw [e1, e2, e3, e4]
  (repeat first | refine ck_ix (by omega) ?_ | refine ck_rg (by omega) ?_ | refine ck_rl (by omega) ?_)
  refine ⟨fun hne => ?_, fun he => ?_⟩
  · (repeat first | refine ck_ix (by omega) ?_ | refine ck_rg (by omega) ?_ | refine ck_rl (by omega) ?_)
    rw [if_neg hne] at hC
    have := m_hearing (N := N) (C := C) (s := (s : Int)) (loud := ld k) (b := wh k) (m := mn k) H R ⟨by omega, hs⟩ (by simp only [Int.toNat_natCast]; rw [s1]; exact s3) (by simp only [Int.toNat_natCast]; rw [s2]; exact s4) (o4 hne) o2 (by simp only [Int.toNat_natCast]; rw [s1, s2]; exact hC)
    exact this
  · (repeat first | refine ck_ix (by omega) ?_ | refine ck_rg (by omega) ?_ | refine ck_rl (by omega) ?_)
    have he := Decidable.not_not.mp he
    rw [if_pos he] at hC
    refine ⟨fun hn => ?_, fun hn => ?_⟩
    · rw [if_neg hn] at hC; exact hC h Fr.rfl
    · rw [if_pos (Decidable.not_not.mp hn)] at hC; exact hC h Fr.rfl
theorem m_srt1 {N : Nat} {C : aH → Prop} {h : aH} {n : Nat} {mn : Nat → Int} (h8 : n ≤ 8) (hm : ∀ j, j < n → h 164 j = mn j) {k : Nat} (hk : k < n) (next : ∀ h2, Fr [167] [] h h2 → (∀ j, j < k + 1 → h2 167 j = (ordI mn (k + 1) j : Nat)) → WV N 282 3 [(0, .inr (.inr 130)), (1, .inl ((k : Int) + 1))] h2 C) :
    ∀ (i : Nat) (h1 : aH), i ≤ k → Fr [167] [] h h1 → (∀ j, j < i → h1 167 j = (ordI mn k j : Nat)) → (∀ j, i < j → j ≤ k → h1 167 j = (ordI mn k (j - 1) : Nat)) → ipos (fun j => mn (ordI mn k j)) (mn k) k = ipos (fun j => mn (ordI mn k j)) (mn k) i →
    WV N 282 10 [(0, .inr (.inr 130)), (1, .inl (k : Int)), (2, .inl (i : Int))] h1 C := by
  have fin : ∀ (i : Nat) (h1 : aH), i ≤ k → Fr [167] [] h h1 → (∀ j, j < i → h1 167 j = (ordI mn k j : Nat)) → (∀ j, i < j → j ≤ k → h1 167 j = (ordI mn k (j - 1) : Nat)) → ipos (fun j => mn (ordI mn k j)) (mn k) k = i → WV N 282 3 [(0, .inr (.inr 130)), (1, .inl ((k : Int) + 1))] (am_up h1 167 i (k : Int)) C := by
    intro i h1 hi hf hlo hhi hp
    refine next _ (hf.up (by decide) (by decide)) (fun j hj => ?_)
    rw [up_in]
    rw [show ordI mn (k + 1) = insF (ordI mn k) (ipos (fun j => mn (ordI mn k j)) (mn k) k) k from rfl, hp]
    unfold insF
    by_cases e : j = i
    · rw [if_pos e, if_neg (by omega), if_pos e]
    · rw [if_neg e]
      by_cases e2 : j < i
      · rw [if_pos e2]; exact hlo j e2
      · rw [if_neg e2, if_neg e]; exact hhi j (by omega) (by omega)
  intro i
  induction i with
  | zero =>
    intro h1 hi hf hlo hhi hp
    refine w_282_10 ⟨fun _ => ?_, fun z => absurd (Int.le_refl _) z⟩
    (repeat first | refine ck_ix (by omega) ?_ | refine ck_rg (by omega) ?_ | refine ck_rl (by omega) ?_)
    exact fin 0 h1 hi hf hlo hhi (by rw [hp]; rfl)
  | succ i ih =>
    intro h1 hi hf hlo hhi hp
    have e1 : (((i + 1 : Nat) : Int) - 1) = (i : Int) := by omega
    have e2 : (((i + 1 : Nat) : Int) + (-1)) = (i : Int) := by omega
    have ho := hlo i (by omega)
    have hlt := ordI_lt mn k i (by omega)
    refine w_282_10 ⟨fun z => by omega, fun _ => ?_⟩
    rw [e1, e2]
    simp only [Int.toNat_natCast]
    rw [ho]
    simp only [Int.toNat_natCast]
    rw [hf.at 164 (by decide) (by decide), hm k hk, hm _ (by omega)]
    (repeat first | refine ck_ix (by omega) ?_ | refine ck_rg (by omega) ?_ | refine ck_rl (by omega) ?_)
    refine ⟨fun hle => ?_, fun hgt => ?_⟩
    · (repeat first | refine ck_ix (by omega) ?_ | refine ck_rg (by omega) ?_ | refine ck_rl (by omega) ?_)
      exact fin (i + 1) h1 hi hf hlo hhi (by rw [hp]; unfold ipos; rw [if_neg (by omega)])
    · (repeat first | refine ck_ix (by omega) ?_ | refine ck_rg (by omega) ?_ | refine ck_rl (by omega) ?_)
      refine ih _ (by omega) (hf.up (by decide) (by decide)) (fun j hj => ?_) (fun j hj hj2 => ?_) ?_
      · rw [up_ne (by omega)]; exact hlo j (by omega)
      · rw [up_in]
        by_cases e : j = i + 1
        · rw [if_pos e, e]; rfl
        · rw [if_neg e]; exact hhi j (by omega) hj2
      · rw [hp]
        conv => lhs; unfold ipos
        rw [if_pos (by omega)]
theorem m_srt {N : Nat} {C : aH → Prop} {h : aH} {n : Nat} {mn : Nat → Int} (h8 : n ≤ 8) (hn : h 130 48 = (n : Int)) (hm : ∀ j, j < n → h 164 j = mn j) (hC : ∀ h', Fr [167] [] h h' → MOR h' n mn → C h') : ∀ (d k : Nat) (h1 : aH), d = n - k → k ≤ n → Fr [167] [] h h1 → (∀ j, j < k → h1 167 j = (ordI mn k j : Nat)) →
    WV N 282 3 [(0, .inr (.inr 130)), (1, .inl (k : Int))] h1 C := by
  intro d
  induction d with
  | zero =>
    intro k h1 hd hk hf ho
    have : k = n := by omega
    subst this
    refine w_282_3 ?_
    rw [hf.2 48 (by decide), hn]
    exact ⟨fun _ => hC h1 hf ho, fun z => absurd (Int.le_refl _) z⟩
  | succ d ih =>
    intro k h1 hd hk hf ho
    refine w_282_3 ?_
    rw [hf.2 48 (by decide), hn]
    refine ⟨fun z => by omega, fun _ => ?_⟩
    refine m_srt1 h8 hm (by omega) (fun h2 hf2 ho2 => ?_) k h1 (Nat.le_refl _) hf ho (fun j h1 h2 => by omega) rfl
    exact ih (k + 1) h2 (by omega) (by omega) hf2 ho2
theorem m_sorts {N : Nat} {C : aH → Prop} {h : aH} {n : Nat} {mn : Nat → Int} (h8 : n ≤ 8) (hn : h 130 48 = (n : Int)) (hm : ∀ j, j < n → h 164 j = mn j) (hC : ∀ h', Fr [167] [] h h' → MOR h' n mn → C h') : WV N 282 0 [(0, .inr (.inr 130))] h C :=
  w_282_0 (m_srt h8 hn hm hC n 0 h rfl (Nat.zero_le _) Fr.rfl (fun j hj => by omega))
theorem m_unt {N : Nat} {C : Int → aH → Prop} {h : aH} {n : Nat} {mn : Nat → Int} {hour : Int} (h8 : n ≤ 8) (hn : h 130 48 = (n : Int)) (hm : ∀ j, j < n → h 164 j = mn j) (ho : MOR h n mn) (hC : C (unt (fun j => mn (ordI mn n j)) hour n : Nat) h) : ∀ (d k : Nat), d = n - k → k ≤ n → (∀ j, j < k → mn (ordI mn n j) ≤ hour) →
    WI N 284 3 [(0, .inr (.inr 130)), (1, .inl hour), (2, .inl (k : Int))] h C := by
  intro d
  induction d with
  | zero =>
    intro k hd hk hb
    have : k = n := by omega
    subst this
    refine w_284_3 ?_
    rw [hn]
    refine ⟨fun _ => ?_, fun z => absurd (Int.le_refl _) z⟩
    rw [unt_eq (Nat.le_refl _) hb (Or.inl rfl)] at hC
    exact hC
  | succ d ih =>
    intro k hd hk hb
    have hlt := ordI_lt mn n k (by omega)
    refine w_284_3 ?_
    rw [hn]
    simp only [Int.toNat_natCast]
    rw [ho k (by omega)]
    simp only [Int.toNat_natCast]
    rw [hm _ hlt]
    refine ⟨fun z => by omega, fun _ => ?_⟩
    (repeat first | refine ck_ix (by omega) ?_ | refine ck_rg (by omega) ?_ | refine ck_rl (by omega) ?_)
    refine ⟨fun hgt => ?_, fun hle => ?_⟩
    · rw [unt_eq hk hb (Or.inr hgt)] at hC
      exact hC
    · (repeat first | refine ck_ix (by omega) ?_ | refine ck_rg (by omega) ?_ | refine ck_rl (by omega) ?_)
      refine ih (k + 1) (by omega) (by omega) (fun j hj => ?_)
      rcases Nat.eq_or_lt_of_le (Nat.le_of_lt_succ hj) with e | e
      · rw [e]; omega
      · exact hb j e
theorem m_until {N : Nat} {C : Int → aH → Prop} {h : aH} {n : Nat} {mn : Nat → Int} {hour : Int} (h8 : n ≤ 8) (hn : h 130 48 = (n : Int)) (hm : ∀ j, j < n → h 164 j = mn j) (ho : MOR h n mn) (hC : C (unt (fun j => mn (ordI mn n j)) hour n : Nat) h) : WI N 284 0 [(0, .inr (.inr 130)), (1, .inl hour)] h C :=
  w_284_0 (m_unt h8 hn hm ho hC n 0 rfl (Nat.zero_le _) (fun j hj => by omega))
theorem m_pow {N : Nat} {C : Int → aH → Prop} {h : aH} {n : Nat} (h8 : n ≤ 8) (hC : C (100 ^ n) h) : ∀ (d k : Nat), d = n - k → k ≤ n → WL N 279 5 [(0, .inr (.inl 100)), (2, .inl (n : Int)), (3, .inr (.inl (100 ^ k))), (5, .inl (k : Int))] h C := by
  intro d
  induction d with
  | zero =>
    intro k hd hk
    have : k = n := by omega
    subst this
    exact w_279_5 ⟨fun _ => hC, fun z => absurd (Int.le_refl _) z⟩
  | succ d ih =>
    intro k hd hk
    have hp := p100_8 (n := k + 1) (by omega)
    have e : (100 : Int) ^ (k + 1) = 100 ^ k * 100 := Int.pow_succ _ _
    refine w_279_5 ⟨fun z => by omega, fun _ => ?_⟩
    rw [← e]
    (repeat first | refine ck_ix (by omega) ?_ | refine ck_rg (by omega) ?_ | refine ck_rl (by omega) ?_)
    exact ih (k + 1) (by omega) (by omega)
theorem m_power {N : Nat} {C : Int → aH → Prop} {h : aH} {n : Nat} (h8 : n ≤ 8) (hC : C (100 ^ n) h) : WL N 279 0 [(0, .inr (.inl 100)), (2, .inl (n : Int))] h C :=
  w_279_0 (m_pow h8 hC n 0 rfl (Nat.zero_le _))
/-- awake and asleep ahead of the k-th sound that matters, as the reference has them; at the end behind the last AGAIN -/
def prm (mt hr : Nat → Int) (ag : Int → Int) (hour : Int) (u : Nat) : Nat → Int × Int
  | 0 => (0, 1)
  | k + 1 => evA (ag ((if k + 1 < u then mt (k + 1) else hour) - mt k)) (nsH mt hr ag k)
theorem prm_succ (mt hr : Nat → Int) (ag : Int → Int) (hour : Int) (u k : Nat) : prm mt hr ag hour u (k + 1) = evA (ag ((if k + 1 < u then mt (k + 1) else hour) - mt k)) (nsH mt hr ag k) := rfl
theorem prm_H {mt hr : Nat → Int} {ag : Int → Int} {hour : Int} {u k : Nat} (hk : k < u) : evH (hr k) (prm mt hr ag hour u k) = nsH mt hr ag k := by
  rcases k with _ | k
  · rfl
  · rw [prm_succ, if_pos hk]
    rfl
theorem prm_bd {mt hr : Nat → Int} {ag : Int → Int} {hour : Int} {u : Nat} (hag : ∀ x, 0 ≤ ag x ∧ ag x ≤ 10) {k : Nat} (h : ∀ j, j < k → 0 ≤ hr j ∧ hr j ≤ 10) : 0 ≤ (prm mt hr ag hour u k).1 ∧ 0 ≤ (prm mt hr ag hour u k).2 ∧ (prm mt hr ag hour u k).1 + (prm mt hr ag hour u k).2 = 100 ^ k := by
  rcases k with _ | k
  · show 0 ≤ (0 : Int) ∧ 0 ≤ (1 : Int) ∧ (0 : Int) + 1 = 100 ^ 0
    decide
  · obtain ⟨h1, h2, h3⟩ := nsH_bd (mt := mt) hag (n := k) (fun j hj => h j (by omega))
    rw [prm_succ]
    unfold evA
    have hg := hag ((if k + 1 < u then mt (k + 1) else hour) - mt k)
    generalize ag ((if k + 1 < u then mt (k + 1) else hour) - mt k) = g at *
    generalize (nsH mt hr ag k).1 = a at *
    generalize (nsH mt hr ag k).2 = b at *
    have e1 : 0 ≤ (10 - g) * a := Int.mul_nonneg (by omega) h1
    have e2 : 0 ≤ g * a := Int.mul_nonneg (by omega) h1
    have e3 : (10 - g) * a = 10 * a - g * a := by rw [Int.sub_mul]
    have e4 : (100 : Int) ^ (k + 1) = 100 ^ k * 100 := Int.pow_succ _ _
    dsimp only
    omega
theorem m_uph {N : Nat} {C : Int → aH → Prop} {h : aH} {s n : Nat} {kd mn ld wh bd wl : Nat → Int} (P : PI h) (R : RelH h) (M : MPL h n kd mn ld wh) (O : OKP h n kd mn ld wh) (S : MSL h bd wl) (ho : MOR h n mn) (hs : (s : Int) < h 16 16) (hh : 0 ≤ h 23 s) {u : Nat} (hu : unt (fun j => mn (ordI mn n j)) (h 23 s) n = u)
    (hC : ∀ h', Fr [159, 160] [] h h' → C (UPV (fun j => mn (ordI mn n j)) (fun j => HRP h kd mn ld wh s (bd s) (wl s) (ordI mn n j)) (AGN h s) (h 23 s) n) h') : ∀ (d k : Nat) (h1 : aH), d = u - k → k ≤ u → Fr [159, 160] [] h h1 →
    WL N 283 15 [(0, .inr (.inr 130)), (1, .inl (s : Int)), (2, .inl (h 23 s)), (3, .inl (u : Int)), (4, .inr (.inl (prm (fun j => mn (ordI mn n j)) (fun j => HRP h kd mn ld wh s (bd s) (wl s) (ordI mn n j)) (AGN h s) (h 23 s) u k).2)), (6, .inr (.inl (prm (fun j => mn (ordI mn n j)) (fun j => HRP h kd mn ld wh s (bd s) (wl s) (ordI mn n j)) (AGN h s) (h 23 s) u k).1)), (8, .inl (k : Int))] h1 C := by
  have hz := P.1.1
  unfold okSz at hz
  have h399 : h 23 s ≤ 399 := by have := (P.1.2.2.2.1 s hs).2.1; omega
  have hun : u ≤ n := by rw [← hu]; exact unt_le _ _ _
  have h8 := O.1
  have hag : ∀ x, 0 ≤ AGN h s x ∧ AGN h s x ≤ 10 := fun x => AGD_rg _ _ _
  have hhr : ∀ j, 0 ≤ HRP h kd mn ld wh s (bd s) (wl s) (ordI mn n j) ∧ HRP h kd mn ld wh s (bd s) (wl s) (ordI mn n j) ≤ 10 := fun j => HRP_rg _ _ _ _ _ _ _ _ _
  have hle : ∀ j, j < u → mn (ordI mn n j) ≤ h 23 s := by
    intro j hj
    have key : ∀ c, j < unt (fun j => mn (ordI mn n j)) (h 23 s) c → mn (ordI mn n j) ≤ h 23 s := by
      intro c
      induction c with
      | zero => intro z; unfold unt at z; omega
      | succ c ihc =>
        intro z
        unfold unt at z
        split at z
        · rename_i q
          rcases Nat.eq_or_lt_of_le (Nat.le_of_lt_succ z) with e | e
          · rw [e]; exact q.2
          · exact ihc (by rw [q.1]; exact e)
        · exact ihc z
    exact key n (by rw [hu]; exact hj)
  have hmt : ∀ j, j < n → 0 ≤ mn (ordI mn n j) ∧ mn (ordI mn n j) ≤ 399 := fun j hj => (O.2 _ (ordI_lt mn n j hj)).1
  have hsrt := ordI_srt mn n
  intro d
  induction d with
  | zero =>
    intro k h1 hd hk hf
    have : k = u := by omega
    subst this
    refine w_283_15 ⟨fun _ => ?_, fun z => absurd (Int.le_refl _) z⟩
    rw [hf.2 48 (by decide), M.1]
    (repeat first | refine ck_ix (by omega) ?_ | refine ck_rg (by omega) ?_ | refine ck_rl (by omega) ?_)
    rw [show ((n : Int) - (k : Int)) = ((n - k : Nat) : Int) by omega]
    refine m_power (by omega) ?_
    have hU := UPV_bd (mt := fun j => mn (ordI mn n j)) (hr := fun j => HRP h kd mn ld wh s (bd s) (wl s) (ordI mn n j)) (ag := AGN h s) (hour := h 23 s) (c := n) hag (fun j _ => hhr j)
    have hp := p100_8 h8
    have key := hC h1 hf
    unfold UPV at key hU
    rw [hu] at key hU
    rcases k with _ | k
    · show am_rl ((0 : Int) * 100 ^ (n - 0)) ∧ C ((0 : Int) * 100 ^ (n - 0)) h1
      rw [Int.zero_mul]
      exact ck_rl (by omega) key
    · have e : (prm (fun j => mn (ordI mn n j)) (fun j => HRP h kd mn ld wh s (bd s) (wl s) (ordI mn n j)) (AGN h s) (h 23 s) (k + 1) (k + 1)).1 = (nsH (fun j => mn (ordI mn n j)) (fun j => HRP h kd mn ld wh s (bd s) (wl s) (ordI mn n j)) (AGN h s) k).1 * (10 - AGN h s (h 23 s - mn (ordI mn n k))) := by
        rw [prm_succ, if_neg (Nat.lt_irrefl _)]
        exact Int.mul_comm _ _
      rw [e]
      exact ck_rl (by dsimp only at hU; omega) key
  | succ d ih =>
    intro k h1 hd hk hf
    have kp := hf.kp (by decide)
    have km := hf.km (by decide) (by decide)
    have hku : k < u := by omega
    have hol := ordI_lt mn n k (by omega)
    refine w_283_15 ⟨fun z => by omega, fun _ => ?_⟩
    (repeat first | refine ck_ix (by omega) ?_ | refine ck_rg (by omega) ?_ | refine ck_rl (by omega) ?_)
    simp only [Int.toNat_natCast]
    rw [hf.at 167 (by decide) (by decide), ho k (by omega)]
    refine m_heard (kp.pi P).1 (R.keep kp km) (M.keep hf (by decide) (by decide) (by decide) (by decide) (by decide)) (O.keep kp) (S.keep hf (by decide) (by decide) (by decide)) (by rw [kp.at 16 (by decide)]; exact hs) hol (fun h2 hf2 => ?_)
    have f2 := hf.trans hf2
    have kp2 := f2.kp (by decide)
    have km2 := f2.km (by decide) (by decide)
    rw [kp.hrp, f2.at 164 (by decide) (by decide), f2.at 167 (by decide) (by decide), ho k (by omega)]
    simp only [Int.toNat_natCast]
    rw [(M.2 _ hol).2.1]
    obtain ⟨b1, b2, b3⟩ := prm_bd (mt := fun j => mn (ordI mn n j)) (hr := fun j => HRP h kd mn ld wh s (bd s) (wl s) (ordI mn n j)) (hour := h 23 s) (u := u) hag (k := k) (fun j _ => hhr j)
    have hp7 : (100 : Int) ^ k ≤ 100 ^ 7 := p100_le (by omega)
    have h7 : (100 : Int) ^ 7 = 100000000000000 := by decide
    have E := fun h3 => ih (k + 1) h3 (by omega) (by omega)
    have hH := prm_H (mt := fun j => mn (ordI mn n j)) (hr := fun j => HRP h kd mn ld wh s (bd s) (wl s) (ordI mn n j)) (ag := AGN h s) (hour := h 23 s) hku
    simp only [prm] at E
    rw [← hH] at E
    simp only [evH, evA] at E
    have hx := hhr k
    have hlk := hle k hku
    have hmk := hmt k (by omega)
    generalize (prm (fun j => mn (ordI mn n j)) (fun j => HRP h kd mn ld wh s (bd s) (wl s) (ordI mn n j)) (AGN h s) (h 23 s) u k).1 = a at *
    generalize (prm (fun j => mn (ordI mn n j)) (fun j => HRP h kd mn ld wh s (bd s) (wl s) (ordI mn n j)) (AGN h s) (h 23 s) u k).2 = b at *
    generalize hxx : HRP h kd mn ld wh s (bd s) (wl s) (ordI mn n k) = x at *
    have m1 := mul_bd (a := x) (b := b) (A := 10) (B := 100000000000000) hx.1 hx.2 b2 (by omega)
    have m2 := mul_bd (a := 10 - x) (b := b) (A := 10) (B := 100000000000000) (by omega) (by omega) b2 (by omega)
    have m3 : (10 - x) * b = 10 * b - x * b := by rw [Int.sub_mul]
    generalize hq1 : 10 * a + x * b = q1 at *
    generalize hq2 : (10 - x) * b = q2 at *
    have tail : ∀ (g : Int) (h3 : aH), 0 ≤ g → g ≤ 10 → Fr [159, 160] [] h h3 → AGN h s ((if k + 1 < u then mn (ordI mn n (k + 1)) else h 23 s) - mn (ordI mn n k)) = g →
        am_rl ((10 : Int) * q2) ∧ am_rl (g * q1) ∧ am_rl ((10 : Int) * q2 + g * q1) ∧ am_rg ((10 : Int) - g) ∧ am_rl (((10 : Int) - g) * q1) ∧ am_rg ((k : Int) + 1) ∧ WL N 283 15 [(0, .inr (.inr 130)), (1, .inl (s : Int)), (2, .inl (h 23 s)), (3, .inl (u : Int)), (4, .inr (.inl ((10 : Int) * q2 + g * q1))), (6, .inr (.inl (((10 : Int) - g) * q1))), (8, .inl ((k : Int) + 1))] h3 C := by
      intro g h3 g0 g10 hf3 hg
      have t1 := mul_bd (a := g) (b := q1) (A := 10) (B := 2000000000000000) g0 g10 (by omega) (by omega)
      have t2 := mul_bd (a := 10 - g) (b := q1) (A := 10) (B := 2000000000000000) (by omega) (by omega) (by omega) (by omega)
      (repeat first | refine ck_ix (by omega) ?_ | refine ck_rg (by omega) ?_ | refine ck_rl (by omega) ?_)
      have := E h3 hf3
      rw [hg] at this
      exact this
    (repeat first | refine ck_ix (by omega) ?_ | refine ck_rg (by omega) ?_ | refine ck_rl (by omega) ?_)
    refine ⟨fun hge => ?_, fun hlt => ?_⟩
    · have hg : ¬ k + 1 < u := by omega
      (repeat first | refine ck_ix (by omega) ?_ | refine ck_rg (by omega) ?_ | refine ck_rl (by omega) ?_)
      refine m_asleepAgain (kp2.pi P).1 (R.keep kp2 km2) ⟨by omega, by rw [kp2.at 16 (by decide)]; exact hs⟩ (fun h3 hf3 => ?_)
      rw [kp2.agn]
      have := hag (h 23 s - mn (ordI mn n k))
      exact tail _ h3 this.1 this.2 (f2.trans hf3) (by rw [if_neg hg])
    · have hg : k + 1 < u := by omega
      have hol2 := ordI_lt mn n (k + 1) (by omega)
      rw [show ((k : Int) + 1) = ((k + 1 : Nat) : Int) by omega]
      simp only [Int.toNat_natCast]
      rw [ho (k + 1) (by omega)]
      simp only [Int.toNat_natCast]
      rw [(M.2 _ hol2).2.1]
      have hs1 := hsrt k (by omega)
      have hm2 := hmt (k + 1) (by omega)
      (repeat first | refine ck_ix (by omega) ?_ | refine ck_rg (by omega) ?_ | refine ck_rl (by omega) ?_)
      refine m_asleepAgain (kp2.pi P).1 (R.keep kp2 km2) ⟨by omega, by rw [kp2.at 16 (by decide)]; exact hs⟩ (fun h3 hf3 => ?_)
      rw [kp2.agn]
      have := hag (mn (ordI mn n (k + 1)) - mn (ordI mn n k))
      exact tail _ h3 this.1 this.2 (f2.trans hf3) (by rw [if_pos hg])
theorem m_upOf {N : Nat} {C : Int → aH → Prop} {h : aH} {s n : Nat} {kd mn ld wh bd wl : Nat → Int} (P : PI h) (R : RelH h) (M : MPL h n kd mn ld wh) (O : OKP h n kd mn ld wh) (S : MSL h bd wl) (ho : MOR h n mn) (hs : (s : Int) < h 16 16) (hh : 0 ≤ h 23 s)
    (hC : ∀ h', Fr [159, 160] [] h h' → C (UPV (fun j => mn (ordI mn n j)) (fun j => HRP h kd mn ld wh s (bd s) (wl s) (ordI mn n j)) (AGN h s) (h 23 s) n) h') : WL N 283 0 [(0, .inr (.inr 130)), (1, .inl (s : Int))] h C := by
  refine w_283_0 (m_hour P.1 R hs (m_until O.1 M.1 (fun j hj => (M.2 j hj).2.1) ho ?_))
  exact m_uph P R M O S ho hs hh rfl hC _ 0 h rfl (Nat.zero_le _) Fr.rfl
theorem m_wkl {N : Nat} {C : Int → aH → Prop} {h : aH} {s n : Nat} {kd mn ld wh bd wl : Nat → Int} (P : PI h) (R : RelH h) (M : MPL h n kd mn ld wh) (O : OKP h n kd mn ld wh) (S : MSL h bd wl) (hs : (s : Int) < h 16 16)
    (hC : ∀ h', Fr [159, 160] [] h h' → C (WOKV (fun j => HRP h kd mn ld wh s (bd s) (wl s) (ordI mn n j)) n) h') : ∀ (d k : Nat) (h1 : aH), d = n - k → k ≤ n → Fr [159, 160] [] h h1 →
    WL N 287 5 [(0, .inr (.inr 130)), (1, .inl (s : Int)), (2, .inr (.inl (prodN (fun j => 10 * (10 - HRP h kd mn ld wh s (bd s) (wl s) j)) k))), (4, .inl (k : Int))] h1 C := by
  have h8 := O.1
  have hhr : ∀ j, 0 ≤ HRP h kd mn ld wh s (bd s) (wl s) j ∧ HRP h kd mn ld wh s (bd s) (wl s) j ≤ 10 := fun j => HRP_rg _ _ _ _ _ _ _ _ _
  have hB : ∀ k, k ≤ n → 0 ≤ prodN (fun j => 10 * (10 - HRP h kd mn ld wh s (bd s) (wl s) j)) k ∧ prodN (fun j => 10 * (10 - HRP h kd mn ld wh s (bd s) (wl s) j)) k ≤ 100 ^ k := fun k _ => prodN_bd (fun j _ => by have := hhr j; show 0 ≤ 10 * (10 - HRP h kd mn ld wh s (bd s) (wl s) j) ∧ 10 * (10 - HRP h kd mn ld wh s (bd s) (wl s) j) ≤ 100; omega)
  intro d
  induction d with
  | zero =>
    intro k h1 hd hk hf
    have : k = n := by omega
    subst this
    have hb := hB k hk
    have hp := p100_8 h8
    refine w_287_5 ?_
    rw [hf.2 48 (by decide), M.1]
    refine ⟨fun _ => m_power h8 ?_, fun z => absurd (Int.le_refl _) z⟩
    (repeat first | refine ck_ix (by omega) ?_ | refine ck_rg (by omega) ?_ | refine ck_rl (by omega) ?_)
    have key := hC h1 hf
    unfold WOKV at key
    rw [prodN_ord mn (fun j => 10 * (10 - HRP h kd mn ld wh s (bd s) (wl s) j)) k] at key
    exact key
  | succ d ih =>
    intro k h1 hd hk hf
    have kp := hf.kp (by decide)
    have km := hf.km (by decide) (by decide)
    have hb := hB k (by omega)
    have hb1 := hB (k + 1) (by omega)
    have hp := p100_8 (n := k) (by omega)
    have hp1 := p100_8 (n := k + 1) (by omega)
    refine w_287_5 ?_
    rw [hf.2 48 (by decide), M.1]
    refine ⟨fun z => by omega, fun _ => ?_⟩
    (repeat first | refine ck_ix (by omega) ?_ | refine ck_rg (by omega) ?_ | refine ck_rl (by omega) ?_)
    refine m_heard (kp.pi P).1 (R.keep kp km) (M.keep hf (by decide) (by decide) (by decide) (by decide) (by decide)) (O.keep kp) (S.keep hf (by decide) (by decide) (by decide)) (by rw [kp.at 16 (by decide)]; exact hs) (by omega) (fun h2 hf2 => ?_)
    rw [kp.hrp]
    have hx := hhr k
    have e : prodN (fun j => 10 * (10 - HRP h kd mn ld wh s (bd s) (wl s) j)) (k + 1) = prodN (fun j => 10 * (10 - HRP h kd mn ld wh s (bd s) (wl s) j)) k * 10 * (10 - HRP h kd mn ld wh s (bd s) (wl s) k) := by
      show prodN (fun j => 10 * (10 - HRP h kd mn ld wh s (bd s) (wl s) j)) k * (10 * (10 - HRP h kd mn ld wh s (bd s) (wl s) k)) = _
      rw [Int.mul_assoc]
    rw [← e]
    (repeat first | refine ck_ix (by omega) ?_ | refine ck_rg (by omega) ?_ | refine ck_rl (by omega) ?_)
    exact ih (k + 1) h2 (by omega) (by omega) (hf.trans hf2)
theorem m_wokenOf {N : Nat} {C : Int → aH → Prop} {h : aH} {s n : Nat} {kd mn ld wh bd wl : Nat → Int} (P : PI h) (R : RelH h) (M : MPL h n kd mn ld wh) (O : OKP h n kd mn ld wh) (S : MSL h bd wl) (hs : (s : Int) < h 16 16)
    (hC : ∀ h', Fr [159, 160] [] h h' → C (WOKV (fun j => HRP h kd mn ld wh s (bd s) (wl s) (ordI mn n j)) n) h') : WL N 287 0 [(0, .inr (.inr 130)), (1, .inl (s : Int))] h C :=
  w_287_0 (m_wkl P R M O S hs hC n 0 h rfl (Nat.zero_le _) Fr.rfl)
/-- what one costs, of a plan -/
def SHP (h : aH) (n : Nat) (kd mn ld wh bd wl : Nat → Int) (s : Nat) : Int := SHV h s (fun j => mn (ordI mn n j)) (fun j => HRP h kd mn ld wh s (bd s) (wl s) (ordI mn n j)) n
/-- COST of a plan, of beds, of wool -/
def COSTP (h : aH) (n : Nat) (kd mn ld wh bd wl : Nat → Int) : Int := sumN (SHP h n kd mn ld wh bd wl) (h 16 16).toNat
theorem m_cst {N : Nat} {C : Int → aH → Prop} {h : aH} {n : Nat} {kd mn ld wh bd wl : Nat → Int} (P : PI h) (R : RelH h) (M : MPL h n kd mn ld wh) (O : OKP h n kd mn ld wh) (S : MSL h bd wl) (ho : MOR h n mn)
    (hC : ∀ h', Fr [159, 160] [] h h' → C (COSTP h n kd mn ld wh bd wl) h') : ∀ (d i : Nat) (h1 : aH), d = (h 16 16).toNat - i → (i : Int) ≤ h 16 16 → Fr [159, 160] [] h h1 →
    WL N 289 7 [(0, .inr (.inr 130)), (1, .inr (.inl (sumN (SHP h n kd mn ld wh bd wl) i))), (3, .inl (i : Int))] h1 C := by
  have hz := P.1.1
  unfold okSz at hz
  have h8 := O.1
  have hp := p100_8 h8
  have hL := R.1
  have hSl := R.2.1.2.2
  have hag : ∀ s x, 0 ≤ AGN h s x ∧ AGN h s x ≤ 10 := fun s x => AGD_rg _ _ _
  have hhr : ∀ s k, 0 ≤ HRP h kd mn ld wh s (bd s.toNat) (wl s.toNat) k ∧ HRP h kd mn ld wh s (bd s.toNat) (wl s.toNat) k ≤ 10 := fun s k => HRP_rg _ _ _ _ _ _ _ _ _
  have hB : ∀ i : Nat, (i : Int) < h 16 16 → 0 ≤ SHP h n kd mn ld wh bd wl i ∧ SHP h n kd mn ld wh bd wl i ≤ 9 * 100 ^ n := fun i hi => SHV_bd P.1 hi h8 (fun j _ => HRP_rg _ _ _ _ _ _ _ _ _)
  intro d
  induction d with
  | zero =>
    intro i h1 hd hi hf
    have km := hf.km (by decide) (by decide)
    refine w_289_7 ?_
    rw [km.2, km.1 147 (by decide), show h 147 (h 130 18).toNat = h 16 16 from hSl]
    (repeat first | refine ck_ix (by omega) ?_ | refine ck_rg (by omega) ?_ | refine ck_rl (by omega) ?_)
    refine ⟨fun _ => ?_, fun z => by omega⟩
    have key := hC h1 hf
    unfold COSTP at key
    rw [show (h 16 16).toNat = i by omega] at key
    exact key
  | succ d ih =>
    intro i h1 hd hi hf
    have hi2 : (i : Int) < h 16 16 := by omega
    have kp := hf.kp (by decide)
    have km := hf.km (by decide) (by decide)
    have P1 := kp.pi P
    have R1 := R.keep kp km
    have M1 := M.keep hf (by decide) (by decide) (by decide) (by decide) (by decide)
    have O1 := O.keep kp
    have S1 := S.keep hf (by decide) (by decide) (by decide)
    have ho1 : MOR h1 n mn := by unfold MOR; rw [hf.at 167 (by decide) (by decide)]; exact ho
    have hs1 : (i : Int) < h1 16 16 := by rw [kp.at 16 (by decide)]; exact hi2
    obtain ⟨-, hrel2, hrel3, hrel4⟩ := R.2.2.2.2.1 i hi2
    unfold Lv at hrel3 hrel4
    obtain ⟨-, g2, g3, g4⟩ := P.1.2.2.2.1 i hi2
    have ei : ((12 : Int) * h 130 18 + (i : Int)).toNat = 12 * (h 130 18).toNat + i := by omega
    have hSb := hB i hi2
    have hsum := sumN_bd (f := SHP h n kd mn ld wh bd wl) (B := 9 * 100 ^ n) (by omega) (n := i + 1) (fun j hj => hB j (by omega))
    have hsum2 : sumN (SHP h n kd mn ld wh bd wl) (i + 1) = sumN (SHP h n kd mn ld wh bd wl) i + SHP h n kd mn ld wh bd wl i := rfl
    have hle : (((i + 1 : Nat) : Int)) * (9 * 100 ^ n) ≤ 12 * (9 * 100 ^ n) := Int.mul_le_mul_of_nonneg_right (by omega) (by omega)
    rw [hsum2] at hsum
    have next : ∀ (v : Int) (h3 : aH), v = SHP h n kd mn ld wh bd wl i → Fr [159, 160] [] h h3 → am_rl (sumN (SHP h n kd mn ld wh bd wl) i + v) ∧ am_rg ((i : Int) + 1) ∧ WL N 289 7 [(0, .inr (.inr 130)), (1, .inr (.inl (sumN (SHP h n kd mn ld wh bd wl) i + v))), (3, .inl ((i : Int) + 1))] h3 C := by
      intro v h3 e f3
      subst e
      (repeat first | refine ck_ix (by omega) ?_ | refine ck_rg (by omega) ?_ | refine ck_rl (by omega) ?_)
      exact ih (i + 1) h3 (by omega) (by omega) f3
    refine w_289_7 ?_
    rw [km.2, km.1 147 (by decide), show h 147 (h 130 18).toNat = h 16 16 from hSl]
    (repeat first | refine ck_ix (by omega) ?_ | refine ck_rg (by omega) ?_ | refine ck_rl (by omega) ?_)
    refine ⟨fun z => by omega, fun _ => ?_⟩
    (repeat first | refine ck_ix (by omega) ?_ | refine ck_rg (by omega) ?_ | refine ck_rl (by omega) ?_)
    refine m_hour P1.1 R1 hs1 ?_
    rw [kp.at 23 (by decide), km.1 151 (by decide), km.1 152 (by decide), ei, hrel3, hrel4]
    refine ⟨fun hlt => ?_, fun hge => ?_⟩
    · have h2 : h 23 i = -2 := by omega
      have eS : SHP h n kd mn ld wh bd wl i = h 25 i * WOKV (fun j => HRP h kd mn ld wh i (bd i) (wl i) (ordI mn n j)) n := by unfold SHP SHV; rw [if_pos h2]
      (repeat first | refine ck_ix (by omega) ?_ | refine ck_rg (by omega) ?_ | refine ck_rl (by omega) ?_)
      refine ⟨fun hv => ?_, fun hv => ?_⟩
      · (repeat first | refine ck_ix (by omega) ?_ | refine ck_rg (by omega) ?_ | refine ck_rl (by omega) ?_)
        refine m_wokenOf P1 R1 M1 O1 S1 hs1 (fun h2' hf2 => ?_)
        rw [kp.hrp, ← eS]
        exact ck_rl (by omega) (next _ h2' rfl (hf.trans hf2))
      · have e0 : SHP h n kd mn ld wh bd wl i = 0 := by rw [eS, Decidable.not_not.mp hv, Int.zero_mul]
        exact next 0 h1 e0.symm hf
    · have h2 : ¬ h 23 i = -2 := by omega
      have eS : SHP h n kd mn ld wh bd wl i = h 24 i * (100 ^ n - UPV (fun j => mn (ordI mn n j)) (fun j => HRP h kd mn ld wh i (bd i) (wl i) (ordI mn n j)) (AGN h i) (h 23 i) n) := by unfold SHP SHV; rw [if_neg h2]
      have hU := UPV_bd (mt := fun j => mn (ordI mn n j)) (hr := fun j => HRP h kd mn ld wh i (bd i) (wl i) (ordI mn n j)) (ag := AGN h i) (hour := h 23 i) (c := n) (fun x => AGD_rg _ _ _) (fun j _ => HRP_rg _ _ _ _ _ _ _ _ _)
      (repeat first | refine ck_ix (by omega) ?_ | refine ck_rg (by omega) ?_ | refine ck_rl (by omega) ?_)
      rw [M1.1]
      refine m_power h8 ?_
      refine m_upOf P1 R1 M1 O1 S1 ho1 hs1 (by rw [kp.at 23 (by decide)]; omega) (fun h2' hf2 => ?_)
      rw [kp.hrp, kp.agn, kp.at 23 (by decide)]
      refine ck_rl (by omega) ?_
      rw [← eS]
      exact ck_rl (by omega) (next _ h2' rfl (hf.trans hf2))
theorem m_costNow {N : Nat} {C : Int → aH → Prop} {h : aH} {n : Nat} {kd mn ld wh bd wl : Nat → Int} (P : PI h) (R : RelH h) (M : MPL h n kd mn ld wh) (O : OKP h n kd mn ld wh) (S : MSL h bd wl)
    (hC : ∀ h', Fr [159, 160, 167] [] h h' → C (COSTP h n kd mn ld wh bd wl) h') : WL N 289 0 [(0, .inr (.inr 130))] h C := by
  have hz := P.1.1
  unfold okSz at hz
  refine w_289_0 (m_sorts O.1 M.1 (fun j hj => (M.2 j hj).2.1) (fun h1 hf ho => ?_))
  have kp := hf.kp (by decide)
  have km := hf.km (by decide) (by decide)
  have e : ∀ n kd mn ld wh bd wl, COSTP h1 n kd mn ld wh bd wl = COSTP h n kd mn ld wh bd wl := by
    intro n kd mn ld wh bd wl
    unfold COSTP SHP
    rw [kp.hrp, kp.shv, kp.at 16 (by decide)]
  have := m_cst (N := N) (C := C) (kp.pi P) (R.keep kp km) (M.keep hf (by decide) (by decide) (by decide) (by decide) (by decide)) (O.keep kp) (S.keep hf (by decide) (by decide) (by decide)) ho (fun h2 hf2 => by rw [e]; exact hC h2 ((hf.mono (by decide) (by decide)).trans (hf2.mono (by decide) (by decide)))) (h1 16 16).toNat 0 h1 rfl (by rw [kp.at 16 (by decide)]; omega) Fr.rfl
  exact this
