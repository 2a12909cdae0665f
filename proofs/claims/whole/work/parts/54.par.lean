/-! TWO READINGS OF A STRETCH SIDE BY SIDE (where the shape stays) -/
def okI : aI → Bool
  | .new _ => false
  | .newarray _ => false
  | .anewarray _ => false
  | .aastore => false
  | .invokespecial _ => false
  | .putfield n => !(Nat.beq (ftab (n / 100) (n % 100)) 0)
  | _ => true
def LoN (l : aL) : Prop := (l.map Prod.fst).Nodup
/-- the locals of the one are among those of the other -/
def LoS (a b : aL) : Prop := (∀ q ∈ a, q ∈ b) ∧ LoN b
theorem find_mem {k : Nat} {v : aV} : ∀ {l : aL}, am_find k l = some v → (k, v) ∈ l
  | [], h => by cases h
  | q :: l, h => by
    have h : (bif Nat.beq q.1 k then some q.2 else am_find k l) = some v := h
    cases hb : Nat.beq q.1 k with
    | true =>
      rw [hb] at h
      have e := Nat.eq_of_beq_eq_true hb
      have e2 : q.2 = v := Option.some.inj h
      rw [← e, ← e2]; exact List.mem_cons_self
    | false =>
      rw [hb] at h
      exact List.mem_cons_of_mem _ (find_mem h)
theorem mem_find {k : Nat} {v : aV} : ∀ {l : aL}, LoN l → (k, v) ∈ l → am_find k l = some v
  | [], _, h => by cases h
  | q :: l, hn, h => by
    show (bif Nat.beq q.1 k then some q.2 else am_find k l) = some v
    unfold LoN at hn
    rw [List.map_cons, List.nodup_cons] at hn
    rcases List.mem_cons.mp h with e | h
    · rw [← e]; simp
    · have hne : q.1 ≠ k := fun e => hn.1 (e ▸ List.mem_map.mpr ⟨(k, v), h, rfl⟩)
      rw [nb_ne hne]
      exact mem_find hn.2 h
theorem LoS.find {a b : aL} (h : LoS a b) {k : Nat} {v : aV} (e : am_find k a = some v) : am_find k b = some v := mem_find h.2 (h.1 _ (find_mem e))
theorem LoN.cons {k : Nat} {v : aV} {l : aL} {p : Nat × aV → Bool} (h : LoN l) (hp : ∀ q, p q = true → q.1 ≠ k) : LoN ((k, v) :: l.filter p) := by
  unfold LoN at h ⊢
  rw [List.map_cons, List.nodup_cons]
  refine ⟨fun hm => ?_, h.sublist (List.filter_sublist.map _)⟩
  obtain ⟨q, hq, e⟩ := List.mem_map.mp hm
  exact hp q (List.mem_filter.mp hq).2 e
theorem LoS.cons {a b : aL} {k : Nat} {v : aV} {p : Nat × aV → Bool} (h : LoS a b) (hp : ∀ q, p q = true → q.1 ≠ k) : LoS ((k, v) :: a.filter p) ((k, v) :: b.filter p) := by
  refine ⟨fun q hq => ?_, h.2.cons hp⟩
  rcases List.mem_cons.mp hq with e | hq
  · rw [e]; exact List.mem_cons_self
  · have := List.mem_filter.mp hq
    exact List.mem_cons_of_mem _ (List.mem_filter.mpr ⟨h.1 q this.1, this.2⟩)
theorem LoS.set1 {a b : aL} (h : LoS a b) (k : Nat) (v : aV) : LoS (am_set1 k v a) (am_set1 k v b) := by
  refine h.cons fun q hq e => ?_
  rw [e] at hq; simp at hq
theorem LoS.set2 {a b : aL} (h : LoS a b) (k : Nat) (v : aV) : LoS (am_set2 k v a) (am_set2 k v b) := by
  refine h.cons fun q hq e => ?_
  rw [e] at hq; simp at hq
section PAR
variable {X Y : Type} (R : X → Y → Prop) {badX : X} {badY : Y} {brX : (c : Prop) → Decidable c → X → X → X} {brY : (c : Prop) → Decidable c → Y → Y → Y} {ckX : (c : Prop) → Decidable c → X → X} {ckY : (c : Prop) → Decidable c → Y → Y}
theorem am_bin_par (hbad : ∀ y, R badX y) {f : Int → Int → Int} {nX : List aV → X} {nY : List aV → Y} (h : ∀ st, R (nX st) (nY st)) (st : List aV) : R (am_bin badX f nX st) (am_bin badY f nY st) := by
  rcases st with _ | ⟨v | v | v, _ | ⟨w | w | w, st⟩⟩ <;> first | exact hbad _ | exact h _
theorem am_binL_par (hbad : ∀ y, R badX y) {f : Int → Int → Int} {nX : List aV → X} {nY : List aV → Y} (h : ∀ st, R (nX st) (nY st)) (st : List aV) : R (am_binL badX f nX st) (am_binL badY f nY st) := by
  rcases st with _ | ⟨v | v | v, _ | ⟨w | w | w, st⟩⟩ <;> first | exact hbad _ | exact h _
theorem am_binC_par (hbad : ∀ y, R badX y) (hck : ∀ c d x y, R x y → R (ckX c d x) (ckY c d y)) {f : Int → Int → Int} {nX : List aV → X} {nY : List aV → Y} (h : ∀ st, R (nX st) (nY st)) (st : List aV) : R (am_binC badX ckX f nX st) (am_binC badY ckY f nY st) := by
  rcases st with _ | ⟨v | v | v, _ | ⟨w | w | w, st⟩⟩ <;> first | exact hbad _ | exact hck _ _ _ _ (h _)
theorem am_binLC_par (hbad : ∀ y, R badX y) (hck : ∀ c d x y, R x y → R (ckX c d x) (ckY c d y)) {f : Int → Int → Int} {nX : List aV → X} {nY : List aV → Y} (h : ∀ st, R (nX st) (nY st)) (st : List aV) : R (am_binLC badX ckX f nX st) (am_binLC badY ckY f nY st) := by
  rcases st with _ | ⟨v | v | v, _ | ⟨w | w | w, st⟩⟩ <;> first | exact hbad _ | exact hck _ _ _ _ (h _)
theorem am_sw_par (hbad : ∀ y, R badX y) (hbr : ∀ c d x x' y y', R x y → R x' y' → R (brX c d x x') (brY c d y y')) {jX : Nat → X} {jY : Nat → Y} (h : ∀ t, R (jX t) (jY t)) (v : Int) : ∀ (a : Int) (l : List Int), R (am_sw badX brX jX v a l) (am_sw badY brY jY v a l)
  | _, [] => hbad _
  | a, t :: l => hbr _ _ _ _ _ _ (h _) (am_sw_par hbad hbr h v (a + 1) l)
theorem am_aal_par (hbad : ∀ y, R badX y) (hbr : ∀ c d x x' y y', R x y → R x' y' → R (brX c d x x') (brY c d y y')) {i : Int} {nX : Nat → X} {nY : Nat → Y} (h : ∀ t, R (nX t) (nY t)) : ∀ (a : Int) (l : List Nat), R (am_aal badX brX i nX a l) (am_aal badY brY i nY a l)
  | _, [] => hbad _
  | a, q :: l => hbr _ _ _ _ _ _ (h _) (am_aal_par hbad hbr h (a + 1) l)
theorem am_putf_par (hbad : ∀ y, R badX y) (hck : ∀ c d x y, R x y → R (ckX c d x) (ckY c d y)) {c : aC} {ty : Nat} {sh : List aC} {h : aH} {r k : Nat} {v : aV} {nX : aS → X} {nY : aS → Y} (hn : ∀ h, R (nX (sh, h)) (nY (sh, h))) (hok : (!(Nat.beq ty 0)) = true) : R (am_putf badX ckX c ty (sh, h) r k v nX) (am_putf badY ckY c ty (sh, h) r k v nY) := by
  rcases ty with _ | _ | _ | _ | ty
  · cases hok
  all_goals rcases v with v | v | v <;> first | exact hbad _ | exact hn _ | exact hck _ _ _ _ (hn _)
set_option maxHeartbeats 4000000 in
theorem am_1_par {na : Nat → Nat} {limX limY : Nat × Nat} {callX : Nat → List aV → aS → (Option aV → aH → X) → X} {callY : Nat → List aV → aS → (Option aV → aH → Y) → Y} {spX : Nat → List aV → aS → (aS → X) → X} {spY : Nat → List aV → aS → (aS → Y) → Y} {retX : Option aV → aS → X} {retY : Option aV → aS → Y} {cutX : Nat → aL → List aV → aS → X} {cutY : Nat → aL → List aV → aS → Y} {nxtX : aL → List aV → aS → X} {nxtY : aL → List aV → aS → Y} {jmpX : Nat → aL → List aV → aS → X} {jmpY : Nat → aL → List aV → aS → Y} {sh : List aC}
    (LR : aL → aL → Prop) (hfd : ∀ {a b : aL}, LR a b → ∀ {k : Nat} {v : aV}, am_find k a = some v → am_find k b = some v) (hs1 : ∀ {a b : aL} (k : Nat) (v : aV), LR a b → LR (am_set1 k v a) (am_set1 k v b)) (hs2 : ∀ {a b : aL} (k : Nat) (v : aV), LR a b → LR (am_set2 k v a) (am_set2 k v b))
    (hbad : ∀ y, R badX y) (hbr : ∀ c d x x' y y', R x y → R x' y' → R (brX c d x x') (brY c d y y')) (hck : ∀ c d x y, R x y → R (ckX c d x) (ckY c d y))
    (hcall : ∀ id as h cX cY, (∀ v h, R (cX v h) (cY v h)) → R (callX id as (sh, h) cX) (callY id as (sh, h) cY)) (hret : ∀ v h, R (retX v (sh, h)) (retY v (sh, h))) (hcut : ∀ i a b st h, LR a b → R (cutX i a st (sh, h)) (cutY i b st (sh, h)))
    (hnxt : ∀ a b st h, LR a b → R (nxtX a st (sh, h)) (nxtY b st (sh, h))) (i : Nat) (hjmp : ∀ t a b st h, LR a b → R (jmpX t a st (sh, h)) (jmpY t b st (sh, h)))
    (ins : aI) (hok : okI ins = true) (lsX lsY : aL) (hl : LR lsX lsY) (st : List aV) (h : aH) :
    R (am_1 ftab na limX badX brX ckX callX spX retX cutX i ins lsX st (sh, h) nxtX jmpX) (am_1 ftab na limY badY brY ckY callY spY retY cutY i ins lsY st (sh, h) nxtY jmpY) := by
  cases ins
  case aaload => delta am_1; dsimp only; rcases st with _ | ⟨v | v | v, _ | ⟨w | w | w, st⟩⟩ <;> (first | exact hbad _ | (generalize am_kd sh _ = kk; split <;> (first | exact hbad _ | exact hck _ _ _ _ (am_aal_par R hbad hbr (fun _ => hnxt _ _ _ _ hl) _ _) | (split <;> first | exact hbad _ | exact hck _ _ _ _ (am_aal_par R hbad hbr (fun _ => hnxt _ _ _ _ hl) _ _) | (exfalso; simp_all)))))
  case aastore => cases hok
  case aconst_null => exact hbad _
  case aload index => delta am_1; dsimp only; rcases hX : am_find index lsX with _ | v | v | v <;> (first | exact hbad _ | (rw [hfd hl hX]; dsimp only; cases (Nat.beq v 0 || Nat.beq v 8) <;> (first | exact hbad _ | exact hnxt _ _ _ _ hl | exact hnxt _ _ _ _ (hs1 _ _ hl) | exact hnxt _ _ _ _ (hs2 _ _ hl) | exact hck _ _ _ _ (hnxt _ _ _ _ hl) | exact hck _ _ _ _ (hnxt _ _ _ _ (hs1 _ _ hl)) | exact hck _ _ _ _ (hck _ _ _ _ (hnxt _ _ _ _ hl)) | exact hjmp _ _ _ _ _ hl | exact hbr _ _ _ _ _ _ (hjmp _ _ _ _ _ hl) (hnxt _ _ _ _ hl) | exact hret _ _ | exact hck _ _ _ _ (hret _ _) | exact hcut _ _ _ _ _ hl)))
  case aload_n => exact hbad _
  case anewarray => cases hok
  case areturn => exact hbad _
  case arraylength => delta am_1; dsimp only; rcases st with _ | ⟨v | v | v, st⟩ <;> (first | exact hbad _ | (generalize am_kd sh _ = kk; split <;> (first | (first | exact hbad _ | exact hnxt _ _ _ _ hl | exact hnxt _ _ _ _ (hs1 _ _ hl) | exact hnxt _ _ _ _ (hs2 _ _ hl) | exact hck _ _ _ _ (hnxt _ _ _ _ hl) | exact hck _ _ _ _ (hnxt _ _ _ _ (hs1 _ _ hl)) | exact hck _ _ _ _ (hck _ _ _ _ (hnxt _ _ _ _ hl)) | exact hjmp _ _ _ _ _ hl | exact hbr _ _ _ _ _ _ (hjmp _ _ _ _ _ hl) (hnxt _ _ _ _ hl) | exact hret _ _ | exact hck _ _ _ _ (hret _ _) | exact hcut _ _ _ _ _ hl) | (split <;> first | (first | exact hbad _ | exact hnxt _ _ _ _ hl | exact hnxt _ _ _ _ (hs1 _ _ hl) | exact hnxt _ _ _ _ (hs2 _ _ hl) | exact hck _ _ _ _ (hnxt _ _ _ _ hl) | exact hck _ _ _ _ (hnxt _ _ _ _ (hs1 _ _ hl)) | exact hck _ _ _ _ (hck _ _ _ _ (hnxt _ _ _ _ hl)) | exact hjmp _ _ _ _ _ hl | exact hbr _ _ _ _ _ _ (hjmp _ _ _ _ _ hl) (hnxt _ _ _ _ hl) | exact hret _ _ | exact hck _ _ _ _ (hret _ _) | exact hcut _ _ _ _ _ hl) | (exfalso; simp_all)))))
  case astore index => delta am_1; dsimp only; rcases st with _ | ⟨v | v | v, st⟩ <;> (first | exact hbad _ | (dsimp only; cases (Nat.beq v 0 || Nat.beq v 8) <;> (first | exact hbad _ | exact hnxt _ _ _ _ hl | exact hnxt _ _ _ _ (hs1 _ _ hl) | exact hnxt _ _ _ _ (hs2 _ _ hl) | exact hck _ _ _ _ (hnxt _ _ _ _ hl) | exact hck _ _ _ _ (hnxt _ _ _ _ (hs1 _ _ hl)) | exact hck _ _ _ _ (hck _ _ _ _ (hnxt _ _ _ _ hl)) | exact hjmp _ _ _ _ _ hl | exact hbr _ _ _ _ _ _ (hjmp _ _ _ _ _ hl) (hnxt _ _ _ _ hl) | exact hret _ _ | exact hck _ _ _ _ (hret _ _) | exact hcut _ _ _ _ _ hl)))
  case astore_n => exact hbad _
  case athrow => exact hbad _
  case baload => delta am_1; dsimp only; rcases st with _ | ⟨v | v | v, _ | ⟨w | w | w, st⟩⟩ <;> (first | exact hbad _ | (generalize am_kd sh _ = kk; split <;> (first | (first | exact hbad _ | exact hnxt _ _ _ _ hl | exact hnxt _ _ _ _ (hs1 _ _ hl) | exact hnxt _ _ _ _ (hs2 _ _ hl) | exact hck _ _ _ _ (hnxt _ _ _ _ hl) | exact hck _ _ _ _ (hnxt _ _ _ _ (hs1 _ _ hl)) | exact hck _ _ _ _ (hck _ _ _ _ (hnxt _ _ _ _ hl)) | exact hjmp _ _ _ _ _ hl | exact hbr _ _ _ _ _ _ (hjmp _ _ _ _ _ hl) (hnxt _ _ _ _ hl) | exact hret _ _ | exact hck _ _ _ _ (hret _ _) | exact hcut _ _ _ _ _ hl) | (split <;> first | (first | exact hbad _ | exact hnxt _ _ _ _ hl | exact hnxt _ _ _ _ (hs1 _ _ hl) | exact hnxt _ _ _ _ (hs2 _ _ hl) | exact hck _ _ _ _ (hnxt _ _ _ _ hl) | exact hck _ _ _ _ (hnxt _ _ _ _ (hs1 _ _ hl)) | exact hck _ _ _ _ (hck _ _ _ _ (hnxt _ _ _ _ hl)) | exact hjmp _ _ _ _ _ hl | exact hbr _ _ _ _ _ _ (hjmp _ _ _ _ _ hl) (hnxt _ _ _ _ hl) | exact hret _ _ | exact hck _ _ _ _ (hret _ _) | exact hcut _ _ _ _ _ hl) | (exfalso; simp_all)))))
  case bastore => delta am_1; dsimp only; rcases st with _ | ⟨v | v | v, _ | ⟨w | w | w, _ | ⟨u | u | u, st⟩⟩⟩ <;> (first | exact hbad _ | (generalize am_kd sh _ = kk; split <;> (first | (first | exact hbad _ | exact hnxt _ _ _ _ hl | exact hnxt _ _ _ _ (hs1 _ _ hl) | exact hnxt _ _ _ _ (hs2 _ _ hl) | exact hck _ _ _ _ (hnxt _ _ _ _ hl) | exact hck _ _ _ _ (hnxt _ _ _ _ (hs1 _ _ hl)) | exact hck _ _ _ _ (hck _ _ _ _ (hnxt _ _ _ _ hl)) | exact hjmp _ _ _ _ _ hl | exact hbr _ _ _ _ _ _ (hjmp _ _ _ _ _ hl) (hnxt _ _ _ _ hl) | exact hret _ _ | exact hck _ _ _ _ (hret _ _) | exact hcut _ _ _ _ _ hl) | (split <;> first | (first | exact hbad _ | exact hnxt _ _ _ _ hl | exact hnxt _ _ _ _ (hs1 _ _ hl) | exact hnxt _ _ _ _ (hs2 _ _ hl) | exact hck _ _ _ _ (hnxt _ _ _ _ hl) | exact hck _ _ _ _ (hnxt _ _ _ _ (hs1 _ _ hl)) | exact hck _ _ _ _ (hck _ _ _ _ (hnxt _ _ _ _ hl)) | exact hjmp _ _ _ _ _ hl | exact hbr _ _ _ _ _ _ (hjmp _ _ _ _ _ hl) (hnxt _ _ _ _ hl) | exact hret _ _ | exact hck _ _ _ _ (hret _ _) | exact hcut _ _ _ _ _ hl) | (exfalso; simp_all)))))
  case bipush byte => delta am_1; dsimp only; (first | exact hbad _ | exact hnxt _ _ _ _ hl | exact hnxt _ _ _ _ (hs1 _ _ hl) | exact hnxt _ _ _ _ (hs2 _ _ hl) | exact hck _ _ _ _ (hnxt _ _ _ _ hl) | exact hck _ _ _ _ (hnxt _ _ _ _ (hs1 _ _ hl)) | exact hck _ _ _ _ (hck _ _ _ _ (hnxt _ _ _ _ hl)) | exact hjmp _ _ _ _ _ hl | exact hbr _ _ _ _ _ _ (hjmp _ _ _ _ _ hl) (hnxt _ _ _ _ hl) | exact hret _ _ | exact hck _ _ _ _ (hret _ _) | exact hcut _ _ _ _ _ hl)
  case caload => exact hbad _
  case castore => exact hbad _
  case checkcast => exact hbad _
  case d2f => exact hbad _
  case d2i => exact hbad _
  case d2l => exact hbad _
  case dadd => delta am_1; dsimp only; exact am_binLC_par R hbad hck (fun _ => hnxt _ _ _ _ hl) st
  case daload => exact hbad _
  case dastore => exact hbad _
  case dcmp => exact hbad _
  case dconst => exact hbad _
  case ddiv => exact hbad _
  case dload => exact hbad _
  case dload_n => exact hbad _
  case dmul => delta am_1; dsimp only; exact am_binLC_par R hbad hck (fun _ => hnxt _ _ _ _ hl) st
  case dneg => exact hbad _
  case drem => exact hbad _
  case dreturn => delta am_1; dsimp only; rcases st with _ | ⟨v | v | v, _ | ⟨w, st⟩⟩ <;> (first | exact hbad _ | exact hnxt _ _ _ _ hl | exact hnxt _ _ _ _ (hs1 _ _ hl) | exact hnxt _ _ _ _ (hs2 _ _ hl) | exact hck _ _ _ _ (hnxt _ _ _ _ hl) | exact hck _ _ _ _ (hnxt _ _ _ _ (hs1 _ _ hl)) | exact hck _ _ _ _ (hck _ _ _ _ (hnxt _ _ _ _ hl)) | exact hjmp _ _ _ _ _ hl | exact hbr _ _ _ _ _ _ (hjmp _ _ _ _ _ hl) (hnxt _ _ _ _ hl) | exact hret _ _ | exact hck _ _ _ _ (hret _ _) | exact hcut _ _ _ _ _ hl)
  case dstore => exact hbad _
  case dstore_n => exact hbad _
  case dsub => delta am_1; dsimp only; exact am_binLC_par R hbad hck (fun _ => hnxt _ _ _ _ hl) st
  case dup => delta am_1; dsimp only; rcases st with _ | ⟨v | v | v, st⟩ <;> (first | exact hbad _ | exact hnxt _ _ _ _ hl | exact hnxt _ _ _ _ (hs1 _ _ hl) | exact hnxt _ _ _ _ (hs2 _ _ hl) | exact hck _ _ _ _ (hnxt _ _ _ _ hl) | exact hck _ _ _ _ (hnxt _ _ _ _ (hs1 _ _ hl)) | exact hck _ _ _ _ (hck _ _ _ _ (hnxt _ _ _ _ hl)) | exact hjmp _ _ _ _ _ hl | exact hbr _ _ _ _ _ _ (hjmp _ _ _ _ _ hl) (hnxt _ _ _ _ hl) | exact hret _ _ | exact hck _ _ _ _ (hret _ _) | exact hcut _ _ _ _ _ hl)
  case dup_x1 => exact hbad _
  case dup_x2 => exact hbad _
  case dup2 => delta am_1; dsimp only; rcases st with _ | ⟨v | v | v, _ | ⟨w | w | w, st⟩⟩ <;> (first | exact hbad _ | exact hnxt _ _ _ _ hl | exact hnxt _ _ _ _ (hs1 _ _ hl) | exact hnxt _ _ _ _ (hs2 _ _ hl) | exact hck _ _ _ _ (hnxt _ _ _ _ hl) | exact hck _ _ _ _ (hnxt _ _ _ _ (hs1 _ _ hl)) | exact hck _ _ _ _ (hck _ _ _ _ (hnxt _ _ _ _ hl)) | exact hjmp _ _ _ _ _ hl | exact hbr _ _ _ _ _ _ (hjmp _ _ _ _ _ hl) (hnxt _ _ _ _ hl) | exact hret _ _ | exact hck _ _ _ _ (hret _ _) | exact hcut _ _ _ _ _ hl)
  case dup2_x1 => exact hbad _
  case dup2_x2 => exact hbad _
  case f2d => exact hbad _
  case f2i => exact hbad _
  case f2l => exact hbad _
  case fadd => delta am_1; dsimp only; exact am_binC_par R hbad hck (fun _ => hnxt _ _ _ _ hl) st
  case faload => exact hbad _
  case fastore => exact hbad _
  case fcmp => exact hbad _
  case fconst => exact hbad _
  case fdiv => exact hbad _
  case fload => exact hbad _
  case fload_n => exact hbad _
  case fmul => delta am_1; dsimp only; exact am_binC_par R hbad hck (fun _ => hnxt _ _ _ _ hl) st
  case fneg => exact hbad _
  case frem => exact hbad _
  case freturn => delta am_1; dsimp only; rcases st with _ | ⟨v | v | v, _ | ⟨w, st⟩⟩ <;> (first | exact hbad _ | exact hnxt _ _ _ _ hl | exact hnxt _ _ _ _ (hs1 _ _ hl) | exact hnxt _ _ _ _ (hs2 _ _ hl) | exact hck _ _ _ _ (hnxt _ _ _ _ hl) | exact hck _ _ _ _ (hnxt _ _ _ _ (hs1 _ _ hl)) | exact hck _ _ _ _ (hck _ _ _ _ (hnxt _ _ _ _ hl)) | exact hjmp _ _ _ _ _ hl | exact hbr _ _ _ _ _ _ (hjmp _ _ _ _ _ hl) (hnxt _ _ _ _ hl) | exact hret _ _ | exact hck _ _ _ _ (hret _ _) | exact hcut _ _ _ _ _ hl)
  case fstore => exact hbad _
  case fstore_n => exact hbad _
  case fsub => delta am_1; dsimp only; exact am_binC_par R hbad hck (fun _ => hnxt _ _ _ _ hl) st
  case getfield index => delta am_1; dsimp only; rcases st with _ | ⟨v | v | v, st⟩ <;> (first | exact hbad _ | (dsimp only; cases am_isO sh _ _ <;> (first | exact hbad _ | exact hnxt _ _ _ _ hl | exact hnxt _ _ _ _ (hs1 _ _ hl) | exact hnxt _ _ _ _ (hs2 _ _ hl) | exact hck _ _ _ _ (hnxt _ _ _ _ hl) | exact hck _ _ _ _ (hnxt _ _ _ _ (hs1 _ _ hl)) | exact hck _ _ _ _ (hck _ _ _ _ (hnxt _ _ _ _ hl)) | exact hjmp _ _ _ _ _ hl | exact hbr _ _ _ _ _ _ (hjmp _ _ _ _ _ hl) (hnxt _ _ _ _ hl) | exact hret _ _ | exact hck _ _ _ _ (hret _ _) | exact hcut _ _ _ _ _ hl)))
  case getstatic index => delta am_1; dsimp only; (first | exact hbad _ | exact hnxt _ _ _ _ hl | exact hnxt _ _ _ _ (hs1 _ _ hl) | exact hnxt _ _ _ _ (hs2 _ _ hl) | exact hck _ _ _ _ (hnxt _ _ _ _ hl) | exact hck _ _ _ _ (hnxt _ _ _ _ (hs1 _ _ hl)) | exact hck _ _ _ _ (hck _ _ _ _ (hnxt _ _ _ _ hl)) | exact hjmp _ _ _ _ _ hl | exact hbr _ _ _ _ _ _ (hjmp _ _ _ _ _ hl) (hnxt _ _ _ _ hl) | exact hret _ _ | exact hck _ _ _ _ (hret _ _) | exact hcut _ _ _ _ _ hl)
  case goto offset => delta am_1; dsimp only; (first | exact hbad _ | exact hnxt _ _ _ _ hl | exact hnxt _ _ _ _ (hs1 _ _ hl) | exact hnxt _ _ _ _ (hs2 _ _ hl) | exact hck _ _ _ _ (hnxt _ _ _ _ hl) | exact hck _ _ _ _ (hnxt _ _ _ _ (hs1 _ _ hl)) | exact hck _ _ _ _ (hck _ _ _ _ (hnxt _ _ _ _ hl)) | exact hjmp _ _ _ _ _ hl | exact hbr _ _ _ _ _ _ (hjmp _ _ _ _ _ hl) (hnxt _ _ _ _ hl) | exact hret _ _ | exact hck _ _ _ _ (hret _ _) | exact hcut _ _ _ _ _ hl)
  case goto_w => exact hbad _
  case i2b => delta am_1; dsimp only; rcases st with _ | ⟨v | v | v, st⟩ <;> (first | exact hbad _ | exact hnxt _ _ _ _ hl | exact hnxt _ _ _ _ (hs1 _ _ hl) | exact hnxt _ _ _ _ (hs2 _ _ hl) | exact hck _ _ _ _ (hnxt _ _ _ _ hl) | exact hck _ _ _ _ (hnxt _ _ _ _ (hs1 _ _ hl)) | exact hck _ _ _ _ (hck _ _ _ _ (hnxt _ _ _ _ hl)) | exact hjmp _ _ _ _ _ hl | exact hbr _ _ _ _ _ _ (hjmp _ _ _ _ _ hl) (hnxt _ _ _ _ hl) | exact hret _ _ | exact hck _ _ _ _ (hret _ _) | exact hcut _ _ _ _ _ hl)
  case i2c => delta am_1; dsimp only; rcases st with _ | ⟨v | v | v, st⟩ <;> (first | exact hbad _ | exact hnxt _ _ _ _ hl | exact hnxt _ _ _ _ (hs1 _ _ hl) | exact hnxt _ _ _ _ (hs2 _ _ hl) | exact hck _ _ _ _ (hnxt _ _ _ _ hl) | exact hck _ _ _ _ (hnxt _ _ _ _ (hs1 _ _ hl)) | exact hck _ _ _ _ (hck _ _ _ _ (hnxt _ _ _ _ hl)) | exact hjmp _ _ _ _ _ hl | exact hbr _ _ _ _ _ _ (hjmp _ _ _ _ _ hl) (hnxt _ _ _ _ hl) | exact hret _ _ | exact hck _ _ _ _ (hret _ _) | exact hcut _ _ _ _ _ hl)
  case i2d => exact hbad _
  case i2f => exact hbad _
  case i2l => delta am_1; dsimp only; rcases st with _ | ⟨v | v | v, st⟩ <;> (first | exact hbad _ | exact hnxt _ _ _ _ hl | exact hnxt _ _ _ _ (hs1 _ _ hl) | exact hnxt _ _ _ _ (hs2 _ _ hl) | exact hck _ _ _ _ (hnxt _ _ _ _ hl) | exact hck _ _ _ _ (hnxt _ _ _ _ (hs1 _ _ hl)) | exact hck _ _ _ _ (hck _ _ _ _ (hnxt _ _ _ _ hl)) | exact hjmp _ _ _ _ _ hl | exact hbr _ _ _ _ _ _ (hjmp _ _ _ _ _ hl) (hnxt _ _ _ _ hl) | exact hret _ _ | exact hck _ _ _ _ (hret _ _) | exact hcut _ _ _ _ _ hl)
  case i2s => exact hbad _
  case iadd => delta am_1; dsimp only; exact am_bin_par R hbad (fun _ => hnxt _ _ _ _ hl) st
  case iaload => delta am_1; dsimp only; rcases st with _ | ⟨v | v | v, _ | ⟨w | w | w, st⟩⟩ <;> (first | exact hbad _ | (generalize am_kd sh _ = kk; split <;> (first | (first | exact hbad _ | exact hnxt _ _ _ _ hl | exact hnxt _ _ _ _ (hs1 _ _ hl) | exact hnxt _ _ _ _ (hs2 _ _ hl) | exact hck _ _ _ _ (hnxt _ _ _ _ hl) | exact hck _ _ _ _ (hnxt _ _ _ _ (hs1 _ _ hl)) | exact hck _ _ _ _ (hck _ _ _ _ (hnxt _ _ _ _ hl)) | exact hjmp _ _ _ _ _ hl | exact hbr _ _ _ _ _ _ (hjmp _ _ _ _ _ hl) (hnxt _ _ _ _ hl) | exact hret _ _ | exact hck _ _ _ _ (hret _ _) | exact hcut _ _ _ _ _ hl) | (split <;> first | (first | exact hbad _ | exact hnxt _ _ _ _ hl | exact hnxt _ _ _ _ (hs1 _ _ hl) | exact hnxt _ _ _ _ (hs2 _ _ hl) | exact hck _ _ _ _ (hnxt _ _ _ _ hl) | exact hck _ _ _ _ (hnxt _ _ _ _ (hs1 _ _ hl)) | exact hck _ _ _ _ (hck _ _ _ _ (hnxt _ _ _ _ hl)) | exact hjmp _ _ _ _ _ hl | exact hbr _ _ _ _ _ _ (hjmp _ _ _ _ _ hl) (hnxt _ _ _ _ hl) | exact hret _ _ | exact hck _ _ _ _ (hret _ _) | exact hcut _ _ _ _ _ hl) | (exfalso; simp_all)))))
  case iand => delta am_1; dsimp only; exact am_bin_par R hbad (fun _ => hnxt _ _ _ _ hl) st
  case iastore => delta am_1; dsimp only; rcases st with _ | ⟨v | v | v, _ | ⟨w | w | w, _ | ⟨u | u | u, st⟩⟩⟩ <;> (first | exact hbad _ | (generalize am_kd sh _ = kk; split <;> (first | (first | exact hbad _ | exact hnxt _ _ _ _ hl | exact hnxt _ _ _ _ (hs1 _ _ hl) | exact hnxt _ _ _ _ (hs2 _ _ hl) | exact hck _ _ _ _ (hnxt _ _ _ _ hl) | exact hck _ _ _ _ (hnxt _ _ _ _ (hs1 _ _ hl)) | exact hck _ _ _ _ (hck _ _ _ _ (hnxt _ _ _ _ hl)) | exact hjmp _ _ _ _ _ hl | exact hbr _ _ _ _ _ _ (hjmp _ _ _ _ _ hl) (hnxt _ _ _ _ hl) | exact hret _ _ | exact hck _ _ _ _ (hret _ _) | exact hcut _ _ _ _ _ hl) | (split <;> first | (first | exact hbad _ | exact hnxt _ _ _ _ hl | exact hnxt _ _ _ _ (hs1 _ _ hl) | exact hnxt _ _ _ _ (hs2 _ _ hl) | exact hck _ _ _ _ (hnxt _ _ _ _ hl) | exact hck _ _ _ _ (hnxt _ _ _ _ (hs1 _ _ hl)) | exact hck _ _ _ _ (hck _ _ _ _ (hnxt _ _ _ _ hl)) | exact hjmp _ _ _ _ _ hl | exact hbr _ _ _ _ _ _ (hjmp _ _ _ _ _ hl) (hnxt _ _ _ _ hl) | exact hret _ _ | exact hck _ _ _ _ (hret _ _) | exact hcut _ _ _ _ _ hl) | (exfalso; simp_all)))))
  case iconst i => delta am_1; dsimp only; (first | exact hbad _ | exact hnxt _ _ _ _ hl | exact hnxt _ _ _ _ (hs1 _ _ hl) | exact hnxt _ _ _ _ (hs2 _ _ hl) | exact hck _ _ _ _ (hnxt _ _ _ _ hl) | exact hck _ _ _ _ (hnxt _ _ _ _ (hs1 _ _ hl)) | exact hck _ _ _ _ (hck _ _ _ _ (hnxt _ _ _ _ hl)) | exact hjmp _ _ _ _ _ hl | exact hbr _ _ _ _ _ _ (hjmp _ _ _ _ _ hl) (hnxt _ _ _ _ hl) | exact hret _ _ | exact hck _ _ _ _ (hret _ _) | exact hcut _ _ _ _ _ hl)
  case idiv => delta am_1; dsimp only; rcases st with _ | ⟨v | v | v, _ | ⟨w | w | w, st⟩⟩ <;> (first | exact hbad _ | exact hnxt _ _ _ _ hl | exact hnxt _ _ _ _ (hs1 _ _ hl) | exact hnxt _ _ _ _ (hs2 _ _ hl) | exact hck _ _ _ _ (hnxt _ _ _ _ hl) | exact hck _ _ _ _ (hnxt _ _ _ _ (hs1 _ _ hl)) | exact hck _ _ _ _ (hck _ _ _ _ (hnxt _ _ _ _ hl)) | exact hjmp _ _ _ _ _ hl | exact hbr _ _ _ _ _ _ (hjmp _ _ _ _ _ hl) (hnxt _ _ _ _ hl) | exact hret _ _ | exact hck _ _ _ _ (hret _ _) | exact hcut _ _ _ _ _ hl)
  case if_acmp => exact hbad _
  case if_icmp cond offset => delta am_1; dsimp only; rcases st with _ | ⟨v | v | v, _ | ⟨w | w | w, st⟩⟩ <;> (first | exact hbad _ | exact hnxt _ _ _ _ hl | exact hnxt _ _ _ _ (hs1 _ _ hl) | exact hnxt _ _ _ _ (hs2 _ _ hl) | exact hck _ _ _ _ (hnxt _ _ _ _ hl) | exact hck _ _ _ _ (hnxt _ _ _ _ (hs1 _ _ hl)) | exact hck _ _ _ _ (hck _ _ _ _ (hnxt _ _ _ _ hl)) | exact hjmp _ _ _ _ _ hl | exact hbr _ _ _ _ _ _ (hjmp _ _ _ _ _ hl) (hnxt _ _ _ _ hl) | exact hret _ _ | exact hck _ _ _ _ (hret _ _) | exact hcut _ _ _ _ _ hl)
  case ifCond cond offset => delta am_1; dsimp only; rcases st with _ | ⟨v | v | v, st⟩ <;> (first | exact hbad _ | exact hnxt _ _ _ _ hl | exact hnxt _ _ _ _ (hs1 _ _ hl) | exact hnxt _ _ _ _ (hs2 _ _ hl) | exact hck _ _ _ _ (hnxt _ _ _ _ hl) | exact hck _ _ _ _ (hnxt _ _ _ _ (hs1 _ _ hl)) | exact hck _ _ _ _ (hck _ _ _ _ (hnxt _ _ _ _ hl)) | exact hjmp _ _ _ _ _ hl | exact hbr _ _ _ _ _ _ (hjmp _ _ _ _ _ hl) (hnxt _ _ _ _ hl) | exact hret _ _ | exact hck _ _ _ _ (hret _ _) | exact hcut _ _ _ _ _ hl)
  case ifnonnull => exact hbad _
  case ifnull => exact hbad _
  case iinc index const => delta am_1; dsimp only; rcases hX : am_find index lsX with _ | v | v | v <;> (first | exact hbad _ | (rw [hfd hl hX]; (first | exact hbad _ | exact hnxt _ _ _ _ hl | exact hnxt _ _ _ _ (hs1 _ _ hl) | exact hnxt _ _ _ _ (hs2 _ _ hl) | exact hck _ _ _ _ (hnxt _ _ _ _ hl) | exact hck _ _ _ _ (hnxt _ _ _ _ (hs1 _ _ hl)) | exact hck _ _ _ _ (hck _ _ _ _ (hnxt _ _ _ _ hl)) | exact hjmp _ _ _ _ _ hl | exact hbr _ _ _ _ _ _ (hjmp _ _ _ _ _ hl) (hnxt _ _ _ _ hl) | exact hret _ _ | exact hck _ _ _ _ (hret _ _) | exact hcut _ _ _ _ _ hl)))
  case iload index => delta am_1; dsimp only; rcases hX : am_find index lsX with _ | v | v | v <;> (first | exact hbad _ | (rw [hfd hl hX]; (first | exact hbad _ | exact hnxt _ _ _ _ hl | exact hnxt _ _ _ _ (hs1 _ _ hl) | exact hnxt _ _ _ _ (hs2 _ _ hl) | exact hck _ _ _ _ (hnxt _ _ _ _ hl) | exact hck _ _ _ _ (hnxt _ _ _ _ (hs1 _ _ hl)) | exact hck _ _ _ _ (hck _ _ _ _ (hnxt _ _ _ _ hl)) | exact hjmp _ _ _ _ _ hl | exact hbr _ _ _ _ _ _ (hjmp _ _ _ _ _ hl) (hnxt _ _ _ _ hl) | exact hret _ _ | exact hck _ _ _ _ (hret _ _) | exact hcut _ _ _ _ _ hl)))
  case iload_n => exact hbad _
  case imul => delta am_1; dsimp only; exact am_bin_par R hbad (fun _ => hnxt _ _ _ _ hl) st
  case ineg => delta am_1; dsimp only; rcases st with _ | ⟨v | v | v, st⟩ <;> (first | exact hbad _ | exact hnxt _ _ _ _ hl | exact hnxt _ _ _ _ (hs1 _ _ hl) | exact hnxt _ _ _ _ (hs2 _ _ hl) | exact hck _ _ _ _ (hnxt _ _ _ _ hl) | exact hck _ _ _ _ (hnxt _ _ _ _ (hs1 _ _ hl)) | exact hck _ _ _ _ (hck _ _ _ _ (hnxt _ _ _ _ hl)) | exact hjmp _ _ _ _ _ hl | exact hbr _ _ _ _ _ _ (hjmp _ _ _ _ _ hl) (hnxt _ _ _ _ hl) | exact hret _ _ | exact hck _ _ _ _ (hret _ _) | exact hcut _ _ _ _ _ hl)
  case instanceof => exact hbad _
  case invokedynamic => exact hbad _
  case invokeinterface index count =>
    delta am_1; dsimp only
    rcases index with _ | _ | _ | _ | _ | index
    · rcases st with _ | ⟨v | v | v, st⟩ <;> (first | exact hbad _ | (dsimp only; cases (Nat.beq v 0 || Nat.beq v 8 || Nat.blt 8 (am_cat st)) <;> (first | exact hbad _ | exact hnxt _ _ _ _ hl | exact hnxt _ _ _ _ (hs1 _ _ hl) | exact hnxt _ _ _ _ (hs2 _ _ hl) | exact hck _ _ _ _ (hnxt _ _ _ _ hl) | exact hck _ _ _ _ (hnxt _ _ _ _ (hs1 _ _ hl)) | exact hck _ _ _ _ (hck _ _ _ _ (hnxt _ _ _ _ hl)) | exact hjmp _ _ _ _ _ hl | exact hbr _ _ _ _ _ _ (hjmp _ _ _ _ _ hl) (hnxt _ _ _ _ hl) | exact hret _ _ | exact hck _ _ _ _ (hret _ _) | exact hcut _ _ _ _ _ hl)))
    · rcases st with _ | ⟨v | v | v, _ | ⟨w | w | w, _ | ⟨u | u | u, st⟩⟩⟩ <;> (first | exact hbad _ | skip)
      rcases st with _ | ⟨v1 | v1 | v1, _ | ⟨v2 | v2 | v2, st⟩⟩ <;> (first | exact hbad _ | (dsimp only; split <;> (first | (first | exact hbad _ | exact hnxt _ _ _ _ hl | exact hnxt _ _ _ _ (hs1 _ _ hl) | exact hnxt _ _ _ _ (hs2 _ _ hl) | exact hck _ _ _ _ (hnxt _ _ _ _ hl) | exact hck _ _ _ _ (hnxt _ _ _ _ (hs1 _ _ hl)) | exact hck _ _ _ _ (hck _ _ _ _ (hnxt _ _ _ _ hl)) | exact hjmp _ _ _ _ _ hl | exact hbr _ _ _ _ _ _ (hjmp _ _ _ _ _ hl) (hnxt _ _ _ _ hl) | exact hret _ _ | exact hck _ _ _ _ (hret _ _) | exact hcut _ _ _ _ _ hl) | (split <;> first | (first | exact hbad _ | exact hnxt _ _ _ _ hl | exact hnxt _ _ _ _ (hs1 _ _ hl) | exact hnxt _ _ _ _ (hs2 _ _ hl) | exact hck _ _ _ _ (hnxt _ _ _ _ hl) | exact hck _ _ _ _ (hnxt _ _ _ _ (hs1 _ _ hl)) | exact hck _ _ _ _ (hck _ _ _ _ (hnxt _ _ _ _ hl)) | exact hjmp _ _ _ _ _ hl | exact hbr _ _ _ _ _ _ (hjmp _ _ _ _ _ hl) (hnxt _ _ _ _ hl) | exact hret _ _ | exact hck _ _ _ _ (hret _ _) | exact hcut _ _ _ _ _ hl) | (exfalso; simp_all)))) | (dsimp only; cases (!(Nat.beq v2 u) && Nat.ble (am_cat st) 8 && Nat.beq (am_kd sh v2) 1 && Nat.beq (am_kd sh u) 1) <;> (first | exact hbad _ | exact hnxt _ _ _ _ hl | exact hnxt _ _ _ _ (hs1 _ _ hl) | exact hnxt _ _ _ _ (hs2 _ _ hl) | exact hck _ _ _ _ (hnxt _ _ _ _ hl) | exact hck _ _ _ _ (hnxt _ _ _ _ (hs1 _ _ hl)) | exact hck _ _ _ _ (hck _ _ _ _ (hnxt _ _ _ _ hl)) | exact hjmp _ _ _ _ _ hl | exact hbr _ _ _ _ _ _ (hjmp _ _ _ _ _ hl) (hnxt _ _ _ _ hl) | exact hret _ _ | exact hck _ _ _ _ (hret _ _) | exact hcut _ _ _ _ _ hl)))
    · show R (cond (Nat.ble (am_cat st) 10) (am_bin badX (fun a b => max a b) (fun st => nxtX lsX st (sh, h)) st) badX) (cond (Nat.ble (am_cat st) 10) (am_bin badY (fun a b => max a b) (fun st => nxtY lsY st (sh, h)) st) badY)
      cases (Nat.ble (am_cat st) 10)
      · exact hbad _
      · exact am_bin_par (nX := fun st => nxtX lsX st (sh, h)) (nY := fun st => nxtY lsY st (sh, h)) R hbad (fun _ => hnxt _ _ _ _ hl) st
    · show R (cond (Nat.ble (am_cat st) 10) (am_bin badX (fun a b => min a b) (fun st => nxtX lsX st (sh, h)) st) badX) (cond (Nat.ble (am_cat st) 10) (am_bin badY (fun a b => min a b) (fun st => nxtY lsY st (sh, h)) st) badY)
      cases (Nat.ble (am_cat st) 10)
      · exact hbad _
      · exact am_bin_par (nX := fun st => nxtX lsX st (sh, h)) (nY := fun st => nxtY lsY st (sh, h)) R hbad (fun _ => hnxt _ _ _ _ hl) st
    · rcases st with _ | ⟨v | v | v, st⟩ <;> (first | exact hbad _ | (dsimp only; cases (Nat.ble (am_cat st) 8) <;> (first | exact hbad _ | exact hnxt _ _ _ _ hl | exact hnxt _ _ _ _ (hs1 _ _ hl) | exact hnxt _ _ _ _ (hs2 _ _ hl) | exact hck _ _ _ _ (hnxt _ _ _ _ hl) | exact hck _ _ _ _ (hnxt _ _ _ _ (hs1 _ _ hl)) | exact hck _ _ _ _ (hck _ _ _ _ (hnxt _ _ _ _ hl)) | exact hjmp _ _ _ _ _ hl | exact hbr _ _ _ _ _ _ (hjmp _ _ _ _ _ hl) (hnxt _ _ _ _ hl) | exact hret _ _ | exact hck _ _ _ _ (hret _ _) | exact hcut _ _ _ _ _ hl)))
    · exact hbad _
  case invokespecial => cases hok
  case invokestatic index => delta am_1; dsimp only; rcases am_pop (na index) [] st with _ | ⟨as, st⟩ <;> (first | exact hbad _ | (dsimp only; cases (Nat.ble (am_cat st) 8) <;> (first | exact hbad _ | exact hcall _ _ _ _ _ (fun _ _ => hnxt _ _ _ _ hl))))
  case invokevirtual index => delta am_1; dsimp only; rcases am_pop (na index) [] st with _ | ⟨_ | ⟨v | v | v, as⟩, st⟩ <;> (first | exact hbad _ | (dsimp only; cases (Nat.beq (am_kd sh _) (na (2000 + index)) && Nat.ble (am_cat st) 8) <;> (first | exact hbad _ | exact hcall _ _ _ _ _ (fun _ _ => hnxt _ _ _ _ hl))))
  case ior => delta am_1; dsimp only; exact am_bin_par R hbad (fun _ => hnxt _ _ _ _ hl) st
  case irem => delta am_1; dsimp only; rcases st with _ | ⟨v | v | v, _ | ⟨w | w | w, st⟩⟩ <;> (first | exact hbad _ | exact hnxt _ _ _ _ hl | exact hnxt _ _ _ _ (hs1 _ _ hl) | exact hnxt _ _ _ _ (hs2 _ _ hl) | exact hck _ _ _ _ (hnxt _ _ _ _ hl) | exact hck _ _ _ _ (hnxt _ _ _ _ (hs1 _ _ hl)) | exact hck _ _ _ _ (hck _ _ _ _ (hnxt _ _ _ _ hl)) | exact hjmp _ _ _ _ _ hl | exact hbr _ _ _ _ _ _ (hjmp _ _ _ _ _ hl) (hnxt _ _ _ _ hl) | exact hret _ _ | exact hck _ _ _ _ (hret _ _) | exact hcut _ _ _ _ _ hl)
  case ireturn => delta am_1; dsimp only; rcases st with _ | ⟨v | v | v, _ | ⟨w, st⟩⟩ <;> (first | exact hbad _ | exact hnxt _ _ _ _ hl | exact hnxt _ _ _ _ (hs1 _ _ hl) | exact hnxt _ _ _ _ (hs2 _ _ hl) | exact hck _ _ _ _ (hnxt _ _ _ _ hl) | exact hck _ _ _ _ (hnxt _ _ _ _ (hs1 _ _ hl)) | exact hck _ _ _ _ (hck _ _ _ _ (hnxt _ _ _ _ hl)) | exact hjmp _ _ _ _ _ hl | exact hbr _ _ _ _ _ _ (hjmp _ _ _ _ _ hl) (hnxt _ _ _ _ hl) | exact hret _ _ | exact hck _ _ _ _ (hret _ _) | exact hcut _ _ _ _ _ hl)
  case ishl => delta am_1; dsimp only; exact am_bin_par R hbad (fun _ => hnxt _ _ _ _ hl) st
  case ishr => delta am_1; dsimp only; exact am_bin_par R hbad (fun _ => hnxt _ _ _ _ hl) st
  case istore index => delta am_1; dsimp only; rcases st with _ | ⟨v | v | v, st⟩ <;> (first | exact hbad _ | exact hnxt _ _ _ _ hl | exact hnxt _ _ _ _ (hs1 _ _ hl) | exact hnxt _ _ _ _ (hs2 _ _ hl) | exact hck _ _ _ _ (hnxt _ _ _ _ hl) | exact hck _ _ _ _ (hnxt _ _ _ _ (hs1 _ _ hl)) | exact hck _ _ _ _ (hck _ _ _ _ (hnxt _ _ _ _ hl)) | exact hjmp _ _ _ _ _ hl | exact hbr _ _ _ _ _ _ (hjmp _ _ _ _ _ hl) (hnxt _ _ _ _ hl) | exact hret _ _ | exact hck _ _ _ _ (hret _ _) | exact hcut _ _ _ _ _ hl)
  case istore_n => exact hbad _
  case isub => delta am_1; dsimp only; exact am_bin_par R hbad (fun _ => hnxt _ _ _ _ hl) st
  case iushr => delta am_1; dsimp only; exact am_bin_par R hbad (fun _ => hnxt _ _ _ _ hl) st
  case ixor => delta am_1; dsimp only; exact am_bin_par R hbad (fun _ => hnxt _ _ _ _ hl) st
  case jsr => exact hbad _
  case jsr_w => exact hbad _
  case l2d => exact hbad _
  case l2f => exact hbad _
  case l2i => delta am_1; dsimp only; rcases st with _ | ⟨v | v | v, st⟩ <;> (first | exact hbad _ | exact hnxt _ _ _ _ hl | exact hnxt _ _ _ _ (hs1 _ _ hl) | exact hnxt _ _ _ _ (hs2 _ _ hl) | exact hck _ _ _ _ (hnxt _ _ _ _ hl) | exact hck _ _ _ _ (hnxt _ _ _ _ (hs1 _ _ hl)) | exact hck _ _ _ _ (hck _ _ _ _ (hnxt _ _ _ _ hl)) | exact hjmp _ _ _ _ _ hl | exact hbr _ _ _ _ _ _ (hjmp _ _ _ _ _ hl) (hnxt _ _ _ _ hl) | exact hret _ _ | exact hck _ _ _ _ (hret _ _) | exact hcut _ _ _ _ _ hl)
  case ladd => delta am_1; dsimp only; exact am_binL_par R hbad (fun _ => hnxt _ _ _ _ hl) st
  case laload => delta am_1; dsimp only; rcases st with _ | ⟨v | v | v, _ | ⟨w | w | w, st⟩⟩ <;> (first | exact hbad _ | (generalize am_kd sh _ = kk; split <;> (first | (first | exact hbad _ | exact hnxt _ _ _ _ hl | exact hnxt _ _ _ _ (hs1 _ _ hl) | exact hnxt _ _ _ _ (hs2 _ _ hl) | exact hck _ _ _ _ (hnxt _ _ _ _ hl) | exact hck _ _ _ _ (hnxt _ _ _ _ (hs1 _ _ hl)) | exact hck _ _ _ _ (hck _ _ _ _ (hnxt _ _ _ _ hl)) | exact hjmp _ _ _ _ _ hl | exact hbr _ _ _ _ _ _ (hjmp _ _ _ _ _ hl) (hnxt _ _ _ _ hl) | exact hret _ _ | exact hck _ _ _ _ (hret _ _) | exact hcut _ _ _ _ _ hl) | (split <;> first | (first | exact hbad _ | exact hnxt _ _ _ _ hl | exact hnxt _ _ _ _ (hs1 _ _ hl) | exact hnxt _ _ _ _ (hs2 _ _ hl) | exact hck _ _ _ _ (hnxt _ _ _ _ hl) | exact hck _ _ _ _ (hnxt _ _ _ _ (hs1 _ _ hl)) | exact hck _ _ _ _ (hck _ _ _ _ (hnxt _ _ _ _ hl)) | exact hjmp _ _ _ _ _ hl | exact hbr _ _ _ _ _ _ (hjmp _ _ _ _ _ hl) (hnxt _ _ _ _ hl) | exact hret _ _ | exact hck _ _ _ _ (hret _ _) | exact hcut _ _ _ _ _ hl) | (exfalso; simp_all)))))
  case land => delta am_1; dsimp only; exact am_binL_par R hbad (fun _ => hnxt _ _ _ _ hl) st
  case lastore => delta am_1; dsimp only; rcases st with _ | ⟨v | v | v, _ | ⟨w | w | w, _ | ⟨u | u | u, st⟩⟩⟩ <;> (first | exact hbad _ | (generalize am_kd sh _ = kk; split <;> (first | (first | exact hbad _ | exact hnxt _ _ _ _ hl | exact hnxt _ _ _ _ (hs1 _ _ hl) | exact hnxt _ _ _ _ (hs2 _ _ hl) | exact hck _ _ _ _ (hnxt _ _ _ _ hl) | exact hck _ _ _ _ (hnxt _ _ _ _ (hs1 _ _ hl)) | exact hck _ _ _ _ (hck _ _ _ _ (hnxt _ _ _ _ hl)) | exact hjmp _ _ _ _ _ hl | exact hbr _ _ _ _ _ _ (hjmp _ _ _ _ _ hl) (hnxt _ _ _ _ hl) | exact hret _ _ | exact hck _ _ _ _ (hret _ _) | exact hcut _ _ _ _ _ hl) | (split <;> first | (first | exact hbad _ | exact hnxt _ _ _ _ hl | exact hnxt _ _ _ _ (hs1 _ _ hl) | exact hnxt _ _ _ _ (hs2 _ _ hl) | exact hck _ _ _ _ (hnxt _ _ _ _ hl) | exact hck _ _ _ _ (hnxt _ _ _ _ (hs1 _ _ hl)) | exact hck _ _ _ _ (hck _ _ _ _ (hnxt _ _ _ _ hl)) | exact hjmp _ _ _ _ _ hl | exact hbr _ _ _ _ _ _ (hjmp _ _ _ _ _ hl) (hnxt _ _ _ _ hl) | exact hret _ _ | exact hck _ _ _ _ (hret _ _) | exact hcut _ _ _ _ _ hl) | (exfalso; simp_all)))))
  case lcmp => delta am_1; dsimp only; rcases st with _ | ⟨v | v | v, _ | ⟨w | w | w, st⟩⟩ <;> (first | exact hbad _ | exact hnxt _ _ _ _ hl | exact hnxt _ _ _ _ (hs1 _ _ hl) | exact hnxt _ _ _ _ (hs2 _ _ hl) | exact hck _ _ _ _ (hnxt _ _ _ _ hl) | exact hck _ _ _ _ (hnxt _ _ _ _ (hs1 _ _ hl)) | exact hck _ _ _ _ (hck _ _ _ _ (hnxt _ _ _ _ hl)) | exact hjmp _ _ _ _ _ hl | exact hbr _ _ _ _ _ _ (hjmp _ _ _ _ _ hl) (hnxt _ _ _ _ hl) | exact hret _ _ | exact hck _ _ _ _ (hret _ _) | exact hcut _ _ _ _ _ hl)
  case lconst => exact hbad _
  case ldc => exact hbad _
  case ldc_w => exact hbad _
  case ldc2_w => exact hbad _
  case ldiv => delta am_1; dsimp only; rcases st with _ | ⟨v | v | v, _ | ⟨w | w | w, st⟩⟩ <;> (first | exact hbad _ | exact hnxt _ _ _ _ hl | exact hnxt _ _ _ _ (hs1 _ _ hl) | exact hnxt _ _ _ _ (hs2 _ _ hl) | exact hck _ _ _ _ (hnxt _ _ _ _ hl) | exact hck _ _ _ _ (hnxt _ _ _ _ (hs1 _ _ hl)) | exact hck _ _ _ _ (hck _ _ _ _ (hnxt _ _ _ _ hl)) | exact hjmp _ _ _ _ _ hl | exact hbr _ _ _ _ _ _ (hjmp _ _ _ _ _ hl) (hnxt _ _ _ _ hl) | exact hret _ _ | exact hck _ _ _ _ (hret _ _) | exact hcut _ _ _ _ _ hl)
  case lload index => delta am_1; dsimp only; rcases hX : am_find index lsX with _ | v | v | v <;> (first | exact hbad _ | (rw [hfd hl hX]; (first | exact hbad _ | exact hnxt _ _ _ _ hl | exact hnxt _ _ _ _ (hs1 _ _ hl) | exact hnxt _ _ _ _ (hs2 _ _ hl) | exact hck _ _ _ _ (hnxt _ _ _ _ hl) | exact hck _ _ _ _ (hnxt _ _ _ _ (hs1 _ _ hl)) | exact hck _ _ _ _ (hck _ _ _ _ (hnxt _ _ _ _ hl)) | exact hjmp _ _ _ _ _ hl | exact hbr _ _ _ _ _ _ (hjmp _ _ _ _ _ hl) (hnxt _ _ _ _ hl) | exact hret _ _ | exact hck _ _ _ _ (hret _ _) | exact hcut _ _ _ _ _ hl)))
  case lload_n => exact hbad _
  case lmul => delta am_1; dsimp only; exact am_binL_par R hbad (fun _ => hnxt _ _ _ _ hl) st
  case lneg => exact hbad _
  case lookupswitch => exact hbad _
  case lor => exact hbad _
  case lrem => exact hbad _
  case lreturn => delta am_1; dsimp only; rcases st with _ | ⟨v | v | v, _ | ⟨w, st⟩⟩ <;> (first | exact hbad _ | exact hnxt _ _ _ _ hl | exact hnxt _ _ _ _ (hs1 _ _ hl) | exact hnxt _ _ _ _ (hs2 _ _ hl) | exact hck _ _ _ _ (hnxt _ _ _ _ hl) | exact hck _ _ _ _ (hnxt _ _ _ _ (hs1 _ _ hl)) | exact hck _ _ _ _ (hck _ _ _ _ (hnxt _ _ _ _ hl)) | exact hjmp _ _ _ _ _ hl | exact hbr _ _ _ _ _ _ (hjmp _ _ _ _ _ hl) (hnxt _ _ _ _ hl) | exact hret _ _ | exact hck _ _ _ _ (hret _ _) | exact hcut _ _ _ _ _ hl)
  case lshl => delta am_1; dsimp only; rcases st with _ | ⟨v | v | v, _ | ⟨w | w | w, st⟩⟩ <;> (first | exact hbad _ | exact hnxt _ _ _ _ hl | exact hnxt _ _ _ _ (hs1 _ _ hl) | exact hnxt _ _ _ _ (hs2 _ _ hl) | exact hck _ _ _ _ (hnxt _ _ _ _ hl) | exact hck _ _ _ _ (hnxt _ _ _ _ (hs1 _ _ hl)) | exact hck _ _ _ _ (hck _ _ _ _ (hnxt _ _ _ _ hl)) | exact hjmp _ _ _ _ _ hl | exact hbr _ _ _ _ _ _ (hjmp _ _ _ _ _ hl) (hnxt _ _ _ _ hl) | exact hret _ _ | exact hck _ _ _ _ (hret _ _) | exact hcut _ _ _ _ _ hl)
  case lshr => delta am_1; dsimp only; rcases st with _ | ⟨v | v | v, _ | ⟨w | w | w, st⟩⟩ <;> (first | exact hbad _ | exact hnxt _ _ _ _ hl | exact hnxt _ _ _ _ (hs1 _ _ hl) | exact hnxt _ _ _ _ (hs2 _ _ hl) | exact hck _ _ _ _ (hnxt _ _ _ _ hl) | exact hck _ _ _ _ (hnxt _ _ _ _ (hs1 _ _ hl)) | exact hck _ _ _ _ (hck _ _ _ _ (hnxt _ _ _ _ hl)) | exact hjmp _ _ _ _ _ hl | exact hbr _ _ _ _ _ _ (hjmp _ _ _ _ _ hl) (hnxt _ _ _ _ hl) | exact hret _ _ | exact hck _ _ _ _ (hret _ _) | exact hcut _ _ _ _ _ hl)
  case lstore index => delta am_1; dsimp only; rcases st with _ | ⟨v | v | v, st⟩ <;> (first | exact hbad _ | exact hnxt _ _ _ _ hl | exact hnxt _ _ _ _ (hs1 _ _ hl) | exact hnxt _ _ _ _ (hs2 _ _ hl) | exact hck _ _ _ _ (hnxt _ _ _ _ hl) | exact hck _ _ _ _ (hnxt _ _ _ _ (hs1 _ _ hl)) | exact hck _ _ _ _ (hck _ _ _ _ (hnxt _ _ _ _ hl)) | exact hjmp _ _ _ _ _ hl | exact hbr _ _ _ _ _ _ (hjmp _ _ _ _ _ hl) (hnxt _ _ _ _ hl) | exact hret _ _ | exact hck _ _ _ _ (hret _ _) | exact hcut _ _ _ _ _ hl)
  case lstore_n => exact hbad _
  case lsub => delta am_1; dsimp only; exact am_binL_par R hbad (fun _ => hnxt _ _ _ _ hl) st
  case lushr => delta am_1; dsimp only; rcases st with _ | ⟨v | v | v, _ | ⟨w | w | w, st⟩⟩ <;> (first | exact hbad _ | exact hnxt _ _ _ _ hl | exact hnxt _ _ _ _ (hs1 _ _ hl) | exact hnxt _ _ _ _ (hs2 _ _ hl) | exact hck _ _ _ _ (hnxt _ _ _ _ hl) | exact hck _ _ _ _ (hnxt _ _ _ _ (hs1 _ _ hl)) | exact hck _ _ _ _ (hck _ _ _ _ (hnxt _ _ _ _ hl)) | exact hjmp _ _ _ _ _ hl | exact hbr _ _ _ _ _ _ (hjmp _ _ _ _ _ hl) (hnxt _ _ _ _ hl) | exact hret _ _ | exact hck _ _ _ _ (hret _ _) | exact hcut _ _ _ _ _ hl)
  case lxor => delta am_1; dsimp only; exact am_binL_par R hbad (fun _ => hnxt _ _ _ _ hl) st
  case monitorenter => exact hbad _
  case monitorexit => exact hbad _
  case multianewarray => exact hbad _
  case new => cases hok
  case newarray => cases hok
  case nop => delta am_1; dsimp only; (first | exact hbad _ | exact hnxt _ _ _ _ hl | exact hnxt _ _ _ _ (hs1 _ _ hl) | exact hnxt _ _ _ _ (hs2 _ _ hl) | exact hck _ _ _ _ (hnxt _ _ _ _ hl) | exact hck _ _ _ _ (hnxt _ _ _ _ (hs1 _ _ hl)) | exact hck _ _ _ _ (hck _ _ _ _ (hnxt _ _ _ _ hl)) | exact hjmp _ _ _ _ _ hl | exact hbr _ _ _ _ _ _ (hjmp _ _ _ _ _ hl) (hnxt _ _ _ _ hl) | exact hret _ _ | exact hck _ _ _ _ (hret _ _) | exact hcut _ _ _ _ _ hl)
  case pop => delta am_1; dsimp only; rcases st with _ | ⟨v | v | v, st⟩ <;> (first | exact hbad _ | exact hnxt _ _ _ _ hl | exact hnxt _ _ _ _ (hs1 _ _ hl) | exact hnxt _ _ _ _ (hs2 _ _ hl) | exact hck _ _ _ _ (hnxt _ _ _ _ hl) | exact hck _ _ _ _ (hnxt _ _ _ _ (hs1 _ _ hl)) | exact hck _ _ _ _ (hck _ _ _ _ (hnxt _ _ _ _ hl)) | exact hjmp _ _ _ _ _ hl | exact hbr _ _ _ _ _ _ (hjmp _ _ _ _ _ hl) (hnxt _ _ _ _ hl) | exact hret _ _ | exact hck _ _ _ _ (hret _ _) | exact hcut _ _ _ _ _ hl)
  case pop2 => delta am_1; dsimp only; rcases st with _ | ⟨v | v | v, st⟩ <;> (first | exact hbad _ | exact hnxt _ _ _ _ hl | exact hnxt _ _ _ _ (hs1 _ _ hl) | exact hnxt _ _ _ _ (hs2 _ _ hl) | exact hck _ _ _ _ (hnxt _ _ _ _ hl) | exact hck _ _ _ _ (hnxt _ _ _ _ (hs1 _ _ hl)) | exact hck _ _ _ _ (hck _ _ _ _ (hnxt _ _ _ _ hl)) | exact hjmp _ _ _ _ _ hl | exact hbr _ _ _ _ _ _ (hjmp _ _ _ _ _ hl) (hnxt _ _ _ _ hl) | exact hret _ _ | exact hck _ _ _ _ (hret _ _) | exact hcut _ _ _ _ _ hl)
  case putfield index => delta am_1; dsimp only; rcases st with _ | ⟨v | v | v, _ | ⟨w | w | w, st⟩⟩ <;> (first | exact hbad _ | (dsimp only; cases (am_isO sh _ _ && Nat.ble 9 _) <;> (first | exact hbad _ | exact am_putf_par R hbad hck (fun _ => hnxt _ _ _ _ hl) hok)))
  case putstatic => exact hbad _
  case ret => exact hbad _
  case return_ => delta am_1; dsimp only; rcases st with _ | ⟨v | v | v, _ | ⟨w, st⟩⟩ <;> (first | exact hbad _ | exact hnxt _ _ _ _ hl | exact hnxt _ _ _ _ (hs1 _ _ hl) | exact hnxt _ _ _ _ (hs2 _ _ hl) | exact hck _ _ _ _ (hnxt _ _ _ _ hl) | exact hck _ _ _ _ (hnxt _ _ _ _ (hs1 _ _ hl)) | exact hck _ _ _ _ (hck _ _ _ _ (hnxt _ _ _ _ hl)) | exact hjmp _ _ _ _ _ hl | exact hbr _ _ _ _ _ _ (hjmp _ _ _ _ _ hl) (hnxt _ _ _ _ hl) | exact hret _ _ | exact hck _ _ _ _ (hret _ _) | exact hcut _ _ _ _ _ hl)
  case saload => exact hbad _
  case sastore => exact hbad _
  case sipush => exact hbad _
  case swap => exact hbad _
  case tableswitch default low high offsets => delta am_1; dsimp only; rcases st with _ | ⟨v | v | v, st⟩ <;> (first | exact hbad _ | exact hbr _ _ _ _ _ _ (hjmp _ _ _ _ _ hl) (am_sw_par R hbad hbr (fun _ => hjmp _ _ _ _ _ hl) _ _ _))
theorem okI_drop {code : List aI} {i t : Nat} (h : (code.drop i).all okI = true) (hit : i ≤ t) : (code.drop t).all okI = true := by
  rw [show t = i + (t - i) by omega, ← List.drop_drop]
  rw [List.all_eq_true] at h ⊢
  exact fun x hx => h x (List.mem_of_mem_drop hx)
theorem am_x_par {na : Nat → Nat} {limX limY : Nat × Nat} {callX : Nat → List aV → aS → (Option aV → aH → X) → X} {callY : Nat → List aV → aS → (Option aV → aH → Y) → Y} {spX : Nat → List aV → aS → (aS → X) → X} {spY : Nat → List aV → aS → (aS → Y) → Y} {retX : Option aV → aS → X} {retY : Option aV → aS → Y} {cutX : Nat → aL → List aV → aS → X} {cutY : Nat → aL → List aV → aS → Y} {sh : List aC} {code : List aI} {i0 : Nat}
    (LR : aL → aL → Prop) (hfd : ∀ {a b : aL}, LR a b → ∀ {k : Nat} {v : aV}, am_find k a = some v → am_find k b = some v) (hs1 : ∀ {a b : aL} (k : Nat) (v : aV), LR a b → LR (am_set1 k v a) (am_set1 k v b)) (hs2 : ∀ {a b : aL} (k : Nat) (v : aV), LR a b → LR (am_set2 k v a) (am_set2 k v b))
    (hbad : ∀ y, R badX y) (hbr : ∀ c d x x' y y', R x y → R x' y' → R (brX c d x x') (brY c d y y')) (hck : ∀ c d x y, R x y → R (ckX c d x) (ckY c d y))
    (hcall : ∀ id as h cX cY, (∀ v h, R (cX v h) (cY v h)) → R (callX id as (sh, h) cX) (callY id as (sh, h) cY)) (hret : ∀ v h, R (retX v (sh, h)) (retY v (sh, h))) (hcut : ∀ i a b st h, LR a b → R (cutX i a st (sh, h)) (cutY i b st (sh, h)))
    (hcode : (code.drop i0).all okI = true) : ∀ (f i : Nat) (rest : List aI) (lsX lsY : aL) (st : List aV) (h : aH), LR lsX lsY → i0 ≤ i → rest.all okI = true →
    R (am_x ftab na limX badX brX ckX callX spX retX cutX code f i rest lsX st (sh, h)) (am_x ftab na limY badY brY ckY callY spY retY cutY code f i rest lsY st (sh, h)) := by
  intro f
  induction f with
  | zero => intro i rest lsX lsY st h _ _ _; exact hbad _
  | succ f ih =>
    intro i rest lsX lsY st h hl hi hr
    rcases rest with _ | ⟨ins, rest⟩
    · exact hbad _
    · rw [List.all_cons, Bool.and_eq_true_iff] at hr
      refine am_1_par R LR hfd hs1 hs2 hbad hbr hck hcall hret hcut (fun a b st h hab => ih (i + 1) rest a b st h hab (by omega) hr.2) i (fun t a b st h hab => ?_) ins hr.1 lsX lsY hl st h
      show R (bif Nat.ble t i then _ else _) (bif Nat.ble t i then _ else _)
      cases hb : Nat.ble t i with
      | true => exact hcut _ _ _ _ _ hab
      | false =>
        have ht : i0 ≤ t := by
          rcases Nat.lt_or_ge i t with h1 | h1
          · omega
          · rw [Nat.ble_eq_true_of_le h1] at hb; cases hb
        exact ih t (code.drop t) a b st h hab ht (okI_drop hcode ht)
end PAR
