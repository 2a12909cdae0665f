/-! a run on numbers, the script left out, is a run: the constructors -/
/-- the script's cell put in -/
def upS (N : Nat) : List aC → List aC
  | c0 :: _ :: l => c0 :: (6, N, []) :: l
  | l => l
/-- there is no script -/
def K1 (sh : List aC) : Prop := ∃ c0 l, sh = c0 :: (0, 0, []) :: l
theorem upS_nth {N r : Nat} {sh : List aC} (k : K1 sh) (hr : r ≠ 1) : am_nth am_o0 (upS N sh) r = am_nth am_o0 sh r := by
  obtain ⟨c0, l, rfl⟩ := k
  rcases r with _ | _ | r
  · rfl
  · exact absurd rfl hr
  · rfl
theorem upS_kd {N r : Nat} {sh : List aC} (k : K1 sh) (hr : r ≠ 1) : am_kd (upS N sh) r = am_kd sh r := by
  unfold am_kd
  rw [upS_nth k hr]
theorem K1_kd {sh : List aC} (k : K1 sh) : am_kd sh 1 = 0 := by
  obtain ⟨c0, l, rfl⟩ := k
  rfl
theorem upS_isO {N r n : Nat} {sh : List aC} (k : K1 sh) (hr : r ≠ 1) : am_isO (upS N sh) r n = am_isO sh r n := by
  unfold am_isO
  rw [upS_kd k hr, upS_nth k hr]
theorem K1_isO {sh : List aC} (k : K1 sh) {n : Nat} : am_isO sh 1 n = false := by
  unfold am_isO
  rw [K1_kd k, nb_ne (show (0 : Nat) ≠ 10 + n / 100 by omega)]
  rfl
theorem upS_len {N : Nat} {sh : List aC} (k : K1 sh) : (upS N sh).length = sh.length := by
  obtain ⟨c0, l, rfl⟩ := k
  rfl
theorem upS_sz {N : Nat} {sh : List aC} (k : K1 sh) : am_sz (upS N sh) = am_sz sh + N := by
  obtain ⟨c0, l, rfl⟩ := k
  show c0.2.1 + (N + am_sz l) = c0.2.1 + (0 + am_sz l) + N
  omega
/-- the script's row put in -/
def upH (xs : Nat → Int) (h : aH) : aH := fun r j => bif Nat.beq r 1 then xs j else h r j
theorem upH_at {xs : Nat → Int} {h : aH} {r : Nat} (hr : r ≠ 1) : upH xs h r = h r := by
  funext j
  unfold upH
  rw [nb_ne hr]
  rfl
theorem upH_up {xs : Nat → Int} {h : aH} {r k : Nat} {v : Int} (hr : r ≠ 1) : upH xs (am_up h r k v) = am_up (upH xs h) r k v := by
  funext q j
  unfold upH am_up
  by_cases e : q = 1
  · subst e
    rw [nb_ne (fun z => hr z.symm)]
    rfl
  · show (bif Nat.beq q 1 then xs j else (bif (Nat.beq q r && Nat.beq j k) then v else h q j)) = bif (Nat.beq q r && Nat.beq j k) then v else (bif Nat.beq q 1 then xs j else h q j)
    rw [nb_ne e]
    rfl
theorem upH_getf {c : aC} {ty : Nat} {xs : Nat → Int} {h : aH} {r k : Nat} (hr : r ≠ 1) : am_getf c ty (upH xs h) r k = am_getf c ty h r k := by
  unfold am_getf
  rw [upH_at hr]
theorem upS_z {N : Nat} {xs : Nat → Int} {sh : List aC} {h : aH} (k : K1 sh) : am_z (upS N sh, upH xs h) = upH xs (am_z (sh, h)) := by
  have l : sh.length ≠ 1 := by obtain ⟨c0, l, rfl⟩ := k; simp
  unfold am_z
  rw [upS_len k]
  funext q j
  unfold upH
  by_cases e : q = 1
  · subst e
    dsimp only
    rw [nb_ne (fun z => l z.symm)]
    rfl
  · dsimp only
    rw [nb_ne e]
    rfl
theorem upS_app {N : Nat} {sh l2 : List aC} (k : K1 sh) : upS N (sh ++ l2) = upS N sh ++ l2 := by
  obtain ⟨c0, l, rfl⟩ := k
  rfl
theorem K1_app {sh l2 : List aC} (k : K1 sh) : K1 (sh ++ l2) := by
  obtain ⟨c0, l, rfl⟩ := k
  exact ⟨c0, l ++ l2, rfl⟩
theorem upS_put {N r : Nat} {c : aC} {sh : List aC} (k : K1 sh) (hr : r ≠ 1) : upS N (am_put c sh r) = am_put c (upS N sh) r := by
  obtain ⟨c0, l, rfl⟩ := k
  rcases r with _ | _ | r
  · rfl
  · exact absurd rfl hr
  · rfl
theorem K1_put {r : Nat} {c : aC} {sh : List aC} (k : K1 sh) (hr : r ≠ 1) : K1 (am_put c sh r) := by
  obtain ⟨c0, l, rfl⟩ := k
  rcases r with _ | _ | r
  · exact ⟨c, l, rfl⟩
  · exact absurd rfl hr
  · exact ⟨c0, am_put c l r, rfl⟩
def okI3 : aI → Bool
  | .invokevirtual id => !(Nat.beq 0 (mNa (2000 + id)))
  | .invokespecial id => !(Nat.beq 0 (mNa (2000 + id)))
  | .invokeinterface 0 _ => true
  | .athrow => true
  | .nop => true
  | .goto _ => true
  | .iconst _ => true
  | .bipush _ => true
  | .getstatic _ => true
  | .iload _ => true
  | .lload _ => true
  | .aload _ => true
  | .iinc _ _ => true
  | .istore _ => true
  | .lstore _ => true
  | .i2l => true
  | .i2c => true
  | .ifCond _ _ => true
  | .dup => true
  | .pop => true
  | .if_icmp _ _ => true
  | .iand => true
  | .ishr => true
  | .fadd => true
  | .fsub => true
  | .dadd => true
  | .dmul => true
  | .ireturn => true
  | .freturn => true
  | .dreturn => true
  | .lreturn => true
  | .return_ => true
  | .getfield _ => true
  | .putfield _ => true
  | .arraylength => true
  | .baload => true
  | .iastore => true
  | .lastore => true
  | .aastore => true
  | .newarray _ => true
  | .anewarray _ => true
  | .new _ => true
  | .invokestatic _ => true
  | _ => false
section SIM
variable {X : Type} (R : X → Prop → Prop) {badX : X} {brX : (c : Prop) → Decidable c → X → X → X} {ckX : (c : Prop) → Decidable c → X → X} {N : Nat} {xs : Nat → Int}
theorem am_putf_sim (hbad : ∀ y, R badX y) (hck : ∀ c d c' x y, (c → c') → R x y → R (ckX c d x) (c' ∧ y)) {c : aC} {ty : Nat} {sh : List aC} {h : aH} {r kk : Nat} {v : aV} {nX : aS → X} {nY : aS → Prop} (k : K1 sh) (hr : r ≠ 1) (hn : ∀ sh h, K1 sh → R (nX (sh, h)) (nY (upS N sh, upH xs h))) : R (am_putf badX ckX c ty (sh, h) r kk v nX) (am_putf False ckP c ty (upS N sh, upH xs h) r kk v nY) := by
  rcases ty with _ | _ | _ | _ | ty
  · rcases v with v | v | v <;> (first | exact hbad _ | skip)
    show R (cond (Nat.blt kk c.2.2.length) (nX (am_put (c.1, c.2.1, am_put v c.2.2 kk) sh r, h)) badX) (cond (Nat.blt kk c.2.2.length) (nY (am_put (c.1, c.2.1, am_put v c.2.2 kk) (upS N sh) r, upH xs h)) False)
    cases Nat.blt kk c.2.2.length
    · exact hbad _
    · rw [← upS_put k hr]
      exact hn _ _ (K1_put k hr)
  all_goals
    have hn2 : ∀ v : Int, R (nX (sh, am_up h r kk v)) (nY (upS N sh, am_up (upH xs h) r kk v)) := fun v => by rw [← upH_up hr]; exact hn _ _ k
    rcases v with v | v | v <;> first | exact hbad _ | exact hn2 _ | exact hck _ _ _ _ _ id (hn2 _)
set_option maxHeartbeats 4000000 in
theorem am_1_sim {na : Nat → Nat} {lim : Nat × Nat} {callX : Nat → List aV → aS → (Option aV → aH → X) → X} {callY : Nat → List aV → aS → (Option aV → aH → Prop) → Prop} {spX : Nat → List aV → aS → (aS → X) → X} {spY : Nat → List aV → aS → (aS → Prop) → Prop} {retX : Option aV → aS → X} {retY : Option aV → aS → Prop} {cutX : Nat → aL → List aV → aS → X} {cutY : Nat → aL → List aV → aS → Prop} {nxtX : aL → List aV → aS → X} {nxtY : aL → List aV → aS → Prop} {jmpX : Nat → aL → List aV → aS → X} {jmpY : Nat → aL → List aV → aS → Prop} {sh : List aC} {h : aH} (k : K1 sh) (hna : ∀ id, (!(Nat.beq 0 (mNa (2000 + id)))) = true → Nat.beq 0 (na (2000 + id)) = false)
    (hbad : ∀ y, R badX y) (hbr : ∀ (c : Prop) (d : Decidable c) x x' (y y' : Prop), R x y → R x' y' → R (brX c d x x') ((c → y) ∧ (¬ c → y'))) (hck : ∀ (c : Prop) (d : Decidable c) (c' : Prop) x y, (c → c') → R x y → R (ckX c d x) (c' ∧ y))
    (hcall : ∀ id as sh h cX cY, K1 sh → (∀ v h, R (cX v h) (cY v (upH xs h))) → R (callX id as (sh, h) cX) (callY id as (upS N sh, upH xs h) cY)) (hsp : ∀ id as sh h cX cY, K1 sh → (∀ S : aS, K1 S.1 → R (cX S) (cY (upS N S.1, upH xs S.2))) → R (spX id as (sh, h) cX) (spY id as (upS N sh, upH xs h) cY))
    (hret : ∀ v sh h, K1 sh → R (retX v (sh, h)) (retY v (upS N sh, upH xs h))) (hcut : ∀ i a st sh h, K1 sh → R (cutX i a st (sh, h)) (cutY i a st (upS N sh, upH xs h)))
    (hnxt : ∀ a st sh h, K1 sh → R (nxtX a st (sh, h)) (nxtY a st (upS N sh, upH xs h))) (i : Nat) (hjmp : ∀ t a st sh h, K1 sh → R (jmpX t a st (sh, h)) (jmpY t a st (upS N sh, upH xs h)))
    (ins : aI) (hok : okI3 ins = true) (ls : aL) (st : List aV) :
    R (am_1 ftab na lim badX brX ckX callX spX retX cutX i ins ls st (sh, h) nxtX jmpX) (am_1 ftab na (lim.1, lim.2 + N) False brP ckP callY spY retY cutY i ins ls st (upS N sh, upH xs h) nxtY jmpY) := by
  cases ins
  case aaload => cases hok
  case aastore =>
    delta am_1; dsimp only
    rcases st with _ | ⟨v | v | v, _ | ⟨w | w | w, _ | ⟨u | u | u, st⟩⟩⟩ <;> (first | exact hbad _ | skip)
    dsimp only
    by_cases e : u = 1
    · subst e
      rw [K1_kd k]
      exact hbad _
    · rw [upS_kd k e, upS_nth k e]
      by_cases f : v = 1
      · subst f
        rw [K1_kd k]
        generalize am_kd sh u = kk
        split <;> (first | exact hbad _ | (split <;> first | exact hbad _ | (exfalso; simp_all)))
      · rw [upS_kd k f]
        generalize am_kd sh u = kk
        split
        · cases (!(Nat.beq (am_kd sh v) 19))
          · refine hck _ _ _ _ _ id (hck _ _ _ _ _ id ?_)
            rw [← upS_put k e]
            exact hnxt _ _ _ _ (K1_put k e)
          · exact hbad _
        · exact hbad _
  case aconst_null => exact hbad _
  case aload index =>
    delta am_1; dsimp only; rcases am_find index ls with _ | v | v | v <;> (first | exact hbad _ | (dsimp only; cases (Nat.beq v 0 || Nat.beq v 8) <;> (first | exact hbad _ | exact hnxt _ _ _ _ k | exact hck _ _ _ _ _ id (hnxt _ _ _ _ k) | exact hjmp _ _ _ _ _ k | exact hbr _ _ _ _ _ _ (hjmp _ _ _ _ _ k) (hnxt _ _ _ _ k) | exact hret _ _ _ k | exact hck _ _ _ _ _ id (hret _ _ _ k) | exact hcut _ _ _ _ _ k)))
  case aload_n => exact hbad _
  case anewarray =>
    delta am_1; dsimp only
    rcases st with _ | ⟨v | v | v, st⟩ <;> (first | exact hbad _ | skip)
    dsimp only
    rw [upS_len k, upS_sz k, upS_z k, ← upS_app k]
    exact hck _ _ _ _ _ (fun c => by omega) (hnxt _ _ _ _ (K1_app k))
  case areturn => exact hbad _
  case arraylength =>
    delta am_1; dsimp only
    rcases st with _ | ⟨v | v | v, st⟩ <;> (first | exact hbad _ | skip)
    dsimp only
    by_cases e : v = 1
    · subst e
      rw [K1_kd k]
      exact hbad _
    · rw [upS_kd k e, upS_nth k e]
      generalize am_kd sh v = kk
      split <;> (first | (first | exact hbad _ | exact hnxt _ _ _ _ k | exact hck _ _ _ _ _ id (hnxt _ _ _ _ k) | exact hjmp _ _ _ _ _ k | exact hbr _ _ _ _ _ _ (hjmp _ _ _ _ _ k) (hnxt _ _ _ _ k) | exact hret _ _ _ k | exact hck _ _ _ _ _ id (hret _ _ _ k) | exact hcut _ _ _ _ _ k) | (split <;> first | (first | exact hbad _ | exact hnxt _ _ _ _ k | exact hck _ _ _ _ _ id (hnxt _ _ _ _ k) | exact hjmp _ _ _ _ _ k | exact hbr _ _ _ _ _ _ (hjmp _ _ _ _ _ k) (hnxt _ _ _ _ k) | exact hret _ _ _ k | exact hck _ _ _ _ _ id (hret _ _ _ k) | exact hcut _ _ _ _ _ k) | (exfalso; simp_all)))
  case astore => cases hok
  case astore_n => exact hbad _
  case athrow =>
    exact hbad _
  case baload =>
    delta am_1; dsimp only
    rcases st with _ | ⟨v | v | v, _ | ⟨w | w | w, st⟩⟩ <;> (first | exact hbad _ | skip)
    dsimp only
    by_cases e : w = 1
    · subst e
      rw [K1_kd k]
      exact hbad _
    · rw [upS_kd k e, upS_nth k e]
      (try rw [upH_at e])
      generalize am_kd sh w = kk
      split <;> (first | (first | exact hbad _ | exact hnxt _ _ _ _ k | exact hck _ _ _ _ _ id (hnxt _ _ _ _ k) | exact hjmp _ _ _ _ _ k | exact hbr _ _ _ _ _ _ (hjmp _ _ _ _ _ k) (hnxt _ _ _ _ k) | exact hret _ _ _ k | exact hck _ _ _ _ _ id (hret _ _ _ k) | exact hcut _ _ _ _ _ k) | (split <;> first | (first | exact hbad _ | exact hnxt _ _ _ _ k | exact hck _ _ _ _ _ id (hnxt _ _ _ _ k) | exact hjmp _ _ _ _ _ k | exact hbr _ _ _ _ _ _ (hjmp _ _ _ _ _ k) (hnxt _ _ _ _ k) | exact hret _ _ _ k | exact hck _ _ _ _ _ id (hret _ _ _ k) | exact hcut _ _ _ _ _ k) | (exfalso; simp_all)))
  case bastore => cases hok
  case bipush byte =>
    delta am_1; dsimp only; (first | exact hbad _ | exact hnxt _ _ _ _ k | exact hck _ _ _ _ _ id (hnxt _ _ _ _ k) | exact hjmp _ _ _ _ _ k | exact hbr _ _ _ _ _ _ (hjmp _ _ _ _ _ k) (hnxt _ _ _ _ k) | exact hret _ _ _ k | exact hck _ _ _ _ _ id (hret _ _ _ k) | exact hcut _ _ _ _ _ k)
  case caload => exact hbad _
  case castore => exact hbad _
  case checkcast => exact hbad _
  case d2f => exact hbad _
  case d2i => exact hbad _
  case d2l => exact hbad _
  case dadd =>
    delta am_1; dsimp only; exact am_binLC_par R hbad (fun c d x y r => hck c d c x y id r) (fun _ => hnxt _ _ _ _ k) st
  case daload => exact hbad _
  case dastore => exact hbad _
  case dcmp => exact hbad _
  case dconst => exact hbad _
  case ddiv => exact hbad _
  case dload => exact hbad _
  case dload_n => exact hbad _
  case dmul =>
    delta am_1; dsimp only; exact am_binLC_par R hbad (fun c d x y r => hck c d c x y id r) (fun _ => hnxt _ _ _ _ k) st
  case dneg => exact hbad _
  case drem => exact hbad _
  case dreturn =>
    delta am_1; dsimp only; rcases st with _ | ⟨v | v | v, _ | ⟨w, st⟩⟩ <;> (first | exact hbad _ | exact hnxt _ _ _ _ k | exact hck _ _ _ _ _ id (hnxt _ _ _ _ k) | exact hjmp _ _ _ _ _ k | exact hbr _ _ _ _ _ _ (hjmp _ _ _ _ _ k) (hnxt _ _ _ _ k) | exact hret _ _ _ k | exact hck _ _ _ _ _ id (hret _ _ _ k) | exact hcut _ _ _ _ _ k)
  case dstore => exact hbad _
  case dstore_n => exact hbad _
  case dsub => cases hok
  case dup =>
    delta am_1; dsimp only; rcases st with _ | ⟨v | v | v, st⟩ <;> (first | exact hbad _ | exact hnxt _ _ _ _ k | exact hck _ _ _ _ _ id (hnxt _ _ _ _ k) | exact hjmp _ _ _ _ _ k | exact hbr _ _ _ _ _ _ (hjmp _ _ _ _ _ k) (hnxt _ _ _ _ k) | exact hret _ _ _ k | exact hck _ _ _ _ _ id (hret _ _ _ k) | exact hcut _ _ _ _ _ k)
  case dup_x1 => exact hbad _
  case dup_x2 => exact hbad _
  case dup2 => cases hok
  case dup2_x1 => exact hbad _
  case dup2_x2 => exact hbad _
  case f2d => exact hbad _
  case f2i => exact hbad _
  case f2l => exact hbad _
  case fadd =>
    delta am_1; dsimp only; exact am_binC_par R hbad (fun c d x y r => hck c d c x y id r) (fun _ => hnxt _ _ _ _ k) st
  case faload => exact hbad _
  case fastore => exact hbad _
  case fcmp => exact hbad _
  case fconst => exact hbad _
  case fdiv => exact hbad _
  case fload => exact hbad _
  case fload_n => exact hbad _
  case fmul => cases hok
  case fneg => exact hbad _
  case frem => exact hbad _
  case freturn =>
    delta am_1; dsimp only; rcases st with _ | ⟨v | v | v, _ | ⟨w, st⟩⟩ <;> (first | exact hbad _ | exact hnxt _ _ _ _ k | exact hck _ _ _ _ _ id (hnxt _ _ _ _ k) | exact hjmp _ _ _ _ _ k | exact hbr _ _ _ _ _ _ (hjmp _ _ _ _ _ k) (hnxt _ _ _ _ k) | exact hret _ _ _ k | exact hck _ _ _ _ _ id (hret _ _ _ k) | exact hcut _ _ _ _ _ k)
  case fstore => exact hbad _
  case fstore_n => exact hbad _
  case fsub =>
    delta am_1; dsimp only; exact am_binC_par R hbad (fun c d x y r => hck c d c x y id r) (fun _ => hnxt _ _ _ _ k) st
  case getfield index =>
    delta am_1; dsimp only
    rcases st with _ | ⟨v | v | v, st⟩ <;> (first | exact hbad _ | skip)
    dsimp only
    by_cases e : v = 1
    · subst e
      rw [K1_isO k]
      exact hbad _
    · rw [upS_isO k e, upS_nth k e]
      (try rw [upH_getf e])
      cases am_isO sh v _ <;> (first | exact hbad _ | exact hnxt _ _ _ _ k | exact hck _ _ _ _ _ id (hnxt _ _ _ _ k) | exact hjmp _ _ _ _ _ k | exact hbr _ _ _ _ _ _ (hjmp _ _ _ _ _ k) (hnxt _ _ _ _ k) | exact hret _ _ _ k | exact hck _ _ _ _ _ id (hret _ _ _ k) | exact hcut _ _ _ _ _ k)
  case getstatic index =>
    delta am_1; dsimp only; (first | exact hbad _ | exact hnxt _ _ _ _ k | exact hck _ _ _ _ _ id (hnxt _ _ _ _ k) | exact hjmp _ _ _ _ _ k | exact hbr _ _ _ _ _ _ (hjmp _ _ _ _ _ k) (hnxt _ _ _ _ k) | exact hret _ _ _ k | exact hck _ _ _ _ _ id (hret _ _ _ k) | exact hcut _ _ _ _ _ k)
  case goto offset =>
    delta am_1; dsimp only; (first | exact hbad _ | exact hnxt _ _ _ _ k | exact hck _ _ _ _ _ id (hnxt _ _ _ _ k) | exact hjmp _ _ _ _ _ k | exact hbr _ _ _ _ _ _ (hjmp _ _ _ _ _ k) (hnxt _ _ _ _ k) | exact hret _ _ _ k | exact hck _ _ _ _ _ id (hret _ _ _ k) | exact hcut _ _ _ _ _ k)
  case goto_w => exact hbad _
  case i2b => cases hok
  case i2c =>
    delta am_1; dsimp only; rcases st with _ | ⟨v | v | v, st⟩ <;> (first | exact hbad _ | exact hnxt _ _ _ _ k | exact hck _ _ _ _ _ id (hnxt _ _ _ _ k) | exact hjmp _ _ _ _ _ k | exact hbr _ _ _ _ _ _ (hjmp _ _ _ _ _ k) (hnxt _ _ _ _ k) | exact hret _ _ _ k | exact hck _ _ _ _ _ id (hret _ _ _ k) | exact hcut _ _ _ _ _ k)
  case i2d => exact hbad _
  case i2f => exact hbad _
  case i2l =>
    delta am_1; dsimp only; rcases st with _ | ⟨v | v | v, st⟩ <;> (first | exact hbad _ | exact hnxt _ _ _ _ k | exact hck _ _ _ _ _ id (hnxt _ _ _ _ k) | exact hjmp _ _ _ _ _ k | exact hbr _ _ _ _ _ _ (hjmp _ _ _ _ _ k) (hnxt _ _ _ _ k) | exact hret _ _ _ k | exact hck _ _ _ _ _ id (hret _ _ _ k) | exact hcut _ _ _ _ _ k)
  case i2s => exact hbad _
  case iadd => cases hok
  case iaload => cases hok
  case iand =>
    delta am_1; dsimp only; exact am_bin_par R hbad (fun _ => hnxt _ _ _ _ k) st
  case iastore =>
    delta am_1; dsimp only
    rcases st with _ | ⟨v | v | v, _ | ⟨w | w | w, _ | ⟨u | u | u, st⟩⟩⟩ <;> (first | exact hbad _ | skip)
    dsimp only
    by_cases e : u = 1
    · subst e
      rw [K1_kd k]
      exact hbad _
    · rw [upS_kd k e, upS_nth k e]
      (try rw [← upH_up e])
      generalize am_kd sh u = kk
      split <;> (first | (first | exact hbad _ | exact hnxt _ _ _ _ k | exact hck _ _ _ _ _ id (hnxt _ _ _ _ k) | exact hjmp _ _ _ _ _ k | exact hbr _ _ _ _ _ _ (hjmp _ _ _ _ _ k) (hnxt _ _ _ _ k) | exact hret _ _ _ k | exact hck _ _ _ _ _ id (hret _ _ _ k) | exact hcut _ _ _ _ _ k) | (split <;> first | (first | exact hbad _ | exact hnxt _ _ _ _ k | exact hck _ _ _ _ _ id (hnxt _ _ _ _ k) | exact hjmp _ _ _ _ _ k | exact hbr _ _ _ _ _ _ (hjmp _ _ _ _ _ k) (hnxt _ _ _ _ k) | exact hret _ _ _ k | exact hck _ _ _ _ _ id (hret _ _ _ k) | exact hcut _ _ _ _ _ k) | (exfalso; simp_all)))
  case iconst i =>
    delta am_1; dsimp only; (first | exact hbad _ | exact hnxt _ _ _ _ k | exact hck _ _ _ _ _ id (hnxt _ _ _ _ k) | exact hjmp _ _ _ _ _ k | exact hbr _ _ _ _ _ _ (hjmp _ _ _ _ _ k) (hnxt _ _ _ _ k) | exact hret _ _ _ k | exact hck _ _ _ _ _ id (hret _ _ _ k) | exact hcut _ _ _ _ _ k)
  case idiv => cases hok
  case if_acmp => exact hbad _
  case if_icmp cond offset =>
    delta am_1; dsimp only; rcases st with _ | ⟨v | v | v, _ | ⟨w | w | w, st⟩⟩ <;> (first | exact hbad _ | exact hnxt _ _ _ _ k | exact hck _ _ _ _ _ id (hnxt _ _ _ _ k) | exact hjmp _ _ _ _ _ k | exact hbr _ _ _ _ _ _ (hjmp _ _ _ _ _ k) (hnxt _ _ _ _ k) | exact hret _ _ _ k | exact hck _ _ _ _ _ id (hret _ _ _ k) | exact hcut _ _ _ _ _ k)
  case ifCond cond offset =>
    delta am_1; dsimp only; rcases st with _ | ⟨v | v | v, st⟩ <;> (first | exact hbad _ | exact hnxt _ _ _ _ k | exact hck _ _ _ _ _ id (hnxt _ _ _ _ k) | exact hjmp _ _ _ _ _ k | exact hbr _ _ _ _ _ _ (hjmp _ _ _ _ _ k) (hnxt _ _ _ _ k) | exact hret _ _ _ k | exact hck _ _ _ _ _ id (hret _ _ _ k) | exact hcut _ _ _ _ _ k)
  case ifnonnull => exact hbad _
  case ifnull => exact hbad _
  case iinc index const =>
    delta am_1; dsimp only; rcases am_find index ls with _ | v | v | v <;> (first | exact hbad _ | exact hnxt _ _ _ _ k | exact hck _ _ _ _ _ id (hnxt _ _ _ _ k) | exact hjmp _ _ _ _ _ k | exact hbr _ _ _ _ _ _ (hjmp _ _ _ _ _ k) (hnxt _ _ _ _ k) | exact hret _ _ _ k | exact hck _ _ _ _ _ id (hret _ _ _ k) | exact hcut _ _ _ _ _ k)
  case iload index =>
    delta am_1; dsimp only; rcases am_find index ls with _ | v | v | v <;> (first | exact hbad _ | exact hnxt _ _ _ _ k | exact hck _ _ _ _ _ id (hnxt _ _ _ _ k) | exact hjmp _ _ _ _ _ k | exact hbr _ _ _ _ _ _ (hjmp _ _ _ _ _ k) (hnxt _ _ _ _ k) | exact hret _ _ _ k | exact hck _ _ _ _ _ id (hret _ _ _ k) | exact hcut _ _ _ _ _ k)
  case iload_n => exact hbad _
  case imul => cases hok
  case ineg => cases hok
  case instanceof => exact hbad _
  case invokedynamic => exact hbad _
  case invokeinterface index count =>
    delta am_1; dsimp only
    rcases index with _ | index
    · rcases st with _ | ⟨v | v | v, st⟩ <;> (first | exact hbad _ | (dsimp only; cases (Nat.beq v 0 || Nat.beq v 8 || Nat.blt 8 (am_cat st)) <;> (first | exact hbad _ | exact hnxt _ _ _ _ k | exact hck _ _ _ _ _ id (hnxt _ _ _ _ k) | exact hjmp _ _ _ _ _ k | exact hbr _ _ _ _ _ _ (hjmp _ _ _ _ _ k) (hnxt _ _ _ _ k) | exact hret _ _ _ k | exact hck _ _ _ _ _ id (hret _ _ _ k) | exact hcut _ _ _ _ _ k)))
    · cases hok
  case invokespecial index =>
    delta am_1; dsimp only
    rcases am_pop (na index) [] st with _ | ⟨_ | ⟨v | v | v, as⟩, st⟩ <;> (first | exact hbad _ | skip)
    dsimp only
    by_cases e : v = 1
    · subst e
      rw [K1_kd k, show Nat.beq 0 (na (2000 + index)) = false from hna _ hok]
      exact hbad _
    · rw [upS_kd k e]
      cases (Nat.beq (am_kd sh v) (na (2000 + index)) && Nat.ble (am_cat st) 8)
      · exact hbad _
      · exact hsp _ _ _ _ _ _ k (fun S k => hnxt _ _ S.1 S.2 k)
  case invokestatic index =>
    delta am_1; dsimp only
    rcases am_pop (na index) [] st with _ | ⟨as, st⟩ <;> (first | exact hbad _ | skip)
    dsimp only
    cases (Nat.ble (am_cat st) 8)
    · exact hbad _
    · exact hcall _ _ _ _ _ _ k (fun _ _ => hnxt _ _ _ _ k)
  case invokevirtual index =>
    delta am_1; dsimp only
    rcases am_pop (na index) [] st with _ | ⟨_ | ⟨v | v | v, as⟩, st⟩ <;> (first | exact hbad _ | skip)
    dsimp only
    by_cases e : v = 1
    · subst e
      rw [K1_kd k, show Nat.beq 0 (na (2000 + index)) = false from hna _ hok]
      exact hbad _
    · rw [upS_kd k e]
      cases (Nat.beq (am_kd sh v) (na (2000 + index)) && Nat.ble (am_cat st) 8)
      · exact hbad _
      · exact hcall _ _ _ _ _ _ k (fun _ _ => hnxt _ _ _ _ k)
  case ior => cases hok
  case irem => cases hok
  case ireturn =>
    delta am_1; dsimp only; rcases st with _ | ⟨v | v | v, _ | ⟨w, st⟩⟩ <;> (first | exact hbad _ | exact hnxt _ _ _ _ k | exact hck _ _ _ _ _ id (hnxt _ _ _ _ k) | exact hjmp _ _ _ _ _ k | exact hbr _ _ _ _ _ _ (hjmp _ _ _ _ _ k) (hnxt _ _ _ _ k) | exact hret _ _ _ k | exact hck _ _ _ _ _ id (hret _ _ _ k) | exact hcut _ _ _ _ _ k)
  case ishl => cases hok
  case ishr =>
    delta am_1; dsimp only; exact am_bin_par R hbad (fun _ => hnxt _ _ _ _ k) st
  case istore index =>
    delta am_1; dsimp only; rcases st with _ | ⟨v | v | v, st⟩ <;> (first | exact hbad _ | exact hnxt _ _ _ _ k | exact hck _ _ _ _ _ id (hnxt _ _ _ _ k) | exact hjmp _ _ _ _ _ k | exact hbr _ _ _ _ _ _ (hjmp _ _ _ _ _ k) (hnxt _ _ _ _ k) | exact hret _ _ _ k | exact hck _ _ _ _ _ id (hret _ _ _ k) | exact hcut _ _ _ _ _ k)
  case istore_n => exact hbad _
  case isub => cases hok
  case iushr => cases hok
  case ixor => cases hok
  case jsr => exact hbad _
  case jsr_w => exact hbad _
  case l2d => exact hbad _
  case l2f => exact hbad _
  case l2i => cases hok
  case ladd => cases hok
  case laload => cases hok
  case land => cases hok
  case lastore =>
    delta am_1; dsimp only
    rcases st with _ | ⟨v | v | v, _ | ⟨w | w | w, _ | ⟨u | u | u, st⟩⟩⟩ <;> (first | exact hbad _ | skip)
    dsimp only
    by_cases e : u = 1
    · subst e
      rw [K1_kd k]
      exact hbad _
    · rw [upS_kd k e, upS_nth k e]
      (try rw [← upH_up e])
      generalize am_kd sh u = kk
      split <;> (first | (first | exact hbad _ | exact hnxt _ _ _ _ k | exact hck _ _ _ _ _ id (hnxt _ _ _ _ k) | exact hjmp _ _ _ _ _ k | exact hbr _ _ _ _ _ _ (hjmp _ _ _ _ _ k) (hnxt _ _ _ _ k) | exact hret _ _ _ k | exact hck _ _ _ _ _ id (hret _ _ _ k) | exact hcut _ _ _ _ _ k) | (split <;> first | (first | exact hbad _ | exact hnxt _ _ _ _ k | exact hck _ _ _ _ _ id (hnxt _ _ _ _ k) | exact hjmp _ _ _ _ _ k | exact hbr _ _ _ _ _ _ (hjmp _ _ _ _ _ k) (hnxt _ _ _ _ k) | exact hret _ _ _ k | exact hck _ _ _ _ _ id (hret _ _ _ k) | exact hcut _ _ _ _ _ k) | (exfalso; simp_all)))
  case lcmp => cases hok
  case lconst => exact hbad _
  case ldc => exact hbad _
  case ldc_w => exact hbad _
  case ldc2_w => exact hbad _
  case ldiv => cases hok
  case lload index =>
    delta am_1; dsimp only; rcases am_find index ls with _ | v | v | v <;> (first | exact hbad _ | exact hnxt _ _ _ _ k | exact hck _ _ _ _ _ id (hnxt _ _ _ _ k) | exact hjmp _ _ _ _ _ k | exact hbr _ _ _ _ _ _ (hjmp _ _ _ _ _ k) (hnxt _ _ _ _ k) | exact hret _ _ _ k | exact hck _ _ _ _ _ id (hret _ _ _ k) | exact hcut _ _ _ _ _ k)
  case lload_n => exact hbad _
  case lmul => cases hok
  case lneg => exact hbad _
  case lookupswitch => exact hbad _
  case lor => exact hbad _
  case lrem => exact hbad _
  case lreturn =>
    delta am_1; dsimp only; rcases st with _ | ⟨v | v | v, _ | ⟨w, st⟩⟩ <;> (first | exact hbad _ | exact hnxt _ _ _ _ k | exact hck _ _ _ _ _ id (hnxt _ _ _ _ k) | exact hjmp _ _ _ _ _ k | exact hbr _ _ _ _ _ _ (hjmp _ _ _ _ _ k) (hnxt _ _ _ _ k) | exact hret _ _ _ k | exact hck _ _ _ _ _ id (hret _ _ _ k) | exact hcut _ _ _ _ _ k)
  case lshl => cases hok
  case lshr => cases hok
  case lstore index =>
    delta am_1; dsimp only; rcases st with _ | ⟨v | v | v, st⟩ <;> (first | exact hbad _ | exact hnxt _ _ _ _ k | exact hck _ _ _ _ _ id (hnxt _ _ _ _ k) | exact hjmp _ _ _ _ _ k | exact hbr _ _ _ _ _ _ (hjmp _ _ _ _ _ k) (hnxt _ _ _ _ k) | exact hret _ _ _ k | exact hck _ _ _ _ _ id (hret _ _ _ k) | exact hcut _ _ _ _ _ k)
  case lstore_n => exact hbad _
  case lsub => cases hok
  case lushr => cases hok
  case lxor => cases hok
  case monitorenter => exact hbad _
  case monitorexit => exact hbad _
  case multianewarray => exact hbad _
  case new =>
    delta am_1; dsimp only
    rw [upS_len k, upS_sz k, upS_z k, ← upS_app k]
    exact hck _ _ _ _ _ (fun c => by omega) (hnxt _ _ _ _ (K1_app k))
  case newarray =>
    delta am_1; dsimp only
    rcases st with _ | ⟨v | v | v, st⟩ <;> (first | exact hbad _ | skip)
    dsimp only
    rw [upS_len k, upS_sz k, upS_z k, ← upS_app k]
    exact hck _ _ _ _ _ (fun c => by omega) (hnxt _ _ _ _ (K1_app k))
  case nop =>
    delta am_1; dsimp only; (first | exact hbad _ | exact hnxt _ _ _ _ k | exact hck _ _ _ _ _ id (hnxt _ _ _ _ k) | exact hjmp _ _ _ _ _ k | exact hbr _ _ _ _ _ _ (hjmp _ _ _ _ _ k) (hnxt _ _ _ _ k) | exact hret _ _ _ k | exact hck _ _ _ _ _ id (hret _ _ _ k) | exact hcut _ _ _ _ _ k)
  case pop =>
    delta am_1; dsimp only; rcases st with _ | ⟨v | v | v, st⟩ <;> (first | exact hbad _ | exact hnxt _ _ _ _ k | exact hck _ _ _ _ _ id (hnxt _ _ _ _ k) | exact hjmp _ _ _ _ _ k | exact hbr _ _ _ _ _ _ (hjmp _ _ _ _ _ k) (hnxt _ _ _ _ k) | exact hret _ _ _ k | exact hck _ _ _ _ _ id (hret _ _ _ k) | exact hcut _ _ _ _ _ k)
  case pop2 => cases hok
  case putfield index =>
    delta am_1; dsimp only
    rcases st with _ | ⟨v, _ | ⟨w | w | w, st⟩⟩ <;> (first | exact hbad _ | skip)
    dsimp only
    by_cases e : w = 1
    · subst e
      rw [K1_isO k]
      exact hbad _
    · rw [upS_isO k e, upS_nth k e]
      cases (am_isO sh w _ && Nat.ble 9 w)
      · exact hbad _
      · exact am_putf_sim R hbad hck k e (fun sh h k => hnxt _ _ _ _ k)
  case putstatic => exact hbad _
  case ret => exact hbad _
  case return_ =>
    delta am_1; dsimp only; rcases st with _ | ⟨v | v | v, _ | ⟨w, st⟩⟩ <;> (first | exact hbad _ | exact hnxt _ _ _ _ k | exact hck _ _ _ _ _ id (hnxt _ _ _ _ k) | exact hjmp _ _ _ _ _ k | exact hbr _ _ _ _ _ _ (hjmp _ _ _ _ _ k) (hnxt _ _ _ _ k) | exact hret _ _ _ k | exact hck _ _ _ _ _ id (hret _ _ _ k) | exact hcut _ _ _ _ _ k)
  case saload => exact hbad _
  case sastore => exact hbad _
  case sipush => exact hbad _
  case swap => exact hbad _
  case tableswitch => cases hok
theorem okI3_drop {code : List aI} (t : Nat) (h : code.all okI3 = true) : (code.drop t).all okI3 = true := by
  rw [List.all_eq_true] at h ⊢
  exact fun x hx => h x (List.mem_of_mem_drop hx)
theorem am_x_sim {na : Nat → Nat} {lim : Nat × Nat} {callX : Nat → List aV → aS → (Option aV → aH → X) → X} {callY : Nat → List aV → aS → (Option aV → aH → Prop) → Prop} {spX : Nat → List aV → aS → (aS → X) → X} {spY : Nat → List aV → aS → (aS → Prop) → Prop} {retX : Option aV → aS → X} {retY : Option aV → aS → Prop} {cutX : Nat → aL → List aV → aS → X} {cutY : Nat → aL → List aV → aS → Prop} (hna : ∀ id, (!(Nat.beq 0 (mNa (2000 + id)))) = true → Nat.beq 0 (na (2000 + id)) = false)
    (hbad : ∀ y, R badX y) (hbr : ∀ (c : Prop) (d : Decidable c) x x' (y y' : Prop), R x y → R x' y' → R (brX c d x x') ((c → y) ∧ (¬ c → y'))) (hck : ∀ (c : Prop) (d : Decidable c) (c' : Prop) x y, (c → c') → R x y → R (ckX c d x) (c' ∧ y))
    (hcall : ∀ id as sh h cX cY, K1 sh → (∀ v h, R (cX v h) (cY v (upH xs h))) → R (callX id as (sh, h) cX) (callY id as (upS N sh, upH xs h) cY)) (hsp : ∀ id as sh h cX cY, K1 sh → (∀ S : aS, K1 S.1 → R (cX S) (cY (upS N S.1, upH xs S.2))) → R (spX id as (sh, h) cX) (spY id as (upS N sh, upH xs h) cY))
    (hret : ∀ v sh h, K1 sh → R (retX v (sh, h)) (retY v (upS N sh, upH xs h))) (hcut : ∀ i a st sh h, K1 sh → R (cutX i a st (sh, h)) (cutY i a st (upS N sh, upH xs h)))
    {code : List aI} (hcode : code.all okI3 = true) : ∀ (f i : Nat) (rest : List aI) (ls : aL) (st : List aV) (sh : List aC) (h : aH), K1 sh → rest.all okI3 = true →
    R (am_x ftab na lim badX brX ckX callX spX retX cutX code f i rest ls st (sh, h)) (am_x ftab na (lim.1, lim.2 + N) False brP ckP callY spY retY cutY code f i rest ls st (upS N sh, upH xs h)) := by
  intro f
  induction f with
  | zero => intro i rest ls st sh h _ _; exact hbad _
  | succ f ih =>
    intro i rest ls st sh h k hr
    rcases rest with _ | ⟨ins, rest⟩
    · exact hbad _
    · rw [List.all_cons, Bool.and_eq_true_iff] at hr
      refine am_1_sim R k hna hbad hbr hck hcall hsp hret hcut (fun a st sh h k => ih (i + 1) rest a st sh h k hr.2) i (fun t a st sh h k => ?_) ins hr.1 ls st
      show R (bif Nat.ble t i then _ else _) (bif Nat.ble t i then _ else _)
      cases hb : Nat.ble t i with
      | true => exact hcut _ _ _ _ _ k
      | false => exact ih t (code.drop t) a st sh h k (okI3_drop t hcode)
end SIM
