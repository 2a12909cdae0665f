/-! TWO READINGS OF A STRETCH SIDE BY SIDE (where the shape stays) -/
def okI : aI → Bool
  | .new _ => false
  | .newarray _ => false
  | .anewarray _ => false
  | .aastore => false
  | .invokespecial _ => false
  | .putfield n => !(Nat.beq (ftab (n / 100) (n % 100)) 0)
  | _ => true
section PAR
variable {X Y : Type} (R : X → Y → Prop) {badX : X} {badY : Y} {brX : (c : Prop) → Decidable c → X → X → X} {brY : (c : Prop) → Decidable c → Y → Y → Y} {ckX : (c : Prop) → Decidable c → X → X} {ckY : (c : Prop) → Decidable c → Y → Y}
theorem am_bin_par (hbad : R badX badY) {f : Int → Int → Int} {nX : List aV → X} {nY : List aV → Y} (h : ∀ st, R (nX st) (nY st)) (st : List aV) : R (am_bin badX f nX st) (am_bin badY f nY st) := by
  rcases st with _ | ⟨v | v | v, _ | ⟨w | w | w, st⟩⟩ <;> first | exact hbad | exact h _
theorem am_binL_par (hbad : R badX badY) {f : Int → Int → Int} {nX : List aV → X} {nY : List aV → Y} (h : ∀ st, R (nX st) (nY st)) (st : List aV) : R (am_binL badX f nX st) (am_binL badY f nY st) := by
  rcases st with _ | ⟨v | v | v, _ | ⟨w | w | w, st⟩⟩ <;> first | exact hbad | exact h _
theorem am_binC_par (hbad : R badX badY) (hck : ∀ c d x y, R x y → R (ckX c d x) (ckY c d y)) {f : Int → Int → Int} {nX : List aV → X} {nY : List aV → Y} (h : ∀ st, R (nX st) (nY st)) (st : List aV) : R (am_binC badX ckX f nX st) (am_binC badY ckY f nY st) := by
  rcases st with _ | ⟨v | v | v, _ | ⟨w | w | w, st⟩⟩ <;> first | exact hbad | exact hck _ _ _ _ (h _)
theorem am_binLC_par (hbad : R badX badY) (hck : ∀ c d x y, R x y → R (ckX c d x) (ckY c d y)) {f : Int → Int → Int} {nX : List aV → X} {nY : List aV → Y} (h : ∀ st, R (nX st) (nY st)) (st : List aV) : R (am_binLC badX ckX f nX st) (am_binLC badY ckY f nY st) := by
  rcases st with _ | ⟨v | v | v, _ | ⟨w | w | w, st⟩⟩ <;> first | exact hbad | exact hck _ _ _ _ (h _)
theorem am_sw_par (hbad : R badX badY) (hbr : ∀ c d x x' y y', R x y → R x' y' → R (brX c d x x') (brY c d y y')) {jX : Nat → X} {jY : Nat → Y} (h : ∀ t, R (jX t) (jY t)) (v : Int) : ∀ (a : Int) (l : List Int), R (am_sw badX brX jX v a l) (am_sw badY brY jY v a l)
  | _, [] => hbad
  | a, t :: l => hbr _ _ _ _ _ _ (h _) (am_sw_par hbad hbr h v (a + 1) l)
theorem am_aal_par (hbad : R badX badY) (hbr : ∀ c d x x' y y', R x y → R x' y' → R (brX c d x x') (brY c d y y')) {i : Int} {nX : Nat → X} {nY : Nat → Y} (h : ∀ t, R (nX t) (nY t)) : ∀ (a : Int) (l : List Nat), R (am_aal badX brX i nX a l) (am_aal badY brY i nY a l)
  | _, [] => hbad
  | a, q :: l => hbr _ _ _ _ _ _ (h _) (am_aal_par hbad hbr h (a + 1) l)
theorem am_putf_par (hbad : R badX badY) (hck : ∀ c d x y, R x y → R (ckX c d x) (ckY c d y)) {c : aC} {ty : Nat} {sh : List aC} {h : aH} {r k : Nat} {v : aV} {nX : aS → X} {nY : aS → Y} (hn : ∀ h, R (nX (sh, h)) (nY (sh, h))) (hok : (!(Nat.beq ty 0)) = true) : R (am_putf badX ckX c ty (sh, h) r k v nX) (am_putf badY ckY c ty (sh, h) r k v nY) := by
  rcases ty with _ | _ | _ | _ | ty
  · cases hok
  all_goals rcases v with v | v | v <;> first | exact hbad | exact hn _ | exact hck _ _ _ _ (hn _)
set_option maxHeartbeats 4000000 in
theorem am_1_par {na : Nat → Nat} {limX limY : Nat × Nat} {callX : Nat → List aV → aS → (Option aV → aH → X) → X} {callY : Nat → List aV → aS → (Option aV → aH → Y) → Y} {spX : Nat → List aV → aS → (aS → X) → X} {spY : Nat → List aV → aS → (aS → Y) → Y} {retX : Option aV → aS → X} {retY : Option aV → aS → Y} {cutX : Nat → aL → List aV → aS → X} {cutY : Nat → aL → List aV → aS → Y} {nxtX : aL → List aV → aS → X} {nxtY : aL → List aV → aS → Y} {jmpX : Nat → aL → List aV → aS → X} {jmpY : Nat → aL → List aV → aS → Y} {sh : List aC}
    (hbad : R badX badY) (hbr : ∀ c d x x' y y', R x y → R x' y' → R (brX c d x x') (brY c d y y')) (hck : ∀ c d x y, R x y → R (ckX c d x) (ckY c d y))
    (hcall : ∀ id as h cX cY, (∀ v h, R (cX v h) (cY v h)) → R (callX id as (sh, h) cX) (callY id as (sh, h) cY)) (hret : ∀ v h, R (retX v (sh, h)) (retY v (sh, h))) (hcut : ∀ i ls st h, R (cutX i ls st (sh, h)) (cutY i ls st (sh, h)))
    (hnxt : ∀ ls st h, R (nxtX ls st (sh, h)) (nxtY ls st (sh, h))) (i : Nat) (hjmp : ∀ t ls st h, R (jmpX t ls st (sh, h)) (jmpY t ls st (sh, h)))
    (ins : aI) (hok : okI ins = true) (ls : aL) (st : List aV) (h : aH) :
    R (am_1 ftab na limX badX brX ckX callX spX retX cutX i ins ls st (sh, h) nxtX jmpX) (am_1 ftab na limY badY brY ckY callY spY retY cutY i ins ls st (sh, h) nxtY jmpY) := by
  cases ins
  case aaload => delta am_1; dsimp only; rcases st with _ | ⟨v | v | v, _ | ⟨w | w | w, st⟩⟩ <;> (first | exact hbad | (generalize am_kd sh _ = kk; split <;> (first | exact hbad | exact hck _ _ _ _ (am_aal_par R hbad hbr (fun _ => hnxt _ _ _) _ _) | (split <;> first | exact hbad | exact hck _ _ _ _ (am_aal_par R hbad hbr (fun _ => hnxt _ _ _) _ _) | (exfalso; simp_all)))))
  case aastore => cases hok
  case aconst_null => exact hbad
  case aload index => delta am_1; dsimp only; rcases am_find index ls with _ | v | v | v <;> (first | exact hbad | (cases (Nat.beq v 0 || Nat.beq v 8) <;> (first | exact hbad | exact hnxt _ _ _ | exact hck _ _ _ _ (hnxt _ _ _) | exact hck _ _ _ _ (hck _ _ _ _ (hnxt _ _ _)) | exact hjmp _ _ _ _ | exact hbr _ _ _ _ _ _ (hjmp _ _ _ _) (hnxt _ _ _) | exact hret _ _ | exact hck _ _ _ _ (hret _ _) | exact hcut _ _ _ _)))
  case aload_n => exact hbad
  case anewarray => cases hok
  case areturn => exact hbad
  case arraylength => delta am_1; dsimp only; rcases st with _ | ⟨v | v | v, st⟩ <;> (first | exact hbad | (generalize am_kd sh _ = kk; split <;> (first | (first | exact hbad | exact hnxt _ _ _ | exact hck _ _ _ _ (hnxt _ _ _) | exact hck _ _ _ _ (hck _ _ _ _ (hnxt _ _ _)) | exact hjmp _ _ _ _ | exact hbr _ _ _ _ _ _ (hjmp _ _ _ _) (hnxt _ _ _) | exact hret _ _ | exact hck _ _ _ _ (hret _ _) | exact hcut _ _ _ _) | (split <;> first | (first | exact hbad | exact hnxt _ _ _ | exact hck _ _ _ _ (hnxt _ _ _) | exact hck _ _ _ _ (hck _ _ _ _ (hnxt _ _ _)) | exact hjmp _ _ _ _ | exact hbr _ _ _ _ _ _ (hjmp _ _ _ _) (hnxt _ _ _) | exact hret _ _ | exact hck _ _ _ _ (hret _ _) | exact hcut _ _ _ _) | (exfalso; simp_all)))))
  case astore index => delta am_1; dsimp only; rcases st with _ | ⟨v | v | v, st⟩ <;> (first | exact hbad | (cases (Nat.beq v 0 || Nat.beq v 8) <;> (first | exact hbad | exact hnxt _ _ _ | exact hck _ _ _ _ (hnxt _ _ _) | exact hck _ _ _ _ (hck _ _ _ _ (hnxt _ _ _)) | exact hjmp _ _ _ _ | exact hbr _ _ _ _ _ _ (hjmp _ _ _ _) (hnxt _ _ _) | exact hret _ _ | exact hck _ _ _ _ (hret _ _) | exact hcut _ _ _ _)))
  case astore_n => exact hbad
  case athrow => exact hbad
  case baload => delta am_1; dsimp only; rcases st with _ | ⟨v | v | v, _ | ⟨w | w | w, st⟩⟩ <;> (first | exact hbad | (generalize am_kd sh _ = kk; split <;> (first | (first | exact hbad | exact hnxt _ _ _ | exact hck _ _ _ _ (hnxt _ _ _) | exact hck _ _ _ _ (hck _ _ _ _ (hnxt _ _ _)) | exact hjmp _ _ _ _ | exact hbr _ _ _ _ _ _ (hjmp _ _ _ _) (hnxt _ _ _) | exact hret _ _ | exact hck _ _ _ _ (hret _ _) | exact hcut _ _ _ _) | (split <;> first | (first | exact hbad | exact hnxt _ _ _ | exact hck _ _ _ _ (hnxt _ _ _) | exact hck _ _ _ _ (hck _ _ _ _ (hnxt _ _ _)) | exact hjmp _ _ _ _ | exact hbr _ _ _ _ _ _ (hjmp _ _ _ _) (hnxt _ _ _) | exact hret _ _ | exact hck _ _ _ _ (hret _ _) | exact hcut _ _ _ _) | (exfalso; simp_all)))))
  case bastore => delta am_1; dsimp only; rcases st with _ | ⟨v | v | v, _ | ⟨w | w | w, _ | ⟨u | u | u, st⟩⟩⟩ <;> (first | exact hbad | (generalize am_kd sh _ = kk; split <;> (first | (first | exact hbad | exact hnxt _ _ _ | exact hck _ _ _ _ (hnxt _ _ _) | exact hck _ _ _ _ (hck _ _ _ _ (hnxt _ _ _)) | exact hjmp _ _ _ _ | exact hbr _ _ _ _ _ _ (hjmp _ _ _ _) (hnxt _ _ _) | exact hret _ _ | exact hck _ _ _ _ (hret _ _) | exact hcut _ _ _ _) | (split <;> first | (first | exact hbad | exact hnxt _ _ _ | exact hck _ _ _ _ (hnxt _ _ _) | exact hck _ _ _ _ (hck _ _ _ _ (hnxt _ _ _)) | exact hjmp _ _ _ _ | exact hbr _ _ _ _ _ _ (hjmp _ _ _ _) (hnxt _ _ _) | exact hret _ _ | exact hck _ _ _ _ (hret _ _) | exact hcut _ _ _ _) | (exfalso; simp_all)))))
  case bipush byte => delta am_1; dsimp only; (first | exact hbad | exact hnxt _ _ _ | exact hck _ _ _ _ (hnxt _ _ _) | exact hck _ _ _ _ (hck _ _ _ _ (hnxt _ _ _)) | exact hjmp _ _ _ _ | exact hbr _ _ _ _ _ _ (hjmp _ _ _ _) (hnxt _ _ _) | exact hret _ _ | exact hck _ _ _ _ (hret _ _) | exact hcut _ _ _ _)
  case caload => exact hbad
  case castore => exact hbad
  case checkcast => exact hbad
  case d2f => exact hbad
  case d2i => exact hbad
  case d2l => exact hbad
  case dadd => delta am_1; dsimp only; exact am_binLC_par R hbad hck (fun _ => hnxt _ _ _) st
  case daload => exact hbad
  case dastore => exact hbad
  case dcmp => exact hbad
  case dconst => exact hbad
  case ddiv => exact hbad
  case dload => exact hbad
  case dload_n => exact hbad
  case dmul => delta am_1; dsimp only; exact am_binLC_par R hbad hck (fun _ => hnxt _ _ _) st
  case dneg => exact hbad
  case drem => exact hbad
  case dreturn => delta am_1; dsimp only; rcases st with _ | ⟨v | v | v, _ | ⟨w, st⟩⟩ <;> (first | exact hbad | exact hnxt _ _ _ | exact hck _ _ _ _ (hnxt _ _ _) | exact hck _ _ _ _ (hck _ _ _ _ (hnxt _ _ _)) | exact hjmp _ _ _ _ | exact hbr _ _ _ _ _ _ (hjmp _ _ _ _) (hnxt _ _ _) | exact hret _ _ | exact hck _ _ _ _ (hret _ _) | exact hcut _ _ _ _)
  case dstore => exact hbad
  case dstore_n => exact hbad
  case dsub => delta am_1; dsimp only; exact am_binLC_par R hbad hck (fun _ => hnxt _ _ _) st
  case dup => delta am_1; dsimp only; rcases st with _ | ⟨v | v | v, st⟩ <;> (first | exact hbad | exact hnxt _ _ _ | exact hck _ _ _ _ (hnxt _ _ _) | exact hck _ _ _ _ (hck _ _ _ _ (hnxt _ _ _)) | exact hjmp _ _ _ _ | exact hbr _ _ _ _ _ _ (hjmp _ _ _ _) (hnxt _ _ _) | exact hret _ _ | exact hck _ _ _ _ (hret _ _) | exact hcut _ _ _ _)
  case dup_x1 => exact hbad
  case dup_x2 => exact hbad
  case dup2 => delta am_1; dsimp only; rcases st with _ | ⟨v | v | v, _ | ⟨w | w | w, st⟩⟩ <;> (first | exact hbad | exact hnxt _ _ _ | exact hck _ _ _ _ (hnxt _ _ _) | exact hck _ _ _ _ (hck _ _ _ _ (hnxt _ _ _)) | exact hjmp _ _ _ _ | exact hbr _ _ _ _ _ _ (hjmp _ _ _ _) (hnxt _ _ _) | exact hret _ _ | exact hck _ _ _ _ (hret _ _) | exact hcut _ _ _ _)
  case dup2_x1 => exact hbad
  case dup2_x2 => exact hbad
  case f2d => exact hbad
  case f2i => exact hbad
  case f2l => exact hbad
  case fadd => delta am_1; dsimp only; exact am_binC_par R hbad hck (fun _ => hnxt _ _ _) st
  case faload => exact hbad
  case fastore => exact hbad
  case fcmp => exact hbad
  case fconst => exact hbad
  case fdiv => exact hbad
  case fload => exact hbad
  case fload_n => exact hbad
  case fmul => delta am_1; dsimp only; exact am_binC_par R hbad hck (fun _ => hnxt _ _ _) st
  case fneg => exact hbad
  case frem => exact hbad
  case freturn => delta am_1; dsimp only; rcases st with _ | ⟨v | v | v, _ | ⟨w, st⟩⟩ <;> (first | exact hbad | exact hnxt _ _ _ | exact hck _ _ _ _ (hnxt _ _ _) | exact hck _ _ _ _ (hck _ _ _ _ (hnxt _ _ _)) | exact hjmp _ _ _ _ | exact hbr _ _ _ _ _ _ (hjmp _ _ _ _) (hnxt _ _ _) | exact hret _ _ | exact hck _ _ _ _ (hret _ _) | exact hcut _ _ _ _)
  case fstore => exact hbad
  case fstore_n => exact hbad
  case fsub => delta am_1; dsimp only; exact am_binC_par R hbad hck (fun _ => hnxt _ _ _) st
  case getfield index => delta am_1; dsimp only; rcases st with _ | ⟨v | v | v, st⟩ <;> (first | exact hbad | (cases am_isO sh _ _ <;> (first | exact hbad | exact hnxt _ _ _ | exact hck _ _ _ _ (hnxt _ _ _) | exact hck _ _ _ _ (hck _ _ _ _ (hnxt _ _ _)) | exact hjmp _ _ _ _ | exact hbr _ _ _ _ _ _ (hjmp _ _ _ _) (hnxt _ _ _) | exact hret _ _ | exact hck _ _ _ _ (hret _ _) | exact hcut _ _ _ _)))
  case getstatic index => delta am_1; dsimp only; (first | exact hbad | exact hnxt _ _ _ | exact hck _ _ _ _ (hnxt _ _ _) | exact hck _ _ _ _ (hck _ _ _ _ (hnxt _ _ _)) | exact hjmp _ _ _ _ | exact hbr _ _ _ _ _ _ (hjmp _ _ _ _) (hnxt _ _ _) | exact hret _ _ | exact hck _ _ _ _ (hret _ _) | exact hcut _ _ _ _)
  case goto offset => delta am_1; dsimp only; (first | exact hbad | exact hnxt _ _ _ | exact hck _ _ _ _ (hnxt _ _ _) | exact hck _ _ _ _ (hck _ _ _ _ (hnxt _ _ _)) | exact hjmp _ _ _ _ | exact hbr _ _ _ _ _ _ (hjmp _ _ _ _) (hnxt _ _ _) | exact hret _ _ | exact hck _ _ _ _ (hret _ _) | exact hcut _ _ _ _)
  case goto_w => exact hbad
  case i2b => delta am_1; dsimp only; rcases st with _ | ⟨v | v | v, st⟩ <;> (first | exact hbad | exact hnxt _ _ _ | exact hck _ _ _ _ (hnxt _ _ _) | exact hck _ _ _ _ (hck _ _ _ _ (hnxt _ _ _)) | exact hjmp _ _ _ _ | exact hbr _ _ _ _ _ _ (hjmp _ _ _ _) (hnxt _ _ _) | exact hret _ _ | exact hck _ _ _ _ (hret _ _) | exact hcut _ _ _ _)
  case i2c => delta am_1; dsimp only; rcases st with _ | ⟨v | v | v, st⟩ <;> (first | exact hbad | exact hnxt _ _ _ | exact hck _ _ _ _ (hnxt _ _ _) | exact hck _ _ _ _ (hck _ _ _ _ (hnxt _ _ _)) | exact hjmp _ _ _ _ | exact hbr _ _ _ _ _ _ (hjmp _ _ _ _) (hnxt _ _ _) | exact hret _ _ | exact hck _ _ _ _ (hret _ _) | exact hcut _ _ _ _)
  case i2d => exact hbad
  case i2f => exact hbad
  case i2l => delta am_1; dsimp only; rcases st with _ | ⟨v | v | v, st⟩ <;> (first | exact hbad | exact hnxt _ _ _ | exact hck _ _ _ _ (hnxt _ _ _) | exact hck _ _ _ _ (hck _ _ _ _ (hnxt _ _ _)) | exact hjmp _ _ _ _ | exact hbr _ _ _ _ _ _ (hjmp _ _ _ _) (hnxt _ _ _) | exact hret _ _ | exact hck _ _ _ _ (hret _ _) | exact hcut _ _ _ _)
  case i2s => exact hbad
  case iadd => delta am_1; dsimp only; exact am_bin_par R hbad (fun _ => hnxt _ _ _) st
  case iaload => delta am_1; dsimp only; rcases st with _ | ⟨v | v | v, _ | ⟨w | w | w, st⟩⟩ <;> (first | exact hbad | (generalize am_kd sh _ = kk; split <;> (first | (first | exact hbad | exact hnxt _ _ _ | exact hck _ _ _ _ (hnxt _ _ _) | exact hck _ _ _ _ (hck _ _ _ _ (hnxt _ _ _)) | exact hjmp _ _ _ _ | exact hbr _ _ _ _ _ _ (hjmp _ _ _ _) (hnxt _ _ _) | exact hret _ _ | exact hck _ _ _ _ (hret _ _) | exact hcut _ _ _ _) | (split <;> first | (first | exact hbad | exact hnxt _ _ _ | exact hck _ _ _ _ (hnxt _ _ _) | exact hck _ _ _ _ (hck _ _ _ _ (hnxt _ _ _)) | exact hjmp _ _ _ _ | exact hbr _ _ _ _ _ _ (hjmp _ _ _ _) (hnxt _ _ _) | exact hret _ _ | exact hck _ _ _ _ (hret _ _) | exact hcut _ _ _ _) | (exfalso; simp_all)))))
  case iand => delta am_1; dsimp only; exact am_bin_par R hbad (fun _ => hnxt _ _ _) st
  case iastore => delta am_1; dsimp only; rcases st with _ | ⟨v | v | v, _ | ⟨w | w | w, _ | ⟨u | u | u, st⟩⟩⟩ <;> (first | exact hbad | (generalize am_kd sh _ = kk; split <;> (first | (first | exact hbad | exact hnxt _ _ _ | exact hck _ _ _ _ (hnxt _ _ _) | exact hck _ _ _ _ (hck _ _ _ _ (hnxt _ _ _)) | exact hjmp _ _ _ _ | exact hbr _ _ _ _ _ _ (hjmp _ _ _ _) (hnxt _ _ _) | exact hret _ _ | exact hck _ _ _ _ (hret _ _) | exact hcut _ _ _ _) | (split <;> first | (first | exact hbad | exact hnxt _ _ _ | exact hck _ _ _ _ (hnxt _ _ _) | exact hck _ _ _ _ (hck _ _ _ _ (hnxt _ _ _)) | exact hjmp _ _ _ _ | exact hbr _ _ _ _ _ _ (hjmp _ _ _ _) (hnxt _ _ _) | exact hret _ _ | exact hck _ _ _ _ (hret _ _) | exact hcut _ _ _ _) | (exfalso; simp_all)))))
  case iconst i => delta am_1; dsimp only; (first | exact hbad | exact hnxt _ _ _ | exact hck _ _ _ _ (hnxt _ _ _) | exact hck _ _ _ _ (hck _ _ _ _ (hnxt _ _ _)) | exact hjmp _ _ _ _ | exact hbr _ _ _ _ _ _ (hjmp _ _ _ _) (hnxt _ _ _) | exact hret _ _ | exact hck _ _ _ _ (hret _ _) | exact hcut _ _ _ _)
  case idiv => delta am_1; dsimp only; rcases st with _ | ⟨v | v | v, _ | ⟨w | w | w, st⟩⟩ <;> (first | exact hbad | exact hnxt _ _ _ | exact hck _ _ _ _ (hnxt _ _ _) | exact hck _ _ _ _ (hck _ _ _ _ (hnxt _ _ _)) | exact hjmp _ _ _ _ | exact hbr _ _ _ _ _ _ (hjmp _ _ _ _) (hnxt _ _ _) | exact hret _ _ | exact hck _ _ _ _ (hret _ _) | exact hcut _ _ _ _)
  case if_acmp => exact hbad
  case if_icmp cond offset => delta am_1; dsimp only; rcases st with _ | ⟨v | v | v, _ | ⟨w | w | w, st⟩⟩ <;> (first | exact hbad | exact hnxt _ _ _ | exact hck _ _ _ _ (hnxt _ _ _) | exact hck _ _ _ _ (hck _ _ _ _ (hnxt _ _ _)) | exact hjmp _ _ _ _ | exact hbr _ _ _ _ _ _ (hjmp _ _ _ _) (hnxt _ _ _) | exact hret _ _ | exact hck _ _ _ _ (hret _ _) | exact hcut _ _ _ _)
  case ifCond cond offset => delta am_1; dsimp only; rcases st with _ | ⟨v | v | v, st⟩ <;> (first | exact hbad | exact hnxt _ _ _ | exact hck _ _ _ _ (hnxt _ _ _) | exact hck _ _ _ _ (hck _ _ _ _ (hnxt _ _ _)) | exact hjmp _ _ _ _ | exact hbr _ _ _ _ _ _ (hjmp _ _ _ _) (hnxt _ _ _) | exact hret _ _ | exact hck _ _ _ _ (hret _ _) | exact hcut _ _ _ _)
  case ifnonnull => exact hbad
  case ifnull => exact hbad
  case iinc index const => delta am_1; dsimp only; rcases am_find index ls with _ | v | v | v <;> (first | exact hbad | exact hnxt _ _ _ | exact hck _ _ _ _ (hnxt _ _ _) | exact hck _ _ _ _ (hck _ _ _ _ (hnxt _ _ _)) | exact hjmp _ _ _ _ | exact hbr _ _ _ _ _ _ (hjmp _ _ _ _) (hnxt _ _ _) | exact hret _ _ | exact hck _ _ _ _ (hret _ _) | exact hcut _ _ _ _)
  case iload index => delta am_1; dsimp only; rcases am_find index ls with _ | v | v | v <;> (first | exact hbad | exact hnxt _ _ _ | exact hck _ _ _ _ (hnxt _ _ _) | exact hck _ _ _ _ (hck _ _ _ _ (hnxt _ _ _)) | exact hjmp _ _ _ _ | exact hbr _ _ _ _ _ _ (hjmp _ _ _ _) (hnxt _ _ _) | exact hret _ _ | exact hck _ _ _ _ (hret _ _) | exact hcut _ _ _ _)
  case iload_n => exact hbad
  case imul => delta am_1; dsimp only; exact am_bin_par R hbad (fun _ => hnxt _ _ _) st
  case ineg => delta am_1; dsimp only; rcases st with _ | ⟨v | v | v, st⟩ <;> (first | exact hbad | exact hnxt _ _ _ | exact hck _ _ _ _ (hnxt _ _ _) | exact hck _ _ _ _ (hck _ _ _ _ (hnxt _ _ _)) | exact hjmp _ _ _ _ | exact hbr _ _ _ _ _ _ (hjmp _ _ _ _) (hnxt _ _ _) | exact hret _ _ | exact hck _ _ _ _ (hret _ _) | exact hcut _ _ _ _)
  case instanceof => exact hbad
  case invokedynamic => exact hbad
  case invokeinterface index count =>
    delta am_1; dsimp only
    rcases index with _ | _ | _ | _ | _ | index
    · rcases st with _ | ⟨v | v | v, st⟩ <;> (first | exact hbad | (dsimp only; cases (Nat.beq v 0 || Nat.beq v 8 || Nat.blt 8 (am_cat st)) <;> (first | exact hbad | exact hnxt _ _ _ | exact hck _ _ _ _ (hnxt _ _ _) | exact hck _ _ _ _ (hck _ _ _ _ (hnxt _ _ _)) | exact hjmp _ _ _ _ | exact hbr _ _ _ _ _ _ (hjmp _ _ _ _) (hnxt _ _ _) | exact hret _ _ | exact hck _ _ _ _ (hret _ _) | exact hcut _ _ _ _)))
    · rcases st with _ | ⟨v | v | v, _ | ⟨w | w | w, _ | ⟨u | u | u, st⟩⟩⟩ <;> (first | exact hbad | skip)
      rcases st with _ | ⟨v1 | v1 | v1, _ | ⟨v2 | v2 | v2, st⟩⟩ <;> (first | exact hbad | (dsimp only; split <;> (first | (first | exact hbad | exact hnxt _ _ _ | exact hck _ _ _ _ (hnxt _ _ _) | exact hck _ _ _ _ (hck _ _ _ _ (hnxt _ _ _)) | exact hjmp _ _ _ _ | exact hbr _ _ _ _ _ _ (hjmp _ _ _ _) (hnxt _ _ _) | exact hret _ _ | exact hck _ _ _ _ (hret _ _) | exact hcut _ _ _ _) | (split <;> first | (first | exact hbad | exact hnxt _ _ _ | exact hck _ _ _ _ (hnxt _ _ _) | exact hck _ _ _ _ (hck _ _ _ _ (hnxt _ _ _)) | exact hjmp _ _ _ _ | exact hbr _ _ _ _ _ _ (hjmp _ _ _ _) (hnxt _ _ _) | exact hret _ _ | exact hck _ _ _ _ (hret _ _) | exact hcut _ _ _ _) | (exfalso; simp_all)))) | (dsimp only; cases (!(Nat.beq v2 u) && Nat.ble (am_cat st) 8 && Nat.beq (am_kd sh v2) 1 && Nat.beq (am_kd sh u) 1) <;> (first | exact hbad | exact hnxt _ _ _ | exact hck _ _ _ _ (hnxt _ _ _) | exact hck _ _ _ _ (hck _ _ _ _ (hnxt _ _ _)) | exact hjmp _ _ _ _ | exact hbr _ _ _ _ _ _ (hjmp _ _ _ _) (hnxt _ _ _) | exact hret _ _ | exact hck _ _ _ _ (hret _ _) | exact hcut _ _ _ _)))
    · dsimp only; cases (Nat.ble (am_cat st) 10)
      · exact hbad
      · exact am_bin_par R hbad (fun _ => hnxt _ _ _) st
    · dsimp only; cases (Nat.ble (am_cat st) 10)
      · exact hbad
      · exact am_bin_par R hbad (fun _ => hnxt _ _ _) st
    · rcases st with _ | ⟨v | v | v, st⟩ <;> (first | exact hbad | (dsimp only; cases (Nat.ble (am_cat st) 8) <;> (first | exact hbad | exact hnxt _ _ _ | exact hck _ _ _ _ (hnxt _ _ _) | exact hck _ _ _ _ (hck _ _ _ _ (hnxt _ _ _)) | exact hjmp _ _ _ _ | exact hbr _ _ _ _ _ _ (hjmp _ _ _ _) (hnxt _ _ _) | exact hret _ _ | exact hck _ _ _ _ (hret _ _) | exact hcut _ _ _ _)))
    · exact hbad
  case invokespecial => cases hok
  case invokestatic index => delta am_1; dsimp only; rcases am_pop (na index) [] st with _ | ⟨as, st⟩ <;> (first | exact hbad | (cases (Nat.ble (am_cat st) 8) <;> (first | exact hbad | exact hcall _ _ _ _ _ (fun _ _ => hnxt _ _ _))))
  case invokevirtual index => delta am_1; dsimp only; rcases am_pop (na index) [] st with _ | ⟨_ | ⟨v | v | v, as⟩, st⟩ <;> (first | exact hbad | (cases (Nat.beq (am_kd sh _) (na (2000 + index)) && Nat.ble (am_cat st) 8) <;> (first | exact hbad | exact hcall _ _ _ _ _ (fun _ _ => hnxt _ _ _))))
  case ior => delta am_1; dsimp only; exact am_bin_par R hbad (fun _ => hnxt _ _ _) st
  case irem => delta am_1; dsimp only; rcases st with _ | ⟨v | v | v, _ | ⟨w | w | w, st⟩⟩ <;> (first | exact hbad | exact hnxt _ _ _ | exact hck _ _ _ _ (hnxt _ _ _) | exact hck _ _ _ _ (hck _ _ _ _ (hnxt _ _ _)) | exact hjmp _ _ _ _ | exact hbr _ _ _ _ _ _ (hjmp _ _ _ _) (hnxt _ _ _) | exact hret _ _ | exact hck _ _ _ _ (hret _ _) | exact hcut _ _ _ _)
  case ireturn => delta am_1; dsimp only; rcases st with _ | ⟨v | v | v, _ | ⟨w, st⟩⟩ <;> (first | exact hbad | exact hnxt _ _ _ | exact hck _ _ _ _ (hnxt _ _ _) | exact hck _ _ _ _ (hck _ _ _ _ (hnxt _ _ _)) | exact hjmp _ _ _ _ | exact hbr _ _ _ _ _ _ (hjmp _ _ _ _) (hnxt _ _ _) | exact hret _ _ | exact hck _ _ _ _ (hret _ _) | exact hcut _ _ _ _)
  case ishl => delta am_1; dsimp only; exact am_bin_par R hbad (fun _ => hnxt _ _ _) st
  case ishr => delta am_1; dsimp only; exact am_bin_par R hbad (fun _ => hnxt _ _ _) st
  case istore index => delta am_1; dsimp only; rcases st with _ | ⟨v | v | v, st⟩ <;> (first | exact hbad | exact hnxt _ _ _ | exact hck _ _ _ _ (hnxt _ _ _) | exact hck _ _ _ _ (hck _ _ _ _ (hnxt _ _ _)) | exact hjmp _ _ _ _ | exact hbr _ _ _ _ _ _ (hjmp _ _ _ _) (hnxt _ _ _) | exact hret _ _ | exact hck _ _ _ _ (hret _ _) | exact hcut _ _ _ _)
  case istore_n => exact hbad
  case isub => delta am_1; dsimp only; exact am_bin_par R hbad (fun _ => hnxt _ _ _) st
  case iushr => delta am_1; dsimp only; exact am_bin_par R hbad (fun _ => hnxt _ _ _) st
  case ixor => delta am_1; dsimp only; exact am_bin_par R hbad (fun _ => hnxt _ _ _) st
  case jsr => exact hbad
  case jsr_w => exact hbad
  case l2d => exact hbad
  case l2f => exact hbad
  case l2i => delta am_1; dsimp only; rcases st with _ | ⟨v | v | v, st⟩ <;> (first | exact hbad | exact hnxt _ _ _ | exact hck _ _ _ _ (hnxt _ _ _) | exact hck _ _ _ _ (hck _ _ _ _ (hnxt _ _ _)) | exact hjmp _ _ _ _ | exact hbr _ _ _ _ _ _ (hjmp _ _ _ _) (hnxt _ _ _) | exact hret _ _ | exact hck _ _ _ _ (hret _ _) | exact hcut _ _ _ _)
  case ladd => delta am_1; dsimp only; exact am_binL_par R hbad (fun _ => hnxt _ _ _) st
  case laload => delta am_1; dsimp only; rcases st with _ | ⟨v | v | v, _ | ⟨w | w | w, st⟩⟩ <;> (first | exact hbad | (generalize am_kd sh _ = kk; split <;> (first | (first | exact hbad | exact hnxt _ _ _ | exact hck _ _ _ _ (hnxt _ _ _) | exact hck _ _ _ _ (hck _ _ _ _ (hnxt _ _ _)) | exact hjmp _ _ _ _ | exact hbr _ _ _ _ _ _ (hjmp _ _ _ _) (hnxt _ _ _) | exact hret _ _ | exact hck _ _ _ _ (hret _ _) | exact hcut _ _ _ _) | (split <;> first | (first | exact hbad | exact hnxt _ _ _ | exact hck _ _ _ _ (hnxt _ _ _) | exact hck _ _ _ _ (hck _ _ _ _ (hnxt _ _ _)) | exact hjmp _ _ _ _ | exact hbr _ _ _ _ _ _ (hjmp _ _ _ _) (hnxt _ _ _) | exact hret _ _ | exact hck _ _ _ _ (hret _ _) | exact hcut _ _ _ _) | (exfalso; simp_all)))))
  case land => delta am_1; dsimp only; exact am_binL_par R hbad (fun _ => hnxt _ _ _) st
  case lastore => delta am_1; dsimp only; rcases st with _ | ⟨v | v | v, _ | ⟨w | w | w, _ | ⟨u | u | u, st⟩⟩⟩ <;> (first | exact hbad | (generalize am_kd sh _ = kk; split <;> (first | (first | exact hbad | exact hnxt _ _ _ | exact hck _ _ _ _ (hnxt _ _ _) | exact hck _ _ _ _ (hck _ _ _ _ (hnxt _ _ _)) | exact hjmp _ _ _ _ | exact hbr _ _ _ _ _ _ (hjmp _ _ _ _) (hnxt _ _ _) | exact hret _ _ | exact hck _ _ _ _ (hret _ _) | exact hcut _ _ _ _) | (split <;> first | (first | exact hbad | exact hnxt _ _ _ | exact hck _ _ _ _ (hnxt _ _ _) | exact hck _ _ _ _ (hck _ _ _ _ (hnxt _ _ _)) | exact hjmp _ _ _ _ | exact hbr _ _ _ _ _ _ (hjmp _ _ _ _) (hnxt _ _ _) | exact hret _ _ | exact hck _ _ _ _ (hret _ _) | exact hcut _ _ _ _) | (exfalso; simp_all)))))
  case lcmp => delta am_1; dsimp only; rcases st with _ | ⟨v | v | v, _ | ⟨w | w | w, st⟩⟩ <;> (first | exact hbad | exact hnxt _ _ _ | exact hck _ _ _ _ (hnxt _ _ _) | exact hck _ _ _ _ (hck _ _ _ _ (hnxt _ _ _)) | exact hjmp _ _ _ _ | exact hbr _ _ _ _ _ _ (hjmp _ _ _ _) (hnxt _ _ _) | exact hret _ _ | exact hck _ _ _ _ (hret _ _) | exact hcut _ _ _ _)
  case lconst => exact hbad
  case ldc => exact hbad
  case ldc_w => exact hbad
  case ldc2_w => exact hbad
  case ldiv => delta am_1; dsimp only; rcases st with _ | ⟨v | v | v, _ | ⟨w | w | w, st⟩⟩ <;> (first | exact hbad | exact hnxt _ _ _ | exact hck _ _ _ _ (hnxt _ _ _) | exact hck _ _ _ _ (hck _ _ _ _ (hnxt _ _ _)) | exact hjmp _ _ _ _ | exact hbr _ _ _ _ _ _ (hjmp _ _ _ _) (hnxt _ _ _) | exact hret _ _ | exact hck _ _ _ _ (hret _ _) | exact hcut _ _ _ _)
  case lload index => delta am_1; dsimp only; rcases am_find index ls with _ | v | v | v <;> (first | exact hbad | exact hnxt _ _ _ | exact hck _ _ _ _ (hnxt _ _ _) | exact hck _ _ _ _ (hck _ _ _ _ (hnxt _ _ _)) | exact hjmp _ _ _ _ | exact hbr _ _ _ _ _ _ (hjmp _ _ _ _) (hnxt _ _ _) | exact hret _ _ | exact hck _ _ _ _ (hret _ _) | exact hcut _ _ _ _)
  case lload_n => exact hbad
  case lmul => delta am_1; dsimp only; exact am_binL_par R hbad (fun _ => hnxt _ _ _) st
  case lneg => exact hbad
  case lookupswitch => exact hbad
  case lor => exact hbad
  case lrem => exact hbad
  case lreturn => delta am_1; dsimp only; rcases st with _ | ⟨v | v | v, _ | ⟨w, st⟩⟩ <;> (first | exact hbad | exact hnxt _ _ _ | exact hck _ _ _ _ (hnxt _ _ _) | exact hck _ _ _ _ (hck _ _ _ _ (hnxt _ _ _)) | exact hjmp _ _ _ _ | exact hbr _ _ _ _ _ _ (hjmp _ _ _ _) (hnxt _ _ _) | exact hret _ _ | exact hck _ _ _ _ (hret _ _) | exact hcut _ _ _ _)
  case lshl => delta am_1; dsimp only; rcases st with _ | ⟨v | v | v, _ | ⟨w | w | w, st⟩⟩ <;> (first | exact hbad | exact hnxt _ _ _ | exact hck _ _ _ _ (hnxt _ _ _) | exact hck _ _ _ _ (hck _ _ _ _ (hnxt _ _ _)) | exact hjmp _ _ _ _ | exact hbr _ _ _ _ _ _ (hjmp _ _ _ _) (hnxt _ _ _) | exact hret _ _ | exact hck _ _ _ _ (hret _ _) | exact hcut _ _ _ _)
  case lshr => delta am_1; dsimp only; rcases st with _ | ⟨v | v | v, _ | ⟨w | w | w, st⟩⟩ <;> (first | exact hbad | exact hnxt _ _ _ | exact hck _ _ _ _ (hnxt _ _ _) | exact hck _ _ _ _ (hck _ _ _ _ (hnxt _ _ _)) | exact hjmp _ _ _ _ | exact hbr _ _ _ _ _ _ (hjmp _ _ _ _) (hnxt _ _ _) | exact hret _ _ | exact hck _ _ _ _ (hret _ _) | exact hcut _ _ _ _)
  case lstore index => delta am_1; dsimp only; rcases st with _ | ⟨v | v | v, st⟩ <;> (first | exact hbad | exact hnxt _ _ _ | exact hck _ _ _ _ (hnxt _ _ _) | exact hck _ _ _ _ (hck _ _ _ _ (hnxt _ _ _)) | exact hjmp _ _ _ _ | exact hbr _ _ _ _ _ _ (hjmp _ _ _ _) (hnxt _ _ _) | exact hret _ _ | exact hck _ _ _ _ (hret _ _) | exact hcut _ _ _ _)
  case lstore_n => exact hbad
  case lsub => delta am_1; dsimp only; exact am_binL_par R hbad (fun _ => hnxt _ _ _) st
  case lushr => delta am_1; dsimp only; rcases st with _ | ⟨v | v | v, _ | ⟨w | w | w, st⟩⟩ <;> (first | exact hbad | exact hnxt _ _ _ | exact hck _ _ _ _ (hnxt _ _ _) | exact hck _ _ _ _ (hck _ _ _ _ (hnxt _ _ _)) | exact hjmp _ _ _ _ | exact hbr _ _ _ _ _ _ (hjmp _ _ _ _) (hnxt _ _ _) | exact hret _ _ | exact hck _ _ _ _ (hret _ _) | exact hcut _ _ _ _)
  case lxor => delta am_1; dsimp only; exact am_binL_par R hbad (fun _ => hnxt _ _ _) st
  case monitorenter => exact hbad
  case monitorexit => exact hbad
  case multianewarray => exact hbad
  case new => cases hok
  case newarray => cases hok
  case nop => delta am_1; dsimp only; (first | exact hbad | exact hnxt _ _ _ | exact hck _ _ _ _ (hnxt _ _ _) | exact hck _ _ _ _ (hck _ _ _ _ (hnxt _ _ _)) | exact hjmp _ _ _ _ | exact hbr _ _ _ _ _ _ (hjmp _ _ _ _) (hnxt _ _ _) | exact hret _ _ | exact hck _ _ _ _ (hret _ _) | exact hcut _ _ _ _)
  case pop => delta am_1; dsimp only; rcases st with _ | ⟨v | v | v, st⟩ <;> (first | exact hbad | exact hnxt _ _ _ | exact hck _ _ _ _ (hnxt _ _ _) | exact hck _ _ _ _ (hck _ _ _ _ (hnxt _ _ _)) | exact hjmp _ _ _ _ | exact hbr _ _ _ _ _ _ (hjmp _ _ _ _) (hnxt _ _ _) | exact hret _ _ | exact hck _ _ _ _ (hret _ _) | exact hcut _ _ _ _)
  case pop2 => delta am_1; dsimp only; rcases st with _ | ⟨v | v | v, st⟩ <;> (first | exact hbad | exact hnxt _ _ _ | exact hck _ _ _ _ (hnxt _ _ _) | exact hck _ _ _ _ (hck _ _ _ _ (hnxt _ _ _)) | exact hjmp _ _ _ _ | exact hbr _ _ _ _ _ _ (hjmp _ _ _ _) (hnxt _ _ _) | exact hret _ _ | exact hck _ _ _ _ (hret _ _) | exact hcut _ _ _ _)
  case putfield index => delta am_1; dsimp only; rcases st with _ | ⟨v | v | v, _ | ⟨w | w | w, st⟩⟩ <;> (first | exact hbad | (cases (am_isO sh _ _ && Nat.ble 9 _) <;> (first | exact hbad | exact am_putf_par R hbad hck (fun _ => hnxt _ _ _) hok)))
  case putstatic => exact hbad
  case ret => exact hbad
  case return_ => delta am_1; dsimp only; rcases st with _ | ⟨v | v | v, _ | ⟨w, st⟩⟩ <;> (first | exact hbad | exact hnxt _ _ _ | exact hck _ _ _ _ (hnxt _ _ _) | exact hck _ _ _ _ (hck _ _ _ _ (hnxt _ _ _)) | exact hjmp _ _ _ _ | exact hbr _ _ _ _ _ _ (hjmp _ _ _ _) (hnxt _ _ _) | exact hret _ _ | exact hck _ _ _ _ (hret _ _) | exact hcut _ _ _ _)
  case saload => exact hbad
  case sastore => exact hbad
  case sipush => exact hbad
  case swap => exact hbad
  case tableswitch default low high offsets => delta am_1; dsimp only; rcases st with _ | ⟨v | v | v, st⟩ <;> (first | exact hbad | exact hbr _ _ _ _ _ _ (hjmp _ _ _ _) (am_sw_par R hbad hbr (fun _ => hjmp _ _ _ _) _ _ _))
theorem okI_drop {code : List aI} {i t : Nat} (h : (code.drop i).all okI = true) (hit : i ≤ t) : (code.drop t).all okI = true := by
  rw [show t = i + (t - i) by omega, ← List.drop_drop]
  rw [List.all_eq_true] at h ⊢
  exact fun x hx => h x (List.mem_of_mem_drop hx)
theorem am_x_par {na : Nat → Nat} {limX limY : Nat × Nat} {callX : Nat → List aV → aS → (Option aV → aH → X) → X} {callY : Nat → List aV → aS → (Option aV → aH → Y) → Y} {spX : Nat → List aV → aS → (aS → X) → X} {spY : Nat → List aV → aS → (aS → Y) → Y} {retX : Option aV → aS → X} {retY : Option aV → aS → Y} {cutX : Nat → aL → List aV → aS → X} {cutY : Nat → aL → List aV → aS → Y} {sh : List aC} {code : List aI} {i0 : Nat}
    (hbad : R badX badY) (hbr : ∀ c d x x' y y', R x y → R x' y' → R (brX c d x x') (brY c d y y')) (hck : ∀ c d x y, R x y → R (ckX c d x) (ckY c d y))
    (hcall : ∀ id as h cX cY, (∀ v h, R (cX v h) (cY v h)) → R (callX id as (sh, h) cX) (callY id as (sh, h) cY)) (hret : ∀ v h, R (retX v (sh, h)) (retY v (sh, h))) (hcut : ∀ i ls st h, R (cutX i ls st (sh, h)) (cutY i ls st (sh, h)))
    (hcode : (code.drop i0).all okI = true) : ∀ (f i : Nat) (rest : List aI) (ls : aL) (st : List aV) (h : aH), i0 ≤ i → rest.all okI = true →
    R (am_x ftab na limX badX brX ckX callX spX retX cutX code f i rest ls st (sh, h)) (am_x ftab na limY badY brY ckY callY spY retY cutY code f i rest ls st (sh, h)) := by
  intro f
  induction f with
  | zero => intro i rest ls st h _ _; exact hbad
  | succ f ih =>
    intro i rest ls st h hi hr
    rcases rest with _ | ⟨ins, rest⟩
    · exact hbad
    · rw [List.all_cons, Bool.and_eq_true_iff] at hr
      refine am_1_par R hbad hbr hck hcall hret hcut (fun ls st h => ih (i + 1) rest ls st h (by omega) hr.2) i (fun t ls st h => ?_) ins hr.1 ls st h
      show R (bif Nat.ble t i then _ else _) (bif Nat.ble t i then _ else _)
      cases hb : Nat.ble t i with
      | true => exact hcut _ _ _ _
      | false =>
        have ht : i0 ≤ t := by
          rcases Nat.lt_or_ge i t with h1 | h1
          · omega
          · rw [Nat.ble_eq_true_of_le h1] at hb; cases hb
        exact ih t (code.drop t) ls st h ht (okI_drop hcode ht)
end PAR
