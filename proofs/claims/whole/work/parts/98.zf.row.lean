/-! no method changes the script -/
/-- what a method that makes nothing may hold, and it calls none that makes something -/
def okI2 : aI → Bool
  | .new _ => false
  | .newarray _ => false
  | .anewarray _ => false
  | .aastore => false
  | .invokespecial _ => false
  | .putfield n => !(Nat.beq (ftab (n / 100) (n % 100)) 0)
  | .invokevirtual id => okB id
  | .invokestatic id => okB id
  | _ => true
section ROW
variable (R : Prop → Prop)
theorem am_bin_u (hbad : R False) {f : Int → Int → Int} {nX : List aV → Prop} (h : ∀ st, R (nX st)) (st : List aV) : R (am_bin False f nX st) := by
  rcases st with _ | ⟨v | v | v, _ | ⟨w | w | w, st⟩⟩ <;> first | exact hbad | exact h _
theorem am_binL_u (hbad : R False) {f : Int → Int → Int} {nX : List aV → Prop} (h : ∀ st, R (nX st)) (st : List aV) : R (am_binL False f nX st) := by
  rcases st with _ | ⟨v | v | v, _ | ⟨w | w | w, st⟩⟩ <;> first | exact hbad | exact h _
theorem am_binC_u (hbad : R False) (hck : ∀ c x, R x → R (c ∧ x)) {f : Int → Int → Int} {nX : List aV → Prop} (h : ∀ st, R (nX st)) (st : List aV) : R (am_binC False ckP f nX st) := by
  rcases st with _ | ⟨v | v | v, _ | ⟨w | w | w, st⟩⟩ <;> first | exact hbad | exact hck _ _ (h _)
theorem am_binLC_u (hbad : R False) (hck : ∀ c x, R x → R (c ∧ x)) {f : Int → Int → Int} {nX : List aV → Prop} (h : ∀ st, R (nX st)) (st : List aV) : R (am_binLC False ckP f nX st) := by
  rcases st with _ | ⟨v | v | v, _ | ⟨w | w | w, st⟩⟩ <;> first | exact hbad | exact hck _ _ (h _)
theorem am_sw_u (hbad : R False) (hbr : ∀ c x x' : Prop, R x → R x' → R ((c → x) ∧ (¬ c → x'))) {jX : Nat → Prop} (h : ∀ t, R (jX t)) (v : Int) : ∀ (a : Int) (l : List Int), R (am_sw False brP jX v a l)
  | _, [] => hbad
  | a, t :: l => hbr _ _ _ (h _) (am_sw_u hbad hbr h v (a + 1) l)
theorem am_aal_u (hbad : R False) (hbr : ∀ c x x' : Prop, R x → R x' → R ((c → x) ∧ (¬ c → x'))) {i : Int} {nX : Nat → Prop} (h : ∀ t, R (nX t)) : ∀ (a : Int) (l : List Nat), R (am_aal False brP i nX a l)
  | _, [] => hbad
  | a, q :: l => hbr _ _ _ (h _) (am_aal_u hbad hbr h (a + 1) l)
theorem am_putf_u (hbad : R False) (hck : ∀ c x, R x → R (c ∧ x)) {c : aC} {ty : Nat} {sh : List aC} {h : aH} {r k : Nat} {v : aV} {nX : aS → Prop} (hn : ∀ h', h' 1 = h 1 → R (nX (sh, h'))) (h9 : 9 ≤ r) (hok : (!(Nat.beq ty 0)) = true) : R (am_putf False ckP c ty (sh, h) r k v nX) := by
  have e : ∀ x, am_up h r k x 1 = h 1 := fun x => up_row (by omega)
  rcases ty with _ | _ | _ | _ | ty
  · cases hok
  all_goals rcases v with v | v | v <;> first | exact hbad | exact hn _ (e _) | exact hck _ _ (hn _ (e _))
set_option maxHeartbeats 4000000 in
theorem am_1_u {na : Nat → Nat} {lim : Nat × Nat} {call : Nat → List aV → aS → (Option aV → aH → Prop) → Prop} {sp : Nat → List aV → aS → (aS → Prop) → Prop} {ret : Option aV → aS → Prop} {cut : Nat → aL → List aV → aS → Prop} {nxt : aL → List aV → aS → Prop} {jmp : Nat → aL → List aV → aS → Prop} {sh : List aC} {h : aH} (k1 : am_kd sh 1 = 6)
    (hbad : R False) (hbr : ∀ c x x' : Prop, R x → R x' → R ((c → x) ∧ (¬ c → x'))) (hck : ∀ c x, R x → R (c ∧ x))
    (hcall : ∀ id as c, okB id = true → (∀ v h', h' 1 = h 1 → R (c v h')) → R (call id as (sh, h) c)) (hret : ∀ v, R (ret v (sh, h))) (hcut : ∀ i a st h', h' 1 = h 1 → R (cut i a st (sh, h')))
    (hnxt : ∀ a st h', h' 1 = h 1 → R (nxt a st (sh, h'))) (i : Nat) (hjmp : ∀ t a st h', h' 1 = h 1 → R (jmp t a st (sh, h')))
    (ins : aI) (hok : okI2 ins = true) (ls : aL) (st : List aV) :
    R (am_1 ftab na lim False brP ckP call sp ret cut i ins ls st (sh, h) nxt jmp) := by
  cases ins
  case aaload => delta am_1; dsimp only; rcases st with _ | ⟨v | v | v, _ | ⟨w | w | w, st⟩⟩ <;> (first | exact hbad | (generalize am_kd sh _ = kk; split <;> (first | exact hbad | exact hck _ _ (am_aal_u R hbad hbr (fun _ => hnxt _ _ _ rfl) _ _) | (split <;> first | exact hbad | exact hck _ _ (am_aal_u R hbad hbr (fun _ => hnxt _ _ _ rfl) _ _) | (exfalso; simp_all)))))
  case aastore => cases hok
  case aconst_null => exact hbad
  case aload index => delta am_1; dsimp only; rcases hX : am_find index ls with _ | v | v | v <;> (first | exact hbad | (dsimp only; cases (Nat.beq v 0 || Nat.beq v 8) <;> (first | exact hbad | exact hnxt _ _ _ rfl | exact hck _ _ (hnxt _ _ _ rfl) | exact hck _ _ (hck _ _ (hnxt _ _ _ rfl)) | exact hjmp _ _ _ _ rfl | exact hbr _ _ _ (hjmp _ _ _ _ rfl) (hnxt _ _ _ rfl) | exact hret _ | exact hck _ _ (hret _) | exact hcut _ _ _ _ rfl)))
  case aload_n => exact hbad
  case anewarray => cases hok
  case areturn => exact hbad
  case arraylength => delta am_1; dsimp only; rcases st with _ | ⟨v | v | v, st⟩ <;> (first | exact hbad | (generalize am_kd sh _ = kk; split <;> (first | (first | exact hbad | exact hnxt _ _ _ rfl | exact hck _ _ (hnxt _ _ _ rfl) | exact hck _ _ (hck _ _ (hnxt _ _ _ rfl)) | exact hjmp _ _ _ _ rfl | exact hbr _ _ _ (hjmp _ _ _ _ rfl) (hnxt _ _ _ rfl) | exact hret _ | exact hck _ _ (hret _) | exact hcut _ _ _ _ rfl) | (split <;> first | (first | exact hbad | exact hnxt _ _ _ rfl | exact hck _ _ (hnxt _ _ _ rfl) | exact hck _ _ (hck _ _ (hnxt _ _ _ rfl)) | exact hjmp _ _ _ _ rfl | exact hbr _ _ _ (hjmp _ _ _ _ rfl) (hnxt _ _ _ rfl) | exact hret _ | exact hck _ _ (hret _) | exact hcut _ _ _ _ rfl) | (exfalso; simp_all)))))
  case astore index => delta am_1; dsimp only; rcases st with _ | ⟨v | v | v, st⟩ <;> (first | exact hbad | (dsimp only; cases (Nat.beq v 0 || Nat.beq v 8) <;> (first | exact hbad | exact hnxt _ _ _ rfl | exact hck _ _ (hnxt _ _ _ rfl) | exact hck _ _ (hck _ _ (hnxt _ _ _ rfl)) | exact hjmp _ _ _ _ rfl | exact hbr _ _ _ (hjmp _ _ _ _ rfl) (hnxt _ _ _ rfl) | exact hret _ | exact hck _ _ (hret _) | exact hcut _ _ _ _ rfl)))
  case astore_n => exact hbad
  case athrow => exact hbad
  case baload => delta am_1; dsimp only; rcases st with _ | ⟨v | v | v, _ | ⟨w | w | w, st⟩⟩ <;> (first | exact hbad | (generalize am_kd sh _ = kk; split <;> (first | (first | exact hbad | exact hnxt _ _ _ rfl | exact hck _ _ (hnxt _ _ _ rfl) | exact hck _ _ (hck _ _ (hnxt _ _ _ rfl)) | exact hjmp _ _ _ _ rfl | exact hbr _ _ _ (hjmp _ _ _ _ rfl) (hnxt _ _ _ rfl) | exact hret _ | exact hck _ _ (hret _) | exact hcut _ _ _ _ rfl) | (split <;> first | (first | exact hbad | exact hnxt _ _ _ rfl | exact hck _ _ (hnxt _ _ _ rfl) | exact hck _ _ (hck _ _ (hnxt _ _ _ rfl)) | exact hjmp _ _ _ _ rfl | exact hbr _ _ _ (hjmp _ _ _ _ rfl) (hnxt _ _ _ rfl) | exact hret _ | exact hck _ _ (hret _) | exact hcut _ _ _ _ rfl) | (exfalso; simp_all)))))
  case bastore => 
    delta am_1; dsimp only
    rcases st with _ | ⟨v | v | v, _ | ⟨w | w | w, _ | ⟨u | u | u, st⟩⟩⟩ <;> (first | exact hbad | skip)
    dsimp only
    by_cases e1 : u = 1
    · subst e1
      rw [k1]
      exact hbad
    · have rn : ∀ i v, am_up h u i v 1 = h 1 := fun _ _ => up_row (fun e => e1 e.symm)
      generalize am_kd sh u = kk
      split <;> (first | (first | exact hbad | exact hck _ _ (hnxt _ _ _ (rn _ _)) | exact hck _ _ (hck _ _ (hnxt _ _ _ (rn _ _)))) | (split <;> first | (first | exact hbad | exact hck _ _ (hnxt _ _ _ (rn _ _)) | exact hck _ _ (hck _ _ (hnxt _ _ _ (rn _ _)))) | (exfalso; simp_all)))
  case bipush byte => delta am_1; dsimp only; (first | exact hbad | exact hnxt _ _ _ rfl | exact hck _ _ (hnxt _ _ _ rfl) | exact hck _ _ (hck _ _ (hnxt _ _ _ rfl)) | exact hjmp _ _ _ _ rfl | exact hbr _ _ _ (hjmp _ _ _ _ rfl) (hnxt _ _ _ rfl) | exact hret _ | exact hck _ _ (hret _) | exact hcut _ _ _ _ rfl)
  case caload => exact hbad
  case castore => exact hbad
  case checkcast => exact hbad
  case d2f => exact hbad
  case d2i => exact hbad
  case d2l => exact hbad
  case dadd => delta am_1; dsimp only; exact am_binLC_u R hbad hck (fun _ => hnxt _ _ _ rfl) st
  case daload => exact hbad
  case dastore => exact hbad
  case dcmp => exact hbad
  case dconst => exact hbad
  case ddiv => exact hbad
  case dload => exact hbad
  case dload_n => exact hbad
  case dmul => delta am_1; dsimp only; exact am_binLC_u R hbad hck (fun _ => hnxt _ _ _ rfl) st
  case dneg => exact hbad
  case drem => exact hbad
  case dreturn => delta am_1; dsimp only; rcases st with _ | ⟨v | v | v, _ | ⟨w, st⟩⟩ <;> (first | exact hbad | exact hnxt _ _ _ rfl | exact hck _ _ (hnxt _ _ _ rfl) | exact hck _ _ (hck _ _ (hnxt _ _ _ rfl)) | exact hjmp _ _ _ _ rfl | exact hbr _ _ _ (hjmp _ _ _ _ rfl) (hnxt _ _ _ rfl) | exact hret _ | exact hck _ _ (hret _) | exact hcut _ _ _ _ rfl)
  case dstore => exact hbad
  case dstore_n => exact hbad
  case dsub => delta am_1; dsimp only; exact am_binLC_u R hbad hck (fun _ => hnxt _ _ _ rfl) st
  case dup => delta am_1; dsimp only; rcases st with _ | ⟨v | v | v, st⟩ <;> (first | exact hbad | exact hnxt _ _ _ rfl | exact hck _ _ (hnxt _ _ _ rfl) | exact hck _ _ (hck _ _ (hnxt _ _ _ rfl)) | exact hjmp _ _ _ _ rfl | exact hbr _ _ _ (hjmp _ _ _ _ rfl) (hnxt _ _ _ rfl) | exact hret _ | exact hck _ _ (hret _) | exact hcut _ _ _ _ rfl)
  case dup_x1 => exact hbad
  case dup_x2 => exact hbad
  case dup2 => delta am_1; dsimp only; rcases st with _ | ⟨v | v | v, _ | ⟨w | w | w, st⟩⟩ <;> (first | exact hbad | exact hnxt _ _ _ rfl | exact hck _ _ (hnxt _ _ _ rfl) | exact hck _ _ (hck _ _ (hnxt _ _ _ rfl)) | exact hjmp _ _ _ _ rfl | exact hbr _ _ _ (hjmp _ _ _ _ rfl) (hnxt _ _ _ rfl) | exact hret _ | exact hck _ _ (hret _) | exact hcut _ _ _ _ rfl)
  case dup2_x1 => exact hbad
  case dup2_x2 => exact hbad
  case f2d => exact hbad
  case f2i => exact hbad
  case f2l => exact hbad
  case fadd => delta am_1; dsimp only; exact am_binC_u R hbad hck (fun _ => hnxt _ _ _ rfl) st
  case faload => exact hbad
  case fastore => exact hbad
  case fcmp => exact hbad
  case fconst => exact hbad
  case fdiv => exact hbad
  case fload => exact hbad
  case fload_n => exact hbad
  case fmul => delta am_1; dsimp only; exact am_binC_u R hbad hck (fun _ => hnxt _ _ _ rfl) st
  case fneg => exact hbad
  case frem => exact hbad
  case freturn => delta am_1; dsimp only; rcases st with _ | ⟨v | v | v, _ | ⟨w, st⟩⟩ <;> (first | exact hbad | exact hnxt _ _ _ rfl | exact hck _ _ (hnxt _ _ _ rfl) | exact hck _ _ (hck _ _ (hnxt _ _ _ rfl)) | exact hjmp _ _ _ _ rfl | exact hbr _ _ _ (hjmp _ _ _ _ rfl) (hnxt _ _ _ rfl) | exact hret _ | exact hck _ _ (hret _) | exact hcut _ _ _ _ rfl)
  case fstore => exact hbad
  case fstore_n => exact hbad
  case fsub => delta am_1; dsimp only; exact am_binC_u R hbad hck (fun _ => hnxt _ _ _ rfl) st
  case getfield index => delta am_1; dsimp only; rcases st with _ | ⟨v | v | v, st⟩ <;> (first | exact hbad | (dsimp only; cases am_isO sh _ _ <;> (first | exact hbad | exact hnxt _ _ _ rfl | exact hck _ _ (hnxt _ _ _ rfl) | exact hck _ _ (hck _ _ (hnxt _ _ _ rfl)) | exact hjmp _ _ _ _ rfl | exact hbr _ _ _ (hjmp _ _ _ _ rfl) (hnxt _ _ _ rfl) | exact hret _ | exact hck _ _ (hret _) | exact hcut _ _ _ _ rfl)))
  case getstatic index => delta am_1; dsimp only; (first | exact hbad | exact hnxt _ _ _ rfl | exact hck _ _ (hnxt _ _ _ rfl) | exact hck _ _ (hck _ _ (hnxt _ _ _ rfl)) | exact hjmp _ _ _ _ rfl | exact hbr _ _ _ (hjmp _ _ _ _ rfl) (hnxt _ _ _ rfl) | exact hret _ | exact hck _ _ (hret _) | exact hcut _ _ _ _ rfl)
  case goto offset => delta am_1; dsimp only; (first | exact hbad | exact hnxt _ _ _ rfl | exact hck _ _ (hnxt _ _ _ rfl) | exact hck _ _ (hck _ _ (hnxt _ _ _ rfl)) | exact hjmp _ _ _ _ rfl | exact hbr _ _ _ (hjmp _ _ _ _ rfl) (hnxt _ _ _ rfl) | exact hret _ | exact hck _ _ (hret _) | exact hcut _ _ _ _ rfl)
  case goto_w => exact hbad
  case i2b => delta am_1; dsimp only; rcases st with _ | ⟨v | v | v, st⟩ <;> (first | exact hbad | exact hnxt _ _ _ rfl | exact hck _ _ (hnxt _ _ _ rfl) | exact hck _ _ (hck _ _ (hnxt _ _ _ rfl)) | exact hjmp _ _ _ _ rfl | exact hbr _ _ _ (hjmp _ _ _ _ rfl) (hnxt _ _ _ rfl) | exact hret _ | exact hck _ _ (hret _) | exact hcut _ _ _ _ rfl)
  case i2c => delta am_1; dsimp only; rcases st with _ | ⟨v | v | v, st⟩ <;> (first | exact hbad | exact hnxt _ _ _ rfl | exact hck _ _ (hnxt _ _ _ rfl) | exact hck _ _ (hck _ _ (hnxt _ _ _ rfl)) | exact hjmp _ _ _ _ rfl | exact hbr _ _ _ (hjmp _ _ _ _ rfl) (hnxt _ _ _ rfl) | exact hret _ | exact hck _ _ (hret _) | exact hcut _ _ _ _ rfl)
  case i2d => exact hbad
  case i2f => exact hbad
  case i2l => delta am_1; dsimp only; rcases st with _ | ⟨v | v | v, st⟩ <;> (first | exact hbad | exact hnxt _ _ _ rfl | exact hck _ _ (hnxt _ _ _ rfl) | exact hck _ _ (hck _ _ (hnxt _ _ _ rfl)) | exact hjmp _ _ _ _ rfl | exact hbr _ _ _ (hjmp _ _ _ _ rfl) (hnxt _ _ _ rfl) | exact hret _ | exact hck _ _ (hret _) | exact hcut _ _ _ _ rfl)
  case i2s => exact hbad
  case iadd => delta am_1; dsimp only; exact am_bin_u R hbad (fun _ => hnxt _ _ _ rfl) st
  case iaload => delta am_1; dsimp only; rcases st with _ | ⟨v | v | v, _ | ⟨w | w | w, st⟩⟩ <;> (first | exact hbad | (generalize am_kd sh _ = kk; split <;> (first | (first | exact hbad | exact hnxt _ _ _ rfl | exact hck _ _ (hnxt _ _ _ rfl) | exact hck _ _ (hck _ _ (hnxt _ _ _ rfl)) | exact hjmp _ _ _ _ rfl | exact hbr _ _ _ (hjmp _ _ _ _ rfl) (hnxt _ _ _ rfl) | exact hret _ | exact hck _ _ (hret _) | exact hcut _ _ _ _ rfl) | (split <;> first | (first | exact hbad | exact hnxt _ _ _ rfl | exact hck _ _ (hnxt _ _ _ rfl) | exact hck _ _ (hck _ _ (hnxt _ _ _ rfl)) | exact hjmp _ _ _ _ rfl | exact hbr _ _ _ (hjmp _ _ _ _ rfl) (hnxt _ _ _ rfl) | exact hret _ | exact hck _ _ (hret _) | exact hcut _ _ _ _ rfl) | (exfalso; simp_all)))))
  case iand => delta am_1; dsimp only; exact am_bin_u R hbad (fun _ => hnxt _ _ _ rfl) st
  case iastore => 
    delta am_1; dsimp only
    rcases st with _ | ⟨v | v | v, _ | ⟨w | w | w, _ | ⟨u | u | u, st⟩⟩⟩ <;> (first | exact hbad | skip)
    dsimp only
    by_cases e1 : u = 1
    · subst e1
      rw [k1]
      exact hbad
    · have rn : ∀ i v, am_up h u i v 1 = h 1 := fun _ _ => up_row (fun e => e1 e.symm)
      generalize am_kd sh u = kk
      split <;> (first | (first | exact hbad | exact hck _ _ (hnxt _ _ _ (rn _ _)) | exact hck _ _ (hck _ _ (hnxt _ _ _ (rn _ _)))) | (split <;> first | (first | exact hbad | exact hck _ _ (hnxt _ _ _ (rn _ _)) | exact hck _ _ (hck _ _ (hnxt _ _ _ (rn _ _)))) | (exfalso; simp_all)))
  case iconst i => delta am_1; dsimp only; (first | exact hbad | exact hnxt _ _ _ rfl | exact hck _ _ (hnxt _ _ _ rfl) | exact hck _ _ (hck _ _ (hnxt _ _ _ rfl)) | exact hjmp _ _ _ _ rfl | exact hbr _ _ _ (hjmp _ _ _ _ rfl) (hnxt _ _ _ rfl) | exact hret _ | exact hck _ _ (hret _) | exact hcut _ _ _ _ rfl)
  case idiv => delta am_1; dsimp only; rcases st with _ | ⟨v | v | v, _ | ⟨w | w | w, st⟩⟩ <;> (first | exact hbad | exact hnxt _ _ _ rfl | exact hck _ _ (hnxt _ _ _ rfl) | exact hck _ _ (hck _ _ (hnxt _ _ _ rfl)) | exact hjmp _ _ _ _ rfl | exact hbr _ _ _ (hjmp _ _ _ _ rfl) (hnxt _ _ _ rfl) | exact hret _ | exact hck _ _ (hret _) | exact hcut _ _ _ _ rfl)
  case if_acmp => exact hbad
  case if_icmp cond offset => delta am_1; dsimp only; rcases st with _ | ⟨v | v | v, _ | ⟨w | w | w, st⟩⟩ <;> (first | exact hbad | exact hnxt _ _ _ rfl | exact hck _ _ (hnxt _ _ _ rfl) | exact hck _ _ (hck _ _ (hnxt _ _ _ rfl)) | exact hjmp _ _ _ _ rfl | exact hbr _ _ _ (hjmp _ _ _ _ rfl) (hnxt _ _ _ rfl) | exact hret _ | exact hck _ _ (hret _) | exact hcut _ _ _ _ rfl)
  case ifCond cond offset => delta am_1; dsimp only; rcases st with _ | ⟨v | v | v, st⟩ <;> (first | exact hbad | exact hnxt _ _ _ rfl | exact hck _ _ (hnxt _ _ _ rfl) | exact hck _ _ (hck _ _ (hnxt _ _ _ rfl)) | exact hjmp _ _ _ _ rfl | exact hbr _ _ _ (hjmp _ _ _ _ rfl) (hnxt _ _ _ rfl) | exact hret _ | exact hck _ _ (hret _) | exact hcut _ _ _ _ rfl)
  case ifnonnull => exact hbad
  case ifnull => exact hbad
  case iinc index const => delta am_1; dsimp only; rcases hX : am_find index ls with _ | v | v | v <;> (first | exact hbad | ((first | exact hbad | exact hnxt _ _ _ rfl | exact hck _ _ (hnxt _ _ _ rfl) | exact hck _ _ (hck _ _ (hnxt _ _ _ rfl)) | exact hjmp _ _ _ _ rfl | exact hbr _ _ _ (hjmp _ _ _ _ rfl) (hnxt _ _ _ rfl) | exact hret _ | exact hck _ _ (hret _) | exact hcut _ _ _ _ rfl)))
  case iload index => delta am_1; dsimp only; rcases hX : am_find index ls with _ | v | v | v <;> (first | exact hbad | ((first | exact hbad | exact hnxt _ _ _ rfl | exact hck _ _ (hnxt _ _ _ rfl) | exact hck _ _ (hck _ _ (hnxt _ _ _ rfl)) | exact hjmp _ _ _ _ rfl | exact hbr _ _ _ (hjmp _ _ _ _ rfl) (hnxt _ _ _ rfl) | exact hret _ | exact hck _ _ (hret _) | exact hcut _ _ _ _ rfl)))
  case iload_n => exact hbad
  case imul => delta am_1; dsimp only; exact am_bin_u R hbad (fun _ => hnxt _ _ _ rfl) st
  case ineg => delta am_1; dsimp only; rcases st with _ | ⟨v | v | v, st⟩ <;> (first | exact hbad | exact hnxt _ _ _ rfl | exact hck _ _ (hnxt _ _ _ rfl) | exact hck _ _ (hck _ _ (hnxt _ _ _ rfl)) | exact hjmp _ _ _ _ rfl | exact hbr _ _ _ (hjmp _ _ _ _ rfl) (hnxt _ _ _ rfl) | exact hret _ | exact hck _ _ (hret _) | exact hcut _ _ _ _ rfl)
  case instanceof => exact hbad
  case invokedynamic => exact hbad
  case invokeinterface index count => 
    delta am_1; dsimp only
    rcases index with _ | _ | _ | _ | _ | index
    · rcases st with _ | ⟨v | v | v, st⟩ <;> (first | exact hbad | (dsimp only; cases (Nat.beq v 0 || Nat.beq v 8 || Nat.blt 8 (am_cat st)) <;> (first | exact hbad | exact hnxt _ _ _ rfl | exact hck _ _ (hnxt _ _ _ rfl) | exact hck _ _ (hck _ _ (hnxt _ _ _ rfl)) | exact hjmp _ _ _ _ rfl | exact hbr _ _ _ (hjmp _ _ _ _ rfl) (hnxt _ _ _ rfl) | exact hret _ | exact hck _ _ (hret _) | exact hcut _ _ _ _ rfl)))
    · rcases st with _ | ⟨v | v | v, _ | ⟨w | w | w, _ | ⟨u | u | u, st⟩⟩⟩ <;> (first | exact hbad | skip)
      rcases st with _ | ⟨v1 | v1 | v1, _ | ⟨v2 | v2 | v2, st⟩⟩ <;> (first | exact hbad | skip)
      dsimp only
      cases hb : (!(Nat.beq v2 u) && Nat.ble (am_cat st) 8 && Nat.beq (am_kd sh v2) 1 && Nat.beq (am_kd sh u) 1)
      · exact hbad
      · have hu : u ≠ 1 := by
          intro e
          subst e
          rw [k1] at hb
          simp at hb
        exact hck _ _ (hnxt _ _ _ (cp_row (fun e => hu e.symm)))
    · show R (cond (Nat.ble (am_cat st) 10) (am_bin False (fun a b => max a b) (fun st => nxt ls st (sh, h)) st) False)
      cases (Nat.ble (am_cat st) 10)
      · exact hbad
      · exact am_bin_u (nX := fun st => nxt ls st (sh, h)) R hbad (fun _ => hnxt _ _ _ rfl) st
    · show R (cond (Nat.ble (am_cat st) 10) (am_bin False (fun a b => min a b) (fun st => nxt ls st (sh, h)) st) False)
      cases (Nat.ble (am_cat st) 10)
      · exact hbad
      · exact am_bin_u (nX := fun st => nxt ls st (sh, h)) R hbad (fun _ => hnxt _ _ _ rfl) st
    · rcases st with _ | ⟨v | v | v, st⟩ <;> (first | exact hbad | (dsimp only; cases (Nat.ble (am_cat st) 8) <;> (first | exact hbad | exact hnxt _ _ _ rfl | exact hck _ _ (hnxt _ _ _ rfl) | exact hck _ _ (hck _ _ (hnxt _ _ _ rfl)) | exact hjmp _ _ _ _ rfl | exact hbr _ _ _ (hjmp _ _ _ _ rfl) (hnxt _ _ _ rfl) | exact hret _ | exact hck _ _ (hret _) | exact hcut _ _ _ _ rfl)))
    · exact hbad
  case invokespecial => cases hok
  case invokestatic index => delta am_1; dsimp only; rcases am_pop (na index) [] st with _ | ⟨as, st⟩ <;> (first | exact hbad | (dsimp only; cases (Nat.ble (am_cat st) 8) <;> (first | exact hbad | exact hcall _ _ _ hok (fun _ _ e => hnxt _ _ _ e))))
  case invokevirtual index => delta am_1; dsimp only; rcases am_pop (na index) [] st with _ | ⟨_ | ⟨v | v | v, as⟩, st⟩ <;> (first | exact hbad | (dsimp only; cases (Nat.beq (am_kd sh _) (na (2000 + index)) && Nat.ble (am_cat st) 8) <;> (first | exact hbad | exact hcall _ _ _ hok (fun _ _ e => hnxt _ _ _ e))))
  case ior => delta am_1; dsimp only; exact am_bin_u R hbad (fun _ => hnxt _ _ _ rfl) st
  case irem => delta am_1; dsimp only; rcases st with _ | ⟨v | v | v, _ | ⟨w | w | w, st⟩⟩ <;> (first | exact hbad | exact hnxt _ _ _ rfl | exact hck _ _ (hnxt _ _ _ rfl) | exact hck _ _ (hck _ _ (hnxt _ _ _ rfl)) | exact hjmp _ _ _ _ rfl | exact hbr _ _ _ (hjmp _ _ _ _ rfl) (hnxt _ _ _ rfl) | exact hret _ | exact hck _ _ (hret _) | exact hcut _ _ _ _ rfl)
  case ireturn => delta am_1; dsimp only; rcases st with _ | ⟨v | v | v, _ | ⟨w, st⟩⟩ <;> (first | exact hbad | exact hnxt _ _ _ rfl | exact hck _ _ (hnxt _ _ _ rfl) | exact hck _ _ (hck _ _ (hnxt _ _ _ rfl)) | exact hjmp _ _ _ _ rfl | exact hbr _ _ _ (hjmp _ _ _ _ rfl) (hnxt _ _ _ rfl) | exact hret _ | exact hck _ _ (hret _) | exact hcut _ _ _ _ rfl)
  case ishl => delta am_1; dsimp only; exact am_bin_u R hbad (fun _ => hnxt _ _ _ rfl) st
  case ishr => delta am_1; dsimp only; exact am_bin_u R hbad (fun _ => hnxt _ _ _ rfl) st
  case istore index => delta am_1; dsimp only; rcases st with _ | ⟨v | v | v, st⟩ <;> (first | exact hbad | exact hnxt _ _ _ rfl | exact hck _ _ (hnxt _ _ _ rfl) | exact hck _ _ (hck _ _ (hnxt _ _ _ rfl)) | exact hjmp _ _ _ _ rfl | exact hbr _ _ _ (hjmp _ _ _ _ rfl) (hnxt _ _ _ rfl) | exact hret _ | exact hck _ _ (hret _) | exact hcut _ _ _ _ rfl)
  case istore_n => exact hbad
  case isub => delta am_1; dsimp only; exact am_bin_u R hbad (fun _ => hnxt _ _ _ rfl) st
  case iushr => delta am_1; dsimp only; exact am_bin_u R hbad (fun _ => hnxt _ _ _ rfl) st
  case ixor => delta am_1; dsimp only; exact am_bin_u R hbad (fun _ => hnxt _ _ _ rfl) st
  case jsr => exact hbad
  case jsr_w => exact hbad
  case l2d => exact hbad
  case l2f => exact hbad
  case l2i => delta am_1; dsimp only; rcases st with _ | ⟨v | v | v, st⟩ <;> (first | exact hbad | exact hnxt _ _ _ rfl | exact hck _ _ (hnxt _ _ _ rfl) | exact hck _ _ (hck _ _ (hnxt _ _ _ rfl)) | exact hjmp _ _ _ _ rfl | exact hbr _ _ _ (hjmp _ _ _ _ rfl) (hnxt _ _ _ rfl) | exact hret _ | exact hck _ _ (hret _) | exact hcut _ _ _ _ rfl)
  case ladd => delta am_1; dsimp only; exact am_binL_u R hbad (fun _ => hnxt _ _ _ rfl) st
  case laload => delta am_1; dsimp only; rcases st with _ | ⟨v | v | v, _ | ⟨w | w | w, st⟩⟩ <;> (first | exact hbad | (generalize am_kd sh _ = kk; split <;> (first | (first | exact hbad | exact hnxt _ _ _ rfl | exact hck _ _ (hnxt _ _ _ rfl) | exact hck _ _ (hck _ _ (hnxt _ _ _ rfl)) | exact hjmp _ _ _ _ rfl | exact hbr _ _ _ (hjmp _ _ _ _ rfl) (hnxt _ _ _ rfl) | exact hret _ | exact hck _ _ (hret _) | exact hcut _ _ _ _ rfl) | (split <;> first | (first | exact hbad | exact hnxt _ _ _ rfl | exact hck _ _ (hnxt _ _ _ rfl) | exact hck _ _ (hck _ _ (hnxt _ _ _ rfl)) | exact hjmp _ _ _ _ rfl | exact hbr _ _ _ (hjmp _ _ _ _ rfl) (hnxt _ _ _ rfl) | exact hret _ | exact hck _ _ (hret _) | exact hcut _ _ _ _ rfl) | (exfalso; simp_all)))))
  case land => delta am_1; dsimp only; exact am_binL_u R hbad (fun _ => hnxt _ _ _ rfl) st
  case lastore => 
    delta am_1; dsimp only
    rcases st with _ | ⟨v | v | v, _ | ⟨w | w | w, _ | ⟨u | u | u, st⟩⟩⟩ <;> (first | exact hbad | skip)
    dsimp only
    by_cases e1 : u = 1
    · subst e1
      rw [k1]
      exact hbad
    · have rn : ∀ i v, am_up h u i v 1 = h 1 := fun _ _ => up_row (fun e => e1 e.symm)
      generalize am_kd sh u = kk
      split <;> (first | (first | exact hbad | exact hck _ _ (hnxt _ _ _ (rn _ _)) | exact hck _ _ (hck _ _ (hnxt _ _ _ (rn _ _)))) | (split <;> first | (first | exact hbad | exact hck _ _ (hnxt _ _ _ (rn _ _)) | exact hck _ _ (hck _ _ (hnxt _ _ _ (rn _ _)))) | (exfalso; simp_all)))
  case lcmp => delta am_1; dsimp only; rcases st with _ | ⟨v | v | v, _ | ⟨w | w | w, st⟩⟩ <;> (first | exact hbad | exact hnxt _ _ _ rfl | exact hck _ _ (hnxt _ _ _ rfl) | exact hck _ _ (hck _ _ (hnxt _ _ _ rfl)) | exact hjmp _ _ _ _ rfl | exact hbr _ _ _ (hjmp _ _ _ _ rfl) (hnxt _ _ _ rfl) | exact hret _ | exact hck _ _ (hret _) | exact hcut _ _ _ _ rfl)
  case lconst => exact hbad
  case ldc => exact hbad
  case ldc_w => exact hbad
  case ldc2_w => exact hbad
  case ldiv => delta am_1; dsimp only; rcases st with _ | ⟨v | v | v, _ | ⟨w | w | w, st⟩⟩ <;> (first | exact hbad | exact hnxt _ _ _ rfl | exact hck _ _ (hnxt _ _ _ rfl) | exact hck _ _ (hck _ _ (hnxt _ _ _ rfl)) | exact hjmp _ _ _ _ rfl | exact hbr _ _ _ (hjmp _ _ _ _ rfl) (hnxt _ _ _ rfl) | exact hret _ | exact hck _ _ (hret _) | exact hcut _ _ _ _ rfl)
  case lload index => delta am_1; dsimp only; rcases hX : am_find index ls with _ | v | v | v <;> (first | exact hbad | ((first | exact hbad | exact hnxt _ _ _ rfl | exact hck _ _ (hnxt _ _ _ rfl) | exact hck _ _ (hck _ _ (hnxt _ _ _ rfl)) | exact hjmp _ _ _ _ rfl | exact hbr _ _ _ (hjmp _ _ _ _ rfl) (hnxt _ _ _ rfl) | exact hret _ | exact hck _ _ (hret _) | exact hcut _ _ _ _ rfl)))
  case lload_n => exact hbad
  case lmul => delta am_1; dsimp only; exact am_binL_u R hbad (fun _ => hnxt _ _ _ rfl) st
  case lneg => exact hbad
  case lookupswitch => exact hbad
  case lor => exact hbad
  case lrem => exact hbad
  case lreturn => delta am_1; dsimp only; rcases st with _ | ⟨v | v | v, _ | ⟨w, st⟩⟩ <;> (first | exact hbad | exact hnxt _ _ _ rfl | exact hck _ _ (hnxt _ _ _ rfl) | exact hck _ _ (hck _ _ (hnxt _ _ _ rfl)) | exact hjmp _ _ _ _ rfl | exact hbr _ _ _ (hjmp _ _ _ _ rfl) (hnxt _ _ _ rfl) | exact hret _ | exact hck _ _ (hret _) | exact hcut _ _ _ _ rfl)
  case lshl => delta am_1; dsimp only; rcases st with _ | ⟨v | v | v, _ | ⟨w | w | w, st⟩⟩ <;> (first | exact hbad | exact hnxt _ _ _ rfl | exact hck _ _ (hnxt _ _ _ rfl) | exact hck _ _ (hck _ _ (hnxt _ _ _ rfl)) | exact hjmp _ _ _ _ rfl | exact hbr _ _ _ (hjmp _ _ _ _ rfl) (hnxt _ _ _ rfl) | exact hret _ | exact hck _ _ (hret _) | exact hcut _ _ _ _ rfl)
  case lshr => delta am_1; dsimp only; rcases st with _ | ⟨v | v | v, _ | ⟨w | w | w, st⟩⟩ <;> (first | exact hbad | exact hnxt _ _ _ rfl | exact hck _ _ (hnxt _ _ _ rfl) | exact hck _ _ (hck _ _ (hnxt _ _ _ rfl)) | exact hjmp _ _ _ _ rfl | exact hbr _ _ _ (hjmp _ _ _ _ rfl) (hnxt _ _ _ rfl) | exact hret _ | exact hck _ _ (hret _) | exact hcut _ _ _ _ rfl)
  case lstore index => delta am_1; dsimp only; rcases st with _ | ⟨v | v | v, st⟩ <;> (first | exact hbad | exact hnxt _ _ _ rfl | exact hck _ _ (hnxt _ _ _ rfl) | exact hck _ _ (hck _ _ (hnxt _ _ _ rfl)) | exact hjmp _ _ _ _ rfl | exact hbr _ _ _ (hjmp _ _ _ _ rfl) (hnxt _ _ _ rfl) | exact hret _ | exact hck _ _ (hret _) | exact hcut _ _ _ _ rfl)
  case lstore_n => exact hbad
  case lsub => delta am_1; dsimp only; exact am_binL_u R hbad (fun _ => hnxt _ _ _ rfl) st
  case lushr => delta am_1; dsimp only; rcases st with _ | ⟨v | v | v, _ | ⟨w | w | w, st⟩⟩ <;> (first | exact hbad | exact hnxt _ _ _ rfl | exact hck _ _ (hnxt _ _ _ rfl) | exact hck _ _ (hck _ _ (hnxt _ _ _ rfl)) | exact hjmp _ _ _ _ rfl | exact hbr _ _ _ (hjmp _ _ _ _ rfl) (hnxt _ _ _ rfl) | exact hret _ | exact hck _ _ (hret _) | exact hcut _ _ _ _ rfl)
  case lxor => delta am_1; dsimp only; exact am_binL_u R hbad (fun _ => hnxt _ _ _ rfl) st
  case monitorenter => exact hbad
  case monitorexit => exact hbad
  case multianewarray => exact hbad
  case new => cases hok
  case newarray => cases hok
  case nop => delta am_1; dsimp only; (first | exact hbad | exact hnxt _ _ _ rfl | exact hck _ _ (hnxt _ _ _ rfl) | exact hck _ _ (hck _ _ (hnxt _ _ _ rfl)) | exact hjmp _ _ _ _ rfl | exact hbr _ _ _ (hjmp _ _ _ _ rfl) (hnxt _ _ _ rfl) | exact hret _ | exact hck _ _ (hret _) | exact hcut _ _ _ _ rfl)
  case pop => delta am_1; dsimp only; rcases st with _ | ⟨v | v | v, st⟩ <;> (first | exact hbad | exact hnxt _ _ _ rfl | exact hck _ _ (hnxt _ _ _ rfl) | exact hck _ _ (hck _ _ (hnxt _ _ _ rfl)) | exact hjmp _ _ _ _ rfl | exact hbr _ _ _ (hjmp _ _ _ _ rfl) (hnxt _ _ _ rfl) | exact hret _ | exact hck _ _ (hret _) | exact hcut _ _ _ _ rfl)
  case pop2 => delta am_1; dsimp only; rcases st with _ | ⟨v | v | v, st⟩ <;> (first | exact hbad | exact hnxt _ _ _ rfl | exact hck _ _ (hnxt _ _ _ rfl) | exact hck _ _ (hck _ _ (hnxt _ _ _ rfl)) | exact hjmp _ _ _ _ rfl | exact hbr _ _ _ (hjmp _ _ _ _ rfl) (hnxt _ _ _ rfl) | exact hret _ | exact hck _ _ (hret _) | exact hcut _ _ _ _ rfl)
  case putfield index => delta am_1; dsimp only; rcases st with _ | ⟨v | v | v, _ | ⟨w | w | w, st⟩⟩ <;> (first | exact hbad | (dsimp only; cases hb : (am_isO sh w _ && Nat.ble 9 w) <;> (first | exact hbad | exact am_putf_u R hbad hck (fun _ e => hnxt _ _ _ e) (Nat.le_of_ble_eq_true (Bool.and_eq_true_iff.mp hb).2) hok)))
  case putstatic => exact hbad
  case ret => exact hbad
  case return_ => delta am_1; dsimp only; rcases st with _ | ⟨v | v | v, _ | ⟨w, st⟩⟩ <;> (first | exact hbad | exact hnxt _ _ _ rfl | exact hck _ _ (hnxt _ _ _ rfl) | exact hck _ _ (hck _ _ (hnxt _ _ _ rfl)) | exact hjmp _ _ _ _ rfl | exact hbr _ _ _ (hjmp _ _ _ _ rfl) (hnxt _ _ _ rfl) | exact hret _ | exact hck _ _ (hret _) | exact hcut _ _ _ _ rfl)
  case saload => exact hbad
  case sastore => exact hbad
  case sipush => exact hbad
  case swap => exact hbad
  case tableswitch default low high offsets => delta am_1; dsimp only; rcases st with _ | ⟨v | v | v, st⟩ <;> (first | exact hbad | exact hbr _ _ _ (hjmp _ _ _ _ rfl) (am_sw_u R hbad hbr (fun _ => hjmp _ _ _ _ rfl) _ _ _))
theorem okI2_drop {code : List aI} {i t : Nat} (h : (code.drop i).all okI2 = true) (hit : i ≤ t) : (code.drop t).all okI2 = true := by
  rw [show t = i + (t - i) by omega, ← List.drop_drop]
  rw [List.all_eq_true] at h ⊢
  exact fun x hx => h x (List.mem_of_mem_drop hx)
theorem am_x_u {na : Nat → Nat} {lim : Nat × Nat} {call : Nat → List aV → aS → (Option aV → aH → Prop) → Prop} {sp : Nat → List aV → aS → (aS → Prop) → Prop} {ret : Option aV → aS → Prop} {cut : Nat → aL → List aV → aS → Prop} {sh : List aC} {h0 : aH} (k1 : am_kd sh 1 = 6) {code : List aI} {i0 : Nat}
    (hbad : R False) (hbr : ∀ c x x' : Prop, R x → R x' → R ((c → x) ∧ (¬ c → x'))) (hck : ∀ c x, R x → R (c ∧ x))
    (hcall : ∀ id as h c, h 1 = h0 1 → okB id = true → (∀ v h', h' 1 = h 1 → R (c v h')) → R (call id as (sh, h) c)) (hret : ∀ v h, h 1 = h0 1 → R (ret v (sh, h))) (hcut : ∀ i a st h, h 1 = h0 1 → i0 ≤ i ∨ True → R (cut i a st (sh, h)))
    (hcode : code.all okI2 = true) : ∀ (f i : Nat) (rest : List aI) (ls : aL) (st : List aV) (h : aH), h 1 = h0 1 → rest.all okI2 = true → R (am_x ftab na lim False brP ckP call sp ret cut code f i rest ls st (sh, h)) := by
  intro f
  induction f with
  | zero => intro i rest ls st h _ _; exact hbad
  | succ f ih =>
    intro i rest ls st h hh hr
    rcases rest with _ | ⟨ins, rest⟩
    · exact hbad
    · rw [List.all_cons, Bool.and_eq_true_iff] at hr
      refine am_1_u R k1 hbad hbr hck (fun id as c ok hc => hcall id as h c hh ok hc) (fun v => hret v h hh) (fun i a st h' e => hcut i a st h' (e.trans hh) (Or.inr trivial)) (fun a st h' e => ih (i + 1) rest a st h' (e.trans hh) hr.2) i (fun t a st h' e => ?_) ins hr.1 ls st
      show R (bif Nat.ble t i then _ else _)
      cases hb : Nat.ble t i with
      | true => exact hcut _ _ _ _ (e.trans hh) (Or.inr trivial)
      | false => exact ih t (code.drop t) a st h' (e.trans hh) (okI2_drop (i := 0) hcode (Nat.zero_le _))
end ROW
set_option maxRecDepth 100000 in
theorem okI2_all : (List.range 353).all (fun y => !(okB y) || (mM y).all okI2) = true := by decide +kernel
theorem okI2_at {y : Nat} (h : okB y = true) : (mM y).all okI2 = true := by
  have := List.all_eq_true.mp okI2_all y (List.mem_range.mpr (okB_at h).1)
  rw [h] at this
  simpa using this
theorem am_R_row {N : Nat} : ∀ (n k : Nat) (lim : Nat × Nat) (i : Nat) (ls : aL) (st : List aV) (h : aH) (v : Option aV) (h2 : aH), okB k = true → am_R mM n k lim i ls st (SH N, h) v (SH N, h2) → h2 1 = h 1
  | 0, k, lim, i, ls, st, h, v, h2, _, H => by cases H
  | n + 1, k, lim, i, ls, st, h, v, h2, hk, H => by
    have hc := okI2_at hk
    refine am_x_u (fun x => x → h2 1 = h 1) (sh := SH N) (h0 := h) (i0 := 0) (by rfl) (fun f => f.elim) (fun c x x' a b q => ?_) (fun c x a q => a q.2) (fun id as h' c e ok a q => ?_) (fun v' h' e q => ?_) (fun i a st h' e _ q => ?_) hc 5000 i _ ls st h rfl (okI2_drop (i := 0) hc (Nat.zero_le _)) H
    · rcases Classical.em c with z | z
      · exact a (q.1 z)
      · exact b (q.2 z)
    · obtain ⟨w, h3, f, r, cc⟩ := q
      exact a w h3 (am_R_row n id _ 0 _ [] h' w h3 ok r) cc
    · have : h2 = h' := by
        have := q.2
        injection this
      rw [this]; exact e
    · exact (am_R_row n k lim i a st h' v h2 hk q).trans e
theorem WI.row {N k i : Nat} {ls : aL} {h : aH} {C : Int → aH → Prop} (W : WI N k i ls h C) (hk : okB k = true) : WI N k i ls h (fun v h' => h' 1 = h 1 ∧ C v h') := fun lim ls2 hl => by
  obtain ⟨v, h2, ⟨x, e, hc⟩, n0, hr⟩ := W lim ls2 hl
  exact ⟨v, h2, ⟨x, e, am_R_row n0 k lim i ls2 [] h v h2 hk (hr n0 (Nat.le_refl _)), hc⟩, n0, hr⟩
theorem WL.row {N k i : Nat} {ls : aL} {h : aH} {C : Int → aH → Prop} (W : WL N k i ls h C) (hk : okB k = true) : WL N k i ls h (fun v h' => h' 1 = h 1 ∧ C v h') := fun lim ls2 hl => by
  obtain ⟨v, h2, ⟨x, e, hc⟩, n0, hr⟩ := W lim ls2 hl
  exact ⟨v, h2, ⟨x, e, am_R_row n0 k lim i ls2 [] h v h2 hk (hr n0 (Nat.le_refl _)), hc⟩, n0, hr⟩
