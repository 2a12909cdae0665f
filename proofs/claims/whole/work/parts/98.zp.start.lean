/-! the beginning -/
def R_law : String := "WakeHouseLaw"
def lw_P (b : Addr) (xs : List Int32) (args : Array Value) (s : State) : Prop := args = #[.ref b] ∧ s.IntsAt b xs ∧ xs.length ≤ 3072 ∧ (Jvm.Cond.and given_1 narrow_1).before args s = true
def lw_Q (_ : Array Value) (s : State) (o : Outcome) (t : State) : Prop := o = .returned (some (.int 1)) ∧ Framed s o t [] 600000 7302250
def lw_Z (below : List Frame) (a : Array Value) (s : State) : State → Prop := fun t => ∃ o, t.status = .running ∧ Ended t below o ∧ lw_Q a s o t
/-- the law's own end, with 1 on the stack, nothing written that was there before, its room as the claim has it -/
theorem lw_ret {p : Program} {l : Launch} {e : Env} {s : State} {m : MethodId} {below : List Frame} {meth : Method} {c : Code} {b : Nat} (hx : p.tables.exec = Jvm.exec) (hb : c.code = code) (hr : meth.sig.returnType = ret) (hlocks : meth.locks = false) {pc : Nat} {H : Heap} {ls : Array Slot} (hdg : decode code pc = .ok (.ireturn, 1)) : W p l e room_1 s m #[Value.ref b] below meth c H [] 600000 7302250 (lw_Z below #[Value.ref b] s) (F0 m pc ls [.int 1]) := by
  intro T hT X
  obtain ⟨fs, hret, hrun, hended, hW, hframe⟩ := X.leave (v := some (.int 1)) (hlocks := hlocks) (fun h => by rw [hr] at h; cases h)
  have hmeth' : T.vm.method? m = some meth := X.method'
  refine ⟨T.setFrames fs, ?_, .returned (some (.int 1)), hrun, hended, rfl, ⟨_, rfl⟩, hW, hframe⟩
  jvm_step X.here [X.here.top, hx, hb, hdg, hmeth', hr, ret, narrow_b1]
  (try refine ⟨rfl, ?_⟩); (try refine ⟨rfl, ?_⟩)
  first | (intro acts; rw [hret _ acts rfl rfl rfl]) | rw [hret _ _ rfl rfl rfl]
  exact Steps.refl _
/-- what holds at the law's entry: the machine, the code, the tables' words (any of lw_tbl by 'hts w (by decide +kernel)'), the script of L ints xs at the cell b, what the Statement gives of the start (any of its parts by flat_of_before) -/
def lw_At (p : Program) (s : State) (m : MethodId) (meth : Method) (c : Code) (b L : Nat) (xs : Nat → Int32) : Prop :=
  p.tables.exec = Jvm.exec ∧ c.code = code ∧ meth.sig.returnType = ret ∧ c.maxLocals = 4 ∧ s.vm.findClass R_law = some m.cls ∧ (∀ w ∈ lw_tbl, w.before #[Value.ref b] s = true) ∧ va_X b L xs s s.heap ∧ b < s.heap.size ∧ meth.locks = false ∧ (Jvm.Cond.and given_1 narrow_1).before #[Value.ref b] s = true
/-- what the statement gives, word by word -/
def gvC : List Cond := flatC (Jvm.Cond.and given_1 narrow_1)
theorem gv_tab {α : Type} (l : List α) (ps : List Nat) (f : α → Cond) (h : l.map f = am_sel ps gvC) : ∀ q ∈ l, f q ∈ gvC := by
  intro q hq
  have h1 : f q ∈ l.map f := List.mem_map.mpr ⟨q, hq, rfl⟩
  rw [h] at h1
  exact am_sel_in _ _ _ h1
def tmH : Term := .static "WakeHouse" "HUNDREDS" "[J"
def tmN : Term := .static "WakeHouse$Shaking" "NINES" "[I"
def tmS (k : Nat) : Term := .string "WakeHouse$Tape" k
def tmV (k : Nat) : Term := .field (tmS k) "java/lang/String" "value" "[B"
def gap (k n : Nat) : List Nat := k :: List.replicate n 0
theorem gv_H : ∀ q ∈ List.range 9, Cond.eq (.elem tmH (.int (Int32.ofNat q))) (.long (Int64.ofInt (H0 2 q))) ∈ gvC := gv_tab (List.range 9) (gap 12 8) (fun q => Cond.eq (.elem tmH (.int (Int32.ofNat q))) (.long (Int64.ofInt (H0 2 q)))) (by decide +kernel)
theorem gv_N : ∀ q ∈ List.range 8, Cond.eq (.elem tmN (.int (Int32.ofNat q))) (.int (Int32.ofInt (H0 3 q))) ∈ gvC := gv_tab (List.range 8) (gap 24 7) (fun q => Cond.eq (.elem tmN (.int (Int32.ofNat q))) (.int (Int32.ofInt (H0 3 q)))) (by decide +kernel)
theorem gv_W : ∀ q ∈ List.range 93, Cond.eq (.elem (tmV 27) (.int (Int32.ofNat q))) (.int (Int32.ofInt (H0 5 q))) ∈ gvC := gv_tab (List.range 93) (gap 36 92) (fun q => Cond.eq (.elem (tmV 27) (.int (Int32.ofNat q))) (.int (Int32.ofInt (H0 5 q)))) (by decide +kernel)
theorem gv_G : ∀ q ∈ List.range 10, Cond.eq (.elem (tmV 81) (.int (Int32.ofNat q))) (.int (Int32.ofInt (H0 7 q))) ∈ gvC := gv_tab (List.range 10) (gap 133 9) (fun q => Cond.eq (.elem (tmV 81) (.int (Int32.ofNat q))) (.int (Int32.ofInt (H0 7 q)))) (by decide +kernel)
theorem gv_1 : ∀ q ∈ [Cond.eq (.static "java/lang/String" "COMPACT_STRINGS" "Z") (.int 1), Cond.isRef (.static "jdk/internal/util/Preconditions" "SIOOBE_FORMATTER" "Ljava/util/function/BiFunction;"), Cond.arrayOf tmH .long, Cond.eq (.length tmH) (.int (Int32.ofNat 9)), Cond.arrayOf tmN .int, Cond.eq (.length tmN) (.int (Int32.ofNat 8)), Cond.exactly (tmS 27) "java/lang/String", Cond.eq (.field (tmS 27) "java/lang/String" "coder" "B") (.int 0), Cond.arrayOf (tmV 27) .byte, Cond.eq (.length (tmV 27)) (.int (Int32.ofNat 93)), Cond.exactly (tmS 81) "java/lang/String", Cond.eq (.field (tmS 81) "java/lang/String" "coder" "B") (.int 0), Cond.arrayOf (tmV 81) .byte, Cond.eq (.length (tmV 81)) (.int (Int32.ofNat 10))], q ∈ gvC :=
  gv_tab _ [4, 0, 4, 0, 10, 0, 8, 0, 0, 0, 93, 0, 0, 0] (fun q => q) (by decide +kernel)
theorem tb_2 : Cond.laysStatic "WakeHouse" "HUNDREDS" "[J" ∈ lw_tbl := am_sel_in [1202] _ _ (by decide +kernel)
theorem tb_3 : Cond.laysStatic "WakeHouse$Shaking" "NINES" "[I" ∈ lw_tbl := am_sel_in [1397] _ _ (by decide +kernel)
theorem tb_8 : Cond.laysStatic "jdk/internal/util/Preconditions" "SIOOBE_FORMATTER" "Ljava/util/function/BiFunction;" ∈ lw_tbl := am_sel_in [216] _ _ (by decide +kernel)
theorem tb_c : Cond.laysStatic "java/lang/String" "COMPACT_STRINGS" "Z" ∈ lw_tbl := am_sel_in [200] _ _ (by decide +kernel)
theorem tb_4 : Cond.stringRef "WakeHouse$Tape" 27 "loud gap floors hour deep wool after bed clock fast slow sleeper in up late vain hears again " ∈ lw_tbl := am_sel_in [190] _ _ (by decide +kernel)
theorem tb_6 : Cond.stringRef "WakeHouse$Tape" 81 ";+-*/<()[]" ∈ lw_tbl := am_sel_in [874] _ _ (by decide +kernel)
theorem tb_i2 : Cond.initialized "WakeHouse" ∈ lw_tbl := am_sel_in [153] _ _ (by decide +kernel)
theorem tb_i3 : Cond.initialized "WakeHouse$Shaking" ∈ lw_tbl := am_sel_in [166] _ _ (by decide +kernel)
theorem tb_i8 : Cond.initialized "jdk/internal/util/Preconditions" ∈ lw_tbl := am_sel_in [157] _ _ (by decide +kernel)
theorem tb_ic : Cond.initialized "java/lang/String" ∈ lw_tbl := am_sel_in [155] _ _ (by decide +kernel)
/-- the classes -/
theorem start_K {s : State} {b : Nat} (hts : ∀ w ∈ lw_tbl, w.before #[Value.ref b] s = true) : ∃ (dC : Nat → ClassId) (dI : Nat → Nat → Nat) (ct : Nat → ClassId), va_K (dC, dI) vwCl (am_ts ct) s := by
  have hts2 : ∀ w ∈ lw_tbl, lw_use w = true → w.before #[Value.ref b] s = true := fun w h _ => hts w h
  have key : ∀ c : Nat, ∃ q : ClassId × (Nat → Nat), c < 13 → u_Kn s (cN c) (cT c) (nf c) q.1 q.2 := by
    intro c
    by_cases hc : c < 13
    · obtain ⟨cC, iS, h⟩ := u_known (C := cN c) (T := cT c) (N := nf c) (n := nf c) (lay_of hts2 hc) (fun w h => h) (hts _ (ins_ok c (ins_all c hc)))
      exact ⟨(cC, iS), fun _ => h⟩
    · exact ⟨(0, fun _ => 0), fun h => absurd h hc⟩
  obtain ⟨f, hf⟩ := Classical.axiomOfChoice key
  obtain ⟨c1, k1, p1, a1, a2, a3⟩ := Cond.arrayClass_spec (hts _ arI)
  obtain ⟨c2, k2, p2, b1, b2, b3⟩ := Cond.arrayClass_spec (hts _ arJ)
  obtain ⟨c3, k3, p3, d1, d2, d3⟩ := Cond.arrayClass_spec (hts _ arB)
  obtain ⟨c4, k4, p4, e1, e2, e3⟩ := Cond.arrayClass_spec (hts _ arZ)
  obtain ⟨comp, c5, k5, f1, f2, f3, f4, f5⟩ := Cond.arrayOver_spec (hts _ arS)
  refine ⟨fun c => (f c).1, fun c => (f c).2, fun r => am_nth 0 [0, c1, c2, c3, c4, c5] r, ?_, ?_⟩
  · intro c q hq
    have hc : c < 13 := (List.getElem?_eq_some_iff.mp hq).1
    rw [cls_at c hc] at hq
    cases hq
    exact hf c hc
  · intro k q hq
    match k, hq with
    | 0, hq => cases hq; exact ⟨fun n z => ⟨(fun k h => by cases h), k1, a2, p1, a3⟩, a1⟩
    | 1, hq => cases hq; exact ⟨fun n z => ⟨(fun k h => by cases h), k2, b2, p2, b3⟩, b1⟩
    | 2, hq => cases hq; exact ⟨fun n z => ⟨(fun k h => by cases h), k3, d2, p3, d3⟩, d1⟩
    | 3, hq => cases hq; exact ⟨fun n z => ⟨(fun k h => by cases h), k4, e2, p4, e3⟩, e1⟩
    | 4, hq => cases hq; exact ⟨fun n z => ⟨(fun k h => by cases h), k5, f3, comp, f4⟩, k5, comp, f3, f4, f1, f5⟩
    | k + 5, hq => simp [am_ts] at hq
theorem am_nth_all {P : Int → Prop} (h0 : P 0) : ∀ (l : List Int), (∀ x ∈ l, P x) → ∀ k, P (am_nth 0 l k)
  | [], _, _ => h0
  | x :: l, h, 0 => h x List.mem_cons_self
  | x :: l, h, k + 1 => am_nth_all h0 l (fun y hy => h y (List.mem_cons_of_mem _ hy)) k
/-- the contents fit -/
theorem start_ok {N : Nat} {xs : Nat → Int32} : ok_h ftab (upS N sh0, upH (fun j => (xs j).toInt) H0) := by
  intro r k
  have z : ∀ (ty : Nat), ok_t ty 0 := ok_t0
  match r with
  | 0 => exact z _
  | 1 => exact (show am_rg (xs k).toInt from ⟨Int32.le_toInt _, Int32.toInt_lt _⟩)
  | 2 => exact am_nth_all (P := am_rl) (rg_rl rg0) _ (by intro x hx; simp only [List.mem_cons, List.not_mem_nil, or_false] at hx; unfold am_rl; omega) k
  | 3 => exact am_nth_all (P := am_rg) rg0 _ (by intro x hx; simp only [List.mem_cons, List.not_mem_nil, or_false] at hx; unfold am_rg; omega) k
  | 4 => exact z _
  | 5 => exact am_nth_all (P := fun z => -128 ≤ z ∧ z < 128) (by decide) _ (fun x hx => of_decide_eq_true (List.all_eq_true.mp (show (List.all _ fun x => decide (-128 ≤ x ∧ x < 128)) = true by decide +kernel) x hx)) k
  | 6 => exact z _
  | 7 => exact am_nth_all (P := fun z => -128 ≤ z ∧ z < 128) (by decide) _ (fun x hx => of_decide_eq_true (List.all_eq_true.mp (show (List.all _ fun x => decide (-128 ≤ x ∧ x < 128)) = true by decide +kernel) x hx)) k
  | r + 8 => exact z _
/-- what was there before -/
def adF (z b t2 t3 t4 t5 t6 t7 t8 n : Nat) : Nat → Nat
  | 0 => z
  | 1 => b
  | 2 => t2
  | 3 => t3
  | 4 => t4
  | 5 => t5
  | 6 => t6
  | 7 => t7
  | 8 => t8
  | r + 9 => n + r
theorem start_X {s : State} {b N : Nat} {xs : Nat → Int32} (hts : ∀ w ∈ lw_tbl, w.before #[Value.ref b] s = true) (hX : va_X b N xs s s.heap) (hbl : b < s.heap.size) (hN : N ≤ 3072) (hgv : (Jvm.Cond.and given_1 narrow_1).before #[Value.ref b] s = true) : ∃ z t2 t3 t4 t5 t6 t7 t8 : Nat, XF (adF z b t2 t3 t4 t5 t6 t7 t8 s.heap.size) (upS N sh0, upH (fun j => (xs j).toInt) H0) s s.heap := by
  have hs : ∀ c ∈ gvC, c.before #[Value.ref b] s = true := flat_of_before _ hgv
  have g1 := fun q hq => hs q (gv_1 q hq)
  simp only [List.forall_mem_cons] at g1
  obtain ⟨q1, q2, q3, q4, q5, q6, q7, q8, q9, q10, q11, q12, q13, q14, -⟩ := g1
  have hA : ∀ a : Nat, a < s.heap.size → ¬ (fun q : Nat => s.heap.size ≤ q) a := fun a h => Nat.not_le.mpr h
  obtain ⟨t2, e2, T2⟩ := va_Tof (f := fun j => .long (Int64.ofInt (H0 2 j))) (A := fun q : Nat => s.heap.size ≤ q) (by decide) q3 (va_eqt q4) (fun j hj => va_eqtl (hs _ (gv_H j (List.mem_range.mpr hj)))) hA
  obtain ⟨t3, e3, T3⟩ := va_Tof (f := fun j => .int (Int32.ofInt (H0 3 j))) (A := fun q : Nat => s.heap.size ≤ q) (by decide) q5 (va_eqt q6) (fun j hj => va_eqt (hs _ (gv_N j (List.mem_range.mpr hj)))) hA
  obtain ⟨t5, e5, T5⟩ := va_Tof (f := fun j => .int (Int32.ofInt (H0 5 j))) (A := fun q : Nat => s.heap.size ≤ q) (by decide) q9 (va_eqt q10) (fun j hj => va_eqt (hs _ (gv_W j (List.mem_range.mpr hj)))) hA
  obtain ⟨t7, e7, T7⟩ := va_Tof (f := fun j => .int (Int32.ofInt (H0 7 j))) (A := fun q : Nat => s.heap.size ≤ q) (by decide) q13 (va_eqt q14) (fun j hj => va_eqt (hs _ (gv_G j (List.mem_range.mpr hj)))) hA
  obtain ⟨t4, c4, cA4, kA4, x1, x2, x3, x4, x5, x6, -⟩ := Cond.exactly_spec (args := #[Value.ref b]) (first := s) (o := none) (s := s) (idx := []) (t := tmS 27) (cls := "java/lang/String") q7
  obtain ⟨t6, c6, cA6, kA6, y1, y2, y3, y4, y5, y6, -⟩ := Cond.exactly_spec (args := #[Value.ref b]) (first := s) (o := none) (s := s) (idx := []) (t := tmS 81) (cls := "java/lang/String") q11
  have O4 := va_Oof q7 x1 hA
  have O6 := va_Oof q11 y1 hA
  have F4 := vk_OFof x1 (va_eqt q8) hA
  have F6 := vk_OFof y1 (va_eqt q12) hA
  have V4 := vk_OFof x1 e5 hA
  have V6 := vk_OFof y1 e7 hA
  have Z2 := va_Zof (hts _ tb_2) (hts _ tb_i2) e2 hA
  have Z3 := va_Zof (hts _ tb_3) (hts _ tb_i3) e3 hA
  have Zc := va_Zof (hts _ tb_c) (hts _ tb_ic) (va_eqi q1) hA
  have R4 : vk_R "WakeHouse$Tape" 27 "loud gap floors hour deep wool after bed clock fast slow sleeper in up late vain hears again " t4 s := vk_R.of (hts _ tb_4) x1
  have R6 : vk_R "WakeHouse$Tape" 81 ";+-*/<()[]" t6 s := vk_R.of (hts _ tb_6) y1
  obtain ⟨z, t8, Z8⟩ : ∃ z t8 : Nat, va_Z "jdk/internal/util/Preconditions" "SIOOBE_FORMATTER" "Ljava/util/function/BiFunction;" (bif Nat.beq z 0 then .null else .ref t8) (fun q : Nat => s.heap.size ≤ q) s s.heap := by
    rcases va_Zqof (hts _ tb_8) (hts _ tb_i8) q2 hA with h | ⟨t, h⟩
    · exact ⟨0, 0, h⟩
    · exact ⟨1, t, h⟩
  obtain ⟨scr, hcb, hof, hkn, hsz, hval⟩ := hX
  refine ⟨z, t2, t3, t4, t5, t6, t7, t8, ?_, Z2, Z3, Z8, Zc, R4, R6⟩
  intro r hr
  match r, hr with
  | 0, _ => exact ⟨(fun z => by cases z), (fun z => by cases z), (fun z => by cases z), (fun z => by cases z)⟩
  | 1, _ =>
    refine ⟨(fun _ => ?_), (fun z => by cases z), (fun z => by cases z), (fun z => by cases z)⟩
    refine ⟨scr, hcb, hof, hkn, Nat.le_of_eq hsz.symm, (by rw [hsz]; rfl), fun j hj => ?_, hA b hbl⟩
    show scr.slots[j]? = some (.int (Int32.ofInt (xs j).toInt))
    rw [Int32.ofInt_toInt]
    exact hval j hj
  | 2, _ => exact ⟨(fun z => by cases z), (fun _ => T2), (fun z => by cases z), (fun z => by cases z)⟩
  | 3, _ => exact ⟨(fun _ => T3), (fun z => by cases z), (fun z => by cases z), (fun z => by cases z)⟩
  | 4, _ => exact ⟨(fun z => by cases z), (fun z => by cases z), (fun z => by cases z), (fun _ => ⟨O4, V4, F4⟩)⟩
  | 5, _ => exact ⟨(fun z => by cases z), (fun z => by cases z), (fun _ => T5), (fun z => by cases z)⟩
  | 6, _ => exact ⟨(fun z => by cases z), (fun z => by cases z), (fun z => by cases z), (fun _ => ⟨O6, V6, F6⟩)⟩
  | 7, _ => exact ⟨(fun z => by cases z), (fun z => by cases z), (fun _ => T7), (fun z => by cases z)⟩
  | 8, _ => exact ⟨(fun z => by cases z), (fun z => by cases z), (fun z => by cases z), (fun z => by cases z)⟩
  | r + 9, hr => exact absurd hr (by omega)
theorem whole_num : mFr 353 ≤ room_1.frames ∧ mWd 353 ≤ room_1.locals ∧ mLo 353 = 4 ∧ am_sz (blk (SH 0)) ≤ am_sz sh0 + 7302250 ∧ cN (mCs 353) = R_law ∧ room_1.cells = 600000 ∧ room_1.slots = 7302250 ∧ (mY 353).name = x.name := by decide +kernel
theorem mPc_0 : ∀ k, k ≤ 353 → am_nth 0 (mPc k) 0 = 0 := by decide +kernel
/-- from the entry, the law comes to its end with true -/
theorem whole_start {p : Program} {e : Env} {s : State} {m : MethodId} {below : List Frame} {meth : Method} {c : Code} (l : Launch) (hflags : l.flags = flags0) {b L : Nat} {xs : Nat → Int32} (hL : L ≤ 3072) (C0 : lw_At p s m meth c b L xs) (hnm : meth.name = x.name) : W p l e room_1 s m #[Value.ref b] below meth c s.heap [] 0 0 (lw_Z below #[Value.ref b] s) (entryFrame m ([Value.ref b] : List Value).toArray 4) := by
  obtain ⟨hx, hb, hr, hml, hown, hts, hX, hbl, hlocks, hgv⟩ := C0
  obtain ⟨n1, n2, n3, n4, n5, n6, n7, n8⟩ := whole_num
  obtain ⟨dC, dI, ct, hK⟩ := start_K hts
  obtain ⟨z, t2, t3, t4, t5, t6, t7, t8, hXF⟩ := start_X hts hX hbl hL hgv
  have l0 : (upS L sh0).length = 9 := rfl
  have s0 := upS_sz (N := L) K1_sh0
  obtain ⟨n, h3, hrun⟩ := law_run hL (fun j => (xs j).toInt) (9 + 600000, am_sz (upS L sh0) + 7302250) (by show 197 ≤ 9 + 600000; omega) (by show _ ≤ am_sz (upS L sh0) + 7302250; omega)
  have hrow : am_row (adF z b t2 t3 t4 t5 t6 t7 t8 s.heap.size) := by
    intro r hr
    obtain ⟨k, rfl⟩ : ∃ k, r = k + 9 := ⟨r - 9, by omega⟩
    show s.heap.size + k = s.heap.size + 0 + (k + 9 - 9)
    omega
  have key := runOk (l := l) (dC := dC) (dI := dI) (ct := ct) (wr := mWr) hrow (fun k hk => mPc_0 k (by omega)) (P := mM) (fun k hk => mck k hk) n
    (p, l, e, room_1, s, m, #[Value.ref b], below, meth, c, lw_Z below #[Value.ref b] s, 4, dC, dI, ct, adF z b t2 t3 t4 t5 t6 t7 t8 s.heap.size, 9, am_sz (upS L sh0), (fun r => (am_nth am_o0 (upS L sh0) r, upH (fun j => (xs j).toInt) H0 r)))
    353 (9 + 600000, am_sz (upS L sh0) + 7302250) 0 [(0, .inr (.inr 1))] [] (upS L sh0, upH (fun j => (xs j).toInt) H0) (some (.inl 1)) (SH L, h3) rfl rfl rfl rfl rfl (Nat.le_refl _)
    ⟨hx, hb, hml, by rw [n5]; exact hown, fun w h _ => hts w h, hK, hrow, by show s.heap.size = s.heap.size + 0 + (9 - 9); omega, Nat.le_refl _⟩ (by show 4 = mLo 353; omega) ⟨n1, n2⟩ (hnm.trans n8.symm)
    ⟨by show 9 + 600000 ≤ 9 + room_1.cells; omega, by show am_sz (upS L sh0) + 7302250 ≤ am_sz (upS L sh0) + room_1.slots; omega⟩ ?_ hrun
  · rw [mPc_0 353 (Nat.le_refl _)] at key
    have hl := lv_entry ([.ref b]) (n := 4) (Nat.le_of_ble_eq_true rfl)
    rw [lg_entry_eq]
    generalize (lg_sl ([.ref b]) ++ List.replicate (4 - (lg_sl ([.ref b])).length) Slot.unset).toArray = ls at hl ⊢
    have hl : lv_has ls 4 [(0, .ref b)] := hl
    have r := key s.heap [] ls ⟨(fun k q h => by cases h), va_S.rf, start_ok, ⟨by show 9 ≤ (upS L sh0).length; omega, by show (upS L sh0).length ≤ 9 + room_1.cells; omega⟩, ⟨⟨Nat.le_refl _, Nat.le_add_right _ _⟩, fun r _ => ⟨rfl, rfl⟩⟩, hXF⟩ hl (by intro q hq; cases hq with | head => trivial | tail _ h => cases h) (by intro q hq; cases hq)
    unfold WP at r
    have r : W p l e room_1 s m #[Value.ref b] below meth c s.heap [] ((upS L sh0).length - 9) (am_sz (upS L sh0) - am_sz (upS L sh0)) (lw_Z below #[Value.ref b] s) (F0 m 0 ls []) := r
    rw [Nat.sub_self, l0] at r
    exact r
  · intro pc ls hro H locs lsC hRR hl h1 h2
    obtain ⟨hd, -⟩ := hro
    have hw1 : (SH L).length ≤ 9 + room_1.cells := hRR.2.2.2.1.2
    have hw2 : am_sz (SH L) ≤ am_sz (upS L sh0) + room_1.slots := hRR.2.2.2.2.1.1.2
    have k := lw_ret (p := p) (l := l) (e := e) (below := below) hx hb hr hlocks (pc := pc) (H := H) (ls := lsC) (m := m) (s := s) (b := b) (meth := meth) (c := c) hd
    show W p l e room_1 s m #[Value.ref b] below meth c H locs ((SH L).length - 9) (am_sz (SH L) - am_sz (upS L sh0)) (lw_Z below #[Value.ref b] s) (F0 m pc lsC [.int (Int32.ofInt 1)])
    refine W.widen (k := 600000) (n := 7302250) (by omega) (by omega) ?_
    have w := W.forget (locs := []) (L := locs) (fun q hq => hRR.2.1.2.2 q hq) k
    exact w
set_option maxHeartbeats 4000000 in
theorem lw_walk (l : Launch) (hflags : l.flags = flags0) (b : Addr) (xs : List Int32) : MetFree l x (headSpec (Jvm.Cond.code x code maxLocals ret :: tables_1) room_1) (lw_P b xs) (fun _ _ _ _ _ => True) lw_Q := by
  refine MetFree.of_bodyS (code := code) (maxLocals := maxLocals) (ret := ret) (by decide) ?_ ?_
  · intro args s m h hn
    obtain ⟨meth, c, h1, h2, h3, h4, h5, h6, -, -⟩ := Cond.code_spec hn (atoms_spec (ws := Jvm.Cond.code x code maxLocals ret :: tables_1) h _ List.mem_cons_self)
    exact ⟨meth, c, h1, h2, h3, h4, h5, h6⟩
  · intro p e s m args below meth c s₁ B hml0 hP _
    obtain ⟨rfl, hx, hbd, hgv⟩ := hP
    obtain ⟨scr, harrAt, hlist, hof, hsmall⟩ := hx
    obtain ⟨hcb, hkn, -, -⟩ := State.arrayAt?_spec harrAt
    have hown : s.vm.findClass R_law = some m.cls := findClass_of_methodNamed B.named
    have hts0 : ∀ c ∈ (Jvm.Cond.code x code maxLocals ret :: tables_1), c.before #[Value.ref b] s = true := atoms_spec (ws := Jvm.Cond.code x code maxLocals ret :: tables_1) B.pre
    have hts : ∀ w ∈ lw_tbl, w.before #[Value.ref b] s = true := k2_hts_sels lw_privs (fun w hw => hts0 w (List.mem_cons_of_mem _ hw)) lw_privs_ok
    have hml : c.maxLocals = 4 := B.maxLocals_eq (hts0 _ List.mem_cons_self)
    have X₀ : Stand p l e room_1 s m #[Value.ref b] below meth c s₁ [] 0 0 := Stand.of_body B
    have hh0 : s₁.heap = s.heap := by rw [B.state]; rfl
    have hsz : scr.slots.size = xs.length := by rw [← Array.length_toList, hlist, List.length_map]
    have hval : ∀ j : Nat, j < xs.length → scr.slots[j]? = some (.int (xs.getD j 0)) := fun j hj => by
      rw [← Array.getElem?_toList, hlist]
      simp [hj]
    have hbl : b < s.heap.size := (Array.getElem?_eq_some_iff.mp hcb).1
    have hX : va_X b xs.length (fun j => xs.getD j 0) s s.heap := ⟨scr, hcb, hof, hkn, hsz, hval⟩
    have K : W p l e room_1 s m #[Value.ref b] below meth c s₁.heap [] 0 0 (lw_Z below #[Value.ref b] s) (entryFrame m ([Value.ref b] : List Value).toArray 4) := by
      rw [hh0]
      exact whole_start l hflags hbd ⟨B.exec, B.bytes, B.returns, hml, hown, hts, hX, hbl, B.notSynchronized, hgv⟩ (BodyNm B)
    obtain ⟨t, a1, o, b1, b2, b3⟩ := K s₁ rfl X₀
    exact ⟨t, o, a1, b1, b2, b3⟩
theorem lw_pre_spec {args : Array Value} {s : State} (h : (Jvm.Cond.and given_1 narrow_1).before args s = true) (hr : rest_1_c.before args s = true) : ∃ (b : Addr) (xs : List Int32), lw_P b xs args s := by
  have hs := flat_of_before _ h
  have hq := flat_of_before _ hr
  have hc : (Cond.count 1).before args s = true := hs _ (by decide +kernel)
  have harr : (Cond.arrayOf (.arg 0) .int).before args s = true := hs _ (by decide +kernel)
  have hle : (Cond.le (.length (.arg 0)) (.int 3072)).before args s = true := hs _ (by decide +kernel)
  have hlen : (Cond.isInt (.length (.arg 0))).before args s = true := hq _ (by decide +kernel)
  have hall : (Cond.all (.arg 0) (.isInt (.elem (.arg 0) (.index 0)))).before args s = true := hq _ (by decide +kernel)
  obtain ⟨b, xs, hb, hx⟩ := State.ints_of_pre rfl harr hlen hall
  have hsm : xs.length < 2 ^ 31 := hx.choose_spec.2.2.2
  have hev : (Term.length (.arg 0)).eval args s none [] s = some (.int xs.length.toInt32) := hx.length_eval hb
  have hv := Cond.le_ints hev (show (Term.int 3072).eval args s none [] s = some (.int 3072) from rfl)
  have hd : xs.length.toInt32 ≤ 3072 := by
    simpa [Cond.before, Cond.holds, hv] using hle
  have hN : xs.length ≤ 3072 := (Int32.ofNat_le_ofNat hsm (by decide)).mp (show Int32.ofNat xs.length ≤ Int32.ofNat 3072 from hd)
  exact ⟨b, xs, Cond.one_arg hc (show args[0]? = some (.ref b) from hb), hx, hN, h⟩
theorem lw_comes (l : Launch) (hflags : l.flags = flags0) : Comes l x (Jvm.Cond.code x code maxLocals ret :: tables_1) room_1 (fun tb e args s => Calls_1 tb e args s ∧ rest_1 tb e args s ∧ Pre_1 tb e args s)
    (fun _ _ args s o t => lw_Q args s o t) := by
  intro p e ha hc hk s m args below hf hfit hheap happ hpre
  obtain ⟨b, xs, hP⟩ := lw_pre_spec hpre.2.2 hpre.2.1
  obtain ⟨k, o, h1, h2, h3, hQ⟩ := lw_walk l hflags b xs p e ha hc hk s m args below hf ((Spec.applies_iff_loose hf).mp happ).1 hP trivial
  exact ⟨k, o, h1, h2, h3, hQ⟩
theorem lw_frame {s t : State} {o : Outcome} {args : Array Value} (h : Framed s o t [] 600000 7302250) :
    Framed s o t (fieldLocs frame_1_writes args s ++ arrayLocs frame_1_arrays args s ++ staticLocs frame_1_statics s) 600000 7302250 := h
theorem lw_limb (L : Cond) (hL : ∀ (args : Array Value) (s t : State), L.after args s (.returned (some (.int 1))) t = true) :
    ArmFor flags0 classFile x code maxLocals ret World_1 tables_1 room_1 Calls_1 rest_1 Pre_1
      (fun tb e a s o t => postC L tb e a s o t ∧ Framed s o t (fieldLocs frame_1_writes a s ++ arrayLocs frame_1_arrays a s ++ staticLocs frame_1_statics s) 600000 7302250) := by
  intro l hflags _ _ p e ha hc hk s m args below hf hfit hheap happ hpre
  obtain ⟨k, o, h1, h2, h3, rfl, hF⟩ := lw_comes l hflags p e ha hc hk s m args below hf hfit hheap happ hpre
  exact ⟨k, _, h1, h2, h3, hL args s _, lw_frame hF⟩
theorem i_vc : Claimed_1_1 ∧ Claimed_1_2 := ⟨lw_limb limb_1_1 (fun args s t => by simp [limb_1_1, Cond.after, Cond.holds, Cond.value]), lw_limb limb_1_2 (fun args s t => Cond.after_iff.mpr (by
  first | (rw [show limb_1_2 = Cond.eq .result (.int 1) from rfl, Cond.eq_ints (x := 1) (y := 1) rfl rfl]; simp; done) | (simp [limb_1_2, Cond.value, Term.eval]; done)))⟩
