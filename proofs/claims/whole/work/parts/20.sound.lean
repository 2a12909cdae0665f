/-! SOUNDNESS: what the abstract machine does, the machine does -/
def am_A (ad : Nat → Nat) : Nat → Prop := fun q => ad 9 ≤ q
def am_ts (ct : Nat → ClassId) : List (ClassId × FieldType) := [(ct 1, .int), (ct 2, .long), (ct 3, .byte), (ct 4, .boolean), (ct 5, .object "WakeHouse$State")]
/-- what was there before: arrays, texts, static fields -/
def XF (ad : Nat → Nat) (S : aS) (U : State) (H : Heap) : Prop :=
  (∀ r, r < 9 → (am_kd S.1 r = 6 → va_T .int (ad r) (am_nth am_o0 S.1 r).2.1 (fun j => .int (Int32.ofInt (S.2 r j))) (am_A ad) U H)
    ∧ (am_kd S.1 r = 7 → va_T .long (ad r) (am_nth am_o0 S.1 r).2.1 (fun j => .long (Int64.ofInt (S.2 r j))) (am_A ad) U H)
    ∧ (am_kd S.1 r = 8 → va_T .byte (ad r) (am_nth am_o0 S.1 r).2.1 (fun j => .int (Int32.ofInt (S.2 r j))) (am_A ad) U H)
    ∧ (am_kd S.1 r = 30 → va_O "java/lang/String" (ad r) (am_A ad) U H ∧ va_OF "java/lang/String" "value" "[B" (cv ad (.inr (.inr (am_nth 0 (am_nth am_o0 S.1 r).2.2 0)))) (ad r) (am_A ad) U H ∧ va_OF "java/lang/String" "coder" "B" (.int (Int32.ofInt (S.2 r 1))) (ad r) (am_A ad) U H))
  ∧ va_Z "WakeHouse" "HUNDREDS" "[J" (.ref (ad 2)) (am_A ad) U H
  ∧ va_Z "WakeHouse$Shaking" "NINES" "[I" (.ref (ad 3)) (am_A ad) U H
  ∧ va_Z "jdk/internal/util/Preconditions" "SIOOBE_FORMATTER" "Ljava/util/function/BiFunction;" (cv ad (.inr (.inr 8))) (am_A ad) U H
  ∧ va_Z "java/lang/String" "COMPACT_STRINGS" "Z" (.int 1) (am_A ad) U H
  ∧ vk_R "WakeHouse$Tape" 27 "loud gap floors hour deep wool after bed clock fast slow sleeper in up late vain hears again " (ad 4) U
  ∧ vk_R "WakeHouse$Tape" 81 ";+-*/<()[]" (ad 6) U
theorem XF.same {ad : Nat → Nat} {S T : aS} {U : State} {H : Heap} (h : XF ad S U H) (h1 : ∀ r, r < 9 → am_nth am_o0 T.1 r = am_nth am_o0 S.1 r) (h2 : ∀ r, r < 9 → T.2 r = S.2 r) : XF ad T U H := by
  refine ⟨fun r hr => ?_, h.2⟩
  have hk : am_kd T.1 r = am_kd S.1 r := by unfold am_kd; rw [h1 r hr]
  rw [hk, h1 r hr, h2 r hr]
  exact h.1 r hr
theorem XF.kept {ad : Nat → Nat} {S : aS} {U : State} {H H1 : Heap} (h : XF ad S U H) (hq : ∀ a : Nat, a < H.size → ¬ am_A ad a → H1[a]? = H[a]?) : XF ad S U H1 := by
  obtain ⟨h1, h2, h3, h4, h5, h6, h7⟩ := h
  refine ⟨fun r hr => ?_, h2.kept hq, h3.kept hq, h4.kept hq, h5.kept hq, h6, h7⟩
  obtain ⟨a1, a2, a3, a4⟩ := h1 r hr
  exact ⟨fun z => (a1 z).kept hq, fun z => (a2 z).kept hq, fun z => (a3 z).kept hq, fun z => ⟨(a4 z).1.kept hq, (a4 z).2.1.kept hq, (a4 z).2.2.kept hq⟩⟩
theorem XF.warm {ad : Nat → Nat} {S : aS} {s U : State} {H : Heap} (hW : s.WarmedH U.vm) (h : XF ad S s H) : XF ad S U H := by
  obtain ⟨h1, h2, h3, h4, h5, h6, h7⟩ := h
  have hv := hW.alike
  refine ⟨fun r hr => ?_, h2.moved hv, h3.moved hv, h4.moved hv, h5.moved hv, h6.warm hW, h7.warm hW⟩
  obtain ⟨a1, a2, a3, a4⟩ := h1 r hr
  exact ⟨fun z => (a1 z).moved hv, fun z => (a2 z).moved hv, fun z => (a3 z).moved hv, fun z => ⟨(a4 z).1.moved hv, (a4 z).2.1.moved hv, (a4 z).2.2.moved hv⟩⟩
/-- words that are handed down by themselves -/
def lw_n : Cond → Bool
  | .methodLinkNest .. => true
  | .fieldLinkNest .. => true
  | .arrayOver (.object _) => true
  | _ => false
def lw_use (w : Cond) : Bool := goodWord w || lw_n w
def lw_g : List Cond := lw_tbl.filter goodWord
def XN (U : State) : Prop := ∀ w ∈ lw_tbl, lw_n w = true → w.before #[] U = true
theorem XN.warm {s U : State} (hW : s.WarmedH U.vm) (h : XN s) : XN U := by
  intro w hw hn
  have h1 := h w hw hn
  match w, hn, h1 with
  | .methodLinkNest .., _, h1 => exact va_Nw.warmM hW h1
  | .fieldLinkNest .., _, h1 => exact va_Nw.warmF hW h1
  | .arrayOver (.object C), _, h1 => exact va_AO.moved hW.alike h1
theorem XN.use {args : Array Value} {s : State} (hg : ∀ w ∈ lw_g, w.before args s = true) (h : XN s) : ∀ w ∈ lw_tbl, lw_use w = true → w.before args s = true := by
  intro w hw hu
  cases hgw : goodWord w with
  | true => exact hg w (List.mem_filter.mpr ⟨hw, hgw⟩)
  | false =>
    unfold lw_use at hu
    rw [hgw, Bool.false_or] at hu
    have h1 := h w hw hu
    match w, hu, h1 with
    | .methodLinkNest .., _, h1 => exact va_Nw.use rfl h1
    | .fieldLinkNest .., _, h1 => exact va_Nw.use rfl h1
    | .arrayOver (.object C), _, h1 => exact h1
theorem XN.of {args : Array Value} {s : State} (h : ∀ w ∈ lw_tbl, w.before args s = true) : XN s := by
  intro w hw hn
  have h1 := h w hw
  match w, hn, h1 with
  | .methodLinkNest .., _, h1 => exact va_Nw.of rfl h1
  | .fieldLinkNest .., _, h1 => exact va_Nw.of rfl h1
  | .arrayOver (.object C), _, h1 => exact h1
theorem XN.ofU {args : Array Value} {s : State} (h : ∀ w ∈ lw_tbl, lw_use w = true → w.before args s = true) : XN s := by
  intro w hw hn
  have h1 := h w hw (by unfold lw_use; rw [hn, Bool.or_true])
  match w, hn, h1 with
  | .methodLinkNest .., _, h1 => exact va_Nw.of rfl h1
  | .fieldLinkNest .., _, h1 => exact va_Nw.of rfl h1
  | .arrayOver (.object C), _, h1 => exact h1
theorem use_g {args : Array Value} {s : State} (h : ∀ w ∈ lw_tbl, lw_use w = true → w.before args s = true) : ∀ w ∈ lw_g, w.before args s = true := fun w hw => h w (List.mem_filter.mp hw).1 (by unfold lw_use; rw [(List.mem_filter.mp hw).2]; rfl)
/-- everything around a method's run -/
abbrev aG : Type := Program × Launch × Env × Room × State × MethodId × Array Value × List Frame × Method × Code × (State → Prop) × Nat × (Nat → ClassId) × (Nat → Nat → Nat) × (Nat → ClassId) × (Nat → Nat) × Nat × Nat × (Nat → aC × (Nat → Int))
/-- what stays through it -/
def FX (G : aG) (cc : ByteArray) (own : Nat) : Prop := match G with
  | (p, l, e, R, s, m, args, below, meth, c, Q, nL, dC, dI, ct, ad, n0, z0, x0) =>
    p.tables.exec = Jvm.exec ∧ c.code = cc ∧ c.maxLocals = nL ∧ s.vm.findClass (cN own) = some m.cls ∧ (∀ w ∈ lw_tbl, lw_use w = true → w.before args s = true) ∧ va_K (dC, dI) vwCl (am_ts ct) s ∧ am_row ad ∧ s.heap.size = ad 9 + (n0 - 9) ∧ 9 ≤ n0
/-- what was there before is as it was -/
def XA (x0 : Nat → aC × (Nat → Int)) (S : aS) : Prop := ∀ r, r < 9 → am_nth am_o0 S.1 r = (x0 r).1 ∧ S.2 r = (x0 r).2
/-- the world of a state -/
def RR (G : aG) (S : aS) (H : Heap) (locs : List Loc) : Prop := match G with
  | (p, l, e, R, s, m, args, below, meth, c, Q, nL, dC, dI, ct, ad, n0, z0, x0) =>
    va_P (dC, dI) vwCl (am_w ftab ct ad S) H ∧ va_S (am_A ad) s.heap H locs ∧ ok_h ftab S ∧ (n0 ≤ S.1.length ∧ S.1.length ≤ n0 + R.cells) ∧ ((z0 ≤ am_sz S.1 ∧ am_sz S.1 ≤ z0 + R.slots) ∧ XA x0 S) ∧ XF ad S s s.heap
/-- the machine at a place -/
def WP (G : aG) (pc : Nat) (lsC : Array Slot) (st : List Value) (S : aS) (H : Heap) (locs : List Loc) : Prop := match G with
  | (p, l, e, R, s, m, args, below, meth, c, Q, nL, dC, dI, ct, ad, n0, z0, x0) => W p l e R s m args below meth c H locs (S.1.length - n0) (am_sz S.1 - z0) Q (F0 m pc lsC st)
def aAd (G : aG) : Nat → Nat := G.2.2.2.2.2.2.2.2.2.2.2.2.2.2.2.1
def anL (G : aG) : Nat := G.2.2.2.2.2.2.2.2.2.2.2.1
def am_ll (ad : Nat → Nat) (ls : aL) : List (Nat × Value) := ls.map fun q => (q.1, cv ad q.2)
def WA (G : aG) (pc : Nat) (ls : aL) (st : List aV) (S : aS) : Prop :=
  ∀ (H : Heap) (locs : List Loc) (lsC : Array Slot), RR G S H locs → lv_has lsC (anL G) (am_ll (aAd G) ls) → (∀ q ∈ ls, ok_v q.2) → (∀ v ∈ st, ok_v v) → WP G pc lsC (st.map (cv (aAd G))) S H locs
/-- one instruction that works on the pile alone -/
theorem WA.stk {G : aG} {pc pc2 : Nat} {ls : aL} {st st2 : List aV} {S : aS} (k : WA G pc2 ls st2 S) (row : (∀ v ∈ st, ok_v v) → ∀ (H : Heap) (locs : List Loc) (lsC : Array Slot), WP G pc2 lsC (st2.map (cv (aAd G))) S H locs → WP G pc lsC (st.map (cv (aAd G))) S H locs)
    (ho : (∀ v ∈ st, ok_v v) → ∀ v ∈ st2, ok_v v) : WA G pc ls st S := fun H locs lsC hR hl h1 h2 => row h2 H locs lsC (k H locs lsC hR hl h1 (ho h2))
theorem ok_c {v : aV} {st : List aV} : (∀ w ∈ v :: st, ok_v w) ↔ ok_v v ∧ ∀ w ∈ st, ok_v w := List.forall_mem_cons
/-- two ints to one -/
theorem WA.bin {G : aG} {pc : Nat} {ls : aL} {st : List aV} {S : aS} {a b r : Int} {g : Int32 → Int32 → Int32} (row : ∀ (x y : Int32) (rest : List Value) (H : Heap) (locs : List Loc) (lsC : Array Slot), WP G (pc + 1) lsC (.int (g x y) :: rest) S H locs → WP G pc lsC (.int y :: .int x :: rest) S H locs)
    (hf : am_rg a → am_rg b → Int32.ofInt r = g (Int32.ofInt a) (Int32.ofInt b)) (hr : am_rg a → am_rg b → am_rg r) (k : WA G (pc + 1) ls (.inl r :: st) S) : WA G pc ls (.inl b :: .inl a :: st) S := by
  refine WA.stk k (fun ho H locs lsC kk => ?_) (fun ho => ?_)
  · obtain ⟨hb, ho⟩ := ok_c.mp ho
    obtain ⟨ha, ho⟩ := ok_c.mp ho
    refine row _ _ _ H locs lsC ?_
    rw [← hf ha hb]
    exact kk
  · obtain ⟨hb, ho⟩ := ok_c.mp ho
    obtain ⟨ha, ho⟩ := ok_c.mp ho
    exact ok_c.mpr ⟨hr ha hb, ho⟩
theorem WA.binL {G : aG} {pc : Nat} {ls : aL} {st : List aV} {S : aS} {a b r : Int} {g : Int64 → Int64 → Int64} (row : ∀ (x y : Int64) (rest : List Value) (H : Heap) (locs : List Loc) (lsC : Array Slot), WP G (pc + 1) lsC (.long (g x y) :: rest) S H locs → WP G pc lsC (.long y :: .long x :: rest) S H locs)
    (hf : am_rl a → am_rl b → Int64.ofInt r = g (Int64.ofInt a) (Int64.ofInt b)) (hr : am_rl a → am_rl b → am_rl r) (k : WA G (pc + 1) ls (.inr (.inl r) :: st) S) : WA G pc ls (.inr (.inl b) :: .inr (.inl a) :: st) S := by
  refine WA.stk k (fun ho H locs lsC kk => ?_) (fun ho => ?_)
  · obtain ⟨hb, ho⟩ := ok_c.mp ho
    obtain ⟨ha, ho⟩ := ok_c.mp ho
    refine row _ _ _ H locs lsC ?_
    rw [← hf ha hb]
    exact kk
  · obtain ⟨hb, ho⟩ := ok_c.mp ho
    obtain ⟨ha, ho⟩ := ok_c.mp ho
    exact ok_c.mpr ⟨hr ha hb, ho⟩
section S20
variable {G : aG} {cc : ByteArray} {own pc : Nat} {ls : aL} {st : List aV} {S : aS}
theorem s_iadd {a b r : Int} (hF : FX G cc own) (hd : decode cc pc = .ok (.iadd, 1)) (hr : Int32.ofInt r = Int32.ofInt (a + b)) (hg : am_rg r) (k : WA G (pc + 1) ls (.inl r :: st) S) : WA G pc ls (.inl b :: .inl a :: st) S := by
  obtain ⟨p, l, e, R, s, m, args, below, meth, c, Q, nL, dC, dI, ct, ad, n0, z0, x0⟩ := G
  exact WA.bin (fun x y rest H locs lsC kk => lv_iadd hF.1 hF.2.1 hd kk) (fun _ _ => by rw [add32, hr]) (fun _ _ => hg) k
theorem s_isub {a b r : Int} (hF : FX G cc own) (hd : decode cc pc = .ok (.isub, 1)) (hr : Int32.ofInt r = Int32.ofInt (a - b)) (hg : am_rg r) (k : WA G (pc + 1) ls (.inl r :: st) S) : WA G pc ls (.inl b :: .inl a :: st) S := by
  obtain ⟨p, l, e, R, s, m, args, below, meth, c, Q, nL, dC, dI, ct, ad, n0, z0, x0⟩ := G
  exact WA.bin (fun x y rest H locs lsC kk => lv_isub hF.1 hF.2.1 hd kk) (fun _ _ => by rw [sub32, hr]) (fun _ _ => hg) k
theorem s_imul {a b r : Int} (hF : FX G cc own) (hd : decode cc pc = .ok (.imul, 1)) (hr : Int32.ofInt r = Int32.ofInt (a * b)) (hg : am_rg r) (k : WA G (pc + 1) ls (.inl r :: st) S) : WA G pc ls (.inl b :: .inl a :: st) S := by
  obtain ⟨p, l, e, R, s, m, args, below, meth, c, Q, nL, dC, dI, ct, ad, n0, z0, x0⟩ := G
  exact WA.bin (fun x y rest H locs lsC kk => lv_imul hF.1 hF.2.1 hd kk) (fun _ _ => by rw [mul32, hr]) (fun _ _ => hg) k
theorem s_ladd {a b r : Int} (hF : FX G cc own) (hd : decode cc pc = .ok (.ladd, 1)) (hr : Int64.ofInt r = Int64.ofInt (a + b)) (hg : am_rl r) (k : WA G (pc + 1) ls (.inr (.inl r) :: st) S) : WA G pc ls (.inr (.inl b) :: .inr (.inl a) :: st) S := by
  obtain ⟨p, l, e, R, s, m, args, below, meth, c, Q, nL, dC, dI, ct, ad, n0, z0, x0⟩ := G
  exact WA.binL (fun x y rest H locs lsC kk => lv_ladd hF.1 hF.2.1 hd kk) (fun _ _ => by rw [add64, hr]) (fun _ _ => hg) k
theorem s_lsub {a b r : Int} (hF : FX G cc own) (hd : decode cc pc = .ok (.lsub, 1)) (hr : Int64.ofInt r = Int64.ofInt (a - b)) (hg : am_rl r) (k : WA G (pc + 1) ls (.inr (.inl r) :: st) S) : WA G pc ls (.inr (.inl b) :: .inr (.inl a) :: st) S := by
  obtain ⟨p, l, e, R, s, m, args, below, meth, c, Q, nL, dC, dI, ct, ad, n0, z0, x0⟩ := G
  exact WA.binL (fun x y rest H locs lsC kk => lv_lsub hF.1 hF.2.1 hd kk) (fun _ _ => by rw [sub64, hr]) (fun _ _ => hg) k
theorem s_lmul {a b r : Int} (hF : FX G cc own) (hd : decode cc pc = .ok (.lmul, 1)) (hr : Int64.ofInt r = Int64.ofInt (a * b)) (hg : am_rl r) (k : WA G (pc + 1) ls (.inr (.inl r) :: st) S) : WA G pc ls (.inr (.inl b) :: .inr (.inl a) :: st) S := by
  obtain ⟨p, l, e, R, s, m, args, below, meth, c, Q, nL, dC, dI, ct, ad, n0, z0, x0⟩ := G
  exact WA.binL (fun x y rest H locs lsC kk => lv_lmul hF.1 hF.2.1 hd kk) (fun _ _ => by rw [mul64, hr]) (fun _ _ => hg) k
end S20
