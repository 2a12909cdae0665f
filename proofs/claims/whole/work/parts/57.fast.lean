/-! THE STRETCH AS THE KERNEL GOES THROUGH IT FAST: the shape as numbers -/
def kdF (r : Nat) : Nat := (10514124957318935078321284104037415488407696699531183950990872484084295427661112068774748343956176281160648411619543444967517286574760338324108613823537762805528202627585313922938522900160413642605217457579602461906439526700622472113704899949942461188949427117472235753344406114631252177323509658148530689739106348845968562937871541283174946132731813517820840892391232654132307694249081572536871390966086879904544352300078612164915710045670299933763662127060925602096154112 >>> (8 * r)) % 256
def szF (N r : Nat) : Nat := bif Nat.beq r 1 then N else (214375876739306103607862155106355032295080179423131550491449575637811602542001214520582026433583093786691172522240321914489971473572358599002911886807648604301906318917706780085276161023938711588112861346232216432515960584793743166616893199679735844384138441559936673601971206123350716022394312926647775992048390342016989744553313469745706574670143804572298893111028555250951719565300868117783243918843033164391023671340601137148697436182743463895895062363147742546111024753450017661906837961499878268460829556116510547058404835185864248157804471416695483485149928902526950535978390099643522456968122926332384917750778993320619672364628689043587647675789744435628968349300071640976045170514567742579559722589515855672993773714646838305569472851432669490128211921005630668508336513776989672187159161218908573921623372492968799497845410926055365163300761897659785999639945761291003465540103514452239758387753775514611296385463844814838143251382272 >>> (16 * r)) % 65536
def ftF (n : Nat) : Nat := (269224654207703673185993294030414142130429214046343411279344095587185764135584145969937651997564656166874764007711251107569560882664876150304220714876180148631297860565305139330323198898380025815492756041092076074207925038662077325991199928396316325866436404735777695472653991626243165559983325230106815094532078472391848069008249415961739962046495290950468732075273515728793175147676387200959578845938776179588333590092394817782992396473188988295840533664744428194714620473962041655882503589042286881545465994326229689059903376635410601908262562080414261060947942380924470229898539996657599567298864624061126820982580297998323367276069213779769605048952494291579474351749471211589577004145234753290543506098886110585309434849220292666804751864719785339980659589240319033773843441736533283288876471600944869648935377059388612052228593752556891065412633396445455788059866544668414601578900059751508290478124344905034564677738653930190831700201080320708467042949049231286726704231384819519329752632050547389116510726656933545802769266397835172828721438767425794520579505969258000462129509149518938516723076265346975897691164894599486395916647421455143758342915769747714092442755665110306547840636892614258157065057489413494434428059398078440172264873134377569945454247608138901272629595395160292526915210810011948738308720191765996604124310091809103188032854359961690992365412193818415053320332116303665324232129846722547113197433751500348318451334889238317268824445930413969458981993435141834858817126830249524272853485438409840340101736430959244365793115741789006636897989273927968659080964949170101603120593695362089390189389538028493840590912791665968816663891769540118847755998004618755061033522579398895706261759173954248825155547042629978665917315173772866280813309586441440205465453519803109894653125028839872048743960135789264428009179525338192215743891662294069173469765653885550305258476013797678535989124588014039074642199994413344312182127849903707291556575350832559700764069722099180227913553844612734575480707556133113500950124886209260962915941632985847013737939250227639613557565130586359202140624076815173891281945515712769768956395631824802798649022223249036291821628265186244970893111812581147344114882649994697658427708352240098322227727491456343737692969082225442500732079168715842532965660928600441820706482218981640857095039561601367651459299444775694438364623409752708588322439762228078292559263709161748301490183173469737535742882970588595573940074739763666591186344362090515713554319690141779769964888064 >>> (4 * n)) % 16
def naF (n : Nat) : Nat := (15114451590443580147538511783288298384700790213746855709870733188662912226365283336887760662205845397069604515859412470194096353154230789151370782473850470422079238486745266670928580508513741807660829169201673414404259447668279391897483022934419478889029747440063760148765755172594605788137455276437115912738829451136445435346821436290551930746526897533085150604728344864773876818958670872767527182121643775752459541743276305 >>> (4 * n)) % 16
def rkF (n : Nat) : Nat := (4328628256950762240595321176778767099666297154034752132591263960684704031415364824855036845706818002298083637751818383870180226157819865508160560789470442934045576501674651643159140962974577031704369488146066865626025023156091687240671208724756586985461436727816546823401102632456495898913450317518298347168997976017919937836409002065313384949955682145128795263281857083083343501176173640100167190020626313310044077685791326697720995105708067337425800598158538161418168434834441530085515527897164408072034774856212431837479944244375615798756465524805960262759859322302053644453213461968968471330318791837367294791773995013421131109678371846139336765601939359189173947583594126754364946398774093132586577615695370723360020651444158615225881553196951933804536134096965599125637489279233427728954673358040134628939263000074333992913895095906208715797 >>> (8 * n)) % 256
def loF (n : Nat) : Nat := (101131733952629113106477372668407052854339044634433736509249816931488977790766472348661075698483451332922458419305934710442409783722342310307637981408466987497768746859004361666260741250299269075901700298572432137990203066527475657278145236881565797345778458775070088715973502528262171361282294365405473740390649107289230766088892965899815989676582454949134767473439930552366926058215452439864350958874229136847200287915319509834655656797239825203002967384304102229126983490070639559753441848920853685329399657378263214984348658156176797703133670643315941605421181177882665118318384329351257685930663975896722807354743633450321500283560176364848907012375404959324281855910951177250833911834126702461412443762010947808434236429294171577304289542541558641713195894819640803115618585590058907494562585731488712294921064060512287865281186854354129323266 >>> (8 * n)) % 256
def rfF (r k : Nat) : Nat := bif Nat.beq r 4 then (5 >>> (8 * k)) % 256 else bif Nat.beq r 6 then (7 >>> (8 * k)) % 256 else bif Nat.beq r 9 then (152898152053098076456362762 >>> (8 * k)) % 256 else bif Nat.beq r 10 then (64660245515 >>> (8 * k)) % 256 else bif Nat.beq r 16 then (651343422374283679650351502529041 >>> (8 * k)) % 256 else bif Nat.beq r 29 then (7966 >>> (8 * k)) % 256 else bif Nat.beq r 32 then (8737 >>> (8 * k)) % 256 else bif Nat.beq r 35 then (16044074615645194 >>> (8 * k)) % 256 else bif Nat.beq r 36 then (1058582391671132905417449253840421 >>> (8 * k)) % 256 else bif Nat.beq r 49 then (13106 >>> (8 * k)) % 256 else bif Nat.beq r 52 then (13877 >>> (8 * k)) % 256 else bif Nat.beq r 58 then (322361626855794775243835 >>> (8 * k)) % 256 else bif Nat.beq r 70 then (379252253661189089347655 >>> (8 * k)) % 256 else bif Nat.beq r 81 then (431401994899467210609490 >>> (8 * k)) % 256 else bif Nat.beq r 92 then (122575577746081059591502352 >>> (8 * k)) % 256 else bif Nat.beq r 102 then (516737935107558681098768 >>> (8 * k)) % 256 else bif Nat.beq r 110 then (482904652304 >>> (8 * k)) % 256 else bif Nat.beq r 113 then (2222217485725924997648 >>> (8 * k)) % 256 else bif Nat.beq r 121 then (137973601024528 >>> (8 * k)) % 256 else bif Nat.beq r 126 then (142388892547600 >>> (8 * k)) % 256 else bif Nat.beq r 130 then (4239396915918096473493043308786304663737868410833454508400770760683282586318792510288940759526435805604721558189991540824230319485644390849278889082801978702140469911546501568843474169449989898590691368976986763461376 >>> (8 * k)) % 256 else 0
set_option maxRecDepth 100000 in
theorem SH_put (N : Nat) : SH N = am_put (6, N, []) (SH 0) 1 := rfl
theorem SH_nth (N r : Nat) : am_nth am_o0 (SH N) r = if r = 1 then (6, N, []) else am_nth am_o0 (SH 0) r := by
  rw [SH_put N, am_nth_put _ _ _ _ _ (by rw [SH_len]; decide)]
set_option maxRecDepth 100000 in
theorem kd_ok0 : (List.range 197).all (fun r => Nat.beq (am_kd (SH 0) r) (kdF r)) = true := by decide +kernel
set_option maxRecDepth 100000 in
theorem sz_ok0 : (List.range 197).all (fun r => Nat.beq (am_nth am_o0 (SH 0) r).2.1 (szF 0 r)) = true := by decide +kernel
set_option maxRecDepth 100000 in
theorem rf_ok0 : (List.range 197).all (fun r => bif Nat.ble 10 (kdF r) then (List.range (szF 0 r)).all (fun k => Nat.beq (am_nth 0 (am_nth am_o0 (SH 0) r).2.2 k) (rfF r k)) else true) = true := by decide +kernel
set_option maxRecDepth 100000 in
theorem ft_ok0 : (List.range 2100).all (fun n => Nat.beq (ftab (n / 100) (n % 100)) (ftF n)) = true := by decide +kernel
set_option maxRecDepth 100000 in
theorem na_ok0 : (List.range 353).all (fun n => Nat.beq (mNa n) (naF n) && Nat.beq (mNa (2000 + n)) (rkF n) && Nat.beq (mLo n) (loF n)) = true := by decide +kernel
theorem all_lt {n : Nat} {p : Nat → Bool} (h : (List.range n).all p = true) {r : Nat} (hr : r < n) : p r = true := List.all_eq_true.mp h r (List.mem_range.mpr hr)
theorem kd_out {sh : List aC} {r : Nat} (h : sh.length ≤ r) : am_kd sh r = 0 := by
  unfold am_kd
  rw [am_nth_out _ _ _ h]
  cases (Nat.beq r 0 || Nat.beq r 8) <;> cases Nat.ble 9 r <;> rfl
theorem kd_SH0 (N r : Nat) : am_kd (SH N) r = am_kd (SH 0) r := by
  unfold am_kd
  rw [SH_nth N r]
  by_cases h : r = 1
  · subst h; rw [if_pos rfl]; rfl
  · rw [if_neg h]
theorem kd_F {N r : Nat} (h : kdF r ≠ 0) : am_kd (SH N) r = kdF r := by
  rw [kd_SH0]
  rcases Nat.lt_or_ge r 197 with hr | hr
  · exact Nat.eq_of_beq_eq_true (all_lt kd_ok0 hr)
  · exfalso
    apply h
    unfold kdF
    have : (10514124957318935078321284104037415488407696699531183950990872484084295427661112068774748343956176281160648411619543444967517286574760338324108613823537762805528202627585313922938522900160413642605217457579602461906439526700622472113704899949942461188949427117472235753344406114631252177323509658148530689739106348845968562937871541283174946132731813517820840892391232654132307694249081572536871390966086879904544352300078612164915710045670299933763662127060925602096154112 >>> (8 * r)) = 0 := by
      rw [Nat.shiftRight_eq_div_pow]
      apply Nat.div_eq_of_lt
      exact Nat.lt_of_lt_of_le (show _ < 2 ^ (8 * 197) from Nat.lt_of_sub_pos (by decide +kernel)) (Nat.pow_le_pow_right (by decide) (by omega))
    rw [this]
theorem kd_lt {r : Nat} (h : kdF r ≠ 0) : r < 197 := by
  rcases Nat.lt_or_ge r 197 with hr | hr
  · exact hr
  · have := kd_F (N := 0) h
    rw [kd_out (by rw [SH_len]; exact hr)] at this
    exact absurd this.symm h
theorem sz_F {N r : Nat} (h : kdF r ≠ 0) : (am_nth am_o0 (SH N) r).2.1 = szF N r := by
  rw [SH_nth]
  by_cases h1 : r = 1
  · subst h1; rw [if_pos rfl]; rfl
  · rw [if_neg h1]
    have := Nat.eq_of_beq_eq_true (all_lt sz_ok0 (kd_lt h))
    rw [this]
    unfold szF
    rw [nb_ne h1]
    rfl
theorem rf_F {N r k : Nat} (h : 10 ≤ kdF r) (hk : k < szF N r) : am_nth 0 (am_nth am_o0 (SH N) r).2.2 k = rfF r k := by
  have hr := kd_lt (r := r) (by omega)
  have h1 : r ≠ 1 := by intro e; subst e; exact absurd h (by decide +kernel)
  rw [SH_nth, if_neg h1]
  have := all_lt rf_ok0 hr
  rw [Nat.ble_eq_true_of_le h] at this
  refine Nat.eq_of_beq_eq_true (all_lt (n := szF 0 r) this ?_)
  unfold szF at hk ⊢
  rw [nb_ne h1] at hk ⊢
  exact hk
/-- evaluated first -/
def frcN (n : Nat) (k : Nat → Prop) : Prop := Nat.rec (motive := fun _ => Prop) (k 0) (fun m _ => k (m + 1)) n
theorem frcN_eq (n : Nat) (k : Nat → Prop) : frcN n k = k n := by cases n <;> rfl
def frcL : aL → (aL → Prop) → Prop
  | [], k => k []
  | q :: l, k => frcL l (fun l => k (q :: l))
theorem frcL_eq : ∀ (l : aL) (k : aL → Prop), frcL l k = k l
  | [], _ => rfl
  | q :: l, k => frcL_eq l (fun l => k (q :: l))
/-- one instruction over the fixed shape -/
def am_isF (N r n : Nat) : Bool := (Nat.beq (kdF r) (10 + n / 100) && Nat.blt (n % 100) (szF N r)) && Nat.blt n 2100
/-- the instructions on the pile alone, and the others that are taken as they are -/
def okR : aI → Bool
  | .iadd | .isub | .imul | .fadd | .fsub | .fmul | .iand | .ior | .ixor | .ishl | .ishr | .iushr | .idiv | .irem | .ineg | .ladd | .lsub | .lmul | .dadd | .dsub | .dmul | .land | .lxor | .ldiv | .lshl | .lshr | .lushr | .i2l | .l2i | .i2b | .i2c | .lcmp | .dup | .pop | .dup2 | .pop2 | .aaload | .invokeinterface _ _ => true
  | _ => false
section AF
variable (N : Nat) (call : Nat → List aV → aH → (Option aV → aH → Prop) → Prop) (ret : Option aV → aH → Prop) (cut : Nat → aL → List aV → aH → Prop)
def am_putF (ty : Nat) (h : aH) (r k : Nat) (v : aV) (nxt : aH → Prop) : Prop :=
  match ty, v with
  | 1, .inl x => nxt (am_up h r k x)
  | 2, .inr (.inl x) => nxt (am_up h r k x)
  | 3, .inl x => am_tf x ∧ nxt (am_up h r k x)
  | _, _ => False
def am_1F (i : Nat) (ins : aI) (ls : aL) (st : List aV) (h : aH) (nxt : aL → List aV → aH → Prop) (jmp : Nat → aL → List aV → aH → Prop) : Prop :=
  match ins with
  | .nop => cut (i + 1) ls st h
  | .iconst v => nxt ls (.inl v :: st) h
  | .bipush v => nxt ls (.inr (.inl v) :: st) h
  | .getstatic r => nxt ls (.inr (.inr r) :: st) h
  | .iload k => match am_find k ls with
    | some (.inl v) => nxt ls (.inl v :: st) h
    | _ => False
  | .lload k => match am_find k ls with
    | some (.inr (.inl v)) => nxt ls (.inr (.inl v) :: st) h
    | _ => False
  | .aload k => match am_find k ls with
    | some (.inr (.inr v)) => bif Nat.beq v 0 || Nat.beq v 8 then False else nxt ls (.inr (.inr v) :: st) h
    | _ => False
  | .istore k => match st with
    | .inl v :: st => frcL (am_set1 k (.inl v) ls) (fun ls => nxt ls st h)
    | _ => False
  | .lstore k => match st with
    | .inr (.inl v) :: st => frcL (am_set2 k (.inr (.inl v)) ls) (fun ls => nxt ls st h)
    | _ => False
  | .iinc k d => match am_find k ls with
    | some (.inl v) => am_rg (v + d) ∧ frcL (am_set1 k (.inl (v + d)) ls) (fun ls => nxt ls st h)
    | _ => False
  | .astore k => match st with
    | .inr (.inr v) :: st => bif Nat.beq v 0 || Nat.beq v 8 then False else frcL (am_set1 k (.inr (.inr v)) ls) (fun ls => nxt ls st h)
    | _ => False
  | .ifCond c t => match st with
    | .inl v :: st => (am_cnd c v 0 → jmp t.toNat ls st h) ∧ (¬ am_cnd c v 0 → nxt ls st h)
    | _ => False
  | .if_icmp c t => match st with
    | .inl b :: .inl a :: st => (am_cnd c a b → jmp t.toNat ls st h) ∧ (¬ am_cnd c a b → nxt ls st h)
    | _ => False
  | .goto t => jmp t.toNat ls st h
  | .tableswitch d lo hi offs => match st with
    | .inl v :: st => ((v < lo ∨ hi < v) → jmp d.toNat ls st h) ∧ (¬ (v < lo ∨ hi < v) → am_sw (X := Prop) False brP (fun t => jmp t ls st h) v lo offs.toList)
    | _ => False
  | .getfield n => match st with
    | .inr (.inr r) :: st => bif am_isF N r n then (match ftF n with
      | 0 => nxt ls (.inr (.inr (rfF r (n % 100))) :: st) h
      | 2 => nxt ls (.inr (.inl (h r (n % 100))) :: st) h
      | _ => nxt ls (.inl (h r (n % 100)) :: st) h) else False
    | _ => False
  | .putfield n => match st with
    | v :: .inr (.inr r) :: st => bif am_isF N r n && Nat.ble 9 r then am_putF (ftF n) h r (n % 100) v (fun h => nxt ls st h) else False
    | _ => False
  | .iaload => match st with
    | .inl i :: .inr (.inr r) :: st => match kdF r with
      | 1 | 6 => am_ix i (szF N r) ∧ nxt ls (.inl (h r i.toNat) :: st) h
      | _ => False
    | _ => False
  | .laload => match st with
    | .inl i :: .inr (.inr r) :: st => match kdF r with
      | 2 | 7 => am_ix i (szF N r) ∧ nxt ls (.inr (.inl (h r i.toNat)) :: st) h
      | _ => False
    | _ => False
  | .baload => match st with
    | .inl i :: .inr (.inr r) :: st => match kdF r with
      | 3 | 4 | 8 => am_ix i (szF N r) ∧ nxt ls (.inl (h r i.toNat) :: st) h
      | _ => False
    | _ => False
  | .iastore => match st with
    | .inl v :: .inl i :: .inr (.inr r) :: st => match kdF r with
      | 1 => am_ix i (szF N r) ∧ nxt ls st (am_up h r i.toNat v)
      | _ => False
    | _ => False
  | .lastore => match st with
    | .inr (.inl v) :: .inl i :: .inr (.inr r) :: st => match kdF r with
      | 2 => am_ix i (szF N r) ∧ nxt ls st (am_up h r i.toNat v)
      | _ => False
    | _ => False
  | .bastore => match st with
    | .inl v :: .inl i :: .inr (.inr r) :: st => match kdF r with
      | 3 => am_ix i (szF N r) ∧ nxt ls st (am_up h r i.toNat (w8 v))
      | 4 => am_ix i (szF N r) ∧ am_tf v ∧ nxt ls st (am_up h r i.toNat v)
      | _ => False
    | _ => False
  | .arraylength => match st with
    | .inr (.inr r) :: st => bif Nat.ble 1 (kdF r) && Nat.ble (kdF r) 8 then am_rg (szF N r : Int) ∧ nxt ls (.inl (szF N r : Int) :: st) h else False
    | _ => False
  | .invokevirtual id => bif okB id then (match am_pop (naF id) [] st with
    | some (.inr (.inr r) :: as, st) => bif Nat.beq (kdF r) (rkF id) && Nat.ble (am_cat st) 8 && Nat.ble 1 (kdF r) then call id (.inr (.inr r) :: as) h (fun v h => nxt ls (am_psh v st) h) else False
    | _ => False) else False
  | .invokestatic id => bif okB id then (match am_pop (naF id) [] st with
    | some (as, st) => bif Nat.ble (am_cat st) 8 then call id as h (fun v h => nxt ls (am_psh v st) h) else False
    | none => False) else False
  | .ireturn => match st with
    | [.inl v] => ret (some (.inl v)) h
    | _ => False
  | .freturn => match st with
    | [.inl v] => am_tf v ∧ ret (some (.inl v)) h
    | _ => False
  | .dreturn => match st with
    | [.inl v] => (0 ≤ v ∧ v < 65536) ∧ ret (some (.inl v)) h
    | _ => False
  | .lreturn => match st with
    | [.inr (.inl v)] => ret (some (.inr (.inl v))) h
    | _ => False
  | .return_ => match st with
    | [] => ret none h
    | _ => False
  | ins => bif okR ins then am_1 (X := Prop) ftab mNa (0, 0) False brP ckP (fun _ _ _ _ => False) (fun _ _ _ _ => False) (fun _ _ => False) (fun _ _ _ _ => False) i ins ls st (SH N, h) (fun ls st S => nxt ls st S.2) (fun _ _ _ _ => False) else False
def am_xF (code : List aI) : Nat → Nat → List aI → aL → List aV → aH → Prop
  | 0, _, _, _, _, _ => False
  | _ + 1, _, [], _, _, _ => False
  | f + 1, i, ins :: rest, ls, st, h => frcN i fun i => am_1F N call ret cut i ins ls st h (fun ls st h => am_xF code f (i + 1) rest ls st h) (fun t ls st h => bif Nat.ble t i then cut t ls st h else am_xF code f t (code.drop t) ls st h)
end AF
theorem na_at {y : Nat} (hy : y < 353) : mNa y = naF y ∧ mNa (2000 + y) = rkF y ∧ mLo y = loF y := by
  have h := all_lt na_ok0 hy
  obtain ⟨h, h3⟩ := Bool.and_eq_true_iff.mp h
  obtain ⟨h1, h2⟩ := Bool.and_eq_true_iff.mp h
  exact ⟨Nat.eq_of_beq_eq_true h1, Nat.eq_of_beq_eq_true h2, Nat.eq_of_beq_eq_true h3⟩
theorem isF_ok {N r n : Nat} (hb : am_isF N r n = true) : am_isO (SH N) r n = true ∧ 10 ≤ kdF r ∧ n % 100 < szF N r ∧ ftab (n / 100) (n % 100) = ftF n := by
  obtain ⟨hb, h3⟩ := Bool.and_eq_true_iff.mp hb
  obtain ⟨h1, h2⟩ := Bool.and_eq_true_iff.mp hb
  have e1 := Nat.eq_of_beq_eq_true h1
  have h0 : kdF r ≠ 0 := by omega
  refine ⟨?_, by omega, Nat.le_of_ble_eq_true h2, Nat.eq_of_beq_eq_true (all_lt ft_ok0 (Nat.le_of_ble_eq_true h3))⟩
  unfold am_isO
  rw [kd_F h0, sz_F h0, h1, h2]; rfl
theorem getF_ok {N n r : Nat} {ls : aL} {st : List aV} {h : aH} {nxt : aL → List aV → aH → Prop} {nx : aL → List aV → aS → Prop} (hn : ∀ ls st h, nxt ls st h → nx ls st (SH N, h)) (hb : am_isF N r n = true)
    (H : (match ftF n with
      | 0 => nxt ls (.inr (.inr (rfF r (n % 100))) :: st) h
      | 2 => nxt ls (.inr (.inl (h r (n % 100))) :: st) h
      | _ => nxt ls (.inl (h r (n % 100)) :: st) h)) : (bif am_isO (SH N) r n then nx ls (am_getf (am_nth am_o0 (SH N) r) (ftab (n / 100) (n % 100)) h r (n % 100) :: st) (SH N, h) else False) := by
  obtain ⟨h1, h2, h3, h4⟩ := isF_ok hb
  rw [h1, h4]
  show nx ls (am_getf (am_nth am_o0 (SH N) r) (ftF n) h r (n % 100) :: st) (SH N, h)
  revert H
  generalize ftF n = t
  rcases t with _ | _ | _ | t
  · intro H
    show nx ls (.inr (.inr (am_nth 0 (am_nth am_o0 (SH N) r).2.2 (n % 100))) :: st) (SH N, h)
    rw [rf_F h2 h3]
    exact hn _ _ _ H
  · exact hn _ _ _
  · exact hn _ _ _
  · exact hn _ _ _
theorem putF_ok {N n r : Nat} {ls : aL} {st : List aV} {h : aH} {v : aV} {nxt : aL → List aV → aH → Prop} {nx : aL → List aV → aS → Prop} (hn : ∀ ls st h, nxt ls st h → nx ls st (SH N, h)) (hb : (am_isF N r n && Nat.ble 9 r) = true)
    (H : am_putF (ftF n) h r (n % 100) v (fun h => nxt ls st h)) : (bif am_isO (SH N) r n && Nat.ble 9 r then am_putf (X := Prop) False ckP (am_nth am_o0 (SH N) r) (ftab (n / 100) (n % 100)) (SH N, h) r (n % 100) v (fun S => nx ls st S) else False) := by
  obtain ⟨hb, h9⟩ := Bool.and_eq_true_iff.mp hb
  obtain ⟨h1, h2, h3, h4⟩ := isF_ok hb
  rw [h1, h4, h9]
  show am_putf (X := Prop) False ckP (am_nth am_o0 (SH N) r) (ftF n) (SH N, h) r (n % 100) v (fun S => nx ls st S)
  revert H
  generalize ftF n = t
  rcases t with _ | _ | _ | _ | t
  · exact False.elim
  all_goals rcases v with v | v | v <;> first | exact False.elim | exact hn _ _ _ | exact fun H => ⟨H.1, hn _ _ _ H.2⟩
/-- what it does, the abstract machine does -/
theorem am_1F_ok {N : Nat} {call : Nat → List aV → aH → (Option aV → aH → Prop) → Prop} {ret : Option aV → aH → Prop} {cut : Nat → aL → List aV → aH → Prop} {nxt : aL → List aV → aH → Prop} {jmp : Nat → aL → List aV → aH → Prop} {nx : aL → List aV → aS → Prop} {jm : Nat → aL → List aV → aS → Prop}
    (hmono : ∀ y as h c c', (∀ v h, c v h → c' v h) → call y as h c → call y as h c') (hn : ∀ ls st h, nxt ls st h → nx ls st (SH N, h)) (i : Nat) (hj : ∀ t ls st h, jmp t ls st h → jm t ls st (SH N, h)) (ins : aI) (ls : aL) (st : List aV) (h : aH) :
    am_1F N call ret cut i ins ls st h nxt jmp → am_1 (X := Prop) ftab mNa (0, 0) False brP ckP (fun y as S c => call y as S.2 c) (fun _ _ _ _ => False) (fun v S => ret v S.2) (fun i ls st S => cut i ls st S.2) i ins ls st (SH N, h) nx jm := by
  have key : ∀ ins : aI, okI ins = true → am_1 (X := Prop) ftab mNa (0, 0) False brP ckP (fun _ _ _ _ => False) (fun _ _ _ _ => False) (fun _ _ => False) (fun _ _ _ _ => False) i ins ls st (SH N, h) (fun ls st S => nxt ls st S.2) (fun _ _ _ _ => False) → am_1 (X := Prop) ftab mNa (0, 0) False brP ckP (fun y as S c => call y as S.2 c) (fun _ _ _ _ => False) (fun v S => ret v S.2) (fun i ls st S => cut i ls st S.2) i ins ls st (SH N, h) nx jm :=
    fun ins hok => am_1_par (fun x y => x → y) (fun a b => a = b) (fun e _ _ q => e ▸ q) (fun _ _ e => by rw [e]) (fun _ _ e => by rw [e]) (fun _ hf => hf.elim) (fun c d x x' y y' h1 h2 hx => ⟨fun hc => h1 (hx.1 hc), fun hc => h2 (hx.2 hc)⟩) (fun c d x y h1 hx => ⟨hx.1, h1 hx.2⟩)
      (fun _ _ _ _ _ _ hf => hf.elim) (fun _ _ hf => hf.elim) (fun _ _ _ _ _ _ hf => hf.elim) (fun a b st h e hx => by rw [← e]; exact hn _ _ _ hx) i (fun _ _ _ _ _ _ hf => hf.elim) ins hok ls ls rfl st h
  cases ins
  case aaload => exact key (.aaload) rfl
  case aastore => exact False.elim
  case aconst_null => exact False.elim
  case aload index => delta am_1F am_1; dsimp only; rcases am_find index ls with _ | v | v | v <;> (first | exact False.elim | (dsimp only; cases (Nat.beq v 0 || Nat.beq v 8) <;> (first | exact False.elim | exact hn _ _ _ | exact fun H => ⟨H.1, hn _ _ _ H.2⟩ | exact fun H => ⟨H.1, H.2.1, hn _ _ _ H.2.2⟩ | exact fun H => ⟨fun c => hj _ _ _ _ (H.1 c), fun c => hn _ _ _ (H.2 c)⟩ | exact hj _ _ _ _ | exact fun H => H)))
  case aload_n => exact False.elim
  case anewarray => exact False.elim
  case areturn => exact False.elim
  case arraylength => delta am_1F am_1; dsimp only; rcases st with _ | ⟨v | v | v, st⟩ <;> (first | exact False.elim | (rcases Decidable.em (kdF v = 0) with h0 | h0 <;> first | (dsimp only; rw [h0]; exact False.elim) | (dsimp only; rw [kd_F h0, sz_F h0]; generalize kdF v = t; rcases t with _ | _ | _ | _ | _ | _ | _ | _ | _ | t <;> (first | exact False.elim | exact hn _ _ _ | exact fun H => ⟨H.1, hn _ _ _ H.2⟩ | exact fun H => ⟨H.1, H.2.1, hn _ _ _ H.2.2⟩ | exact fun H => ⟨fun c => hj _ _ _ _ (H.1 c), fun c => hn _ _ _ (H.2 c)⟩ | exact hj _ _ _ _ | exact fun H => H))))
  case astore index => delta am_1F am_1; dsimp only; rcases st with _ | ⟨v | v | v, st⟩ <;> (first | exact False.elim | (dsimp only; cases (Nat.beq v 0 || Nat.beq v 8) <;> first | exact False.elim | (dsimp only [cond]; rw [frcL_eq]; (first | exact False.elim | exact hn _ _ _ | exact fun H => ⟨H.1, hn _ _ _ H.2⟩ | exact fun H => ⟨H.1, H.2.1, hn _ _ _ H.2.2⟩ | exact fun H => ⟨fun c => hj _ _ _ _ (H.1 c), fun c => hn _ _ _ (H.2 c)⟩ | exact hj _ _ _ _ | exact fun H => H))))
  case astore_n => exact False.elim
  case athrow => exact False.elim
  case baload => delta am_1F am_1; dsimp only; rcases st with _ | ⟨v | v | v, _ | ⟨w | w | w, st⟩⟩ <;> (first | exact False.elim | (rcases Decidable.em (kdF w = 0) with h0 | h0 <;> first | (dsimp only; rw [h0]; exact False.elim) | (dsimp only; rw [kd_F h0, sz_F h0]; generalize kdF w = t; rcases t with _ | _ | _ | _ | _ | _ | _ | _ | _ | t <;> (first | exact False.elim | exact hn _ _ _ | exact fun H => ⟨H.1, hn _ _ _ H.2⟩ | exact fun H => ⟨H.1, H.2.1, hn _ _ _ H.2.2⟩ | exact fun H => ⟨fun c => hj _ _ _ _ (H.1 c), fun c => hn _ _ _ (H.2 c)⟩ | exact hj _ _ _ _ | exact fun H => H))))
  case bastore => delta am_1F am_1; dsimp only; rcases st with _ | ⟨v | v | v, _ | ⟨w | w | w, _ | ⟨u | u | u, st⟩⟩⟩ <;> (first | exact False.elim | (rcases Decidable.em (kdF u = 0) with h0 | h0 <;> first | (dsimp only; rw [h0]; exact False.elim) | (dsimp only; rw [kd_F h0, sz_F h0]; generalize kdF u = t; rcases t with _ | _ | _ | _ | _ | _ | _ | _ | _ | t <;> (first | exact False.elim | exact hn _ _ _ | exact fun H => ⟨H.1, hn _ _ _ H.2⟩ | exact fun H => ⟨H.1, H.2.1, hn _ _ _ H.2.2⟩ | exact fun H => ⟨fun c => hj _ _ _ _ (H.1 c), fun c => hn _ _ _ (H.2 c)⟩ | exact hj _ _ _ _ | exact fun H => H))))
  case bipush byte => delta am_1F am_1; dsimp only; (first | exact False.elim | exact hn _ _ _ | exact fun H => ⟨H.1, hn _ _ _ H.2⟩ | exact fun H => ⟨H.1, H.2.1, hn _ _ _ H.2.2⟩ | exact fun H => ⟨fun c => hj _ _ _ _ (H.1 c), fun c => hn _ _ _ (H.2 c)⟩ | exact hj _ _ _ _ | exact fun H => H)
  case caload => exact False.elim
  case castore => exact False.elim
  case checkcast => exact False.elim
  case d2f => exact False.elim
  case d2i => exact False.elim
  case d2l => exact False.elim
  case dadd => exact key (.dadd) rfl
  case daload => exact False.elim
  case dastore => exact False.elim
  case dcmp => exact False.elim
  case dconst => exact False.elim
  case ddiv => exact False.elim
  case dload => exact False.elim
  case dload_n => exact False.elim
  case dmul => exact key (.dmul) rfl
  case dneg => exact False.elim
  case drem => exact False.elim
  case dreturn => delta am_1F am_1; dsimp only; rcases st with _ | ⟨v | v | v, _ | ⟨w, st⟩⟩ <;> (first | exact False.elim | exact hn _ _ _ | exact fun H => ⟨H.1, hn _ _ _ H.2⟩ | exact fun H => ⟨H.1, H.2.1, hn _ _ _ H.2.2⟩ | exact fun H => ⟨fun c => hj _ _ _ _ (H.1 c), fun c => hn _ _ _ (H.2 c)⟩ | exact hj _ _ _ _ | exact fun H => H)
  case dstore => exact False.elim
  case dstore_n => exact False.elim
  case dsub => exact key (.dsub) rfl
  case dup => exact key (.dup) rfl
  case dup_x1 => exact False.elim
  case dup_x2 => exact False.elim
  case dup2 => exact key (.dup2) rfl
  case dup2_x1 => exact False.elim
  case dup2_x2 => exact False.elim
  case f2d => exact False.elim
  case f2i => exact False.elim
  case f2l => exact False.elim
  case fadd => exact key (.fadd) rfl
  case faload => exact False.elim
  case fastore => exact False.elim
  case fcmp => exact False.elim
  case fconst => exact False.elim
  case fdiv => exact False.elim
  case fload => exact False.elim
  case fload_n => exact False.elim
  case fmul => exact key (.fmul) rfl
  case fneg => exact False.elim
  case frem => exact False.elim
  case freturn => delta am_1F am_1; dsimp only; rcases st with _ | ⟨v | v | v, _ | ⟨w, st⟩⟩ <;> (first | exact False.elim | exact hn _ _ _ | exact fun H => ⟨H.1, hn _ _ _ H.2⟩ | exact fun H => ⟨H.1, H.2.1, hn _ _ _ H.2.2⟩ | exact fun H => ⟨fun c => hj _ _ _ _ (H.1 c), fun c => hn _ _ _ (H.2 c)⟩ | exact hj _ _ _ _ | exact fun H => H)
  case fstore => exact False.elim
  case fstore_n => exact False.elim
  case fsub => exact key (.fsub) rfl
  case getfield index => delta am_1F am_1; dsimp only; rcases st with _ | ⟨v | v | v, st⟩ <;> (first | exact False.elim | (intro H; obtain ⟨hb, H⟩ := bif_t (X := Nat) H; exact getF_ok hn hb H))
  case getstatic index => delta am_1F am_1; dsimp only; (first | exact False.elim | exact hn _ _ _ | exact fun H => ⟨H.1, hn _ _ _ H.2⟩ | exact fun H => ⟨H.1, H.2.1, hn _ _ _ H.2.2⟩ | exact fun H => ⟨fun c => hj _ _ _ _ (H.1 c), fun c => hn _ _ _ (H.2 c)⟩ | exact hj _ _ _ _ | exact fun H => H)
  case goto offset => delta am_1F am_1; dsimp only; (first | exact False.elim | exact hn _ _ _ | exact fun H => ⟨H.1, hn _ _ _ H.2⟩ | exact fun H => ⟨H.1, H.2.1, hn _ _ _ H.2.2⟩ | exact fun H => ⟨fun c => hj _ _ _ _ (H.1 c), fun c => hn _ _ _ (H.2 c)⟩ | exact hj _ _ _ _ | exact fun H => H)
  case goto_w => exact False.elim
  case i2b => exact key (.i2b) rfl
  case i2c => exact key (.i2c) rfl
  case i2d => exact False.elim
  case i2f => exact False.elim
  case i2l => exact key (.i2l) rfl
  case i2s => exact False.elim
  case iadd => exact key (.iadd) rfl
  case iaload => delta am_1F am_1; dsimp only; rcases st with _ | ⟨v | v | v, _ | ⟨w | w | w, st⟩⟩ <;> (first | exact False.elim | (rcases Decidable.em (kdF w = 0) with h0 | h0 <;> first | (dsimp only; rw [h0]; exact False.elim) | (dsimp only; rw [kd_F h0, sz_F h0]; generalize kdF w = t; rcases t with _ | _ | _ | _ | _ | _ | _ | _ | _ | t <;> (first | exact False.elim | exact hn _ _ _ | exact fun H => ⟨H.1, hn _ _ _ H.2⟩ | exact fun H => ⟨H.1, H.2.1, hn _ _ _ H.2.2⟩ | exact fun H => ⟨fun c => hj _ _ _ _ (H.1 c), fun c => hn _ _ _ (H.2 c)⟩ | exact hj _ _ _ _ | exact fun H => H))))
  case iand => exact key (.iand) rfl
  case iastore => delta am_1F am_1; dsimp only; rcases st with _ | ⟨v | v | v, _ | ⟨w | w | w, _ | ⟨u | u | u, st⟩⟩⟩ <;> (first | exact False.elim | (rcases Decidable.em (kdF u = 0) with h0 | h0 <;> first | (dsimp only; rw [h0]; exact False.elim) | (dsimp only; rw [kd_F h0, sz_F h0]; generalize kdF u = t; rcases t with _ | _ | _ | _ | _ | _ | _ | _ | _ | t <;> (first | exact False.elim | exact hn _ _ _ | exact fun H => ⟨H.1, hn _ _ _ H.2⟩ | exact fun H => ⟨H.1, H.2.1, hn _ _ _ H.2.2⟩ | exact fun H => ⟨fun c => hj _ _ _ _ (H.1 c), fun c => hn _ _ _ (H.2 c)⟩ | exact hj _ _ _ _ | exact fun H => H))))
  case iconst i => delta am_1F am_1; dsimp only; (first | exact False.elim | exact hn _ _ _ | exact fun H => ⟨H.1, hn _ _ _ H.2⟩ | exact fun H => ⟨H.1, H.2.1, hn _ _ _ H.2.2⟩ | exact fun H => ⟨fun c => hj _ _ _ _ (H.1 c), fun c => hn _ _ _ (H.2 c)⟩ | exact hj _ _ _ _ | exact fun H => H)
  case idiv => exact key (.idiv) rfl
  case if_acmp => exact False.elim
  case if_icmp cond offset => delta am_1F am_1; dsimp only; rcases st with _ | ⟨v | v | v, _ | ⟨w | w | w, st⟩⟩ <;> (first | exact False.elim | exact hn _ _ _ | exact fun H => ⟨H.1, hn _ _ _ H.2⟩ | exact fun H => ⟨H.1, H.2.1, hn _ _ _ H.2.2⟩ | exact fun H => ⟨fun c => hj _ _ _ _ (H.1 c), fun c => hn _ _ _ (H.2 c)⟩ | exact hj _ _ _ _ | exact fun H => H)
  case ifCond cond offset => delta am_1F am_1; dsimp only; rcases st with _ | ⟨v | v | v, st⟩ <;> (first | exact False.elim | exact hn _ _ _ | exact fun H => ⟨H.1, hn _ _ _ H.2⟩ | exact fun H => ⟨H.1, H.2.1, hn _ _ _ H.2.2⟩ | exact fun H => ⟨fun c => hj _ _ _ _ (H.1 c), fun c => hn _ _ _ (H.2 c)⟩ | exact hj _ _ _ _ | exact fun H => H)
  case ifnonnull => exact False.elim
  case ifnull => exact False.elim
  case iinc index const => delta am_1F am_1; dsimp only; rcases am_find index ls with _ | v | v | v <;> (first | exact False.elim | (dsimp only; rw [frcL_eq]; (first | exact False.elim | exact hn _ _ _ | exact fun H => ⟨H.1, hn _ _ _ H.2⟩ | exact fun H => ⟨H.1, H.2.1, hn _ _ _ H.2.2⟩ | exact fun H => ⟨fun c => hj _ _ _ _ (H.1 c), fun c => hn _ _ _ (H.2 c)⟩ | exact hj _ _ _ _ | exact fun H => H)))
  case iload index => delta am_1F am_1; dsimp only; rcases am_find index ls with _ | v | v | v <;> (first | exact False.elim | exact hn _ _ _ | exact fun H => ⟨H.1, hn _ _ _ H.2⟩ | exact fun H => ⟨H.1, H.2.1, hn _ _ _ H.2.2⟩ | exact fun H => ⟨fun c => hj _ _ _ _ (H.1 c), fun c => hn _ _ _ (H.2 c)⟩ | exact hj _ _ _ _ | exact fun H => H)
  case iload_n => exact False.elim
  case imul => exact key (.imul) rfl
  case ineg => exact key (.ineg) rfl
  case instanceof => exact False.elim
  case invokedynamic => exact False.elim
  case invokeinterface index count => exact key (.invokeinterface index count) rfl
  case invokespecial => exact False.elim
  case invokestatic index =>
    delta am_1F am_1; dsimp only
    intro H
    obtain ⟨hb, H⟩ := bif_t (X := Nat) H
    obtain ⟨e1, e2, -⟩ := na_at (okB_at hb).1
    rw [e1]
    revert H
    rcases am_pop (naF index) [] st with _ | ⟨as, st⟩
    · exact False.elim
    · intro H
      obtain ⟨hq, H⟩ := bif_t (X := Nat) H
      dsimp only
      rw [hq]
      exact hmono _ _ _ _ _ (fun v h => hn _ _ _) H
  case invokevirtual index =>
    delta am_1F am_1; dsimp only
    intro H
    obtain ⟨hb, H⟩ := bif_t (X := Nat) H
    obtain ⟨e1, e2, -⟩ := na_at (okB_at hb).1
    rw [e1, e2]
    revert H
    rcases am_pop (naF index) [] st with _ | ⟨_ | ⟨v | v | v, as⟩, st⟩
    · exact False.elim
    · exact False.elim
    · exact False.elim
    · exact False.elim
    · intro H
      obtain ⟨hq, H⟩ := bif_t (X := Nat) H
      obtain ⟨hq, hk⟩ := Bool.and_eq_true_iff.mp hq
      have hk := Nat.le_of_ble_eq_true hk
      dsimp only
      rw [kd_F (by omega), hq]
      exact hmono _ _ _ _ _ (fun v h => hn _ _ _) H
  case ior => exact key (.ior) rfl
  case irem => exact key (.irem) rfl
  case ireturn => delta am_1F am_1; dsimp only; rcases st with _ | ⟨v | v | v, _ | ⟨w, st⟩⟩ <;> (first | exact False.elim | exact hn _ _ _ | exact fun H => ⟨H.1, hn _ _ _ H.2⟩ | exact fun H => ⟨H.1, H.2.1, hn _ _ _ H.2.2⟩ | exact fun H => ⟨fun c => hj _ _ _ _ (H.1 c), fun c => hn _ _ _ (H.2 c)⟩ | exact hj _ _ _ _ | exact fun H => H)
  case ishl => exact key (.ishl) rfl
  case ishr => exact key (.ishr) rfl
  case istore index => delta am_1F am_1; dsimp only; rcases st with _ | ⟨v | v | v, st⟩ <;> (first | exact False.elim | (dsimp only; rw [frcL_eq]; (first | exact False.elim | exact hn _ _ _ | exact fun H => ⟨H.1, hn _ _ _ H.2⟩ | exact fun H => ⟨H.1, H.2.1, hn _ _ _ H.2.2⟩ | exact fun H => ⟨fun c => hj _ _ _ _ (H.1 c), fun c => hn _ _ _ (H.2 c)⟩ | exact hj _ _ _ _ | exact fun H => H)))
  case istore_n => exact False.elim
  case isub => exact key (.isub) rfl
  case iushr => exact key (.iushr) rfl
  case ixor => exact key (.ixor) rfl
  case jsr => exact False.elim
  case jsr_w => exact False.elim
  case l2d => exact False.elim
  case l2f => exact False.elim
  case l2i => exact key (.l2i) rfl
  case ladd => exact key (.ladd) rfl
  case laload => delta am_1F am_1; dsimp only; rcases st with _ | ⟨v | v | v, _ | ⟨w | w | w, st⟩⟩ <;> (first | exact False.elim | (rcases Decidable.em (kdF w = 0) with h0 | h0 <;> first | (dsimp only; rw [h0]; exact False.elim) | (dsimp only; rw [kd_F h0, sz_F h0]; generalize kdF w = t; rcases t with _ | _ | _ | _ | _ | _ | _ | _ | _ | t <;> (first | exact False.elim | exact hn _ _ _ | exact fun H => ⟨H.1, hn _ _ _ H.2⟩ | exact fun H => ⟨H.1, H.2.1, hn _ _ _ H.2.2⟩ | exact fun H => ⟨fun c => hj _ _ _ _ (H.1 c), fun c => hn _ _ _ (H.2 c)⟩ | exact hj _ _ _ _ | exact fun H => H))))
  case land => exact key (.land) rfl
  case lastore => delta am_1F am_1; dsimp only; rcases st with _ | ⟨v | v | v, _ | ⟨w | w | w, _ | ⟨u | u | u, st⟩⟩⟩ <;> (first | exact False.elim | (rcases Decidable.em (kdF u = 0) with h0 | h0 <;> first | (dsimp only; rw [h0]; exact False.elim) | (dsimp only; rw [kd_F h0, sz_F h0]; generalize kdF u = t; rcases t with _ | _ | _ | _ | _ | _ | _ | _ | _ | t <;> (first | exact False.elim | exact hn _ _ _ | exact fun H => ⟨H.1, hn _ _ _ H.2⟩ | exact fun H => ⟨H.1, H.2.1, hn _ _ _ H.2.2⟩ | exact fun H => ⟨fun c => hj _ _ _ _ (H.1 c), fun c => hn _ _ _ (H.2 c)⟩ | exact hj _ _ _ _ | exact fun H => H))))
  case lcmp => exact key (.lcmp) rfl
  case lconst => exact False.elim
  case ldc => exact False.elim
  case ldc_w => exact False.elim
  case ldc2_w => exact False.elim
  case ldiv => exact key (.ldiv) rfl
  case lload index => delta am_1F am_1; dsimp only; rcases am_find index ls with _ | v | v | v <;> (first | exact False.elim | exact hn _ _ _ | exact fun H => ⟨H.1, hn _ _ _ H.2⟩ | exact fun H => ⟨H.1, H.2.1, hn _ _ _ H.2.2⟩ | exact fun H => ⟨fun c => hj _ _ _ _ (H.1 c), fun c => hn _ _ _ (H.2 c)⟩ | exact hj _ _ _ _ | exact fun H => H)
  case lload_n => exact False.elim
  case lmul => exact key (.lmul) rfl
  case lneg => exact False.elim
  case lookupswitch => exact False.elim
  case lor => exact False.elim
  case lrem => exact False.elim
  case lreturn => delta am_1F am_1; dsimp only; rcases st with _ | ⟨v | v | v, _ | ⟨w, st⟩⟩ <;> (first | exact False.elim | exact hn _ _ _ | exact fun H => ⟨H.1, hn _ _ _ H.2⟩ | exact fun H => ⟨H.1, H.2.1, hn _ _ _ H.2.2⟩ | exact fun H => ⟨fun c => hj _ _ _ _ (H.1 c), fun c => hn _ _ _ (H.2 c)⟩ | exact hj _ _ _ _ | exact fun H => H)
  case lshl => exact key (.lshl) rfl
  case lshr => exact key (.lshr) rfl
  case lstore index => delta am_1F am_1; dsimp only; rcases st with _ | ⟨v | v | v, st⟩ <;> (first | exact False.elim | (dsimp only; rw [frcL_eq]; (first | exact False.elim | exact hn _ _ _ | exact fun H => ⟨H.1, hn _ _ _ H.2⟩ | exact fun H => ⟨H.1, H.2.1, hn _ _ _ H.2.2⟩ | exact fun H => ⟨fun c => hj _ _ _ _ (H.1 c), fun c => hn _ _ _ (H.2 c)⟩ | exact hj _ _ _ _ | exact fun H => H)))
  case lstore_n => exact False.elim
  case lsub => exact key (.lsub) rfl
  case lushr => exact key (.lushr) rfl
  case lxor => exact key (.lxor) rfl
  case monitorenter => exact False.elim
  case monitorexit => exact False.elim
  case multianewarray => exact False.elim
  case new => exact False.elim
  case newarray => exact False.elim
  case nop => delta am_1F am_1; dsimp only; (first | exact False.elim | exact hn _ _ _ | exact fun H => ⟨H.1, hn _ _ _ H.2⟩ | exact fun H => ⟨H.1, H.2.1, hn _ _ _ H.2.2⟩ | exact fun H => ⟨fun c => hj _ _ _ _ (H.1 c), fun c => hn _ _ _ (H.2 c)⟩ | exact hj _ _ _ _ | exact fun H => H)
  case pop => exact key (.pop) rfl
  case pop2 => exact key (.pop2) rfl
  case putfield index => delta am_1F am_1; dsimp only; rcases st with _ | ⟨v | v | v, _ | ⟨w | w | w, st⟩⟩ <;> (first | exact False.elim | (intro H; obtain ⟨hb, H⟩ := bif_t (X := Nat) H; exact putF_ok hn hb H))
  case putstatic => exact False.elim
  case ret => exact False.elim
  case return_ => delta am_1F am_1; dsimp only; rcases st with _ | ⟨v | v | v, _ | ⟨w, st⟩⟩ <;> (first | exact False.elim | exact hn _ _ _ | exact fun H => ⟨H.1, hn _ _ _ H.2⟩ | exact fun H => ⟨H.1, H.2.1, hn _ _ _ H.2.2⟩ | exact fun H => ⟨fun c => hj _ _ _ _ (H.1 c), fun c => hn _ _ _ (H.2 c)⟩ | exact hj _ _ _ _ | exact fun H => H)
  case saload => exact False.elim
  case sastore => exact False.elim
  case sipush => exact False.elim
  case swap => exact False.elim
  case tableswitch default low high offsets => delta am_1F am_1; dsimp only; rcases st with _ | ⟨v | v | v, st⟩ <;> (first | exact False.elim | exact fun H => ⟨fun c => hj _ _ _ _ (H.1 c), fun c => am_sw_par (fun x y => x → y) (fun _ hf => hf.elim) (fun c d x x' y y' h1 h2 hx => ⟨fun hc => h1 (hx.1 hc), fun hc => h2 (hx.2 hc)⟩) (fun _ => hj _ _ _ _) _ _ _ (H.2 c)⟩)
theorem am_xF_ok {N : Nat} {call : Nat → List aV → aH → (Option aV → aH → Prop) → Prop} {ret : Option aV → aH → Prop} {cut : Nat → aL → List aV → aH → Prop} {code : List aI}
    (hmono : ∀ y as h c c', (∀ v h, c v h → c' v h) → call y as h c → call y as h c') : ∀ (f i : Nat) (rest : List aI) (ls : aL) (st : List aV) (h : aH), am_xF N call ret cut code f i rest ls st h →
    am_x (X := Prop) ftab mNa (0, 0) False brP ckP (fun y as S c => call y as S.2 c) (fun _ _ _ _ => False) (fun v S => ret v S.2) (fun i ls st S => cut i ls st S.2) code f i rest ls st (SH N, h) := by
  intro f
  induction f with
  | zero => intro i rest ls st h H; exact H.elim
  | succ f ih =>
    intro i rest ls st h H
    rcases rest with _ | ⟨ins, rest⟩
    · exact H.elim
    · have H : frcN i (fun i => am_1F N call ret cut i ins ls st h (fun ls st h => am_xF N call ret cut code f (i + 1) rest ls st h) (fun t ls st h => bif Nat.ble t i then cut t ls st h else am_xF N call ret cut code f t (code.drop t) ls st h)) := H
      rw [frcN_eq] at H
      refine am_1F_ok hmono (fun ls st h H => ih (i + 1) rest ls st h H) i (fun t ls st h H => ?_) ins ls st h H
      show (bif Nat.ble t i then _ else _)
      cases hb : Nat.ble t i with
      | true => rw [hb] at H; exact H
      | false => rw [hb] at H; exact ih t (code.drop t) ls st h H
def fCall (N : Nat) : Nat → List aV → aH → (Option aV → aH → Prop) → Prop := fun y as h cont =>
  bif okB y && Nat.ble (am_cat as) (loF y) then
    (match rT y with
    | 0 => WV N y 0 (am_en 0 as) h (fun h => cont none h)
    | 1 => WI N y 0 (am_en 0 as) h (fun x h => cont (some (.inl x)) h)
    | _ => WL N y 0 (am_en 0 as) h (fun x h => cont (some (.inr (.inl x))) h))
  else False
theorem fCall_mono {N : Nat} : ∀ y as h c c', (∀ v h, c v h → c' v h) → fCall N y as h c → fCall N y as h c' := by
  intro y as h c c' hc H
  unfold fCall at H ⊢
  obtain ⟨hb, H⟩ := bif_t (X := Nat) H
  rw [hb]
  show (match rT y with
    | 0 => WV N y 0 (am_en 0 as) h (fun h => c' none h)
    | 1 => WI N y 0 (am_en 0 as) h (fun x h => c' (some (.inl x)) h)
    | _ => WL N y 0 (am_en 0 as) h (fun x h => c' (some (.inr (.inl x))) h))
  revert H
  generalize rT y = t
  rcases t with _ | _ | t
  · exact fun H => WV.mono H fun h => hc _ _
  · exact fun H => WI.mono H fun x h => hc _ _
  · exact fun H => WL.mono H fun x h => hc _ _
theorem fCall_k {N : Nat} (y : Nat) (as : List aV) (h : aH) (c : Option aV → aH → Prop) (H : fCall N y as h c) : kCall N y as (SH N, h) c := by
  unfold fCall at H
  obtain ⟨hb, H⟩ := bif_t (X := Nat) H
  obtain ⟨h1, h2⟩ := Bool.and_eq_true_iff.mp hb
  unfold kCall
  rw [(na_at (okB_at h1).1).2.2, h1, h2]
  exact H
def gV (C : aH → Prop) : Option aV → aH → Prop := fun v h => match v with
  | none => C h
  | some _ => False
def gI (C : Int → aH → Prop) : Option aV → aH → Prop := fun v h => match v with
  | some (.inl x) => C x h
  | _ => False
def gL (C : Int → aH → Prop) : Option aV → aH → Prop := fun v h => match v with
  | some (.inr (.inl x)) => C x h
  | _ => False
/-- past a mark -/
def nxN (code : List aI) (i : Nat) : Nat := match code.drop i with
  | .nop :: _ => i + 1
  | _ => i
def uV (N k : Nat) (code : List aI) (lv : Nat → List Nat) (C : aH → Prop) : Nat → aL → List aV → aH → Prop := fun i ls st h => match st with
  | [] => WV N k (nxN code i) (lo_sel (lv i) ls) h C
  | _ :: _ => False
def uI (N k : Nat) (code : List aI) (lv : Nat → List Nat) (C : Int → aH → Prop) : Nat → aL → List aV → aH → Prop := fun i ls st h => match st with
  | [] => WI N k (nxN code i) (lo_sel (lv i) ls) h C
  | _ :: _ => False
def uL (N k : Nat) (code : List aI) (lv : Nat → List Nat) (C : Int → aH → Prop) : Nat → aL → List aV → aH → Prop := fun i ls st h => match st with
  | [] => WL N k (nxN code i) (lo_sel (lv i) ls) h C
  | _ :: _ => False
theorem WK.stepF {N k i : Nat} {ls : aL} {h : aH} {Q : Option aV → aH → Prop} {ret : Option aV → aH → Prop} {cut : Nat → aL → List aV → aH → Prop} {code : List aI} (hc : mM k = code) (hk : (code.drop i).all okI = true)
    (hret : ∀ v h, ret v h → Q v h) (hcut : ∀ i ls st h, cut i ls st h → ∃ ls', (∀ q ∈ ls', q ∈ ls) ∧ st = [] ∧ WK N k i ls' h Q)
    (H : am_xF N (fCall N) ret cut code 5000 i (code.drop i) ls [] h) : WK N k i ls h Q := by
  subst hc
  refine WK.step (retX := fun v S => ret v S.2) (cutX := fun i ls st S => cut i ls st S.2) hk (fun v h => hret v h) (fun i ls st h => hcut i ls st h) ?_
  exact am_x_par (fun x y => x → y) (fun a b => a = b) (fun e _ _ q => e ▸ q) (fun _ _ e => by rw [e]) (fun _ _ e => by rw [e]) (fun _ hf => hf.elim) (fun c d x x' y y' h1 h2 hx => ⟨fun hc => h1 (hx.1 hc), fun hc => h2 (hx.2 hc)⟩) (fun c d x y h1 hx => ⟨hx.1, h1 hx.2⟩)
    (fun y as h c c' hcc hx => fCall_k y as h c' (fCall_mono y as h c c' hcc hx)) (fun _ _ hx => hx) (fun _ a b _ _ e hx => by rw [← e]; exact hx) hk 5000 i _ ls ls [] h rfl (Nat.le_refl _) hk (am_xF_ok fCall_mono 5000 i _ ls [] h H)
theorem WK.nop {N k i : Nat} {ls : aL} {h : aH} {Q : Option aV → aH → Prop} {code : List aI} (hc : mM k = code) {rest : List aI} (hd : code.drop i = .nop :: rest) (H : WK N k (i + 1) ls h Q) : WK N k i ls h Q := by
  intro lim ls2 hl
  obtain ⟨v, h2, hq, n0, hn⟩ := H lim ls2 hl
  refine ⟨v, h2, hq, n0 + 1, fun n hle => ?_⟩
  obtain ⟨n, rfl⟩ : ∃ m, n = m + 1 := ⟨n - 1, by omega⟩
  show am_x (X := Prop) ftab mNa lim False brP ckP _ _ _ _ (mM k) 5000 i ((mM k).drop i) ls2 [] (SH N, h)
  rw [hc, hd]
  exact hn n (by omega)
theorem WK.nx {N k i : Nat} {ls : aL} {h : aH} {Q : Option aV → aH → Prop} {code : List aI} (hc : mM k = code) (H : WK N k (nxN code i) ls h Q) : WK N k i ls h Q := by
  unfold nxN at H
  split at H
  · rename_i hd; exact WK.nop hc hd H
  · exact H
def fV (N k i : Nat) (code : List aI) (lv : Nat → List Nat) (ls : aL) (h : aH) (C : aH → Prop) : Prop := am_xF N (fCall N) (gV C) (uV N k code lv C) code 5000 i (code.drop i) ls [] h
def fI (N k i : Nat) (code : List aI) (lv : Nat → List Nat) (ls : aL) (h : aH) (C : Int → aH → Prop) : Prop := am_xF N (fCall N) (gI C) (uI N k code lv C) code 5000 i (code.drop i) ls [] h
def fL (N k i : Nat) (code : List aI) (lv : Nat → List Nat) (ls : aL) (h : aH) (C : Int → aH → Prop) : Prop := am_xF N (fCall N) (gL C) (uL N k code lv C) code 5000 i (code.drop i) ls [] h
theorem WV.fD {N k i : Nat} {code : List aI} {ls : aL} {h : aH} {C : aH → Prop} (lv : Nat → List Nat) (hm : mM k = code) (hk : (code.drop i).all okI = true) (H : fV N k i code lv ls h C) : WV N k i ls h C := by
  refine WK.stepF (ret := gV C) (cut := uV N k code lv C) hm hk ?_ ?_ H
  · intro v h hr
    rcases v with _ | v
    · exact ⟨rfl, hr⟩
    · exact hr.elim
  · intro i ls st h hc
    rcases st with _ | ⟨s, st⟩
    · exact ⟨_, fun q hq => sel_mem hq, rfl, WK.nx hm hc⟩
    · exact hc.elim
theorem WV.f {N k i : Nat} {code : List aI} {ls : aL} {h : aH} {C : aH → Prop} (lv : Nat → List Nat) (hc : mM k = code) (hk : okB k = true) (H : fV N k i code lv ls h C) : WV N k i ls h C := WV.fD lv hc (by rw [← hc]; exact okB_drop i hk) H
theorem WI.fD {N k i : Nat} {code : List aI} {ls : aL} {h : aH} {C : Int → aH → Prop} (lv : Nat → List Nat) (hm : mM k = code) (hk : (code.drop i).all okI = true) (H : fI N k i code lv ls h C) : WI N k i ls h C := by
  refine WK.stepF (ret := gI C) (cut := uI N k code lv C) hm hk ?_ ?_ H
  · intro v h hr
    rcases v with _ | (v | v | v)
    · exact hr.elim
    · exact ⟨v, rfl, hr⟩
    · exact hr.elim
    · exact hr.elim
  · intro i ls st h hc
    rcases st with _ | ⟨s, st⟩
    · exact ⟨_, fun q hq => sel_mem hq, rfl, WK.nx hm hc⟩
    · exact hc.elim
theorem WI.f {N k i : Nat} {code : List aI} {ls : aL} {h : aH} {C : Int → aH → Prop} (lv : Nat → List Nat) (hc : mM k = code) (hk : okB k = true) (H : fI N k i code lv ls h C) : WI N k i ls h C := WI.fD lv hc (by rw [← hc]; exact okB_drop i hk) H
theorem WL.fD {N k i : Nat} {code : List aI} {ls : aL} {h : aH} {C : Int → aH → Prop} (lv : Nat → List Nat) (hm : mM k = code) (hk : (code.drop i).all okI = true) (H : fL N k i code lv ls h C) : WL N k i ls h C := by
  refine WK.stepF (ret := gL C) (cut := uL N k code lv C) hm hk ?_ ?_ H
  · intro v h hr
    rcases v with _ | (v | v | v)
    · exact hr.elim
    · exact hr.elim
    · exact ⟨v, rfl, hr⟩
    · exact hr.elim
  · intro i ls st h hc
    rcases st with _ | ⟨s, st⟩
    · exact ⟨_, fun q hq => sel_mem hq, rfl, WK.nx hm hc⟩
    · exact hc.elim
theorem WL.f {N k i : Nat} {code : List aI} {ls : aL} {h : aH} {C : Int → aH → Prop} (lv : Nat → List Nat) (hc : mM k = code) (hk : okB k = true) (H : fL N k i code lv ls h C) : WL N k i ls h C := WL.fD lv hc (by rw [← hc]; exact okB_drop i hk) H
