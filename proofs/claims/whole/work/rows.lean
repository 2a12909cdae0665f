section
/-! places of lists -/
def am_nth {α : Type} (d : α) : List α → Nat → α
  | [], _ => d
  | x :: _, 0 => x
  | _ :: l, n + 1 => am_nth d l n
def am_put {α : Type} (x : α) : List α → Nat → List α
  | [], _ => []
  | _ :: l, 0 => x :: l
  | y :: l, n + 1 => y :: am_put x l n
theorem am_nth_get {α : Type} (d : α) : ∀ (l : List α) (k : Nat), k < l.length → l[k]? = some (am_nth d l k)
  | [], k, h => absurd h (Nat.not_lt_zero k)
  | x :: l, 0, _ => rfl
  | x :: l, k + 1, h => by
    rw [List.getElem?_cons_succ]
    exact am_nth_get d l k (Nat.lt_of_succ_lt_succ h)
theorem am_nth_out {α : Type} (d : α) : ∀ (l : List α) (k : Nat), l.length ≤ k → am_nth d l k = d
  | [], _, _ => rfl
  | x :: l, 0, h => absurd h (by simp)
  | x :: l, k + 1, h => am_nth_out d l k (Nat.le_of_succ_le_succ h)
theorem am_nth_app {α : Type} (d : α) : ∀ (l m : List α) (k : Nat), k < l.length → am_nth d (l ++ m) k = am_nth d l k
  | [], _, k, h => absurd h (Nat.not_lt_zero k)
  | x :: l, m, 0, _ => rfl
  | x :: l, m, k + 1, h => am_nth_app d l m k (Nat.lt_of_succ_lt_succ h)
theorem am_nth_last {α : Type} (d x : α) : ∀ (l : List α), am_nth d (l ++ [x]) l.length = x
  | [] => rfl
  | _ :: l => am_nth_last d x l
theorem am_put_len {α : Type} (x : α) : ∀ (l : List α) (k : Nat), (am_put x l k).length = l.length
  | [], _ => rfl
  | _ :: _, 0 => rfl
  | _ :: l, k + 1 => congrArg (· + 1) (am_put_len x l k)
theorem am_nth_put {α : Type} (d x : α) : ∀ (l : List α) (k j : Nat), k < l.length → am_nth d (am_put x l k) j = if j = k then x else am_nth d l j
  | [], k, _, h => absurd h (Nat.not_lt_zero k)
  | y :: l, 0, 0, _ => rfl
  | y :: l, 0, j + 1, _ => rfl
  | y :: l, k + 1, 0, _ => rfl
  | y :: l, k + 1, j + 1, h => by
    show am_nth d (am_put x l k) j = _
    rw [am_nth_put d x l k j (Nat.lt_of_succ_lt_succ h)]
    by_cases e : j = k
    · rw [if_pos e, if_pos (by rw [e])]
    · rw [if_neg e, if_neg (fun q => e (Nat.succ.inj q))]; rfl
theorem nb_ne {a b : Nat} (h : a ≠ b) : Nat.beq a b = false := by
  cases hh : Nat.beq a b with
  | false => rfl
  | true => exact absurd (Nat.eq_of_beq_eq_true hh) h
end
section
-- ===== PART A: goes FIRST, ahead of the names: the tables' words, and 'selects' of the private methods out of them =====
/-- a private method of a class that the tables say can be made, by its rows of tables_1 -/
def lw_okq (q : MethodName × Nat) : Prop := (q.1.cls ≠ "java/lang/invoke/MethodHandle" ∧ q.1.cls ≠ "java/lang/invoke/VarHandle") ∧ Cond.instantiable q.1.cls q.2 ∈ tables_1 ∧ Cond.privateMethod q.1 ∈ tables_1 ∧ Cond.instanceMethod q.1 ∈ tables_1
theorem lw_p0 : lw_okq (⟨"WakeHouse$Tape", "scan", "()Z"⟩, 8) := ⟨⟨by decide +kernel, by decide +kernel⟩, List.mem_of_getElem? (i := 33) (by decide +kernel), List.mem_of_getElem? (i := 694) (by decide +kernel), List.mem_of_getElem? (i := 695) (by decide +kernel)⟩
theorem lw_p1 : lw_okq (⟨"WakeHouse$Tape", "put", "(IIJ)V"⟩, 8) := ⟨⟨by decide +kernel, by decide +kernel⟩, List.mem_of_getElem? (i := 33) (by decide +kernel), List.mem_of_getElem? (i := 701) (by decide +kernel), List.mem_of_getElem? (i := 702) (by decide +kernel)⟩
theorem lw_p2 : lw_okq (⟨"WakeHouse$Tape", "scanLetters", "()Z"⟩, 8) := ⟨⟨by decide +kernel, by decide +kernel⟩, List.mem_of_getElem? (i := 33) (by decide +kernel), List.mem_of_getElem? (i := 708) (by decide +kernel), List.mem_of_getElem? (i := 709) (by decide +kernel)⟩
theorem lw_p3 : lw_okq (⟨"WakeHouse$Tape", "scanDigits", "()Z"⟩, 8) := ⟨⟨by decide +kernel, by decide +kernel⟩, List.mem_of_getElem? (i := 33) (by decide +kernel), List.mem_of_getElem? (i := 715) (by decide +kernel), List.mem_of_getElem? (i := 716) (by decide +kernel)⟩
theorem lw_p4 : lw_okq (⟨"WakeHouse$Tape", "scanSign", "(I)Z"⟩, 8) := ⟨⟨by decide +kernel, by decide +kernel⟩, List.mem_of_getElem? (i := 33) (by decide +kernel), List.mem_of_getElem? (i := 719) (by decide +kernel), List.mem_of_getElem? (i := 720) (by decide +kernel)⟩
theorem lw_p5 : lw_okq (⟨"WakeHouse$House", "putUsualHearing", "()V"⟩, 19) := ⟨⟨by decide +kernel, by decide +kernel⟩, List.mem_of_getElem? (i := 125) (by decide +kernel), List.mem_of_getElem? (i := 787) (by decide +kernel), List.mem_of_getElem? (i := 788) (by decide +kernel)⟩
theorem lw_p6 : lw_okq (⟨"WakeHouse$Reader", "kind", "()I"⟩, 15) := ⟨⟨by decide +kernel, by decide +kernel⟩, List.mem_of_getElem? (i := 261) (by decide +kernel), List.mem_of_getElem? (i := 795) (by decide +kernel), List.mem_of_getElem? (i := 796) (by decide +kernel)⟩
theorem lw_p7 : lw_okq (⟨"WakeHouse$Reader", "tell", "()Z"⟩, 15) := ⟨⟨by decide +kernel, by decide +kernel⟩, List.mem_of_getElem? (i := 261) (by decide +kernel), List.mem_of_getElem? (i := 799) (by decide +kernel), List.mem_of_getElem? (i := 800) (by decide +kernel)⟩
theorem lw_p8 : lw_okq (⟨"WakeHouse$Reader", "tellBed", "()Z"⟩, 15) := ⟨⟨by decide +kernel, by decide +kernel⟩, List.mem_of_getElem? (i := 261) (by decide +kernel), List.mem_of_getElem? (i := 803) (by decide +kernel), List.mem_of_getElem? (i := 804) (by decide +kernel)⟩
theorem lw_p9 : lw_okq (⟨"WakeHouse$Reader", "fail", "(I)Z"⟩, 15) := ⟨⟨by decide +kernel, by decide +kernel⟩, List.mem_of_getElem? (i := 261) (by decide +kernel), List.mem_of_getElem? (i := 807) (by decide +kernel), List.mem_of_getElem? (i := 808) (by decide +kernel)⟩
theorem lw_p10 : lw_okq (⟨"WakeHouse$Reader", "goOn", "()Z"⟩, 15) := ⟨⟨by decide +kernel, by decide +kernel⟩, List.mem_of_getElem? (i := 261) (by decide +kernel), List.mem_of_getElem? (i := 811) (by decide +kernel), List.mem_of_getElem? (i := 812) (by decide +kernel)⟩
theorem lw_p11 : lw_okq (⟨"WakeHouse$Reader", "takeNewName", "(I)Z"⟩, 15) := ⟨⟨by decide +kernel, by decide +kernel⟩, List.mem_of_getElem? (i := 261) (by decide +kernel), List.mem_of_getElem? (i := 815) (by decide +kernel), List.mem_of_getElem? (i := 816) (by decide +kernel)⟩
theorem lw_p12 : lw_okq (⟨"WakeHouse$Reader", "numberOf", "(J)I"⟩, 15) := ⟨⟨by decide +kernel, by decide +kernel⟩, List.mem_of_getElem? (i := 261) (by decide +kernel), List.mem_of_getElem? (i := 819) (by decide +kernel), List.mem_of_getElem? (i := 820) (by decide +kernel)⟩
theorem lw_p13 : lw_okq (⟨"WakeHouse$Reader", "doubt", "(I)V"⟩, 15) := ⟨⟨by decide +kernel, by decide +kernel⟩, List.mem_of_getElem? (i := 261) (by decide +kernel), List.mem_of_getElem? (i := 823) (by decide +kernel), List.mem_of_getElem? (i := 824) (by decide +kernel)⟩
theorem lw_p14 : lw_okq (⟨"WakeHouse$Reader", "takeInt", "(II)Z"⟩, 15) := ⟨⟨by decide +kernel, by decide +kernel⟩, List.mem_of_getElem? (i := 261) (by decide +kernel), List.mem_of_getElem? (i := 827) (by decide +kernel), List.mem_of_getElem? (i := 828) (by decide +kernel)⟩
theorem lw_p15 : lw_okq (⟨"WakeHouse$Reader", "take", "(I)Z"⟩, 15) := ⟨⟨by decide +kernel, by decide +kernel⟩, List.mem_of_getElem? (i := 261) (by decide +kernel), List.mem_of_getElem? (i := 831) (by decide +kernel), List.mem_of_getElem? (i := 832) (by decide +kernel)⟩
def lw_privs_1 : List (MethodName × Nat) := [(⟨"WakeHouse$Tape", "scan", "()Z"⟩, 8), (⟨"WakeHouse$Tape", "put", "(IIJ)V"⟩, 8), (⟨"WakeHouse$Tape", "scanLetters", "()Z"⟩, 8), (⟨"WakeHouse$Tape", "scanDigits", "()Z"⟩, 8), (⟨"WakeHouse$Tape", "scanSign", "(I)Z"⟩, 8), (⟨"WakeHouse$House", "putUsualHearing", "()V"⟩, 19), (⟨"WakeHouse$Reader", "kind", "()I"⟩, 15), (⟨"WakeHouse$Reader", "tell", "()Z"⟩, 15), (⟨"WakeHouse$Reader", "tellBed", "()Z"⟩, 15), (⟨"WakeHouse$Reader", "fail", "(I)Z"⟩, 15), (⟨"WakeHouse$Reader", "goOn", "()Z"⟩, 15), (⟨"WakeHouse$Reader", "takeNewName", "(I)Z"⟩, 15), (⟨"WakeHouse$Reader", "numberOf", "(J)I"⟩, 15), (⟨"WakeHouse$Reader", "doubt", "(I)V"⟩, 15), (⟨"WakeHouse$Reader", "takeInt", "(II)Z"⟩, 15), (⟨"WakeHouse$Reader", "take", "(I)Z"⟩, 15)]
theorem lw_r1 : ∀ q ∈ lw_privs_1, lw_okq q := List.forall_mem_cons.mpr ⟨lw_p0, List.forall_mem_cons.mpr ⟨lw_p1, List.forall_mem_cons.mpr ⟨lw_p2, List.forall_mem_cons.mpr ⟨lw_p3, List.forall_mem_cons.mpr ⟨lw_p4, List.forall_mem_cons.mpr ⟨lw_p5, List.forall_mem_cons.mpr ⟨lw_p6, List.forall_mem_cons.mpr ⟨lw_p7, List.forall_mem_cons.mpr ⟨lw_p8, List.forall_mem_cons.mpr ⟨lw_p9, List.forall_mem_cons.mpr ⟨lw_p10, List.forall_mem_cons.mpr ⟨lw_p11, List.forall_mem_cons.mpr ⟨lw_p12, List.forall_mem_cons.mpr ⟨lw_p13, List.forall_mem_cons.mpr ⟨lw_p14, List.forall_mem_cons.mpr ⟨lw_p15, fun _ h => absurd h List.not_mem_nil⟩⟩⟩⟩⟩⟩⟩⟩⟩⟩⟩⟩⟩⟩⟩⟩
theorem lw_p16 : lw_okq (⟨"WakeHouse$Reader", "tellClock", "()Z"⟩, 15) := ⟨⟨by decide +kernel, by decide +kernel⟩, List.mem_of_getElem? (i := 261) (by decide +kernel), List.mem_of_getElem? (i := 835) (by decide +kernel), List.mem_of_getElem? (i := 836) (by decide +kernel)⟩
theorem lw_p17 : lw_okq (⟨"WakeHouse$Reader", "tellSleeper", "()Z"⟩, 15) := ⟨⟨by decide +kernel, by decide +kernel⟩, List.mem_of_getElem? (i := 261) (by decide +kernel), List.mem_of_getElem? (i := 839) (by decide +kernel), List.mem_of_getElem? (i := 840) (by decide +kernel)⟩
theorem lw_p18 : lw_okq (⟨"WakeHouse$Reader", "takeBedName", "()Z"⟩, 15) := ⟨⟨by decide +kernel, by decide +kernel⟩, List.mem_of_getElem? (i := 261) (by decide +kernel), List.mem_of_getElem? (i := 843) (by decide +kernel), List.mem_of_getElem? (i := 844) (by decide +kernel)⟩
theorem lw_p19 : lw_okq (⟨"WakeHouse$Reader", "takeDuty", "(I)Z"⟩, 15) := ⟨⟨by decide +kernel, by decide +kernel⟩, List.mem_of_getElem? (i := 261) (by decide +kernel), List.mem_of_getElem? (i := 847) (by decide +kernel), List.mem_of_getElem? (i := 848) (by decide +kernel)⟩
theorem lw_p20 : lw_okq (⟨"WakeHouse$Reader", "tellLaw", "(LWakeHouse$Law;)Z"⟩, 15) := ⟨⟨by decide +kernel, by decide +kernel⟩, List.mem_of_getElem? (i := 261) (by decide +kernel), List.mem_of_getElem? (i := 851) (by decide +kernel), List.mem_of_getElem? (i := 852) (by decide +kernel)⟩
theorem lw_p21 : lw_okq (⟨"WakeHouse$Reader", "open", "(I)Z"⟩, 15) := ⟨⟨by decide +kernel, by decide +kernel⟩, List.mem_of_getElem? (i := 261) (by decide +kernel), List.mem_of_getElem? (i := 855) (by decide +kernel), List.mem_of_getElem? (i := 856) (by decide +kernel)⟩
theorem lw_p22 : lw_okq (⟨"WakeHouse$Reader", "pushSign", "(I)V"⟩, 15) := ⟨⟨by decide +kernel, by decide +kernel⟩, List.mem_of_getElem? (i := 261) (by decide +kernel), List.mem_of_getElem? (i := 859) (by decide +kernel), List.mem_of_getElem? (i := 860) (by decide +kernel)⟩
theorem lw_p23 : lw_okq (⟨"WakeHouse$Reader", "putUnit", "(LWakeHouse$Law;I)Z"⟩, 15) := ⟨⟨by decide +kernel, by decide +kernel⟩, List.mem_of_getElem? (i := 261) (by decide +kernel), List.mem_of_getElem? (i := 863) (by decide +kernel), List.mem_of_getElem? (i := 864) (by decide +kernel)⟩
theorem lw_p24 : lw_okq (⟨"WakeHouse$Reader", "putSign", "(LWakeHouse$Law;I)Z"⟩, 15) := ⟨⟨by decide +kernel, by decide +kernel⟩, List.mem_of_getElem? (i := 261) (by decide +kernel), List.mem_of_getElem? (i := 868) (by decide +kernel), List.mem_of_getElem? (i := 869) (by decide +kernel)⟩
theorem lw_p25 : lw_okq (⟨"WakeHouse$Reader", "putWaiting", "(LWakeHouse$Law;Z)V"⟩, 15) := ⟨⟨by decide +kernel, by decide +kernel⟩, List.mem_of_getElem? (i := 261) (by decide +kernel), List.mem_of_getElem? (i := 872) (by decide +kernel), List.mem_of_getElem? (i := 873) (by decide +kernel)⟩
theorem lw_p26 : lw_okq (⟨"WakeHouse$Reader", "closes", "(I)Z"⟩, 15) := ⟨⟨by decide +kernel, by decide +kernel⟩, List.mem_of_getElem? (i := 261) (by decide +kernel), List.mem_of_getElem? (i := 876) (by decide +kernel), List.mem_of_getElem? (i := 877) (by decide +kernel)⟩
theorem lw_p27 : lw_okq (⟨"WakeHouse$Reader", "close", "(LWakeHouse$Law;I)Z"⟩, 15) := ⟨⟨by decide +kernel, by decide +kernel⟩, List.mem_of_getElem? (i := 261) (by decide +kernel), List.mem_of_getElem? (i := 880) (by decide +kernel), List.mem_of_getElem? (i := 881) (by decide +kernel)⟩
theorem lw_p28 : lw_okq (⟨"WakeHouse$House", "listHours", "()V"⟩, 19) := ⟨⟨by decide +kernel, by decide +kernel⟩, List.mem_of_getElem? (i := 125) (by decide +kernel), List.mem_of_getElem? (i := 896) (by decide +kernel), List.mem_of_getElem? (i := 897) (by decide +kernel)⟩
theorem lw_p29 : lw_okq (⟨"WakeHouse$House", "listHour", "(I)V"⟩, 19) := ⟨⟨by decide +kernel, by decide +kernel⟩, List.mem_of_getElem? (i := 125) (by decide +kernel), List.mem_of_getElem? (i := 900) (by decide +kernel), List.mem_of_getElem? (i := 901) (by decide +kernel)⟩
theorem lw_p30 : lw_okq (⟨"WakeHouse$House", "listEight", "()V"⟩, 19) := ⟨⟨by decide +kernel, by decide +kernel⟩, List.mem_of_getElem? (i := 125) (by decide +kernel), List.mem_of_getElem? (i := 904) (by decide +kernel), List.mem_of_getElem? (i := 905) (by decide +kernel)⟩
theorem lw_p31 : lw_okq (⟨"WakeHouse", "isSleeper", "(I)Z"⟩, 12) := ⟨⟨by decide +kernel, by decide +kernel⟩, List.mem_of_getElem? (i := 25) (by decide +kernel), List.mem_of_getElem? (i := 930) (by decide +kernel), List.mem_of_getElem? (i := 931) (by decide +kernel)⟩
def lw_privs_2 : List (MethodName × Nat) := [(⟨"WakeHouse$Reader", "tellClock", "()Z"⟩, 15), (⟨"WakeHouse$Reader", "tellSleeper", "()Z"⟩, 15), (⟨"WakeHouse$Reader", "takeBedName", "()Z"⟩, 15), (⟨"WakeHouse$Reader", "takeDuty", "(I)Z"⟩, 15), (⟨"WakeHouse$Reader", "tellLaw", "(LWakeHouse$Law;)Z"⟩, 15), (⟨"WakeHouse$Reader", "open", "(I)Z"⟩, 15), (⟨"WakeHouse$Reader", "pushSign", "(I)V"⟩, 15), (⟨"WakeHouse$Reader", "putUnit", "(LWakeHouse$Law;I)Z"⟩, 15), (⟨"WakeHouse$Reader", "putSign", "(LWakeHouse$Law;I)Z"⟩, 15), (⟨"WakeHouse$Reader", "putWaiting", "(LWakeHouse$Law;Z)V"⟩, 15), (⟨"WakeHouse$Reader", "closes", "(I)Z"⟩, 15), (⟨"WakeHouse$Reader", "close", "(LWakeHouse$Law;I)Z"⟩, 15), (⟨"WakeHouse$House", "listHours", "()V"⟩, 19), (⟨"WakeHouse$House", "listHour", "(I)V"⟩, 19), (⟨"WakeHouse$House", "listEight", "()V"⟩, 19), (⟨"WakeHouse", "isSleeper", "(I)Z"⟩, 12)]
theorem lw_r2 : ∀ q ∈ lw_privs_2, lw_okq q := List.forall_mem_cons.mpr ⟨lw_p16, List.forall_mem_cons.mpr ⟨lw_p17, List.forall_mem_cons.mpr ⟨lw_p18, List.forall_mem_cons.mpr ⟨lw_p19, List.forall_mem_cons.mpr ⟨lw_p20, List.forall_mem_cons.mpr ⟨lw_p21, List.forall_mem_cons.mpr ⟨lw_p22, List.forall_mem_cons.mpr ⟨lw_p23, List.forall_mem_cons.mpr ⟨lw_p24, List.forall_mem_cons.mpr ⟨lw_p25, List.forall_mem_cons.mpr ⟨lw_p26, List.forall_mem_cons.mpr ⟨lw_p27, List.forall_mem_cons.mpr ⟨lw_p28, List.forall_mem_cons.mpr ⟨lw_p29, List.forall_mem_cons.mpr ⟨lw_p30, List.forall_mem_cons.mpr ⟨lw_p31, fun _ h => absurd h List.not_mem_nil⟩⟩⟩⟩⟩⟩⟩⟩⟩⟩⟩⟩⟩⟩⟩⟩
theorem lw_p32 : lw_okq (⟨"WakeHouse", "isBed", "(I)Z"⟩, 12) := ⟨⟨by decide +kernel, by decide +kernel⟩, List.mem_of_getElem? (i := 25) (by decide +kernel), List.mem_of_getElem? (i := 942) (by decide +kernel), List.mem_of_getElem? (i := 943) (by decide +kernel)⟩
theorem lw_p33 : lw_okq (⟨"WakeHouse", "isClock", "(I)Z"⟩, 12) := ⟨⟨by decide +kernel, by decide +kernel⟩, List.mem_of_getElem? (i := 25) (by decide +kernel), List.mem_of_getElem? (i := 990) (by decide +kernel), List.mem_of_getElem? (i := 991) (by decide +kernel)⟩
theorem lw_p34 : lw_okq (⟨"WakeHouse", "plan", "(IIII)I"⟩, 12) := ⟨⟨by decide +kernel, by decide +kernel⟩, List.mem_of_getElem? (i := 25) (by decide +kernel), List.mem_of_getElem? (i := 998) (by decide +kernel), List.mem_of_getElem? (i := 999) (by decide +kernel)⟩
theorem lw_p35 : lw_okq (⟨"WakeHouse", "isSound", "(I)Z"⟩, 12) := ⟨⟨by decide +kernel, by decide +kernel⟩, List.mem_of_getElem? (i := 25) (by decide +kernel), List.mem_of_getElem? (i := 1018) (by decide +kernel), List.mem_of_getElem? (i := 1019) (by decide +kernel)⟩
theorem lw_p36 : lw_okq (⟨"WakeHouse", "bestRefusal", "(III)I"⟩, 12) := ⟨⟨by decide +kernel, by decide +kernel⟩, List.mem_of_getElem? (i := 25) (by decide +kernel), List.mem_of_getElem? (i := 1123) (by decide +kernel), List.mem_of_getElem? (i := 1124) (by decide +kernel)⟩
theorem lw_p37 : lw_okq (⟨"WakeHouse$BestTwo", "hearAll", "()V"⟩, 17) := ⟨⟨by decide +kernel, by decide +kernel⟩, List.mem_of_getElem? (i := 438) (by decide +kernel), List.mem_of_getElem? (i := 1131) (by decide +kernel), List.mem_of_getElem? (i := 1132) (by decide +kernel)⟩
theorem lw_p38 : lw_okq (⟨"WakeHouse$BestTwo", "hearClock", "(I[I)V"⟩, 17) := ⟨⟨by decide +kernel, by decide +kernel⟩, List.mem_of_getElem? (i := 438) (by decide +kernel), List.mem_of_getElem? (i := 1135) (by decide +kernel), List.mem_of_getElem? (i := 1136) (by decide +kernel)⟩
theorem lw_p39 : lw_okq (⟨"WakeHouse$BestTwo", "setTo", "(I)I"⟩, 17) := ⟨⟨by decide +kernel, by decide +kernel⟩, List.mem_of_getElem? (i := 438) (by decide +kernel), List.mem_of_getElem? (i := 1139) (by decide +kernel), List.mem_of_getElem? (i := 1140) (by decide +kernel)⟩
theorem lw_p40 : lw_okq (⟨"WakeHouse$BestTwo", "weigh", "(II)V"⟩, 17) := ⟨⟨by decide +kernel, by decide +kernel⟩, List.mem_of_getElem? (i := 438) (by decide +kernel), List.mem_of_getElem? (i := 1151) (by decide +kernel), List.mem_of_getElem? (i := 1152) (by decide +kernel)⟩
theorem lw_p41 : lw_okq (⟨"WakeHouse$BestTwo", "compareBeds", "(II)V"⟩, 17) := ⟨⟨by decide +kernel, by decide +kernel⟩, List.mem_of_getElem? (i := 438) (by decide +kernel), List.mem_of_getElem? (i := 1158) (by decide +kernel), List.mem_of_getElem? (i := 1159) (by decide +kernel)⟩
theorem lw_p42 : lw_okq (⟨"WakeHouse$BestTwo", "compare", "(JI)V"⟩, 17) := ⟨⟨by decide +kernel, by decide +kernel⟩, List.mem_of_getElem? (i := 438) (by decide +kernel), List.mem_of_getElem? (i := 1162) (by decide +kernel), List.mem_of_getElem? (i := 1163) (by decide +kernel)⟩
theorem lw_p43 : lw_okq (⟨"WakeHouse$BestTwo", "compareSeconds", "(JII)V"⟩, 17) := ⟨⟨by decide +kernel, by decide +kernel⟩, List.mem_of_getElem? (i := 438) (by decide +kernel), List.mem_of_getElem? (i := 1166) (by decide +kernel), List.mem_of_getElem? (i := 1167) (by decide +kernel)⟩
theorem lw_p44 : lw_okq (⟨"WakeHouse$Cover", "gather", "(I)V"⟩, 6) := ⟨⟨by decide +kernel, by decide +kernel⟩, List.mem_of_getElem? (i := 497) (by decide +kernel), List.mem_of_getElem? (i := 1190) (by decide +kernel), List.mem_of_getElem? (i := 1191) (by decide +kernel)⟩
theorem lw_p45 : lw_okq (⟨"WakeHouse$Cover", "wokenBy", "(III)I"⟩, 6) := ⟨⟨by decide +kernel, by decide +kernel⟩, List.mem_of_getElem? (i := 497) (by decide +kernel), List.mem_of_getElem? (i := 1195) (by decide +kernel), List.mem_of_getElem? (i := 1196) (by decide +kernel)⟩
theorem lw_p46 : lw_okq (⟨"WakeHouse$Cover", "keep", "(I)V"⟩, 6) := ⟨⟨by decide +kernel, by decide +kernel⟩, List.mem_of_getElem? (i := 497) (by decide +kernel), List.mem_of_getElem? (i := 1202) (by decide +kernel), List.mem_of_getElem? (i := 1203) (by decide +kernel)⟩
theorem lw_p47 : lw_okq (⟨"WakeHouse$Cover", "bound", "()I"⟩, 6) := ⟨⟨by decide +kernel, by decide +kernel⟩, List.mem_of_getElem? (i := 497) (by decide +kernel), List.mem_of_getElem? (i := 1206) (by decide +kernel), List.mem_of_getElem? (i := 1207) (by decide +kernel)⟩
def lw_privs_3 : List (MethodName × Nat) := [(⟨"WakeHouse", "isBed", "(I)Z"⟩, 12), (⟨"WakeHouse", "isClock", "(I)Z"⟩, 12), (⟨"WakeHouse", "plan", "(IIII)I"⟩, 12), (⟨"WakeHouse", "isSound", "(I)Z"⟩, 12), (⟨"WakeHouse", "bestRefusal", "(III)I"⟩, 12), (⟨"WakeHouse$BestTwo", "hearAll", "()V"⟩, 17), (⟨"WakeHouse$BestTwo", "hearClock", "(I[I)V"⟩, 17), (⟨"WakeHouse$BestTwo", "setTo", "(I)I"⟩, 17), (⟨"WakeHouse$BestTwo", "weigh", "(II)V"⟩, 17), (⟨"WakeHouse$BestTwo", "compareBeds", "(II)V"⟩, 17), (⟨"WakeHouse$BestTwo", "compare", "(JI)V"⟩, 17), (⟨"WakeHouse$BestTwo", "compareSeconds", "(JII)V"⟩, 17), (⟨"WakeHouse$Cover", "gather", "(I)V"⟩, 6), (⟨"WakeHouse$Cover", "wokenBy", "(III)I"⟩, 6), (⟨"WakeHouse$Cover", "keep", "(I)V"⟩, 6), (⟨"WakeHouse$Cover", "bound", "()I"⟩, 6)]
theorem lw_r3 : ∀ q ∈ lw_privs_3, lw_okq q := List.forall_mem_cons.mpr ⟨lw_p32, List.forall_mem_cons.mpr ⟨lw_p33, List.forall_mem_cons.mpr ⟨lw_p34, List.forall_mem_cons.mpr ⟨lw_p35, List.forall_mem_cons.mpr ⟨lw_p36, List.forall_mem_cons.mpr ⟨lw_p37, List.forall_mem_cons.mpr ⟨lw_p38, List.forall_mem_cons.mpr ⟨lw_p39, List.forall_mem_cons.mpr ⟨lw_p40, List.forall_mem_cons.mpr ⟨lw_p41, List.forall_mem_cons.mpr ⟨lw_p42, List.forall_mem_cons.mpr ⟨lw_p43, List.forall_mem_cons.mpr ⟨lw_p44, List.forall_mem_cons.mpr ⟨lw_p45, List.forall_mem_cons.mpr ⟨lw_p46, List.forall_mem_cons.mpr ⟨lw_p47, fun _ h => absurd h List.not_mem_nil⟩⟩⟩⟩⟩⟩⟩⟩⟩⟩⟩⟩⟩⟩⟩⟩
theorem lw_p48 : lw_okq (⟨"WakeHouse$Cover", "goOn", "(II)V"⟩, 6) := ⟨⟨by decide +kernel, by decide +kernel⟩, List.mem_of_getElem? (i := 497) (by decide +kernel), List.mem_of_getElem? (i := 1211) (by decide +kernel), List.mem_of_getElem? (i := 1212) (by decide +kernel)⟩
theorem lw_p49 : lw_okq (⟨"WakeHouse$Shaking", "setPrices", "(I)V"⟩, 13) := ⟨⟨by decide +kernel, by decide +kernel⟩, List.mem_of_getElem? (i := 522) (by decide +kernel), List.mem_of_getElem? (i := 1237) (by decide +kernel), List.mem_of_getElem? (i := 1238) (by decide +kernel)⟩
theorem lw_p50 : lw_okq (⟨"WakeHouse$Shaking", "canShake", "(II)Z"⟩, 13) := ⟨⟨by decide +kernel, by decide +kernel⟩, List.mem_of_getElem? (i := 522) (by decide +kernel), List.mem_of_getElem? (i := 1244) (by decide +kernel), List.mem_of_getElem? (i := 1245) (by decide +kernel)⟩
theorem lw_p51 : lw_okq (⟨"WakeHouse$Shaking", "walkOf", "(II)I"⟩, 13) := ⟨⟨by decide +kernel, by decide +kernel⟩, List.mem_of_getElem? (i := 522) (by decide +kernel), List.mem_of_getElem? (i := 1248) (by decide +kernel), List.mem_of_getElem? (i := 1249) (by decide +kernel)⟩
theorem lw_p52 : lw_okq (⟨"WakeHouse$Shaking", "seat", "(I)V"⟩, 13) := ⟨⟨by decide +kernel, by decide +kernel⟩, List.mem_of_getElem? (i := 522) (by decide +kernel), List.mem_of_getElem? (i := 1260) (by decide +kernel), List.mem_of_getElem? (i := 1261) (by decide +kernel)⟩
theorem lw_p53 : lw_okq (⟨"WakeHouse$Shaking", "nearest", "(I)I"⟩, 13) := ⟨⟨by decide +kernel, by decide +kernel⟩, List.mem_of_getElem? (i := 522) (by decide +kernel), List.mem_of_getElem? (i := 1265) (by decide +kernel), List.mem_of_getElem? (i := 1266) (by decide +kernel)⟩
theorem lw_p54 : lw_okq (⟨"WakeHouse$Shaking", "isDone", "(I)Z"⟩, 13) := ⟨⟨by decide +kernel, by decide +kernel⟩, List.mem_of_getElem? (i := 522) (by decide +kernel), List.mem_of_getElem? (i := 1269) (by decide +kernel), List.mem_of_getElem? (i := 1270) (by decide +kernel)⟩
theorem lw_p55 : lw_okq (⟨"WakeHouse$Shaking", "tell", "(I)V"⟩, 13) := ⟨⟨by decide +kernel, by decide +kernel⟩, List.mem_of_getElem? (i := 522) (by decide +kernel), List.mem_of_getElem? (i := 1273) (by decide +kernel), List.mem_of_getElem? (i := 1274) (by decide +kernel)⟩
theorem lw_p56 : lw_okq (⟨"WakeHouse", "mayRingTwice", "(IIII)Z"⟩, 12) := ⟨⟨by decide +kernel, by decide +kernel⟩, List.mem_of_getElem? (i := 25) (by decide +kernel), List.mem_of_getElem? (i := 1285) (by decide +kernel), List.mem_of_getElem? (i := 1286) (by decide +kernel)⟩
theorem lw_p57 : lw_okq (⟨"WakeHouse$Night", "pickNext", "(II)Z"⟩, 12) := ⟨⟨by decide +kernel, by decide +kernel⟩, List.mem_of_getElem? (i := 391) (by decide +kernel), List.mem_of_getElem? (i := 1295) (by decide +kernel), List.mem_of_getElem? (i := 1296) (by decide +kernel)⟩
theorem lw_p58 : lw_okq (⟨"WakeHouse$Changes", "setPrices", "()V"⟩, 6) := ⟨⟨by decide +kernel, by decide +kernel⟩, List.mem_of_getElem? (i := 603) (by decide +kernel), List.mem_of_getElem? (i := 1314) (by decide +kernel), List.mem_of_getElem? (i := 1315) (by decide +kernel)⟩
theorem lw_p59 : lw_okq (⟨"WakeHouse$Changes", "priceOf", "(II)J"⟩, 6) := ⟨⟨by decide +kernel, by decide +kernel⟩, List.mem_of_getElem? (i := 603) (by decide +kernel), List.mem_of_getElem? (i := 1322) (by decide +kernel), List.mem_of_getElem? (i := 1323) (by decide +kernel)⟩
theorem lw_p60 : lw_okq (⟨"WakeHouse$Changes", "seekOne", "(JI)Z"⟩, 6) := ⟨⟨by decide +kernel, by decide +kernel⟩, List.mem_of_getElem? (i := 603) (by decide +kernel), List.mem_of_getElem? (i := 1328) (by decide +kernel), List.mem_of_getElem? (i := 1329) (by decide +kernel)⟩
theorem lw_p61 : lw_okq (⟨"WakeHouse$Changes", "saved", "(II)J"⟩, 6) := ⟨⟨by decide +kernel, by decide +kernel⟩, List.mem_of_getElem? (i := 603) (by decide +kernel), List.mem_of_getElem? (i := 1332) (by decide +kernel), List.mem_of_getElem? (i := 1333) (by decide +kernel)⟩
theorem lw_p62 : lw_okq (⟨"WakeHouse$Changes", "seekTwo", "(J)Z"⟩, 6) := ⟨⟨by decide +kernel, by decide +kernel⟩, List.mem_of_getElem? (i := 603) (by decide +kernel), List.mem_of_getElem? (i := 1336) (by decide +kernel), List.mem_of_getElem? (i := 1337) (by decide +kernel)⟩
theorem lw_p63 : lw_okq (⟨"WakeHouse$Changes", "turn", "(II)V"⟩, 6) := ⟨⟨by decide +kernel, by decide +kernel⟩, List.mem_of_getElem? (i := 603) (by decide +kernel), List.mem_of_getElem? (i := 1340) (by decide +kernel), List.mem_of_getElem? (i := 1341) (by decide +kernel)⟩
def lw_privs_4 : List (MethodName × Nat) := [(⟨"WakeHouse$Cover", "goOn", "(II)V"⟩, 6), (⟨"WakeHouse$Shaking", "setPrices", "(I)V"⟩, 13), (⟨"WakeHouse$Shaking", "canShake", "(II)Z"⟩, 13), (⟨"WakeHouse$Shaking", "walkOf", "(II)I"⟩, 13), (⟨"WakeHouse$Shaking", "seat", "(I)V"⟩, 13), (⟨"WakeHouse$Shaking", "nearest", "(I)I"⟩, 13), (⟨"WakeHouse$Shaking", "isDone", "(I)Z"⟩, 13), (⟨"WakeHouse$Shaking", "tell", "(I)V"⟩, 13), (⟨"WakeHouse", "mayRingTwice", "(IIII)Z"⟩, 12), (⟨"WakeHouse$Night", "pickNext", "(II)Z"⟩, 12), (⟨"WakeHouse$Changes", "setPrices", "()V"⟩, 6), (⟨"WakeHouse$Changes", "priceOf", "(II)J"⟩, 6), (⟨"WakeHouse$Changes", "seekOne", "(JI)Z"⟩, 6), (⟨"WakeHouse$Changes", "saved", "(II)J"⟩, 6), (⟨"WakeHouse$Changes", "seekTwo", "(J)Z"⟩, 6), (⟨"WakeHouse$Changes", "turn", "(II)V"⟩, 6)]
theorem lw_r4 : ∀ q ∈ lw_privs_4, lw_okq q := List.forall_mem_cons.mpr ⟨lw_p48, List.forall_mem_cons.mpr ⟨lw_p49, List.forall_mem_cons.mpr ⟨lw_p50, List.forall_mem_cons.mpr ⟨lw_p51, List.forall_mem_cons.mpr ⟨lw_p52, List.forall_mem_cons.mpr ⟨lw_p53, List.forall_mem_cons.mpr ⟨lw_p54, List.forall_mem_cons.mpr ⟨lw_p55, List.forall_mem_cons.mpr ⟨lw_p56, List.forall_mem_cons.mpr ⟨lw_p57, List.forall_mem_cons.mpr ⟨lw_p58, List.forall_mem_cons.mpr ⟨lw_p59, List.forall_mem_cons.mpr ⟨lw_p60, List.forall_mem_cons.mpr ⟨lw_p61, List.forall_mem_cons.mpr ⟨lw_p62, List.forall_mem_cons.mpr ⟨lw_p63, fun _ h => absurd h List.not_mem_nil⟩⟩⟩⟩⟩⟩⟩⟩⟩⟩⟩⟩⟩⟩⟩⟩
theorem lw_p64 : lw_okq (⟨"WakeHouse$Round", "goForward", "()V"⟩, 8) := ⟨⟨by decide +kernel, by decide +kernel⟩, List.mem_of_getElem? (i := 571) (by decide +kernel), List.mem_of_getElem? (i := 1377) (by decide +kernel), List.mem_of_getElem? (i := 1378) (by decide +kernel)⟩
theorem lw_p65 : lw_okq (⟨"WakeHouse$Round", "knock", "(II)I"⟩, 8) := ⟨⟨by decide +kernel, by decide +kernel⟩, List.mem_of_getElem? (i := 571) (by decide +kernel), List.mem_of_getElem? (i := 1383) (by decide +kernel), List.mem_of_getElem? (i := 1384) (by decide +kernel)⟩
theorem lw_p66 : lw_okq (⟨"WakeHouse$Round", "hourOf", "(I)I"⟩, 8) := ⟨⟨by decide +kernel, by decide +kernel⟩, List.mem_of_getElem? (i := 571) (by decide +kernel), List.mem_of_getElem? (i := 1387) (by decide +kernel), List.mem_of_getElem? (i := 1388) (by decide +kernel)⟩
theorem lw_p67 : lw_okq (⟨"WakeHouse$Round", "goBackward", "(I)V"⟩, 8) := ⟨⟨by decide +kernel, by decide +kernel⟩, List.mem_of_getElem? (i := 571) (by decide +kernel), List.mem_of_getElem? (i := 1394) (by decide +kernel), List.mem_of_getElem? (i := 1395) (by decide +kernel)⟩
theorem lw_p68 : lw_okq (⟨"WakeHouse$Round", "pickOrder", "()V"⟩, 8) := ⟨⟨by decide +kernel, by decide +kernel⟩, List.mem_of_getElem? (i := 571) (by decide +kernel), List.mem_of_getElem? (i := 1398) (by decide +kernel), List.mem_of_getElem? (i := 1399) (by decide +kernel)⟩
theorem lw_p69 : lw_okq (⟨"WakeHouse", "isKnown", "(I)Z"⟩, 12) := ⟨⟨by decide +kernel, by decide +kernel⟩, List.mem_of_getElem? (i := 25) (by decide +kernel), List.mem_of_getElem? (i := 1422) (by decide +kernel), List.mem_of_getElem? (i := 1423) (by decide +kernel)⟩
theorem lw_p70 : lw_okq (⟨"WakeHouse$State", "known", "(II)Z"⟩, 14) := ⟨⟨by decide +kernel, by decide +kernel⟩, List.mem_of_getElem? (i := 317) (by decide +kernel), List.mem_of_getElem? (i := 1430) (by decide +kernel), List.mem_of_getElem? (i := 1431) (by decide +kernel)⟩
theorem lw_p71 : lw_okq (⟨"WakeHouse$State", "inTime", "(LWakeHouse$House;I)Z"⟩, 14) := ⟨⟨by decide +kernel, by decide +kernel⟩, List.mem_of_getElem? (i := 317) (by decide +kernel), List.mem_of_getElem? (i := 1434) (by decide +kernel), List.mem_of_getElem? (i := 1435) (by decide +kernel)⟩
theorem lw_p72 : lw_okq (⟨"WakeHouse", "aMinuteLater", "(IIZ)I"⟩, 12) := ⟨⟨by decide +kernel, by decide +kernel⟩, List.mem_of_getElem? (i := 25) (by decide +kernel), List.mem_of_getElem? (i := 1462) (by decide +kernel), List.mem_of_getElem? (i := 1463) (by decide +kernel)⟩
theorem lw_p73 : lw_okq (⟨"WakeHouse", "cryHeard", "(III)I"⟩, 12) := ⟨⟨by decide +kernel, by decide +kernel⟩, List.mem_of_getElem? (i := 25) (by decide +kernel), List.mem_of_getElem? (i := 1466) (by decide +kernel), List.mem_of_getElem? (i := 1467) (by decide +kernel)⟩
theorem lw_p74 : lw_okq (⟨"WakeHouseModel", "put", "(I)V"⟩, 90) := ⟨⟨by decide +kernel, by decide +kernel⟩, List.mem_of_getElem? (i := 1530) (by decide +kernel), List.mem_of_getElem? (i := 1818) (by decide +kernel), List.mem_of_getElem? (i := 1819) (by decide +kernel)⟩
theorem lw_p75 : lw_okq (⟨"WakeHouseModel", "cut", "()V"⟩, 90) := ⟨⟨by decide +kernel, by decide +kernel⟩, List.mem_of_getElem? (i := 1530) (by decide +kernel), List.mem_of_getElem? (i := 1830) (by decide +kernel), List.mem_of_getElem? (i := 1831) (by decide +kernel)⟩
theorem lw_p76 : lw_okq (⟨"WakeHouseModel", "byteAt", "(I)I"⟩, 90) := ⟨⟨by decide +kernel, by decide +kernel⟩, List.mem_of_getElem? (i := 1530) (by decide +kernel), List.mem_of_getElem? (i := 1834) (by decide +kernel), List.mem_of_getElem? (i := 1835) (by decide +kernel)⟩
theorem lw_p77 : lw_okq (⟨"WakeHouseModel", "token", "(IIIJ)V"⟩, 90) := ⟨⟨by decide +kernel, by decide +kernel⟩, List.mem_of_getElem? (i := 1530) (by decide +kernel), List.mem_of_getElem? (i := 1838) (by decide +kernel), List.mem_of_getElem? (i := 1839) (by decide +kernel)⟩
theorem lw_p78 : lw_okq (⟨"WakeHouseModel", "sign", "(III)I"⟩, 90) := ⟨⟨by decide +kernel, by decide +kernel⟩, List.mem_of_getElem? (i := 1530) (by decide +kernel), List.mem_of_getElem? (i := 1848) (by decide +kernel), List.mem_of_getElem? (i := 1849) (by decide +kernel)⟩
theorem lw_p79 : lw_okq (⟨"WakeHouseModel", "is", "(I)Z"⟩, 90) := ⟨⟨by decide +kernel, by decide +kernel⟩, List.mem_of_getElem? (i := 1530) (by decide +kernel), List.mem_of_getElem? (i := 1852) (by decide +kernel), List.mem_of_getElem? (i := 1853) (by decide +kernel)⟩
def lw_privs_5 : List (MethodName × Nat) := [(⟨"WakeHouse$Round", "goForward", "()V"⟩, 8), (⟨"WakeHouse$Round", "knock", "(II)I"⟩, 8), (⟨"WakeHouse$Round", "hourOf", "(I)I"⟩, 8), (⟨"WakeHouse$Round", "goBackward", "(I)V"⟩, 8), (⟨"WakeHouse$Round", "pickOrder", "()V"⟩, 8), (⟨"WakeHouse", "isKnown", "(I)Z"⟩, 12), (⟨"WakeHouse$State", "known", "(II)Z"⟩, 14), (⟨"WakeHouse$State", "inTime", "(LWakeHouse$House;I)Z"⟩, 14), (⟨"WakeHouse", "aMinuteLater", "(IIZ)I"⟩, 12), (⟨"WakeHouse", "cryHeard", "(III)I"⟩, 12), (⟨"WakeHouseModel", "put", "(I)V"⟩, 90), (⟨"WakeHouseModel", "cut", "()V"⟩, 90), (⟨"WakeHouseModel", "byteAt", "(I)I"⟩, 90), (⟨"WakeHouseModel", "token", "(IIIJ)V"⟩, 90), (⟨"WakeHouseModel", "sign", "(III)I"⟩, 90), (⟨"WakeHouseModel", "is", "(I)Z"⟩, 90)]
theorem lw_r5 : ∀ q ∈ lw_privs_5, lw_okq q := List.forall_mem_cons.mpr ⟨lw_p64, List.forall_mem_cons.mpr ⟨lw_p65, List.forall_mem_cons.mpr ⟨lw_p66, List.forall_mem_cons.mpr ⟨lw_p67, List.forall_mem_cons.mpr ⟨lw_p68, List.forall_mem_cons.mpr ⟨lw_p69, List.forall_mem_cons.mpr ⟨lw_p70, List.forall_mem_cons.mpr ⟨lw_p71, List.forall_mem_cons.mpr ⟨lw_p72, List.forall_mem_cons.mpr ⟨lw_p73, List.forall_mem_cons.mpr ⟨lw_p74, List.forall_mem_cons.mpr ⟨lw_p75, List.forall_mem_cons.mpr ⟨lw_p76, List.forall_mem_cons.mpr ⟨lw_p77, List.forall_mem_cons.mpr ⟨lw_p78, List.forall_mem_cons.mpr ⟨lw_p79, fun _ h => absurd h List.not_mem_nil⟩⟩⟩⟩⟩⟩⟩⟩⟩⟩⟩⟩⟩⟩⟩⟩
theorem lw_p80 : lw_okq (⟨"WakeHouseModel", "tell", "()V"⟩, 90) := ⟨⟨by decide +kernel, by decide +kernel⟩, List.mem_of_getElem? (i := 1530) (by decide +kernel), List.mem_of_getElem? (i := 1856) (by decide +kernel), List.mem_of_getElem? (i := 1857) (by decide +kernel)⟩
theorem lw_p81 : lw_okq (⟨"WakeHouseModel", "fail", "(I)V"⟩, 90) := ⟨⟨by decide +kernel, by decide +kernel⟩, List.mem_of_getElem? (i := 1530) (by decide +kernel), List.mem_of_getElem? (i := 1860) (by decide +kernel), List.mem_of_getElem? (i := 1861) (by decide +kernel)⟩
theorem lw_p82 : lw_okq (⟨"WakeHouseModel", "tellBed", "()V"⟩, 90) := ⟨⟨by decide +kernel, by decide +kernel⟩, List.mem_of_getElem? (i := 1530) (by decide +kernel), List.mem_of_getElem? (i := 1864) (by decide +kernel), List.mem_of_getElem? (i := 1865) (by decide +kernel)⟩
theorem lw_p83 : lw_okq (⟨"WakeHouseModel", "goesOn", "()V"⟩, 90) := ⟨⟨by decide +kernel, by decide +kernel⟩, List.mem_of_getElem? (i := 1530) (by decide +kernel), List.mem_of_getElem? (i := 1868) (by decide +kernel), List.mem_of_getElem? (i := 1869) (by decide +kernel)⟩
theorem lw_p84 : lw_okq (⟨"WakeHouseModel", "named", "()I"⟩, 90) := ⟨⟨by decide +kernel, by decide +kernel⟩, List.mem_of_getElem? (i := 1530) (by decide +kernel), List.mem_of_getElem? (i := 1872) (by decide +kernel), List.mem_of_getElem? (i := 1873) (by decide +kernel)⟩
theorem lw_p85 : lw_okq (⟨"WakeHouseModel", "must", "(I)V"⟩, 90) := ⟨⟨by decide +kernel, by decide +kernel⟩, List.mem_of_getElem? (i := 1530) (by decide +kernel), List.mem_of_getElem? (i := 1876) (by decide +kernel), List.mem_of_getElem? (i := 1877) (by decide +kernel)⟩
theorem lw_p86 : lw_okq (⟨"WakeHouseModel", "wrong", "(II)V"⟩, 90) := ⟨⟨by decide +kernel, by decide +kernel⟩, List.mem_of_getElem? (i := 1530) (by decide +kernel), List.mem_of_getElem? (i := 1880) (by decide +kernel), List.mem_of_getElem? (i := 1881) (by decide +kernel)⟩
theorem lw_p87 : lw_okq (⟨"WakeHouseModel", "told", "(II)I"⟩, 90) := ⟨⟨by decide +kernel, by decide +kernel⟩, List.mem_of_getElem? (i := 1530) (by decide +kernel), List.mem_of_getElem? (i := 1884) (by decide +kernel), List.mem_of_getElem? (i := 1885) (by decide +kernel)⟩
theorem lw_p88 : lw_okq (⟨"WakeHouseModel", "knows", "(III)V"⟩, 90) := ⟨⟨by decide +kernel, by decide +kernel⟩, List.mem_of_getElem? (i := 1530) (by decide +kernel), List.mem_of_getElem? (i := 1888) (by decide +kernel), List.mem_of_getElem? (i := 1889) (by decide +kernel)⟩
theorem lw_p89 : lw_okq (⟨"WakeHouseModel", "tellClock", "()V"⟩, 90) := ⟨⟨by decide +kernel, by decide +kernel⟩, List.mem_of_getElem? (i := 1530) (by decide +kernel), List.mem_of_getElem? (i := 1892) (by decide +kernel), List.mem_of_getElem? (i := 1893) (by decide +kernel)⟩
theorem lw_p90 : lw_okq (⟨"WakeHouseModel", "tellSleeper", "()V"⟩, 90) := ⟨⟨by decide +kernel, by decide +kernel⟩, List.mem_of_getElem? (i := 1530) (by decide +kernel), List.mem_of_getElem? (i := 1896) (by decide +kernel), List.mem_of_getElem? (i := 1897) (by decide +kernel)⟩
theorem lw_p91 : lw_okq (⟨"WakeHouseModel", "freeBed", "()I"⟩, 90) := ⟨⟨by decide +kernel, by decide +kernel⟩, List.mem_of_getElem? (i := 1530) (by decide +kernel), List.mem_of_getElem? (i := 1900) (by decide +kernel), List.mem_of_getElem? (i := 1901) (by decide +kernel)⟩
theorem lw_p92 : lw_okq (⟨"WakeHouseModel", "expression", "()V"⟩, 90) := ⟨⟨by decide +kernel, by decide +kernel⟩, List.mem_of_getElem? (i := 1530) (by decide +kernel), List.mem_of_getElem? (i := 1904) (by decide +kernel), List.mem_of_getElem? (i := 1905) (by decide +kernel)⟩
theorem lw_p93 : lw_okq (⟨"WakeHouseModel", "waitFor", "(I)V"⟩, 90) := ⟨⟨by decide +kernel, by decide +kernel⟩, List.mem_of_getElem? (i := 1530) (by decide +kernel), List.mem_of_getElem? (i := 1908) (by decide +kernel), List.mem_of_getElem? (i := 1909) (by decide +kernel)⟩
theorem lw_p94 : lw_okq (⟨"WakeHouseModel", "unit", "()V"⟩, 90) := ⟨⟨by decide +kernel, by decide +kernel⟩, List.mem_of_getElem? (i := 1530) (by decide +kernel), List.mem_of_getElem? (i := 1912) (by decide +kernel), List.mem_of_getElem? (i := 1913) (by decide +kernel)⟩
theorem lw_p95 : lw_okq (⟨"WakeHouseModel", "emit", "(II)V"⟩, 90) := ⟨⟨by decide +kernel, by decide +kernel⟩, List.mem_of_getElem? (i := 1530) (by decide +kernel), List.mem_of_getElem? (i := 1916) (by decide +kernel), List.mem_of_getElem? (i := 1917) (by decide +kernel)⟩
def lw_privs_6 : List (MethodName × Nat) := [(⟨"WakeHouseModel", "tell", "()V"⟩, 90), (⟨"WakeHouseModel", "fail", "(I)V"⟩, 90), (⟨"WakeHouseModel", "tellBed", "()V"⟩, 90), (⟨"WakeHouseModel", "goesOn", "()V"⟩, 90), (⟨"WakeHouseModel", "named", "()I"⟩, 90), (⟨"WakeHouseModel", "must", "(I)V"⟩, 90), (⟨"WakeHouseModel", "wrong", "(II)V"⟩, 90), (⟨"WakeHouseModel", "told", "(II)I"⟩, 90), (⟨"WakeHouseModel", "knows", "(III)V"⟩, 90), (⟨"WakeHouseModel", "tellClock", "()V"⟩, 90), (⟨"WakeHouseModel", "tellSleeper", "()V"⟩, 90), (⟨"WakeHouseModel", "freeBed", "()I"⟩, 90), (⟨"WakeHouseModel", "expression", "()V"⟩, 90), (⟨"WakeHouseModel", "waitFor", "(I)V"⟩, 90), (⟨"WakeHouseModel", "unit", "()V"⟩, 90), (⟨"WakeHouseModel", "emit", "(II)V"⟩, 90)]
theorem lw_r6 : ∀ q ∈ lw_privs_6, lw_okq q := List.forall_mem_cons.mpr ⟨lw_p80, List.forall_mem_cons.mpr ⟨lw_p81, List.forall_mem_cons.mpr ⟨lw_p82, List.forall_mem_cons.mpr ⟨lw_p83, List.forall_mem_cons.mpr ⟨lw_p84, List.forall_mem_cons.mpr ⟨lw_p85, List.forall_mem_cons.mpr ⟨lw_p86, List.forall_mem_cons.mpr ⟨lw_p87, List.forall_mem_cons.mpr ⟨lw_p88, List.forall_mem_cons.mpr ⟨lw_p89, List.forall_mem_cons.mpr ⟨lw_p90, List.forall_mem_cons.mpr ⟨lw_p91, List.forall_mem_cons.mpr ⟨lw_p92, List.forall_mem_cons.mpr ⟨lw_p93, List.forall_mem_cons.mpr ⟨lw_p94, List.forall_mem_cons.mpr ⟨lw_p95, fun _ h => absurd h List.not_mem_nil⟩⟩⟩⟩⟩⟩⟩⟩⟩⟩⟩⟩⟩⟩⟩⟩
theorem lw_p96 : lw_okq (⟨"WakeHouseModel", "goes", "()Z"⟩, 90) := ⟨⟨by decide +kernel, by decide +kernel⟩, List.mem_of_getElem? (i := 1530) (by decide +kernel), List.mem_of_getElem? (i := 1920) (by decide +kernel), List.mem_of_getElem? (i := 1921) (by decide +kernel)⟩
theorem lw_p97 : lw_okq (⟨"WakeHouseModel", "comesOut", "(Z)V"⟩, 90) := ⟨⟨by decide +kernel, by decide +kernel⟩, List.mem_of_getElem? (i := 1530) (by decide +kernel), List.mem_of_getElem? (i := 1924) (by decide +kernel), List.mem_of_getElem? (i := 1925) (by decide +kernel)⟩
theorem lw_p98 : lw_okq (⟨"WakeHouseModel", "isStrong", "()Z"⟩, 90) := ⟨⟨by decide +kernel, by decide +kernel⟩, List.mem_of_getElem? (i := 1530) (by decide +kernel), List.mem_of_getElem? (i := 1928) (by decide +kernel), List.mem_of_getElem? (i := 1929) (by decide +kernel)⟩
theorem lw_p99 : lw_okq (⟨"WakeHouseModel", "waitsOn", "(I)Z"⟩, 90) := ⟨⟨by decide +kernel, by decide +kernel⟩, List.mem_of_getElem? (i := 1530) (by decide +kernel), List.mem_of_getElem? (i := 1932) (by decide +kernel), List.mem_of_getElem? (i := 1933) (by decide +kernel)⟩
theorem lw_p100 : lw_okq (⟨"WakeHouseModel", "begins", "()V"⟩, 90) := ⟨⟨by decide +kernel, by decide +kernel⟩, List.mem_of_getElem? (i := 1530) (by decide +kernel), List.mem_of_getElem? (i := 1936) (by decide +kernel), List.mem_of_getElem? (i := 1937) (by decide +kernel)⟩
theorem lw_p101 : lw_okq (⟨"WakeHouseModel", "isSleeper", "(I)Z"⟩, 90) := ⟨⟨by decide +kernel, by decide +kernel⟩, List.mem_of_getElem? (i := 1530) (by decide +kernel), List.mem_of_getElem? (i := 1948) (by decide +kernel), List.mem_of_getElem? (i := 1949) (by decide +kernel)⟩
theorem lw_p102 : lw_okq (⟨"WakeHouseModel", "isBed", "(I)Z"⟩, 90) := ⟨⟨by decide +kernel, by decide +kernel⟩, List.mem_of_getElem? (i := 1530) (by decide +kernel), List.mem_of_getElem? (i := 1959) (by decide +kernel), List.mem_of_getElem? (i := 1960) (by decide +kernel)⟩
theorem lw_p103 : lw_okq (⟨"WakeHouseModel", "whoLies", "(I)I"⟩, 90) := ⟨⟨by decide +kernel, by decide +kernel⟩, List.mem_of_getElem? (i := 1530) (by decide +kernel), List.mem_of_getElem? (i := 1963) (by decide +kernel), List.mem_of_getElem? (i := 1964) (by decide +kernel)⟩
theorem lw_p104 : lw_okq (⟨"WakeHouseModel", "hearing", "(IIII)I"⟩, 90) := ⟨⟨by decide +kernel, by decide +kernel⟩, List.mem_of_getElem? (i := 1530) (by decide +kernel), List.mem_of_getElem? (i := 1977) (by decide +kernel), List.mem_of_getElem? (i := 1978) (by decide +kernel)⟩
theorem lw_p105 : lw_okq (⟨"WakeHouseModel", "gapOf", "(II)I"⟩, 90) := ⟨⟨by decide +kernel, by decide +kernel⟩, List.mem_of_getElem? (i := 1530) (by decide +kernel), List.mem_of_getElem? (i := 1981) (by decide +kernel), List.mem_of_getElem? (i := 1982) (by decide +kernel)⟩
theorem lw_p106 : lw_okq (⟨"WakeHouseModel", "floorsOf", "(II)I"⟩, 90) := ⟨⟨by decide +kernel, by decide +kernel⟩, List.mem_of_getElem? (i := 1530) (by decide +kernel), List.mem_of_getElem? (i := 1988) (by decide +kernel), List.mem_of_getElem? (i := 1989) (by decide +kernel)⟩
theorem lw_p107 : lw_okq (⟨"WakeHouseModel", "valueOf", "(I)I"⟩, 90) := ⟨⟨by decide +kernel, by decide +kernel⟩, List.mem_of_getElem? (i := 1530) (by decide +kernel), List.mem_of_getElem? (i := 1992) (by decide +kernel), List.mem_of_getElem? (i := 1993) (by decide +kernel)⟩
theorem lw_p108 : lw_okq (⟨"WakeHouseModel", "asleepAgain", "(II)I"⟩, 90) := ⟨⟨by decide +kernel, by decide +kernel⟩, List.mem_of_getElem? (i := 1530) (by decide +kernel), List.mem_of_getElem? (i := 2003) (by decide +kernel), List.mem_of_getElem? (i := 2004) (by decide +kernel)⟩
theorem lw_p109 : lw_okq (⟨"WakeHouseModel", "isClock", "(I)Z"⟩, 90) := ⟨⟨by decide +kernel, by decide +kernel⟩, List.mem_of_getElem? (i := 1530) (by decide +kernel), List.mem_of_getElem? (i := 2011) (by decide +kernel), List.mem_of_getElem? (i := 2012) (by decide +kernel)⟩
theorem lw_p110 : lw_okq (⟨"WakeHouseModel", "rings", "(III)I"⟩, 90) := ⟨⟨by decide +kernel, by decide +kernel⟩, List.mem_of_getElem? (i := 1530) (by decide +kernel), List.mem_of_getElem? (i := 2015) (by decide +kernel), List.mem_of_getElem? (i := 2016) (by decide +kernel)⟩
theorem lw_p111 : lw_okq (⟨"WakeHouseModel", "soundsAt", "(II)I"⟩, 90) := ⟨⟨by decide +kernel, by decide +kernel⟩, List.mem_of_getElem? (i := 1530) (by decide +kernel), List.mem_of_getElem? (i := 2019) (by decide +kernel), List.mem_of_getElem? (i := 2020) (by decide +kernel)⟩
def lw_privs_7 : List (MethodName × Nat) := [(⟨"WakeHouseModel", "goes", "()Z"⟩, 90), (⟨"WakeHouseModel", "comesOut", "(Z)V"⟩, 90), (⟨"WakeHouseModel", "isStrong", "()Z"⟩, 90), (⟨"WakeHouseModel", "waitsOn", "(I)Z"⟩, 90), (⟨"WakeHouseModel", "begins", "()V"⟩, 90), (⟨"WakeHouseModel", "isSleeper", "(I)Z"⟩, 90), (⟨"WakeHouseModel", "isBed", "(I)Z"⟩, 90), (⟨"WakeHouseModel", "whoLies", "(I)I"⟩, 90), (⟨"WakeHouseModel", "hearing", "(IIII)I"⟩, 90), (⟨"WakeHouseModel", "gapOf", "(II)I"⟩, 90), (⟨"WakeHouseModel", "floorsOf", "(II)I"⟩, 90), (⟨"WakeHouseModel", "valueOf", "(I)I"⟩, 90), (⟨"WakeHouseModel", "asleepAgain", "(II)I"⟩, 90), (⟨"WakeHouseModel", "isClock", "(I)Z"⟩, 90), (⟨"WakeHouseModel", "rings", "(III)I"⟩, 90), (⟨"WakeHouseModel", "soundsAt", "(II)I"⟩, 90)]
theorem lw_r7 : ∀ q ∈ lw_privs_7, lw_okq q := List.forall_mem_cons.mpr ⟨lw_p96, List.forall_mem_cons.mpr ⟨lw_p97, List.forall_mem_cons.mpr ⟨lw_p98, List.forall_mem_cons.mpr ⟨lw_p99, List.forall_mem_cons.mpr ⟨lw_p100, List.forall_mem_cons.mpr ⟨lw_p101, List.forall_mem_cons.mpr ⟨lw_p102, List.forall_mem_cons.mpr ⟨lw_p103, List.forall_mem_cons.mpr ⟨lw_p104, List.forall_mem_cons.mpr ⟨lw_p105, List.forall_mem_cons.mpr ⟨lw_p106, List.forall_mem_cons.mpr ⟨lw_p107, List.forall_mem_cons.mpr ⟨lw_p108, List.forall_mem_cons.mpr ⟨lw_p109, List.forall_mem_cons.mpr ⟨lw_p110, List.forall_mem_cons.mpr ⟨lw_p111, fun _ h => absurd h List.not_mem_nil⟩⟩⟩⟩⟩⟩⟩⟩⟩⟩⟩⟩⟩⟩⟩⟩
theorem lw_p112 : lw_okq (⟨"WakeHouseModel", "soundComes", "(IIII)I"⟩, 90) := ⟨⟨by decide +kernel, by decide +kernel⟩, List.mem_of_getElem? (i := 1530) (by decide +kernel), List.mem_of_getElem? (i := 2023) (by decide +kernel), List.mem_of_getElem? (i := 2024) (by decide +kernel)⟩
theorem lw_p113 : lw_okq (⟨"WakeHouseModel", "goesOut", "(I)V"⟩, 90) := ⟨⟨by decide +kernel, by decide +kernel⟩, List.mem_of_getElem? (i := 1530) (by decide +kernel), List.mem_of_getElem? (i := 2039) (by decide +kernel), List.mem_of_getElem? (i := 2040) (by decide +kernel)⟩
theorem lw_p114 : lw_okq (⟨"WakeHouseModel", "changes", "(II)V"⟩, 90) := ⟨⟨by decide +kernel, by decide +kernel⟩, List.mem_of_getElem? (i := 1530) (by decide +kernel), List.mem_of_getElem? (i := 2055) (by decide +kernel), List.mem_of_getElem? (i := 2056) (by decide +kernel)⟩
theorem lw_p115 : lw_okq (⟨"WakeHouseModel", "hour", "(I)I"⟩, 90) := ⟨⟨by decide +kernel, by decide +kernel⟩, List.mem_of_getElem? (i := 1530) (by decide +kernel), List.mem_of_getElem? (i := 2072) (by decide +kernel), List.mem_of_getElem? (i := 2073) (by decide +kernel)⟩
theorem lw_p116 : lw_okq (⟨"WakeHouseModel", "sorts", "()V"⟩, 90) := ⟨⟨by decide +kernel, by decide +kernel⟩, List.mem_of_getElem? (i := 1530) (by decide +kernel), List.mem_of_getElem? (i := 2077) (by decide +kernel), List.mem_of_getElem? (i := 2078) (by decide +kernel)⟩
theorem lw_p117 : lw_okq (⟨"WakeHouseModel", "upOf", "(I)J"⟩, 90) := ⟨⟨by decide +kernel, by decide +kernel⟩, List.mem_of_getElem? (i := 1530) (by decide +kernel), List.mem_of_getElem? (i := 2081) (by decide +kernel), List.mem_of_getElem? (i := 2082) (by decide +kernel)⟩
theorem lw_p118 : lw_okq (⟨"WakeHouseModel", "until", "(I)I"⟩, 90) := ⟨⟨by decide +kernel, by decide +kernel⟩, List.mem_of_getElem? (i := 1530) (by decide +kernel), List.mem_of_getElem? (i := 2085) (by decide +kernel), List.mem_of_getElem? (i := 2086) (by decide +kernel)⟩
theorem lw_p119 : lw_okq (⟨"WakeHouseModel", "heard", "(II)I"⟩, 90) := ⟨⟨by decide +kernel, by decide +kernel⟩, List.mem_of_getElem? (i := 1530) (by decide +kernel), List.mem_of_getElem? (i := 2089) (by decide +kernel), List.mem_of_getElem? (i := 2090) (by decide +kernel)⟩
theorem lw_p120 : lw_okq (⟨"WakeHouseModel", "wokenOf", "(I)J"⟩, 90) := ⟨⟨by decide +kernel, by decide +kernel⟩, List.mem_of_getElem? (i := 1530) (by decide +kernel), List.mem_of_getElem? (i := 2098) (by decide +kernel), List.mem_of_getElem? (i := 2099) (by decide +kernel)⟩
theorem lw_p121 : lw_okq (⟨"WakeHouseModel", "costNow", "()J"⟩, 90) := ⟨⟨by decide +kernel, by decide +kernel⟩, List.mem_of_getElem? (i := 1530) (by decide +kernel), List.mem_of_getElem? (i := 2106) (by decide +kernel), List.mem_of_getElem? (i := 2107) (by decide +kernel)⟩
theorem lw_p122 : lw_okq (⟨"WakeHouseModel", "keeps", "()V"⟩, 90) := ⟨⟨by decide +kernel, by decide +kernel⟩, List.mem_of_getElem? (i := 1530) (by decide +kernel), List.mem_of_getElem? (i := 2114) (by decide +kernel), List.mem_of_getElem? (i := 2115) (by decide +kernel)⟩
theorem lw_p123 : lw_okq (⟨"WakeHouseModel", "putsBack", "(I)V"⟩, 90) := ⟨⟨by decide +kernel, by decide +kernel⟩, List.mem_of_getElem? (i := 1530) (by decide +kernel), List.mem_of_getElem? (i := 2118) (by decide +kernel), List.mem_of_getElem? (i := 2119) (by decide +kernel)⟩
theorem lw_p124 : lw_okq (⟨"WakeHouseModel", "hoursNow", "()V"⟩, 90) := ⟨⟨by decide +kernel, by decide +kernel⟩, List.mem_of_getElem? (i := 1530) (by decide +kernel), List.mem_of_getElem? (i := 2126) (by decide +kernel), List.mem_of_getElem? (i := 2127) (by decide +kernel)⟩
theorem lw_p125 : lw_okq (⟨"WakeHouseModel", "bests", "(III)I"⟩, 90) := ⟨⟨by decide +kernel, by decide +kernel⟩, List.mem_of_getElem? (i := 1530) (by decide +kernel), List.mem_of_getElem? (i := 2134) (by decide +kernel), List.mem_of_getElem? (i := 2135) (by decide +kernel)⟩
theorem lw_p126 : lw_okq (⟨"WakeHouseModel", "leadOf", "(II)I"⟩, 90) := ⟨⟨by decide +kernel, by decide +kernel⟩, List.mem_of_getElem? (i := 1530) (by decide +kernel), List.mem_of_getElem? (i := 2138) (by decide +kernel), List.mem_of_getElem? (i := 2139) (by decide +kernel)⟩
theorem lw_p127 : lw_okq (⟨"WakeHouseModel", "withHours", "()I"⟩, 90) := ⟨⟨by decide +kernel, by decide +kernel⟩, List.mem_of_getElem? (i := 1530) (by decide +kernel), List.mem_of_getElem? (i := 2150) (by decide +kernel), List.mem_of_getElem? (i := 2151) (by decide +kernel)⟩
def lw_privs_8 : List (MethodName × Nat) := [(⟨"WakeHouseModel", "soundComes", "(IIII)I"⟩, 90), (⟨"WakeHouseModel", "goesOut", "(I)V"⟩, 90), (⟨"WakeHouseModel", "changes", "(II)V"⟩, 90), (⟨"WakeHouseModel", "hour", "(I)I"⟩, 90), (⟨"WakeHouseModel", "sorts", "()V"⟩, 90), (⟨"WakeHouseModel", "upOf", "(I)J"⟩, 90), (⟨"WakeHouseModel", "until", "(I)I"⟩, 90), (⟨"WakeHouseModel", "heard", "(II)I"⟩, 90), (⟨"WakeHouseModel", "wokenOf", "(I)J"⟩, 90), (⟨"WakeHouseModel", "costNow", "()J"⟩, 90), (⟨"WakeHouseModel", "keeps", "()V"⟩, 90), (⟨"WakeHouseModel", "putsBack", "(I)V"⟩, 90), (⟨"WakeHouseModel", "hoursNow", "()V"⟩, 90), (⟨"WakeHouseModel", "bests", "(III)I"⟩, 90), (⟨"WakeHouseModel", "leadOf", "(II)I"⟩, 90), (⟨"WakeHouseModel", "withHours", "()I"⟩, 90)]
theorem lw_r8 : ∀ q ∈ lw_privs_8, lw_okq q := List.forall_mem_cons.mpr ⟨lw_p112, List.forall_mem_cons.mpr ⟨lw_p113, List.forall_mem_cons.mpr ⟨lw_p114, List.forall_mem_cons.mpr ⟨lw_p115, List.forall_mem_cons.mpr ⟨lw_p116, List.forall_mem_cons.mpr ⟨lw_p117, List.forall_mem_cons.mpr ⟨lw_p118, List.forall_mem_cons.mpr ⟨lw_p119, List.forall_mem_cons.mpr ⟨lw_p120, List.forall_mem_cons.mpr ⟨lw_p121, List.forall_mem_cons.mpr ⟨lw_p122, List.forall_mem_cons.mpr ⟨lw_p123, List.forall_mem_cons.mpr ⟨lw_p124, List.forall_mem_cons.mpr ⟨lw_p125, List.forall_mem_cons.mpr ⟨lw_p126, List.forall_mem_cons.mpr ⟨lw_p127, fun _ h => absurd h List.not_mem_nil⟩⟩⟩⟩⟩⟩⟩⟩⟩⟩⟩⟩⟩⟩⟩⟩
theorem lw_p128 : lw_okq (⟨"WakeHouseModel", "wakes", "(III)I"⟩, 90) := ⟨⟨by decide +kernel, by decide +kernel⟩, List.mem_of_getElem? (i := 1530) (by decide +kernel), List.mem_of_getElem? (i := 2154) (by decide +kernel), List.mem_of_getElem? (i := 2155) (by decide +kernel)⟩
theorem lw_p129 : lw_okq (⟨"WakeHouseModel", "walkOf", "(II)I"⟩, 90) := ⟨⟨by decide +kernel, by decide +kernel⟩, List.mem_of_getElem? (i := 1530) (by decide +kernel), List.mem_of_getElem? (i := 2166) (by decide +kernel), List.mem_of_getElem? (i := 2167) (by decide +kernel)⟩
theorem lw_p130 : lw_okq (⟨"WakeHouseModel", "shakesOn", "(II)V"⟩, 90) := ⟨⟨by decide +kernel, by decide +kernel⟩, List.mem_of_getElem? (i := 1530) (by decide +kernel), List.mem_of_getElem? (i := 2174) (by decide +kernel), List.mem_of_getElem? (i := 2175) (by decide +kernel)⟩
theorem lw_p131 : lw_okq (⟨"WakeHouseModel", "oneMore", "(II)Z"⟩, 90) := ⟨⟨by decide +kernel, by decide +kernel⟩, List.mem_of_getElem? (i := 1530) (by decide +kernel), List.mem_of_getElem? (i := 2178) (by decide +kernel), List.mem_of_getElem? (i := 2179) (by decide +kernel)⟩
theorem lw_p132 : lw_okq (⟨"WakeHouseModel", "isFirst", "(I)Z"⟩, 90) := ⟨⟨by decide +kernel, by decide +kernel⟩, List.mem_of_getElem? (i := 1530) (by decide +kernel), List.mem_of_getElem? (i := 2182) (by decide +kernel), List.mem_of_getElem? (i := 2183) (by decide +kernel)⟩
theorem lw_p133 : lw_okq (⟨"WakeHouseModel", "canShake", "(II)Z"⟩, 90) := ⟨⟨by decide +kernel, by decide +kernel⟩, List.mem_of_getElem? (i := 1530) (by decide +kernel), List.mem_of_getElem? (i := 2187) (by decide +kernel), List.mem_of_getElem? (i := 2188) (by decide +kernel)⟩
theorem lw_p134 : lw_okq (⟨"WakeHouseModel", "shakesAll", "(I)V"⟩, 90) := ⟨⟨by decide +kernel, by decide +kernel⟩, List.mem_of_getElem? (i := 1530) (by decide +kernel), List.mem_of_getElem? (i := 2195) (by decide +kernel), List.mem_of_getElem? (i := 2196) (by decide +kernel)⟩
theorem lw_p135 : lw_okq (⟨"WakeHouseModel", "twiceBest", "(IIII)J"⟩, 90) := ⟨⟨by decide +kernel, by decide +kernel⟩, List.mem_of_getElem? (i := 1530) (by decide +kernel), List.mem_of_getElem? (i := 2203) (by decide +kernel), List.mem_of_getElem? (i := 2204) (by decide +kernel)⟩
theorem lw_p136 : lw_okq (⟨"WakeHouseModel", "upBy", "(III)J"⟩, 90) := ⟨⟨by decide +kernel, by decide +kernel⟩, List.mem_of_getElem? (i := 1530) (by decide +kernel), List.mem_of_getElem? (i := 2207) (by decide +kernel), List.mem_of_getElem? (i := 2208) (by decide +kernel)⟩
theorem lw_p137 : lw_okq (⟨"WakeHouseModel", "swapsNow", "(I)I"⟩, 90) := ⟨⟨by decide +kernel, by decide +kernel⟩, List.mem_of_getElem? (i := 1530) (by decide +kernel), List.mem_of_getElem? (i := 2219) (by decide +kernel), List.mem_of_getElem? (i := 2220) (by decide +kernel)⟩
theorem lw_p138 : lw_okq (⟨"WakeHouseModel", "isCheap", "(I)Z"⟩, 90) := ⟨⟨by decide +kernel, by decide +kernel⟩, List.mem_of_getElem? (i := 1530) (by decide +kernel), List.mem_of_getElem? (i := 2223) (by decide +kernel), List.mem_of_getElem? (i := 2224) (by decide +kernel)⟩
theorem lw_p139 : lw_okq (⟨"WakeHouseModel", "secondSwap", "(I)Z"⟩, 90) := ⟨⟨by decide +kernel, by decide +kernel⟩, List.mem_of_getElem? (i := 1530) (by decide +kernel), List.mem_of_getElem? (i := 2227) (by decide +kernel), List.mem_of_getElem? (i := 2228) (by decide +kernel)⟩
theorem lw_p140 : lw_okq (⟨"WakeHouseModel", "worthOf", "(I)J"⟩, 90) := ⟨⟨by decide +kernel, by decide +kernel⟩, List.mem_of_getElem? (i := 1530) (by decide +kernel), List.mem_of_getElem? (i := 2239) (by decide +kernel), List.mem_of_getElem? (i := 2240) (by decide +kernel)⟩
theorem lw_p141 : lw_okq (⟨"WakeHouseModel", "roundBy", "(I)I"⟩, 90) := ⟨⟨by decide +kernel, by decide +kernel⟩, List.mem_of_getElem? (i := 1530) (by decide +kernel), List.mem_of_getElem? (i := 2252) (by decide +kernel), List.mem_of_getElem? (i := 2253) (by decide +kernel)⟩
theorem lw_p142 : lw_okq (⟨"WakeHouseModel", "roundDone", "(I)I"⟩, 90) := ⟨⟨by decide +kernel, by decide +kernel⟩, List.mem_of_getElem? (i := 1530) (by decide +kernel), List.mem_of_getElem? (i := 2256) (by decide +kernel), List.mem_of_getElem? (i := 2257) (by decide +kernel)⟩
theorem lw_p143 : lw_okq (⟨"WakeHouseModel", "nextOrder", "()Z"⟩, 90) := ⟨⟨by decide +kernel, by decide +kernel⟩, List.mem_of_getElem? (i := 1530) (by decide +kernel), List.mem_of_getElem? (i := 2260) (by decide +kernel), List.mem_of_getElem? (i := 2261) (by decide +kernel)⟩
def lw_privs_9 : List (MethodName × Nat) := [(⟨"WakeHouseModel", "wakes", "(III)I"⟩, 90), (⟨"WakeHouseModel", "walkOf", "(II)I"⟩, 90), (⟨"WakeHouseModel", "shakesOn", "(II)V"⟩, 90), (⟨"WakeHouseModel", "oneMore", "(II)Z"⟩, 90), (⟨"WakeHouseModel", "isFirst", "(I)Z"⟩, 90), (⟨"WakeHouseModel", "canShake", "(II)Z"⟩, 90), (⟨"WakeHouseModel", "shakesAll", "(I)V"⟩, 90), (⟨"WakeHouseModel", "twiceBest", "(IIII)J"⟩, 90), (⟨"WakeHouseModel", "upBy", "(III)J"⟩, 90), (⟨"WakeHouseModel", "swapsNow", "(I)I"⟩, 90), (⟨"WakeHouseModel", "isCheap", "(I)Z"⟩, 90), (⟨"WakeHouseModel", "secondSwap", "(I)Z"⟩, 90), (⟨"WakeHouseModel", "worthOf", "(I)J"⟩, 90), (⟨"WakeHouseModel", "roundBy", "(I)I"⟩, 90), (⟨"WakeHouseModel", "roundDone", "(I)I"⟩, 90), (⟨"WakeHouseModel", "nextOrder", "()Z"⟩, 90)]
theorem lw_r9 : ∀ q ∈ lw_privs_9, lw_okq q := List.forall_mem_cons.mpr ⟨lw_p128, List.forall_mem_cons.mpr ⟨lw_p129, List.forall_mem_cons.mpr ⟨lw_p130, List.forall_mem_cons.mpr ⟨lw_p131, List.forall_mem_cons.mpr ⟨lw_p132, List.forall_mem_cons.mpr ⟨lw_p133, List.forall_mem_cons.mpr ⟨lw_p134, List.forall_mem_cons.mpr ⟨lw_p135, List.forall_mem_cons.mpr ⟨lw_p136, List.forall_mem_cons.mpr ⟨lw_p137, List.forall_mem_cons.mpr ⟨lw_p138, List.forall_mem_cons.mpr ⟨lw_p139, List.forall_mem_cons.mpr ⟨lw_p140, List.forall_mem_cons.mpr ⟨lw_p141, List.forall_mem_cons.mpr ⟨lw_p142, List.forall_mem_cons.mpr ⟨lw_p143, fun _ h => absurd h List.not_mem_nil⟩⟩⟩⟩⟩⟩⟩⟩⟩⟩⟩⟩⟩⟩⟩⟩
theorem lw_p144 : lw_okq (⟨"WakeHouseModel", "isKnown", "(I)Z"⟩, 90) := ⟨⟨by decide +kernel, by decide +kernel⟩, List.mem_of_getElem? (i := 1530) (by decide +kernel), List.mem_of_getElem? (i := 2280) (by decide +kernel), List.mem_of_getElem? (i := 2281) (by decide +kernel)⟩
theorem lw_p145 : lw_okq (⟨"WakeHouseModel", "counts", "(II)Z"⟩, 90) := ⟨⟨by decide +kernel, by decide +kernel⟩, List.mem_of_getElem? (i := 1530) (by decide +kernel), List.mem_of_getElem? (i := 2284) (by decide +kernel), List.mem_of_getElem? (i := 2285) (by decide +kernel)⟩
theorem lw_p146 : lw_okq (⟨"WakeHouseModel", "isInTime", "(I)Z"⟩, 90) := ⟨⟨by decide +kernel, by decide +kernel⟩, List.mem_of_getElem? (i := 1530) (by decide +kernel), List.mem_of_getElem? (i := 2288) (by decide +kernel), List.mem_of_getElem? (i := 2289) (by decide +kernel)⟩
theorem lw_p147 : lw_okq (⟨"WakeHouseModel", "mondaysOf", "(II)I"⟩, 90) := ⟨⟨by decide +kernel, by decide +kernel⟩, List.mem_of_getElem? (i := 1530) (by decide +kernel), List.mem_of_getElem? (i := 2296) (by decide +kernel), List.mem_of_getElem? (i := 2297) (by decide +kernel)⟩
theorem lw_p148 : lw_okq (⟨"WakeHouseModel", "cries", "(IIZ)I"⟩, 90) := ⟨⟨by decide +kernel, by decide +kernel⟩, List.mem_of_getElem? (i := 1530) (by decide +kernel), List.mem_of_getElem? (i := 2311) (by decide +kernel), List.mem_of_getElem? (i := 2312) (by decide +kernel)⟩
theorem lw_p149 : lw_okq (⟨"WakeHouseModel", "upOn", "(II)I"⟩, 90) := ⟨⟨by decide +kernel, by decide +kernel⟩, List.mem_of_getElem? (i := 1530) (by decide +kernel), List.mem_of_getElem? (i := 2323) (by decide +kernel), List.mem_of_getElem? (i := 2324) (by decide +kernel)⟩
theorem lw_p150 : lw_okq (⟨"WakeHouseModel", "isUpOn", "(III)Z"⟩, 90) := ⟨⟨by decide +kernel, by decide +kernel⟩, List.mem_of_getElem? (i := 1530) (by decide +kernel), List.mem_of_getElem? (i := 2327) (by decide +kernel), List.mem_of_getElem? (i := 2328) (by decide +kernel)⟩
theorem lw_p151 : lw_okq (⟨"WakeHouseModel", "copies", "(III)V"⟩, 90) := ⟨⟨by decide +kernel, by decide +kernel⟩, List.mem_of_getElem? (i := 1530) (by decide +kernel), List.mem_of_getElem? (i := 2346) (by decide +kernel), List.mem_of_getElem? (i := 2347) (by decide +kernel)⟩
def lw_privs_10 : List (MethodName × Nat) := [(⟨"WakeHouseModel", "isKnown", "(I)Z"⟩, 90), (⟨"WakeHouseModel", "counts", "(II)Z"⟩, 90), (⟨"WakeHouseModel", "isInTime", "(I)Z"⟩, 90), (⟨"WakeHouseModel", "mondaysOf", "(II)I"⟩, 90), (⟨"WakeHouseModel", "cries", "(IIZ)I"⟩, 90), (⟨"WakeHouseModel", "upOn", "(II)I"⟩, 90), (⟨"WakeHouseModel", "isUpOn", "(III)Z"⟩, 90), (⟨"WakeHouseModel", "copies", "(III)V"⟩, 90)]
theorem lw_r10 : ∀ q ∈ lw_privs_10, lw_okq q := List.forall_mem_cons.mpr ⟨lw_p144, List.forall_mem_cons.mpr ⟨lw_p145, List.forall_mem_cons.mpr ⟨lw_p146, List.forall_mem_cons.mpr ⟨lw_p147, List.forall_mem_cons.mpr ⟨lw_p148, List.forall_mem_cons.mpr ⟨lw_p149, List.forall_mem_cons.mpr ⟨lw_p150, List.forall_mem_cons.mpr ⟨lw_p151, fun _ h => absurd h List.not_mem_nil⟩⟩⟩⟩⟩⟩⟩⟩
def lw_privs : List (MethodName × Nat) := lw_privs_1 ++ (lw_privs_2 ++ (lw_privs_3 ++ (lw_privs_4 ++ (lw_privs_5 ++ (lw_privs_6 ++ (lw_privs_7 ++ (lw_privs_8 ++ (lw_privs_9 ++ (lw_privs_10)))))))))
def lw_tbl : List Cond := k2_sels lw_privs ++ tables_1
theorem lw_privs_ok : ∀ q ∈ lw_privs, lw_okq q := by
  show ∀ q ∈ lw_privs_1 ++ (lw_privs_2 ++ (lw_privs_3 ++ (lw_privs_4 ++ (lw_privs_5 ++ (lw_privs_6 ++ (lw_privs_7 ++ (lw_privs_8 ++ (lw_privs_9 ++ (lw_privs_10))))))))), lw_okq q
  exact List.forall_mem_append.mpr ⟨lw_r1, List.forall_mem_append.mpr ⟨lw_r2, List.forall_mem_append.mpr ⟨lw_r3, List.forall_mem_append.mpr ⟨lw_r4, List.forall_mem_append.mpr ⟨lw_r5, List.forall_mem_append.mpr ⟨lw_r6, List.forall_mem_append.mpr ⟨lw_r7, List.forall_mem_append.mpr ⟨lw_r8, List.forall_mem_append.mpr ⟨lw_r9, lw_r10⟩⟩⟩⟩⟩⟩⟩⟩⟩
/-! classes, their fields in the order of the slots, their types -/
def RX0 : String := "WakeHouse$BestTwo"
def TX0 : u_T := fun k => match k with
  | 0 => ("WakeHouse$BestTwo", "house", "LWakeHouse$House;", true)
  | 1 => ("WakeHouse$BestTwo", "state", "LWakeHouse$State;", true)
  | 2 => ("WakeHouse$BestTwo", "night", "LWakeHouse$Night;", true)
  | 3 => ("WakeHouse$BestTwo", "hearFirst", "[I", true)
  | 4 => ("WakeHouse$BestTwo", "hearSecond", "[I", true)
  | 5 => ("WakeHouse$BestTwo", "hearPlan", "[I", true)
  | 6 => ("WakeHouse$BestTwo", "byFirst", "[J", true)
  | 7 => ("WakeHouse$BestTwo", "bySecond", "[J", true)
  | 8 => ("WakeHouse$BestTwo", "byBoth", "[J", true)
  | 9 => ("WakeHouse$BestTwo", "slope", "[J", true)
  | 10 => ("WakeHouse$BestTwo", "silent", "J", false)
  | 11 => ("WakeHouse$BestTwo", "least", "J", false)
  | 12 => ("WakeHouse$BestTwo", "leastKey", "I", false)
  | 13 => ("WakeHouse$BestTwo", "first", "I", false)
  | 14 => ("WakeHouse$BestTwo", "second", "I", false)
  | 15 => ("WakeHouse$BestTwo", "lead", "I", false)
  | _ => ("WakeHouse$BestTwo", "editsThen", "I", false)
def tyX0 : Nat → FieldType := fun k => match k with
  | 0 => .object "WakeHouse$House"
  | 1 => .object "WakeHouse$State"
  | 2 => .object "WakeHouse$Night"
  | 3 => .array .int
  | 4 => .array .int
  | 5 => .array .int
  | 6 => .array .long
  | 7 => .array .long
  | 8 => .array .long
  | 9 => .array .long
  | 10 => .long
  | 11 => .long
  | 12 => .int
  | 13 => .int
  | 14 => .int
  | 15 => .int
  | _ => .int
theorem nmX0 : ∀ a, a < 17 → ∀ b, b < 17 → a ≠ b → (TX0 a).2.1 ≠ (TX0 b).2.1 := by decide +kernel
theorem tyX0_ok : ∀ k, k < 17 → parseFieldDescriptor (TX0 k).2.2.1 = some (tyX0 k) := by decide +kernel
def RX1 : String := "WakeHouse$Changes"
def TX1 : u_T := fun k => match k with
  | 0 => ("WakeHouse$Changes", "house", "LWakeHouse$House;", true)
  | 1 => ("WakeHouse$Changes", "state", "LWakeHouse$State;", true)
  | 2 => ("WakeHouse$Changes", "night", "LWakeHouse$Night;", true)
  | 3 => ("WakeHouse$Changes", "price", "[J", true)
  | 4 => ("WakeHouse$Changes", "inBed", "[I", true)
  | _ => ("WakeHouse$Changes", "found", "[I", true)
def tyX1 : Nat → FieldType := fun k => match k with
  | 0 => .object "WakeHouse$House"
  | 1 => .object "WakeHouse$State"
  | 2 => .object "WakeHouse$Night"
  | 3 => .array .long
  | 4 => .array .int
  | _ => .array .int
theorem nmX1 : ∀ a, a < 6 → ∀ b, b < 6 → a ≠ b → (TX1 a).2.1 ≠ (TX1 b).2.1 := by decide +kernel
theorem tyX1_ok : ∀ k, k < 6 → parseFieldDescriptor (TX1 k).2.2.1 = some (tyX1 k) := by decide +kernel
def RX2 : String := "WakeHouse$Cover"
def TX2 : u_T := fun k => match k with
  | 0 => ("WakeHouse$Cover", "house", "LWakeHouse$House;", true)
  | 1 => ("WakeHouse$Cover", "state", "LWakeHouse$State;", true)
  | 2 => ("WakeHouse$Cover", "night", "LWakeHouse$Night;", true)
  | 3 => ("WakeHouse$Cover", "wakes", "[I", true)
  | 4 => ("WakeHouse$Cover", "needed", "[I", true)
  | _ => ("WakeHouse$Cover", "rings", "I", false)
def tyX2 : Nat → FieldType := fun k => match k with
  | 0 => .object "WakeHouse$House"
  | 1 => .object "WakeHouse$State"
  | 2 => .object "WakeHouse$Night"
  | 3 => .array .int
  | 4 => .array .int
  | _ => .int
theorem nmX2 : ∀ a, a < 6 → ∀ b, b < 6 → a ≠ b → (TX2 a).2.1 ≠ (TX2 b).2.1 := by decide +kernel
theorem tyX2_ok : ∀ k, k < 6 → parseFieldDescriptor (TX2 k).2.2.1 = some (tyX2 k) := by decide +kernel
def RX3 : String := "WakeHouse$House"
def TX3 : u_T := fun k => match k with
  | 0 => ("WakeHouse$House", "floor", "[I", true)
  | 1 => ("WakeHouse$House", "spot", "[I", true)
  | 2 => ("WakeHouse$House", "loud", "[I", true)
  | 3 => ("WakeHouse$House", "shift", "[I", true)
  | 4 => ("WakeHouse$House", "firstBed", "[I", true)
  | 5 => ("WakeHouse$House", "deep", "[I", true)
  | 6 => ("WakeHouse$House", "hour", "[I", true)
  | 7 => ("WakeHouse$House", "late", "[I", true)
  | 8 => ("WakeHouse$House", "vain", "[I", true)
  | 9 => ("WakeHouse$House", "hours", "[I", true)
  | 10 => ("WakeHouse$House", "eight", "[I", true)
  | 11 => ("WakeHouse$House", "words", "[I", true)
  | 12 => ("WakeHouse$House", "hearingLaw", "LWakeHouse$Law;", true)
  | 13 => ("WakeHouse$House", "againLaw", "LWakeHouse$Law;", true)
  | 14 => ("WakeHouse$House", "beds", "I", false)
  | 15 => ("WakeHouse$House", "clocks", "I", false)
  | 16 => ("WakeHouse$House", "sleepers", "I", false)
  | 17 => ("WakeHouse$House", "hourCount", "I", false)
  | _ => ("WakeHouse$House", "eightCount", "I", false)
def tyX3 : Nat → FieldType := fun k => match k with
  | 0 => .array .int
  | 1 => .array .int
  | 2 => .array .int
  | 3 => .array .int
  | 4 => .array .int
  | 5 => .array .int
  | 6 => .array .int
  | 7 => .array .int
  | 8 => .array .int
  | 9 => .array .int
  | 10 => .array .int
  | 11 => .array .int
  | 12 => .object "WakeHouse$Law"
  | 13 => .object "WakeHouse$Law"
  | 14 => .int
  | 15 => .int
  | 16 => .int
  | 17 => .int
  | _ => .int
theorem nmX3 : ∀ a, a < 19 → ∀ b, b < 19 → a ≠ b → (TX3 a).2.1 ≠ (TX3 b).2.1 := by decide +kernel
theorem tyX3_ok : ∀ k, k < 19 → parseFieldDescriptor (TX3 k).2.2.1 = some (tyX3 k) := by decide +kernel
def RX4 : String := "WakeHouse$Law"
def TX4 : u_T := fun k => match k with
  | 0 => ("WakeHouse$Law", "steps", "[I", true)
  | 1 => ("WakeHouse$Law", "stack", "[I", true)
  | _ => ("WakeHouse$Law", "length", "I", false)
def tyX4 : Nat → FieldType := fun k => match k with
  | 0 => .array .int
  | 1 => .array .int
  | _ => .int
theorem nmX4 : ∀ a, a < 3 → ∀ b, b < 3 → a ≠ b → (TX4 a).2.1 ≠ (TX4 b).2.1 := by decide +kernel
theorem tyX4_ok : ∀ k, k < 3 → parseFieldDescriptor (TX4 k).2.2.1 = some (tyX4 k) := by decide +kernel
def RX5 : String := "WakeHouse$Night"
def TX5 : u_T := fun k => match k with
  | 0 => ("WakeHouse$Night", "house", "LWakeHouse$House;", true)
  | 1 => ("WakeHouse$Night", "state", "LWakeHouse$State;", true)
  | 2 => ("WakeHouse$Night", "minute", "[I", true)
  | 3 => ("WakeHouse$Night", "number", "[I", true)
  | 4 => ("WakeHouse$Night", "hear", "[I", true)
  | 5 => ("WakeHouse$Night", "dozes", "[B", true)
  | 6 => ("WakeHouse$Night", "words", "[I", true)
  | 7 => ("WakeHouse$Night", "pick", "[I", true)
  | 8 => ("WakeHouse$Night", "chosen", "[I", true)
  | 9 => ("WakeHouse$Night", "hearAhead", "[I", true)
  | 10 => ("WakeHouse$Night", "worths", "[J", true)
  | _ => ("WakeHouse$Night", "count", "I", false)
def tyX5 : Nat → FieldType := fun k => match k with
  | 0 => .object "WakeHouse$House"
  | 1 => .object "WakeHouse$State"
  | 2 => .array .int
  | 3 => .array .int
  | 4 => .array .int
  | 5 => .array .byte
  | 6 => .array .int
  | 7 => .array .int
  | 8 => .array .int
  | 9 => .array .int
  | 10 => .array .long
  | _ => .int
theorem nmX5 : ∀ a, a < 12 → ∀ b, b < 12 → a ≠ b → (TX5 a).2.1 ≠ (TX5 b).2.1 := by decide +kernel
theorem tyX5_ok : ∀ k, k < 12 → parseFieldDescriptor (TX5 k).2.2.1 = some (tyX5 k) := by decide +kernel
def RX6 : String := "WakeHouse$Reader"
def TX6 : u_T := fun k => match k with
  | 0 => ("WakeHouse$Reader", "tape", "LWakeHouse$Tape;", true)
  | 1 => ("WakeHouse$Reader", "draft", "LWakeHouse$House;", true)
  | 2 => ("WakeHouse$Reader", "names", "[J", true)
  | 3 => ("WakeHouse$Reader", "bedNamed", "[I", true)
  | 4 => ("WakeHouse$Reader", "nameCount", "I", false)
  | 5 => ("WakeHouse$Reader", "bedsTaken", "I", false)
  | 6 => ("WakeHouse$Reader", "signs", "[I", true)
  | 7 => ("WakeHouse$Reader", "waiting", "I", false)
  | 8 => ("WakeHouse$Reader", "depth", "I", false)
  | 9 => ("WakeHouse$Reader", "now", "I", false)
  | 10 => ("WakeHouse$Reader", "value", "I", false)
  | 11 => ("WakeHouse$Reader", "fault", "I", false)
  | 12 => ("WakeHouse$Reader", "faultAt", "I", false)
  | 13 => ("WakeHouse$Reader", "sense", "I", false)
  | _ => ("WakeHouse$Reader", "senseAt", "I", false)
def tyX6 : Nat → FieldType := fun k => match k with
  | 0 => .object "WakeHouse$Tape"
  | 1 => .object "WakeHouse$House"
  | 2 => .array .long
  | 3 => .array .int
  | 4 => .int
  | 5 => .int
  | 6 => .array .int
  | 7 => .int
  | 8 => .int
  | 9 => .int
  | 10 => .int
  | 11 => .int
  | 12 => .int
  | 13 => .int
  | _ => .int
theorem nmX6 : ∀ a, a < 15 → ∀ b, b < 15 → a ≠ b → (TX6 a).2.1 ≠ (TX6 b).2.1 := by decide +kernel
theorem tyX6_ok : ∀ k, k < 15 → parseFieldDescriptor (TX6 k).2.2.1 = some (tyX6 k) := by decide +kernel
def RX7 : String := "WakeHouse$Round"
def TX7 : u_T := fun k => match k with
  | 0 => ("WakeHouse$Round", "house", "LWakeHouse$House;", true)
  | 1 => ("WakeHouse$Round", "state", "LWakeHouse$State;", true)
  | 2 => ("WakeHouse$Round", "order", "[I", true)
  | 3 => ("WakeHouse$Round", "spot", "[I", true)
  | 4 => ("WakeHouse$Round", "soonest", "[I", true)
  | 5 => ("WakeHouse$Round", "latest", "[I", true)
  | 6 => ("WakeHouse$Round", "all", "I", false)
  | _ => ("WakeHouse$Round", "early", "I", false)
def tyX7 : Nat → FieldType := fun k => match k with
  | 0 => .object "WakeHouse$House"
  | 1 => .object "WakeHouse$State"
  | 2 => .array .int
  | 3 => .array .int
  | 4 => .array .int
  | 5 => .array .int
  | 6 => .int
  | _ => .int
theorem nmX7 : ∀ a, a < 8 → ∀ b, b < 8 → a ≠ b → (TX7 a).2.1 ≠ (TX7 b).2.1 := by decide +kernel
theorem tyX7_ok : ∀ k, k < 8 → parseFieldDescriptor (TX7 k).2.2.1 = some (tyX7 k) := by decide +kernel
def RX8 : String := "WakeHouse$Shaking"
def TX8 : u_T := fun k => match k with
  | 0 => ("WakeHouse$Shaking", "house", "LWakeHouse$House;", true)
  | 1 => ("WakeHouse$Shaking", "state", "LWakeHouse$State;", true)
  | 2 => ("WakeHouse$Shaking", "shakerOf", "[I", true)
  | 3 => ("WakeHouse$Shaking", "price", "[J", true)
  | 4 => ("WakeHouse$Shaking", "rowPart", "[J", true)
  | 5 => ("WakeHouse$Shaking", "sidePart", "[J", true)
  | 6 => ("WakeHouse$Shaking", "slack", "[J", true)
  | 7 => ("WakeHouse$Shaking", "rowAt", "[I", true)
  | 8 => ("WakeHouse$Shaking", "from", "[I", true)
  | 9 => ("WakeHouse$Shaking", "doneSides", "I", false)
  | 10 => ("WakeHouse$Shaking", "sides", "I", false)
  | 11 => ("WakeHouse$Shaking", "shaken", "I", false)
  | _ => ("WakeHouse$Shaking", "walks", "I", false)
def tyX8 : Nat → FieldType := fun k => match k with
  | 0 => .object "WakeHouse$House"
  | 1 => .object "WakeHouse$State"
  | 2 => .array .int
  | 3 => .array .long
  | 4 => .array .long
  | 5 => .array .long
  | 6 => .array .long
  | 7 => .array .int
  | 8 => .array .int
  | 9 => .int
  | 10 => .int
  | 11 => .int
  | _ => .int
theorem nmX8 : ∀ a, a < 13 → ∀ b, b < 13 → a ≠ b → (TX8 a).2.1 ≠ (TX8 b).2.1 := by decide +kernel
theorem tyX8_ok : ∀ k, k < 13 → parseFieldDescriptor (TX8 k).2.2.1 = some (tyX8 k) := by decide +kernel
def RX9 : String := "WakeHouse$State"
def TX9 : u_T := fun k => match k with
  | 0 => ("WakeHouse$State", "kind", "[I", true)
  | 1 => ("WakeHouse$State", "minute", "[I", true)
  | 2 => ("WakeHouse$State", "loud", "[I", true)
  | 3 => ("WakeHouse$State", "where", "[I", true)
  | 4 => ("WakeHouse$State", "bedOf", "[I", true)
  | 5 => ("WakeHouse$State", "sleeperIn", "[I", true)
  | 6 => ("WakeHouse$State", "who", "[I", true)
  | 7 => ("WakeHouse$State", "weekday", "[I", true)
  | 8 => ("WakeHouse$State", "woke", "[I", true)
  | 9 => ("WakeHouse$State", "tally", "[I", true)
  | 10 => ("WakeHouse$State", "sounds", "I", false)
  | 11 => ("WakeHouse$State", "wool", "I", false)
  | 12 => ("WakeHouse$State", "row", "I", false)
  | _ => ("WakeHouse$State", "holds", "Z", false)
def tyX9 : Nat → FieldType := fun k => match k with
  | 0 => .array .int
  | 1 => .array .int
  | 2 => .array .int
  | 3 => .array .int
  | 4 => .array .int
  | 5 => .array .int
  | 6 => .array .int
  | 7 => .array .int
  | 8 => .array .int
  | 9 => .array .int
  | 10 => .int
  | 11 => .int
  | 12 => .int
  | _ => .boolean
theorem nmX9 : ∀ a, a < 14 → ∀ b, b < 14 → a ≠ b → (TX9 a).2.1 ≠ (TX9 b).2.1 := by decide +kernel
theorem tyX9_ok : ∀ k, k < 14 → parseFieldDescriptor (TX9 k).2.2.1 = some (tyX9 k) := by decide +kernel
def RX10 : String := "WakeHouse$Tape"
def TX10 : u_T := fun k => match k with
  | 0 => ("WakeHouse$Tape", "bytes", "[B", true)
  | 1 => ("WakeHouse$Tape", "words", "[J", true)
  | 2 => ("WakeHouse$Tape", "kinds", "[I", true)
  | 3 => ("WakeHouse$Tape", "places", "[I", true)
  | 4 => ("WakeHouse$Tape", "values", "[J", true)
  | 5 => ("WakeHouse$Tape", "length", "I", false)
  | 6 => ("WakeHouse$Tape", "next", "I", false)
  | _ => ("WakeHouse$Tape", "tokens", "I", false)
def tyX10 : Nat → FieldType := fun k => match k with
  | 0 => .array .byte
  | 1 => .array .long
  | 2 => .array .int
  | 3 => .array .int
  | 4 => .array .long
  | 5 => .int
  | 6 => .int
  | _ => .int
theorem nmX10 : ∀ a, a < 8 → ∀ b, b < 8 → a ≠ b → (TX10 a).2.1 ≠ (TX10 b).2.1 := by decide +kernel
theorem tyX10_ok : ∀ k, k < 8 → parseFieldDescriptor (TX10 k).2.2.1 = some (tyX10 k) := by decide +kernel
def RX11 : String := "WakeHouse"
def TX11 : u_T := fun k => match k with
  | 0 => ("WakeHouse", "tape", "LWakeHouse$Tape;", true)
  | 1 => ("WakeHouse", "reader", "LWakeHouse$Reader;", true)
  | 2 => ("WakeHouse", "house", "LWakeHouse$House;", true)
  | 3 => ("WakeHouse", "now", "LWakeHouse$State;", true)
  | 4 => ("WakeHouse", "slots", "[LWakeHouse$State;", true)
  | 5 => ("WakeHouse", "night", "LWakeHouse$Night;", true)
  | 6 => ("WakeHouse", "bestTwo", "LWakeHouse$BestTwo;", true)
  | 7 => ("WakeHouse", "cover", "LWakeHouse$Cover;", true)
  | 8 => ("WakeHouse", "shaking", "LWakeHouse$Shaking;", true)
  | 9 => ("WakeHouse", "rounds", "LWakeHouse$Round;", true)
  | 10 => ("WakeHouse", "changes", "LWakeHouse$Changes;", true)
  | _ => ("WakeHouse", "edits", "I", false)
def tyX11 : Nat → FieldType := fun k => match k with
  | 0 => .object "WakeHouse$Tape"
  | 1 => .object "WakeHouse$Reader"
  | 2 => .object "WakeHouse$House"
  | 3 => .object "WakeHouse$State"
  | 4 => .array (.object "WakeHouse$State")
  | 5 => .object "WakeHouse$Night"
  | 6 => .object "WakeHouse$BestTwo"
  | 7 => .object "WakeHouse$Cover"
  | 8 => .object "WakeHouse$Shaking"
  | 9 => .object "WakeHouse$Round"
  | 10 => .object "WakeHouse$Changes"
  | _ => .int
theorem nmX11 : ∀ a, a < 12 → ∀ b, b < 12 → a ≠ b → (TX11 a).2.1 ≠ (TX11 b).2.1 := by decide +kernel
theorem tyX11_ok : ∀ k, k < 12 → parseFieldDescriptor (TX11 k).2.2.1 = some (tyX11 k) := by decide +kernel
def RX12 : String := "WakeHouseModel"
def TX12 : u_T := fun k => match k with
  | 0 => ("WakeHouseModel", "thrown", "I", false)
  | 1 => ("WakeHouseModel", "tape", "[B", true)
  | 2 => ("WakeHouseModel", "taped", "I", false)
  | 3 => ("WakeHouseModel", "text", "[B", true)
  | 4 => ("WakeHouseModel", "size", "I", false)
  | 5 => ("WakeHouseModel", "tKind", "[I", true)
  | 6 => ("WakeHouseModel", "tPlace", "[I", true)
  | 7 => ("WakeHouseModel", "tValue", "[I", true)
  | 8 => ("WakeHouseModel", "tName", "[J", true)
  | 9 => ("WakeHouseModel", "keys", "[J", true)
  | 10 => ("WakeHouseModel", "tokens", "I", false)
  | 11 => ("WakeHouseModel", "t", "I", false)
  | 12 => ("WakeHouseModel", "open", "I", false)
  | 13 => ("WakeHouseModel", "fault", "I", false)
  | 14 => ("WakeHouseModel", "faultPlace", "I", false)
  | 15 => ("WakeHouseModel", "worst", "I", false)
  | 16 => ("WakeHouseModel", "worstPlace", "I", false)
  | 17 => ("WakeHouseModel", "place", "I", false)
  | 18 => ("WakeHouseModel", "live", "I", false)
  | 19 => ("WakeHouseModel", "side", "I", false)
  | 20 => ("WakeHouseModel", "names", "I", false)
  | 21 => ("WakeHouseModel", "nameOf", "[J", true)
  | 22 => ("WakeHouseModel", "nameSort", "[I", true)
  | 23 => ("WakeHouseModel", "nameAt", "[I", true)
  | 24 => ("WakeHouseModel", "beds", "[I", true)
  | 25 => ("WakeHouseModel", "floorOf", "[I", true)
  | 26 => ("WakeHouseModel", "placeOf", "[I", true)
  | 27 => ("WakeHouseModel", "clocks", "[I", true)
  | 28 => ("WakeHouseModel", "clockLoud", "[I", true)
  | 29 => ("WakeHouseModel", "clockLate", "[I", true)
  | 30 => ("WakeHouseModel", "sleepers", "[I", true)
  | 31 => ("WakeHouseModel", "firstBed", "[I", true)
  | 32 => ("WakeHouseModel", "deepOf", "[I", true)
  | 33 => ("WakeHouseModel", "hourOf", "[I", true)
  | 34 => ("WakeHouseModel", "lateOf", "[I", true)
  | 35 => ("WakeHouseModel", "vainOf", "[I", true)
  | 36 => ("WakeHouseModel", "isTold", "[Z", true)
  | 37 => ("WakeHouseModel", "lawFrom", "[I", true)
  | 38 => ("WakeHouseModel", "lawTo", "[I", true)
  | 39 => ("WakeHouseModel", "codes", "I", false)
  | 40 => ("WakeHouseModel", "code", "[I", true)
  | 41 => ("WakeHouseModel", "codeInt", "[I", true)
  | 42 => ("WakeHouseModel", "waits", "[I", true)
  | 43 => ("WakeHouseModel", "waiting", "I", false)
  | 44 => ("WakeHouseModel", "variables", "[I", true)
  | 45 => ("WakeHouseModel", "pile", "[I", true)
  | 46 => ("WakeHouseModel", "bedOf", "[I", true)
  | 47 => ("WakeHouseModel", "hasWool", "[Z", true)
  | 48 => ("WakeHouseModel", "sounds", "I", false)
  | 49 => ("WakeHouseModel", "soundSort", "[I", true)
  | 50 => ("WakeHouseModel", "soundMinute", "[I", true)
  | 51 => ("WakeHouseModel", "soundLoud", "[I", true)
  | 52 => ("WakeHouseModel", "soundAt", "[I", true)
  | 53 => ("WakeHouseModel", "order", "[I", true)
  | 54 => ("WakeHouseModel", "keptSort", "[I", true)
  | 55 => ("WakeHouseModel", "keptMinute", "[I", true)
  | 56 => ("WakeHouseModel", "keptLoud", "[I", true)
  | 57 => ("WakeHouseModel", "keptAt", "[I", true)
  | 58 => ("WakeHouseModel", "hours", "I", false)
  | 59 => ("WakeHouseModel", "hourAt", "[I", true)
  | 60 => ("WakeHouseModel", "bestIs", "[I", true)
  | 61 => ("WakeHouseModel", "bestCost", "J", false)
  | 62 => ("WakeHouseModel", "fewestTo", "[I", true)
  | 63 => ("WakeHouseModel", "shakes", "[I", true)
  | 64 => ("WakeHouseModel", "shaking", "[I", true)
  | 65 => ("WakeHouseModel", "far", "[I", true)
  | 66 => ("WakeHouseModel", "from", "[I", true)
  | 67 => ("WakeHouseModel", "shaken", "I", false)
  | 68 => ("WakeHouseModel", "walked", "I", false)
  | 69 => ("WakeHouseModel", "ringAt", "[I", true)
  | 70 => ("WakeHouseModel", "ringBest", "[I", true)
  | 71 => ("WakeHouseModel", "swapIs", "[I", true)
  | 72 => ("WakeHouseModel", "rounded", "I", false)
  | 73 => ("WakeHouseModel", "roundWho", "[I", true)
  | 74 => ("WakeHouseModel", "roundNow", "[I", true)
  | 75 => ("WakeHouseModel", "roundBest", "[I", true)
  | 76 => ("WakeHouseModel", "mornings", "I", false)
  | 77 => ("WakeHouseModel", "of", "[I", true)
  | 78 => ("WakeHouseModel", "who", "[I", true)
  | 79 => ("WakeHouseModel", "weekday", "[I", true)
  | 80 => ("WakeHouseModel", "woke", "[I", true)
  | 81 => ("WakeHouseModel", "cried", "I", false)
  | 82 => ("WakeHouseModel", "slotSounds", "[I", true)
  | 83 => ("WakeHouseModel", "slotSort", "[I", true)
  | 84 => ("WakeHouseModel", "slotMinute", "[I", true)
  | 85 => ("WakeHouseModel", "slotLoud", "[I", true)
  | 86 => ("WakeHouseModel", "slotAt", "[I", true)
  | 87 => ("WakeHouseModel", "slotBed", "[I", true)
  | 88 => ("WakeHouseModel", "slotWool", "[Z", true)
  | _ => ("WakeHouseModel", "slotMornings", "[I", true)
def tyX12 : Nat → FieldType := fun k => match k with
  | 0 => .int
  | 1 => .array .byte
  | 2 => .int
  | 3 => .array .byte
  | 4 => .int
  | 5 => .array .int
  | 6 => .array .int
  | 7 => .array .int
  | 8 => .array .long
  | 9 => .array .long
  | 10 => .int
  | 11 => .int
  | 12 => .int
  | 13 => .int
  | 14 => .int
  | 15 => .int
  | 16 => .int
  | 17 => .int
  | 18 => .int
  | 19 => .int
  | 20 => .int
  | 21 => .array .long
  | 22 => .array .int
  | 23 => .array .int
  | 24 => .array .int
  | 25 => .array .int
  | 26 => .array .int
  | 27 => .array .int
  | 28 => .array .int
  | 29 => .array .int
  | 30 => .array .int
  | 31 => .array .int
  | 32 => .array .int
  | 33 => .array .int
  | 34 => .array .int
  | 35 => .array .int
  | 36 => .array .boolean
  | 37 => .array .int
  | 38 => .array .int
  | 39 => .int
  | 40 => .array .int
  | 41 => .array .int
  | 42 => .array .int
  | 43 => .int
  | 44 => .array .int
  | 45 => .array .int
  | 46 => .array .int
  | 47 => .array .boolean
  | 48 => .int
  | 49 => .array .int
  | 50 => .array .int
  | 51 => .array .int
  | 52 => .array .int
  | 53 => .array .int
  | 54 => .array .int
  | 55 => .array .int
  | 56 => .array .int
  | 57 => .array .int
  | 58 => .int
  | 59 => .array .int
  | 60 => .array .int
  | 61 => .long
  | 62 => .array .int
  | 63 => .array .int
  | 64 => .array .int
  | 65 => .array .int
  | 66 => .array .int
  | 67 => .int
  | 68 => .int
  | 69 => .array .int
  | 70 => .array .int
  | 71 => .array .int
  | 72 => .int
  | 73 => .array .int
  | 74 => .array .int
  | 75 => .array .int
  | 76 => .int
  | 77 => .array .int
  | 78 => .array .int
  | 79 => .array .int
  | 80 => .array .int
  | 81 => .int
  | 82 => .array .int
  | 83 => .array .int
  | 84 => .array .int
  | 85 => .array .int
  | 86 => .array .int
  | 87 => .array .int
  | 88 => .array .boolean
  | _ => .array .int
theorem nmX12 : ∀ a, a < 90 → ∀ b, b < 90 → a ≠ b → (TX12 a).2.1 ≠ (TX12 b).2.1 := by decide +kernel
theorem tyX12_ok : ∀ k, k < 90 → parseFieldDescriptor (TX12 k).2.2.1 = some (tyX12 k) := by decide +kernel
abbrev vwCl : List vw_C := [(RX0, TX0, 17), (RX1, TX1, 6), (RX2, TX2, 6), (RX3, TX3, 19), (RX4, TX4, 3), (RX5, TX5, 12), (RX6, TX6, 15), (RX7, TX7, 8), (RX8, TX8, 13), (RX9, TX9, 14), (RX10, TX10, 8), (RX11, TX11, 12), (RX12, TX12, 90)]
def am_sel : List Nat → List Cond → List Cond
  | [], _ => []
  | g :: gs, l => match l.drop g with
    | [] => []
    | c :: l2 => c :: am_sel gs l2
theorem am_sel_in : ∀ (gs : List Nat) (l : List Cond), ∀ c ∈ am_sel gs l, c ∈ l
  | [], _, c, h => by simp [am_sel] at h
  | g :: gs, l, c, h => by
    simp only [am_sel] at h
    cases hd : l.drop g with
    | nil => rw [hd] at h; simp at h
    | cons c2 l2 =>
      rw [hd] at h
      have hm : ∀ x ∈ c2 :: l2, x ∈ l := fun x hx => List.mem_of_mem_drop (hd ▸ hx)
      rcases List.mem_cons.mp h with rfl | h
      · exact hm _ List.mem_cons_self
      · exact hm _ (List.mem_cons_of_mem _ (am_sel_in gs l2 c h))
theorem am_tab {α : Type} (l : List α) (ps : List Nat) (f : α → Cond) (h : l.map f = am_sel ps lw_tbl) : ∀ q ∈ l, f q ∈ lw_tbl := by
  intro q hq
  have h1 : f q ∈ l.map f := List.mem_map.mpr ⟨q, hq, rfl⟩
  rw [h] at h1
  exact am_sel_in _ _ _ h1
theorem inX0 : ∀ w ∈ u_ws RX0 TX0 17, w ∈ lw_tbl := fun w h => by
  obtain ⟨q, hq, rfl⟩ := List.mem_map.mp h
  exact am_tab [0, 1, 2, 3, 4, 5, 6, 7, 8, 9, 10, 11, 12, 13, 14, 15, 16] [613, 1, 1, 1, 1, 1, 1, 1, 1, 1, 1, 1, 1, 1, 1, 1, 1] (u_lay RX0 TX0) (by decide +kernel) q ((by decide +kernel : ∀ q ∈ List.range 17, q ∈ ([0, 1, 2, 3, 4, 5, 6, 7, 8, 9, 10, 11, 12, 13, 14, 15, 16] : List Nat)) q hq)
theorem inX1 : ∀ w ∈ u_ws RX1 TX1 6, w ∈ lw_tbl := fun w h => by
  obtain ⟨q, hq, rfl⟩ := List.mem_map.mp h
  exact am_tab [0, 1, 2, 3, 4, 5] [767, 1, 1, 1, 1, 1] (u_lay RX1 TX1) (by decide +kernel) q ((by decide +kernel : ∀ q ∈ List.range 6, q ∈ ([0, 1, 2, 3, 4, 5] : List Nat)) q hq)
theorem inX2 : ∀ w ∈ u_ws RX2 TX2 6, w ∈ lw_tbl := fun w h => by
  obtain ⟨q, hq, rfl⟩ := List.mem_map.mp h
  exact am_tab [0, 1, 2, 3, 4, 5] [660, 1, 1, 1, 1, 1] (u_lay RX2 TX2) (by decide +kernel) q ((by decide +kernel : ∀ q ∈ List.range 6, q ∈ ([0, 1, 2, 3, 4, 5] : List Nat)) q hq)
theorem inX3 : ∀ w ∈ u_ws RX3 TX3 19, w ∈ lw_tbl := fun w h => by
  obtain ⟨q, hq, rfl⟩ := List.mem_map.mp h
  exact am_tab [0, 1, 2, 3, 4, 5, 6, 7, 8, 9, 10, 11, 12, 13, 14, 15, 16, 17, 18] [373, 1, 1, 1, 1, 1, 1, 1, 1, 1, 1, 1, 1, 1, 1, 1, 1, 1, 1] (u_lay RX3 TX3) (by decide +kernel) q ((by decide +kernel : ∀ q ∈ List.range 19, q ∈ ([0, 1, 2, 3, 4, 5, 6, 7, 8, 9, 10, 11, 12, 13, 14, 15, 16, 17, 18] : List Nat)) q hq)
theorem inX4 : ∀ w ∈ u_ws RX4 TX4 3, w ∈ lw_tbl := fun w h => by
  obtain ⟨q, hq, rfl⟩ := List.mem_map.mp h
  exact am_tab [0, 1, 2] [293, 1, 1] (u_lay RX4 TX4) (by decide +kernel) q ((by decide +kernel : ∀ q ∈ List.range 3, q ∈ ([0, 1, 2] : List Nat)) q hq)
theorem inX5 : ∀ w ∈ u_ws RX5 TX5 12, w ∈ lw_tbl := fun w h => by
  obtain ⟨q, hq, rfl⟩ := List.mem_map.mp h
  exact am_tab [0, 1, 2, 3, 4, 5, 6, 7, 8, 9, 10, 11] [564, 1, 1, 1, 1, 1, 1, 1, 1, 1, 1, 1] (u_lay RX5 TX5) (by decide +kernel) q ((by decide +kernel : ∀ q ∈ List.range 12, q ∈ ([0, 1, 2, 3, 4, 5, 6, 7, 8, 9, 10, 11] : List Nat)) q hq)
theorem inX6 : ∀ w ∈ u_ws RX6 TX6 15, w ∈ lw_tbl := fun w h => by
  obtain ⟨q, hq, rfl⟩ := List.mem_map.mp h
  exact am_tab [0, 1, 2, 3, 4, 5, 6, 7, 8, 9, 10, 11, 12, 13, 14] [437, 1, 1, 1, 1, 1, 1, 1, 1, 1, 1, 1, 1, 1, 1] (u_lay RX6 TX6) (by decide +kernel) q ((by decide +kernel : ∀ q ∈ List.range 15, q ∈ ([0, 1, 2, 3, 4, 5, 6, 7, 8, 9, 10, 11, 12, 13, 14] : List Nat)) q hq)
theorem inX7 : ∀ w ∈ u_ws RX7 TX7 8, w ∈ lw_tbl := fun w h => by
  obtain ⟨q, hq, rfl⟩ := List.mem_map.mp h
  exact am_tab [0, 1, 2, 3, 4, 5, 6, 7] [737, 1, 1, 1, 1, 1, 1, 1] (u_lay RX7 TX7) (by decide +kernel) q ((by decide +kernel : ∀ q ∈ List.range 8, q ∈ ([0, 1, 2, 3, 4, 5, 6, 7] : List Nat)) q hq)
theorem inX8 : ∀ w ∈ u_ws RX8 TX8 13, w ∈ lw_tbl := fun w h => by
  obtain ⟨q, hq, rfl⟩ := List.mem_map.mp h
  exact am_tab [0, 1, 2, 3, 4, 5, 6, 7, 8, 9, 10, 11, 12] [695, 1, 1, 1, 1, 1, 1, 1, 1, 1, 1, 1, 1] (u_lay RX8 TX8) (by decide +kernel) q ((by decide +kernel : ∀ q ∈ List.range 13, q ∈ ([0, 1, 2, 3, 4, 5, 6, 7, 8, 9, 10, 11, 12] : List Nat)) q hq)
theorem inX9 : ∀ w ∈ u_ws RX9 TX9 14, w ∈ lw_tbl := fun w h => by
  obtain ⟨q, hq, rfl⟩ := List.mem_map.mp h
  exact am_tab [0, 1, 2, 3, 4, 5, 6, 7, 8, 9, 10, 11, 12, 13] [512, 1, 1, 1, 1, 1, 1, 1, 1, 1, 1, 1, 1, 1] (u_lay RX9 TX9) (by decide +kernel) q ((by decide +kernel : ∀ q ∈ List.range 14, q ∈ ([0, 1, 2, 3, 4, 5, 6, 7, 8, 9, 10, 11, 12, 13] : List Nat)) q hq)
theorem inX10 : ∀ w ∈ u_ws RX10 TX10 8, w ∈ lw_tbl := fun w h => by
  obtain ⟨q, hq, rfl⟩ := List.mem_map.mp h
  exact am_tab [0, 1, 2, 3, 4, 5, 6, 7] [256, 1, 1, 1, 1, 1, 1, 1] (u_lay RX10 TX10) (by decide +kernel) q ((by decide +kernel : ∀ q ∈ List.range 8, q ∈ ([0, 1, 2, 3, 4, 5, 6, 7] : List Nat)) q hq)
theorem inX11 : ∀ w ∈ u_ws RX11 TX11 12, w ∈ lw_tbl := fun w h => by
  obtain ⟨q, hq, rfl⟩ := List.mem_map.mp h
  exact am_tab [0, 1, 2, 3, 4, 5, 6, 7, 8, 9, 10, 11] [792, 1, 1, 1, 1, 1, 1, 1, 1, 1, 1, 1] (u_lay RX11 TX11) (by decide +kernel) q ((by decide +kernel : ∀ q ∈ List.range 12, q ∈ ([0, 1, 2, 3, 4, 5, 6, 7, 8, 9, 10, 11] : List Nat)) q hq)
theorem inX12 : ∀ w ∈ u_ws RX12 TX12 90, w ∈ lw_tbl := fun w h => by
  obtain ⟨q, hq, rfl⟩ := List.mem_map.mp h
  exact am_tab [0, 1, 2, 3, 4, 5, 6, 7, 8, 9, 10, 11, 12, 13, 14, 15, 16, 17, 18, 19, 20, 21, 22, 23, 24, 25, 26, 27, 28, 29,
  30, 31, 32, 33, 34, 35, 36, 37, 38, 39, 40, 41, 42, 43, 44, 45, 46, 47, 48, 49, 50, 51, 52, 53, 54, 55, 56, 57, 58, 59,
  60, 61, 62, 63, 64, 65, 66, 67, 68, 69, 70, 71, 72, 73, 74, 75, 76, 77, 78, 79, 80, 81, 82, 83, 84, 85, 86, 87, 88, 89] [1783, 1, 1, 1, 1, 1, 1, 1, 1, 1, 1, 1, 1, 1, 1, 1, 1, 1, 1, 1, 1, 1, 1, 1, 1, 1, 1, 1, 1, 1,
  1, 1, 1, 1, 1, 1, 1, 1, 1, 1, 1, 1, 1, 1, 1, 1, 1, 1, 1, 1, 1, 1, 1, 1, 1, 1, 1, 1, 1, 1,
  1, 1, 1, 1, 1, 1, 1, 1, 1, 1, 1, 1, 1, 1, 1, 1, 1, 1, 1, 1, 1, 1, 1, 1, 1, 1, 1, 1, 1, 1] (u_lay RX12 TX12) (by decide +kernel) q ((by decide +kernel : ∀ q ∈ List.range 90, q ∈ ([0, 1, 2, 3, 4, 5, 6, 7, 8, 9, 10, 11, 12, 13, 14, 15, 16, 17, 18, 19, 20, 21, 22, 23, 24, 25, 26, 27, 28, 29,
  30, 31, 32, 33, 34, 35, 36, 37, 38, 39, 40, 41, 42, 43, 44, 45, 46, 47, 48, 49, 50, 51, 52, 53, 54, 55, 56, 57, 58, 59,
  60, 61, 62, 63, 64, 65, 66, 67, 68, 69, 70, 71, 72, 73, 74, 75, 76, 77, 78, 79, 80, 81, 82, 83, 84, 85, 86, 87, 88, 89] : List Nat)) q hq)
def cN (n : Nat) : String := am_nth "" ["WakeHouse$BestTwo", "WakeHouse$Changes", "WakeHouse$Cover", "WakeHouse$House", "WakeHouse$Law", "WakeHouse$Night", "WakeHouse$Reader", "WakeHouse$Round", "WakeHouse$Shaking", "WakeHouse$State", "WakeHouse$Tape", "WakeHouse", "WakeHouseModel", "WakeHouseLaw", "java/lang/String", "java/lang/StringLatin1", "jdk/internal/util/Preconditions", "java/lang/Math", "java/util/Arrays", "java/lang/Long", "java/lang/Integer"] n
def ftL : List (List Nat) := [[0, 0, 0, 0, 0, 0, 0, 0, 0, 0, 2, 2, 1, 1, 1, 1, 1],
  [0, 0, 0, 0, 0, 0],
  [0, 0, 0, 0, 0, 1],
  [0, 0, 0, 0, 0, 0, 0, 0, 0, 0, 0, 0, 0, 0, 1, 1, 1, 1, 1],
  [0, 0, 1],
  [0, 0, 0, 0, 0, 0, 0, 0, 0, 0, 0, 1],
  [0, 0, 0, 0, 1, 1, 0, 1, 1, 1, 1, 1, 1, 1, 1],
  [0, 0, 0, 0, 0, 0, 1, 1],
  [0, 0, 0, 0, 0, 0, 0, 0, 0, 1, 1, 1, 1],
  [0, 0, 0, 0, 0, 0, 0, 0, 0, 0, 1, 1, 1, 3],
  [0, 0, 0, 0, 0, 1, 1, 1],
  [0, 0, 0, 0, 0, 0, 0, 0, 0, 0, 0, 1],
  [1, 0, 1, 0, 1, 0, 0, 0, 0, 0, 1, 1, 1, 1, 1, 1, 1, 1, 1, 1, 1, 0, 0, 0, 0, 0, 0, 0, 0, 0, 0, 0, 0, 0, 0, 0, 0, 0, 0, 1, 0, 0, 0, 1, 0, 0, 0, 0, 1, 0, 0, 0, 0, 0, 0, 0, 0, 0, 1, 0, 0, 2, 0, 0, 0, 0, 0, 1, 1, 0, 0, 0, 1, 0, 0, 0, 1, 0, 0, 0, 0, 1, 0, 0, 0, 0, 0, 0, 0, 0],
  [],
  [],
  [],
  [],
  [],
  [],
  [],
  [0, 1]]
def ftab (c k : Nat) : Nat := am_nth 9 (am_nth [] ftL c) k
/-- fields: in which class, which entry; of which class, which field -/
def tFl : List (Nat × Nat × Nat × Nat) := [(10, 9, 10, 0), (10, 13, 10, 1), (10, 17, 10, 2), (6, 74, 10, 2), (10, 21, 10, 3), (6, 77, 10, 3), (10, 24, 10, 4), (6, 162, 10, 4),
  (10, 43, 10, 5), (11, 101, 10, 5), (6, 71, 10, 5), (10, 49, 10, 6), (10, 46, 10, 7), (4, 11, 4, 0), (4, 15, 4, 1), (4, 18, 4, 2),
  (3, 77, 4, 2), (6, 173, 4, 2), (3, 9, 3, 0), (6, 117, 3, 0), (3, 15, 3, 1), (7, 44, 3, 1), (6, 123, 3, 1), (3, 18, 3, 2),
  (2, 82, 3, 2), (0, 123, 3, 2), (11, 177, 3, 2), (6, 132, 3, 2), (3, 21, 3, 3), (6, 135, 3, 3), (3, 24, 3, 4), (9, 63, 3, 4),
  (6, 144, 3, 4), (3, 27, 3, 5), (5, 57, 3, 5), (11, 135, 3, 5), (6, 147, 3, 5), (3, 30, 3, 6), (7, 70, 3, 6), (8, 73, 3, 6),
  (2, 67, 3, 6), (11, 138, 3, 6), (5, 118, 3, 6), (9, 72, 3, 6), (6, 150, 3, 6), (3, 33, 3, 7), (11, 141, 3, 7), (5, 136, 3, 7),
  (6, 153, 3, 7), (3, 36, 3, 8), (11, 144, 3, 8), (5, 129, 3, 8), (6, 156, 3, 8), (3, 39, 3, 9), (0, 81, 3, 9), (2, 76, 3, 9),
  (11, 238, 3, 9), (3, 42, 3, 10), (7, 50, 3, 10), (8, 70, 3, 10), (3, 47, 3, 11), (3, 51, 3, 12), (6, 96, 3, 12), (3, 55, 3, 13),
  (5, 64, 3, 13), (6, 104, 3, 13), (3, 58, 3, 14), (1, 81, 3, 14), (2, 70, 3, 14), (0, 117, 3, 14), (6, 107, 3, 14), (11, 366, 3, 14),
  (3, 62, 3, 15), (6, 129, 3, 15), (11, 369, 3, 15), (3, 65, 3, 16), (1, 37, 3, 16), (9, 58, 3, 16), (2, 62, 3, 16), (0, 94, 3, 16),
  (6, 138, 3, 16), (5, 147, 3, 16), (11, 346, 3, 16), (3, 68, 3, 17), (0, 65, 3, 17), (2, 73, 3, 17), (11, 235, 3, 17), (8, 42, 3, 18),
  (7, 32, 3, 18), (3, 71, 3, 18), (11, 310, 3, 18), (6, 35, 6, 0), (6, 12, 6, 1), (11, 108, 6, 1), (6, 18, 6, 2), (6, 22, 6, 3),
  (6, 45, 6, 4), (6, 48, 6, 5), (6, 28, 6, 6), (6, 176, 6, 7), (6, 179, 6, 8), (6, 51, 6, 9), (6, 120, 6, 10), (6, 54, 6, 11),
  (6, 31, 6, 12), (11, 125, 6, 12), (6, 57, 6, 13), (6, 60, 6, 14), (9, 9, 9, 0), (5, 108, 9, 0), (11, 193, 9, 0), (9, 15, 9, 1),
  (5, 85, 9, 1), (11, 196, 9, 1), (9, 18, 9, 2), (5, 111, 9, 2), (11, 199, 9, 2), (9, 21, 9, 3), (5, 105, 9, 3), (9, 24, 9, 4),
  (1, 43, 9, 4), (7, 45, 9, 4), (8, 80, 9, 4), (5, 90, 9, 4), (0, 97, 9, 4), (11, 131, 9, 4), (2, 97, 9, 4), (9, 27, 9, 5),
  (1, 58, 9, 5), (11, 154, 9, 5), (9, 30, 9, 6), (11, 322, 9, 6), (9, 33, 9, 7), (9, 36, 9, 8), (9, 39, 9, 9), (11, 336, 9, 9),
  (9, 42, 9, 10), (1, 55, 9, 10), (5, 80, 9, 10), (0, 102, 9, 10), (11, 190, 9, 10), (9, 46, 9, 11), (11, 203, 9, 11), (9, 49, 9, 12),
  (11, 319, 9, 12), (11, 121, 9, 13), (5, 43, 5, 0), (5, 47, 5, 1), (5, 9, 5, 2), (5, 15, 5, 3), (0, 144, 5, 3), (5, 18, 5, 4),
  (0, 147, 5, 4), (5, 21, 5, 5), (5, 27, 5, 6), (5, 30, 5, 7), (5, 33, 5, 8), (11, 285, 5, 8), (5, 36, 5, 9), (5, 39, 5, 10),
  (5, 76, 5, 11), (0, 134, 5, 11), (0, 38, 0, 0), (0, 42, 0, 1), (0, 46, 0, 2), (0, 11, 0, 3), (0, 15, 0, 4), (0, 18, 0, 5),
  (0, 21, 0, 6), (0, 25, 0, 7), (0, 28, 0, 8), (0, 31, 0, 9), (0, 140, 0, 10), (0, 162, 0, 11), (11, 249, 0, 11), (0, 59, 0, 12),
  (0, 50, 0, 13), (0, 53, 0, 14), (0, 56, 0, 15), (0, 34, 0, 16), (2, 18, 2, 0), (2, 22, 2, 1), (2, 26, 2, 2), (2, 9, 2, 3),
  (2, 15, 2, 4), (2, 38, 2, 5), (8, 34, 8, 0), (8, 38, 8, 1), (8, 11, 8, 2), (11, 274, 8, 2), (8, 15, 8, 3), (8, 19, 8, 4),
  (8, 22, 8, 5), (8, 25, 8, 6), (8, 28, 8, 7), (8, 31, 8, 8), (8, 107, 8, 9), (8, 48, 8, 10), (8, 118, 8, 11), (11, 268, 8, 11),
  (8, 121, 8, 12), (11, 271, 8, 12), (7, 24, 7, 0), (7, 28, 7, 1), (7, 9, 7, 2), (11, 313, 7, 2), (7, 15, 7, 3), (7, 18, 7, 4),
  (7, 21, 7, 5), (7, 41, 7, 6), (7, 38, 7, 7), (1, 22, 1, 0), (1, 26, 1, 1), (1, 30, 1, 2), (1, 9, 1, 3), (1, 15, 1, 4),
  (1, 19, 1, 5), (11, 294, 1, 5), (11, 10, 11, 0), (11, 28, 11, 1), (11, 19, 11, 2), (11, 35, 11, 3), (11, 39, 11, 4), (11, 48, 11, 5),
  (11, 57, 11, 6), (11, 64, 11, 7), (11, 71, 11, 8), (11, 78, 11, 9), (11, 85, 11, 10), (11, 89, 11, 11), (12, 13, 12, 1), (12, 222, 12, 2),
  (12, 17, 12, 3), (12, 229, 12, 4), (12, 20, 12, 5), (12, 24, 12, 6), (12, 27, 12, 7), (12, 30, 12, 8), (12, 34, 12, 9), (12, 238, 12, 10),
  (12, 263, 12, 11), (12, 287, 12, 12), (12, 260, 12, 13), (12, 266, 12, 14), (12, 269, 12, 15), (12, 272, 12, 16), (12, 37, 12, 17), (12, 290, 12, 18),
  (12, 293, 12, 19), (12, 296, 12, 20), (12, 40, 12, 21), (12, 43, 12, 22), (12, 46, 12, 23), (12, 49, 12, 24), (12, 52, 12, 25), (12, 55, 12, 26),
  (12, 58, 12, 27), (12, 61, 12, 28), (12, 64, 12, 29), (12, 67, 12, 30), (12, 70, 12, 31), (12, 73, 12, 32), (12, 76, 12, 33), (12, 79, 12, 34),
  (12, 82, 12, 35), (12, 85, 12, 36), (12, 89, 12, 37), (12, 92, 12, 38), (12, 299, 12, 39), (12, 95, 12, 40), (12, 98, 12, 41), (12, 101, 12, 42),
  (12, 342, 12, 43), (12, 104, 12, 44), (12, 107, 12, 45), (12, 110, 12, 46), (12, 113, 12, 47), (12, 409, 12, 48), (12, 116, 12, 49), (12, 119, 12, 50),
  (12, 122, 12, 51), (12, 125, 12, 52), (12, 128, 12, 53), (12, 131, 12, 54), (12, 134, 12, 55), (12, 137, 12, 56), (12, 140, 12, 57), (12, 470, 12, 58),
  (12, 143, 12, 59), (12, 146, 12, 60), (12, 479, 12, 61), (12, 149, 12, 62), (12, 152, 12, 63), (12, 155, 12, 64), (12, 158, 12, 65), (12, 161, 12, 66),
  (12, 502, 12, 67), (12, 505, 12, 68), (12, 164, 12, 69), (12, 167, 12, 70), (12, 170, 12, 71), (12, 540, 12, 72), (12, 173, 12, 73), (12, 176, 12, 74),
  (12, 179, 12, 75), (12, 552, 12, 76), (12, 182, 12, 77), (12, 185, 12, 78), (12, 188, 12, 79), (12, 191, 12, 80), (12, 571, 12, 81), (12, 194, 12, 82),
  (12, 197, 12, 83), (12, 200, 12, 84), (12, 203, 12, 85), (12, 206, 12, 86), (12, 209, 12, 87), (12, 212, 12, 88), (12, 215, 12, 89)]
def cT (n : Nat) : u_T := match n with
  | 0 => TX0
  | 1 => TX1
  | 2 => TX2
  | 3 => TX3
  | 4 => TX4
  | 5 => TX5
  | 6 => TX6
  | 7 => TX7
  | 8 => TX8
  | 9 => TX9
  | 10 => TX10
  | 11 => TX11
  | _ => TX12
theorem tFl_ok : ∀ q ∈ tFl, Cond.fieldLink (cN q.1) q.2.1 (cN q.2.2.1) (cT q.2.2.1 q.2.2.2).2.1 (cT q.2.2.1 q.2.2.2).2.2.1 ∈ lw_tbl := am_tab tFl [243, 0, 0, 0, 0, 0, 0, 0, 0, 0, 0, 0, 0, 32, 0, 0, 0, 0, 7, 0, 0, 0, 0, 0, 0, 0, 0, 0, 0, 0,
  0, 0, 0, 0, 0, 0, 0, 0, 0, 0, 0, 0, 0, 0, 0, 0, 0, 0, 0, 0, 0, 0, 0, 0, 0, 0, 0, 0, 0, 0,
  0, 0, 0, 0, 0, 0, 0, 0, 0, 0, 0, 0, 0, 0, 0, 0, 0, 0, 0, 0, 0, 0, 0, 0, 0, 0, 0, 0, 0, 0,
  0, 47, 0, 0, 0, 0, 0, 0, 0, 0, 0, 0, 0, 0, 0, 0, 0, 0, 37, 0, 0, 0, 0, 0, 0, 0, 0, 0, 0, 0,
  0, 0, 0, 0, 0, 0, 0, 0, 0, 0, 0, 0, 0, 0, 0, 0, 0, 0, 0, 0, 0, 0, 0, 0, 0, 0, 36, 0, 0, 0,
  0, 0, 0, 0, 0, 0, 0, 0, 0, 0, 0, 0, 31, 0, 0, 0, 0, 0, 0, 0, 0, 0, 0, 0, 0, 0, 0, 0, 0, 0,
  41, 0, 0, 0, 0, 0, 19, 0, 0, 0, 0, 0, 0, 0, 0, 0, 0, 0, 0, 0, 0, 0, 33, 0, 0, 0, 0, 0, 0, 0,
  0, 23, 0, 0, 0, 0, 0, 0, 13, 0, 0, 0, 0, 0, 0, 0, 0, 0, 0, 0, 902, 0, 0, 0, 0, 0, 0, 0, 0, 0,
  0, 0, 0, 0, 0, 0, 0, 0, 0, 0, 0, 0, 0, 0, 0, 0, 0, 0, 0, 0, 0, 0, 0, 0, 0, 0, 0, 0, 0, 0,
  0, 0, 0, 0, 0, 0, 0, 0, 0, 0, 0, 0, 0, 0, 0, 0, 0, 0, 0, 0, 0, 0, 0, 0, 0, 0, 0, 0, 0, 0,
  0, 0, 0, 0, 0, 0, 0, 0, 0, 0, 0, 0, 0, 0, 0, 0, 0, 0, 0] (fun q => Cond.fieldLink (cN q.1) q.2.1 (cN q.2.2.1) (cT q.2.2.1 q.2.2.2).2.1 (cT q.2.2.1 q.2.2.2).2.2.1) (by decide +kernel)
-- statics and texts: [('WakeHouse', 210, 'WakeHouse', 'HUNDREDS', '[J', None, 1201), ('WakeHouse$Changes', 52, 'WakeHouse', 'HUNDREDS', '[J', 'WakeHouse', 1477), ('WakeHouse$Night', 126, 'WakeHouse', 'HUNDREDS', '[J', 'WakeHouse', 1237), ('WakeHouse$Shaking', 90, 'WakeHouse$Shaking', 'NINES', '[I', None, 1393), ('java/lang/String', 9, 'java/lang/String', 'value', '[B', None, 2509), ('java/lang/String', 15, 'java/lang/String', 'coder', 'B', None, 2510), ('java/lang/String', 38, 'java/lang/String', 'COMPACT_STRINGS', 'Z', None, 199), ('java/lang/String', 1053, 'jdk/internal/util/Preconditions', 'SIOOBE_FORMATTER', 'Ljava/util/function/BiFunction;', None, 215)]
def tCn : List (Nat × Nat × Int) := [(7, 56, 100000), (5, 187, 1103515245), (20, 265, 1431655765), (20, 266, 858993459), (20, 267, 252645135), (12, 508, 100000), (12, 578, 1103515245)]
theorem tCn_ok : ∀ q ∈ tCn, Cond.constant (cN q.1) q.2.1 (Int32.ofInt q.2.2) ∈ lw_tbl := am_tab tCn [1532, 106, 38, 0, 0, 656, 150] (fun q => Cond.constant (cN q.1) q.2.1 (Int32.ofInt q.2.2)) (by decide +kernel)
def tCl : List (Nat × Nat × Int) := [(10, 60, 27), (11, 214, (-1)), (11, 216, (-2)), (5, 124, 10), (8, 88, 8), (8, 97, 6586148313000), (8, 99, 6586148313), (8, 101, 43046721),
  (8, 105, 9223372036854775807), (5, 159, (-1)), (11, 296, (-1000000000000000000)), (19, 314, 6148914691236517205), (19, 316, 3689348814741910323), (19, 318, 1085102592571150095), (12, 232, 27), (12, 441, 100),
  (12, 446, (-1)), (12, 448, (-2)), (12, 439, 10), (12, 538, (-1000000000000000000))]
theorem tCl_ok : ∀ q ∈ tCl, Cond.constantLong (cN q.1) q.2.1 (Int64.ofInt q.2.2) ∈ lw_tbl := am_tab tCl [242, 964, 0, 27, 155, 11, 0, 0, 8, 28, 58, 148, 0, 0, 38, 520, 7, 4, 16, 149] (fun q => Cond.constantLong (cN q.1) q.2.1 (Int64.ofInt q.2.2)) (by decide +kernel)
/-- methods by number: names, bytes, locals, answers; how many frames and words of room; how many arguments -/
def mYL : List MethodName := [⟨"WakeHouse", "<init>", "()V"⟩, ⟨"WakeHouse$Tape", "<init>", "()V"⟩,
  ⟨"java/lang/String", "length", "()I"⟩, ⟨"java/lang/String", "coder", "()B"⟩,
  ⟨"java/lang/String", "charAt", "(I)C"⟩, ⟨"java/lang/String", "isLatin1", "()Z"⟩,
  ⟨"java/lang/StringLatin1", "charAt", "([BI)C"⟩, ⟨"java/lang/String", "checkIndex", "(II)V"⟩,
  ⟨"jdk/internal/util/Preconditions", "checkIndex", "(IILjava/util/function/BiFunction;)I"⟩, ⟨"WakeHouse$Tape", "spelled", "(JI)J"⟩,
  ⟨"WakeHouse$House", "<init>", "()V"⟩, ⟨"WakeHouse$Law", "<init>", "()V"⟩,
  ⟨"WakeHouse$Reader", "<init>", "(LWakeHouse$Tape;)V"⟩, ⟨"WakeHouse$State", "<init>", "()V"⟩,
  ⟨"WakeHouse$Night", "<init>", "(LWakeHouse$House;LWakeHouse$State;)V"⟩, ⟨"WakeHouse$BestTwo", "<init>", "(LWakeHouse$House;LWakeHouse$State;LWakeHouse$Night;)V"⟩,
  ⟨"WakeHouse$Cover", "<init>", "(LWakeHouse$House;LWakeHouse$State;LWakeHouse$Night;)V"⟩, ⟨"WakeHouse$Shaking", "<init>", "(LWakeHouse$House;LWakeHouse$State;)V"⟩,
  ⟨"WakeHouse$Round", "<init>", "(LWakeHouse$House;LWakeHouse$State;)V"⟩, ⟨"WakeHouse$Changes", "<init>", "(LWakeHouse$House;LWakeHouse$State;LWakeHouse$Night;)V"⟩,
  ⟨"WakeHouse", "feed", "(IIIII)I"⟩, ⟨"WakeHouse$Tape", "hasRoom", "(I)Z"⟩,
  ⟨"WakeHouse$Tape", "putFour", "(I)V"⟩, ⟨"WakeHouse", "back", "(I)I"⟩,
  ⟨"WakeHouse", "read", "()I"⟩, ⟨"WakeHouse$Reader", "readText", "()I"⟩,
  ⟨"WakeHouse$Tape", "split", "()V"⟩, ⟨"WakeHouse$Tape", "scan", "()Z"⟩,
  ⟨"WakeHouse$Tape", "isBlank", "(I)Z"⟩, ⟨"WakeHouse$Tape", "put", "(IIJ)V"⟩,
  ⟨"WakeHouse$Tape", "isLetter", "(I)Z"⟩, ⟨"WakeHouse$Tape", "scanLetters", "()Z"⟩,
  ⟨"WakeHouse$Tape", "isDigit", "(I)Z"⟩, ⟨"WakeHouse$Tape", "scanDigits", "()Z"⟩,
  ⟨"WakeHouse$Tape", "scanSign", "(I)Z"⟩, ⟨"java/lang/String", "indexOf", "(I)I"⟩,
  ⟨"java/lang/String", "indexOf", "(II)I"⟩, ⟨"java/lang/StringLatin1", "indexOf", "([BIII)I"⟩,
  ⟨"java/lang/StringLatin1", "canEncode", "(I)Z"⟩, ⟨"java/lang/StringLatin1", "indexOfChar", "([BIII)I"⟩,
  ⟨"WakeHouse$House", "clear", "()V"⟩, ⟨"WakeHouse$House", "putUsualHearing", "()V"⟩,
  ⟨"WakeHouse$Law", "put", "(I)V"⟩, ⟨"WakeHouse$Reader", "kind", "()I"⟩,
  ⟨"WakeHouse$Reader", "tell", "()Z"⟩, ⟨"WakeHouse$Reader", "tellBed", "()Z"⟩,
  ⟨"WakeHouse$Reader", "fail", "(I)Z"⟩, ⟨"WakeHouse$Reader", "goOn", "()Z"⟩,
  ⟨"WakeHouse$Reader", "takeNewName", "(I)Z"⟩, ⟨"WakeHouse$Reader", "numberOf", "(J)I"⟩,
  ⟨"WakeHouse$Reader", "doubt", "(I)V"⟩, ⟨"WakeHouse$Reader", "takeInt", "(II)Z"⟩,
  ⟨"WakeHouse$Reader", "take", "(I)Z"⟩, ⟨"WakeHouse$Reader", "tellClock", "()Z"⟩,
  ⟨"WakeHouse$Reader", "tellSleeper", "()Z"⟩, ⟨"WakeHouse$Reader", "takeBedName", "()Z"⟩,
  ⟨"WakeHouse$Reader", "takeDuty", "(I)Z"⟩, ⟨"WakeHouse$Reader", "tellLaw", "(LWakeHouse$Law;)Z"⟩,
  ⟨"WakeHouse$Reader", "open", "(I)Z"⟩, ⟨"WakeHouse$Reader", "pushSign", "(I)V"⟩,
  ⟨"WakeHouse$Reader", "putUnit", "(LWakeHouse$Law;I)Z"⟩, ⟨"WakeHouse$Reader", "putSign", "(LWakeHouse$Law;I)Z"⟩,
  ⟨"WakeHouse$Reader", "putWaiting", "(LWakeHouse$Law;Z)V"⟩, ⟨"WakeHouse$Reader", "closes", "(I)Z"⟩,
  ⟨"WakeHouse$Reader", "close", "(LWakeHouse$Law;I)Z"⟩, ⟨"WakeHouse$House", "takeFrom", "(LWakeHouse$House;)V"⟩,
  ⟨"WakeHouse$Law", "takeFrom", "(LWakeHouse$Law;)V"⟩, ⟨"WakeHouse$House", "listHours", "()V"⟩,
  ⟨"WakeHouse$House", "listHour", "(I)V"⟩, ⟨"WakeHouse$House", "listEight", "()V"⟩,
  ⟨"WakeHouse$State", "begin", "(LWakeHouse$House;)V"⟩, ⟨"java/util/Arrays", "fill", "([II)V"⟩,
  ⟨"WakeHouse$Night", "forget", "()V"⟩, ⟨"java/util/Arrays", "fill", "([BB)V"⟩,
  ⟨"WakeHouse", "place", "()I"⟩, ⟨"WakeHouse", "of", "(II)I"⟩,
  ⟨"WakeHouse", "isSleeper", "(I)Z"⟩, ⟨"WakeHouse$State", "woolOf", "(I)I"⟩,
  ⟨"WakeHouse", "lies", "(I)I"⟩, ⟨"WakeHouse", "isBed", "(I)Z"⟩,
  ⟨"WakeHouse", "hears", "(IIII)I"⟩, ⟨"WakeHouse", "isLoud", "(I)Z"⟩,
  ⟨"WakeHouse", "isMinute", "(I)Z"⟩, ⟨"WakeHouse$House", "hearing", "(IIIIII)I"⟩,
  ⟨"WakeHouse$House", "apart", "(II)I"⟩, ⟨"WakeHouse$Law", "value", "([I)I"⟩,
  ⟨"WakeHouse", "held", "(III)I"⟩, ⟨"WakeHouse", "again", "(II)I"⟩,
  ⟨"WakeHouse$Night", "asleepAgain", "(II)I"⟩, ⟨"WakeHouse", "ring", "(III)I"⟩,
  ⟨"WakeHouse", "isClock", "(I)Z"⟩, ⟨"WakeHouse$House", "soundsAt", "(II)I"⟩,
  ⟨"WakeHouse", "plan", "(IIII)I"⟩, ⟨"WakeHouse$State", "putBehind", "(IIII)I"⟩,
  ⟨"WakeHouse", "string", "(II)I"⟩, ⟨"WakeHouse", "pole", "(II)I"⟩,
  ⟨"WakeHouse", "drop", "(I)I"⟩, ⟨"WakeHouse", "isSound", "(I)Z"⟩,
  ⟨"WakeHouse$State", "takeOut", "(I)V"⟩, ⟨"WakeHouse", "sound", "(II)I"⟩,
  ⟨"WakeHouse$State", "bedOfSound", "(I)I"⟩, ⟨"WakeHouse", "wool", "(IZ)Z"⟩,
  ⟨"WakeHouse", "swap", "(II)Z"⟩, ⟨"WakeHouse$State", "change", "(II)V"⟩,
  ⟨"WakeHouse", "ways", "()J"⟩, ⟨"WakeHouse", "up", "(I)J"⟩,
  ⟨"WakeHouse$Night", "arrange", "(I)V"⟩, ⟨"WakeHouse$Night", "insert", "(II)I"⟩,
  ⟨"WakeHouse$Night", "listen", "(I)V"⟩, ⟨"WakeHouse$Night", "listenFrom", "(III)V"⟩,
  ⟨"WakeHouse$Night", "heardOf", "(IIII)I"⟩, ⟨"WakeHouse$Night", "upWays", "(I)J"⟩,
  ⟨"WakeHouse", "woken", "(I)J"⟩, ⟨"WakeHouse$Night", "wokenWays", "()J"⟩,
  ⟨"WakeHouse", "cost", "()J"⟩, ⟨"WakeHouse$Night", "costWithout", "(I)J"⟩,
  ⟨"WakeHouse$Night", "share", "(I)J"⟩, ⟨"WakeHouse", "worst", "()I"⟩,
  ⟨"WakeHouse", "hours", "(I)I"⟩, ⟨"WakeHouse", "best", "(III)J"⟩,
  ⟨"WakeHouse", "bestRefusal", "(III)I"⟩, ⟨"WakeHouse$BestTwo", "seek", "(IIII)V"⟩,
  ⟨"WakeHouse$BestTwo", "hearAll", "()V"⟩, ⟨"WakeHouse$BestTwo", "hearClock", "(I[I)V"⟩,
  ⟨"WakeHouse$BestTwo", "setTo", "(I)I"⟩, ⟨"WakeHouse$BestTwo", "cell", "(II)I"⟩,
  ⟨"WakeHouse$BestTwo", "weigh", "(II)V"⟩, ⟨"WakeHouse$BestTwo", "compareBeds", "(II)V"⟩,
  ⟨"WakeHouse$BestTwo", "compare", "(JI)V"⟩, ⟨"WakeHouse$BestTwo", "compareSeconds", "(JII)V"⟩,
  ⟨"WakeHouse", "bestAt", "(IIII)I"⟩, ⟨"WakeHouse$BestTwo", "found", "(I)I"⟩,
  ⟨"WakeHouse", "fewest", "(I)I"⟩, ⟨"WakeHouse$Cover", "fewestRings", "(I)I"⟩,
  ⟨"WakeHouse$Cover", "deafOnes", "(I)I"⟩, ⟨"WakeHouse$Cover", "gather", "(I)V"⟩,
  ⟨"WakeHouse$Cover", "wokenBy", "(III)I"⟩, ⟨"WakeHouse$Cover", "keep", "(I)V"⟩,
  ⟨"WakeHouse$Cover", "bound", "()I"⟩, ⟨"WakeHouse$Cover", "goOn", "(II)V"⟩,
  ⟨"WakeHouse", "deaf", "(I)I"⟩, ⟨"WakeHouse", "walk", "(II)I"⟩,
  ⟨"WakeHouse$House", "walking", "(II)I"⟩, ⟨"WakeHouse", "shakes", "(II)I"⟩,
  ⟨"WakeHouse$Shaking", "match", "(I)V"⟩, ⟨"WakeHouse$Shaking", "setPrices", "(I)V"⟩,
  ⟨"WakeHouse$Shaking", "canShake", "(II)Z"⟩, ⟨"WakeHouse$Shaking", "walkOf", "(II)I"⟩,
  ⟨"java/util/Arrays", "fill", "([JJ)V"⟩, ⟨"WakeHouse$Shaking", "seat", "(I)V"⟩,
  ⟨"WakeHouse$Shaking", "nearest", "(I)I"⟩, ⟨"WakeHouse$Shaking", "isDone", "(I)Z"⟩,
  ⟨"WakeHouse$Shaking", "tell", "(I)V"⟩, ⟨"WakeHouse", "shaker", "(II)I"⟩,
  ⟨"WakeHouse", "twice", "(IIII)J"⟩, ⟨"WakeHouse", "mayRingTwice", "(IIII)Z"⟩,
  ⟨"WakeHouse$Night", "ringOften", "(IIII)J"⟩, ⟨"WakeHouse$Night", "pickNext", "(II)Z"⟩,
  ⟨"WakeHouse", "twiceAt", "(IIIII)I"⟩, ⟨"WakeHouse", "swaps", "(I)I"⟩,
  ⟨"WakeHouse", "isLimit", "(I)Z"⟩, ⟨"WakeHouse$Changes", "fewestChanges", "(I)I"⟩,
  ⟨"WakeHouse$Changes", "setPrices", "()V"⟩, ⟨"WakeHouse$Changes", "priceOf", "(II)J"⟩,
  ⟨"WakeHouse$Changes", "seekOne", "(JI)Z"⟩, ⟨"WakeHouse$Changes", "saved", "(II)J"⟩,
  ⟨"WakeHouse$Changes", "seekTwo", "(J)Z"⟩, ⟨"WakeHouse$Changes", "turn", "(II)V"⟩,
  ⟨"WakeHouse", "swapAt", "(II)I"⟩, ⟨"WakeHouse", "worth", "(I)J"⟩,
  ⟨"WakeHouse$Night", "worthOfWool", "(I)J"⟩, ⟨"WakeHouse", "whose", "(I)I"⟩,
  ⟨"WakeHouse$Night", "worthiest", "(I)I"⟩, ⟨"WakeHouse", "round", "(I)I"⟩,
  ⟨"WakeHouse", "isEarly", "(I)Z"⟩, ⟨"WakeHouse$Round", "walkRound", "(I)I"⟩,
  ⟨"WakeHouse$Round", "goForward", "()V"⟩, ⟨"WakeHouse$Round", "knock", "(II)I"⟩,
  ⟨"WakeHouse$Round", "hourOf", "(I)I"⟩, ⟨"WakeHouse$Round", "goBackward", "(I)V"⟩,
  ⟨"WakeHouse$Round", "pickOrder", "()V"⟩, ⟨"WakeHouse", "roundAt", "(II)I"⟩,
  ⟨"WakeHouse", "morning", "(III)I"⟩, ⟨"WakeHouse$State", "note", "(III)I"⟩,
  ⟨"WakeHouse", "annul", "(I)I"⟩, ⟨"WakeHouse", "alone", "(IIII)I"⟩,
  ⟨"WakeHouse", "isKnown", "(I)Z"⟩, ⟨"WakeHouse$State", "countAlone", "(LWakeHouse$House;IIIZ)I"⟩,
  ⟨"WakeHouse$State", "known", "(II)Z"⟩, ⟨"WakeHouse$State", "inTime", "(LWakeHouse$House;I)Z"⟩,
  ⟨"WakeHouse", "mondays", "(II)I"⟩, ⟨"WakeHouse$State", "tallyMondays", "(LWakeHouse$House;I)V"⟩,
  ⟨"WakeHouse", "mondayWays", "(IZ)J"⟩, ⟨"WakeHouse$State", "waysOfSoMany", "()J"⟩,
  ⟨"WakeHouse", "choose", "(II)J"⟩, ⟨"WakeHouse", "fire", "(IIZ)I"⟩,
  ⟨"WakeHouse", "aMinuteLater", "(IIZ)I"⟩, ⟨"WakeHouse", "cryHeard", "(III)I"⟩,
  ⟨"WakeHouse", "reaches", "(IIZ)I"⟩, ⟨"WakeHouse", "day", "(II)I"⟩,
  ⟨"WakeHouse$Night", "upByLots", "(III)Z"⟩, ⟨"WakeHouse$Night", "lotOfTen", "(II)I"⟩,
  ⟨"WakeHouse$Night", "stirred", "(II)I"⟩, ⟨"WakeHouse", "days", "(III)I"⟩,
  ⟨"WakeHouse$Night", "daysAllUp", "(II)I"⟩, ⟨"java/lang/Long", "bitCount", "(J)I"⟩,
  ⟨"WakeHouse", "hold", "(I)Z"⟩, ⟨"WakeHouse", "isSlot", "(I)Z"⟩,
  ⟨"WakeHouse$State", "takeFrom", "(LWakeHouse$State;)V"⟩, ⟨"WakeHouse", "restore", "(I)Z"⟩,
  ⟨"WakeHouse", "count", "(I)I"⟩, ⟨"java/lang/Integer", "bitCount", "(I)I"⟩,
  ⟨"WakeHouseModel", "<init>", "()V"⟩, ⟨"WakeHouseModel", "word", "(IIIIIII)J"⟩,
  ⟨"WakeHouseModel", "appends", "(JI)J"⟩, ⟨"WakeHouseModel", "feed", "(IIIII)I"⟩,
  ⟨"WakeHouseModel", "put", "(I)V"⟩, ⟨"WakeHouseModel", "back", "(I)I"⟩,
  ⟨"WakeHouseModel", "read", "()I"⟩, ⟨"WakeHouseModel", "cut", "()V"⟩,
  ⟨"WakeHouseModel", "byteAt", "(I)I"⟩, ⟨"WakeHouseModel", "token", "(IIIJ)V"⟩,
  ⟨"WakeHouseModel", "isLetter", "(I)Z"⟩, ⟨"WakeHouseModel", "isDigit", "(I)Z"⟩,
  ⟨"WakeHouseModel", "sign", "(III)I"⟩, ⟨"WakeHouseModel", "is", "(I)Z"⟩,
  ⟨"WakeHouseModel", "tell", "()V"⟩, ⟨"WakeHouseModel", "fail", "(I)V"⟩,
  ⟨"WakeHouseModel", "tellBed", "()V"⟩, ⟨"WakeHouseModel", "goesOn", "()V"⟩,
  ⟨"WakeHouseModel", "named", "()I"⟩, ⟨"WakeHouseModel", "must", "(I)V"⟩,
  ⟨"WakeHouseModel", "wrong", "(II)V"⟩, ⟨"WakeHouseModel", "told", "(II)I"⟩,
  ⟨"WakeHouseModel", "knows", "(III)V"⟩, ⟨"WakeHouseModel", "tellClock", "()V"⟩,
  ⟨"WakeHouseModel", "tellSleeper", "()V"⟩, ⟨"WakeHouseModel", "freeBed", "()I"⟩,
  ⟨"WakeHouseModel", "expression", "()V"⟩, ⟨"WakeHouseModel", "waitFor", "(I)V"⟩,
  ⟨"WakeHouseModel", "unit", "()V"⟩, ⟨"WakeHouseModel", "emit", "(II)V"⟩,
  ⟨"WakeHouseModel", "goes", "()Z"⟩, ⟨"WakeHouseModel", "comesOut", "(Z)V"⟩,
  ⟨"WakeHouseModel", "isStrong", "()Z"⟩, ⟨"WakeHouseModel", "waitsOn", "(I)Z"⟩,
  ⟨"WakeHouseModel", "begins", "()V"⟩, ⟨"WakeHouseModel", "place", "()I"⟩,
  ⟨"WakeHouseModel", "of", "(II)I"⟩, ⟨"WakeHouseModel", "isSleeper", "(I)Z"⟩,
  ⟨"WakeHouseModel", "in", "(III)Z"⟩, ⟨"WakeHouseModel", "lies", "(I)I"⟩,
  ⟨"WakeHouseModel", "isBed", "(I)Z"⟩, ⟨"WakeHouseModel", "whoLies", "(I)I"⟩,
  ⟨"WakeHouseModel", "hears", "(IIII)I"⟩, ⟨"WakeHouseModel", "isLoud", "(I)Z"⟩,
  ⟨"WakeHouseModel", "isMinute", "(I)Z"⟩, ⟨"WakeHouseModel", "hearing", "(IIII)I"⟩,
  ⟨"WakeHouseModel", "gapOf", "(II)I"⟩, ⟨"WakeHouseModel", "bare", "(I)I"⟩,
  ⟨"WakeHouseModel", "floorsOf", "(II)I"⟩, ⟨"WakeHouseModel", "valueOf", "(I)I"⟩,
  ⟨"WakeHouseModel", "held", "(II)I"⟩, ⟨"WakeHouseModel", "again", "(II)I"⟩,
  ⟨"WakeHouseModel", "asleepAgain", "(II)I"⟩, ⟨"WakeHouseModel", "ring", "(III)I"⟩,
  ⟨"WakeHouseModel", "isClock", "(I)Z"⟩, ⟨"WakeHouseModel", "rings", "(III)I"⟩,
  ⟨"WakeHouseModel", "soundsAt", "(II)I"⟩, ⟨"WakeHouseModel", "soundComes", "(IIII)I"⟩,
  ⟨"WakeHouseModel", "string", "(II)I"⟩, ⟨"WakeHouseModel", "pole", "(II)I"⟩,
  ⟨"WakeHouseModel", "drop", "(I)I"⟩, ⟨"WakeHouseModel", "goesOut", "(I)V"⟩,
  ⟨"WakeHouseModel", "sound", "(II)I"⟩, ⟨"WakeHouseModel", "wool", "(IZ)Z"⟩,
  ⟨"WakeHouseModel", "swap", "(II)Z"⟩, ⟨"WakeHouseModel", "changes", "(II)V"⟩,
  ⟨"WakeHouseModel", "ways", "()J"⟩, ⟨"WakeHouseModel", "power", "(JI)J"⟩,
  ⟨"WakeHouseModel", "up", "(I)J"⟩, ⟨"WakeHouseModel", "hour", "(I)I"⟩,
  ⟨"WakeHouseModel", "sorts", "()V"⟩, ⟨"WakeHouseModel", "upOf", "(I)J"⟩,
  ⟨"WakeHouseModel", "until", "(I)I"⟩, ⟨"WakeHouseModel", "heard", "(II)I"⟩,
  ⟨"WakeHouseModel", "woken", "(I)J"⟩, ⟨"WakeHouseModel", "wokenOf", "(I)J"⟩,
  ⟨"WakeHouseModel", "cost", "()J"⟩, ⟨"WakeHouseModel", "costNow", "()J"⟩,
  ⟨"WakeHouseModel", "worst", "()I"⟩, ⟨"WakeHouseModel", "keeps", "()V"⟩,
  ⟨"WakeHouseModel", "putsBack", "(I)V"⟩, ⟨"WakeHouseModel", "hours", "(I)I"⟩,
  ⟨"WakeHouseModel", "hoursNow", "()V"⟩, ⟨"WakeHouseModel", "best", "(III)J"⟩,
  ⟨"WakeHouseModel", "bests", "(III)I"⟩, ⟨"WakeHouseModel", "leadOf", "(II)I"⟩,
  ⟨"WakeHouseModel", "bestAt", "(IIII)I"⟩, ⟨"WakeHouseModel", "fewest", "(I)I"⟩,
  ⟨"WakeHouseModel", "withHours", "()I"⟩, ⟨"WakeHouseModel", "wakes", "(III)I"⟩,
  ⟨"WakeHouseModel", "deaf", "(I)I"⟩, ⟨"WakeHouseModel", "walk", "(II)I"⟩,
  ⟨"WakeHouseModel", "walkOf", "(II)I"⟩, ⟨"WakeHouseModel", "shakes", "(II)I"⟩,
  ⟨"WakeHouseModel", "shakesOn", "(II)V"⟩, ⟨"WakeHouseModel", "oneMore", "(II)Z"⟩,
  ⟨"WakeHouseModel", "isFirst", "(I)Z"⟩, ⟨"WakeHouseModel", "canShake", "(II)Z"⟩,
  ⟨"WakeHouseModel", "shaker", "(II)I"⟩, ⟨"WakeHouseModel", "shakesAll", "(I)V"⟩,
  ⟨"WakeHouseModel", "twice", "(IIII)J"⟩, ⟨"WakeHouseModel", "twiceBest", "(IIII)J"⟩,
  ⟨"WakeHouseModel", "upBy", "(III)J"⟩, ⟨"WakeHouseModel", "twiceAt", "(IIIII)I"⟩,
  ⟨"WakeHouseModel", "swaps", "(I)I"⟩, ⟨"WakeHouseModel", "swapsNow", "(I)I"⟩,
  ⟨"WakeHouseModel", "isCheap", "(I)Z"⟩, ⟨"WakeHouseModel", "secondSwap", "(I)Z"⟩,
  ⟨"WakeHouseModel", "swapAt", "(II)I"⟩, ⟨"WakeHouseModel", "worth", "(I)J"⟩,
  ⟨"WakeHouseModel", "worthOf", "(I)J"⟩, ⟨"WakeHouseModel", "whose", "(I)I"⟩,
  ⟨"WakeHouseModel", "round", "(I)I"⟩, ⟨"WakeHouseModel", "roundBy", "(I)I"⟩,
  ⟨"WakeHouseModel", "roundDone", "(I)I"⟩, ⟨"WakeHouseModel", "nextOrder", "()Z"⟩,
  ⟨"WakeHouseModel", "roundAt", "(II)I"⟩, ⟨"WakeHouseModel", "morning", "(III)I"⟩,
  ⟨"WakeHouseModel", "annul", "(I)I"⟩, ⟨"WakeHouseModel", "alone", "(IIII)I"⟩,
  ⟨"WakeHouseModel", "isKnown", "(I)Z"⟩, ⟨"WakeHouseModel", "counts", "(II)Z"⟩,
  ⟨"WakeHouseModel", "isInTime", "(I)Z"⟩, ⟨"WakeHouseModel", "mondays", "(II)I"⟩,
  ⟨"WakeHouseModel", "mondaysOf", "(II)I"⟩, ⟨"WakeHouseModel", "mondayWays", "(IZ)J"⟩,
  ⟨"WakeHouseModel", "picks", "(II)J"⟩, ⟨"WakeHouseModel", "fire", "(IIZ)I"⟩,
  ⟨"WakeHouseModel", "cries", "(IIZ)I"⟩, ⟨"WakeHouseModel", "reaches", "(IIZ)I"⟩,
  ⟨"WakeHouseModel", "day", "(II)I"⟩, ⟨"WakeHouseModel", "upOn", "(II)I"⟩,
  ⟨"WakeHouseModel", "isUpOn", "(III)Z"⟩, ⟨"WakeHouseModel", "lot", "(III)I"⟩,
  ⟨"WakeHouseModel", "mixed", "(II)I"⟩, ⟨"WakeHouseModel", "days", "(III)I"⟩,
  ⟨"WakeHouseModel", "hold", "(I)Z"⟩, ⟨"WakeHouseModel", "copies", "(III)V"⟩,
  ⟨"WakeHouseModel", "restore", "(I)Z"⟩, ⟨"WakeHouseModel", "count", "(I)I"⟩,
  ⟨"WakeHouseLaw", "law", "([I)Z"⟩]
def mY (n : Nat) : MethodName := am_nth ⟨"", "", ""⟩ mYL n
def mLoL : List Nat := [2, 5, 1, 1, 2, 1, 2, 2, 3, 3, 1, 1, 2, 1, 3, 4, 4, 3, 3, 4, 6, 2, 3, 2, 3, 3, 3, 2, 1, 5,
  1, 6, 1, 4, 5, 2, 3, 4, 1, 6, 1, 1, 2, 1, 1, 2, 2, 1, 4, 4, 2, 3, 2, 3, 2, 2, 2, 6, 2, 2,
  3, 5, 4, 3, 4, 2, 2, 2, 5, 2, 3, 4, 1, 4, 1, 3, 2, 2, 2, 2, 5, 1, 1, 7, 3, 7, 3, 3, 4, 4,
  2, 3, 5, 5, 3, 3, 2, 2, 3, 3, 2, 4, 3, 5, 1, 2, 3, 4, 2, 5, 6, 8, 2, 4, 1, 5, 2, 7, 2, 5,
  5, 8, 4, 7, 2, 2, 14, 9, 4, 10, 6, 2, 2, 4, 4, 5, 8, 3, 3, 7, 2, 3, 3, 3, 4, 8, 5, 3, 5, 4,
  7, 2, 6, 3, 5, 5, 13, 5, 6, 2, 1, 6, 3, 3, 6, 5, 7, 4, 4, 2, 4, 2, 6, 2, 1, 5, 8, 4, 2, 8,
  8, 3, 4, 4, 2, 5, 2, 9, 4, 4, 3, 6, 3, 4, 6, 7, 8, 4, 7, 5, 8, 3, 3, 6, 7, 2, 2, 1, 2, 2,
  2, 1, 1, 7, 3, 6, 3, 2, 2, 8, 2, 6, 1, 1, 6, 2, 2, 2, 3, 1, 3, 2, 4, 4, 4, 5, 3, 4, 2, 2,
  2, 3, 1, 3, 1, 2, 2, 1, 4, 2, 3, 2, 2, 3, 5, 1, 1, 6, 3, 1, 3, 7, 2, 3, 4, 4, 2, 4, 3, 5,
  3, 3, 2, 3, 3, 3, 3, 5, 1, 6, 2, 2, 3, 12, 3, 3, 2, 5, 1, 5, 8, 2, 3, 2, 4, 5, 10, 3, 6, 7,
  3, 7, 5, 3, 3, 3, 6, 10, 4, 3, 3, 9, 5, 14, 12, 6, 2, 7, 2, 6, 4, 2, 7, 10, 2, 6, 7, 5, 3, 4,
  2, 7, 2, 4, 3, 3, 7, 9, 5, 4, 9, 4, 3, 5, 8, 3, 3, 7, 3, 5, 3, 4, 4]
def mLo (n : Nat) : Nat := am_nth 0 mLoL n
def mRL : List (Option FieldType) := [none, none, some .int, some .byte, some .char, some .boolean, some .char, none, some .int, some .long,
  none, none, none, none, none, none, none, none, none, none,
  some .int, some .boolean, none, some .int, some .int, some .int, none, some .boolean, some .boolean, none,
  some .boolean, some .boolean, some .boolean, some .boolean, some .boolean, some .int, some .int, some .int, some .boolean, some .int,
  none, none, none, some .int, some .boolean, some .boolean, some .boolean, some .boolean, some .boolean, some .int,
  none, some .boolean, some .boolean, some .boolean, some .boolean, some .boolean, some .boolean, some .boolean, some .boolean, none,
  some .boolean, some .boolean, none, some .boolean, some .boolean, none, none, none, none, none,
  none, none, none, none, some .int, some .int, some .boolean, some .int, some .int, some .boolean,
  some .int, some .boolean, some .boolean, some .int, some .int, some .int, some .int, some .int, some .int, some .int,
  some .boolean, some .int, some .int, some .int, some .int, some .int, some .int, some .boolean, none, some .int,
  some .int, some .boolean, some .boolean, none, some .long, some .long, none, some .int, none, none,
  some .int, some .long, some .long, some .long, some .long, some .long, some .long, some .int, some .int, some .long,
  some .int, none, none, none, some .int, some .int, none, none, none, none,
  some .int, some .int, some .int, some .int, some .int, none, some .int, none, some .int, none,
  some .int, some .int, some .int, some .int, none, none, some .boolean, some .int, none, none,
  some .int, some .boolean, none, some .int, some .long, some .boolean, some .long, some .boolean, some .int, some .int,
  some .boolean, some .int, none, some .long, some .boolean, some .long, some .boolean, none, some .int, some .long,
  some .long, some .int, some .int, some .int, some .boolean, some .int, none, some .int, some .int, none,
  none, some .int, some .int, some .int, some .int, some .int, some .boolean, some .int, some .boolean, some .boolean,
  some .int, none, some .long, some .long, some .long, some .int, some .int, some .int, some .int, some .int,
  some .boolean, some .int, some .int, some .int, some .int, some .int, some .boolean, some .boolean, none, some .boolean,
  some .int, some .int, none, some .long, some .long, some .int, none, some .int, some .int, none,
  some .int, none, some .boolean, some .boolean, some .int, some .boolean, none, none, none, none,
  some .int, none, none, some .int, none, none, none, some .int, none, none,
  none, none, some .boolean, none, some .boolean, some .boolean, none, some .int, some .int, some .boolean,
  some .boolean, some .int, some .boolean, some .int, some .int, some .boolean, some .boolean, some .int, some .int, some .int,
  some .int, some .int, some .int, some .int, some .int, some .int, some .boolean, some .int, some .int, some .int,
  some .int, some .int, some .int, none, some .int, some .boolean, some .boolean, none, some .long, some .long,
  some .long, some .int, none, some .long, some .int, some .int, some .long, some .long, some .long, some .long,
  some .int, none, none, some .int, none, some .long, some .int, some .int, some .int, some .int,
  some .int, some .int, some .int, some .int, some .int, some .int, none, some .boolean, some .boolean, some .boolean,
  some .int, none, some .long, some .long, some .long, some .int, some .int, some .int, some .boolean, some .boolean,
  some .int, some .long, some .long, some .int, some .int, some .int, some .int, some .boolean, some .int, some .int,
  some .int, some .int, some .boolean, some .boolean, some .boolean, some .int, some .int, some .long, some .long, some .int,
  some .int, some .int, some .int, some .int, some .boolean, some .int, some .int, some .int, some .boolean, none,
  some .boolean, some .int, some .boolean]
def mR (n : Nat) : Option FieldType := am_nth none mRL n
def mFr (n : Nat) : Nat := am_nth 0 [5, 4, 1, 0, 3, 0, 2, 1, 0, 0, 2, 1, 3, 1, 1, 1, 1, 1, 1, 1, 1, 0, 0, 0, 8, 7, 6, 5, 0, 0,
  0, 1, 0, 1, 4, 3, 2, 1, 0, 0, 2, 1, 0, 0, 5, 3, 0, 1, 2, 0, 0, 2, 2, 3, 4, 2, 3, 3, 1, 0,
  1, 2, 1, 0, 2, 2, 1, 1, 0, 0, 1, 0, 1, 0, 0, 1, 0, 0, 1, 0, 3, 0, 0, 2, 1, 0, 1, 3, 2, 3,
  0, 2, 1, 0, 2, 2, 1, 0, 0, 1, 0, 1, 1, 0, 0, 6, 1, 0, 5, 4, 3, 3, 6, 0, 7, 6, 4, 7, 0, 7,
  1, 6, 4, 3, 1, 0, 5, 2, 0, 1, 7, 2, 7, 6, 5, 4, 3, 0, 0, 1, 6, 3, 2, 7, 6, 5, 4, 3, 0, 2,
  1, 0, 4, 7, 5, 1, 4, 0, 5, 7, 0, 6, 5, 0, 2, 1, 3, 0, 7, 6, 5, 7, 6, 4, 0, 3, 2, 1, 0, 1,
  2, 4, 1, 0, 1, 2, 0, 1, 0, 0, 2, 1, 3, 2, 1, 5, 4, 3, 5, 6, 3, 1, 0, 7, 6, 0, 2, 0, 1, 2,
  1, 0, 2, 1, 0, 1, 0, 0, 6, 2, 0, 0, 0, 0, 1, 0, 5, 0, 4, 1, 3, 2, 0, 2, 0, 4, 4, 3, 4, 2,
  2, 0, 3, 2, 1, 0, 0, 0, 2, 1, 0, 2, 1, 0, 3, 1, 1, 2, 1, 0, 1, 0, 0, 2, 1, 3, 1, 2, 1, 0,
  2, 2, 1, 0, 1, 2, 2, 1, 1, 0, 5, 0, 0, 4, 0, 3, 5, 4, 6, 5, 6, 0, 0, 2, 1, 7, 6, 0, 7, 4,
  1, 3, 4, 3, 2, 6, 5, 4, 1, 3, 7, 6, 5, 4, 3, 5, 9, 8, 6, 7, 9, 7, 6, 7, 3, 2, 1, 0, 3, 2,
  1, 2, 1, 0, 1, 3, 2, 3, 0, 4, 3, 4, 6, 5, 4, 1, 0, 6, 1, 0, 1, 0, 10] n
def mWd (n : Nat) : Nat := am_nth 0 [109, 85, 20, 0, 64, 0, 43, 22, 0, 0, 50, 30, 70, 30, 30, 30, 30, 30, 30, 30, 22, 0, 0, 0, 185, 163, 141, 120, 0, 0,
  0, 24, 0, 24, 96, 75, 53, 30, 0, 0, 41, 21, 0, 0, 105, 64, 0, 21, 41, 0, 0, 41, 41, 64, 84, 41, 63, 68, 21, 0,
  21, 44, 21, 0, 44, 101, 80, 24, 0, 0, 23, 0, 23, 0, 0, 21, 0, 0, 21, 0, 78, 0, 0, 52, 30, 0, 30, 75, 52, 74,
  0, 52, 24, 0, 48, 48, 22, 0, 0, 21, 0, 21, 24, 0, 0, 148, 23, 0, 127, 103, 78, 75, 148, 0, 172, 148, 102, 172, 0, 183,
  21, 156, 104, 78, 30, 0, 123, 52, 0, 23, 183, 51, 175, 152, 129, 105, 78, 0, 0, 30, 152, 74, 52, 170, 147, 120, 96, 74, 0, 47,
  21, 0, 96, 170, 134, 21, 102, 0, 134, 174, 0, 149, 127, 0, 46, 22, 71, 0, 174, 150, 127, 175, 150, 104, 0, 80, 53, 30, 0, 30,
  53, 104, 23, 0, 23, 51, 0, 23, 0, 0, 48, 23, 78, 55, 30, 128, 101, 78, 128, 148, 75, 22, 0, 174, 148, 0, 101, 0, 80, 101,
  20, 0, 48, 22, 0, 22, 0, 0, 129, 50, 0, 0, 0, 0, 25, 0, 108, 0, 84, 21, 62, 41, 0, 41, 0, 84, 85, 62, 83, 41,
  41, 0, 63, 41, 21, 0, 0, 0, 43, 22, 0, 43, 22, 0, 67, 22, 22, 42, 20, 0, 20, 0, 0, 49, 26, 66, 22, 43, 21, 0,
  43, 43, 22, 0, 22, 43, 46, 22, 25, 0, 120, 0, 0, 89, 0, 67, 113, 89, 144, 120, 144, 0, 0, 44, 21, 173, 144, 0, 173, 93,
  21, 67, 93, 64, 42, 140, 115, 86, 21, 64, 168, 140, 131, 98, 67, 131, 216, 190, 144, 165, 216, 170, 144, 170, 72, 47, 21, 0, 72, 43,
  22, 43, 22, 0, 21, 69, 43, 69, 0, 95, 67, 95, 140, 116, 89, 22, 0, 140, 24, 0, 24, 0, 239] n
def mNaL : List Nat := [1, 1, 1, 1, 2, 1, 2, 2, 3, 2, 1, 1, 2, 1, 3, 4, 4, 3, 3, 4, 6, 2, 2, 2, 1, 1, 1, 1, 1, 4,
  1, 1, 1, 1, 2, 2, 3, 4, 1, 4, 1, 1, 2, 1, 1, 1, 2, 1, 2, 2, 2, 3, 2, 1, 1, 1, 2, 2, 2, 2,
  3, 3, 3, 2, 3, 2, 2, 1, 2, 1, 2, 2, 1, 2, 1, 3, 2, 2, 2, 2, 5, 1, 1, 7, 3, 2, 3, 3, 3, 4,
  2, 3, 5, 5, 3, 3, 2, 2, 2, 3, 2, 3, 3, 3, 1, 2, 2, 3, 2, 4, 5, 2, 2, 1, 1, 2, 2, 1, 2, 4,
  4, 5, 1, 3, 2, 2, 3, 3, 3, 4, 5, 2, 2, 2, 2, 2, 4, 2, 1, 3, 2, 3, 3, 3, 2, 2, 3, 3, 2, 2,
  2, 2, 2, 3, 5, 5, 5, 3, 6, 2, 1, 2, 1, 3, 3, 3, 2, 3, 3, 2, 2, 2, 2, 2, 1, 2, 1, 3, 2, 2,
  1, 3, 4, 4, 2, 5, 2, 6, 3, 3, 3, 3, 3, 1, 2, 4, 4, 4, 4, 3, 4, 2, 2, 4, 3, 1, 2, 1, 2, 2,
  2, 1, 1, 7, 2, 6, 2, 2, 1, 1, 2, 5, 1, 1, 4, 2, 1, 2, 1, 1, 1, 2, 3, 3, 4, 1, 1, 1, 1, 2,
  1, 3, 1, 2, 1, 2, 1, 1, 3, 2, 3, 2, 2, 2, 5, 1, 1, 5, 3, 1, 3, 2, 2, 3, 3, 4, 2, 4, 3, 5,
  3, 3, 2, 2, 3, 3, 3, 3, 1, 2, 2, 2, 1, 2, 2, 3, 2, 2, 1, 1, 1, 1, 2, 2, 1, 4, 4, 3, 5, 2,
  1, 4, 2, 3, 3, 3, 3, 3, 2, 3, 3, 2, 5, 5, 4, 6, 2, 2, 2, 2, 3, 2, 2, 2, 2, 2, 2, 1, 3, 4,
  2, 5, 2, 3, 2, 3, 3, 3, 2, 4, 4, 4, 3, 3, 4, 3, 2, 4, 2, 4, 2, 2, 1]
def mNf : List Nat := [17, 6, 6, 19, 3, 12, 15, 8, 13, 14, 8, 12, 90]
def mRk : List Nat := [21, 20, 30, 30, 30, 30, 0, 0, 0, 0, 13, 14, 16, 19, 15, 10, 12, 18, 17, 11, 21, 20, 20, 21, 21, 16, 20, 20, 0, 20,
  0, 20, 0, 20, 20, 30, 30, 0, 0, 0, 13, 13, 14, 16, 16, 16, 16, 16, 16, 16, 16, 16, 16, 16, 16, 16, 16, 16, 16, 16,
  16, 16, 16, 16, 16, 13, 14, 13, 13, 13, 19, 0, 15, 0, 21, 21, 21, 19, 21, 21, 21, 0, 0, 13, 13, 14, 0, 21, 15, 21,
  21, 13, 21, 19, 21, 21, 21, 21, 19, 21, 19, 21, 21, 19, 21, 21, 15, 15, 15, 15, 15, 15, 21, 15, 21, 15, 15, 21, 21, 21,
  21, 10, 10, 10, 10, 0, 10, 10, 10, 10, 21, 10, 21, 12, 12, 12, 12, 12, 12, 12, 21, 21, 13, 21, 18, 18, 18, 18, 0, 18,
  18, 18, 18, 21, 21, 21, 15, 15, 21, 21, 0, 11, 11, 11, 11, 11, 11, 11, 21, 21, 15, 21, 15, 21, 0, 17, 17, 17, 17, 17,
  17, 21, 21, 19, 21, 21, 21, 19, 19, 19, 21, 19, 21, 19, 0, 21, 21, 21, 21, 21, 15, 0, 0, 21, 15, 0, 21, 0, 19, 21,
  21, 0, 22, 0, 0, 22, 22, 22, 22, 22, 22, 22, 0, 0, 22, 22, 22, 22, 22, 22, 22, 22, 22, 22, 22, 22, 22, 22, 22, 22,
  22, 22, 22, 22, 22, 22, 22, 22, 22, 22, 0, 22, 22, 22, 22, 0, 0, 22, 22, 0, 22, 22, 0, 22, 22, 22, 22, 22, 22, 22,
  22, 22, 22, 22, 22, 22, 22, 22, 22, 0, 22, 22, 22, 22, 22, 22, 22, 22, 22, 22, 22, 22, 22, 22, 22, 22, 22, 22, 22, 22,
  22, 22, 22, 22, 22, 22, 22, 22, 22, 22, 22, 22, 22, 22, 22, 22, 22, 22, 22, 22, 22, 22, 22, 22, 22, 22, 22, 22, 22, 22,
  22, 22, 22, 22, 22, 22, 22, 22, 0, 22, 22, 22, 22, 22, 22, 0, 0, 22, 22, 22, 22, 22, 0]
/-- arguments of a method; from 1000 on: fields of a class; from 2000 on: the kind of a method's own object -/
def mNa (n : Nat) : Nat := bif Nat.ble 2000 n then am_nth 0 mRk (n - 2000) else bif Nat.ble 1000 n then am_nth 0 mNf (n - 1000) else am_nth 0 mNaL n
def mCs (n : Nat) : Nat := am_nth 0 [11, 10, 14, 14, 14, 14, 15, 14, 16, 10, 3, 4, 6, 9, 5, 0, 2, 8, 7, 1, 11, 10, 10, 11, 11, 6, 10, 10, 10, 10,
  10, 10, 10, 10, 10, 14, 14, 15, 15, 15, 3, 3, 4, 6, 6, 6, 6, 6, 6, 6, 6, 6, 6, 6, 6, 6, 6, 6, 6, 6,
  6, 6, 6, 6, 6, 3, 4, 3, 3, 3, 9, 18, 5, 18, 11, 11, 11, 9, 11, 11, 11, 11, 11, 3, 3, 4, 11, 11, 5, 11,
  11, 3, 11, 9, 11, 11, 11, 11, 9, 11, 9, 11, 11, 9, 11, 11, 5, 5, 5, 5, 5, 5, 11, 5, 11, 5, 5, 11, 11, 11,
  11, 0, 0, 0, 0, 0, 0, 0, 0, 0, 11, 0, 11, 2, 2, 2, 2, 2, 2, 2, 11, 11, 3, 11, 8, 8, 8, 8, 18, 8,
  8, 8, 8, 11, 11, 11, 5, 5, 11, 11, 11, 1, 1, 1, 1, 1, 1, 1, 11, 11, 5, 11, 5, 11, 11, 7, 7, 7, 7, 7,
  7, 11, 11, 9, 11, 11, 11, 9, 9, 9, 11, 9, 11, 9, 11, 11, 11, 11, 11, 11, 5, 5, 5, 11, 5, 19, 11, 11, 9, 11,
  11, 20, 12, 12, 12, 12, 12, 12, 12, 12, 12, 12, 12, 12, 12, 12, 12, 12, 12, 12, 12, 12, 12, 12, 12, 12, 12, 12, 12, 12,
  12, 12, 12, 12, 12, 12, 12, 12, 12, 12, 12, 12, 12, 12, 12, 12, 12, 12, 12, 12, 12, 12, 12, 12, 12, 12, 12, 12, 12, 12,
  12, 12, 12, 12, 12, 12, 12, 12, 12, 12, 12, 12, 12, 12, 12, 12, 12, 12, 12, 12, 12, 12, 12, 12, 12, 12, 12, 12, 12, 12,
  12, 12, 12, 12, 12, 12, 12, 12, 12, 12, 12, 12, 12, 12, 12, 12, 12, 12, 12, 12, 12, 12, 12, 12, 12, 12, 12, 12, 12, 12,
  12, 12, 12, 12, 12, 12, 12, 12, 12, 12, 12, 12, 12, 12, 12, 12, 12, 12, 12, 12, 12, 12, 13] n
def mN : Nat := 353
def mCL : List Cond := am_sel [180, 7, 5, 3, 5, 3, 2, 2, 4, 21, 38, 5, 129, 55, 73, 46, 58, 24, 48, 31, 61, 3, 3, 3, 3, 3, 3, 3, 2, 3,
  2, 3, 2, 3, 3, 4, 3, 3, 2, 8, 38, 3, 3, 3, 3, 3, 3, 3, 3, 3, 3, 3, 3, 3, 3, 3, 3, 3, 3, 3,
  3, 4, 3, 3, 3, 3, 6, 4, 3, 3, 3, 2, 3, 2, 3, 3, 3, 3, 3, 3, 3, 2, 2, 3, 3, 6, 2, 5, 3, 5,
  3, 3, 3, 3, 3, 3, 3, 3, 3, 3, 3, 3, 3, 3, 3, 5, 5, 3, 3, 4, 3, 4, 6, 3, 3, 3, 5, 5, 3, 3,
  3, 3, 3, 3, 3, 4, 6, 6, 3, 3, 3, 3, 3, 3, 3, 3, 4, 6, 3, 4, 4, 4, 3, 3, 3, 3, 6, 3, 6, 4,
  4, 3, 3, 3, 3, 3, 3, 5, 3, 3, 2, 3, 3, 7, 5, 3, 3, 3, 3, 3, 4, 3, 3, 4, 2, 3, 3, 5, 3, 6,
  3, 3, 3, 3, 3, 3, 3, 3, 3, 3, 3, 3, 3, 3, 2, 4, 3, 3, 3, 3, 3, 2, 2, 4, 3, 3, 6, 2, 3, 4,
  3, 2, 7, 3, 2, 275, 3, 3, 3, 3, 3, 3, 2, 2, 3, 3, 3, 3, 3, 3, 3, 3, 3, 3, 3, 3, 3, 3, 3, 3,
  3, 3, 3, 3, 3, 3, 3, 3, 3, 3, 2, 3, 3, 3, 3, 2, 2, 3, 3, 2, 3, 3, 2, 3, 3, 3, 3, 3, 3, 3,
  3, 3, 3, 3, 3, 3, 3, 3, 3, 3, 3, 4, 4, 3, 3, 3, 4, 3, 3, 3, 3, 3, 3, 3, 3, 3, 3, 3, 3, 3,
  3, 3, 3, 3, 3, 3, 3, 3, 3, 4, 3, 3, 3, 3, 3, 3, 3, 3, 3, 3, 3, 3, 3, 4, 3, 3, 3, 3, 3, 3,
  3, 3, 3, 3, 3, 3, 3, 3, 2, 3, 3, 3, 3, 3, 3, 2, 2, 4, 3, 3, 3, 3] lw_tbl
def mBof : Cond → ByteArray
  | .code _ b _ _ => b
  | _ => ⟨#[]⟩
def mIsC (c : Cond) (y : MethodName) (n : Nat) (r : Option FieldType) : Bool := match c with
  | .code y2 _ n2 r2 => decide (y2 = y) && (decide (n2 = n) && decide (r2 = r))
  | _ => false
theorem mIsC_ok {c : Cond} {y : MethodName} {n : Nat} {r : Option FieldType} (h : mIsC c y n r = true) : c = .code y (mBof c) n r := by
  cases c <;> simp [mIsC] at h
  obtain ⟨rfl, rfl, rfl⟩ := h
  rfl
/-- a method's bytes; the law's are its own -/
def mB (n : Nat) : ByteArray := bif Nat.beq n 352 then code else mBof (am_nth (.initialized "") mCL n)
def mZ : List Cond → List MethodName → List Nat → List (Option FieldType) → Bool
  | [], _, _, _ => true
  | c :: cs, y :: ys, n :: ns, r :: rs => mIsC c y n r && mZ cs ys ns rs
  | _, _, _, _ => false
theorem mZ_at : ∀ (cs : List Cond) (ys : List MethodName) (ns : List Nat) (rs : List (Option FieldType)), mZ cs ys ns rs = true → ∀ k, k < cs.length → mIsC (am_nth (.initialized "") cs k) (am_nth ⟨"", "", ""⟩ ys k) (am_nth 0 ns k) (am_nth none rs k) = true
  | [], _, _, _, _, k, hk => absurd hk (Nat.not_lt_zero k)
  | c :: cs, y :: ys, n :: ns, r :: rs, h, 0, _ => (Bool.and_eq_true_iff.mp h).1
  | c :: cs, y :: ys, n :: ns, r :: rs, h, k + 1, hk => mZ_at cs ys ns rs (Bool.and_eq_true_iff.mp h).2 k (Nat.lt_of_succ_lt_succ hk)
theorem mZ_ok : mZ mCL mYL mLoL mRL = true := by decide +kernel
theorem mCL_len : mCL.length = 352 := by decide +kernel
theorem mC_ok {n : Nat} (h : n < 352) : Cond.code (mY n) (mB n) (mLo n) (mR n) ∈ lw_tbl := by
  have h1 := mIsC_ok (mZ_at _ _ _ _ mZ_ok n (by rw [mCL_len]; exact h))
  have h2 : am_nth (.initialized "") mCL n ∈ mCL := List.mem_of_getElem? (am_nth_get _ _ _ (by rw [mCL_len]; exact h))
  have h3 : mB n = mBof (am_nth (.initialized "") mCL n) := by
    unfold mB
    rw [nb_ne (Nat.ne_of_lt h)]
    rfl
  rw [h3]
  have h4 := am_sel_in _ _ _ h2
  rw [h1] at h4
  exact h4
end
section
/-! rows of calls -/
/-- how many cells, with how many places, a method makes -/
def mCe (n : Nat) : Nat := am_nth 0 [120, 5, 0, 0, 0, 0, 0, 0, 0, 0, 18, 2, 22, 10, 9, 7, 2, 7, 4, 3, 0, 0, 0, 0, 0, 0, 0, 0, 0, 0, 0, 0, 0, 0, 0, 0, 0, 0, 0, 0,
  0, 0, 0, 0, 0, 0, 0, 0, 0, 0, 0, 0, 0, 0, 0, 0, 0, 0, 0, 0, 0, 0, 0, 0, 0, 0, 0, 0, 0, 0, 0, 0, 0, 0, 0, 0, 0, 0, 0, 0,
  0, 0, 0, 0, 0, 0, 0, 0, 0, 0, 0, 0, 0, 0, 0, 0, 0, 0, 0, 0, 0, 0, 0, 0, 0, 0, 0, 0, 0, 0, 0, 0, 0, 0, 0, 0, 0, 0, 0, 0,
  0, 0, 0, 0, 0, 0, 0, 0, 0, 0, 0, 0, 0, 0, 0, 0, 0, 0, 0, 0, 0, 0, 0, 0, 0, 0, 0, 0, 0, 0, 0, 0, 0, 0, 0, 0, 0, 0, 0, 0,
  0, 0, 0, 0, 0, 0, 0, 0, 0, 0, 0, 0, 0, 0, 0, 0, 0, 0, 0, 0, 0, 0, 0, 0, 0, 0, 0, 0, 0, 0, 0, 0, 0, 0, 0, 0, 0, 0, 0, 0,
  0, 0, 0, 0, 0, 0, 0, 0, 0, 0, 0, 0, 66, 0, 0, 0, 0, 0, 0, 0, 0, 0, 0, 0, 0, 0, 0, 0, 0, 0, 0, 0, 0, 0, 0, 0, 0, 0, 0, 0,
  0, 0, 0, 0, 0, 0, 0, 0, 0, 0, 0, 0, 0, 0, 0, 0, 0, 0, 0, 0, 0, 0, 0, 0, 0, 0, 0, 0, 0, 0, 0, 0, 0, 0, 0, 0, 0, 0, 0, 0,
  0, 0, 0, 0, 0, 0, 0, 0, 0, 0, 0, 0, 0, 0, 0, 0, 0, 0, 0, 0, 0, 0, 0, 0, 0, 0, 0, 0, 0, 0, 0, 0, 0, 0, 0, 0, 0, 0, 0, 0,
  0, 0, 0, 0, 0, 0, 0, 0, 0, 0, 0, 0, 0, 0, 0, 0, 0, 0, 0, 0, 0, 0, 0, 0, 0, 0, 0, 0, 0, 0, 0, 0, 0] n
def mSl (n : Nat) : Nat := am_nth 0 [24550, 3224, 0, 0, 0, 0, 0, 0, 0, 0, 1735, 800, 2220, 240, 4080, 3600, 4240, 313, 4112, 158, 0, 0, 0, 0, 0, 0, 0, 0, 0, 0, 0, 0, 0, 0, 0, 0, 0, 0, 0, 0,
  0, 0, 0, 0, 0, 0, 0, 0, 0, 0, 0, 0, 0, 0, 0, 0, 0, 0, 0, 0, 0, 0, 0, 0, 0, 0, 0, 0, 0, 0, 0, 0, 0, 0, 0, 0, 0, 0, 0, 0,
  0, 0, 0, 0, 0, 0, 0, 0, 0, 0, 0, 0, 0, 0, 0, 0, 0, 0, 0, 0, 0, 0, 0, 0, 0, 0, 0, 0, 0, 0, 0, 0, 0, 0, 0, 0, 0, 0, 0, 0,
  0, 0, 0, 0, 0, 0, 0, 0, 0, 0, 0, 0, 0, 0, 0, 0, 0, 0, 0, 0, 0, 0, 0, 0, 0, 0, 0, 0, 0, 0, 0, 0, 0, 0, 0, 0, 0, 0, 0, 0,
  0, 0, 0, 0, 0, 0, 0, 0, 0, 0, 0, 0, 0, 0, 0, 0, 0, 0, 0, 0, 0, 0, 0, 0, 0, 0, 0, 0, 0, 0, 0, 0, 0, 0, 0, 0, 0, 0, 0, 0,
  0, 0, 0, 0, 0, 0, 0, 0, 0, 0, 0, 0, 13641, 0, 0, 0, 0, 0, 0, 0, 0, 0, 0, 0, 0, 0, 0, 0, 0, 0, 0, 0, 0, 0, 0, 0, 0, 0, 0, 0,
  0, 0, 0, 0, 0, 0, 0, 0, 0, 0, 0, 0, 0, 0, 0, 0, 0, 0, 0, 0, 0, 0, 0, 0, 0, 0, 0, 0, 0, 0, 0, 0, 0, 0, 0, 0, 0, 0, 0, 0,
  0, 0, 0, 0, 0, 0, 0, 0, 0, 0, 0, 0, 0, 0, 0, 0, 0, 0, 0, 0, 0, 0, 0, 0, 0, 0, 0, 0, 0, 0, 0, 0, 0, 0, 0, 0, 0, 0, 0, 0,
  0, 0, 0, 0, 0, 0, 0, 0, 0, 0, 0, 0, 0, 0, 0, 0, 0, 0, 0, 0, 0, 0, 0, 0, 0, 0, 0, 0, 0, 0, 0, 0, 0] n
theorem mcl : ∀ n, n < 352 → (mY n).cls = cN (mCs n) ∧ mCs n < 21 := by decide +kernel
theorem mmh : ∀ n, n < 352 → (mY n).cls ≠ "java/lang/invoke/MethodHandle" ∧ (mY n).cls ≠ "java/lang/invoke/VarHandle" := by decide +kernel
theorem mpl : ∀ n, n < 352 → Jvm.plainName (mY n).cls = true := by decide +kernel
/-- calls by their entries: virtual; static; constructors; static and constructors of a nest mate's private ones -/
def tMV : List (Nat × Nat × Nat) := [(10, 29, 2), (14, 335, 3), (10, 35, 4), (14, 492, 5), (13, 13, 20), (11, 93, 21), (11, 97, 22), (13, 18, 23),
  (13, 23, 24), (11, 104, 25), (6, 39, 26), (10, 52, 27), (10, 56, 29), (10, 69, 31), (10, 75, 33), (10, 78, 34),
  (10, 83, 35), (14, 633, 36), (14, 505, 2), (6, 42, 40), (3, 74, 41), (3, 80, 42), (6, 63, 43), (6, 67, 44),
  (6, 87, 45), (6, 80, 46), (6, 84, 47), (6, 110, 48), (6, 169, 49), (6, 165, 50), (6, 113, 51), (6, 126, 52),
  (6, 90, 53), (6, 93, 54), (6, 141, 55), (6, 159, 56), (6, 100, 57), (6, 182, 58), (6, 198, 59), (6, 185, 60),
  (6, 195, 42), (6, 189, 61), (6, 201, 62), (6, 205, 63), (6, 192, 64), (11, 111, 65), (3, 92, 66), (3, 96, 67),
  (3, 102, 68), (3, 99, 69), (11, 115, 70), (11, 118, 72), (13, 28, 74), (13, 32, 75), (11, 128, 76), (11, 147, 77),
  (13, 37, 78), (11, 151, 79), (13, 41, 80), (11, 163, 83), (3, 115, 84), (3, 119, 85), (13, 46, 87), (11, 167, 88),
  (5, 68, 85), (13, 50, 89), (11, 171, 90), (11, 174, 91), (11, 180, 92), (11, 377, 93), (13, 55, 94), (13, 59, 95),
  (13, 63, 96), (11, 184, 97), (11, 187, 98), (13, 67, 99), (11, 200, 100), (13, 71, 101), (13, 76, 102), (11, 206, 103),
  (13, 81, 104), (13, 86, 105), (11, 218, 106), (5, 86, 107), (11, 221, 108), (5, 93, 77), (5, 97, 109), (5, 101, 110),
  (5, 114, 83), (11, 224, 111), (5, 121, 88), (13, 91, 112), (11, 228, 113), (13, 95, 114), (11, 232, 115), (5, 143, 106),
  (5, 150, 108), (5, 153, 116), (5, 132, 113), (5, 139, 111), (13, 99, 117), (13, 103, 118), (13, 107, 119), (11, 241, 120),
  (11, 245, 121), (0, 62, 122), (0, 90, 123), (0, 77, 124), (0, 114, 91), (0, 105, 77), (0, 126, 83), (0, 108, 110),
  (0, 70, 126), (0, 130, 106), (0, 137, 107), (0, 150, 116), (0, 74, 127), (0, 154, 128), (0, 158, 129), (13, 112, 130),
  (11, 253, 131), (13, 116, 132), (11, 256, 133), (2, 42, 134), (2, 30, 135), (2, 79, 91), (2, 85, 136), (2, 92, 88),
  (2, 102, 77), (2, 105, 83), (2, 89, 137), (2, 34, 138), (2, 52, 139), (13, 120, 140), (11, 259, 134), (13, 124, 141),
  (11, 262, 142), (13, 128, 143), (11, 265, 144), (8, 51, 145), (8, 93, 146), (8, 76, 147), (8, 85, 142), (8, 64, 149),
  (8, 110, 150), (8, 114, 151), (8, 67, 152), (13, 132, 153), (13, 136, 154), (11, 277, 155), (11, 281, 156), (5, 167, 157),
  (13, 141, 158), (13, 145, 159), (11, 291, 161), (1, 34, 162), (1, 75, 106), (1, 84, 77), (1, 88, 109), (1, 92, 116),
  (1, 48, 163), (1, 67, 164), (1, 96, 165), (1, 71, 166), (1, 99, 167), (13, 149, 168), (13, 153, 169), (11, 298, 170),
  (13, 157, 171), (11, 301, 172), (5, 156, 170), (13, 161, 173), (11, 307, 175), (7, 53, 176), (7, 86, 177), (7, 73, 178),
  (7, 63, 179), (7, 67, 180), (13, 165, 181), (13, 169, 182), (11, 316, 183), (13, 173, 184), (13, 177, 185), (11, 325, 186),
  (11, 328, 187), (9, 75, 188), (9, 79, 189), (13, 181, 190), (11, 332, 191), (13, 185, 192), (11, 339, 193), (13, 190, 195),
  (11, 349, 196), (11, 380, 197), (13, 195, 198), (13, 199, 199), (11, 353, 200), (13, 203, 203), (11, 357, 204), (5, 174, 200),
  (13, 207, 206), (11, 363, 208), (13, 212, 209), (13, 216, 210), (13, 17, 215), (12, 225, 216), (13, 22, 217), (13, 27, 218),
  (12, 284, 219), (12, 241, 220), (12, 245, 221), (12, 256, 224), (12, 278, 225), (12, 302, 226), (12, 275, 227), (12, 308, 228),
  (12, 281, 229), (12, 327, 230), (12, 320, 231), (12, 323, 232), (12, 331, 233), (12, 335, 234), (12, 311, 235), (12, 314, 236),
  (12, 339, 237), (12, 317, 238), (12, 355, 239), (12, 358, 240), (12, 352, 241), (12, 361, 242), (12, 364, 243), (12, 348, 244),
  (12, 345, 245), (12, 305, 246), (13, 31, 247), (13, 36, 248), (12, 387, 249), (13, 40, 251), (12, 390, 252), (12, 393, 253),
  (13, 45, 254), (12, 402, 257), (12, 375, 258), (12, 378, 260), (12, 381, 261), (13, 49, 263), (12, 406, 264), (13, 54, 265),
  (12, 418, 266), (12, 421, 267), (12, 412, 268), (12, 415, 269), (13, 58, 270), (13, 62, 271), (13, 66, 272), (12, 424, 273),
  (13, 70, 274), (13, 75, 275), (13, 80, 276), (12, 427, 277), (13, 85, 278), (13, 90, 280), (12, 430, 281), (12, 450, 282),
  (12, 453, 283), (12, 433, 284), (12, 436, 285), (13, 94, 286), (12, 457, 287), (13, 98, 288), (12, 460, 289), (13, 102, 290),
  (12, 464, 291), (12, 467, 292), (13, 106, 293), (12, 473, 294), (13, 111, 295), (12, 483, 296), (12, 476, 297), (13, 115, 298),
  (13, 119, 299), (12, 486, 300), (12, 489, 301), (13, 123, 302), (13, 127, 303), (12, 492, 304), (13, 131, 305), (12, 512, 306),
  (12, 498, 307), (12, 495, 308), (12, 509, 309), (13, 135, 310), (12, 515, 311), (13, 140, 312), (12, 522, 313), (12, 518, 314),
  (13, 144, 315), (13, 148, 316), (12, 532, 317), (12, 526, 318), (12, 529, 319), (13, 152, 320), (13, 156, 321), (12, 535, 322),
  (13, 160, 323), (13, 164, 324), (12, 549, 325), (12, 543, 326), (12, 546, 327), (13, 168, 328), (13, 172, 329), (13, 176, 330),
  (13, 180, 331), (12, 555, 332), (12, 558, 333), (12, 561, 334), (13, 184, 335), (12, 564, 336), (13, 189, 337), (13, 194, 339),
  (12, 574, 340), (13, 198, 341), (13, 202, 342), (12, 588, 343), (12, 585, 344), (13, 206, 347), (13, 211, 348), (12, 591, 349),
  (13, 215, 350), (13, 219, 351)]
def tMS : List (Nat × Nat × Nat) := [(14, 495, 6), (15, 9, 7), (14, 1059, 8), (10, 39, 9), (10, 62, 28), (10, 66, 30), (10, 72, 32), (14, 637, 37),
  (15, 88, 38), (15, 95, 39), (9, 52, 71), (5, 51, 73), (11, 157, 81), (11, 160, 82), (0, 120, 125), (2, 46, 71),
  (8, 55, 148), (8, 61, 71), (11, 288, 160), (11, 304, 174), (7, 80, 71), (11, 342, 194), (5, 171, 201), (5, 184, 202),
  (5, 178, 205), (11, 360, 207), (11, 372, 211), (12, 218, 213), (12, 234, 214), (12, 249, 222), (12, 253, 223), (12, 368, 250),
  (12, 396, 255), (12, 399, 256), (12, 372, 259), (12, 384, 262), (12, 443, 279), (12, 567, 338), (12, 582, 345), (12, 579, 346)]
def tMI : List (Nat × Nat × Nat) := [(13, 9, 0), (11, 9, 1), (11, 25, 12), (11, 45, 14), (11, 54, 15), (11, 63, 16), (11, 70, 17), (11, 77, 18),
  (11, 84, 19), (13, 12, 212)]
def tMT : List (Nat × Nat × Nat) := [(3, 105, 86), (5, 72, 86), (9, 83, 194)]
def tMJ : List (Nat × Nat × Nat) := [(11, 18, 10), (3, 50, 11), (6, 11, 10), (11, 34, 13)]
theorem tMV_ok : ∀ q ∈ tMV, Cond.methodLink (cN q.1) q.2.1 (mY q.2.2) ∈ lw_tbl := am_tab tMV [191, 3, 5, 3, 611, 3, 3, 3, 3, 3, 3, 3, 6, 6, 6, 3, 4, 3, 3, 50, 3, 3, 3, 3, 3, 3, 3, 3, 3, 3,
  3, 3, 3, 3, 3, 3, 3, 3, 3, 3, 3, 0, 3, 3, 3, 3, 6, 4, 3, 3, 3, 6, 6, 3, 3, 3, 3, 3, 3, 9,
  3, 6, 8, 3, 3, 1, 3, 3, 3, 3, 3, 3, 3, 3, 3, 3, 3, 3, 3, 3, 3, 5, 5, 3, 3, 3, 0, 3, 3, 0,
  3, 2, 3, 3, 3, 3, 0, 0, 3, 0, 0, 3, 3, 3, 3, 3, 3, 3, 4, 3, 0, 0, 0, 3, 0, 0, 0, 3, 3, 3,
  3, 3, 3, 3, 3, 3, 0, 3, 0, 0, 0, 3, 4, 4, 3, 0, 3, 3, 3, 3, 6, 3, 3, 7, 4, 3, 3, 3, 3, 3,
  3, 5, 3, 3, 6, 3, 3, 0, 0, 0, 0, 5, 3, 3, 3, 3, 3, 4, 3, 3, 3, 0, 6, 3, 5, 3, 6, 3, 3, 3,
  3, 3, 3, 3, 3, 3, 3, 3, 3, 3, 3, 7, 3, 3, 3, 3, 3, 10, 3, 3, 6, 6, 4, 3, 293, 3, 3, 3, 3, 3,
  3, 9, 3, 3, 3, 3, 3, 3, 3, 3, 3, 3, 3, 3, 3, 3, 3, 3, 3, 3, 3, 3, 3, 3, 3, 3, 3, 6, 3, 3,
  3, 9, 3, 6, 3, 6, 3, 3, 3, 3, 3, 3, 3, 3, 3, 3, 3, 3, 3, 3, 3, 7, 4, 4, 3, 3, 3, 4, 3, 3,
  3, 3, 3, 3, 3, 3, 3, 3, 3, 3, 3, 3, 3, 3, 3, 3, 3, 3, 3, 3, 4, 3, 3, 3, 3, 3, 3, 3, 3, 3,
  3, 3, 3, 3, 4, 3, 3, 3, 3, 3, 3, 3, 3, 3, 3, 3, 3, 3, 3, 6, 3, 3, 3, 3, 3, 10, 3, 3, 3, 3] (fun q => Cond.methodLink (cN q.1) q.2.1 (mY q.2.2)) (by decide +kernel)
theorem tMS_ok : ∀ q ∈ tMS, Cond.methodLink (cN q.1) q.2.1 (mY q.2.2) ∈ lw_tbl := am_tab tMS [209, 2, 4, 21, 609, 6, 6, 20, 2, 8, 166, 6, 30, 2, 191, 64, 45, 2, 47, 62, 11, 74, 24, 2, 12, 9, 15, 11, 2, 302,
  2, 106, 18, 2, 10, 10, 67, 239, 26, 2] (fun q => Cond.methodLink (cN q.1) q.2.1 (mY q.2.2)) (by decide +kernel)
theorem tMI_ok : ∀ q ∈ tMI, Cond.methodLink (cN q.1) q.2.1 (mY q.2.2) ∈ lw_tbl := am_tab tMI [178, 7, 227, 129, 46, 58, 24, 48, 31, 926] (fun q => Cond.methodLink (cN q.1) q.2.1 (mY q.2.2)) (by decide +kernel)
theorem tMT_ok : ∀ q ∈ tMT, Cond.methodLinkNest (cN q.1) q.2.1 (mY q.2.2) "WakeHouse" ∈ lw_tbl := am_tab tMT [1122, 13, 468] (fun q => Cond.methodLinkNest (cN q.1) q.2.1 (mY q.2.2) "WakeHouse") (by decide +kernel)
theorem tMJ_ok : ∀ q ∈ tMJ, Cond.methodLinkNest (cN q.1) q.2.1 (mY q.2.2) "WakeHouse" ∈ lw_tbl := am_tab tMJ [278, 5, 134, 50] (fun q => Cond.methodLinkNest (cN q.1) q.2.1 (mY q.2.2) "WakeHouse") (by decide +kernel)
def mIm : List Nat := [0, 1, 2, 3, 4, 5, 10, 11, 12, 13, 14, 15, 16, 17, 18, 19, 20, 21, 22, 23, 24, 25, 26, 27, 29, 31, 33, 34, 35, 36,
  40, 41, 42, 43, 44, 45, 46, 47, 48, 49, 50, 51, 52, 53, 54, 55, 56, 57, 58, 59, 60, 61, 62, 63, 64, 65, 66, 67, 68, 69,
  70, 72, 74, 75, 76, 77, 78, 79, 80, 83, 84, 85, 87, 88, 89, 90, 91, 92, 93, 94, 95, 96, 97, 98, 99, 100, 101, 102, 103, 104,
  105, 106, 107, 108, 109, 110, 111, 112, 113, 114, 115, 116, 117, 118, 119, 120, 121, 122, 123, 124, 126, 127, 128, 129, 130, 131, 132, 133, 134, 135,
  136, 137, 138, 139, 140, 141, 142, 143, 144, 145, 146, 147, 149, 150, 151, 152, 153, 154, 155, 156, 157, 158, 159, 161, 162, 163, 164, 165, 166, 167,
  168, 169, 170, 171, 172, 173, 175, 176, 177, 178, 179, 180, 181, 182, 183, 184, 185, 186, 187, 188, 189, 190, 191, 192, 193, 195, 196, 197, 198, 199,
  200, 203, 204, 206, 208, 209, 210, 212, 215, 216, 217, 218, 219, 220, 221, 224, 225, 226, 227, 228, 229, 230, 231, 232, 233, 234, 235, 236, 237, 238,
  239, 240, 241, 242, 243, 244, 245, 246, 247, 248, 249, 251, 252, 253, 254, 257, 258, 260, 261, 263, 264, 265, 266, 267, 268, 269, 270, 271, 272, 273,
  274, 275, 276, 277, 278, 280, 281, 282, 283, 284, 285, 286, 287, 288, 289, 290, 291, 292, 293, 294, 295, 296, 297, 298, 299, 300, 301, 302, 303, 304,
  305, 306, 307, 308, 309, 310, 311, 312, 313, 314, 315, 316, 317, 318, 319, 320, 321, 322, 323, 324, 325, 326, 327, 328, 329, 330, 331, 332, 333, 334,
  335, 336, 337, 339, 340, 341, 342, 343, 344, 347, 348, 349, 350, 351]
theorem mIm_ok : ∀ q ∈ mIm, Cond.instanceMethod (mY q) ∈ lw_tbl := am_tab mIm [179, 7, 4, 3, 5, 3, 72, 5, 129, 55, 73, 46, 58, 24, 48, 31, 60, 3, 3, 3, 3, 3, 3, 4, 6, 6, 6, 3, 3, 3,
  54, 4, 2, 4, 3, 3, 3, 3, 3, 3, 3, 3, 3, 3, 3, 3, 3, 3, 3, 3, 3, 4, 3, 3, 3, 2, 6, 5, 3, 3,
  2, 6, 6, 3, 4, 2, 3, 4, 2, 9, 3, 6, 8, 3, 5, 4, 2, 4, 2, 3, 3, 3, 4, 2, 3, 3, 3, 3, 3, 3,
  5, 5, 3, 3, 4, 3, 4, 6, 3, 3, 3, 5, 5, 3, 3, 4, 2, 4, 3, 3, 11, 6, 3, 3, 2, 3, 3, 3, 3, 4,
  4, 6, 3, 4, 3, 4, 3, 3, 3, 4, 6, 3, 11, 4, 3, 3, 2, 3, 4, 2, 6, 2, 3, 6, 4, 7, 5, 3, 3, 3,
  2, 3, 4, 3, 3, 4, 6, 4, 5, 3, 6, 3, 2, 3, 3, 3, 3, 4, 2, 4, 3, 2, 3, 3, 3, 7, 4, 3, 2, 3,
  3, 10, 3, 10, 6, 4, 3, 11, 281, 4, 2, 3, 4, 3, 3, 9, 3, 3, 3, 3, 3, 3, 3, 3, 3, 3, 3, 3, 3, 3,
  3, 3, 3, 3, 3, 3, 3, 3, 2, 3, 4, 5, 4, 3, 2, 10, 3, 6, 3, 5, 4, 2, 4, 3, 3, 3, 2, 3, 3, 4,
  2, 3, 3, 4, 2, 7, 5, 4, 3, 3, 3, 3, 4, 2, 4, 2, 4, 3, 2, 4, 2, 4, 3, 2, 3, 4, 3, 2, 3, 4,
  2, 4, 3, 3, 4, 2, 4, 2, 4, 3, 2, 3, 4, 3, 3, 2, 3, 4, 3, 3, 4, 3, 3, 2, 3, 3, 3, 4, 3, 3,
  2, 4, 2, 6, 4, 2, 3, 4, 3, 9, 3, 4, 2, 3] (fun q => Cond.instanceMethod (mY q)) (by decide +kernel)
def mSe : List Nat := [27, 29, 31, 33, 34, 41, 43, 44, 45, 46, 47, 48, 49, 50, 51, 52, 53, 54, 55, 56, 57, 58, 59, 60, 61, 62, 63, 64, 67, 68,
  69, 76, 79, 90, 92, 97, 120, 122, 123, 124, 126, 127, 128, 129, 135, 136, 137, 138, 139, 145, 146, 147, 149, 150, 151, 152, 155, 157, 162, 163,
  164, 165, 166, 167, 176, 177, 178, 179, 180, 186, 188, 189, 196, 197, 216, 219, 220, 221, 224, 225, 226, 227, 228, 229, 230, 231, 232, 233, 234, 235,
  236, 237, 238, 239, 240, 241, 242, 243, 244, 245, 246, 249, 252, 253, 257, 258, 260, 261, 264, 266, 267, 268, 269, 273, 277, 281, 282, 283, 284, 285,
  287, 289, 291, 292, 294, 296, 297, 300, 301, 304, 306, 307, 308, 309, 311, 313, 314, 317, 318, 319, 322, 325, 326, 327, 332, 333, 334, 336, 340, 343,
  344, 349, 2, 3, 4, 5, 20, 21, 22, 23, 24, 25, 26, 35, 36, 40, 42, 65, 66, 70, 72, 74, 75, 77, 78, 80, 83, 84, 85, 87,
  88, 89, 91, 93, 94, 95, 96, 98, 99, 100, 101, 102, 103, 104, 105, 106, 107, 108, 109, 110, 111, 112, 113, 114, 115, 116, 117, 118, 119, 121,
  130, 131, 132, 133, 134, 140, 141, 142, 143, 144, 153, 154, 156, 158, 159, 161, 168, 169, 170, 171, 172, 173, 175, 181, 182, 183, 184, 185, 187, 190,
  191, 192, 193, 195, 198, 199, 200, 203, 204, 206, 208, 209, 210, 215, 217, 218, 247, 248, 251, 254, 263, 265, 270, 271, 272, 274, 275, 276, 278, 280,
  286, 288, 290, 293, 295, 298, 299, 302, 303, 305, 310, 312, 315, 316, 320, 321, 323, 324, 328, 329, 330, 331, 335, 337, 339, 341, 342, 347, 348, 350,
  351]
theorem mSe_ok : ∀ q ∈ mSe, Cond.selects (cN (mCs q)) (mY q) (mY q) ∈ lw_tbl := am_tab mSe [0, 0, 0, 0, 0, 0, 0, 0, 0, 0, 0, 0, 0, 0, 0, 0, 0, 0, 0, 0, 0, 0, 0, 0, 0, 0, 0, 0, 0, 0,
  0, 0, 0, 0, 0, 0, 0, 0, 0, 0, 0, 0, 0, 0, 0, 0, 0, 0, 0, 0, 0, 0, 0, 0, 0, 0, 0, 0, 0, 0,
  0, 0, 0, 0, 0, 0, 0, 0, 0, 0, 0, 0, 0, 0, 0, 0, 0, 0, 0, 0, 0, 0, 0, 0, 0, 0, 0, 0, 0, 0,
  0, 0, 0, 0, 0, 0, 0, 0, 0, 0, 0, 0, 0, 0, 0, 0, 0, 0, 0, 0, 0, 0, 0, 0, 0, 0, 0, 0, 0, 0,
  0, 0, 0, 0, 0, 0, 0, 0, 0, 0, 0, 0, 0, 0, 0, 0, 0, 0, 0, 0, 0, 0, 0, 0, 0, 0, 0, 0, 0, 0,
  0, 0, 41, 3, 5, 3, 611, 3, 3, 3, 3, 3, 3, 33, 3, 54, 7, 92, 6, 16, 6, 6, 3, 7, 3, 7, 9, 3, 6, 8,
  3, 5, 7, 7, 3, 3, 3, 7, 3, 3, 3, 3, 3, 3, 5, 5, 3, 3, 4, 3, 4, 6, 3, 3, 3, 5, 5, 3, 3, 7,
  42, 3, 3, 3, 3, 29, 4, 3, 3, 3, 43, 3, 7, 9, 3, 6, 33, 3, 4, 3, 3, 4, 6, 28, 3, 3, 3, 3, 7, 11,
  3, 3, 3, 7, 11, 3, 3, 10, 3, 10, 6, 4, 3, 293, 7, 3, 113, 3, 10, 11, 31, 7, 19, 3, 3, 7, 3, 3, 7, 7,
  26, 7, 7, 11, 7, 11, 3, 11, 3, 7, 20, 7, 11, 3, 15, 3, 8, 3, 15, 3, 3, 3, 15, 7, 6, 7, 3, 18, 3, 7,
  3] (fun q => Cond.selects (cN (mCs q)) (mY q) (mY q)) (by decide +kernel)
def mSt : List Nat := [6, 7, 8, 9, 28, 30, 32, 37, 38, 39, 71, 73, 81, 82, 86, 125, 148, 160, 174, 194, 201, 202, 205, 207, 211, 213, 214, 222, 223, 250,
  255, 256, 259, 262, 279, 338, 345, 346]
theorem mSt_ok : ∀ q ∈ mSt, Cond.static (mY q) ∈ lw_tbl := am_tab mSt [210, 2, 4, 21, 609, 6, 6, 20, 2, 8, 166, 6, 30, 2, 17, 173, 110, 50, 62, 83, 27, 2, 12, 9, 15, 11, 2, 302, 2, 106,
  18, 2, 10, 10, 67, 239, 26, 2] (fun q => Cond.static (mY q)) (by decide +kernel)
theorem tMV_id : ∀ q ∈ tMV, q.2.2 < 352 ∧ q.2.2 ∈ mIm ∧ q.2.2 ∈ mSe ∧ (parseMethodDescriptor (mY q.2.2).desc).map (fun d => d.parameters.length) = some (mNa q.2.2 - 1) ∧ mCe q.2.2 = 0 ∧ mSl q.2.2 = 0 := by decide +kernel
theorem tMS_id : ∀ q ∈ tMS, q.2.2 < 352 ∧ q.2.2 ∈ mSt ∧ (parseMethodDescriptor (mY q.2.2).desc).map (fun d => d.parameters.length) = some (mNa q.2.2) ∧ mCe q.2.2 = 0 ∧ mSl q.2.2 = 0 := by decide +kernel
theorem tMT_id : ∀ q ∈ tMT, q.2.2 < 352 ∧ q.2.2 ∈ mSt ∧ (parseMethodDescriptor (mY q.2.2).desc).map (fun d => d.parameters.length) = some (mNa q.2.2) ∧ mCe q.2.2 = 0 ∧ mSl q.2.2 = 0 := by decide +kernel
theorem tMI_id : ∀ q ∈ tMI, q.2.2 < 352 ∧ q.2.2 ∈ mIm ∧ (mY q.2.2).name = "<init>" ∧ (parseMethodDescriptor (mY q.2.2).desc).map (fun d => d.parameters.length) = some (mNa q.2.2 - 1) ∧ mR q.2.2 = none := by decide +kernel
theorem tMJ_id : ∀ q ∈ tMJ, q.2.2 < 352 ∧ q.2.2 ∈ mIm ∧ (mY q.2.2).name = "<init>" ∧ (parseMethodDescriptor (mY q.2.2).desc).map (fun d => d.parameters.length) = some (mNa q.2.2 - 1) ∧ mR q.2.2 = none := by decide +kernel
end
section
/-! THE ABSTRACT MACHINE: the class's and the reference's instructions over whole numbers. A value is an int, a long, or a reference (the number of a cell; 0 is null). A state is the shape (kind, size, references of each cell) and the contents. -/
abbrev aV : Type := Int ⊕ (Int ⊕ Nat)
abbrev aH : Type := Nat → Nat → Int
abbrev aC : Type := Nat × Nat × List Nat
abbrev aS : Type := List aC × aH
abbrev aL : Type := List (Nat × aV)
abbrev aI : Type := Jvm.ClassFile.Instr
/-- one place of the contents anew -/
def am_up (h : aH) (r k : Nat) (v : Int) : aH := fun q j => bif (Nat.beq q r && Nat.beq j k) then v else h q j
/-- n places of cell d from place dp on, out of cell s from sp on -/
def am_cp (h : aH) (s sp d dp n : Nat) : aH := fun q j => bif (Nat.beq q d && (Nat.ble dp j && Nat.blt j (dp + n))) then h s (sp + (j - dp)) else h q j
def am_find (k : Nat) : aL → Option aV
  | [] => none
  | q :: l => bif Nat.beq q.1 k then some q.2 else am_find k l
def am_is2 : aV → Bool
  | .inr (.inl _) => true
  | _ => false
def am_set1 (k : Nat) (v : aV) (l : aL) : aL := (k, v) :: l.filter (fun q => !(Nat.beq q.1 k) && !(Nat.beq (q.1 + 1) k && am_is2 q.2))
def am_set2 (k : Nat) (v : aV) (l : aL) : aL := (k, v) :: l.filter (fun q => !(Nat.beq q.1 k) && (!(Nat.beq q.1 (k + 1)) && !(Nat.beq (q.1 + 1) k && am_is2 q.2)))
def w32 (z : Int) : Int := (z + 2147483648) % 4294967296 - 2147483648
def w64 (z : Int) : Int := (z + 9223372036854775808) % 18446744073709551616 - 9223372036854775808
def w8 (z : Int) : Int := (z + 128) % 256 - 128
def am_and (a b : Int) : Int := (Int32.ofInt a &&& Int32.ofInt b).toInt
def am_or (a b : Int) : Int := (Int32.ofInt a ||| Int32.ofInt b).toInt
def am_xor (a b : Int) : Int := (Int32.ofInt a ^^^ Int32.ofInt b).toInt
def am_shl (a b : Int) : Int := (Int32.ofInt a <<< (Int32.ofInt b &&& 31)).toInt
def am_shr (a b : Int) : Int := (Int32.ofInt a >>> (Int32.ofInt b &&& 31)).toInt
def am_ushr (a b : Int) : Int := ((Int32.ofInt a).toUInt32 >>> ((Int32.ofInt b).toUInt32 &&& Int32.toUInt32 31)).toInt32.toInt
def am_land (a b : Int) : Int := (Int64.ofInt a &&& Int64.ofInt b).toInt
def am_lxor (a b : Int) : Int := (Int64.ofInt a ^^^ Int64.ofInt b).toInt
def am_lshl (a b : Int) : Int := (Int64.ofInt a <<< ((Int32.ofInt b).toInt64 &&& 63)).toInt
def am_lshr (a b : Int) : Int := (Int64.ofInt a >>> ((Int32.ofInt b).toInt64 &&& 63)).toInt
def am_lushr (a b : Int) : Int := ((Int64.ofInt a).toUInt64 >>> ((Int32.ofInt b).toInt64.toUInt64 &&& Int64.toUInt64 63)).toInt64.toInt
def am_sgn (z : Int) : Int := if 0 < z then 1 else if z = 0 then 0 else -1
abbrev am_cnd : Jvm.ClassFile.Cond → Int → Int → Prop
  | .eq, a, b => a = b
  | .ne, a, b => ¬ a = b
  | .lt, a, b => a < b
  | .ge, a, b => b ≤ a
  | .gt, a, b => b < a
  | .le, a, b => a ≤ b
def am_cndD : (c : Jvm.ClassFile.Cond) → (a b : Int) → Decidable (am_cnd c a b)
  | .eq, a, b => inferInstanceAs (Decidable (a = b))
  | .ne, a, b => inferInstanceAs (Decidable (¬ a = b))
  | .lt, a, b => inferInstanceAs (Decidable (a < b))
  | .ge, a, b => inferInstanceAs (Decidable (b ≤ a))
  | .gt, a, b => inferInstanceAs (Decidable (b < a))
  | .le, a, b => inferInstanceAs (Decidable (a ≤ b))
def am_rg (z : Int) : Prop := -2147483648 ≤ z ∧ z < 2147483648
def am_rgD (z : Int) : Decidable (am_rg z) := inferInstanceAs (Decidable (_ ∧ _))
def am_rl (z : Int) : Prop := -9223372036854775808 ≤ z ∧ z < 9223372036854775808
def am_rlD (z : Int) : Decidable (am_rl z) := inferInstanceAs (Decidable (_ ∧ _))
def am_ix (i : Int) (n : Nat) : Prop := 0 ≤ i ∧ i < n
def am_ixD (i : Int) (n : Nat) : Decidable (am_ix i n) := inferInstanceAs (Decidable (_ ∧ _))
def am_tf (v : Int) : Prop := v = 0 ∨ v = 1
def am_tfD (v : Int) : Decidable (am_tf v) := inferInstanceAs (Decidable (_ ∨ _))
def am_sz : List aC → Nat
  | [] => 0
  | c :: l => c.2.1 + am_sz l
def am_o0 : aC := (0, 0, [])
/-- the kinds of what was there before: an int, a long, a byte array, a text -/
def am_xk (k : Nat) : Bool := Nat.beq k 6 || Nat.beq k 7 || Nat.beq k 8 || Nat.beq k 30
/-- a cell's kind: the first nine were there before, the others are the program's own -/
def am_kd (sh : List aC) (r : Nat) : Nat := bif Nat.beq r 0 || Nat.beq r 8 then 0 else bif Nat.ble 9 r then (bif am_xk (am_nth am_o0 sh r).1 then 0 else (am_nth am_o0 sh r).1) else (bif am_xk (am_nth am_o0 sh r).1 then (am_nth am_o0 sh r).1 else 0)
/-- a new cell's contents -/
def am_z (S : aS) : aH := fun q j => bif Nat.beq q S.1.length then 0 else S.2 q j
/-- n values off the pile, the last one first -/
def am_pop : Nat → List aV → List aV → Option (List aV × List aV)
  | 0, acc, st => some (acc, st)
  | _ + 1, _, [] => none
  | n + 1, acc, v :: st => am_pop n (v :: acc) st
/-- the words of a pile -/
def am_cat : List aV → Nat
  | [] => 0
  | v :: st => (bif am_is2 v then 2 else 1) + am_cat st
def am_psh : Option aV → List aV → List aV
  | some v, st => v :: st
  | none, st => st
section AM
variable {X : Type} (ft : Nat → Nat → Nat) (na : Nat → Nat) (lim : Nat × Nat) (bad : X) (br : (c : Prop) → Decidable c → X → X → X) (ck : (c : Prop) → Decidable c → X → X)
  (call : Nat → List aV → aS → (Option aV → aH → X) → X) (sp : Nat → List aV → aS → (aS → X) → X) (ret : Option aV → aS → X) (cut : Nat → aL → List aV → aS → X)
def am_sw (jmp : Nat → X) (v : Int) : Int → List Int → X
  | _, [] => bad
  | a, t :: l => br (v = a) (Int.instDecidableEq v a) (jmp t.toNat) (am_sw jmp v (a + 1) l)
def am_bin (f : Int → Int → Int) (nxt : List aV → X) : List aV → X
  | .inl b :: .inl a :: st => nxt (.inl (f a b) :: st)
  | _ => bad
def am_binL (f : Int → Int → Int) (nxt : List aV → X) : List aV → X
  | .inr (.inl b) :: .inr (.inl a) :: st => nxt (.inr (.inl (f a b)) :: st)
  | _ => bad
/-- the same, and the answer is in range -/
def am_binC (f : Int → Int → Int) (nxt : List aV → X) : List aV → X
  | .inl b :: .inl a :: st => ck (am_rg (f a b)) (am_rgD _) (nxt (.inl (f a b) :: st))
  | _ => bad
def am_binLC (f : Int → Int → Int) (nxt : List aV → X) : List aV → X
  | .inr (.inl b) :: .inr (.inl a) :: st => ck (am_rl (f a b)) (am_rlD _) (nxt (.inr (.inl (f a b)) :: st))
  | _ => bad
def am_getf (c : aC) (ty : Nat) (h : aH) (r k : Nat) : aV :=
  match ty with
  | 0 => .inr (.inr (am_nth 0 c.2.2 k))
  | 2 => .inr (.inl (h r k))
  | _ => .inl (h r k)
/-- is it an object, of that field -/
def am_isO (sh : List aC) (r n : Nat) : Bool := Nat.beq (am_kd sh r) (10 + n / 100) && Nat.blt (n % 100) (am_nth am_o0 sh r).2.1
def am_putf (c : aC) (ty : Nat) (S : aS) (r k : Nat) (v : aV) (nxt : aS → X) : X :=
  match ty, v with
  | 0, .inr (.inr q) => bif Nat.blt k c.2.2.length then nxt (am_put (c.1, c.2.1, am_put q c.2.2 k) S.1 r, S.2) else bad
  | 1, .inl x => nxt (S.1, am_up S.2 r k x)
  | 2, .inr (.inl x) => nxt (S.1, am_up S.2 r k x)
  | 3, .inl x => ck (am_tf x) (am_tfD x) (nxt (S.1, am_up S.2 r k x))
  | _, _ => bad
/-- one of an array's references, by its place -/
def am_aal (i : Int) (nxt : Nat → X) : Int → List Nat → X
  | _, [] => bad
  | a, q :: l => br (i = a) (Int.instDecidableEq i a) (nxt q) (am_aal i nxt (a + 1) l)
/-- one instruction -/
def am_1 (i : Nat) (ins : aI) (ls : aL) (st : List aV) (S : aS) (nxt : aL → List aV → aS → X) (jmp : Nat → aL → List aV → aS → X) : X :=
  match ins with
  | .nop => cut (i + 1) ls st S
  | .iconst v => nxt ls (.inl v :: st) S
  | .bipush v => nxt ls (.inr (.inl v) :: st) S
  | .getstatic r => nxt ls (.inr (.inr r) :: st) S
  | .iload k => match am_find k ls with
    | some (.inl v) => nxt ls (.inl v :: st) S
    | _ => bad
  | .lload k => match am_find k ls with
    | some (.inr (.inl v)) => nxt ls (.inr (.inl v) :: st) S
    | _ => bad
  | .aload k => match am_find k ls with
    | some (.inr (.inr v)) => bif Nat.beq v 0 || Nat.beq v 8 then bad else nxt ls (.inr (.inr v) :: st) S
    | _ => bad
  | .istore k => match st with
    | .inl v :: st => nxt (am_set1 k (.inl v) ls) st S
    | _ => bad
  | .lstore k => match st with
    | .inr (.inl v) :: st => nxt (am_set2 k (.inr (.inl v)) ls) st S
    | _ => bad
  | .astore k => match st with
    | .inr (.inr v) :: st => bif Nat.beq v 0 || Nat.beq v 8 then bad else nxt (am_set1 k (.inr (.inr v)) ls) st S
    | _ => bad
  | .iinc k d => match am_find k ls with
    | some (.inl v) => ck (am_rg (v + d)) (am_rgD _) (nxt (am_set1 k (.inl (v + d)) ls) st S)
    | _ => bad
  | .iadd => am_bin bad (fun a b => w32 (a + b)) (fun st => nxt ls st S) st
  | .isub => am_bin bad (fun a b => w32 (a - b)) (fun st => nxt ls st S) st
  | .imul => am_bin bad (fun a b => w32 (a * b)) (fun st => nxt ls st S) st
  | .fadd => am_binC bad ck (fun a b => a + b) (fun st => nxt ls st S) st
  | .fsub => am_binC bad ck (fun a b => a - b) (fun st => nxt ls st S) st
  | .fmul => am_binC bad ck (fun a b => a * b) (fun st => nxt ls st S) st
  | .iand => am_bin bad am_and (fun st => nxt ls st S) st
  | .ior => am_bin bad am_or (fun st => nxt ls st S) st
  | .ixor => am_bin bad am_xor (fun st => nxt ls st S) st
  | .ishl => am_bin bad am_shl (fun st => nxt ls st S) st
  | .ishr => am_bin bad am_shr (fun st => nxt ls st S) st
  | .iushr => am_bin bad am_ushr (fun st => nxt ls st S) st
  | .idiv => match st with
    | .inl b :: .inl a :: st => ck (¬ b = 0) (am_cndD .ne b 0) (nxt ls (.inl (w32 (a.tdiv b)) :: st) S)
    | _ => bad
  | .irem => match st with
    | .inl b :: .inl a :: st => ck (¬ b = 0) (am_cndD .ne b 0) (nxt ls (.inl (a.tmod b) :: st) S)
    | _ => bad
  | .ineg => match st with
    | .inl a :: st => ck (am_rg (-a)) (am_rgD _) (nxt ls (.inl (-a) :: st) S)
    | _ => bad
  | .ladd => am_binL bad (fun a b => w64 (a + b)) (fun st => nxt ls st S) st
  | .lsub => am_binL bad (fun a b => w64 (a - b)) (fun st => nxt ls st S) st
  | .lmul => am_binL bad (fun a b => w64 (a * b)) (fun st => nxt ls st S) st
  | .dadd => am_binLC bad ck (fun a b => a + b) (fun st => nxt ls st S) st
  | .dsub => am_binLC bad ck (fun a b => a - b) (fun st => nxt ls st S) st
  | .dmul => am_binLC bad ck (fun a b => a * b) (fun st => nxt ls st S) st
  | .land => am_binL bad am_land (fun st => nxt ls st S) st
  | .lxor => am_binL bad am_lxor (fun st => nxt ls st S) st
  | .ldiv => match st with
    | .inr (.inl b) :: .inr (.inl a) :: st => ck (¬ b = 0) (am_cndD .ne b 0) (nxt ls (.inr (.inl (w64 (a.tdiv b))) :: st) S)
    | _ => bad
  | .lshl => match st with
    | .inl b :: .inr (.inl a) :: st => nxt ls (.inr (.inl (am_lshl a b)) :: st) S
    | _ => bad
  | .lshr => match st with
    | .inl b :: .inr (.inl a) :: st => nxt ls (.inr (.inl (am_lshr a b)) :: st) S
    | _ => bad
  | .lushr => match st with
    | .inl b :: .inr (.inl a) :: st => nxt ls (.inr (.inl (am_lushr a b)) :: st) S
    | _ => bad
  | .i2l => match st with
    | .inl a :: st => nxt ls (.inr (.inl a) :: st) S
    | _ => bad
  | .l2i => match st with
    | .inr (.inl a) :: st => nxt ls (.inl (w32 a) :: st) S
    | _ => bad
  | .i2b => match st with
    | .inl a :: st => nxt ls (.inl (w8 a) :: st) S
    | _ => bad
  | .i2c => match st with
    | .inl a :: st => nxt ls (.inl (a % 65536) :: st) S
    | _ => bad
  | .lcmp => match st with
    | .inr (.inl b) :: .inr (.inl a) :: st => nxt ls (.inl (am_sgn (a - b)) :: st) S
    | _ => bad
  | .dup => match st with
    | v :: st => bif am_is2 v then bad else nxt ls (v :: v :: st) S
    | _ => bad
  | .pop => match st with
    | v :: st => bif am_is2 v then bad else nxt ls st S
    | _ => bad
  | .dup2 => match st with
    | .inr (.inl v) :: st => nxt ls (.inr (.inl v) :: .inr (.inl v) :: st) S
    | v :: w :: st => bif am_is2 v || am_is2 w then bad else nxt ls (v :: w :: v :: w :: st) S
    | _ => bad
  | .pop2 => match st with
    | .inr (.inl _) :: st => nxt ls st S
    | _ => bad
  | .ifCond c t => match st with
    | .inl v :: st => br (am_cnd c v 0) (am_cndD c v 0) (jmp t.toNat ls st S) (nxt ls st S)
    | _ => bad
  | .if_icmp c t => match st with
    | .inl b :: .inl a :: st => br (am_cnd c a b) (am_cndD c a b) (jmp t.toNat ls st S) (nxt ls st S)
    | _ => bad
  | .goto t => jmp t.toNat ls st S
  | .tableswitch d lo hi offs => match st with
    | .inl v :: st => br (v < lo ∨ hi < v) (inferInstanceAs (Decidable (_ ∨ _))) (jmp d.toNat ls st S) (am_sw bad br (fun t => jmp t ls st S) v lo offs.toList)
    | _ => bad
  | .getfield n => match st with
    | .inr (.inr r) :: st => bif am_isO S.1 r n then nxt ls (am_getf (am_nth am_o0 S.1 r) (ft (n / 100) (n % 100)) S.2 r (n % 100) :: st) S else bad
    | _ => bad
  | .putfield n => match st with
    | v :: .inr (.inr r) :: st => bif am_isO S.1 r n && Nat.ble 9 r then am_putf bad ck (am_nth am_o0 S.1 r) (ft (n / 100) (n % 100)) S r (n % 100) v (fun S => nxt ls st S) else bad
    | _ => bad
  | .iaload => match st with
    | .inl i :: .inr (.inr r) :: st => match am_kd S.1 r with
      | 1 | 6 => ck (am_ix i (am_nth am_o0 S.1 r).2.1) (am_ixD _ _) (nxt ls (.inl (S.2 r i.toNat) :: st) S)
      | _ => bad
    | _ => bad
  | .laload => match st with
    | .inl i :: .inr (.inr r) :: st => match am_kd S.1 r with
      | 2 | 7 => ck (am_ix i (am_nth am_o0 S.1 r).2.1) (am_ixD _ _) (nxt ls (.inr (.inl (S.2 r i.toNat)) :: st) S)
      | _ => bad
    | _ => bad
  | .baload => match st with
    | .inl i :: .inr (.inr r) :: st => match am_kd S.1 r with
      | 3 | 4 | 8 => ck (am_ix i (am_nth am_o0 S.1 r).2.1) (am_ixD _ _) (nxt ls (.inl (S.2 r i.toNat) :: st) S)
      | _ => bad
    | _ => bad
  | .aaload => match st with
    | .inl i :: .inr (.inr r) :: st => match am_kd S.1 r with
      | 5 => ck (am_ix i (am_nth am_o0 S.1 r).2.1) (am_ixD _ _) (am_aal bad br i (fun q => nxt ls (.inr (.inr q) :: st) S) 0 (am_nth am_o0 S.1 r).2.2)
      | _ => bad
    | _ => bad
  | .iastore => match st with
    | .inl v :: .inl i :: .inr (.inr r) :: st => match am_kd S.1 r with
      | 1 => ck (am_ix i (am_nth am_o0 S.1 r).2.1) (am_ixD _ _) (nxt ls st (S.1, am_up S.2 r i.toNat v))
      | _ => bad
    | _ => bad
  | .lastore => match st with
    | .inr (.inl v) :: .inl i :: .inr (.inr r) :: st => match am_kd S.1 r with
      | 2 => ck (am_ix i (am_nth am_o0 S.1 r).2.1) (am_ixD _ _) (nxt ls st (S.1, am_up S.2 r i.toNat v))
      | _ => bad
    | _ => bad
  | .bastore => match st with
    | .inl v :: .inl i :: .inr (.inr r) :: st => match am_kd S.1 r with
      | 3 => ck (am_ix i (am_nth am_o0 S.1 r).2.1) (am_ixD _ _) (nxt ls st (S.1, am_up S.2 r i.toNat (w8 v)))
      | 4 => ck (am_ix i (am_nth am_o0 S.1 r).2.1) (am_ixD _ _) (ck (am_tf v) (am_tfD v) (nxt ls st (S.1, am_up S.2 r i.toNat v)))
      | _ => bad
    | _ => bad
  | .aastore => match st with
    | .inr (.inr q) :: .inl i :: .inr (.inr r) :: st => match am_kd S.1 r with
      | 5 => bif !(Nat.beq (am_kd S.1 q) 19) then bad else ck (am_ix i (am_nth am_o0 S.1 r).2.1) (am_ixD _ _) (ck (am_ix i (am_nth am_o0 S.1 r).2.2.length) (am_ixD _ _) (nxt ls st (am_put (5, (am_nth am_o0 S.1 r).2.1, am_put q (am_nth am_o0 S.1 r).2.2 i.toNat) S.1 r, S.2)))
      | _ => bad
    | _ => bad
  | .arraylength => match st with
    | .inr (.inr r) :: st => match am_kd S.1 r with
      | 1 | 2 | 3 | 4 | 5 | 6 | 7 | 8 => ck (am_rg ((am_nth am_o0 S.1 r).2.1 : Int)) (am_rgD _) (nxt ls (.inl ((am_nth am_o0 S.1 r).2.1 : Int) :: st) S)
      | _ => bad
    | _ => bad
  | .invokevirtual id => match am_pop (na id) [] st with
    | some (.inr (.inr r) :: as, st) => bif Nat.beq (am_kd S.1 r) (na (2000 + id)) && Nat.ble (am_cat st) 8 then call id (.inr (.inr r) :: as) S (fun v h => nxt ls (am_psh v st) (S.1, h)) else bad
    | _ => bad
  | .invokestatic id => match am_pop (na id) [] st with
    | some (as, st) => bif Nat.ble (am_cat st) 8 then call id as S (fun v h => nxt ls (am_psh v st) (S.1, h)) else bad
    | none => bad
  | .invokespecial id => match am_pop (na id) [] st with
    | some (.inr (.inr r) :: as, st) => bif Nat.beq (am_kd S.1 r) (na (2000 + id)) && Nat.ble (am_cat st) 8 then sp id (.inr (.inr r) :: as) S (fun S => nxt ls st S) else bad
    | _ => bad
  | .invokeinterface 0 _ => match st with
    | .inr (.inr v) :: st => bif Nat.beq v 0 || Nat.beq v 8 || Nat.blt 8 (am_cat st) then bad else nxt ls st S
    | _ => bad
  | .invokeinterface 1 _ => match st with
    | .inl n :: .inl dp :: .inr (.inr d) :: .inl sp :: .inr (.inr s) :: st => bif !(Nat.beq s d) && Nat.ble (am_cat st) 8 && Nat.beq (am_kd S.1 s) 1 && Nat.beq (am_kd S.1 d) 1 then
        ck (0 ≤ n ∧ 0 ≤ sp ∧ 0 ≤ dp ∧ sp + n ≤ (am_nth am_o0 S.1 s).2.1 ∧ dp + n ≤ (am_nth am_o0 S.1 d).2.1) (inferInstanceAs (Decidable (_ ∧ _))) (nxt ls st (S.1, am_cp S.2 s sp.toNat d dp.toNat n.toNat))
      else bad
    | _ => bad
  | .invokeinterface 2 _ => bif Nat.ble (am_cat st) 10 then am_bin bad (fun a b => max a b) (fun st => nxt ls st S) st else bad
  | .invokeinterface 3 _ => bif Nat.ble (am_cat st) 10 then am_bin bad (fun a b => min a b) (fun st => nxt ls st S) st else bad
  | .invokeinterface 4 _ => match st with
    | .inl a :: st => bif Nat.ble (am_cat st) 8 then ck (am_rg (-a)) (am_rgD _) (nxt ls (.inl (max a (-a)) :: st) S) else bad
    | _ => bad
  | .new ci => ck (S.1.length + 1 ≤ lim.1 ∧ am_sz S.1 + na (1000 + ci) ≤ lim.2) (inferInstanceAs (Decidable (_ ∧ _))) <| nxt ls (.inr (.inr S.1.length) :: st) (S.1 ++ [(10 + ci, na (1000 + ci), List.replicate (na (1000 + ci)) 0)], am_z S)
  | .newarray ty => match st with
    | .inl n :: st => ck (0 ≤ n ∧ n ≤ 100000 ∧ S.1.length + 1 ≤ lim.1 ∧ am_sz S.1 + n.toNat ≤ lim.2) (inferInstanceAs (Decidable (_ ∧ _))) (nxt ls (.inr (.inr S.1.length) :: st) (S.1 ++ [((match ty with | .int => 1 | .long => 2 | .byte => 3 | .boolean => 4 | _ => 0), n.toNat, [])], am_z S))
    | _ => bad
  | .anewarray _ => match st with
    | .inl n :: st => ck (0 ≤ n ∧ n ≤ 100000 ∧ S.1.length + 1 ≤ lim.1 ∧ am_sz S.1 + n.toNat ≤ lim.2) (inferInstanceAs (Decidable (_ ∧ _))) (nxt ls (.inr (.inr S.1.length) :: st) (S.1 ++ [(5, n.toNat, List.replicate n.toNat 0)], am_z S))
    | _ => bad
  | .ireturn => match st with
    | [.inl v] => ret (some (.inl v)) S
    | _ => bad
  | .freturn => match st with
    | [.inl v] => ck (am_tf v) (am_tfD v) (ret (some (.inl v)) S)
    | _ => bad
  | .dreturn => match st with
    | [.inl v] => ck (0 ≤ v ∧ v < 65536) (inferInstanceAs (Decidable (_ ∧ _))) (ret (some (.inl v)) S)
    | _ => bad
  | .lreturn => match st with
    | [.inr (.inl v)] => ret (some (.inr (.inl v))) S
    | _ => bad
  | .return_ => match st with
    | [] => ret none S
    | _ => bad
  | _ => bad
/-- a stretch: up to a jump back, a mark, the end -/
def am_x (code : List aI) : Nat → Nat → List aI → aL → List aV → aS → X
  | 0, _, _, _, _, _ => bad
  | _ + 1, _, [], _, _, _ => bad
  | f + 1, i, ins :: rest, ls, st, S => am_1 ft na lim bad br ck call sp ret cut i ins ls st S (fun ls st S => am_x code f (i + 1) rest ls st S) (fun t ls st S => bif Nat.ble t i then cut t ls st S else am_x code f t (code.drop t) ls st S)
end AM
end
section
/-! numbers of 32 and 64 bits as whole numbers -/
theorem w32_bmod (z : Int) : w32 z = z.bmod 4294967296 := by
  unfold w32
  rw [Int.bmod_def]
  split <;> omega
theorem w64_bmod (z : Int) : w64 z = z.bmod 18446744073709551616 := by
  unfold w64
  rw [Int.bmod_def]
  split <;> omega
theorem w32_id {z : Int} (h : am_rg z) : w32 z = z := by
  obtain ⟨h1, h2⟩ := h
  unfold w32
  omega
theorem w64_id {z : Int} (h : am_rl z) : w64 z = z := by
  obtain ⟨h1, h2⟩ := h
  unfold w64
  omega
theorem w32_rg (z : Int) : am_rg (w32 z) := by
  unfold w32 am_rg
  omega
theorem w64_rl (z : Int) : am_rl (w64 z) := by
  unfold w64 am_rl
  omega
theorem t32 {z : Int} (h : am_rg z) : (Int32.ofInt z).toInt = z := Int32.toInt_ofInt_of_le h.1 h.2
theorem t64 {z : Int} (h : am_rl z) : (Int64.ofInt z).toInt = z := Int64.toInt_ofInt_of_le h.1 h.2
theorem r32 (x : Int32) : am_rg x.toInt := ⟨x.le_toInt, x.toInt_lt⟩
theorem r64 (x : Int64) : am_rl x.toInt := ⟨x.le_toInt, x.toInt_lt⟩
theorem o32 (z : Int) : Int32.ofInt (w32 z) = Int32.ofInt z := by
  apply Int32.toInt.inj
  rw [w32_bmod, Int32.toInt_ofInt, Int32.toInt_ofInt]
  exact Int.bmod_bmod
theorem o64 (z : Int) : Int64.ofInt (w64 z) = Int64.ofInt z := by
  apply Int64.toInt.inj
  rw [w64_bmod, Int64.toInt_ofInt, Int64.toInt_ofInt]
  exact Int.bmod_bmod
theorem add32 (a b : Int) : Int32.ofInt a + Int32.ofInt b = Int32.ofInt (a + b) := by
  apply Int32.toInt.inj
  rw [Int32.toInt_add, Int32.toInt_ofInt, Int32.toInt_ofInt, Int32.toInt_ofInt]
  simp
theorem sub32 (a b : Int) : Int32.ofInt a - Int32.ofInt b = Int32.ofInt (a - b) := by
  apply Int32.toInt.inj
  rw [Int32.toInt_sub, Int32.toInt_ofInt, Int32.toInt_ofInt, Int32.toInt_ofInt]
  simp
theorem mul32 (a b : Int) : Int32.ofInt a * Int32.ofInt b = Int32.ofInt (a * b) := by
  apply Int32.toInt.inj
  rw [Int32.toInt_mul, Int32.toInt_ofInt, Int32.toInt_ofInt, Int32.toInt_ofInt]
  simp
theorem neg32 (a : Int) : - Int32.ofInt a = Int32.ofInt (-a) := by
  apply Int32.toInt.inj
  rw [Int32.toInt_neg, Int32.toInt_ofInt, Int32.toInt_ofInt]
  simp
theorem add64 (a b : Int) : Int64.ofInt a + Int64.ofInt b = Int64.ofInt (a + b) := by
  apply Int64.toInt.inj
  rw [Int64.toInt_add, Int64.toInt_ofInt, Int64.toInt_ofInt, Int64.toInt_ofInt]
  simp
theorem sub64 (a b : Int) : Int64.ofInt a - Int64.ofInt b = Int64.ofInt (a - b) := by
  apply Int64.toInt.inj
  rw [Int64.toInt_sub, Int64.toInt_ofInt, Int64.toInt_ofInt, Int64.toInt_ofInt]
  simp
theorem mul64 (a b : Int) : Int64.ofInt a * Int64.ofInt b = Int64.ofInt (a * b) := by
  apply Int64.toInt.inj
  rw [Int64.toInt_mul, Int64.toInt_ofInt, Int64.toInt_ofInt, Int64.toInt_ofInt]
  simp
theorem div32 {a b : Int} (ha : am_rg a) (hb : am_rg b) : Int32.ofInt a / Int32.ofInt b = Int32.ofInt (a.tdiv b) := by
  apply Int32.toInt.inj
  rw [Int32.toInt_div, t32 ha, t32 hb, Int32.toInt_ofInt]
theorem div64 {a b : Int} (ha : am_rl a) (hb : am_rl b) : Int64.ofInt a / Int64.ofInt b = Int64.ofInt (a.tdiv b) := by
  apply Int64.toInt.inj
  rw [Int64.toInt_div, t64 ha, t64 hb, Int64.toInt_ofInt]
theorem rem32 {a b : Int} (ha : am_rg a) (hb : am_rg b) : Int32.ofInt a - Int32.ofInt a / Int32.ofInt b * Int32.ofInt b = Int32.ofInt (a.tmod b) := by
  rw [div32 ha hb, mul32, sub32]
  congr 1
  have h := Int.tmod_add_mul_tdiv a b
  rw [Int.mul_comm] at h
  omega
theorem tmod_rg {a b : Int} (ha : am_rg a) (hb : am_rg b) (h0 : ¬ b = 0) : am_rg (a.tmod b) := by
  obtain ⟨h1, h2⟩ := ha
  obtain ⟨h3, h4⟩ := hb
  have h := Int.natAbs_tmod a b
  have h5 : a.natAbs % b.natAbs ≤ a.natAbs := Nat.mod_le _ _
  have h6 : a.natAbs % b.natAbs < b.natAbs := Nat.mod_lt _ (by omega)
  refine ⟨?_, ?_⟩ <;> omega
theorem eq32 {a b : Int} (ha : am_rg a) (hb : am_rg b) : Int32.ofInt a = Int32.ofInt b ↔ a = b := by
  refine ⟨fun h => ?_, fun h => by rw [h]⟩
  have h2 := congrArg Int32.toInt h
  rwa [t32 ha, t32 hb] at h2
theorem eq64 {a b : Int} (ha : am_rl a) (hb : am_rl b) : Int64.ofInt a = Int64.ofInt b ↔ a = b := by
  refine ⟨fun h => ?_, fun h => by rw [h]⟩
  have h2 := congrArg Int64.toInt h
  rwa [t64 ha, t64 hb] at h2
theorem lt32 {a b : Int} (ha : am_rg a) (hb : am_rg b) : Int32.ofInt a < Int32.ofInt b ↔ a < b := by rw [Int32.lt_iff_toInt_lt, t32 ha, t32 hb]
theorem le32 {a b : Int} (ha : am_rg a) (hb : am_rg b) : Int32.ofInt a ≤ Int32.ofInt b ↔ a ≤ b := by rw [Int32.le_iff_toInt_le, t32 ha, t32 hb]
theorem lt64 {a b : Int} (ha : am_rl a) (hb : am_rl b) : Int64.ofInt a < Int64.ofInt b ↔ a < b := by rw [Int64.lt_iff_toInt_lt, t64 ha, t64 hb]
theorem rg0 : am_rg 0 := by unfold am_rg; omega
theorem wide32 {a : Int} (ha : am_rg a) : (Int32.ofInt a).toInt64 = Int64.ofInt a := by
  apply Int64.toInt.inj
  rw [Int32.toInt_toInt64, t32 ha, t64]
  obtain ⟨h1, h2⟩ := ha
  exact ⟨by omega, by omega⟩
theorem rg_rl {a : Int} (ha : am_rg a) : am_rl a := by
  obtain ⟨h1, h2⟩ := ha
  exact ⟨by omega, by omega⟩
theorem slim64 (a : Int) : (Int64.ofInt a).toInt32 = Int32.ofInt (w32 a) := by rw [o32]; exact Int64.toInt32_ofInt
theorem w8_rg (a : Int) : -128 ≤ w8 a ∧ w8 a < 128 := by unfold w8; omega
theorem w8_bmod (z : Int) : w8 z = z.bmod 256 := by
  unfold w8
  rw [Int.bmod_def]
  split <;> omega
theorem byte32 (a : Int) : (Int32.ofInt a).toInt8.toInt32 = Int32.ofInt (w8 a) := by
  apply Int32.toInt.inj
  have h1 : am_rg (w8 a) := by have := w8_rg a; unfold am_rg; omega
  rw [Int8.toInt_toInt32, Int32.toInt_toInt8, t32 h1, w8_bmod, Int32.toInt_ofInt]
  exact Int.bmod_bmod_of_dvd (show (2 ^ 8) ∣ Int32.size by decide)
theorem byteN {a : Int} (h : -128 ≤ a ∧ a < 128) : w8 a = a := by unfold w8; omega
theorem char32 (a : Int) : ((Int32.ofInt a).toUInt32 % 65536).toInt32 = Int32.ofInt (a % 65536) := by
  rw [pk_char]
  apply Int32.toInt.inj
  rw [nI_toInt (by omega), t32 (by unfold am_rg; omega)]
  have h : (Int32.ofInt a).toBitVec = BitVec.ofInt 32 a := rfl
  rw [h, BitVec.toNat_ofInt]
  omega
theorem sgn64 {a b : Int} (ha : am_rl a) (hb : am_rl b) : lg_cmp (Int64.ofInt a) (Int64.ofInt b) = Int32.ofInt (am_sgn (a - b)) := by
  unfold lg_cmp am_sgn
  by_cases h1 : b < a
  · rw [if_pos (show Int64.ofInt a > Int64.ofInt b from (lt64 hb ha).mpr h1), if_pos (by omega)]; rfl
  · rw [if_neg (show ¬ Int64.ofInt a > Int64.ofInt b from fun h => h1 ((lt64 hb ha).mp h)), if_neg (show ¬ 0 < a - b by omega)]
    by_cases h2 : a = b
    · rw [if_pos ((eq64 ha hb).mpr h2), if_pos (by omega)]; rfl
    · rw [if_neg (fun h => h2 ((eq64 ha hb).mp h)), if_neg (by omega)]; rfl
theorem sgn_rg (z : Int) : am_rg (am_sgn z) := by
  unfold am_sgn am_rg
  split
  · omega
  · split <;> omega
theorem ix32 {i : Int} {n : Nat} (hi : am_ix i n) (hr : am_rg i) : vp_in (Int32.ofInt i) n := by
  rw [vp_in_iff, t32 hr]
  exact hi
theorem cl32 {i : Int} (hr : am_rg i) : (Int32.ofInt i).toNatClampNeg = i.toNat := by
  rw [← Int32.toNat_toInt, t32 hr]
end
section
/-! the abstract machine's states as worlds of the kit -/
theorem am_up_at (h : aH) (r k : Nat) (v : Int) (q j : Nat) : am_up h r k v q j = if q = r ∧ j = k then v else h q j := by
  unfold am_up
  by_cases e : q = r ∧ j = k
  · rw [if_pos e, e.1, e.2]; simp
  · rw [if_neg e]
    have : (Nat.beq q r && Nat.beq j k) = false := by
      rw [Bool.and_eq_false_iff]
      by_cases e1 : q = r
      · exact Or.inr (nb_ne fun z => e ⟨e1, z⟩)
      · exact Or.inl (nb_ne e1)
    rw [this]; rfl
/-- a value -/
def cv (ad : Nat → Nat) : aV → Value
  | .inl x => .int (Int32.ofInt x)
  | .inr (.inl x) => .long (Int64.ofInt x)
  | .inr (.inr r) => bif Nat.beq r 0 || (Nat.beq r 8 && Nat.beq (ad 0) 0) then .null else .ref (ad r)
theorem cv_ref {ad : Nat → Nat} {r : Nat} (h0 : r ≠ 0) (h8 : r ≠ 8) : cv ad (.inr (.inr r)) = .ref (ad r) := by
  simp [cv, nb_ne h0, nb_ne h8]
def ok_v : aV → Prop
  | .inl x => am_rg x
  | .inr (.inl x) => am_rl x
  | .inr (.inr _) => True
def ok_t (ty : Nat) (z : Int) : Prop := match ty with
  | 0 => True
  | 2 => am_rl z
  | 3 => am_tf z
  | 4 => -128 ≤ z ∧ z < 128
  | _ => am_rg z
/-- what a place of a cell holds -/
def am_ty (ft : Nat → Nat → Nat) (sh : List aC) (r k : Nat) : Nat := match am_kd sh r with
  | 1 => 1
  | 2 => 2
  | 3 => 4
  | 4 => 3
  | 5 => 0
  | 6 => 1
  | 7 => 2
  | 8 => 4
  | n => ft (n - 10) k
def ok_h (ft : Nat → Nat → Nat) (S : aS) : Prop := ∀ r k : Nat, ok_t (am_ty ft S.1 r k) (S.2 r k)
def am_opt (ad : Nat → Nat) (r : Nat) : Option Nat := bif Nat.beq r 0 || (Nat.beq r 8 && Nat.beq (ad 0) 0) then none else some (ad r)
theorem am_opt_cv (ad : Nat → Nat) (r : Nat) : va_rf (am_opt ad r) = cv ad (.inr (.inr r)) := by
  show va_rf (am_opt ad r) = (bif Nat.beq r 0 || (Nat.beq r 8 && Nat.beq (ad 0) 0) then .null else .ref (ad r))
  unfold am_opt
  cases (Nat.beq r 0 || (Nat.beq r 8 && Nat.beq (ad 0) 0)) <;> rfl
def am_fv (ad : Nat → Nat) (ty : Nat) (rs : List Nat) (h : Nat → Int) (k : Nat) : Value := match ty with
  | 0 => cv ad (.inr (.inr (am_nth 0 rs k)))
  | 2 => .long (Int64.ofInt (h k))
  | _ => .int (Int32.ofInt (h k))
/-- a cell as the kit has it -/
def am_e (ft : Nat → Nat → Nat) (ct : Nat → ClassId) (ad : Nat → Nat) (c : aC) (h : Nat → Int) : va_E := match c.1 with
  | 1 => .inl (ct 1, c.2.1, .inl fun j => Int32.ofInt (h j))
  | 2 => .inl (ct 2, c.2.1, .inr (.inl fun j => Int64.ofInt (h j)))
  | 3 => .inl (ct 3, c.2.1, .inl fun j => Int32.ofInt (h j))
  | 4 => .inl (ct 4, c.2.1, .inl fun j => Int32.ofInt (h j))
  | 5 => .inl (ct 5, c.2.1, .inr (.inr (.inr (.inr fun j => am_opt ad (am_nth 0 c.2.2 j)))))
  | n => .inr (n - 10, (List.range c.2.1).map fun k => am_fv ad (ft (n - 10) k) c.2.2 h k)
def am_w (ft : Nat → Nat → Nat) (ct : Nat → ClassId) (ad : Nat → Nat) (S : aS) : va_W := (List.range (S.1.length - 9)).map fun j => (ad (9 + j), am_e ft ct ad (am_nth am_o0 S.1 (9 + j)) (S.2 (9 + j)))
section WD
variable {ft : Nat → Nat → Nat} {ct : Nat → ClassId} {ad : Nat → Nat}
theorem am_w_len (S : aS) : (am_w ft ct ad S).length = S.1.length - 9 := by simp [am_w]
theorem am_w_get {S : aS} {r : Nat} (h8 : 9 ≤ r) (hr : r < S.1.length) : (am_w ft ct ad S)[r - 9]? = some (ad r, am_e ft ct ad (am_nth am_o0 S.1 r) (S.2 r)) := by
  simp only [am_w, List.getElem?_map]
  rw [List.getElem?_range (by omega)]
  show some (ad (9 + (r - 9)), am_e ft ct ad (am_nth am_o0 S.1 (9 + (r - 9))) (S.2 (9 + (r - 9)))) = _
  rw [show 9 + (r - 9) = r by omega]
theorem am_w_inv {S : aS} {k : Nat} {q : Nat × va_E} (h : (am_w ft ct ad S)[k]? = some q) : 9 + k < S.1.length ∧ q = (ad (9 + k), am_e ft ct ad (am_nth am_o0 S.1 (9 + k)) (S.2 (9 + k))) := by
  have hl : k < (am_w ft ct ad S).length := (List.getElem?_eq_some_iff.mp h).1
  rw [am_w_len] at hl
  have h2 := am_w_get (ft := ft) (ct := ct) (ad := ad) (S := S) (r := 9 + k) (by omega) (by omega)
  rw [show 9 + k - 9 = k by omega] at h2
  rw [h2] at h
  exact ⟨by omega, (Option.some.inj h).symm⟩
/-- the addresses stand one behind the other -/
def am_row (ad : Nat → Nat) : Prop := ∀ r, 9 ≤ r → ad r = ad 9 + (r - 9)
theorem am_w_D (hrow : am_row ad) (S : aS) : va_D (fun q => ad 9 ≤ q) (am_w ft ct ad S) := by
  refine ⟨fun i j p q hi hj hpq => ?_, fun k q hk => ?_⟩
  · obtain ⟨-, e1⟩ := am_w_inv hi
    obtain ⟨-, e2⟩ := am_w_inv hj
    rw [e1, e2] at hpq
    have h1 := hrow (9 + i) (by omega)
    have h2 := hrow (9 + j) (by omega)
    simp only at hpq
    omega
  · obtain ⟨-, e1⟩ := am_w_inv hk
    rw [e1, hrow (9 + k) (by omega)]
    show ad 9 ≤ _
    omega
/-- one cell anew -/
theorem am_w_set {S T : aS} {r : Nat} {x : va_E} (h8 : 9 ≤ r) (hr : r < S.1.length) (hl : T.1.length = S.1.length) (hx : am_e ft ct ad (am_nth am_o0 T.1 r) (T.2 r) = x)
    (ho : ∀ q, q ≠ r → 9 ≤ q → am_e ft ct ad (am_nth am_o0 T.1 q) (T.2 q) = am_e ft ct ad (am_nth am_o0 S.1 q) (S.2 q)) : (am_w ft ct ad S).set (r - 9) (ad r, x) = am_w ft ct ad T := by
  apply List.ext_getElem?
  intro k
  by_cases hk : k = r - 9
  · subst hk
    rw [List.getElem?_set_self (by rw [am_w_len]; omega), am_w_get h8 (by omega), hx]
  · rw [List.getElem?_set_ne (fun z => hk z.symm)]
    by_cases hlt : 9 + k < S.1.length
    · have e1 := am_w_get (ft := ft) (ct := ct) (ad := ad) (S := S) (r := 9 + k) (by omega) hlt
      have e2 := am_w_get (ft := ft) (ct := ct) (ad := ad) (S := T) (r := 9 + k) (by omega) (by omega)
      rw [show 9 + k - 9 = k by omega] at e1 e2
      rw [e1, e2, ho (9 + k) (by omega) (by omega)]
    · rw [List.getElem?_eq_none (by rw [am_w_len]; omega), List.getElem?_eq_none (by rw [am_w_len]; omega)]
theorem am_w_push {S T : aS} {c : aC} {x : va_E} (h8 : 9 ≤ S.1.length) (hT : T.1 = S.1 ++ [c]) (hx : am_e ft ct ad c (T.2 S.1.length) = x)
    (ho : ∀ q, q < S.1.length → T.2 q = S.2 q) : am_w ft ct ad S ++ [(ad S.1.length, x)] = am_w ft ct ad T := by
  have hlT : T.1.length = S.1.length + 1 := by rw [hT]; simp
  apply List.ext_getElem?
  intro k
  by_cases hlt : 9 + k < S.1.length
  · have e1 := am_w_get (ft := ft) (ct := ct) (ad := ad) (S := S) (r := 9 + k) (by omega) hlt
    have e2 := am_w_get (ft := ft) (ct := ct) (ad := ad) (S := T) (r := 9 + k) (by omega) (by omega)
    rw [show 9 + k - 9 = k by omega] at e1 e2
    rw [List.getElem?_append_left (by rw [am_w_len]; omega), e1, e2, hT, am_nth_app _ _ _ _ hlt, ho _ hlt]
  · rw [List.getElem?_append_right (by rw [am_w_len]; omega), am_w_len]
    by_cases he : 9 + k = S.1.length
    · have e2 := am_w_get (ft := ft) (ct := ct) (ad := ad) (S := T) (r := S.1.length) h8 (by omega)
      rw [show S.1.length - 9 = k by omega] at e2
      rw [show k - (S.1.length - 9) = 0 by omega, e2, hT, am_nth_last, hx]
      rfl
    · rw [List.getElem?_eq_none (by simp; omega), List.getElem?_eq_none (by rw [am_w_len]; omega)]
end WD
end
section
/-! SOUNDNESS: what the abstract machine does, the machine does -/
def am_A (ad : Nat → Nat) : Nat → Prop := fun q => ad 9 ≤ q
def am_ts (ct : Nat → ClassId) : List (ClassId × FieldType) := [(ct 1, .int), (ct 2, .long), (ct 3, .byte), (ct 4, .boolean), (ct 5, .object "WakeHouse$State")]
/-- what was there before: arrays, texts, static fields -/
def XF (ad : Nat → Nat) (S : aS) (U : State) (H : Heap) : Prop :=
  (∀ r, r < 9 → (am_kd S.1 r = 6 → va_T .int (ad r) (am_nth am_o0 S.1 r).2.1 (fun j => .int (Int32.ofInt (S.2 r j))) (am_A ad) U H)
    ∧ (am_kd S.1 r = 7 → va_T .long (ad r) (am_nth am_o0 S.1 r).2.1 (fun j => .long (Int64.ofInt (S.2 r j))) (am_A ad) U H)
    ∧ (am_kd S.1 r = 8 → va_T .byte (ad r) (am_nth am_o0 S.1 r).2.1 (fun j => .int (Int32.ofInt (S.2 r j))) (am_A ad) U H)
    ∧ (am_kd S.1 r = 30 → va_O "java/lang/String" (ad r) (am_A ad) U H ∧ va_OF "java/lang/String" "value" "[B" (cv ad (.inr (.inr (am_nth 0 (am_nth am_o0 S.1 r).2.2 0)))) (ad r) (am_A ad) U H ∧ va_OF "java/lang/String" "coder" "B" (.int (Int32.ofInt (S.2 r 1))) (ad r) (am_A ad) U H))
  ∧ va_Z "WakeHouse" "HUNDREDS" "[J" (.ref (ad 2)) (am_A ad) U H
  ∧ va_Z "WakeHouse$Shaking" "NINES" "[I" (.ref (ad 3)) (am_A ad) U H
  ∧ va_Z "jdk/internal/util/Preconditions" "SIOOBE_FORMATTER" "Ljava/util/function/BiFunction;" (cv ad (.inr (.inr 8))) (am_A ad) U H
  ∧ va_Z "java/lang/String" "COMPACT_STRINGS" "Z" (.int 1) (am_A ad) U H
  ∧ vk_R "WakeHouse$Tape" 27 "loud gap floors hour deep wool after bed clock fast slow sleeper in up late vain hears again " (ad 4) U
  ∧ vk_R "WakeHouse$Tape" 81 ";+-*/<()[]" (ad 6) U
theorem XF.same {ad : Nat → Nat} {S T : aS} {U : State} {H : Heap} (h : XF ad S U H) (h1 : ∀ r, r < 9 → am_nth am_o0 T.1 r = am_nth am_o0 S.1 r) (h2 : ∀ r, r < 9 → T.2 r = S.2 r) : XF ad T U H := by
  refine ⟨fun r hr => ?_, h.2⟩
  have hk : am_kd T.1 r = am_kd S.1 r := by unfold am_kd; rw [h1 r hr]
  rw [hk, h1 r hr, h2 r hr]
  exact h.1 r hr
theorem XF.kept {ad : Nat → Nat} {S : aS} {U : State} {H H1 : Heap} (h : XF ad S U H) (hq : ∀ a : Nat, a < H.size → ¬ am_A ad a → H1[a]? = H[a]?) : XF ad S U H1 := by
  obtain ⟨h1, h2, h3, h4, h5, h6, h7⟩ := h
  refine ⟨fun r hr => ?_, h2.kept hq, h3.kept hq, h4.kept hq, h5.kept hq, h6, h7⟩
  obtain ⟨a1, a2, a3, a4⟩ := h1 r hr
  exact ⟨fun z => (a1 z).kept hq, fun z => (a2 z).kept hq, fun z => (a3 z).kept hq, fun z => ⟨(a4 z).1.kept hq, (a4 z).2.1.kept hq, (a4 z).2.2.kept hq⟩⟩
theorem XF.warm {ad : Nat → Nat} {S : aS} {s U : State} {H : Heap} (hW : s.WarmedH U.vm) (h : XF ad S s H) : XF ad S U H := by
  obtain ⟨h1, h2, h3, h4, h5, h6, h7⟩ := h
  have hv := hW.alike
  refine ⟨fun r hr => ?_, h2.moved hv, h3.moved hv, h4.moved hv, h5.moved hv, h6.warm hW, h7.warm hW⟩
  obtain ⟨a1, a2, a3, a4⟩ := h1 r hr
  exact ⟨fun z => (a1 z).moved hv, fun z => (a2 z).moved hv, fun z => (a3 z).moved hv, fun z => ⟨(a4 z).1.moved hv, (a4 z).2.1.moved hv, (a4 z).2.2.moved hv⟩⟩
/-- words that are handed down by themselves -/
def lw_n : Cond → Bool
  | .methodLinkNest .. => true
  | .fieldLinkNest .. => true
  | .arrayOver (.object _) => true
  | _ => false
def lw_use (w : Cond) : Bool := goodWord w || lw_n w
def lw_g : List Cond := lw_tbl.filter goodWord
def XN (U : State) : Prop := ∀ w ∈ lw_tbl, lw_n w = true → w.before #[] U = true
theorem XN.warm {s U : State} (hW : s.WarmedH U.vm) (h : XN s) : XN U := by
  intro w hw hn
  have h1 := h w hw hn
  match w, hn, h1 with
  | .methodLinkNest .., _, h1 => exact va_Nw.warmM hW h1
  | .fieldLinkNest .., _, h1 => exact va_Nw.warmF hW h1
  | .arrayOver (.object C), _, h1 => exact va_AO.moved hW.alike h1
theorem XN.use {args : Array Value} {s : State} (hg : ∀ w ∈ lw_g, w.before args s = true) (h : XN s) : ∀ w ∈ lw_tbl, lw_use w = true → w.before args s = true := by
  intro w hw hu
  cases hgw : goodWord w with
  | true => exact hg w (List.mem_filter.mpr ⟨hw, hgw⟩)
  | false =>
    unfold lw_use at hu
    rw [hgw, Bool.false_or] at hu
    have h1 := h w hw hu
    match w, hu, h1 with
    | .methodLinkNest .., _, h1 => exact va_Nw.use rfl h1
    | .fieldLinkNest .., _, h1 => exact va_Nw.use rfl h1
    | .arrayOver (.object C), _, h1 => exact h1
theorem XN.of {args : Array Value} {s : State} (h : ∀ w ∈ lw_tbl, w.before args s = true) : XN s := by
  intro w hw hn
  have h1 := h w hw
  match w, hn, h1 with
  | .methodLinkNest .., _, h1 => exact va_Nw.of rfl h1
  | .fieldLinkNest .., _, h1 => exact va_Nw.of rfl h1
  | .arrayOver (.object C), _, h1 => exact h1
theorem XN.ofU {args : Array Value} {s : State} (h : ∀ w ∈ lw_tbl, lw_use w = true → w.before args s = true) : XN s := by
  intro w hw hn
  have h1 := h w hw (by unfold lw_use; rw [hn, Bool.or_true])
  match w, hn, h1 with
  | .methodLinkNest .., _, h1 => exact va_Nw.of rfl h1
  | .fieldLinkNest .., _, h1 => exact va_Nw.of rfl h1
  | .arrayOver (.object C), _, h1 => exact h1
theorem use_g {args : Array Value} {s : State} (h : ∀ w ∈ lw_tbl, lw_use w = true → w.before args s = true) : ∀ w ∈ lw_g, w.before args s = true := fun w hw => h w (List.mem_filter.mp hw).1 (by unfold lw_use; rw [(List.mem_filter.mp hw).2]; rfl)
/-- everything around a method's run -/
abbrev aG : Type := Program × Launch × Env × Room × State × MethodId × Array Value × List Frame × Method × Code × (State → Prop) × Nat × (Nat → ClassId) × (Nat → Nat → Nat) × (Nat → ClassId) × (Nat → Nat) × Nat × Nat × (Nat → aC × (Nat → Int))
/-- what stays through it -/
def FX (G : aG) (cc : ByteArray) (own : Nat) : Prop := match G with
  | (p, l, e, R, s, m, args, below, meth, c, Q, nL, dC, dI, ct, ad, n0, z0, x0) =>
    p.tables.exec = Jvm.exec ∧ c.code = cc ∧ c.maxLocals = nL ∧ s.vm.findClass (cN own) = some m.cls ∧ (∀ w ∈ lw_tbl, lw_use w = true → w.before args s = true) ∧ va_K (dC, dI) vwCl (am_ts ct) s ∧ am_row ad ∧ s.heap.size = ad 9 + (n0 - 9) ∧ 9 ≤ n0
/-- what was there before is as it was -/
def XA (x0 : Nat → aC × (Nat → Int)) (S : aS) : Prop := ∀ r, r < 9 → am_nth am_o0 S.1 r = (x0 r).1 ∧ S.2 r = (x0 r).2
/-- the world of a state -/
def RR (G : aG) (S : aS) (H : Heap) (locs : List Loc) : Prop := match G with
  | (p, l, e, R, s, m, args, below, meth, c, Q, nL, dC, dI, ct, ad, n0, z0, x0) =>
    va_P (dC, dI) vwCl (am_w ftab ct ad S) H ∧ va_S (am_A ad) s.heap H locs ∧ ok_h ftab S ∧ (n0 ≤ S.1.length ∧ S.1.length ≤ n0 + R.cells) ∧ ((z0 ≤ am_sz S.1 ∧ am_sz S.1 ≤ z0 + R.slots) ∧ XA x0 S) ∧ XF ad S s s.heap
/-- the machine at a place -/
def WP (G : aG) (pc : Nat) (lsC : Array Slot) (st : List Value) (S : aS) (H : Heap) (locs : List Loc) : Prop := match G with
  | (p, l, e, R, s, m, args, below, meth, c, Q, nL, dC, dI, ct, ad, n0, z0, x0) => W p l e R s m args below meth c H locs (S.1.length - n0) (am_sz S.1 - z0) Q (F0 m pc lsC st)
def aAd (G : aG) : Nat → Nat := G.2.2.2.2.2.2.2.2.2.2.2.2.2.2.2.1
def anL (G : aG) : Nat := G.2.2.2.2.2.2.2.2.2.2.2.1
def am_ll (ad : Nat → Nat) (ls : aL) : List (Nat × Value) := ls.map fun q => (q.1, cv ad q.2)
def WA (G : aG) (pc : Nat) (ls : aL) (st : List aV) (S : aS) : Prop :=
  ∀ (H : Heap) (locs : List Loc) (lsC : Array Slot), RR G S H locs → lv_has lsC (anL G) (am_ll (aAd G) ls) → (∀ q ∈ ls, ok_v q.2) → (∀ v ∈ st, ok_v v) → WP G pc lsC (st.map (cv (aAd G))) S H locs
/-- one instruction that works on the pile alone -/
theorem WA.stk {G : aG} {pc pc2 : Nat} {ls : aL} {st st2 : List aV} {S : aS} (k : WA G pc2 ls st2 S) (row : (∀ v ∈ st, ok_v v) → ∀ (H : Heap) (locs : List Loc) (lsC : Array Slot), WP G pc2 lsC (st2.map (cv (aAd G))) S H locs → WP G pc lsC (st.map (cv (aAd G))) S H locs)
    (ho : (∀ v ∈ st, ok_v v) → ∀ v ∈ st2, ok_v v) : WA G pc ls st S := fun H locs lsC hR hl h1 h2 => row h2 H locs lsC (k H locs lsC hR hl h1 (ho h2))
theorem ok_c {v : aV} {st : List aV} : (∀ w ∈ v :: st, ok_v w) ↔ ok_v v ∧ ∀ w ∈ st, ok_v w := List.forall_mem_cons
/-- two ints to one -/
theorem WA.bin {G : aG} {pc : Nat} {ls : aL} {st : List aV} {S : aS} {a b r : Int} {g : Int32 → Int32 → Int32} (row : ∀ (x y : Int32) (rest : List Value) (H : Heap) (locs : List Loc) (lsC : Array Slot), WP G (pc + 1) lsC (.int (g x y) :: rest) S H locs → WP G pc lsC (.int y :: .int x :: rest) S H locs)
    (hf : am_rg a → am_rg b → Int32.ofInt r = g (Int32.ofInt a) (Int32.ofInt b)) (hr : am_rg a → am_rg b → am_rg r) (k : WA G (pc + 1) ls (.inl r :: st) S) : WA G pc ls (.inl b :: .inl a :: st) S := by
  refine WA.stk k (fun ho H locs lsC kk => ?_) (fun ho => ?_)
  · obtain ⟨hb, ho⟩ := ok_c.mp ho
    obtain ⟨ha, ho⟩ := ok_c.mp ho
    refine row _ _ _ H locs lsC ?_
    rw [← hf ha hb]
    exact kk
  · obtain ⟨hb, ho⟩ := ok_c.mp ho
    obtain ⟨ha, ho⟩ := ok_c.mp ho
    exact ok_c.mpr ⟨hr ha hb, ho⟩
theorem WA.binL {G : aG} {pc : Nat} {ls : aL} {st : List aV} {S : aS} {a b r : Int} {g : Int64 → Int64 → Int64} (row : ∀ (x y : Int64) (rest : List Value) (H : Heap) (locs : List Loc) (lsC : Array Slot), WP G (pc + 1) lsC (.long (g x y) :: rest) S H locs → WP G pc lsC (.long y :: .long x :: rest) S H locs)
    (hf : am_rl a → am_rl b → Int64.ofInt r = g (Int64.ofInt a) (Int64.ofInt b)) (hr : am_rl a → am_rl b → am_rl r) (k : WA G (pc + 1) ls (.inr (.inl r) :: st) S) : WA G pc ls (.inr (.inl b) :: .inr (.inl a) :: st) S := by
  refine WA.stk k (fun ho H locs lsC kk => ?_) (fun ho => ?_)
  · obtain ⟨hb, ho⟩ := ok_c.mp ho
    obtain ⟨ha, ho⟩ := ok_c.mp ho
    refine row _ _ _ H locs lsC ?_
    rw [← hf ha hb]
    exact kk
  · obtain ⟨hb, ho⟩ := ok_c.mp ho
    obtain ⟨ha, ho⟩ := ok_c.mp ho
    exact ok_c.mpr ⟨hr ha hb, ho⟩
section S20
variable {G : aG} {cc : ByteArray} {own pc : Nat} {ls : aL} {st : List aV} {S : aS}
theorem s_iadd {a b r : Int} (hF : FX G cc own) (hd : decode cc pc = .ok (.iadd, 1)) (hr : Int32.ofInt r = Int32.ofInt (a + b)) (hg : am_rg r) (k : WA G (pc + 1) ls (.inl r :: st) S) : WA G pc ls (.inl b :: .inl a :: st) S := by
  obtain ⟨p, l, e, R, s, m, args, below, meth, c, Q, nL, dC, dI, ct, ad, n0, z0, x0⟩ := G
  exact WA.bin (fun x y rest H locs lsC kk => lv_iadd hF.1 hF.2.1 hd kk) (fun _ _ => by rw [add32, hr]) (fun _ _ => hg) k
theorem s_isub {a b r : Int} (hF : FX G cc own) (hd : decode cc pc = .ok (.isub, 1)) (hr : Int32.ofInt r = Int32.ofInt (a - b)) (hg : am_rg r) (k : WA G (pc + 1) ls (.inl r :: st) S) : WA G pc ls (.inl b :: .inl a :: st) S := by
  obtain ⟨p, l, e, R, s, m, args, below, meth, c, Q, nL, dC, dI, ct, ad, n0, z0, x0⟩ := G
  exact WA.bin (fun x y rest H locs lsC kk => lv_isub hF.1 hF.2.1 hd kk) (fun _ _ => by rw [sub32, hr]) (fun _ _ => hg) k
theorem s_imul {a b r : Int} (hF : FX G cc own) (hd : decode cc pc = .ok (.imul, 1)) (hr : Int32.ofInt r = Int32.ofInt (a * b)) (hg : am_rg r) (k : WA G (pc + 1) ls (.inl r :: st) S) : WA G pc ls (.inl b :: .inl a :: st) S := by
  obtain ⟨p, l, e, R, s, m, args, below, meth, c, Q, nL, dC, dI, ct, ad, n0, z0, x0⟩ := G
  exact WA.bin (fun x y rest H locs lsC kk => lv_imul hF.1 hF.2.1 hd kk) (fun _ _ => by rw [mul32, hr]) (fun _ _ => hg) k
theorem s_ladd {a b r : Int} (hF : FX G cc own) (hd : decode cc pc = .ok (.ladd, 1)) (hr : Int64.ofInt r = Int64.ofInt (a + b)) (hg : am_rl r) (k : WA G (pc + 1) ls (.inr (.inl r) :: st) S) : WA G pc ls (.inr (.inl b) :: .inr (.inl a) :: st) S := by
  obtain ⟨p, l, e, R, s, m, args, below, meth, c, Q, nL, dC, dI, ct, ad, n0, z0, x0⟩ := G
  exact WA.binL (fun x y rest H locs lsC kk => lv_ladd hF.1 hF.2.1 hd kk) (fun _ _ => by rw [add64, hr]) (fun _ _ => hg) k
theorem s_lsub {a b r : Int} (hF : FX G cc own) (hd : decode cc pc = .ok (.lsub, 1)) (hr : Int64.ofInt r = Int64.ofInt (a - b)) (hg : am_rl r) (k : WA G (pc + 1) ls (.inr (.inl r) :: st) S) : WA G pc ls (.inr (.inl b) :: .inr (.inl a) :: st) S := by
  obtain ⟨p, l, e, R, s, m, args, below, meth, c, Q, nL, dC, dI, ct, ad, n0, z0, x0⟩ := G
  exact WA.binL (fun x y rest H locs lsC kk => lv_lsub hF.1 hF.2.1 hd kk) (fun _ _ => by rw [sub64, hr]) (fun _ _ => hg) k
theorem s_lmul {a b r : Int} (hF : FX G cc own) (hd : decode cc pc = .ok (.lmul, 1)) (hr : Int64.ofInt r = Int64.ofInt (a * b)) (hg : am_rl r) (k : WA G (pc + 1) ls (.inr (.inl r) :: st) S) : WA G pc ls (.inr (.inl b) :: .inr (.inl a) :: st) S := by
  obtain ⟨p, l, e, R, s, m, args, below, meth, c, Q, nL, dC, dI, ct, ad, n0, z0, x0⟩ := G
  exact WA.binL (fun x y rest H locs lsC kk => lv_lmul hF.1 hF.2.1 hd kk) (fun _ _ => by rw [mul64, hr]) (fun _ _ => hg) k
end S20
end
section
/-! rows of single instructions: numbers, the pile, locals, branches -/
section S22
variable {G : aG} {cc : ByteArray} {own pc : Nat} {ls : aL} {st : List aV} {S : aS}
theorem s_iand {a b : Int} (hF : FX G cc own) (hd : decode cc pc = .ok (.iand, 1)) (k : WA G (pc + 1) ls (.inl (am_and a b) :: st) S) : WA G pc ls (.inl b :: .inl a :: st) S := by
  obtain ⟨p, l, e, R, s, m, args, below, meth, c, Q, nL, dC, dI, ct, ad, n0, z0, x0⟩ := G
  exact WA.bin (fun x y rest H locs lsC kk => lv_iand hF.1 hF.2.1 hd kk) (fun _ _ => Int32.ofInt_toInt _) (fun _ _ => r32 _) k
theorem s_ior {a b : Int} (hF : FX G cc own) (hd : decode cc pc = .ok (.ior, 1)) (k : WA G (pc + 1) ls (.inl (am_or a b) :: st) S) : WA G pc ls (.inl b :: .inl a :: st) S := by
  obtain ⟨p, l, e, R, s, m, args, below, meth, c, Q, nL, dC, dI, ct, ad, n0, z0, x0⟩ := G
  exact WA.bin (fun x y rest H locs lsC kk => lv_ior hF.1 hF.2.1 hd kk) (fun _ _ => Int32.ofInt_toInt _) (fun _ _ => r32 _) k
theorem s_ixor {a b : Int} (hF : FX G cc own) (hd : decode cc pc = .ok (.ixor, 1)) (k : WA G (pc + 1) ls (.inl (am_xor a b) :: st) S) : WA G pc ls (.inl b :: .inl a :: st) S := by
  obtain ⟨p, l, e, R, s, m, args, below, meth, c, Q, nL, dC, dI, ct, ad, n0, z0, x0⟩ := G
  exact WA.bin (fun x y rest H locs lsC kk => lv_ixor hF.1 hF.2.1 hd kk) (fun _ _ => Int32.ofInt_toInt _) (fun _ _ => r32 _) k
theorem s_ishl {a b : Int} (hF : FX G cc own) (hd : decode cc pc = .ok (.ishl, 1)) (k : WA G (pc + 1) ls (.inl (am_shl a b) :: st) S) : WA G pc ls (.inl b :: .inl a :: st) S := by
  obtain ⟨p, l, e, R, s, m, args, below, meth, c, Q, nL, dC, dI, ct, ad, n0, z0, x0⟩ := G
  exact WA.bin (fun x y rest H locs lsC kk => lv_ishl hF.1 hF.2.1 hd kk) (fun _ _ => Int32.ofInt_toInt _) (fun _ _ => r32 _) k
theorem s_ishr {a b : Int} (hF : FX G cc own) (hd : decode cc pc = .ok (.ishr, 1)) (k : WA G (pc + 1) ls (.inl (am_shr a b) :: st) S) : WA G pc ls (.inl b :: .inl a :: st) S := by
  obtain ⟨p, l, e, R, s, m, args, below, meth, c, Q, nL, dC, dI, ct, ad, n0, z0, x0⟩ := G
  exact WA.bin (fun x y rest H locs lsC kk => lv_ishr hF.1 hF.2.1 hd kk) (fun _ _ => Int32.ofInt_toInt _) (fun _ _ => r32 _) k
theorem s_iushr {a b : Int} (hF : FX G cc own) (hd : decode cc pc = .ok (.iushr, 1)) (k : WA G (pc + 1) ls (.inl (am_ushr a b) :: st) S) : WA G pc ls (.inl b :: .inl a :: st) S := by
  obtain ⟨p, l, e, R, s, m, args, below, meth, c, Q, nL, dC, dI, ct, ad, n0, z0, x0⟩ := G
  exact WA.bin (g := fun x y => (x.toUInt32 >>> (y.toUInt32 &&& Int32.toUInt32 31)).toInt32) (fun x y rest H locs lsC kk => lv_iushr hF.1 hF.2.1 hd rfl kk) (fun _ _ => Int32.ofInt_toInt _) (fun _ _ => r32 _) k
theorem s_land {a b : Int} (hF : FX G cc own) (hd : decode cc pc = .ok (.land, 1)) (k : WA G (pc + 1) ls (.inr (.inl (am_land a b)) :: st) S) : WA G pc ls (.inr (.inl b) :: .inr (.inl a) :: st) S := by
  obtain ⟨p, l, e, R, s, m, args, below, meth, c, Q, nL, dC, dI, ct, ad, n0, z0, x0⟩ := G
  exact WA.binL (fun x y rest H locs lsC kk => lv_land hF.1 hF.2.1 hd kk) (fun _ _ => Int64.ofInt_toInt _) (fun _ _ => r64 _) k
theorem s_lxor {a b : Int} (hF : FX G cc own) (hd : decode cc pc = .ok (.lxor, 1)) (k : WA G (pc + 1) ls (.inr (.inl (am_lxor a b)) :: st) S) : WA G pc ls (.inr (.inl b) :: .inr (.inl a) :: st) S := by
  obtain ⟨p, l, e, R, s, m, args, below, meth, c, Q, nL, dC, dI, ct, ad, n0, z0, x0⟩ := G
  exact WA.binL (fun x y rest H locs lsC kk => lv_lxor hF.1 hF.2.1 hd kk) (fun _ _ => Int64.ofInt_toInt _) (fun _ _ => r64 _) k
theorem s_idiv {a b : Int} (hF : FX G cc own) (hd : decode cc pc = .ok (.idiv, 1)) (h0 : ¬ b = 0) (k : WA G (pc + 1) ls (.inl (w32 (a.tdiv b)) :: st) S) : WA G pc ls (.inl b :: .inl a :: st) S := by
  obtain ⟨p, l, e, R, s, m, args, below, meth, c, Q, nL, dC, dI, ct, ad, n0, z0, x0⟩ := G
  refine WA.stk k (fun ho H locs lsC kk => ?_) (fun ho => ok_c.mpr ⟨w32_rg _, (ok_c.mp (ok_c.mp ho).2).2⟩)
  obtain ⟨hb, ho⟩ := ok_c.mp ho
  obtain ⟨ha, ho⟩ := ok_c.mp ho
  refine lv_idiv (x := Int32.ofInt a) (y := Int32.ofInt b) hF.1 hF.2.1 hd (fun z => h0 ((eq32 hb rg0).mp z)) ?_
  rw [div32 ha hb, ← o32]
  exact kk
theorem s_irem {a b : Int} (hF : FX G cc own) (hd : decode cc pc = .ok (.irem, 1)) (h0 : ¬ b = 0) (k : WA G (pc + 1) ls (.inl (a.tmod b) :: st) S) : WA G pc ls (.inl b :: .inl a :: st) S := by
  obtain ⟨p, l, e, R, s, m, args, below, meth, c, Q, nL, dC, dI, ct, ad, n0, z0, x0⟩ := G
  refine WA.stk k (fun ho H locs lsC kk => ?_) (fun ho => ok_c.mpr ⟨tmod_rg (ok_c.mp (ok_c.mp ho).2).1 (ok_c.mp ho).1 h0, (ok_c.mp (ok_c.mp ho).2).2⟩)
  obtain ⟨hb, ho⟩ := ok_c.mp ho
  obtain ⟨ha, ho⟩ := ok_c.mp ho
  refine lv_irem (x := Int32.ofInt a) (y := Int32.ofInt b) hF.1 hF.2.1 hd (fun z => h0 ((eq32 hb rg0).mp z)) ?_
  rw [rem32 ha hb]
  exact kk
theorem s_ldiv {a b : Int} (hF : FX G cc own) (hd : decode cc pc = .ok (.ldiv, 1)) (h0 : ¬ b = 0) (k : WA G (pc + 1) ls (.inr (.inl (w64 (a.tdiv b))) :: st) S) : WA G pc ls (.inr (.inl b) :: .inr (.inl a) :: st) S := by
  obtain ⟨p, l, e, R, s, m, args, below, meth, c, Q, nL, dC, dI, ct, ad, n0, z0, x0⟩ := G
  refine WA.stk k (fun ho H locs lsC kk => ?_) (fun ho => ok_c.mpr ⟨w64_rl _, (ok_c.mp (ok_c.mp ho).2).2⟩)
  obtain ⟨hb, ho⟩ := ok_c.mp ho
  obtain ⟨ha, ho⟩ := ok_c.mp ho
  refine lv_ldiv (x := Int64.ofInt a) (y := Int64.ofInt b) hF.1 hF.2.1 hd (fun z => h0 ((eq64 hb (rg_rl rg0)).mp z)) ?_
  rw [div64 ha hb, ← o64]
  exact kk
theorem s_ineg {a : Int} (hF : FX G cc own) (hd : decode cc pc = .ok (.ineg, 1)) (hg : am_rg (-a)) (k : WA G (pc + 1) ls (.inl (-a) :: st) S) : WA G pc ls (.inl a :: st) S := by
  obtain ⟨p, l, e, R, s, m, args, below, meth, c, Q, nL, dC, dI, ct, ad, n0, z0, x0⟩ := G
  refine WA.stk k (fun ho H locs lsC kk => ?_) (fun ho => ok_c.mpr ⟨hg, (ok_c.mp ho).2⟩)
  refine lv_ineg (x := Int32.ofInt a) hF.1 hF.2.1 hd ?_
  rw [neg32]
  exact kk
theorem s_lshl {a b : Int} (hF : FX G cc own) (hd : decode cc pc = .ok (.lshl, 1)) (k : WA G (pc + 1) ls (.inr (.inl (am_lshl a b)) :: st) S) : WA G pc ls (.inl b :: .inr (.inl a) :: st) S := by
  obtain ⟨p, l, e, R, s, m, args, below, meth, c, Q, nL, dC, dI, ct, ad, n0, z0, x0⟩ := G
  refine WA.stk k (fun ho H locs lsC kk => ?_) (fun ho => ok_c.mpr ⟨r64 _, (ok_c.mp (ok_c.mp ho).2).2⟩)
  exact lv_lshl (x := Int64.ofInt a) (y := Int32.ofInt b) (v := Int64.ofInt (am_lshl a b)) hF.1 hF.2.1 hd (Int64.ofInt_toInt _).symm kk
theorem s_lshr {a b : Int} (hF : FX G cc own) (hd : decode cc pc = .ok (.lshr, 1)) (k : WA G (pc + 1) ls (.inr (.inl (am_lshr a b)) :: st) S) : WA G pc ls (.inl b :: .inr (.inl a) :: st) S := by
  obtain ⟨p, l, e, R, s, m, args, below, meth, c, Q, nL, dC, dI, ct, ad, n0, z0, x0⟩ := G
  refine WA.stk k (fun ho H locs lsC kk => ?_) (fun ho => ok_c.mpr ⟨r64 _, (ok_c.mp (ok_c.mp ho).2).2⟩)
  exact lv_lshr (x := Int64.ofInt a) (y := Int32.ofInt b) (v := Int64.ofInt (am_lshr a b)) hF.1 hF.2.1 hd (Int64.ofInt_toInt _).symm kk
theorem s_lushr {a b : Int} (hF : FX G cc own) (hd : decode cc pc = .ok (.lushr, 1)) (k : WA G (pc + 1) ls (.inr (.inl (am_lushr a b)) :: st) S) : WA G pc ls (.inl b :: .inr (.inl a) :: st) S := by
  obtain ⟨p, l, e, R, s, m, args, below, meth, c, Q, nL, dC, dI, ct, ad, n0, z0, x0⟩ := G
  refine WA.stk k (fun ho H locs lsC kk => ?_) (fun ho => ok_c.mpr ⟨r64 _, (ok_c.mp (ok_c.mp ho).2).2⟩)
  exact lv_lushr (x := Int64.ofInt a) (y := Int32.ofInt b) (v := Int64.ofInt (am_lushr a b)) hF.1 hF.2.1 hd (Int64.ofInt_toInt _).symm kk
theorem s_i2l {a : Int} (hF : FX G cc own) (hd : decode cc pc = .ok (.i2l, 1)) (k : WA G (pc + 1) ls (.inr (.inl a) :: st) S) : WA G pc ls (.inl a :: st) S := by
  obtain ⟨p, l, e, R, s, m, args, below, meth, c, Q, nL, dC, dI, ct, ad, n0, z0, x0⟩ := G
  refine WA.stk k (fun ho H locs lsC kk => ?_) (fun ho => ok_c.mpr ⟨rg_rl (ok_c.mp ho).1, (ok_c.mp ho).2⟩)
  exact lv_i2l (x := Int32.ofInt a) hF.1 hF.2.1 hd (wide32 (ok_c.mp ho).1) kk
theorem s_l2i {a : Int} (hF : FX G cc own) (hd : decode cc pc = .ok (.l2i, 1)) (k : WA G (pc + 1) ls (.inl (w32 a) :: st) S) : WA G pc ls (.inr (.inl a) :: st) S := by
  obtain ⟨p, l, e, R, s, m, args, below, meth, c, Q, nL, dC, dI, ct, ad, n0, z0, x0⟩ := G
  refine WA.stk k (fun ho H locs lsC kk => ?_) (fun ho => ok_c.mpr ⟨w32_rg _, (ok_c.mp ho).2⟩)
  exact lv_l2i (x := Int64.ofInt a) hF.1 hF.2.1 hd (slim64 a) kk
theorem s_i2b {a : Int} (hF : FX G cc own) (hd : decode cc pc = .ok (.i2b, 1)) (k : WA G (pc + 1) ls (.inl (w8 a) :: st) S) : WA G pc ls (.inl a :: st) S := by
  obtain ⟨p, l, e, R, s, m, args, below, meth, c, Q, nL, dC, dI, ct, ad, n0, z0, x0⟩ := G
  refine WA.stk k (fun ho H locs lsC kk => ?_) (fun ho => ok_c.mpr ⟨by have := w8_rg a; show am_rg _; unfold am_rg; omega, (ok_c.mp ho).2⟩)
  exact lv_i2b (x := Int32.ofInt a) hF.1 hF.2.1 hd (byte32 a) kk
theorem s_i2c {a : Int} (hF : FX G cc own) (hd : decode cc pc = .ok (.i2c, 1)) (k : WA G (pc + 1) ls (.inl (a % 65536) :: st) S) : WA G pc ls (.inl a :: st) S := by
  obtain ⟨p, l, e, R, s, m, args, below, meth, c, Q, nL, dC, dI, ct, ad, n0, z0, x0⟩ := G
  refine WA.stk k (fun ho H locs lsC kk => ?_) (fun ho => ok_c.mpr ⟨by show am_rg _; unfold am_rg; omega, (ok_c.mp ho).2⟩)
  exact lv_i2c (x := Int32.ofInt a) hF.1 hF.2.1 hd (char32 a) kk
theorem s_lcmp {a b : Int} (hF : FX G cc own) (hd : decode cc pc = .ok (.lcmp, 1)) (k : WA G (pc + 1) ls (.inl (am_sgn (a - b)) :: st) S) : WA G pc ls (.inr (.inl b) :: .inr (.inl a) :: st) S := by
  obtain ⟨p, l, e, R, s, m, args, below, meth, c, Q, nL, dC, dI, ct, ad, n0, z0, x0⟩ := G
  refine WA.stk k (fun ho H locs lsC kk => ?_) (fun ho => ok_c.mpr ⟨sgn_rg _, (ok_c.mp (ok_c.mp ho).2).2⟩)
  obtain ⟨hb, ho⟩ := ok_c.mp ho
  obtain ⟨ha, ho⟩ := ok_c.mp ho
  refine W.lcmp (x := Int64.ofInt a) (y := Int64.ofInt b) hF.1 hF.2.1 hd ?_
  rw [sgn64 ha hb]
  exact kk
theorem cat1 {ad : Nat → Nat} : ∀ {v : aV}, am_is2 v = false → (cv ad v).category = 1
  | .inl _, _ => rfl
  | .inr (.inl _), h => by cases h
  | .inr (.inr r), _ => by
    show (bif Nat.beq r 0 || (Nat.beq r 8 && Nat.beq (ad 0) 0) then Value.null else Value.ref (ad r)).category = 1
    cases (Nat.beq r 0 || (Nat.beq r 8 && Nat.beq (ad 0) 0)) <;> rfl
theorem cat2 {ad : Nat → Nat} : ∀ (v : aV), ((cv ad v).category == 2) = am_is2 v
  | .inl _ => rfl
  | .inr (.inl _) => rfl
  | .inr (.inr r) => by rw [cat1 (v := .inr (.inr r)) rfl]; rfl
theorem s_dup {v : aV} (hF : FX G cc own) (hd : decode cc pc = .ok (.dup, 1)) (h2 : am_is2 v = false) (k : WA G (pc + 1) ls (v :: v :: st) S) : WA G pc ls (v :: st) S := by
  obtain ⟨p, l, e, R, s, m, args, below, meth, c, Q, nL, dC, dI, ct, ad, n0, z0, x0⟩ := G
  exact WA.stk k (fun ho H locs lsC kk => lv_dup (va := cv ad v) hF.1 hF.2.1 hd (cat1 h2) kk) (fun ho => ok_c.mpr ⟨(ok_c.mp ho).1, ho⟩)
theorem s_pop {v : aV} (hF : FX G cc own) (hd : decode cc pc = .ok (.pop, 1)) (h2 : am_is2 v = false) (k : WA G (pc + 1) ls st S) : WA G pc ls (v :: st) S := by
  obtain ⟨p, l, e, R, s, m, args, below, meth, c, Q, nL, dC, dI, ct, ad, n0, z0, x0⟩ := G
  exact WA.stk k (fun ho H locs lsC kk => lv_pop (va := cv ad v) hF.1 hF.2.1 hd (cat1 h2) kk) (fun ho => (ok_c.mp ho).2)
theorem s_dup22 {v : Int} (hF : FX G cc own) (hd : decode cc pc = .ok (.dup2, 1)) (k : WA G (pc + 1) ls (.inr (.inl v) :: .inr (.inl v) :: st) S) : WA G pc ls (.inr (.inl v) :: st) S := by
  obtain ⟨p, l, e, R, s, m, args, below, meth, c, Q, nL, dC, dI, ct, ad, n0, z0, x0⟩ := G
  exact WA.stk k (fun ho H locs lsC kk => lv_dup2_2 (va := cv ad (.inr (.inl v))) hF.1 hF.2.1 hd rfl kk) (fun ho => ok_c.mpr ⟨(ok_c.mp ho).1, ho⟩)
theorem s_dup21 {v w : aV} (hF : FX G cc own) (hd : decode cc pc = .ok (.dup2, 1)) (h2 : am_is2 v = false) (h3 : am_is2 w = false) (k : WA G (pc + 1) ls (v :: w :: v :: w :: st) S) : WA G pc ls (v :: w :: st) S := by
  obtain ⟨p, l, e, R, s, m, args, below, meth, c, Q, nL, dC, dI, ct, ad, n0, z0, x0⟩ := G
  exact WA.stk k (fun ho H locs lsC kk => lv_dup2_11 (va := cv ad v) (vb := cv ad w) hF.1 hF.2.1 hd (cat1 h2) (cat1 h3) kk) (fun ho => ok_c.mpr ⟨(ok_c.mp ho).1, ok_c.mpr ⟨(ok_c.mp (ok_c.mp ho).2).1, ho⟩⟩)
theorem s_pop2 {v : Int} (hF : FX G cc own) (hd : decode cc pc = .ok (.pop2, 1)) (k : WA G (pc + 1) ls st S) : WA G pc ls (.inr (.inl v) :: st) S := by
  obtain ⟨p, l, e, R, s, m, args, below, meth, c, Q, nL, dC, dI, ct, ad, n0, z0, x0⟩ := G
  exact WA.stk k (fun ho H locs lsC kk => lv_pop2_2 (va := cv ad (.inr (.inl v))) hF.1 hF.2.1 hd rfl kk) (fun ho => (ok_c.mp ho).2)
theorem s_iconst {v : Int} (hF : FX G cc own) (hd : decode cc pc = .ok (.iconst v, 1)) (hg : am_rg v) (k : WA G (pc + 1) ls (.inl v :: st) S) : WA G pc ls st S := by
  obtain ⟨p, l, e, R, s, m, args, below, meth, c, Q, nL, dC, dI, ct, ad, n0, z0, x0⟩ := G
  exact WA.stk k (fun ho H locs lsC kk => lv_iconst hF.1 hF.2.1 hd rfl kk) (fun ho => ok_c.mpr ⟨hg, ho⟩)
theorem s_bipush {v : Int} (hF : FX G cc own) (hd : decode cc pc = .ok (.bipush v, 2)) (hg : -128 ≤ v ∧ v < 128) (k : WA G (pc + 2) ls (.inl v :: st) S) : WA G pc ls st S := by
  obtain ⟨p, l, e, R, s, m, args, below, meth, c, Q, nL, dC, dI, ct, ad, n0, z0, x0⟩ := G
  exact WA.stk k (fun ho H locs lsC kk => lv_bipush hF.1 hF.2.1 hd (by rw [Int8.toInt32_ofInt (show Int8.minValue.toInt ≤ v from hg.1) (show v ≤ Int8.maxValue.toInt from by have := hg.2; show v ≤ 127; omega)]) kk) (fun ho => ok_c.mpr ⟨by obtain ⟨h1, h2⟩ := hg; exact ⟨by omega, by omega⟩, ho⟩)
theorem s_sipush {v : Int} (hF : FX G cc own) (hd : decode cc pc = .ok (.sipush v, 3)) (hg : -32768 ≤ v ∧ v < 32768) (k : WA G (pc + 3) ls (.inl v :: st) S) : WA G pc ls st S := by
  obtain ⟨p, l, e, R, s, m, args, below, meth, c, Q, nL, dC, dI, ct, ad, n0, z0, x0⟩ := G
  exact WA.stk k (fun ho H locs lsC kk => lv_sipush hF.1 hF.2.1 hd (by rw [Int16.toInt32_ofInt (show Int16.minValue.toInt ≤ v from hg.1) (show v ≤ Int16.maxValue.toInt from by have := hg.2; show v ≤ 32767; omega)]) kk) (fun ho => ok_c.mpr ⟨by obtain ⟨h1, h2⟩ := hg; exact ⟨by omega, by omega⟩, ho⟩)
theorem s_ldc {v : Int} {ix : Nat} (hF : FX G cc own) (hd : decode cc pc = .ok (.ldc ix, 2)) (ht : (own, ix, v) ∈ tCn) (hg : am_rg v) (k : WA G (pc + 2) ls (.inl v :: st) S) : WA G pc ls st S := by
  obtain ⟨p, l, e, R, s, m, args, below, meth, c, Q, nL, dC, dI, ct, ad, n0, z0, x0⟩ := G
  exact WA.stk k (fun ho H locs lsC kk => lv_ldc hF.1 hF.2.1 hF.2.2.2.1 (hF.2.2.2.2.1 _ (tCn_ok _ ht) rfl) hd kk) (fun ho => ok_c.mpr ⟨hg, ho⟩)
theorem s_ldcw {v : Int} {ix : Nat} (hF : FX G cc own) (hd : decode cc pc = .ok (.ldc_w ix, 3)) (ht : (own, ix, v) ∈ tCn) (hg : am_rg v) (k : WA G (pc + 3) ls (.inl v :: st) S) : WA G pc ls st S := by
  obtain ⟨p, l, e, R, s, m, args, below, meth, c, Q, nL, dC, dI, ct, ad, n0, z0, x0⟩ := G
  exact WA.stk k (fun ho H locs lsC kk => lv_ldcw hF.1 hF.2.1 hF.2.2.2.1 (hF.2.2.2.2.1 _ (tCn_ok _ ht) rfl) hd kk) (fun ho => ok_c.mpr ⟨hg, ho⟩)
theorem s_ldc2 {v : Int} {ix : Nat} (hF : FX G cc own) (hd : decode cc pc = .ok (.ldc2_w ix, 3)) (ht : (own, ix, v) ∈ tCl) (hg : am_rl v) (k : WA G (pc + 3) ls (.inr (.inl v) :: st) S) : WA G pc ls st S := by
  obtain ⟨p, l, e, R, s, m, args, below, meth, c, Q, nL, dC, dI, ct, ad, n0, z0, x0⟩ := G
  exact WA.stk k (fun ho H locs lsC kk => lv_ldc2 hF.1 hF.2.1 hF.2.2.2.1 (hF.2.2.2.2.1 _ (tCl_ok _ ht) rfl) hd kk) (fun ho => ok_c.mpr ⟨hg, ho⟩)
theorem s_lconst {n : Fin 2} (hF : FX G cc own) (hd : decode cc pc = .ok (.lconst n, 1)) (k : WA G (pc + 1) ls (.inr (.inl (n.val : Int)) :: st) S) : WA G pc ls st S := by
  obtain ⟨p, l, e, R, s, m, args, below, meth, c, Q, nL, dC, dI, ct, ad, n0, z0, x0⟩ := G
  exact WA.stk k (fun ho H locs lsC kk => lv_lconst hF.1 hF.2.1 hd rfl kk) (fun ho => ok_c.mpr ⟨by have := n.isLt; show am_rl _; unfold am_rl; omega, ho⟩)
theorem am_find_get {ad : Nat → Nat} {k nL : Nat} {v : aV} {lsC : Array Slot} : ∀ {ls : aL}, am_find k ls = some v → lv_has lsC nL (am_ll ad ls) → lsC[k]? = some (.val (cv ad v)) := by
  intro ls h hl
  have key : ∀ l : aL, am_find k l = some v → (k, v) ∈ l := by
    intro l
    induction l with
    | nil => intro h; cases h
    | cons q l ih =>
      intro h
      simp only [am_find] at h
      cases hb : Nat.beq q.1 k with
      | true =>
        rw [hb] at h
        have e1 := Nat.eq_of_beq_eq_true hb
        have e2 := Option.some.inj h
        rw [← e1, ← e2]
        exact List.mem_cons_self
      | false =>
        rw [hb] at h
        exact List.mem_cons_of_mem _ (ih h)
  exact hl.2.2 (k, cv ad v) (List.mem_map.mpr ⟨(k, v), key ls h, rfl⟩)
theorem am_find_ok {k : Nat} {v : aV} : ∀ {ls : aL}, am_find k ls = some v → (∀ q ∈ ls, ok_v q.2) → ok_v v
  | [], h, _ => by cases h
  | q :: l, h, ho => by
    simp only [am_find] at h
    cases hb : Nat.beq q.1 k with
    | true =>
      rw [hb] at h
      rw [← Option.some.inj h]
      exact ho q List.mem_cons_self
    | false =>
      rw [hb] at h
      exact am_find_ok h (fun x hx => ho x (List.mem_cons_of_mem _ hx))
theorem nbq (a b : Nat) : (a == b) = Nat.beq a b := by
  cases h : Nat.beq a b with
  | true => rw [Nat.eq_of_beq_eq_true h]; simp
  | false =>
    have : a ≠ b := fun e => by subst e; simp at h
    simpa using this
theorem am_ll_set1 (ad : Nat → Nat) (k : Nat) (v : aV) (ls : aL) : (k, cv ad v) :: (am_ll ad ls).filter (fun q => !(q.1 == k) && !(q.1 + 1 == k && q.2.category == 2)) = am_ll ad (am_set1 k v ls) := by
  unfold am_ll am_set1
  rw [List.map_cons, List.filter_map]
  congr 3
  funext q
  simp only [Function.comp, cat2]
  simp only [nbq]
theorem am_ll_set2 (ad : Nat → Nat) (k : Nat) (v : aV) (ls : aL) : (k, cv ad v) :: (am_ll ad ls).filter (fun q => !(q.1 == k) && (!(q.1 == k + 1) && !(q.1 + 1 == k && q.2.category == 2))) = am_ll ad (am_set2 k v ls) := by
  unfold am_ll am_set2
  rw [List.map_cons, List.filter_map]
  congr 3
  funext q
  simp only [Function.comp, cat2]
  simp only [nbq]
theorem ok_set1 {k : Nat} {v : aV} {ls : aL} (hv : ok_v v) (h : ∀ q ∈ ls, ok_v q.2) : ∀ q ∈ am_set1 k v ls, ok_v q.2 := by
  intro q hq
  rcases List.mem_cons.mp hq with rfl | hq
  · exact hv
  · exact h q (List.mem_filter.mp hq).1
theorem ok_set2 {k : Nat} {v : aV} {ls : aL} (hv : ok_v v) (h : ∀ q ∈ ls, ok_v q.2) : ∀ q ∈ am_set2 k v ls, ok_v q.2 := by
  intro q hq
  rcases List.mem_cons.mp hq with rfl | hq
  · exact hv
  · exact h q (List.mem_filter.mp hq).1
theorem s_iload {k : Nat} {v : Int} (hF : FX G cc own) (hd : decode cc pc = .ok (.iload k, 2)) (hf : am_find k ls = some (.inl v)) (kk : WA G (pc + 2) ls (.inl v :: st) S) : WA G pc ls st S := by
  obtain ⟨p, l, e, R, s, m, args, below, meth, c, Q, nL, dC, dI, ct, ad, n0, z0, x0⟩ := G
  intro H locs lsC hR hl h1 h2
  exact lv_iload hF.1 hF.2.1 hd (am_find_get hf hl) (kk H locs lsC hR hl h1 (ok_c.mpr ⟨am_find_ok hf h1, h2⟩))
theorem s_iload_n {k : Nat} {j : Fin 4} {v : Int} (hF : FX G cc own) (hd : decode cc pc = .ok (.iload_n j, 1)) (hj : (j : Nat) = k) (hf : am_find k ls = some (.inl v)) (kk : WA G (pc + 1) ls (.inl v :: st) S) : WA G pc ls st S := by
  obtain ⟨p, l, e, R, s, m, args, below, meth, c, Q, nL, dC, dI, ct, ad, n0, z0, x0⟩ := G
  intro H locs lsC hR hl h1 h2
  exact lv_iload_n hF.1 hF.2.1 hd hj (am_find_get hf hl) (kk H locs lsC hR hl h1 (ok_c.mpr ⟨am_find_ok hf h1, h2⟩))
theorem s_lload {k : Nat} {v : Int} (hF : FX G cc own) (hd : decode cc pc = .ok (.lload k, 2)) (hf : am_find k ls = some (.inr (.inl v))) (kk : WA G (pc + 2) ls (.inr (.inl v) :: st) S) : WA G pc ls st S := by
  obtain ⟨p, l, e, R, s, m, args, below, meth, c, Q, nL, dC, dI, ct, ad, n0, z0, x0⟩ := G
  intro H locs lsC hR hl h1 h2
  exact lv_lload hF.1 hF.2.1 hd (am_find_get hf hl) (kk H locs lsC hR hl h1 (ok_c.mpr ⟨am_find_ok hf h1, h2⟩))
theorem s_lload_n {k : Nat} {j : Fin 4} {v : Int} (hF : FX G cc own) (hd : decode cc pc = .ok (.lload_n j, 1)) (hj : (j : Nat) = k) (hf : am_find k ls = some (.inr (.inl v))) (kk : WA G (pc + 1) ls (.inr (.inl v) :: st) S) : WA G pc ls st S := by
  obtain ⟨p, l, e, R, s, m, args, below, meth, c, Q, nL, dC, dI, ct, ad, n0, z0, x0⟩ := G
  intro H locs lsC hR hl h1 h2
  exact lv_lload_n hF.1 hF.2.1 hd hj (am_find_get hf hl) (kk H locs lsC hR hl h1 (ok_c.mpr ⟨am_find_ok hf h1, h2⟩))
theorem s_aload {k v : Nat} (hF : FX G cc own) (hd : decode cc pc = .ok (.aload k, 2)) (hf : am_find k ls = some (.inr (.inr v))) (h0 : v ≠ 0) (h8 : v ≠ 8) (kk : WA G (pc + 2) ls (.inr (.inr v) :: st) S) : WA G pc ls st S := by
  obtain ⟨p, l, e, R, s, m, args, below, meth, c, Q, nL, dC, dI, ct, ad, n0, z0, x0⟩ := G
  intro H locs lsC hR hl h1 h2
  have q := kk H locs lsC hR hl h1 (ok_c.mpr ⟨trivial, h2⟩)
  have hg := am_find_get hf hl
  rw [cv_ref h0 h8] at hg
  rw [List.map_cons, cv_ref h0 h8] at q
  exact lv_aload hF.1 hF.2.1 hd hg q
theorem s_aload_n {k v : Nat} {j : Fin 4} (hF : FX G cc own) (hd : decode cc pc = .ok (.aload_n j, 1)) (hj : (j : Nat) = k) (hf : am_find k ls = some (.inr (.inr v))) (h0 : v ≠ 0) (h8 : v ≠ 8) (kk : WA G (pc + 1) ls (.inr (.inr v) :: st) S) : WA G pc ls st S := by
  obtain ⟨p, l, e, R, s, m, args, below, meth, c, Q, nL, dC, dI, ct, ad, n0, z0, x0⟩ := G
  intro H locs lsC hR hl h1 h2
  have q := kk H locs lsC hR hl h1 (ok_c.mpr ⟨trivial, h2⟩)
  have hg := am_find_get hf hl
  rw [cv_ref h0 h8] at hg
  rw [List.map_cons, cv_ref h0 h8] at q
  exact lv_aload_n hF.1 hF.2.1 hd hj hg q
theorem s_istore {k : Nat} {v : Int} (hF : FX G cc own) (hd : decode cc pc = .ok (.istore k, 2)) (hn : k < anL G) (kk : WA G (pc + 2) (am_set1 k (.inl v) ls) st S) : WA G pc ls (.inl v :: st) S := by
  obtain ⟨p, l, e, R, s, m, args, below, meth, c, Q, nL, dC, dI, ct, ad, n0, z0, x0⟩ := G
  intro H locs lsC hR hl h1 h2
  exact lv_istore hF.1 hF.2.1 hd hl hn (am_ll_set1 ad k (.inl v) ls) (fun ls2 hl2 => kk H locs ls2 hR hl2 (ok_set1 (ok_c.mp h2).1 h1) (ok_c.mp h2).2)
theorem s_istore_n {k : Nat} {j : Fin 4} {v : Int} (hF : FX G cc own) (hd : decode cc pc = .ok (.istore_n j, 1)) (hj : (j : Nat) = k) (hn : k < anL G) (kk : WA G (pc + 1) (am_set1 k (.inl v) ls) st S) : WA G pc ls (.inl v :: st) S := by
  obtain ⟨p, l, e, R, s, m, args, below, meth, c, Q, nL, dC, dI, ct, ad, n0, z0, x0⟩ := G
  intro H locs lsC hR hl h1 h2
  exact lv_istore_n hF.1 hF.2.1 hd hj hl hn (am_ll_set1 ad k (.inl v) ls) (fun ls2 hl2 => kk H locs ls2 hR hl2 (ok_set1 (ok_c.mp h2).1 h1) (ok_c.mp h2).2)
theorem s_lstore {k : Nat} {v : Int} (hF : FX G cc own) (hd : decode cc pc = .ok (.lstore k, 2)) (hn : k + 1 < anL G) (kk : WA G (pc + 2) (am_set2 k (.inr (.inl v)) ls) st S) : WA G pc ls (.inr (.inl v) :: st) S := by
  obtain ⟨p, l, e, R, s, m, args, below, meth, c, Q, nL, dC, dI, ct, ad, n0, z0, x0⟩ := G
  intro H locs lsC hR hl h1 h2
  exact lv_lstore hF.1 hF.2.1 hd hl hn (am_ll_set2 ad k (.inr (.inl v)) ls) (fun ls2 hl2 => kk H locs ls2 hR hl2 (ok_set2 (ok_c.mp h2).1 h1) (ok_c.mp h2).2)
theorem s_lstore_n {k : Nat} {j : Fin 4} {v : Int} (hF : FX G cc own) (hd : decode cc pc = .ok (.lstore_n j, 1)) (hj : (j : Nat) = k) (hn : k + 1 < anL G) (kk : WA G (pc + 1) (am_set2 k (.inr (.inl v)) ls) st S) : WA G pc ls (.inr (.inl v) :: st) S := by
  obtain ⟨p, l, e, R, s, m, args, below, meth, c, Q, nL, dC, dI, ct, ad, n0, z0, x0⟩ := G
  intro H locs lsC hR hl h1 h2
  exact lv_lstore_n hF.1 hF.2.1 hd hj hl hn (am_ll_set2 ad k (.inr (.inl v)) ls) (fun ls2 hl2 => kk H locs ls2 hR hl2 (ok_set2 (ok_c.mp h2).1 h1) (ok_c.mp h2).2)
theorem s_astore {k v : Nat} (hF : FX G cc own) (hd : decode cc pc = .ok (.astore k, 2)) (hn : k < anL G) (h0 : v ≠ 0) (h8 : v ≠ 8) (kk : WA G (pc + 2) (am_set1 k (.inr (.inr v)) ls) st S) : WA G pc ls (.inr (.inr v) :: st) S := by
  obtain ⟨p, l, e, R, s, m, args, below, meth, c, Q, nL, dC, dI, ct, ad, n0, z0, x0⟩ := G
  intro H locs lsC hR hl h1 h2
  have e := am_ll_set1 ad k (.inr (.inr v)) ls
  rw [cv_ref h0 h8] at e
  show WP _ pc lsC (cv ad (.inr (.inr v)) :: st.map (cv ad)) S H locs
  rw [cv_ref h0 h8]
  exact lv_astore hF.1 hF.2.1 hd hl hn e (fun ls2 hl2 => kk H locs ls2 hR hl2 (ok_set1 (ok_c.mp h2).1 h1) (ok_c.mp h2).2)
theorem s_astore_n {k v : Nat} {j : Fin 4} (hF : FX G cc own) (hd : decode cc pc = .ok (.astore_n j, 1)) (hj : (j : Nat) = k) (hn : k < anL G) (h0 : v ≠ 0) (h8 : v ≠ 8) (kk : WA G (pc + 1) (am_set1 k (.inr (.inr v)) ls) st S) : WA G pc ls (.inr (.inr v) :: st) S := by
  obtain ⟨p, l, e, R, s, m, args, below, meth, c, Q, nL, dC, dI, ct, ad, n0, z0, x0⟩ := G
  intro H locs lsC hR hl h1 h2
  have e := am_ll_set1 ad k (.inr (.inr v)) ls
  rw [cv_ref h0 h8] at e
  show WP _ pc lsC (cv ad (.inr (.inr v)) :: st.map (cv ad)) S H locs
  rw [cv_ref h0 h8]
  exact lv_astore_n hF.1 hF.2.1 hd hj hl hn e (fun ls2 hl2 => kk H locs ls2 hR hl2 (ok_set1 (ok_c.mp h2).1 h1) (ok_c.mp h2).2)
theorem s_iinc {k : Nat} {v d : Int} (hF : FX G cc own) (hd : decode cc pc = .ok (.iinc k d, 3)) (hf : am_find k ls = some (.inl v)) (hg : am_rg (v + d)) (hn : k < anL G) (kk : WA G (pc + 3) (am_set1 k (.inl (v + d)) ls) st S) : WA G pc ls st S := by
  obtain ⟨p, l, e, R, s, m, args, below, meth, c, Q, nL, dC, dI, ct, ad, n0, z0, x0⟩ := G
  intro H locs lsC hR hl h1 h2
  have hl2 : lv_has lsC nL ((k, .int (Int32.ofInt v)) :: am_ll ad ls) := by
    refine ⟨hl.1, hl.2.1, fun q hq => ?_⟩
    rcases List.mem_cons.mp hq with rfl | hq
    · exact am_find_get hf hl
    · exact hl.2.2 q hq
  refine lv_iinc hF.1 hF.2.1 hd hl2 (k := 0) rfl (add32 v d) hn ?_ (fun ls2 hl2 => kk H locs ls2 hR hl2 (ok_set1 hg h1) h2)
  rw [List.filter_cons, if_neg (by simp)]
  exact am_ll_set1 ad k (.inl (v + d)) ls
theorem s_goto {off : Int} {t : Nat} (hF : FX G cc own) (hd : decode cc pc = .ok (.goto off, 3)) (ht : (pc : Int) + off = (t : Int)) (k : WA G t ls st S) : WA G pc ls st S := by
  obtain ⟨p, l, e, R, s, m, args, below, meth, c, Q, nL, dC, dI, ct, ad, n0, z0, x0⟩ := G
  exact WA.stk k (fun ho H locs lsC kk => lv_goto hF.1 hF.2.1 hd ht kk) (fun ho => ho)
theorem s_if {v off : Int} {t : Nat} {cd : Jvm.ClassFile.Cond} (hF : FX G cc own) (hd : decode cc pc = .ok (.ifCond cd off, 3)) (ht : (pc : Int) + off = (t : Int)) (kt : am_cnd cd v 0 → WA G t ls st S) (kf : ¬ am_cnd cd v 0 → WA G (pc + 3) ls st S) : WA G pc ls (.inl v :: st) S := by
  obtain ⟨p, l, e, R, s, m, args, below, meth, c, Q, nL, dC, dI, ct, ad, n0, z0, x0⟩ := G
  intro H locs lsC hR hl h1 h2
  obtain ⟨hv, h2⟩ := ok_c.mp h2
  have e0 : (0 : Int32) = Int32.ofInt 0 := rfl
  cases cd
  · exact lv_if_eq (x := Int32.ofInt v) hF.1 hF.2.1 hd ht (fun z => kt ((eq32 hv rg0).mp z) H locs lsC hR hl h1 h2) (fun z => kf (fun y => z ((eq32 hv rg0).mpr y)) H locs lsC hR hl h1 h2)
  · exact lv_if_ne (x := Int32.ofInt v) hF.1 hF.2.1 hd ht (fun z => kt (fun y => z ((eq32 hv rg0).mpr y)) H locs lsC hR hl h1 h2) (fun z => kf (fun y => y ((eq32 hv rg0).mp z)) H locs lsC hR hl h1 h2)
  · exact lv_if_lt (x := Int32.ofInt v) hF.1 hF.2.1 hd ht (fun z => kt ((lt32 hv rg0).mp z) H locs lsC hR hl h1 h2) (fun z => kf (fun y => z ((lt32 hv rg0).mpr y)) H locs lsC hR hl h1 h2)
  · exact lv_if_ge (x := Int32.ofInt v) hF.1 hF.2.1 hd ht (fun z => kt ((le32 rg0 hv).mp z) H locs lsC hR hl h1 h2) (fun z => kf (fun y => z ((le32 rg0 hv).mpr y)) H locs lsC hR hl h1 h2)
  · exact lv_if_gt (x := Int32.ofInt v) hF.1 hF.2.1 hd ht (fun z => kt ((lt32 rg0 hv).mp z) H locs lsC hR hl h1 h2) (fun z => kf (fun y => z ((lt32 rg0 hv).mpr y)) H locs lsC hR hl h1 h2)
  · exact lv_if_le (x := Int32.ofInt v) hF.1 hF.2.1 hd ht (fun z => kt ((le32 hv rg0).mp z) H locs lsC hR hl h1 h2) (fun z => kf (fun y => z ((le32 hv rg0).mpr y)) H locs lsC hR hl h1 h2)
theorem s_icmp {a b off : Int} {t : Nat} {cd : Jvm.ClassFile.Cond} (hF : FX G cc own) (hd : decode cc pc = .ok (.if_icmp cd off, 3)) (ht : (pc : Int) + off = (t : Int)) (kt : am_cnd cd a b → WA G t ls st S) (kf : ¬ am_cnd cd a b → WA G (pc + 3) ls st S) : WA G pc ls (.inl b :: .inl a :: st) S := by
  obtain ⟨p, l, e, R, s, m, args, below, meth, c, Q, nL, dC, dI, ct, ad, n0, z0, x0⟩ := G
  intro H locs lsC hR hl h1 h2
  obtain ⟨hv, h2⟩ := ok_c.mp h2
  obtain ⟨ha, h2⟩ := ok_c.mp h2
  cases cd
  · exact lv_icmp_eq (x := Int32.ofInt a) (y := Int32.ofInt b) hF.1 hF.2.1 hd ht (fun z => kt ((eq32 ha hv).mp z) H locs lsC hR hl h1 h2) (fun z => kf (fun y => z ((eq32 ha hv).mpr y)) H locs lsC hR hl h1 h2)
  · exact lv_icmp_ne (x := Int32.ofInt a) (y := Int32.ofInt b) hF.1 hF.2.1 hd ht (fun z => kt (fun y => z ((eq32 ha hv).mpr y)) H locs lsC hR hl h1 h2) (fun z => kf (fun y => y ((eq32 ha hv).mp z)) H locs lsC hR hl h1 h2)
  · exact lv_icmp_lt (x := Int32.ofInt a) (y := Int32.ofInt b) hF.1 hF.2.1 hd ht (fun z => kt ((lt32 ha hv).mp z) H locs lsC hR hl h1 h2) (fun z => kf (fun y => z ((lt32 ha hv).mpr y)) H locs lsC hR hl h1 h2)
  · exact lv_icmp_ge (x := Int32.ofInt a) (y := Int32.ofInt b) hF.1 hF.2.1 hd ht (fun z => kt ((le32 hv ha).mp z) H locs lsC hR hl h1 h2) (fun z => kf (fun y => z ((le32 hv ha).mpr y)) H locs lsC hR hl h1 h2)
  · exact lv_icmp_gt (x := Int32.ofInt a) (y := Int32.ofInt b) hF.1 hF.2.1 hd ht (fun z => kt ((lt32 hv ha).mp z) H locs lsC hR hl h1 h2) (fun z => kf (fun y => z ((lt32 hv ha).mpr y)) H locs lsC hR hl h1 h2)
  · exact lv_icmp_le (x := Int32.ofInt a) (y := Int32.ofInt b) hF.1 hF.2.1 hd ht (fun z => kt ((le32 ha hv).mp z) H locs lsC hR hl h1 h2) (fun z => kf (fun y => z ((le32 ha hv).mpr y)) H locs lsC hR hl h1 h2)
end S22
end
section
/-! rows of fields, arrays, static fields -/
def nf (c : Nat) : Nat := am_nth 0 mNf c
def cTy (n : Nat) : Nat → FieldType := match n with
  | 0 => tyX0
  | 1 => tyX1
  | 2 => tyX2
  | 3 => tyX3
  | 4 => tyX4
  | 5 => tyX5
  | 6 => tyX6
  | 7 => tyX7
  | 8 => tyX8
  | 9 => tyX9
  | 10 => tyX10
  | 11 => tyX11
  | _ => tyX12
theorem c13 {P : Nat → Prop} (h0 : P 0) (h1 : P 1) (h2 : P 2) (h3 : P 3) (h4 : P 4) (h5 : P 5) (h6 : P 6) (h7 : P 7) (h8 : P 8) (h9 : P 9) (h10 : P 10) (h11 : P 11) (h12 : P 12) : ∀ c, c < 13 → P c
  | 0, _ => h0 | 1, _ => h1 | 2, _ => h2 | 3, _ => h3 | 4, _ => h4 | 5, _ => h5 | 6, _ => h6 | 7, _ => h7 | 8, _ => h8 | 9, _ => h9 | 10, _ => h10 | 11, _ => h11 | 12, _ => h12
  | n + 13, h => absurd h (by omega)
theorem cls_at : ∀ c, c < 13 → vwCl[c]? = some (cN c, cT c, nf c) := c13 rfl rfl rfl rfl rfl rfl rfl rfl rfl rfl rfl rfl rfl
theorem cls_in : ∀ c, c < 13 → ∀ w ∈ u_ws (cN c) (cT c) (nf c), w ∈ lw_tbl := c13 inX0 inX1 inX2 inX3 inX4 inX5 inX6 inX7 inX8 inX9 inX10 inX11 inX12
theorem cls_pf : ∀ c, c < 13 → ∀ k, k < nf c → parseFieldDescriptor (cT c k).2.2.1 = some (cTy c k) := c13 tyX0_ok tyX1_ok tyX2_ok tyX3_ok tyX4_ok tyX5_ok tyX6_ok tyX7_ok tyX8_ok tyX9_ok tyX10_ok tyX11_ok tyX12_ok
theorem cls_nm : ∀ c, c < 13 → ∀ a, a < nf c → ∀ b, b < nf c → a ≠ b → (cT c a).2.1 ≠ (cT c b).2.1 := c13 nmX0 nmX1 nmX2 nmX3 nmX4 nmX5 nmX6 nmX7 nmX8 nmX9 nmX10 nmX11 nmX12
theorem cls_own : ∀ c, c < 13 → ∀ k, k < nf c → (cT c k).1 = cN c := by decide +kernel
def refT : FieldType → Bool
  | .object _ => true
  | .array _ => true
  | _ => false
/-- a field's type by its number -/
def tyIs (n : Nat) (ty : FieldType) : Bool := match n with
  | 0 => refT ty
  | 1 => decide (ty = .int)
  | 2 => decide (ty = .long)
  | 3 => decide (ty = .boolean)
  | _ => false
theorem cls_ty : ∀ c, c < 13 → ∀ k, k < nf c → tyIs (ftab c k) (cTy c k) = true := by decide +kernel
theorem tFl_lt : ∀ q ∈ tFl, q.2.2.1 < 13 ∧ q.2.2.2 < nf q.2.2.1 := by decide +kernel
theorem xk0 {k : Nat} (h : am_xk k = false) : k ≠ 6 ∧ k ≠ 7 ∧ k ≠ 8 ∧ k ≠ 30 := by
  refine ⟨?_, ?_, ?_, ?_⟩ <;> (intro e; subst e; revert h; decide)
/-- a kind of the program's own -/
theorem kd_w {sh : List aC} {r K : Nat} (h : am_kd sh r = K) (h0 : K ≠ 0) (hx : am_xk K = false) : 9 ≤ r ∧ (am_nth am_o0 sh r).1 = K ∧ r < sh.length := by
  unfold am_kd at h
  cases h1 : (Nat.beq r 0 || Nat.beq r 8) with
  | true => rw [h1] at h; exact absurd h.symm h0
  | false =>
    rw [h1] at h
    simp only [cond_false] at h
    cases h2 : Nat.ble 9 r with
    | false =>
      rw [h2] at h
      simp only [cond_false] at h
      cases h3 : am_xk (am_nth am_o0 sh r).1 with
      | true =>
        rw [h3] at h
        simp only [cond_true] at h
        rw [h, hx] at h3
        cases h3
      | false => rw [h3] at h; exact absurd h.symm h0
    | true =>
      rw [h2] at h
      simp only [cond_true] at h
      cases h3 : am_xk (am_nth am_o0 sh r).1 with
      | true => rw [h3] at h; exact absurd h.symm h0
      | false =>
        rw [h3] at h
        simp only [cond_false] at h
        refine ⟨Nat.le_of_ble_eq_true h2, h, ?_⟩
        rcases Nat.lt_or_ge r sh.length with q | q
        · exact q
        · rw [am_nth_out _ _ _ q] at h
          exact absurd h.symm h0
/-- a kind of what was there before -/
theorem kd_x {sh : List aC} {r K : Nat} (h : am_kd sh r = K) (hx : am_xk K = true) : r < 9 ∧ r ≠ 0 ∧ r ≠ 8 := by
  have h0 : K ≠ 0 := fun e => by subst e; cases hx
  unfold am_kd at h
  cases h1 : (Nat.beq r 0 || Nat.beq r 8) with
  | true => rw [h1] at h; exact absurd h.symm h0
  | false =>
    have hz : r ≠ 0 ∧ r ≠ 8 := by
      constructor <;> (intro e; subst e; cases h1)
    rw [h1] at h
    simp only [cond_false] at h
    cases h2 : Nat.ble 9 r with
    | false =>
      refine ⟨Nat.not_le.mp fun q => ?_, hz⟩
      rw [Nat.ble_eq_true_of_le q] at h2
      cases h2
    | true =>
      rw [h2] at h
      simp only [cond_true] at h
      cases h3 : am_xk (am_nth am_o0 sh r).1 with
      | true => rw [h3] at h; exact absurd h.symm h0
      | false =>
        rw [h3] at h
        simp only [cond_false] at h
        rw [h, hx] at h3
        cases h3
theorem isO_ok {sh : List aC} {r n : Nat} (h : am_isO sh r n = true) : am_kd sh r = 10 + n / 100 ∧ n % 100 < (am_nth am_o0 sh r).2.1 := by
  obtain ⟨h1, h2⟩ := Bool.and_eq_true_iff.mp h
  exact ⟨Nat.eq_of_beq_eq_true h1, Nat.le_of_ble_eq_true h2⟩
theorem cv_getf (ad : Nat → Nat) (c : aC) (ty : Nat) (h : aH) (r k : Nat) : cv ad (am_getf c ty h r k) = am_fv ad ty c.2.2 (h r) k := by
  match ty with
  | 0 => rfl
  | 1 => rfl
  | 2 => rfl
  | n + 3 => rfl
theorem ok_tf {z : Int} (h : am_tf z) : am_rg z := by
  rcases h with h | h <;> (subst h; unfold am_rg; omega)
theorem ok_getf {c : aC} {ty : Nat} {h : aH} {r k : Nat} (ho : ok_t ty (h r k)) : ok_v (am_getf c ty h r k) := by
  unfold am_getf
  split
  · trivial
  · exact ho
  · rename_i x1 x2
    show am_rg _
    unfold ok_t at ho
    split at ho
    · exact absurd rfl x1
    · exact absurd rfl x2
    · exact ok_tf ho
    · exact ⟨by omega, by omega⟩
    · exact ho
theorem am_ty_o {ft : Nat → Nat → Nat} {sh : List aC} {r c k : Nat} (h : am_kd sh r = 10 + c) : am_ty ft sh r k = ft c k := by
  unfold am_ty
  split <;> first | omega | (rename_i n _ _ _ _ _ _ _ _ ; rw [show am_kd sh r - 10 = c by omega])
theorem am_e_o {ft : Nat → Nat → Nat} {ct : Nat → ClassId} {ad : Nat → Nat} {c : aC} {h : Nat → Int} {n : Nat} (hc : c.1 = 10 + n) : am_e ft ct ad c h = .inr (n, (List.range c.2.1).map fun k => am_fv ad (ft n k) c.2.2 h k) := by
  unfold am_e
  split <;> first | omega | rw [show c.1 - 10 = n by omega]
theorem lay_of {args : Array Value} {s : State} (hts : ∀ w ∈ lw_tbl, lw_use w = true → w.before args s = true) {c : Nat} (hc : c < 13) : ∀ w ∈ u_ws (cN c) (cT c) (nf c), w.before args s = true := by
  intro w hw
  refine hts w (cls_in c hc w hw) ?_
  obtain ⟨q, -, rfl⟩ := List.mem_map.mp hw
  unfold u_lay
  split <;> rfl
section S24
variable {G : aG} {cc : ByteArray} {own pc : Nat} {ls : aL} {st : List aV} {S : aS}
theorem s_getf {r n ix : Nat} (hF : FX G cc own) (hd : decode cc pc = .ok (.getfield ix, 3)) (hO : am_isO S.1 r n = true) (ht : (own, ix, n / 100, n % 100) ∈ tFl)
    (k : WA G (pc + 3) ls (am_getf (am_nth am_o0 S.1 r) (ftab (n / 100) (n % 100)) S.2 r (n % 100) :: st) S) : WA G pc ls (.inr (.inr r) :: st) S := by
  obtain ⟨p, l, e, R, s, m, args, below, meth, c, Q, nL, dC, dI, ct, ad, n0, z0, x0⟩ := G
  obtain ⟨hk, hn⟩ := isO_ok hO
  obtain ⟨h13, hnf⟩ := tFl_lt _ ht
  obtain ⟨h9, hc, hl⟩ := kd_w hk (by omega) (by
    have : ∀ c, c < 13 → am_xk (10 + c) = false := by decide
    exact this _ h13)
  intro H locs lsC hR hlv h1 h2
  have kk := k H locs lsC hR hlv h1 (ok_c.mpr ⟨ok_getf (by rw [← am_ty_o (ft := ftab) (k := n % 100) hk]; exact hR.2.2.1 r _), (ok_c.mp h2).2⟩)
  show W p l e R s m args below meth c H locs _ _ Q (F0 m pc lsC (cv ad (.inr (.inr r)) :: st.map (cv ad)))
  rw [cv_ref (by omega) (by omega)]
  have hw := am_w_get (ft := ftab) (ct := ct) (ad := ad) (S := S) h9 hl
  rw [am_e_o hc] at hw
  refine va_get hF.1 hF.2.1 (lay_of hF.2.2.2.2.1 h13) (fun w h => h) hF.2.2.2.1 hF.2.2.2.2.2.1 hR.1 (r - 9) hw (cls_at _ h13) (n % 100) hnf (hF.2.2.2.2.1 _ (tFl_ok _ ht) rfl) (fun x hx => by rw [cls_own _ h13 _ hnf] at hx; exact hx) (v := cv ad (am_getf (am_nth am_o0 S.1 r) (ftab (n / 100) (n % 100)) S.2 r (n % 100))) ?_ hd kk
  rw [List.getElem?_map, List.getElem?_range hn, cv_getf]
  rfl
end S24
end
section
/-! rows of stores -/
theorem am_up_ne {h : aH} {r k q : Nat} {v : Int} (hq : q ≠ r) : am_up h r k v q = h q := by
  funext j
  rw [am_up_at, if_neg (fun z => hq z.1)]
theorem am_up_row (h : aH) (r k : Nat) (v : Int) (j : Nat) : am_up h r k v r j = if j = k then v else h r j := by
  rw [am_up_at]
  by_cases e : j = k
  · rw [if_pos ⟨rfl, e⟩, if_pos e]
  · rw [if_neg (fun z => e z.2), if_neg e]
theorem am_sz_put : ∀ (l : List aC) (k : Nat) (x : aC), x.2.1 = (am_nth am_o0 l k).2.1 → am_sz (am_put x l k) = am_sz l
  | [], _, _, _ => rfl
  | y :: l, 0, x, h => by
    show x.2.1 + am_sz l = y.2.1 + am_sz l
    rw [h]; rfl
  | y :: l, k + 1, x, h => by
    show y.2.1 + am_sz (am_put x l k) = y.2.1 + am_sz l
    rw [am_sz_put l k x h]
theorem ok_up {S : aS} {r k : Nat} {v : Int} (h : ok_h ftab S) (hv : ok_t (am_ty ftab S.1 r k) v) : ok_h ftab (S.1, am_up S.2 r k v) := by
  intro q j
  show ok_t (am_ty ftab S.1 q j) (am_up S.2 r k v q j)
  rw [am_up_at]
  by_cases e : q = r ∧ j = k
  · rw [if_pos e, e.1, e.2]; exact hv
  · rw [if_neg e]; exact h q j
theorem am_kd_put {sh : List aC} {r : Nat} {x : aC} (hr : r < sh.length) (hx : x.1 = (am_nth am_o0 sh r).1) (q : Nat) : am_kd (am_put x sh r) q = am_kd sh q := by
  have e : (am_nth am_o0 (am_put x sh r) q).1 = (am_nth am_o0 sh q).1 := by
    rw [am_nth_put _ _ _ _ _ hr]
    by_cases e : q = r
    · rw [if_pos e, hx, e]
    · rw [if_neg e]
  unfold am_kd
  rw [e]
theorem ok_put {S : aS} {r : Nat} {x : aC} (h : ok_h ftab S) (hr : r < S.1.length) (hx : x.1 = (am_nth am_o0 S.1 r).1) : ok_h ftab (am_put x S.1 r, S.2) := by
  intro q j
  have := h q j
  unfold am_ty at this ⊢
  rw [am_kd_put hr hx]
  exact this
theorem upd32 (h : aH) (r k : Nat) (v : Int) : (fun j => Int32.ofInt (am_up h r k v r j)) = upd (fun j => Int32.ofInt (h r j)) k (Int32.ofInt v) := by
  funext j
  rw [am_up_row]
  unfold upd
  by_cases e : j = k
  · rw [if_pos e, if_pos e]
  · rw [if_neg e, if_neg e]
theorem upd64 (h : aH) (r k : Nat) (v : Int) : (fun j => Int64.ofInt (am_up h r k v r j)) = vp_updL (fun j => Int64.ofInt (h r j)) k (Int64.ofInt v) := by
  funext j
  rw [am_up_row]
  unfold vp_updL
  by_cases e : j = k
  · rw [if_pos e, if_pos e]
  · rw [if_neg e, if_neg e]
/-- a store: what it leaves -/
theorem RR.store {p : Program} {l : Launch} {e : Env} {R : Room} {s : State} {m : MethodId} {args : Array Value} {below : List Frame} {meth : Method} {c : Code} {Q : State → Prop} {nL : Nat} {dC : Nat → ClassId} {dI : Nat → Nat → Nat} {ct : Nat → ClassId} {ad : Nat → Nat} {n0 z0 : Nat} {x0 : Nat → aC × (Nat → Int)}
    {S S2 : aS} {H : Heap} {locs : List Loc} {r : Nat} {x : va_E} (hR : RR (p, l, e, R, s, m, args, below, meth, c, Q, nL, dC, dI, ct, ad, n0, z0, x0) S H locs) (h9 : 9 ≤ r) (hr : r < S.1.length) (hl : S2.1.length = S.1.length) (hz : am_sz S2.1 = am_sz S.1)
    (hx : am_e ftab ct ad (am_nth am_o0 S2.1 r) (S2.2 r) = x) (ho : ∀ q, q ≠ r → am_nth am_o0 S2.1 q = am_nth am_o0 S.1 q ∧ S2.2 q = S.2 q) (hok : ok_h ftab S2)
    {H1 : Heap} {locs1 : List Loc} (hP : va_P (dC, dI) vwCl ((am_w ftab ct ad S).set (r - 9) (ad r, x)) H1) (hS : va_S (am_A ad) s.heap H1 locs1) : RR (p, l, e, R, s, m, args, below, meth, c, Q, nL, dC, dI, ct, ad, n0, z0, x0) S2 H1 locs1 := by
  refine ⟨?_, hS, hok, ?_, ?_, ?_⟩
  · rw [am_w_set h9 hr hl hx (fun q hq _ => by rw [(ho q hq).1, (ho q hq).2])] at hP
    exact hP
  · rw [hl]; exact hR.2.2.2.1
  · exact ⟨by rw [hz]; exact hR.2.2.2.2.1.1, fun q hq => by rw [(ho q (by omega)).1, (ho q (by omega)).2]; exact hR.2.2.2.2.1.2 q hq⟩
  · exact hR.2.2.2.2.2.same (fun q hq => (ho q (by omega)).1) (fun q hq => (ho q (by omega)).2)
theorem set_fv {ad : Nat → Nat} {t : Nat → Nat} {rs rs2 : List Nat} {h h2 : Nat → Int} {n k : Nat} {v : Value} (hk : am_fv ad (t k) rs2 h2 k = v) (ho : ∀ j, j ≠ k → am_fv ad (t j) rs2 h2 j = am_fv ad (t j) rs h j) :
    (List.range n).map (fun j => am_fv ad (t j) rs2 h2 j) = ((List.range n).map (fun j => am_fv ad (t j) rs h j)).set k v := by
  apply List.ext_getElem?
  intro j
  rw [List.getElem?_map]
  by_cases hj : j < n
  · by_cases e : j = k
    · subst e
      rw [List.getElem?_range hj, List.getElem?_set_self (by simpa using hj), ← hk]
      rfl
    · rw [List.getElem?_set_ne (fun z => e z.symm), List.getElem?_map, List.getElem?_range hj]
      exact congrArg some (ho j e)
  · rw [List.getElem?_eq_none (by simpa using hj), List.getElem?_eq_none (by simpa using hj)]
    rfl
theorem fv_up (ad : Nat → Nat) (ty : Nat) (rs : List Nat) (h : aH) (r k : Nat) (v : Int) (j : Nat) (hj : j ≠ k) : am_fv ad ty rs (am_up h r k v r) j = am_fv ad ty rs (h r) j := by
  unfold am_fv
  rw [am_up_row, if_neg hj]
def aMe (G : aG) : Method := G.2.2.2.2.2.2.2.2.1
section S26
variable {G : aG} {cc : ByteArray} {own pc : Nat} {ls : aL} {st : List aV} {S : aS}
theorem s_put {r n ix : Nat} {v : aV} {S2 : aS} (hF : FX G cc own) (hd : decode cc pc = .ok (.putfield ix, 3)) (hO : am_isO S.1 r n = true) (ht : (own, ix, n / 100, n % 100) ∈ tFl)
    (hfin : (cT (n / 100) (n % 100)).2.2.2 = false ∨ ((aMe G).name = "<init>" ∧ own = n / 100))
    (hv : ok_v v → narrow (cTy (n / 100) (n % 100)) (cv (aAd G) v) = cv (aAd G) v ∧ fits (cTy (n / 100) (n % 100)) (cv (aAd G) v) = true)
    (hl : S2.1.length = S.1.length) (hz : am_sz S2.1 = am_sz S.1) (ho : ∀ q, q ≠ r → am_nth am_o0 S2.1 q = am_nth am_o0 S.1 q ∧ S2.2 q = S.2 q)
    (hx : (am_nth am_o0 S2.1 r).1 = (am_nth am_o0 S.1 r).1 ∧ (am_nth am_o0 S2.1 r).2.1 = (am_nth am_o0 S.1 r).2.1)
    (hk : am_fv (aAd G) (ftab (n / 100) (n % 100)) (am_nth am_o0 S2.1 r).2.2 (S2.2 r) (n % 100) = cv (aAd G) v)
    (hj : ∀ j, j ≠ n % 100 → am_fv (aAd G) (ftab (n / 100) j) (am_nth am_o0 S2.1 r).2.2 (S2.2 r) j = am_fv (aAd G) (ftab (n / 100) j) (am_nth am_o0 S.1 r).2.2 (S.2 r) j)
    (hok : ok_h ftab S → ok_v v → ok_h ftab S2) (k : WA G (pc + 3) ls st S2) : WA G pc ls (v :: .inr (.inr r) :: st) S := by
  obtain ⟨p, l, e, R, s, m, args, below, meth, c, Q, nL, dC, dI, ct, ad, n0, z0, x0⟩ := G
  obtain ⟨hkd, hn⟩ := isO_ok hO
  obtain ⟨h13, hnf⟩ := tFl_lt _ ht
  obtain ⟨h9, hc, hlen⟩ := kd_w hkd (by omega) (by
    have : ∀ c, c < 13 → am_xk (10 + c) = false := by decide
    exact this _ h13)
  intro H locs lsC hR hlv h1 h2
  obtain ⟨hv1, h2⟩ := ok_c.mp h2
  obtain ⟨-, h2⟩ := ok_c.mp h2
  obtain ⟨hv2, hv3⟩ := hv hv1
  show W p l e R s m args below meth c H locs _ _ Q (F0 m pc lsC (cv ad v :: cv ad (.inr (.inr r)) :: st.map (cv ad)))
  rw [cv_ref (by omega) (by omega)]
  have hw := am_w_get (ft := ftab) (ct := ct) (ad := ad) (S := S) h9 hlen
  rw [am_e_o hc] at hw
  have fin : ∀ (H1 : Heap) (locs1 : List Loc), va_P (dC, dI) vwCl ((am_w ftab ct ad S).set (r - 9) (ad r, .inr (n / 100, ((List.range (am_nth am_o0 S.1 r).2.1).map fun k => am_fv ad (ftab (n / 100) k) (am_nth am_o0 S.1 r).2.2 (S.2 r) k).set (n % 100) (cv ad v)))) H1 → va_D (am_A ad) ((am_w ftab ct ad S).set (r - 9) (ad r, .inr (n / 100, ((List.range (am_nth am_o0 S.1 r).2.1).map fun k => am_fv ad (ftab (n / 100) k) (am_nth am_o0 S.1 r).2.2 (S.2 r) k).set (n % 100) (cv ad v)))) → va_S (am_A ad) s.heap H1 locs1 →
      W p l e R s m args below meth c H1 locs1 (S.1.length - n0) (am_sz S.1 - z0) Q (F0 m (pc + 3) lsC (st.map (cv ad))) := by
    intro H1 locs1 hP1 hD1 hS1
    have hR1 := RR.store (S2 := S2) hR h9 hlen hl hz (by rw [am_e_o (n := n / 100) (by rw [hx.1, hc]), hx.2]; exact congrArg (fun x => Sum.inr (n / 100, x)) (set_fv (t := ftab (n / 100)) (ad := ad) hk hj)) ho (hok hR.2.2.1 hv1) hP1 hS1
    have q := k H1 locs1 lsC hR1 hlv h1 h2
    unfold WP at q
    rw [hl, hz] at q
    exact q
  rcases hfin with hfin | ⟨hfin, hown⟩
  · exact va_put hF.1 hF.2.1 (lay_of hF.2.2.2.2.1 h13) (fun w h => h) (cTy (n / 100)) (cls_pf _ h13) (cls_nm _ h13) hF.2.2.2.1 hF.2.2.2.2.2.1 hR.1 (am_w_D hF.2.2.2.2.2.2.1 S) hR.2.1 (r - 9) hw (cls_at _ h13) (n % 100) hnf (hF.2.2.2.2.1 _ (tFl_ok _ ht) rfl) (fun x hx => by rw [cls_own _ h13 _ hnf] at hx; exact hx) hfin (cls_pf _ h13 _ hnf) hv2 hv3 (by simpa using hn) hd fin
  · by_cases hf : (cT (n / 100) (n % 100)).2.2.2 = true
    · exact va_putF hF.1 hF.2.1 (lay_of hF.2.2.2.2.1 h13) (fun w h => h) (cTy (n / 100)) (cls_pf _ h13) (cls_nm _ h13) hF.2.2.2.1 hF.2.2.2.2.2.1 hR.1 (am_w_D hF.2.2.2.2.2.2.1 S) hR.2.1 (r - 9) hw (cls_at _ h13) (n % 100) hnf (hF.2.2.2.2.1 _ (tFl_ok _ ht) rfl) (fun x hx => by rw [cls_own _ h13 _ hnf] at hx; exact hx) hf hfin (by rw [cls_own _ h13 _ hnf, hown]) (cls_pf _ h13 _ hnf) hv2 hv3 (by simpa using hn) hd fin
    · exact va_put hF.1 hF.2.1 (lay_of hF.2.2.2.2.1 h13) (fun w h => h) (cTy (n / 100)) (cls_pf _ h13) (cls_nm _ h13) hF.2.2.2.1 hF.2.2.2.2.2.1 hR.1 (am_w_D hF.2.2.2.2.2.2.1 S) hR.2.1 (r - 9) hw (cls_at _ h13) (n % 100) hnf (hF.2.2.2.2.1 _ (tFl_ok _ ht) rfl) (fun x hx => by rw [cls_own _ h13 _ hnf] at hx; exact hx) (by simpa using hf) (cls_pf _ h13 _ hnf) hv2 hv3 (by simpa using hn) hd fin
end S26
end
section
/-! rows of arrays, static fields, texts -/
section S28
variable {G : aG} {cc : ByteArray} {own pc : Nat} {ls : aL} {st : List aV} {S : aS}
theorem s_iald {r : Nat} {i : Int} (hF : FX G cc own) (hd : decode cc pc = .ok (.iaload, 1)) (hk : am_kd S.1 r = 1 ∨ am_kd S.1 r = 6) (hi : am_ix i (am_nth am_o0 S.1 r).2.1) (k : WA G (pc + 1) ls (.inl (S.2 r i.toNat) :: st) S) : WA G pc ls (.inl i :: .inr (.inr r) :: st) S := by
  obtain ⟨p, l, e, R, s, m, args, below, meth, c, Q, nL, dC, dI, ct, ad, n0, z0, x0⟩ := G
  intro H locs lsC hR hlv h1 h2
  obtain ⟨hiv, h2⟩ := ok_c.mp h2
  have hok : am_rg (S.2 r i.toNat) := by
    have := hR.2.2.1 r i.toNat
    unfold am_ty at this
    rcases hk with hk | hk <;> (rw [hk] at this; exact this)
  have kk := k H locs lsC hR hlv h1 (ok_c.mpr ⟨hok, (ok_c.mp h2).2⟩)
  show W p l e R s m args below meth c H locs _ _ Q (F0 m pc lsC (.int (Int32.ofInt i) :: cv ad (.inr (.inr r)) :: st.map (cv ad)))
  rcases hk with hk | hk
  · obtain ⟨h9, hc, hl⟩ := kd_w hk (by decide) (by decide)
    rw [cv_ref (by omega) (by omega)]
    have hw := am_w_get (ft := ftab) (ct := ct) (ad := ad) (S := S) h9 hl
    unfold am_e at hw
    rw [hc] at hw
    refine va_iald hF.1 hF.2.1 hF.2.2.2.2.2.1 hR.1 (r - 9) 0 hw rfl (ix32 hi hiv) hd ?_
    rw [cl32 hiv]
    exact kk
  · obtain ⟨h9, h0, h8⟩ := kd_x hk (by decide)
    rw [cv_ref h0 h8]
    refine va_ti hF.1 hF.2.1 ((hR.2.2.2.2.2.1 r h9).1 hk) hR.2.1 (ix32 hi hiv) rfl hd ?_
    rw [cl32 hiv]
    exact kk
theorem s_lald {r : Nat} {i : Int} (hF : FX G cc own) (hd : decode cc pc = .ok (.laload, 1)) (hk : am_kd S.1 r = 2 ∨ am_kd S.1 r = 7) (hi : am_ix i (am_nth am_o0 S.1 r).2.1) (k : WA G (pc + 1) ls (.inr (.inl (S.2 r i.toNat)) :: st) S) : WA G pc ls (.inl i :: .inr (.inr r) :: st) S := by
  obtain ⟨p, l, e, R, s, m, args, below, meth, c, Q, nL, dC, dI, ct, ad, n0, z0, x0⟩ := G
  intro H locs lsC hR hlv h1 h2
  obtain ⟨hiv, h2⟩ := ok_c.mp h2
  have hok : am_rl (S.2 r i.toNat) := by
    have := hR.2.2.1 r i.toNat
    unfold am_ty at this
    rcases hk with hk | hk <;> (rw [hk] at this; exact this)
  have kk := k H locs lsC hR hlv h1 (ok_c.mpr ⟨hok, (ok_c.mp h2).2⟩)
  show W p l e R s m args below meth c H locs _ _ Q (F0 m pc lsC (.int (Int32.ofInt i) :: cv ad (.inr (.inr r)) :: st.map (cv ad)))
  rcases hk with hk | hk
  · obtain ⟨h9, hc, hl⟩ := kd_w hk (by decide) (by decide)
    rw [cv_ref (by omega) (by omega)]
    have hw := am_w_get (ft := ftab) (ct := ct) (ad := ad) (S := S) h9 hl
    unfold am_e at hw
    rw [hc] at hw
    refine va_lald hF.1 hF.2.1 hF.2.2.2.2.2.1 hR.1 (r - 9) 1 hw rfl (ix32 hi hiv) hd ?_
    rw [cl32 hiv]
    exact kk
  · obtain ⟨h9, h0, h8⟩ := kd_x hk (by decide)
    rw [cv_ref h0 h8]
    refine va_tl hF.1 hF.2.1 ((hR.2.2.2.2.2.1 r h9).2.1 hk) hR.2.1 (ix32 hi hiv) rfl hd ?_
    rw [cl32 hiv]
    exact kk
theorem s_bald {r : Nat} {i : Int} (hF : FX G cc own) (hd : decode cc pc = .ok (.baload, 1)) (hk : am_kd S.1 r = 3 ∨ am_kd S.1 r = 4 ∨ am_kd S.1 r = 8) (hi : am_ix i (am_nth am_o0 S.1 r).2.1) (k : WA G (pc + 1) ls (.inl (S.2 r i.toNat) :: st) S) : WA G pc ls (.inl i :: .inr (.inr r) :: st) S := by
  obtain ⟨p, l, e, R, s, m, args, below, meth, c, Q, nL, dC, dI, ct, ad, n0, z0, x0⟩ := G
  intro H locs lsC hR hlv h1 h2
  obtain ⟨hiv, h2⟩ := ok_c.mp h2
  have hok : am_rg (S.2 r i.toNat) := by
    have := hR.2.2.1 r i.toNat
    unfold am_ty at this
    rcases hk with hk | hk | hk <;> rw [hk] at this
    · exact ⟨by have := this.1; omega, by have := this.2; omega⟩
    · exact ok_tf this
    · exact ⟨by have := this.1; omega, by have := this.2; omega⟩
  have kk := k H locs lsC hR hlv h1 (ok_c.mpr ⟨hok, (ok_c.mp h2).2⟩)
  show W p l e R s m args below meth c H locs _ _ Q (F0 m pc lsC (.int (Int32.ofInt i) :: cv ad (.inr (.inr r)) :: st.map (cv ad)))
  rcases hk with hk | hk | hk
  · obtain ⟨h9, hc, hl⟩ := kd_w hk (by decide) (by decide)
    rw [cv_ref (by omega) (by omega)]
    have hw := am_w_get (ft := ftab) (ct := ct) (ad := ad) (S := S) h9 hl
    unfold am_e at hw
    rw [hc] at hw
    refine va_bald hF.1 hF.2.1 hF.2.2.2.2.2.1 hR.1 (r - 9) 2 hw rfl (ix32 hi hiv) hd ?_
    rw [cl32 hiv]
    exact kk
  · obtain ⟨h9, hc, hl⟩ := kd_w hk (by decide) (by decide)
    rw [cv_ref (by omega) (by omega)]
    have hw := am_w_get (ft := ftab) (ct := ct) (ad := ad) (S := S) h9 hl
    unfold am_e at hw
    rw [hc] at hw
    refine va_zald hF.1 hF.2.1 hF.2.2.2.2.2.1 hR.1 (r - 9) 3 hw rfl (ix32 hi hiv) hd ?_
    rw [cl32 hiv]
    exact kk
  · obtain ⟨h9, h0, h8⟩ := kd_x hk (by decide)
    rw [cv_ref h0 h8]
    refine va_tb hF.1 hF.2.1 ((hR.2.2.2.2.2.1 r h9).2.2.1 hk) hR.2.1 (ix32 hi hiv) rfl hd ?_
    rw [cl32 hiv]
    exact kk
theorem WP_same {pc2 : Nat} {lsC : Array Slot} {sv : List Value} {S2 : aS} {H : Heap} {locs : List Loc} (hl : S2.1.length = S.1.length) (hz : am_sz S2.1 = am_sz S.1) (h : WP G pc2 lsC sv S2 H locs) : WP G pc2 lsC sv S H locs := by
  unfold WP at h ⊢
  rw [← hl, ← hz]
  exact h
theorem s_iast {r : Nat} {i v : Int} (hF : FX G cc own) (hd : decode cc pc = .ok (.iastore, 1)) (hk : am_kd S.1 r = 1) (hi : am_ix i (am_nth am_o0 S.1 r).2.1) (k : WA G (pc + 1) ls st (S.1, am_up S.2 r i.toNat v)) : WA G pc ls (.inl v :: .inl i :: .inr (.inr r) :: st) S := by
  obtain ⟨p, l, e, R, s, m, args, below, meth, c, Q, nL, dC, dI, ct, ad, n0, z0, x0⟩ := G
  intro H locs lsC hR hlv h1 h2
  obtain ⟨hv, h2⟩ := ok_c.mp h2
  obtain ⟨hiv, h2⟩ := ok_c.mp h2
  obtain ⟨h9, hc, hl⟩ := kd_w hk (by decide) (by decide)
  show W p l e R s m args below meth c H locs _ _ Q (F0 m pc lsC (.int (Int32.ofInt v) :: .int (Int32.ofInt i) :: cv ad (.inr (.inr r)) :: st.map (cv ad)))
  rw [cv_ref (by omega) (by omega)]
  have hw := am_w_get (ft := ftab) (ct := ct) (ad := ad) (S := S) h9 hl
  unfold am_e at hw
  rw [hc] at hw
  refine va_iast hF.1 hF.2.1 hF.2.2.2.2.2.1 hR.1 (am_w_D hF.2.2.2.2.2.2.1 S) hR.2.1 (r - 9) 0 hw rfl (ix32 hi hiv) hd (fun H1 locs1 hP1 hD1 hS1 => ?_)
  rw [cl32 hiv] at hP1
  exact k H1 locs1 lsC (RR.store (S2 := (S.1, am_up S.2 r i.toNat v)) hR h9 hl rfl rfl (by unfold am_e; rw [hc]; show Sum.inl _ = Sum.inl _; rw [upd32]) (fun q hq => ⟨rfl, am_up_ne hq⟩) (ok_up hR.2.2.1 (by unfold am_ty; rw [hk]; exact hv)) hP1 hS1) hlv h1 (ok_c.mp h2).2
theorem s_last {r : Nat} {i v : Int} (hF : FX G cc own) (hd : decode cc pc = .ok (.lastore, 1)) (hk : am_kd S.1 r = 2) (hi : am_ix i (am_nth am_o0 S.1 r).2.1) (k : WA G (pc + 1) ls st (S.1, am_up S.2 r i.toNat v)) : WA G pc ls (.inr (.inl v) :: .inl i :: .inr (.inr r) :: st) S := by
  obtain ⟨p, l, e, R, s, m, args, below, meth, c, Q, nL, dC, dI, ct, ad, n0, z0, x0⟩ := G
  intro H locs lsC hR hlv h1 h2
  obtain ⟨hv, h2⟩ := ok_c.mp h2
  obtain ⟨hiv, h2⟩ := ok_c.mp h2
  obtain ⟨h9, hc, hl⟩ := kd_w hk (by decide) (by decide)
  show W p l e R s m args below meth c H locs _ _ Q (F0 m pc lsC (.long (Int64.ofInt v) :: .int (Int32.ofInt i) :: cv ad (.inr (.inr r)) :: st.map (cv ad)))
  rw [cv_ref (by omega) (by omega)]
  have hw := am_w_get (ft := ftab) (ct := ct) (ad := ad) (S := S) h9 hl
  unfold am_e at hw
  rw [hc] at hw
  refine va_last hF.1 hF.2.1 hF.2.2.2.2.2.1 hR.1 (am_w_D hF.2.2.2.2.2.2.1 S) hR.2.1 (r - 9) 1 hw rfl (ix32 hi hiv) hd (fun H1 locs1 hP1 hD1 hS1 => ?_)
  rw [cl32 hiv] at hP1
  exact k H1 locs1 lsC (RR.store (S2 := (S.1, am_up S.2 r i.toNat v)) hR h9 hl rfl rfl (by unfold am_e; rw [hc]; show Sum.inl _ = Sum.inl _; rw [upd64]) (fun q hq => ⟨rfl, am_up_ne hq⟩) (ok_up hR.2.2.1 (by unfold am_ty; rw [hk]; exact hv)) hP1 hS1) hlv h1 (ok_c.mp h2).2
theorem s_bast {r : Nat} {i v : Int} (hF : FX G cc own) (hd : decode cc pc = .ok (.bastore, 1)) (hk : am_kd S.1 r = 3) (hi : am_ix i (am_nth am_o0 S.1 r).2.1) (k : WA G (pc + 1) ls st (S.1, am_up S.2 r i.toNat (w8 v))) : WA G pc ls (.inl v :: .inl i :: .inr (.inr r) :: st) S := by
  obtain ⟨p, l, e, R, s, m, args, below, meth, c, Q, nL, dC, dI, ct, ad, n0, z0, x0⟩ := G
  intro H locs lsC hR hlv h1 h2
  obtain ⟨hv, h2⟩ := ok_c.mp h2
  obtain ⟨hiv, h2⟩ := ok_c.mp h2
  obtain ⟨h9, hc, hl⟩ := kd_w hk (by decide) (by decide)
  show W p l e R s m args below meth c H locs _ _ Q (F0 m pc lsC (.int (Int32.ofInt v) :: .int (Int32.ofInt i) :: cv ad (.inr (.inr r)) :: st.map (cv ad)))
  rw [cv_ref (by omega) (by omega)]
  have hw := am_w_get (ft := ftab) (ct := ct) (ad := ad) (S := S) h9 hl
  unfold am_e at hw
  rw [hc] at hw
  refine va_bast hF.1 hF.2.1 hF.2.2.2.2.2.1 hR.1 (am_w_D hF.2.2.2.2.2.2.1 S) hR.2.1 (r - 9) 2 hw rfl (ix32 hi hiv) hd (fun H1 locs1 hP1 hD1 hS1 => ?_)
  rw [cl32 hiv, vp_nar_byte, byte32] at hP1
  exact k H1 locs1 lsC (RR.store (S2 := (S.1, am_up S.2 r i.toNat (w8 v))) hR h9 hl rfl rfl (by unfold am_e; rw [hc]; show Sum.inl _ = Sum.inl _; rw [upd32]) (fun q hq => ⟨rfl, am_up_ne hq⟩) (ok_up hR.2.2.1 (by unfold am_ty; rw [hk]; exact w8_rg v)) hP1 hS1) hlv h1 (ok_c.mp h2).2
theorem nar_z {v : Int} (h : am_tf v) : vp_nar .boolean (Int32.ofInt v) = Int32.ofInt v := by
  rcases h with h | h <;> (subst h; decide)
theorem s_zast {r : Nat} {i v : Int} (hF : FX G cc own) (hd : decode cc pc = .ok (.bastore, 1)) (hk : am_kd S.1 r = 4) (hi : am_ix i (am_nth am_o0 S.1 r).2.1) (ht : am_tf v) (k : WA G (pc + 1) ls st (S.1, am_up S.2 r i.toNat v)) : WA G pc ls (.inl v :: .inl i :: .inr (.inr r) :: st) S := by
  obtain ⟨p, l, e, R, s, m, args, below, meth, c, Q, nL, dC, dI, ct, ad, n0, z0, x0⟩ := G
  intro H locs lsC hR hlv h1 h2
  obtain ⟨hv, h2⟩ := ok_c.mp h2
  obtain ⟨hiv, h2⟩ := ok_c.mp h2
  obtain ⟨h9, hc, hl⟩ := kd_w hk (by decide) (by decide)
  show W p l e R s m args below meth c H locs _ _ Q (F0 m pc lsC (.int (Int32.ofInt v) :: .int (Int32.ofInt i) :: cv ad (.inr (.inr r)) :: st.map (cv ad)))
  rw [cv_ref (by omega) (by omega)]
  have hw := am_w_get (ft := ftab) (ct := ct) (ad := ad) (S := S) h9 hl
  unfold am_e at hw
  rw [hc] at hw
  refine va_zast hF.1 hF.2.1 hF.2.2.2.2.2.1 hR.1 (am_w_D hF.2.2.2.2.2.2.1 S) hR.2.1 (r - 9) 3 hw rfl (ix32 hi hiv) hd (fun H1 locs1 hP1 hD1 hS1 => ?_)
  rw [cl32 hiv, nar_z ht] at hP1
  exact k H1 locs1 lsC (RR.store (S2 := (S.1, am_up S.2 r i.toNat v)) hR h9 hl rfl rfl (by unfold am_e; rw [hc]; show Sum.inl _ = Sum.inl _; rw [upd32]) (fun q hq => ⟨rfl, am_up_ne hq⟩) (ok_up hR.2.2.1 (by unfold am_ty; rw [hk]; exact ht)) hP1 hS1) hlv h1 (ok_c.mp h2).2
theorem s_alen {r : Nat} (hF : FX G cc own) (hd : decode cc pc = .ok (.arraylength, 1)) (hk : 1 ≤ am_kd S.1 r ∧ am_kd S.1 r ≤ 8) (hn : am_rg ((am_nth am_o0 S.1 r).2.1 : Int)) (k : WA G (pc + 1) ls (.inl ((am_nth am_o0 S.1 r).2.1 : Int) :: st) S) : WA G pc ls (.inr (.inr r) :: st) S := by
  obtain ⟨p, l, e, R, s, m, args, below, meth, c, Q, nL, dC, dI, ct, ad, n0, z0, x0⟩ := G
  intro H locs lsC hR hlv h1 h2
  have kk := k H locs lsC hR hlv h1 (ok_c.mpr ⟨hn, (ok_c.mp h2).2⟩)
  show W p l e R s m args below meth c H locs _ _ Q (F0 m pc lsC (cv ad (.inr (.inr r)) :: st.map (cv ad)))
  have hof : Int32.ofNat (am_nth am_o0 S.1 r).2.1 = Int32.ofInt ((am_nth am_o0 S.1 r).2.1 : Int) := rfl
  rcases (by omega : am_kd S.1 r = 1 ∨ am_kd S.1 r = 2 ∨ am_kd S.1 r = 3 ∨ am_kd S.1 r = 4 ∨ am_kd S.1 r = 5 ∨ am_kd S.1 r = 6 ∨ am_kd S.1 r = 7 ∨ am_kd S.1 r = 8) with hk | hk | hk | hk | hk | hk | hk | hk
  · obtain ⟨h9, hc, hl⟩ := kd_w hk (by decide) (by decide)
    rw [cv_ref (by omega) (by omega)]
    have hw := am_w_get (ft := ftab) (ct := ct) (ad := ad) (S := S) h9 hl
    unfold am_e at hw
    rw [hc] at hw
    exact va_alen hF.1 hF.2.1 hF.2.2.2.2.2.1 hR.1 (r - 9) 0 hw rfl hof hd kk
  · obtain ⟨h9, hc, hl⟩ := kd_w hk (by decide) (by decide)
    rw [cv_ref (by omega) (by omega)]
    have hw := am_w_get (ft := ftab) (ct := ct) (ad := ad) (S := S) h9 hl
    unfold am_e at hw
    rw [hc] at hw
    exact va_alen hF.1 hF.2.1 hF.2.2.2.2.2.1 hR.1 (r - 9) 1 hw rfl hof hd kk
  · obtain ⟨h9, hc, hl⟩ := kd_w hk (by decide) (by decide)
    rw [cv_ref (by omega) (by omega)]
    have hw := am_w_get (ft := ftab) (ct := ct) (ad := ad) (S := S) h9 hl
    unfold am_e at hw
    rw [hc] at hw
    exact va_alen hF.1 hF.2.1 hF.2.2.2.2.2.1 hR.1 (r - 9) 2 hw rfl hof hd kk
  · obtain ⟨h9, hc, hl⟩ := kd_w hk (by decide) (by decide)
    rw [cv_ref (by omega) (by omega)]
    have hw := am_w_get (ft := ftab) (ct := ct) (ad := ad) (S := S) h9 hl
    unfold am_e at hw
    rw [hc] at hw
    exact va_alen hF.1 hF.2.1 hF.2.2.2.2.2.1 hR.1 (r - 9) 3 hw rfl hof hd kk
  · obtain ⟨h9, hc, hl⟩ := kd_w hk (by decide) (by decide)
    rw [cv_ref (by omega) (by omega)]
    have hw := am_w_get (ft := ftab) (ct := ct) (ad := ad) (S := S) h9 hl
    unfold am_e at hw
    rw [hc] at hw
    exact va_alen hF.1 hF.2.1 hF.2.2.2.2.2.1 hR.1 (r - 9) 4 hw rfl hof hd kk
  · obtain ⟨h9, h0, h8⟩ := kd_x hk (by decide)
    rw [cv_ref h0 h8]
    exact va_tlen hF.1 hF.2.1 ((hR.2.2.2.2.2.1 r h9).1 hk) hR.2.1 hof hd kk
  · obtain ⟨h9, h0, h8⟩ := kd_x hk (by decide)
    rw [cv_ref h0 h8]
    exact va_tlen hF.1 hF.2.1 ((hR.2.2.2.2.2.1 r h9).2.1 hk) hR.2.1 hof hd kk
  · obtain ⟨h9, h0, h8⟩ := kd_x hk (by decide)
    rw [cv_ref h0 h8]
    exact va_tlen hF.1 hF.2.1 ((hR.2.2.2.2.2.1 r h9).2.2.1 hk) hR.2.1 hof hd kk
end S28
end
section
/-! rows of references in arrays, static fields, texts, of making cells, of copying -/
theorem lkA : Cond.fieldLink "WakeHouse" 210 "WakeHouse" "HUNDREDS" "[J" ∈ lw_tbl := am_sel_in [1201] _ _ (by decide +kernel)
theorem lkB : Cond.fieldLinkNest "WakeHouse$Changes" 52 "WakeHouse" "HUNDREDS" "[J" "WakeHouse" ∈ lw_tbl := am_sel_in [1477] _ _ (by decide +kernel)
theorem lkC : Cond.fieldLinkNest "WakeHouse$Night" 126 "WakeHouse" "HUNDREDS" "[J" "WakeHouse" ∈ lw_tbl := am_sel_in [1237] _ _ (by decide +kernel)
theorem lkD : Cond.fieldLink "WakeHouse$Shaking" 90 "WakeHouse$Shaking" "NINES" "[I" ∈ lw_tbl := am_sel_in [1393] _ _ (by decide +kernel)
theorem lkE : Cond.fieldLink "java/lang/String" 1053 "jdk/internal/util/Preconditions" "SIOOBE_FORMATTER" "Ljava/util/function/BiFunction;" ∈ lw_tbl := am_sel_in [215] _ _ (by decide +kernel)
theorem lkF : Cond.fieldLink "java/lang/String" 38 "java/lang/String" "COMPACT_STRINGS" "Z" ∈ lw_tbl := am_sel_in [199] _ _ (by decide +kernel)
theorem lkG : Cond.fieldLink "java/lang/String" 9 "java/lang/String" "value" "[B" ∈ lw_tbl := am_sel_in [2509] _ _ (by decide +kernel)
theorem lkH : Cond.fieldLink "java/lang/String" 15 "java/lang/String" "coder" "B" ∈ lw_tbl := am_sel_in [2510] _ _ (by decide +kernel)
/-- static references: in which class, which entry, which cell -/
def tSr : List (Nat × Nat × Nat) := [(11, 210, 2), (1, 52, 2), (5, 126, 2), (8, 90, 3), (14, 1053, 8)]
/-- texts -/
def tTx : List (Nat × Nat × Nat) := [(10, 27, 4), (10, 81, 6)]
def aR (G : aG) : Room := G.2.2.2.1
def an0 (G : aG) : Nat := G.2.2.2.2.2.2.2.2.2.2.2.2.2.2.2.2.1
def az0 (G : aG) : Nat := G.2.2.2.2.2.2.2.2.2.2.2.2.2.2.2.2.2.1
theorem am_aal_ok {i : Int} {nxt : Nat → Prop} : ∀ (l : List Nat) (a : Int), am_aal (X := Prop) False (fun c _ x y => (c → x) ∧ (¬ c → y)) i nxt a l → ∃ j : Nat, j < l.length ∧ i = a + j ∧ nxt (am_nth 0 l j)
  | [], _, h => h.elim
  | q :: l, a, h => by
    by_cases e : i = a
    · exact ⟨0, by simp, by omega, h.1 e⟩
    · obtain ⟨j, h1, h2, h3⟩ := am_aal_ok l (a + 1) (h.2 e)
      exact ⟨j + 1, by simpa using h1, by omega, h3⟩
section W30
variable {p : Program} {l : Launch} {e : Env} {R : Room} {s : State} {m : MethodId} {args : Array Value} {below : List Frame} {meth : Method} {c : Code} {H : Heap} {locs : List Loc} {cells slots : Nat} {Q : State → Prop} {g : JFrame}
theorem W_sz (h : H.size ≤ s.heap.size + cells → W p l e R s m args below meth c H locs cells slots Q g) : W p l e R s m args below meth c H locs cells slots Q g := fun T hT X => h (by rw [← hT]; exact X.heapSize) T hT X
end W30
/-- a new cell stands behind all others -/
theorem new_addr {dC : Nat → ClassId} {dI : Nat → Nat → Nat} {ct : Nat → ClassId} {ad : Nat → Nat} {S : aS} {q : Nat} {x : va_E} {H1 : Heap} (hrow : am_row ad) (h9 : 9 ≤ S.1.length) (hP : va_P (dC, dI) vwCl (am_w ftab ct ad S ++ [(q, x)]) H1) (hD : va_D (am_A ad) (am_w ftab ct ad S ++ [(q, x)])) (hs : H1.size ≤ ad 9 + (S.1.length - 9) + 1) : q = ad S.1.length := by
  have hlast : (am_w ftab ct ad S ++ [(q, x)])[S.1.length - 9]? = some (q, x) := by
    rw [List.getElem?_append_right (by rw [am_w_len]; exact Nat.le_refl _), am_w_len, Nat.sub_self]
    rfl
  have h1 := (hP _ _ hlast).lt
  have h2 : ad 9 ≤ q := hD.2 _ _ hlast
  have h3 := hrow S.1.length h9
  rcases Nat.lt_or_ge q (ad S.1.length) with h | h
  · have hj := am_w_get (ft := ftab) (ct := ct) (ad := ad) (S := S) (r := 9 + (q - ad 9)) (by omega) (by omega)
    rw [show 9 + (q - ad 9) - 9 = q - ad 9 by omega] at hj
    have hj2 : (am_w ftab ct ad S ++ [(q, x)])[q - ad 9]? = some (ad (9 + (q - ad 9)), am_e ftab ct ad (am_nth am_o0 S.1 (9 + (q - ad 9))) (S.2 (9 + (q - ad 9)))) := by
      rw [List.getElem?_append_left (by rw [am_w_len]; omega)]
      exact hj
    have h4 := hD.1 _ _ _ _ hj2 hlast (by
      show ad (9 + (q - ad 9)) = q
      rw [hrow _ (by omega)]
      omega)
    omega
  · show q = ad S.1.length
    have h1 : q < H1.size := h1
    omega
theorem am_sz_app : ∀ (l : List aC) (x : aC), am_sz (l ++ [x]) = am_sz l + x.2.1
  | [], x => by show x.2.1 + 0 = 0 + x.2.1; omega
  | y :: l, x => by
    show y.2.1 + am_sz (l ++ [x]) = y.2.1 + am_sz l + x.2.1
    rw [am_sz_app l x]; omega
theorem am_z_old {S : aS} {q : Nat} (h : q < S.1.length) : am_z S q = S.2 q := by
  funext j
  unfold am_z
  rw [nb_ne (Nat.ne_of_lt h)]
  rfl
theorem am_z_new (S : aS) : am_z S S.1.length = fun _ => 0 := by
  funext j
  unfold am_z
  rw [show Nat.beq S.1.length S.1.length = true by simp]
  rfl
theorem ok_t0 (ty : Nat) : ok_t ty 0 := by
  unfold ok_t
  split
  · trivial
  · exact rg_rl rg0
  · exact Or.inl rfl
  · omega
  · exact rg0
theorem ok_push {S : aS} {x : aC} (h : ok_h ftab S) : ok_h ftab (S.1 ++ [x], am_z S) := by
  intro q j
  show ok_t _ (am_z S q j)
  by_cases e : q = S.1.length
  · rw [e, am_z_new]; exact ok_t0 _
  · unfold am_z
    rw [nb_ne e]
    show ok_t _ (S.2 q j)
    rcases Nat.lt_or_ge q S.1.length with hl | hl
    · have := h q j
      unfold am_ty am_kd at this ⊢
      rw [am_nth_app _ _ _ _ hl]
      exact this
    · have := h q j
      unfold am_ty am_kd at this ⊢
      rw [am_nth_out _ _ _ hl] at this
      rw [am_nth_out _ _ _ (by simp; omega)]
      exact this
theorem RR.push {p : Program} {l : Launch} {e : Env} {R : Room} {s : State} {m : MethodId} {args : Array Value} {below : List Frame} {meth : Method} {c : Code} {Q : State → Prop} {nL : Nat} {dC : Nat → ClassId} {dI : Nat → Nat → Nat} {ct : Nat → ClassId} {ad : Nat → Nat} {n0 z0 : Nat} {x0 : Nat → aC × (Nat → Int)}
    {S : aS} {H : Heap} {locs : List Loc} {cl : aC} {x : va_E} (h9 : 9 ≤ n0) (hlim : S.1.length + 1 ≤ n0 + R.cells ∧ am_sz S.1 + cl.2.1 ≤ z0 + R.slots) (hR : RR (p, l, e, R, s, m, args, below, meth, c, Q, nL, dC, dI, ct, ad, n0, z0, x0) S H locs)
    (hx : am_e ftab ct ad cl (fun _ => 0) = x) {H1 : Heap} {locs1 : List Loc} (hP : va_P (dC, dI) vwCl (am_w ftab ct ad S ++ [(ad S.1.length, x)]) H1) (hS : va_S (am_A ad) s.heap H1 locs1) : RR (p, l, e, R, s, m, args, below, meth, c, Q, nL, dC, dI, ct, ad, n0, z0, x0) (S.1 ++ [cl], am_z S) H1 locs1 := by
  have hn := hR.2.2.2.1.1
  refine ⟨?_, hS, ok_push hR.2.2.1, ?_, ?_, ?_⟩
  · rw [am_w_push (T := (S.1 ++ [cl], am_z S)) (by omega) rfl (by show am_e ftab ct ad cl (am_z S S.1.length) = x; rw [am_z_new]; exact hx) (fun q hq => am_z_old hq)] at hP
    exact hP
  · show n0 ≤ (S.1 ++ [cl]).length ∧ (S.1 ++ [cl]).length ≤ n0 + R.cells
    simp; omega
  · refine ⟨?_, fun q hq => ?_⟩
    · show z0 ≤ am_sz (S.1 ++ [cl]) ∧ am_sz (S.1 ++ [cl]) ≤ z0 + R.slots
      rw [am_sz_app]
      have := hR.2.2.2.2.1.1
      omega
    · have := hR.2.2.2.2.1.2 q hq
      show am_nth am_o0 (S.1 ++ [cl]) q = _ ∧ am_z S q = _
      rw [am_nth_app _ _ _ _ (by omega), am_z_old (by omega)]
      exact this
  · exact hR.2.2.2.2.2.same (fun q hq => am_nth_app _ _ _ _ (by omega)) (fun q hq => am_z_old (by omega))
section S30
variable {G : aG} {cc : ByteArray} {own pc : Nat} {ls : aL} {st : List aV} {S : aS}
theorem s_gst {r ix : Nat} (hF : FX G cc own) (hd : decode cc pc = .ok (.getstatic ix, 3)) (ht : (own, ix, r) ∈ tSr) (k : WA G (pc + 3) ls (.inr (.inr r) :: st) S) : WA G pc ls st S := by
  obtain ⟨p, l, e, R, s, m, args, below, meth, c, Q, nL, dC, dI, ct, ad, n0, z0, x0⟩ := G
  intro H locs lsC hR hlv h1 h2
  have kk := k H locs lsC hR hlv h1 (ok_c.mpr ⟨trivial, h2⟩)
  obtain ⟨-, x2, x3, x4, x5, x6, x7⟩ := hR.2.2.2.2.2
  simp only [tSr, List.mem_cons, List.not_mem_nil, or_false, Prod.mk.injEq] at ht
  rcases ht with ⟨rfl, rfl, rfl⟩ | ⟨rfl, rfl, rfl⟩ | ⟨rfl, rfl, rfl⟩ | ⟨rfl, rfl, rfl⟩ | ⟨rfl, rfl, rfl⟩
  · exact va_gets hF.1 hF.2.1 x2 hR.2.1 hF.2.2.2.1 (hF.2.2.2.2.1 _ lkA rfl) (fun x h => h) hd kk
  · exact va_getsN hF.1 hF.2.1 x2 hR.2.1 hF.2.2.2.1 (hF.2.2.2.2.1 _ lkB rfl) (fun x h => h) hd kk
  · exact va_getsN hF.1 hF.2.1 x2 hR.2.1 hF.2.2.2.1 (hF.2.2.2.2.1 _ lkC rfl) (fun x h => h) hd kk
  · exact va_gets hF.1 hF.2.1 x3 hR.2.1 hF.2.2.2.1 (hF.2.2.2.2.1 _ lkD rfl) (fun x h => h) hd kk
  · exact va_gets hF.1 hF.2.1 x4 hR.2.1 hF.2.2.2.1 (hF.2.2.2.2.1 _ lkE rfl) (fun x h => h) hd kk
theorem s_gsi (hF : FX G cc 14) (hd : decode cc pc = .ok (.getstatic 38, 3)) (k : WA G (pc + 3) ls (.inl 1 :: st) S) : WA G pc ls st S := by
  obtain ⟨p, l, e, R, s, m, args, below, meth, c, Q, nL, dC, dI, ct, ad, n0, z0, x0⟩ := G
  intro H locs lsC hR hlv h1 h2
  have kk := k H locs lsC hR hlv h1 (ok_c.mpr ⟨by show am_rg 1; unfold am_rg; omega, h2⟩)
  obtain ⟨-, x2, x3, x4, x5, x6, x7⟩ := hR.2.2.2.2.2
  exact va_gets hF.1 hF.2.1 x5 hR.2.1 hF.2.2.2.1 (hF.2.2.2.2.1 _ lkF rfl) (fun x h => h) hd kk
theorem s_ldcS {r ix : Nat} (hF : FX G cc own) (hd : decode cc pc = .ok (.ldc ix, 2)) (ht : (own, ix, r) ∈ tTx) (k : WA G (pc + 2) ls (.inr (.inr r) :: st) S) : WA G pc ls st S := by
  obtain ⟨p, l, e, R, s, m, args, below, meth, c, Q, nL, dC, dI, ct, ad, n0, z0, x0⟩ := G
  intro H locs lsC hR hlv h1 h2
  have kk := k H locs lsC hR hlv h1 (ok_c.mpr ⟨trivial, h2⟩)
  obtain ⟨-, x2, x3, x4, x5, x6, x7⟩ := hR.2.2.2.2.2
  simp only [tTx, List.mem_cons, List.not_mem_nil, or_false, Prod.mk.injEq] at ht
  rcases ht with ⟨rfl, rfl, rfl⟩ | ⟨rfl, rfl, rfl⟩
  · exact va_ldcS hF.1 hF.2.1 hF.2.2.2.1 x6 hd kk
  · exact va_ldcS hF.1 hF.2.1 hF.2.2.2.1 x7 hd kk
theorem s_getS {r n ix : Nat} (hF : FX G cc 14) (hd : decode cc pc = .ok (.getfield ix, 3)) (hO : am_isO S.1 r n = true) (ht : (n = 2000 ∧ ix = 9) ∨ (n = 2001 ∧ ix = 15))
    (k : WA G (pc + 3) ls (am_getf (am_nth am_o0 S.1 r) (ftab (n / 100) (n % 100)) S.2 r (n % 100) :: st) S) : WA G pc ls (.inr (.inr r) :: st) S := by
  obtain ⟨p, l, e, R, s, m, args, below, meth, c, Q, nL, dC, dI, ct, ad, n0, z0, x0⟩ := G
  have hk : am_kd S.1 r = 30 := by
    have := (isO_ok hO).1
    rcases ht with ⟨rfl, -⟩ | ⟨rfl, -⟩ <;> exact this
  obtain ⟨h9, h0, h8⟩ := kd_x hk (by decide)
  intro H locs lsC hR hlv h1 h2
  have kk := k H locs lsC hR hlv h1 (ok_c.mpr ⟨ok_getf (by
    rw [← am_ty_o (ft := ftab) (k := n % 100) (c := n / 100) (by rw [hk]; rcases ht with ⟨rfl, -⟩ | ⟨rfl, -⟩ <;> rfl)]; exact hR.2.2.1 r _), (ok_c.mp h2).2⟩)
  obtain ⟨x1, -⟩ := hR.2.2.2.2.2
  obtain ⟨-, y2, y3⟩ := (x1 r h9).2.2.2 hk
  show W p l e R s m args below meth c H locs _ _ Q (F0 m pc lsC (cv ad (.inr (.inr r)) :: st.map (cv ad)))
  rw [cv_ref h0 h8]
  rcases ht with ⟨rfl, rfl⟩ | ⟨rfl, rfl⟩
  · exact vk_getf hF.1 hF.2.1 y2 hR.2.1 hF.2.2.2.1 (hF.2.2.2.2.1 _ lkG rfl) (fun x h => h) hd kk
  · exact vk_getf hF.1 hF.2.1 y3 hR.2.1 hF.2.2.2.1 (hF.2.2.2.2.1 _ lkH rfl) (fun x h => h) hd kk
theorem s_aald {r q : Nat} {i : Int} {j : Nat} (hF : FX G cc own) (hd : decode cc pc = .ok (.aaload, 1)) (hk : am_kd S.1 r = 5) (hi : am_ix i (am_nth am_o0 S.1 r).2.1) (hj : i = j) (hq : am_nth 0 (am_nth am_o0 S.1 r).2.2 j = q) (k : WA G (pc + 1) ls (.inr (.inr q) :: st) S) : WA G pc ls (.inl i :: .inr (.inr r) :: st) S := by
  obtain ⟨p, l, e, R, s, m, args, below, meth, c, Q, nL, dC, dI, ct, ad, n0, z0, x0⟩ := G
  intro H locs lsC hR hlv h1 h2
  obtain ⟨hiv, h2⟩ := ok_c.mp h2
  have kk := k H locs lsC hR hlv h1 (ok_c.mpr ⟨trivial, (ok_c.mp h2).2⟩)
  obtain ⟨h9, hc, hl⟩ := kd_w hk (by decide) (by decide)
  show W p l e R s m args below meth c H locs _ _ Q (F0 m pc lsC (.int (Int32.ofInt i) :: cv ad (.inr (.inr r)) :: st.map (cv ad)))
  rw [cv_ref (by omega) (by omega)]
  have hw := am_w_get (ft := ftab) (ct := ct) (ad := ad) (S := S) h9 hl
  unfold am_e at hw
  rw [hc] at hw
  refine va_aldq hF.1 hF.2.1 hF.2.2.2.2.2.1 hR.1 (r - 9) 4 hw rfl (ix32 hi hiv) hd ?_
  rw [cl32 hiv, am_opt_cv, hj, Int.toNat_natCast, hq]
  exact kk
theorem s_aast {r q : Nat} {i : Int} (hF : FX G cc own) (hd : decode cc pc = .ok (.aastore, 1)) (hk : am_kd S.1 r = 5) (hq : am_kd S.1 q = 19) (hi : am_ix i (am_nth am_o0 S.1 r).2.1) (hi2 : am_ix i (am_nth am_o0 S.1 r).2.2.length)
    (k : WA G (pc + 1) ls st (am_put (5, (am_nth am_o0 S.1 r).2.1, am_put q (am_nth am_o0 S.1 r).2.2 i.toNat) S.1 r, S.2)) : WA G pc ls (.inr (.inr q) :: .inl i :: .inr (.inr r) :: st) S := by
  obtain ⟨p, l, e, R, s, m, args, below, meth, c, Q, nL, dC, dI, ct, ad, n0, z0, x0⟩ := G
  intro H locs lsC hR hlv h1 h2
  obtain ⟨-, h2⟩ := ok_c.mp h2
  obtain ⟨hiv, h2⟩ := ok_c.mp h2
  obtain ⟨h9, hc, hl⟩ := kd_w hk (by decide) (by decide)
  obtain ⟨g9, gc, gl⟩ := kd_w hq (by decide) (by decide)
  show W p l e R s m args below meth c H locs _ _ Q (F0 m pc lsC (cv ad (.inr (.inr q)) :: .int (Int32.ofInt i) :: cv ad (.inr (.inr r)) :: st.map (cv ad)))
  rw [cv_ref (r := r) (by omega) (by omega), cv_ref (r := q) (by omega) (by omega)]
  have hw := am_w_get (ft := ftab) (ct := ct) (ad := ad) (S := S) h9 hl
  unfold am_e at hw
  rw [hc] at hw
  have gw := am_w_get (ft := ftab) (ct := ct) (ad := ad) (S := S) g9 gl
  rw [am_e_o (n := 9) gc] at gw
  refine va_astq hF.1 hF.2.1 hF.2.2.2.2.2.1 hR.1 (am_w_D hF.2.2.2.2.2.2.1 S) hR.2.1 (r - 9) 4 (q - 9) 9 hw (r := (cN 9, cT 9, nf 9)) rfl gw (cls_at 9 (by decide)) (ix32 hi hiv) hd (fun H1 locs1 hP1 hD1 hS1 => ?_)
  rw [cl32 hiv] at hP1
  have hlen : (am_put (5, (am_nth am_o0 S.1 r).2.1, am_put q (am_nth am_o0 S.1 r).2.2 i.toNat) S.1 r).length = S.1.length := am_put_len _ _ _
  have hsz : am_sz (am_put (5, (am_nth am_o0 S.1 r).2.1, am_put q (am_nth am_o0 S.1 r).2.2 i.toNat) S.1 r) = am_sz S.1 := am_sz_put _ _ _ rfl
  have hR1 := RR.store (S2 := (am_put (5, (am_nth am_o0 S.1 r).2.1, am_put q (am_nth am_o0 S.1 r).2.2 i.toNat) S.1 r, S.2)) hR h9 hl hlen hsz (by
      rw [am_nth_put _ _ _ _ _ hl, if_pos rfl]
      unfold am_e
      show Sum.inl (ct 5, (am_nth am_o0 S.1 r).2.1, Sum.inr (Sum.inr (Sum.inr (Sum.inr fun j => am_opt ad (am_nth 0 (am_put q (am_nth am_o0 S.1 r).2.2 i.toNat) j))))) = Sum.inl (ct 5, (am_nth am_o0 S.1 r).2.1, Sum.inr (Sum.inr (Sum.inr (Sum.inr (va_up (fun j => am_opt ad (am_nth 0 (am_nth am_o0 S.1 r).2.2 j)) i.toNat (some (ad q)))))))
      congr 7
      funext j
      obtain ⟨i1, i2⟩ := hi2
      rw [am_nth_put _ _ _ _ _ (by omega)]
      unfold va_up
      by_cases ej : j = i.toNat
      · rw [if_pos ej, if_pos ej]
        unfold am_opt
        rw [nb_ne (show q ≠ 0 by omega), nb_ne (show q ≠ 8 by omega)]
        rfl
      · rw [if_neg ej, if_neg ej]) (fun q2 hq2 => ⟨by rw [am_nth_put _ _ _ _ _ hl, if_neg hq2], rfl⟩) (ok_put hR.2.2.1 hl hc.symm) hP1 hS1
  exact WP_same (S := S) hlen hsz (k H1 locs1 lsC hR1 hlv h1 (ok_c.mp h2).2)
end S30
end
section
/-! rows of new cells, of Object's constructor, of arraycopy, of switches -/
theorem dv_fs : ∀ c, c < 13 → ∀ ad : Nat → Nat, ∀ j, j < nf c → defaultValue (cTy c j) = vp_V ((List.range (nf c)).map fun k => am_fv ad (ftab c k) (List.replicate (nf c) 0) (fun _ => 0) k) j := by
  intro c hc ad j hj
  have h := cls_ty c hc j hj
  unfold vp_V
  rw [List.getD_eq_getElem?_getD, List.getElem?_map, List.getElem?_range hj]
  show _ = am_fv ad (ftab c j) (List.replicate (nf c) 0) (fun _ => 0) j
  unfold tyIs at h
  split at h
  · rename_i e
    rw [e]
    have hz : am_nth 0 (List.replicate (nf c) 0) j = 0 := by
      have := am_nth_get 0 (List.replicate (nf c) 0) j (by simpa using hj)
      rw [List.getElem?_replicate, if_pos hj] at this
      exact (Option.some.inj this).symm
    show _ = cv ad (.inr (.inr (am_nth 0 (List.replicate (nf c) 0) j)))
    rw [hz]
    revert h
    cases cTy c j <;> intro h <;> first | rfl | cases h
  · rename_i e
    rw [e, of_decide_eq_true h]
    rfl
  · rename_i e
    rw [e, of_decide_eq_true h]
    rfl
  · rename_i e
    rw [e, of_decide_eq_true h]
    rfl
  · cases h
/-- classes that are made: in which class, which entry, which class -/
def tNw : List (Nat × Nat × Nat) := [(13, 7, 11), (11, 7, 10), (11, 16, 3), (3, 45, 4), (11, 23, 6), (6, 9, 3), (11, 32, 9), (11, 43, 5),
  (11, 52, 0), (11, 61, 2), (11, 68, 8), (11, 75, 7), (11, 82, 1), (13, 10, 12)]
theorem tNw_ok : ∀ q ∈ tNw, Cond.classLink (cN q.1) q.2.1 (cN q.2.2) ∈ lw_tbl := am_tab tNw [176, 7, 91, 5, 129, 5, 49, 73, 46, 58, 24, 48, 31, 926] (fun q => Cond.classLink (cN q.1) q.2.1 (cN q.2.2)) (by decide +kernel)
theorem tNw_lt : ∀ q ∈ tNw, q.2.2 < 13 := by decide +kernel
theorem ins_ok : ∀ q ∈ ([11, 10, 3, 4, 6, 9, 5, 0, 2, 8, 7, 1, 12] : List Nat), Cond.instantiable (cN q) (nf q) ∈ lw_tbl := am_tab _ [177, 7, 91, 5, 129, 55, 73, 46, 58, 24, 48, 31, 926] (fun q => Cond.instantiable (cN q) (nf q)) (by decide +kernel)
theorem ins_all : ∀ c, c < 13 → c ∈ ([11, 10, 3, 4, 6, 9, 5, 0, 2, 8, 7, 1, 12] : List Nat) := by decide
theorem ini_ok : ∀ q ∈ ([13, 11, 10, 14, 15, 16, 3, 4, 6, 9, 5, 0, 2, 8, 7, 1, 12, 17, 18, 19, 20] : List Nat), Cond.initialized (cN q) ∈ lw_tbl := am_tab _ [152, 0, 0, 0, 0, 0, 1, 0, 0, 0, 0, 0, 0, 0, 0, 0, 0, 0, 2, 0, 0] (fun q => Cond.initialized (cN q)) (by decide +kernel)
theorem ini_all : ∀ c, c < 21 → c ∈ ([13, 11, 10, 14, 15, 16, 3, 4, 6, 9, 5, 0, 2, 8, 7, 1, 12, 17, 18, 19, 20] : List Nat) := by decide
theorem arI : Cond.arrayClass .int ∈ lw_tbl := am_sel_in [275] _ _ (by decide +kernel)
theorem arJ : Cond.arrayClass .long ∈ lw_tbl := am_sel_in [274] _ _ (by decide +kernel)
theorem arB : Cond.arrayClass .byte ∈ lw_tbl := am_sel_in [273] _ _ (by decide +kernel)
theorem arZ : Cond.arrayClass .boolean ∈ lw_tbl := am_sel_in [1964] _ _ (by decide +kernel)
theorem arS : Cond.arrayOver (.object "WakeHouse$State") ∈ lw_tbl := am_sel_in [541] _ _ (by decide +kernel)
theorem mNf_at : ∀ c, c < 13 → mNa (1000 + c) = nf c := by decide +kernel
section S32
variable {G : aG} {cc : ByteArray} {own pc : Nat} {ls : aL} {st : List aV} {S : aS}
theorem s_new {ix ci : Nat} (hF : FX G cc own) (hd : decode cc pc = .ok (.new ix, 3)) (ht : (own, ix, ci) ∈ tNw) (hrm : S.1.length + 1 ≤ an0 G + (aR G).cells ∧ am_sz S.1 + nf ci ≤ az0 G + (aR G).slots)
    (k : WA G (pc + 3) ls (.inr (.inr S.1.length) :: st) (S.1 ++ [(10 + ci, mNa (1000 + ci), List.replicate (mNa (1000 + ci)) 0)], am_z S)) : WA G pc ls st S := by
  obtain ⟨p, l, e, R, s, m, args, below, meth, c, Q, nL, dC, dI, ct, ad, n0, z0, x0⟩ := G
  have hci : ci < 13 := tNw_lt _ ht
  rw [mNf_at ci hci] at k
  intro H locs lsC hR hlv h1 h2
  obtain ⟨hx, hb, hml, hown, hts, hK, hrow, hsz, h9⟩ := hF
  have hn := hR.2.2.2.1.1
  have hz := hR.2.2.2.2.1.1.1
  obtain ⟨r1, r2⟩ := hrm
  have r1 : S.1.length + 1 ≤ n0 + R.cells := r1
  have r2 : am_sz S.1 + nf ci ≤ z0 + R.slots := r2
  refine va_new (ci := ci) hx hb (lay_of hts hci) (fun w h => h) (cTy ci) (cls_pf ci hci) hown (hts _ (tNw_ok _ ht) rfl) (hts _ (ins_ok ci (ins_all ci hci)) rfl) (hts _ (ini_ok ci (ini_all ci (by omega))) rfl) hK hR.1 (am_w_D hrow S) hR.2.1 (fun q hq => by show ad 9 ≤ q; omega) (cls_at ci hci) (dv_fs ci hci ad) (by omega) (by omega) hd (fun q H1 hP1 hD1 hS1 => ?_)
  refine W_sz (fun hs => ?_)
  have hq := new_addr hrow (by omega) hP1 hD1 (by omega)
  subst hq
  have kk : W p l e R s m args below meth c H1 locs ((S.1 ++ [(10 + ci, nf ci, List.replicate (nf ci) 0)]).length - n0) (am_sz (S.1 ++ [(10 + ci, nf ci, List.replicate (nf ci) 0)]) - z0) Q (F0 m (pc + 3) lsC (cv ad (.inr (.inr S.1.length)) :: st.map (cv ad))) := k H1 locs lsC (RR.push h9 ⟨r1, r2⟩ hR (by rw [am_e_o (n := ci) rfl]) hP1 hS1) hlv h1 (ok_c.mpr ⟨trivial, h2⟩)
  rw [am_sz_app] at kk
  simp only at kk
  rw [show ∀ x : aC, (S.1 ++ [x]).length - n0 = S.1.length - n0 + 1 from fun x => by simp; omega, show am_sz S.1 + nf ci - z0 = am_sz S.1 - z0 + nf ci by omega] at kk
  rw [cv_ref (by omega) (by omega)] at kk
  exact kk
theorem s_newa {n : Int} {ty : ArrayType} {kd : Nat} (hF : FX G cc own) (hd : decode cc pc = .ok (.newarray ty, 2)) (hty : (ty = .int ∧ kd = 1) ∨ (ty = .long ∧ kd = 2) ∨ (ty = .byte ∧ kd = 3) ∨ (ty = .boolean ∧ kd = 4)) (hn : 0 ≤ n ∧ n ≤ 100000) (hrm : S.1.length + 1 ≤ an0 G + (aR G).cells ∧ am_sz S.1 + n.toNat ≤ az0 G + (aR G).slots)
    (k : WA G (pc + 2) ls (.inr (.inr S.1.length) :: st) (S.1 ++ [(kd, n.toNat, [])], am_z S)) : WA G pc ls (.inl n :: st) S := by
  obtain ⟨p, l, e, R, s, m, args, below, meth, c, Q, nL, dC, dI, ct, ad, n0, z0, x0⟩ := G
  intro H locs lsC hR hlv h1 h2
  obtain ⟨hx, hb, hml, hown, hts, hK, hrow, hsz, h9⟩ := hF
  have hnn := hR.2.2.2.1.1
  have hz := hR.2.2.2.2.1.1.1
  obtain ⟨r1, r2⟩ := hrm
  have r1 : S.1.length + 1 ≤ n0 + R.cells := r1
  have r2 : am_sz S.1 + n.toNat ≤ z0 + R.slots := r2
  have hrg : am_rg n := ⟨by omega, by omega⟩
  have hneg : ¬ Int32.ofInt n < 0 := fun z => by have := (lt32 hrg rg0).mp z; omega
  have fin : ∀ (q : Nat) (H1 : Heap) (x : va_E), am_e ftab ct ad (kd, n.toNat, []) (fun _ => 0) = x → va_P (dC, dI) vwCl (am_w ftab ct ad S ++ [(q, x)]) H1 → va_D (am_A ad) (am_w ftab ct ad S ++ [(q, x)]) → va_S (am_A ad) s.heap H1 locs →
      W p l e R s m args below meth c H1 locs (S.1.length - n0 + 1) (am_sz S.1 - z0 + n.toNat) Q (F0 m (pc + 2) lsC (.ref q :: st.map (cv ad))) := by
    intro q H1 x hxe hP1 hD1 hS1
    refine W_sz (fun hs => ?_)
    have hq := new_addr hrow (by omega) hP1 hD1 (by omega)
    subst hq
    have kk : W p l e R s m args below meth c H1 locs ((S.1 ++ [(kd, n.toNat, ([] : List Nat))]).length - n0) (am_sz (S.1 ++ [(kd, n.toNat, ([] : List Nat))]) - z0) Q (F0 m (pc + 2) lsC (cv ad (.inr (.inr S.1.length)) :: st.map (cv ad))) := k H1 locs lsC (RR.push h9 ⟨r1, r2⟩ hR hxe hP1 hS1) hlv h1 (ok_c.mpr ⟨trivial, (ok_c.mp h2).2⟩)
    rw [am_sz_app] at kk
    simp only at kk
    rw [show ∀ x : aC, (S.1 ++ [x]).length - n0 = S.1.length - n0 + 1 from fun x => by simp; omega, show am_sz S.1 + n.toNat - z0 = am_sz S.1 - z0 + n.toNat by omega] at kk
    rw [cv_ref (by omega) (by omega)] at kk
    exact kk
  rcases hty with ⟨rfl, rfl⟩ | ⟨rfl, rfl⟩ | ⟨rfl, rfl⟩ | ⟨rfl, rfl⟩
  · refine va_newa (atype := .int) (ty := .int) (a0 := (n.toNat, .inl fun _ => 0)) hx hb (hts _ arI rfl) rfl hK hR.1 (am_w_D hrow S) hR.2.1 (fun q hq => by show ad 9 ≤ q; omega) (fun cA => rfl) hneg (cl32 hrg) (by show n.toNat * 4 ≤ _; omega) (by omega) (by omega) hd (fun q cA H1 hK1 hP1 hD1 hS1 => ?_)
    have e : cA = ct 1 := Option.some.inj ((hK1.2 5 (cA, .int) rfl).2.symm.trans (hK.2 0 _ rfl).2)
    subst e
    exact fin q H1 _ rfl hP1 hD1 hS1
  · refine va_newa (atype := .long) (ty := .long) (a0 := (n.toNat, .inr (.inl fun _ => 0))) hx hb (hts _ arJ rfl) rfl hK hR.1 (am_w_D hrow S) hR.2.1 (fun q hq => by show ad 9 ≤ q; omega) (fun cA => rfl) hneg (cl32 hrg) (by show n.toNat * 8 ≤ _; omega) (by omega) (by omega) hd (fun q cA H1 hK1 hP1 hD1 hS1 => ?_)
    have e : cA = ct 2 := Option.some.inj ((hK1.2 5 (cA, .long) rfl).2.symm.trans (hK.2 1 _ rfl).2)
    subst e
    exact fin q H1 _ rfl hP1 hD1 hS1
  · refine va_newa (atype := .byte) (ty := .byte) (a0 := (n.toNat, .inl fun _ => 0)) hx hb (hts _ arB rfl) rfl hK hR.1 (am_w_D hrow S) hR.2.1 (fun q hq => by show ad 9 ≤ q; omega) (fun cA => rfl) hneg (cl32 hrg) (by show n.toNat * 1 ≤ _; omega) (by omega) (by omega) hd (fun q cA H1 hK1 hP1 hD1 hS1 => ?_)
    have e : cA = ct 3 := Option.some.inj ((hK1.2 5 (cA, .byte) rfl).2.symm.trans (hK.2 2 _ rfl).2)
    subst e
    exact fin q H1 _ rfl hP1 hD1 hS1
  · refine va_newa (atype := .boolean) (ty := .boolean) (a0 := (n.toNat, .inl fun _ => 0)) hx hb (hts _ arZ rfl) rfl hK hR.1 (am_w_D hrow S) hR.2.1 (fun q hq => by show ad 9 ≤ q; omega) (fun cA => rfl) hneg (cl32 hrg) (by show n.toNat * 1 ≤ _; omega) (by omega) (by omega) hd (fun q cA H1 hK1 hP1 hD1 hS1 => ?_)
    have e : cA = ct 4 := Option.some.inj ((hK1.2 5 (cA, .boolean) rfl).2.symm.trans (hK.2 3 _ rfl).2)
    subst e
    exact fin q H1 _ rfl hP1 hD1 hS1
theorem s_newq {n : Int} {ix : Nat} (hF : FX G cc own) (hd : decode cc pc = .ok (.anewarray ix, 3)) (ht : (own, ix, 9) ∈ tNw) (hn : 0 ≤ n ∧ n ≤ 100000) (hrm : S.1.length + 1 ≤ an0 G + (aR G).cells ∧ am_sz S.1 + n.toNat ≤ az0 G + (aR G).slots)
    (k : WA G (pc + 3) ls (.inr (.inr S.1.length) :: st) (S.1 ++ [(5, n.toNat, List.replicate n.toNat 0)], am_z S)) : WA G pc ls (.inl n :: st) S := by
  obtain ⟨p, l, e, R, s, m, args, below, meth, c, Q, nL, dC, dI, ct, ad, n0, z0, x0⟩ := G
  intro H locs lsC hR hlv h1 h2
  obtain ⟨hx, hb, hml, hown, hts, hK, hrow, hsz, h9⟩ := hF
  have hnn := hR.2.2.2.1.1
  have hz := hR.2.2.2.2.1.1.1
  obtain ⟨r1, r2⟩ := hrm
  have r1 : S.1.length + 1 ≤ n0 + R.cells := r1
  have r2 : am_sz S.1 + n.toNat ≤ z0 + R.slots := r2
  have hrg : am_rg n := ⟨by omega, by omega⟩
  have hneg : ¬ Int32.ofInt n < 0 := fun z => by have := (lt32 hrg rg0).mp z; omega
  refine va_newq (C := "WakeHouse$State") hx hb hown (hts _ (tNw_ok _ ht) rfl) (va_AO.of (hts _ arS rfl)) hK hR.1 (am_w_D hrow S) hR.2.1 (fun q hq => by show ad 9 ≤ q; omega) hneg (cl32 hrg) (by omega) (by omega) (by omega) hd (fun q cA H1 hK1 hP1 hD1 hS1 => ?_)
  have e : cA = ct 5 := by
    obtain ⟨_, _, _, _, _, e1⟩ := (hK1.2 5 (cA, .object "WakeHouse$State") rfl).2
    obtain ⟨_, _, _, _, _, e2⟩ := (hK.2 4 _ rfl).2
    exact Option.some.inj (e1.symm.trans e2)
  subst e
  refine W_sz (fun hs => ?_)
  have hq := new_addr hrow (by omega) hP1 hD1 (by omega)
  subst hq
  have hxe : am_e ftab ct ad (5, n.toNat, List.replicate n.toNat 0) (fun _ => 0) = Sum.inl (ct 5, n.toNat, Sum.inr (Sum.inr (Sum.inr (Sum.inr (fun _ => none))))) := by
    unfold am_e
    show Sum.inl (ct 5, n.toNat, Sum.inr (Sum.inr (Sum.inr (Sum.inr (fun j => am_opt ad (am_nth 0 (List.replicate n.toNat 0) j)))))) = _
    congr 7
    funext j
    have hz : am_nth 0 (List.replicate n.toNat 0) j = 0 := by
      rcases Nat.lt_or_ge j n.toNat with hj | hj
      · have := am_nth_get 0 (List.replicate n.toNat 0) j (by simpa using hj)
        rw [List.getElem?_replicate, if_pos hj] at this
        exact (Option.some.inj this).symm
      · exact am_nth_out _ _ _ (by simpa using hj)
    rw [hz]
    rfl
  have kk : W p l e R s m args below meth c H1 locs ((S.1 ++ [(5, n.toNat, List.replicate n.toNat 0)]).length - n0) (am_sz (S.1 ++ [(5, n.toNat, List.replicate n.toNat 0)]) - z0) Q (F0 m (pc + 3) lsC (cv ad (.inr (.inr S.1.length)) :: st.map (cv ad))) := k H1 locs lsC (RR.push h9 ⟨r1, r2⟩ hR hxe hP1 hS1) hlv h1 (ok_c.mpr ⟨trivial, (ok_c.mp h2).2⟩)
  rw [am_sz_app] at kk
  simp only at kk
  rw [show ∀ x : aC, (S.1 ++ [x]).length - n0 = S.1.length - n0 + 1 from fun x => by simp; omega, show am_sz S.1 + n.toNat - z0 = am_sz S.1 - z0 + n.toNat by omega] at kk
  rw [cv_ref (by omega) (by omega)] at kk
  exact kk
/-- Object's constructor: in which class, which entry -/
def tOi : List (Nat × Nat) := [(11, 1), (10, 1), (3, 3), (4, 3), (6, 3), (9, 3), (5, 3), (0, 3),
  (2, 3), (8, 5), (7, 3), (1, 3), (12, 7)]
theorem tOi_ok : ∀ q ∈ tOi, Cond.methodLink (cN q.1) q.2 Lib.objectInit ∈ lw_tbl := am_tab tOi [181, 7, 91, 5, 129, 55, 73, 46, 58, 24, 48, 31, 926] (fun q => Cond.methodLink (cN q.1) q.2 Lib.objectInit) (by decide +kernel)
theorem oiA : Cond.instanceMethod Lib.objectInit ∈ lw_tbl := am_sel_in [182] _ _ (by decide +kernel)
theorem oiB : Cond.code Lib.objectInit ⟨#[0xb1]⟩ 1 none ∈ lw_tbl := am_sel_in [183] _ _ (by decide +kernel)
theorem s_oi {r ix : Nat} (hF : FX G cc own) (hd : decode cc pc = .ok (.invokespecial ix, 3)) (ht : (own, ix) ∈ tOi) (h0 : r ≠ 0) (h8 : r ≠ 8) (hst : ((st.map (cv (aAd G))).map (fun v => v.category)).sum ≤ 8) (hrm : 1 ≤ (aR G).frames ∧ 20 ≤ (aR G).locals) (k : WA G (pc + 3) ls st S) : WA G pc ls (.inr (.inr r) :: st) S := by
  obtain ⟨p, l, e, R, s, m, args, below, meth, c, Q, nL, dC, dI, ct, ad, n0, z0, x0⟩ := G
  intro H locs lsC hR hlv h1 h2
  obtain ⟨hx, hb, hml, hown, hts, hK, hrow, hsz, h9⟩ := hF
  have kk := k H locs lsC hR hlv h1 (ok_c.mp h2).2
  show W p l e R s m args below meth c H locs _ _ Q (F0 m pc lsC (cv ad (.inr (.inr r)) :: st.map (cv ad)))
  rw [cv_ref h0 h8]
  obtain ⟨r1, r2⟩ := hrm
  have r2 : 20 ≤ R.locals := r2
  refine W.objInit hx hb hown (hts _ (tOi_ok _ ht) rfl) (hts _ oiA rfl) (hts _ oiB rfl) rfl (hlv.1.trans hml.symm) rfl hd r1 ?_ kk
  have := lv_room (m := m) (pc := pc) (ls := lsC) (rest := []) hst
  have e2 : (F0 m pc lsC (.ref (ad r) :: st.map (cv ad))).monitorRoom = (F0 m pc lsC []).monitorRoom := rfl
  rw [e2]
  have hst2 : (st.map (cv (aAd (p, l, e, R, s, m, args, below, meth, c, Q, nL, dC, dI, ct, ad, n0, z0, x0)))) = st.map (cv ad) := rfl
  rw [hst2] at this
  omega
/-- arraycopy: in which class, which entry -/
def tAc : List (Nat × Nat) := [(3, 86), (4, 22), (5, 161), (1, 61), (9, 66)]
theorem tAc_ok : ∀ q ∈ tAc, Cond.methodLink (cN q.1) q.2 arraycopyName ∈ lw_tbl := am_tab tAc [1039, 6, 398, 32, 187] (fun q => Cond.methodLink (cN q.1) q.2 arraycopyName) (by decide +kernel)
theorem acA : Cond.native arraycopyName ∈ lw_tbl := am_sel_in [1041] _ _ (by decide +kernel)
theorem acB : Cond.static arraycopyName ∈ lw_tbl := am_sel_in [1040] _ _ (by decide +kernel)
theorem acC : Cond.initialized "java/lang/System" ∈ lw_tbl := am_sel_in [172] _ _ (by decide +kernel)
theorem am_cp_at (h : aH) (s sp d dp n q j : Nat) : am_cp h s sp d dp n q j = if q = d ∧ dp ≤ j ∧ j < dp + n then h s (sp + (j - dp)) else h q j := by
  unfold am_cp
  by_cases e : q = d ∧ dp ≤ j ∧ j < dp + n
  · rw [if_pos e, e.1]
    simp [Nat.ble_eq_true_of_le e.2.1, Nat.blt, Nat.ble_eq_true_of_le (show j + 1 ≤ dp + n by omega)]
  · rw [if_neg e]
    have : (Nat.beq q d && (Nat.ble dp j && Nat.blt j (dp + n))) = false := by
      cases hb : (Nat.beq q d && (Nat.ble dp j && Nat.blt j (dp + n))) with
      | false => rfl
      | true =>
        obtain ⟨b1, b2⟩ := Bool.and_eq_true_iff.mp hb
        obtain ⟨b2, b3⟩ := Bool.and_eq_true_iff.mp b2
        exact absurd ⟨Nat.eq_of_beq_eq_true b1, Nat.le_of_ble_eq_true b2, Nat.le_of_ble_eq_true b3⟩ e
    rw [this]
    rfl
theorem s_ac {n dp sp : Int} {d s0 ix : Nat} (hF : FX G cc own) (hd : decode cc pc = .ok (.invokestatic ix, 3)) (ht : (own, ix) ∈ tAc) (hne : s0 ≠ d) (hks : am_kd S.1 s0 = 1) (hkd : am_kd S.1 d = 1)
    (hb0 : 0 ≤ n ∧ 0 ≤ sp ∧ 0 ≤ dp ∧ sp + n ≤ (am_nth am_o0 S.1 s0).2.1 ∧ dp + n ≤ (am_nth am_o0 S.1 d).2.1) (hst : ((st.map (cv (aAd G))).map (fun v => v.category)).sum ≤ 8) (hrm : 1 ≤ (aR G).frames ∧ 80 ≤ (aR G).locals)
    (k : WA G (pc + 3) ls st (S.1, am_cp S.2 s0 sp.toNat d dp.toNat n.toNat)) : WA G pc ls (.inl n :: .inl dp :: .inr (.inr d) :: .inl sp :: .inr (.inr s0) :: st) S := by
  obtain ⟨p, l, e, R, s, m, args, below, meth, c, Q, nL, dC, dI, ct, ad, n0, z0, x0⟩ := G
  intro H locs lsC hR hlv h1 h2
  obtain ⟨hx, hb, hml, hown, hts, hK, hrow, hsz, h9⟩ := hF
  obtain ⟨on, h2⟩ := ok_c.mp h2
  obtain ⟨od, h2⟩ := ok_c.mp h2
  obtain ⟨-, h2⟩ := ok_c.mp h2
  obtain ⟨os, h2⟩ := ok_c.mp h2
  obtain ⟨-, h2⟩ := ok_c.mp h2
  obtain ⟨s9, sc, sl⟩ := kd_w hks (by decide) (by decide)
  obtain ⟨d9, dc, dl⟩ := kd_w hkd (by decide) (by decide)
  show W p l e R s m args below meth c H locs _ _ Q (F0 m pc lsC (.int (Int32.ofInt n) :: .int (Int32.ofInt dp) :: cv ad (.inr (.inr d)) :: .int (Int32.ofInt sp) :: cv ad (.inr (.inr s0)) :: st.map (cv ad)))
  rw [cv_ref (r := d) (by omega) (by omega), cv_ref (r := s0) (by omega) (by omega)]
  have sw := am_w_get (ft := ftab) (ct := ct) (ad := ad) (S := S) s9 sl
  unfold am_e at sw
  rw [sc] at sw
  have dw := am_w_get (ft := ftab) (ct := ct) (ad := ad) (S := S) d9 dl
  unfold am_e at dw
  rw [dc] at dw
  obtain ⟨b1, b2, b3, b4, b5⟩ := hb0
  obtain ⟨r1, r2⟩ := hrm
  have r2 : 80 ≤ R.locals := r2
  have neg : ∀ {z : Int}, am_rg z → 0 ≤ z → ¬ Int32.ofInt z < 0 := fun hz h0 q => by have := (lt32 hz rg0).mp q; omega
  refine va_copyi (ty := .int) hx hb (hml.trans hlv.1.symm) hown (hts _ (tAc_ok _ ht) rfl) (hts _ acA rfl) (hts _ acB rfl) (hts _ acC rfl) hK hR.1 (am_w_D hrow S) hR.2.1 (s0 - 9) (d - 9) 0 0 sw dw rfl rfl rfl (neg os b2) (neg od b3) (neg on b1) (by rw [cl32 os, cl32 on]; omega) (by rw [cl32 od, cl32 on]; omega) (fun i _ => rfl) r1 ?_ hd (fun H1 locs1 hP1 hD1 hS1 => ?_)
  · have hst2 : ((st.map (cv ad)).map fun v => v.category).sum ≤ 8 := hst
    have : nativeFrameWords "java/lang/System" "arraycopy" 5 = 7 := rfl
    omega
  · rw [cl32 os, cl32 od, cl32 on] at hP1
    refine k H1 locs1 lsC (RR.store (S2 := (S.1, am_cp S.2 s0 sp.toNat d dp.toNat n.toNat)) hR d9 dl rfl rfl (by
      unfold am_e
      rw [dc]
      show Sum.inl (ct 1, (am_nth am_o0 S.1 d).2.1, Sum.inl (fun j => Int32.ofInt (am_cp S.2 s0 sp.toNat d dp.toNat n.toNat d j))) = Sum.inl (ct 1, (am_nth am_o0 S.1 d).2.1, Sum.inl (va_cpy (fun j => Int32.ofInt (S.2 s0 j)) (fun j => Int32.ofInt (S.2 d j)) sp.toNat dp.toNat n.toNat))
      congr 4
      funext j
      rw [am_cp_at]
      unfold va_cpy
      by_cases ej : dp.toNat ≤ j ∧ j < dp.toNat + n.toNat
      · rw [if_pos ⟨rfl, ej⟩, if_pos ej]
      · rw [if_neg (fun z => ej z.2), if_neg ej]) (fun q hq => ⟨rfl, by funext j; show am_cp _ _ _ _ _ _ q j = _; rw [am_cp_at, if_neg (fun z => hq z.1)]⟩) ?_ hP1 hS1) hlv h1 h2
    intro q j
    show ok_t (am_ty ftab S.1 q j) (am_cp S.2 s0 sp.toNat d dp.toNat n.toNat q j)
    rw [am_cp_at]
    by_cases eq : q = d ∧ dp.toNat ≤ j ∧ j < dp.toNat + n.toNat
    · rw [if_pos eq, eq.1]
      have := hR.2.2.1 s0 (sp.toNat + (j - dp.toNat))
      unfold am_ty at this ⊢
      rw [hks] at this
      rw [hkd]
      exact this
    · rw [if_neg eq]
      exact hR.2.2.1 q j
/-- Math's max, min, abs -/
def tMx : List (Nat × Nat) := [(15, 92), (11, 388), (0, 84), (7, 77)]
def tMn : List (Nat × Nat) := [(15, 38), (11, 383), (2, 56), (7, 57)]
def tMa : List (Nat × Nat) := [(3, 109), (7, 89)]
theorem tMx_ok : ∀ q ∈ tMx, Cond.methodLink (cN q.1) q.2 Lib.Math.max.name ∈ lw_tbl := am_tab tMx [890, 235, 167, 247] (fun q => Cond.methodLink (cN q.1) q.2 Lib.Math.max.name) (by decide +kernel)
theorem tMn_ok : ∀ q ∈ tMn, Cond.methodLink (cN q.1) q.2 Lib.Math.min.name ∈ lw_tbl := am_tab tMn [893, 231, 240, 177] (fun q => Cond.methodLink (cN q.1) q.2 Lib.Math.min.name) (by decide +kernel)
theorem tMa_ok : ∀ q ∈ tMa, Cond.methodLink (cN q.1) q.2 Lib.Math.abs.name ∈ lw_tbl := am_tab tMa [1115, 427] (fun q => Cond.methodLink (cN q.1) q.2 Lib.Math.abs.name) (by decide +kernel)
theorem mxS : Cond.static Lib.Math.max.name ∈ lw_tbl := am_sel_in [891] _ _ (by decide +kernel)
theorem mnS : Cond.static Lib.Math.min.name ∈ lw_tbl := am_sel_in [894] _ _ (by decide +kernel)
theorem maS : Cond.static Lib.Math.abs.name ∈ lw_tbl := am_sel_in [1116] _ _ (by decide +kernel)
theorem mxC : Cond.code Lib.Math.max.name Lib.Math.max.code 2 (some .int) ∈ lw_tbl := am_sel_in [892] _ _ (by decide +kernel)
theorem mnC : Cond.code Lib.Math.min.name Lib.Math.min.code 2 (some .int) ∈ lw_tbl := am_sel_in [895] _ _ (by decide +kernel)
theorem maC : Cond.code Lib.Math.abs.name Lib.Math.abs.code 1 (some .int) ∈ lw_tbl := am_sel_in [1117] _ _ (by decide +kernel)
theorem maI : Cond.initialized "java/lang/Math" ∈ lw_tbl := am_sel_in [170] _ _ (by decide +kernel)
theorem s_max {a b : Int} {ix : Nat} (hF : FX G cc own) (hd : decode cc pc = .ok (.invokestatic ix, 3)) (ht : (own, ix) ∈ tMx) (hst : ((st.map (cv (aAd G))).map (fun v => v.category)).sum ≤ 8) (hrm : 1 ≤ (aR G).frames ∧ 30 ≤ (aR G).locals) (k : WA G (pc + 3) ls (.inl (max a b) :: st) S) : WA G pc ls (.inl b :: .inl a :: st) S := by
  obtain ⟨p, l, e, R, s, m, args, below, meth, c, Q, nL, dC, dI, ct, ad, n0, z0, x0⟩ := G
  intro H locs lsC hR hlv h1 h2
  obtain ⟨hx, hb, hml, hown, hts, hK, hrow, hsz, h9⟩ := hF
  obtain ⟨ob, h2⟩ := ok_c.mp h2
  obtain ⟨oa, h2⟩ := ok_c.mp h2
  have kk := k H locs lsC hR hlv h1 (ok_c.mpr ⟨by show am_rg _; obtain ⟨a1, a2⟩ := oa; obtain ⟨b1, b2⟩ := ob; exact ⟨by omega, by omega⟩, h2⟩)
  obtain ⟨r1, r2⟩ := hrm
  have r2 : 30 ≤ R.locals := r2
  have hst2 : ((st.map (cv ad)).map fun v => v.category).sum ≤ 8 := hst
  refine va_mmax (x := Int32.ofInt a) (y := Int32.ofInt b) hx hb (hml.trans hlv.1.symm) hown (hts _ (tMx_ok _ ht) rfl) (hts _ mxS rfl) (hts _ maI rfl) (hts _ mxC rfl) r1 (by show ((st.map (cv ad)).map fun v => v.category).sum + 13 ≤ R.locals; omega) (by show S.1.length - n0 ≤ R.cells; have := hR.2.2.2.1; omega) (by show am_sz S.1 - z0 ≤ R.slots; have := hR.2.2.2.2.1.1; omega) hd ?_
  have e1 : (if Int32.ofInt a < Int32.ofInt b then Int32.ofInt b else Int32.ofInt a) = Int32.ofInt (max a b) := by
    by_cases q : a < b
    · rw [if_pos ((lt32 oa ob).mpr q), show max a b = b by omega]
    · rw [if_neg (fun z => q ((lt32 oa ob).mp z)), show max a b = a by omega]
  rw [e1]
  exact kk
theorem s_min {a b : Int} {ix : Nat} (hF : FX G cc own) (hd : decode cc pc = .ok (.invokestatic ix, 3)) (ht : (own, ix) ∈ tMn) (hst : ((st.map (cv (aAd G))).map (fun v => v.category)).sum ≤ 8) (hrm : 1 ≤ (aR G).frames ∧ 30 ≤ (aR G).locals) (k : WA G (pc + 3) ls (.inl (min a b) :: st) S) : WA G pc ls (.inl b :: .inl a :: st) S := by
  obtain ⟨p, l, e, R, s, m, args, below, meth, c, Q, nL, dC, dI, ct, ad, n0, z0, x0⟩ := G
  intro H locs lsC hR hlv h1 h2
  obtain ⟨hx, hb, hml, hown, hts, hK, hrow, hsz, h9⟩ := hF
  obtain ⟨ob, h2⟩ := ok_c.mp h2
  obtain ⟨oa, h2⟩ := ok_c.mp h2
  have kk := k H locs lsC hR hlv h1 (ok_c.mpr ⟨by show am_rg _; obtain ⟨a1, a2⟩ := oa; obtain ⟨b1, b2⟩ := ob; exact ⟨by omega, by omega⟩, h2⟩)
  obtain ⟨r1, r2⟩ := hrm
  have r2 : 30 ≤ R.locals := r2
  have hst2 : ((st.map (cv ad)).map fun v => v.category).sum ≤ 8 := hst
  refine va_mmin (x := Int32.ofInt a) (y := Int32.ofInt b) hx hb (hml.trans hlv.1.symm) hown (hts _ (tMn_ok _ ht) rfl) (hts _ mnS rfl) (hts _ maI rfl) (hts _ mnC rfl) r1 (by show ((st.map (cv ad)).map fun v => v.category).sum + 13 ≤ R.locals; omega) (by show S.1.length - n0 ≤ R.cells; have := hR.2.2.2.1; omega) (by show am_sz S.1 - z0 ≤ R.slots; have := hR.2.2.2.2.1.1; omega) hd ?_
  have e1 : (if Int32.ofInt b < Int32.ofInt a then Int32.ofInt b else Int32.ofInt a) = Int32.ofInt (min a b) := by
    by_cases q : b < a
    · rw [if_pos ((lt32 ob oa).mpr q), show min a b = b by omega]
    · rw [if_neg (fun z => q ((lt32 ob oa).mp z)), show min a b = a by omega]
  rw [e1]
  exact kk
theorem s_abs {a : Int} {ix : Nat} (hF : FX G cc own) (hd : decode cc pc = .ok (.invokestatic ix, 3)) (ht : (own, ix) ∈ tMa) (hst : ((st.map (cv (aAd G))).map (fun v => v.category)).sum ≤ 8) (hrm : 1 ≤ (aR G).frames ∧ 30 ≤ (aR G).locals) (hg : am_rg (-a)) (k : WA G (pc + 3) ls (.inl (max a (-a)) :: st) S) : WA G pc ls (.inl a :: st) S := by
  obtain ⟨p, l, e, R, s, m, args, below, meth, c, Q, nL, dC, dI, ct, ad, n0, z0, x0⟩ := G
  intro H locs lsC hR hlv h1 h2
  obtain ⟨hx, hb, hml, hown, hts, hK, hrow, hsz, h9⟩ := hF
  obtain ⟨oa, h2⟩ := ok_c.mp h2
  have kk := k H locs lsC hR hlv h1 (ok_c.mpr ⟨by show am_rg _; obtain ⟨a1, a2⟩ := oa; obtain ⟨b1, b2⟩ := hg; exact ⟨by omega, by omega⟩, h2⟩)
  obtain ⟨r1, r2⟩ := hrm
  have r2 : 30 ≤ R.locals := r2
  have hst2 : ((st.map (cv ad)).map fun v => v.category).sum ≤ 8 := hst
  refine va_mabs (x := Int32.ofInt a) hx hb (hml.trans hlv.1.symm) hown (hts _ (tMa_ok _ ht) rfl) (hts _ maS rfl) (hts _ maI rfl) (hts _ maC rfl) r1 (by show ((st.map (cv ad)).map fun v => v.category).sum + 13 ≤ R.locals; omega) (by show S.1.length - n0 ≤ R.cells; have := hR.2.2.2.1; omega) (by show am_sz S.1 - z0 ≤ R.slots; have := hR.2.2.2.2.1.1; omega) hd ?_
  have e1 : (if 0 ≤ Int32.ofInt a then Int32.ofInt a else 0 - Int32.ofInt a) = Int32.ofInt (max a (-a)) := by
    by_cases q : 0 ≤ a
    · rw [if_pos (show (0 : Int32) ≤ Int32.ofInt a from (le32 rg0 oa).mpr q), show max a (-a) = a by omega]
    · rw [if_neg (show ¬ (0 : Int32) ≤ Int32.ofInt a from fun z => q ((le32 rg0 oa).mp z)), show max a (-a) = 0 - a by omega, ← sub32]
      rfl
  rw [e1]
  exact kk
theorem am_sw_ok {v : Int} {jmp : Nat → Prop} : ∀ (l : List Int) (a : Int), am_sw (X := Prop) False (fun c _ x y => (c → x) ∧ (¬ c → y)) jmp v a l → ∃ j : Nat, j < l.length ∧ v = a + j ∧ jmp (am_nth 0 l j).toNat
  | [], _, h => h.elim
  | t :: l, a, h => by
    by_cases e : v = a
    · exact ⟨0, by simp, by omega, h.1 e⟩
    · obtain ⟨j, h1, h2, h3⟩ := am_sw_ok l (a + 1) (h.2 e)
      exact ⟨j + 1, by simpa using h1, by omega, h3⟩
theorem s_swOut {v d lo hi : Int} {offs : Array Int} {len t : Nat} (hF : FX G cc own) (hd : decode cc pc = .ok (.tableswitch d lo hi offs, len)) (h : v < lo ∨ hi < v) (ht : (pc : Int) + d = (t : Int)) (k : WA G t ls st S) : WA G pc ls (.inl v :: st) S := by
  obtain ⟨p, l, e, R, s, m, args, below, meth, c, Q, nL, dC, dI, ct, ad, n0, z0, x0⟩ := G
  exact WA.stk k (fun ho H locs lsC kk => lv_tableOut (x := Int32.ofInt v) hF.1 hF.2.1 hd (by rw [t32 (ok_c.mp ho).1]; exact h) ht kk) (fun ho => (ok_c.mp ho).2)
theorem s_swIn {v d lo hi off : Int} {offs : Array Int} {len t : Nat} (hF : FX G cc own) (hd : decode cc pc = .ok (.tableswitch d lo hi offs, len)) (h : ¬ v < lo) (h2 : ¬ hi < v) (ho2 : offs[(v - lo).toNat]? = some off) (ht : (pc : Int) + off = (t : Int)) (k : WA G t ls st S) : WA G pc ls (.inl v :: st) S := by
  obtain ⟨p, l, e, R, s, m, args, below, meth, c, Q, nL, dC, dI, ct, ad, n0, z0, x0⟩ := G
  exact WA.stk k (fun ho H locs lsC kk => lv_tableIn (x := Int32.ofInt v) hF.1 hF.2.1 hd (by rw [t32 (ok_c.mp ho).1]; exact h) (by rw [t32 (ok_c.mp ho).1]; exact h2) (by rw [t32 (ok_c.mp ho).1]; exact ho2) ht kk) (fun ho => (ok_c.mp ho).2)
end S32
end
section
/-! rows of calls -/
theorem goodSub {ws : List Cond} (h : ∀ w ∈ ws, w ∈ lw_g) : GoodIn lw_g ws := fun w hw => ⟨h w hw, good_of_word (List.mem_filter.mp (h w hw)).2⟩
/-- a method's start -/
def aRU (dC : Nat → ClassId) (dI : Nat → Nat → Nat) (ct : Nat → ClassId) (ad : Nat → Nat) (S : aS) (U : State) : Prop :=
  U.heap.size = ad 9 + (S.1.length - 9) ∧ va_P (dC, dI) vwCl (am_w ftab ct ad S) U.heap ∧ va_K (dC, dI) vwCl (am_ts ct) U ∧ XF ad S U U.heap ∧ XN U
/-- a method's end -/
def aQc (dC : Nat → ClassId) (dI : Nat → Nat → Nat) (ct : Nat → ClassId) (ad : Nat → Nat) (S : aS) (v : Option aV) (S2 : aS) : Array Value → State → Outcome → State → Prop := fun _ st oc t =>
  oc = .returned (v.map (cv ad)) ∧ va_P (dC, dI) vwCl (am_w ftab ct ad S2) t.heap ∧ va_F (am_A ad) st t ∧ ok_h ftab S2 ∧ (∀ x, v = some x → ok_v x) ∧ ∀ r, r < 9 → am_nth am_o0 S2.1 r = am_nth am_o0 S.1 r ∧ S2.2 r = S.2 r
def aWs (k : Nat) : List Cond := Cond.code (mY k) (mB k) (mLo k) (mR k) :: lw_g
def aRm (k : Nat) : Room := { frames := mFr k, cells := mCe k, slots := mSl k, locals := mWd k }
/-- a method's contract -/
def aM (l : Launch) (dC : Nat → ClassId) (dI : Nat → Nat → Nat) (ct : Nat → ClassId) (ad : Nat → Nat) (k : Nat) (as : List aV) (S : aS) (v : Option aV) (S2 : aS) : Prop :=
  Met l (mY k) (aWs k) (aRm k) (va_Pc (as.map (cv ad)) (aRU dC dI ct ad S)) (aQc dC dI ct ad S v S2) (mCe k) (mSl k) (am_A ad)
theorem aWs_in {k : Nat} (h : k < 352) : ∀ w ∈ aWs k, w ∈ lw_g := by
  intro w hw
  rcases List.mem_cons.mp hw with rfl | hw
  · exact List.mem_filter.mpr ⟨mC_ok h, rfl⟩
  · exact hw
theorem aRU_blind {dC : Nat → ClassId} {dI : Nat → Nat → Nat} {ct : Nat → ClassId} {ad : Nat → Nat} {S : aS} {av : List Value} : FrameBlind (va_Pc av (aRU dC dI ct ad S)) := by
  intro a U g mk h
  obtain ⟨h1, h2, h3, h4, h5, h6⟩ := h
  exact ⟨h1, h2, h3, va_K.moved (u := U) (U := U.calling g mk a) (Vm.Alike.refl U.vm) h4, XF.warm (s := U) (U := U.calling g mk a) (State.WarmedH.refl U) h5, XN.warm (s := U) (U := U.calling g mk a) (State.WarmedH.refl U) h6⟩
theorem am_cat_ok (ad : Nat → Nat) : ∀ st : List aV, ((st.map (cv ad)).map fun v => v.category).sum = am_cat st
  | [] => rfl
  | v :: st => by
    have h := am_cat_ok ad st
    show (cv ad v).category + ((st.map (cv ad)).map fun v => v.category).sum = (bif am_is2 v then 2 else 1) + am_cat st
    rw [h]
    have hc := cat2 (ad := ad) v
    cases hv : am_is2 v with
    | true =>
      rw [hv] at hc
      have : (cv ad v).category = 2 := by simpa using hc
      rw [this]; rfl
    | false => rw [cat1 hv]; rfl
section S34
variable {p : Program} {l : Launch} {e : Env} {R : Room} {s : State} {m : MethodId} {args : Array Value} {below : List Frame} {meth : Method} {c : Code} {Q : State → Prop} {nL : Nat} {dC : Nat → ClassId} {dI : Nat → Nat → Nat} {ct : Nat → ClassId} {ad : Nat → Nat} {n0 z0 : Nat} {x0 : Nat → aC × (Nat → Int)}
variable {cc : ByteArray} {own pc : Nat} {ls : aL} {st : List aV} {S : aS}
theorem RR.size {H : Heap} {locs : List Loc} {cells : Nat} (hR : RR (p, l, e, R, s, m, args, below, meth, c, Q, nL, dC, dI, ct, ad, n0, z0, x0) S H locs) (hrow : am_row ad) (hsz : s.heap.size = ad 9 + (n0 - 9)) (h9 : 9 ≤ n0) (hc : cells = S.1.length - n0) (hs : H.size ≤ s.heap.size + cells) : H.size = ad 9 + (S.1.length - 9) := by
  have hn := hR.2.2.2.1.1
  have h0 := hR.2.1.1
  rcases Nat.lt_or_ge n0 S.1.length with hl | hl
  · have hw := am_w_get (ft := ftab) (ct := ct) (ad := ad) (S := S) (r := S.1.length - 1) (by omega) (by omega)
    have h1 : ad (S.1.length - 1) < H.size := (hR.1 _ _ hw).lt
    rw [hrow _ (by omega)] at h1
    omega
  · omega
/-- behind a call -/
theorem am_after {H : Heap} {locs : List Loc} {lsC : Array Slot} {stv : List Value} {v : Option aV} {S2 : aS} {a : Array Value} {mc ms : Nat} (hr : va_Run p l e R s m args below meth c H locs (S.1.length - n0) (am_sz S.1 - z0) mc ms (F0 m pc lsC stv) (st.map (cv ad)) (aQc dC dI ct ad S v S2 a) (am_A ad))
    (hR : RR (p, l, e, R, s, m, args, below, meth, c, Q, nL, dC, dI, ct, ad, n0, z0, x0) S H locs) (hl : S2.1.length = S.1.length + mc) (hz : am_sz S2.1 = am_sz S.1 + ms) (hl2 : S2.1.length ≤ n0 + R.cells) (hz2 : am_sz S2.1 ≤ z0 + R.slots)
    (k : (∀ x, v = some x → ok_v x) → ∀ (H1 : Heap) (locs1 : List Loc), RR (p, l, e, R, s, m, args, below, meth, c, Q, nL, dC, dI, ct, ad, n0, z0, x0) S2 H1 locs1 → W p l e R s m args below meth c H1 locs1 (S2.1.length - n0) (am_sz S2.1 - z0) Q (F0 m (pc + 3) lsC ((am_psh v st).map (cv ad)))) :
    W p l e R s m args below meth c H locs (S.1.length - n0) (am_sz S.1 - z0) Q (F0 m pc lsC stv) := by
  intro T hT X
  obtain ⟨v2, st₀, t, T', L, h0, X', hL, e1, e2, ⟨hv, hP2, hF2, hok2, hov, hxa⟩, stp⟩ := hr T hT X
  have hv : v2 = v.map (cv ad) := by cases hv; rfl
  subst hv
  have hn := hR.2.2.2.1.1
  have hzz := hR.2.2.2.2.1.1.1
  have hS1 : va_S (am_A ad) s.heap T'.heap (locs ++ L) := by
    obtain ⟨q1, q2⟩ := hF2
    rw [h0] at q1 q2
    refine ⟨Nat.le_trans hR.2.1.1 (by rw [e1]; exact q1), fun q w1 w2 => ?_, fun q hq => ?_⟩
    · rw [e1, q2 q (Nat.lt_of_lt_of_le w1 hR.2.1.1) w2]
      exact hR.2.1.2.1 q w1 w2
    · rcases List.mem_append.mp hq with hq | hq
      · exact hR.2.1.2.2 q hq
      · exact hL q hq
  have hR2 : RR (p, l, e, R, s, m, args, below, meth, c, Q, nL, dC, dI, ct, ad, n0, z0, x0) S2 T'.heap (locs ++ L) := by
    refine ⟨by rw [e1]; exact hP2, hS1, hok2, ⟨by omega, hl2⟩, ⟨⟨by omega, hz2⟩, fun r hr => ?_⟩, hR.2.2.2.2.2.same (fun r hr => (hxa r hr).1) (fun r hr => (hxa r hr).2)⟩
    rw [(hxa r hr).1, (hxa r hr).2]
    exact hR.2.2.2.2.1.2 r hr
  have X2 : Stand p l e R s m args below meth c T' (locs ++ L) (S2.1.length - n0) (am_sz S2.1 - z0) := by
    rw [show S2.1.length - n0 = S.1.length - n0 + mc by omega, show am_sz S2.1 - z0 = am_sz S.1 - z0 + ms by omega]
    exact X'
  obtain ⟨t2, a1, b1⟩ := k hov T'.heap (locs ++ L) hR2 T' rfl X2
  refine ⟨t2, stp t2 ?_, b1⟩
  have e3 : (am_psh v st).map (cv ad) = (v.map (cv ad)).toList ++ st.map (cv ad) := by cases v <;> rfl
  rw [e3] at a1
  exact a1
theorem ok_psh {v : Option aV} (h1 : ∀ x, v = some x → ok_v x) (h2 : ∀ x ∈ st, ok_v x) : ∀ x ∈ am_psh v st, ok_v x := by
  cases v with
  | none => exact h2
  | some x => exact ok_c.mpr ⟨h1 x rfl, h2⟩
theorem map_rev (ad : Nat → Nat) (as : List aV) : (as.map (cv ad)).reverse = as.reverse.map (cv ad) := by rw [List.map_reverse]
theorem ok_app {as : List aV} (h : ∀ x ∈ as.reverse ++ st, ok_v x) : (∀ x ∈ as, ok_v x) ∧ ∀ x ∈ st, ok_v x := ⟨fun x hx => h x (List.mem_append_left _ (List.mem_reverse.mpr hx)), fun x hx => h x (List.mem_append_right _ hx)⟩
/-- what a call leaves -/
def aLeft (G : aG) (S S2 : aS) (id : Nat) : Prop := S2.1.length = S.1.length + mCe id ∧ am_sz S2.1 = am_sz S.1 + mSl id ∧ S2.1.length ≤ an0 G + (aR G).cells ∧ am_sz S2.1 ≤ az0 G + (aR G).slots
theorem s_callV {ix id r : Nat} {as : List aV} {v : Option aV} {S2 : aS} (hF : FX (p, l, e, R, s, m, args, below, meth, c, Q, nL, dC, dI, ct, ad, n0, z0, x0) cc own) (hd : decode cc pc = .ok (.invokevirtual ix, 3)) (ht : (own, ix, id) ∈ tMV)
    (hM : ok_h ftab S → (∀ x ∈ (Sum.inr (Sum.inr r) :: as : List aV), ok_v x) → aM l dC dI ct ad id (.inr (.inr r) :: as) S v S2) (hna : as.length + 1 = mNa id) (hk : am_kd S.1 r = mNa (2000 + id)) (hkd : (mNa (2000 + id) = 10 + mCs id ∧ mCs id < 13) ∨ (mNa (2000 + id) = 30 ∧ mCs id = 14))
    (hrm : mFr id + 1 ≤ R.frames ∧ 8 + (mLo id + 11) + mWd id ≤ R.locals) (hst : am_cat st ≤ 8) (hlf : aLeft (p, l, e, R, s, m, args, below, meth, c, Q, nL, dC, dI, ct, ad, n0, z0, x0) S S2 id)
    (k : WA (p, l, e, R, s, m, args, below, meth, c, Q, nL, dC, dI, ct, ad, n0, z0, x0) (pc + 3) ls (am_psh v st) S2) : WA (p, l, e, R, s, m, args, below, meth, c, Q, nL, dC, dI, ct, ad, n0, z0, x0) pc ls (as.reverse ++ .inr (.inr r) :: st) S := by
  obtain ⟨hid, him, hse, hpd, hce, hsl⟩ := tMV_id _ ht
  obtain ⟨g1, g2, g3, g4⟩ := hlf
  intro H locs lsC hR hlv h1 h2
  obtain ⟨hx, hb, hml, hown, hts, hK, hrow, hsz, h9⟩ := hF
  obtain ⟨hoa, h2⟩ := ok_app h2
  obtain ⟨-, h2⟩ := ok_c.mp h2
  have hrc : ∃ cell : Cell, H[ad r]? = some cell ∧ cell.vm.isStatics = false ∧ s.vm.findClass (cN (mCs id)) = some cell.cls := by
    rcases hkd with ⟨e1, e2⟩ | ⟨e1, e2⟩
    · obtain ⟨r9, rc, rl⟩ := kd_w (hk.trans e1) (by omega) (by
        have : ∀ c, c < 13 → am_xk (10 + c) = false := by decide
        exact this _ e2)
      have hw := am_w_get (ft := ftab) (ct := ct) (ad := ad) (S := S) r9 rl
      rw [am_e_o rc] at hw
      exact va_recv hK hR.1 (cls_at _ e2) hw
    · obtain ⟨r9, -, -⟩ := kd_x (hk.trans e1) (by decide)
      obtain ⟨cell, c1, c2, c3, c4⟩ := (((hR.2.2.2.2.2.1 r r9).2.2.2 (hk.trans e1)).1).kept hR.2.1.2.1
      refine ⟨cell, c1, c2, ?_⟩
      rw [e2]
      exact c3
  have hr0 : r ≠ 0 ∧ r ≠ 8 := by
    rcases hkd with ⟨e1, e2⟩ | ⟨e1, e2⟩
    · obtain ⟨r9, rc, rl⟩ := kd_w (hk.trans e1) (by omega) (by
        have : ∀ c, c < 13 → am_xk (10 + c) = false := by decide
        exact this _ e2)
      exact ⟨by omega, by omega⟩
    · obtain ⟨r9, a, b⟩ := kd_x (hk.trans e1) (by decide)
      exact ⟨a, b⟩
  show W p l e R s m args below meth c H locs (S.1.length - n0) (am_sz S.1 - z0) Q (F0 m pc lsC ((as.reverse ++ .inr (.inr r) :: st).map (cv ad)))
  refine W_sz (fun hs => ?_)
  have hHs := RR.size hR hrow hsz h9 rfl hs
  rw [List.map_append, List.map_cons, ← map_rev, cv_ref hr0.1 hr0.2]
  have hMM := hM hR.2.2.1 (ok_c.mpr ⟨trivial, hoa⟩)
  unfold aM at hMM
  rw [List.map_cons, cv_ref hr0.1 hr0.2] at hMM
  have cw : CallW R s args (cN own) (cN (mCs id)) ix (mY id) (mB id) (mLo id) (mR id) (aWs id) (aRm id) (mCe id) (mSl id) (mNa id - 1) := by
    refine ⟨callB_of (ws' := lw_g) _ (use_g hts) (goodSub (aWs_in hid)) rfl rfl rfl (hts _ (by rw [(mcl id hid).1]; exact ini_ok _ (ini_all _ (mcl id hid).2)) rfl) (hts _ (tMV_ok _ ht) rfl) ⟨(mmh id hid).1, (mmh id hid).2, hpd⟩ hrm, hts _ (mIm_ok _ him) rfl, hts _ (mSe_ok _ hse) rfl⟩
  refine am_after (va_runV (As := as.map (cv ad)) (rest := st.map (cv ad)) ⟨hx, hb, hml, hown, use_g hts⟩ hMM cw ⟨aRU_blind, hrc, fun U hU hW => ⟨rfl, by rw [hU]; exact hHs, by rw [hU]; exact hR.1, va_K.moved hW.alike hK, ?_, (XN.ofU hts).warm hW⟩⟩ rfl (by rw [List.length_map]; show as.length = mNa id - 1; omega) hlv.1 rfl (lv_room (by rw [am_cat_ok]; exact hst)) hd ⟨?_, ?_⟩) hR g1 g2 g3 g4 (fun hov H1 locs1 hR1 => k H1 locs1 lsC hR1 hlv h1 (ok_psh hov h2))
  · rw [hU]
    exact (hR.2.2.2.2.2.kept hR.2.1.2.1).warm hW
  · have : S2.1.length ≤ n0 + R.cells := g3
    have := hR.2.2.2.1.1
    omega
  · have : am_sz S2.1 ≤ z0 + R.slots := g4
    have := hR.2.2.2.2.1.1.1
    omega
theorem s_callS {ix id : Nat} {as : List aV} {v : Option aV} {S2 : aS} (hF : FX (p, l, e, R, s, m, args, below, meth, c, Q, nL, dC, dI, ct, ad, n0, z0, x0) cc own) (hd : decode cc pc = .ok (.invokestatic ix, 3)) (ht : (own, ix, id) ∈ tMS ∨ (own, ix, id) ∈ tMT)
    (hM : ok_h ftab S → (∀ x ∈ as, ok_v x) → aM l dC dI ct ad id as S v S2) (hna : as.length = mNa id)
    (hrm : mFr id + 1 ≤ R.frames ∧ 8 + (mLo id + 11) + mWd id ≤ R.locals) (hst : am_cat st ≤ 8) (hlf : aLeft (p, l, e, R, s, m, args, below, meth, c, Q, nL, dC, dI, ct, ad, n0, z0, x0) S S2 id)
    (k : WA (p, l, e, R, s, m, args, below, meth, c, Q, nL, dC, dI, ct, ad, n0, z0, x0) (pc + 3) ls (am_psh v st) S2) : WA (p, l, e, R, s, m, args, below, meth, c, Q, nL, dC, dI, ct, ad, n0, z0, x0) pc ls (as.reverse ++ st) S := by
  obtain ⟨g1, g2, g3, g4⟩ := hlf
  intro H locs lsC hR hlv h1 h2
  obtain ⟨hx, hb, hml, hown, hts, hK, hrow, hsz, h9⟩ := hF
  obtain ⟨hoa, h2⟩ := ok_app h2
  show W p l e R s m args below meth c H locs (S.1.length - n0) (am_sz S.1 - z0) Q (F0 m pc lsC ((as.reverse ++ st).map (cv ad)))
  refine W_sz (fun hs => ?_)
  have hHs := RR.size hR hrow hsz h9 rfl hs
  rw [List.map_append, ← map_rev]
  have hMM := hM hR.2.2.1 hoa
  unfold aM at hMM
  have pre : PreS s H (va_Pc (as.map (cv ad)) (aRU dC dI ct ad S)) (as.map (cv ad)) := ⟨aRU_blind, fun U hU hW => ⟨rfl, by rw [hU]; exact hHs, by rw [hU]; exact hR.1, va_K.moved hW.alike hK, by
    rw [hU]
    exact (hR.2.2.2.2.2.kept hR.2.1.2.1).warm hW, (XN.ofU hts).warm hW⟩⟩
  have room : S.1.length - n0 + mCe id ≤ R.cells ∧ am_sz S.1 - z0 + mSl id ≤ R.slots := by
    have q1 : S2.1.length ≤ n0 + R.cells := g3
    have q2 := hR.2.2.2.1.1
    have q3 : am_sz S2.1 ≤ z0 + R.slots := g4
    have q4 := hR.2.2.2.2.1.1.1
    constructor <;> omega
  rcases ht with ht | ht
  · obtain ⟨hid, hst2, hpd, hce, hsl⟩ := tMS_id _ ht
    exact am_after (va_runS (As := as.map (cv ad)) (rest := st.map (cv ad)) ⟨hx, hb, hml, hown, use_g hts⟩ hMM ⟨callB_of (ws' := lw_g) _ (use_g hts) (goodSub (aWs_in hid)) rfl rfl rfl (hts _ (by rw [(mcl id hid).1]; exact ini_ok _ (ini_all _ (mcl id hid).2)) rfl) (hts _ (tMS_ok _ ht) rfl) ⟨(mmh id hid).1, (mmh id hid).2, hpd⟩ hrm, hts _ (mSt_ok _ hst2) rfl⟩ pre rfl (by rw [List.length_map]; exact hna) hlv.1 rfl (lv_room (by rw [am_cat_ok]; exact hst)) hd room) hR g1 g2 g3 g4 (fun hov H1 locs1 hR1 => k H1 locs1 lsC hR1 hlv h1 (ok_psh hov h2))
  · obtain ⟨hid, hst2, hpd, hce, hsl⟩ := tMT_id _ ht
    exact am_after (va_runSN (As := as.map (cv ad)) (rest := st.map (cv ad)) ⟨hx, hb, hml, hown, use_g hts⟩ hMM ⟨va_cnB (ws' := lw_g) _ (use_g hts) (goodSub (aWs_in hid)) rfl rfl rfl (va_Nw.of rfl (hts _ (tMT_ok _ ht) rfl)) (hts _ (by rw [(mcl id hid).1]; exact ini_ok _ (ini_all _ (mcl id hid).2)) rfl) ⟨(mmh id hid).1, (mmh id hid).2, hpd⟩ hrm, hts _ (mSt_ok _ hst2) rfl, trivial⟩ pre rfl (by rw [List.length_map]; exact hna) hlv.1 rfl (lv_room (by rw [am_cat_ok]; exact hst)) hd room) hR g1 g2 g3 g4 (fun hov H1 locs1 hR1 => k H1 locs1 lsC hR1 hlv h1 (ok_psh hov h2))
theorem s_callI {ix id r : Nat} {as : List aV} {S2 : aS} (hF : FX (p, l, e, R, s, m, args, below, meth, c, Q, nL, dC, dI, ct, ad, n0, z0, x0) cc own) (hd : decode cc pc = .ok (.invokespecial ix, 3)) (ht : (own, ix, id) ∈ tMI ∨ (own, ix, id) ∈ tMJ)
    (hM : ok_h ftab S → (∀ x ∈ (Sum.inr (Sum.inr r) :: as : List aV), ok_v x) → aM l dC dI ct ad id (.inr (.inr r) :: as) S none S2) (hna : as.length + 1 = mNa id) (h0 : r ≠ 0) (h8 : r ≠ 8)
    (hrm : mFr id + 1 ≤ R.frames ∧ 8 + (mLo id + 11) + mWd id ≤ R.locals) (hst : am_cat st ≤ 8) (hlf : aLeft (p, l, e, R, s, m, args, below, meth, c, Q, nL, dC, dI, ct, ad, n0, z0, x0) S S2 id)
    (k : WA (p, l, e, R, s, m, args, below, meth, c, Q, nL, dC, dI, ct, ad, n0, z0, x0) (pc + 3) ls st S2) : WA (p, l, e, R, s, m, args, below, meth, c, Q, nL, dC, dI, ct, ad, n0, z0, x0) pc ls (as.reverse ++ .inr (.inr r) :: st) S := by
  obtain ⟨g1, g2, g3, g4⟩ := hlf
  intro H locs lsC hR hlv h1 h2
  obtain ⟨hx, hb, hml, hown, hts, hK, hrow, hsz, h9⟩ := hF
  obtain ⟨hoa, h2⟩ := ok_app h2
  obtain ⟨-, h2⟩ := ok_c.mp h2
  show W p l e R s m args below meth c H locs (S.1.length - n0) (am_sz S.1 - z0) Q (F0 m pc lsC ((as.reverse ++ .inr (.inr r) :: st).map (cv ad)))
  refine W_sz (fun hs => ?_)
  have hHs := RR.size hR hrow hsz h9 rfl hs
  rw [List.map_append, List.map_cons, ← map_rev, cv_ref h0 h8]
  have hMM := hM hR.2.2.1 (ok_c.mpr ⟨trivial, hoa⟩)
  unfold aM at hMM
  rw [List.map_cons, cv_ref h0 h8] at hMM
  have pre : PreS s H (va_Pc (.ref (ad r) :: as.map (cv ad)) (aRU dC dI ct ad S)) (.ref (ad r) :: as.map (cv ad)) := ⟨aRU_blind, fun U hU hW => ⟨rfl, by rw [hU]; exact hHs, by rw [hU]; exact hR.1, va_K.moved hW.alike hK, by
    rw [hU]
    exact (hR.2.2.2.2.2.kept hR.2.1.2.1).warm hW, (XN.ofU hts).warm hW⟩⟩
  have room : S.1.length - n0 + mCe id ≤ R.cells ∧ am_sz S.1 - z0 + mSl id ≤ R.slots := by
    have q1 : S2.1.length ≤ n0 + R.cells := g3
    have q2 := hR.2.2.2.1.1
    have q3 : am_sz S2.1 ≤ z0 + R.slots := g4
    have q4 := hR.2.2.2.2.1.1.1
    constructor <;> omega
  rcases ht with ht | ht
  · obtain ⟨hid, him, hnm, hpd, hret⟩ := tMI_id _ ht
    have hws : aWs id = Cond.code (mY id) (mB id) (mLo id) none :: lw_g := by unfold aWs; rw [show mR id = none from hret]
    exact am_after (va_runI (As := as.map (cv ad)) (rest := st.map (cv ad)) ⟨hx, hb, hml, hown, use_g hts⟩ hMM ⟨callB_of (ws' := lw_g) (bytes := mB id) (maxL := mLo id) (ret := none) _ (use_g hts) (goodSub (aWs_in hid)) hws rfl rfl (hts _ (by rw [(mcl id hid).1]; exact ini_ok _ (ini_all _ (mcl id hid).2)) rfl) (hts _ (tMI_ok _ ht) rfl) ⟨(mmh id hid).1, (mmh id hid).2, hpd⟩ hrm, hnm, hts _ (mIm_ok _ him) rfl⟩ pre rfl (by rw [List.length_map]; show as.length = mNa id - 1; omega) hlv.1 rfl (lv_room (by rw [am_cat_ok]; exact hst)) hd room) hR g1 g2 g3 g4 (fun hov H1 locs1 hR1 => k H1 locs1 lsC hR1 hlv h1 h2)
  · obtain ⟨hid, him, hnm, hpd, hret⟩ := tMJ_id _ ht
    have hws : aWs id = Cond.code (mY id) (mB id) (mLo id) none :: lw_g := by unfold aWs; rw [show mR id = none from hret]
    exact am_after (va_runIN (As := as.map (cv ad)) (rest := st.map (cv ad)) ⟨hx, hb, hml, hown, use_g hts⟩ hMM ⟨va_cnB (ws' := lw_g) (bytes := mB id) (maxL := mLo id) (ret := none) _ (use_g hts) (goodSub (aWs_in hid)) hws rfl rfl (va_Nw.of rfl (hts _ (tMJ_ok _ ht) rfl)) (hts _ (by rw [(mcl id hid).1]; exact ini_ok _ (ini_all _ (mcl id hid).2)) rfl) ⟨(mmh id hid).1, (mmh id hid).2, hpd⟩ hrm, hnm, hts _ (mIm_ok _ him) rfl⟩ pre rfl (by rw [List.length_map]; show as.length = mNa id - 1; omega) hlv.1 rfl (lv_room (by rw [am_cat_ok]; exact hst)) hd room) hR g1 g2 g3 g4 (fun hov H1 locs1 hR1 => k H1 locs1 lsC hR1 hlv h1 h2)
end S34
end
section
/-! from the machine's instructions to the abstract machine's, and one step -/
def am_as {α : Type} : List (Nat × Nat × α) → Nat → Nat → Option α
  | [], _, _ => none
  | q :: l, a, b => bif Nat.beq q.1 a && Nat.beq q.2.1 b then some q.2.2 else am_as l a b
theorem am_as_ok {α : Type} {a b : Nat} {v : α} : ∀ {l : List (Nat × Nat × α)}, am_as l a b = some v → (a, b, v) ∈ l
  | [], h => by cases h
  | q :: l, h => by
    simp only [am_as] at h
    cases hb : (Nat.beq q.1 a && Nat.beq q.2.1 b) with
    | true =>
      rw [hb] at h
      obtain ⟨b1, b2⟩ := Bool.and_eq_true_iff.mp hb
      have e1 := Nat.eq_of_beq_eq_true b1
      have e2 := Nat.eq_of_beq_eq_true b2
      have e3 := Option.some.inj h
      subst e1; subst e2; subst e3
      exact List.mem_cons_self
    | false =>
      rw [hb] at h
      exact List.mem_cons_of_mem _ (am_as_ok h)
def am_in2 : List (Nat × Nat) → Nat → Nat → Bool
  | [], _, _ => false
  | q :: l, a, b => (Nat.beq q.1 a && Nat.beq q.2 b) || am_in2 l a b
theorem am_in2_ok {a b : Nat} : ∀ {l : List (Nat × Nat)}, am_in2 l a b = true → (a, b) ∈ l
  | [], h => by cases h
  | q :: l, h => by
    simp only [am_in2] at h
    rcases Bool.or_eq_true_iff.mp h with hb | hb
    · obtain ⟨b1, b2⟩ := Bool.and_eq_true_iff.mp hb
      have e1 := Nat.eq_of_beq_eq_true b1
      have e2 := Nat.eq_of_beq_eq_true b2
      subst e1; subst e2
      exact List.mem_cons_self
    · exact List.mem_cons_of_mem _ (am_in2_ok hb)
/-- the place of a pc -/
def am_ixo (t : Int) : List Nat → Nat → Option Nat
  | [], _ => none
  | p :: l, n => if t = (p : Int) then some n else am_ixo t l (n + 1)
theorem am_ixo_ok {t : Int} : ∀ (l : List Nat) (n m : Nat), am_ixo t l n = some m → ∃ j, m = n + j ∧ j < l.length ∧ t = ((am_nth 0 l j : Nat) : Int)
  | [], _, _, h => by cases h
  | p :: l, n, m, h => by
    simp only [am_ixo] at h
    by_cases e : t = (p : Int)
    · rw [if_pos e] at h
      exact ⟨0, (Option.some.inj h).symm, by simp, e⟩
    · rw [if_neg e] at h
      obtain ⟨j, h1, h2, h3⟩ := am_ixo_ok l (n + 1) m h
      exact ⟨j + 1, by omega, by simpa using h2, h3⟩
def am_tg (PC : List Nat) (t : Int) (f : Int → aI) : aI := match am_ixo t PC 0 with
  | some n => f (n : Int)
  | none => .athrow
/-- all targets of a switch -/
def am_tgs (PC : List Nat) (pc : Nat) : List Int → Option (List Int)
  | [] => some []
  | o :: l => match am_ixo ((pc : Int) + o) PC 0, am_tgs PC pc l with
    | some n, some r => some ((n : Int) :: r)
    | _, _ => none
theorem am_tgs_at {PC : List Nat} {pc : Nat} : ∀ (l r : List Int), am_tgs PC pc l = some r → ∀ j, j < r.length → ∃ o, l[j]? = some o ∧ (am_nth 0 r j).toNat < PC.length ∧ (pc : Int) + o = ((am_nth 0 PC (am_nth 0 r j).toNat : Nat) : Int)
  | [], r, h, j, hj => by cases h; simp at hj
  | o :: l, r, h, j, hj => by
    simp only [am_tgs] at h
    cases h1 : am_ixo ((pc : Int) + o) PC 0 with
    | none => rw [h1] at h; cases h
    | some n =>
      cases h2 : am_tgs PC pc l with
      | none => rw [h1, h2] at h; cases h
      | some r2 =>
        rw [h1, h2] at h
        have e := Option.some.inj h
        subst e
        cases j with
        | zero =>
          obtain ⟨j, g1, g2, g3⟩ := am_ixo_ok _ _ _ h1
          refine ⟨o, rfl, ?_, ?_⟩
          · show (n : Int).toNat < PC.length
            omega
          · show (pc : Int) + o = ((am_nth 0 PC (n : Int).toNat : Nat) : Int)
            rw [g3, Int.toNat_natCast, show n = j by omega]
        | succ j =>
          obtain ⟨o2, g1, g2, g3⟩ := am_tgs_at l r2 h2 j (by simpa using hj)
          exact ⟨o2, g1, g2, g3⟩
def am_ends : aI → Bool
  | .goto _ => true
  | .ireturn => true
  | .lreturn => true
  | .return_ => true
  | .tableswitch .. => true
  | .athrow => true
  | _ => false
/-- an instruction as the abstract machine has it: in class own, in method id of nL locals; wr: sums that wrap -/
def tomi (own id nL : Nat) (wr : Bool) (PC : List Nat) (pc : Nat) (r : aI) : aI := match r with
  | .iconst n => bif decide (-1 ≤ n ∧ n ≤ 5) then .iconst n else .athrow
  | .bipush n => bif decide (-128 ≤ n ∧ n < 128) then .iconst n else .athrow
  | .sipush n => bif decide (-32768 ≤ n ∧ n < 32768) then .iconst n else .athrow
  | .ldc x => match am_as tCn own x with
    | some v => bif decide (-2147483648 ≤ v ∧ v < 2147483648) then .iconst v else .athrow
    | none => match am_as tTx own x with
      | some c => .getstatic c
      | none => .athrow
  | .ldc_w x => match am_as tCn own x with
    | some v => bif decide (-2147483648 ≤ v ∧ v < 2147483648) then .iconst v else .athrow
    | none => .athrow
  | .ldc2_w x => match am_as tCl own x with
    | some v => bif decide (-9223372036854775808 ≤ v ∧ v < 9223372036854775808) then .bipush v else .athrow
    | none => .athrow
  | .lconst n => .bipush (n.val : Int)
  | .getstatic x => bif Nat.beq own 14 && Nat.beq x 38 then .iconst 1 else match am_as tSr own x with
    | some c => .getstatic c
    | none => .athrow
  | .iload k => .iload k
  | .iload_n k => .iload k.val
  | .lload k => .lload k
  | .lload_n k => .lload k.val
  | .aload k => .aload k
  | .aload_n k => .aload k.val
  | .istore k => bif Nat.blt k nL then .istore k else .athrow
  | .istore_n k => bif Nat.blt k.val nL then .istore k.val else .athrow
  | .lstore k => bif Nat.blt (k + 1) nL then .lstore k else .athrow
  | .lstore_n k => bif Nat.blt (k.val + 1) nL then .lstore k.val else .athrow
  | .astore k => bif Nat.blt k nL then .astore k else .athrow
  | .astore_n k => bif Nat.blt k.val nL then .astore k.val else .athrow
  | .iinc k d => bif Nat.blt k nL then .iinc k d else .athrow
  | .iadd => bif wr then .iadd else .fadd
  | .isub => bif wr then .isub else .fsub
  | .imul => bif wr then .imul else .fmul
  | .ladd => bif wr then .ladd else .dadd
  | .lsub => bif wr then .lsub else .dsub
  | .lmul => bif wr then .lmul else .dmul
  | .ifCond c o => am_tg PC ((pc : Int) + o) (fun t => .ifCond c t)
  | .if_icmp c o => am_tg PC ((pc : Int) + o) (fun t => .if_icmp c t)
  | .goto o => am_tg PC ((pc : Int) + o) (fun t => .goto t)
  | .tableswitch d lo hi offs => bif decide (hi - lo + 1 = (offs.toList.length : Int)) then match am_ixo ((pc : Int) + d) PC 0, am_tgs PC pc offs.toList with
    | some t, some ts => .tableswitch (t : Int) lo hi ts.toArray
    | _, _ => .athrow
    else .athrow
  | .getfield x => bif Nat.beq own 14 && Nat.beq x 9 then .getfield 2000 else bif Nat.beq own 14 && Nat.beq x 15 then .getfield 2001 else match am_as tFl own x with
    | some q => .getfield (100 * q.1 + q.2)
    | none => .athrow
  | .putfield x => match am_as tFl own x with
    | some q => bif !(cT q.1 q.2).2.2.2 || (decide ((mY id).name = "<init>") && Nat.beq own q.1) then .putfield (100 * q.1 + q.2) else .athrow
    | none => .athrow
  | .invokevirtual x => match am_as tMV own x with
    | some y => bif Nat.blt (mFr y) (mFr id) && Nat.ble (8 + (mLo y + 11) + mWd y) (mWd id) && ((Nat.beq (mNa (2000 + y)) (10 + mCs y) && Nat.blt (mCs y) 13) || (Nat.beq (mNa (2000 + y)) 30 && Nat.beq (mCs y) 14)) && Nat.ble 1 (mNa y) then .invokevirtual y else .athrow
    | none => .athrow
  | .invokestatic x => match am_as tMS own x with
    | some y => bif Nat.blt (mFr y) (mFr id) && Nat.ble (8 + (mLo y + 11) + mWd y) (mWd id) then .invokestatic y else .athrow
    | none => match am_as tMT own x with
      | some y => bif Nat.blt (mFr y) (mFr id) && Nat.ble (8 + (mLo y + 11) + mWd y) (mWd id) then .invokestatic y else .athrow
      | none => bif !(Nat.ble 1 (mFr id) && Nat.ble 30 (mWd id)) then .athrow else bif am_in2 tAc own x && Nat.ble 80 (mWd id) then .invokeinterface 1 0 else bif am_in2 tMx own x then .invokeinterface 2 0 else bif am_in2 tMn own x then .invokeinterface 3 0 else bif am_in2 tMa own x then .invokeinterface 4 0 else .athrow
  | .invokespecial x => bif am_in2 tOi own x then (bif Nat.ble 1 (mFr id) && Nat.ble 20 (mWd id) then .invokeinterface 0 0 else .athrow) else match am_as tMI own x with
    | some y => bif Nat.blt (mFr y) (mFr id) && Nat.ble (8 + (mLo y + 11) + mWd y) (mWd id) && Nat.ble 1 (mNa y) && Nat.ble 10 (mNa (2000 + y)) && Nat.blt (mNa (2000 + y)) 23 then .invokespecial y else .athrow
    | none => match am_as tMJ own x with
      | some y => bif Nat.blt (mFr y) (mFr id) && Nat.ble (8 + (mLo y + 11) + mWd y) (mWd id) && Nat.ble 1 (mNa y) && Nat.ble 10 (mNa (2000 + y)) && Nat.blt (mNa (2000 + y)) 23 then .invokespecial y else .athrow
      | none => .athrow
  | .new x => match am_as tNw own x with
    | some c => .new c
    | none => .athrow
  | .anewarray x => match am_as tNw own x with
    | some 9 => .anewarray 0
    | _ => .athrow
  | .newarray ty => match ty with
    | .int => .newarray .int
    | .long => .newarray .long
    | .byte => .newarray .byte
    | .boolean => .newarray .boolean
    | _ => .athrow
  | .ireturn => match mR id with
    | some .int => .ireturn
    | some .boolean => .freturn
    | some .byte => .freturn
    | some .char => .dreturn
    | _ => .athrow
  | .lreturn => bif decide (mR id = some .long) then .lreturn else .athrow
  | .return_ => bif decide (mR id = none) then .return_ else .athrow
  | .iaload => .iaload | .laload => .laload | .baload => .baload | .aaload => .aaload
  | .iastore => .iastore | .lastore => .lastore | .bastore => .bastore | .aastore => .aastore
  | .arraylength => .arraylength
  | .iand => .iand | .ior => .ior | .ixor => .ixor | .ishl => .ishl | .ishr => .ishr | .iushr => .iushr | .idiv => .idiv | .irem => .irem | .ineg => .ineg
  | .land => .land | .lxor => .lxor | .ldiv => .ldiv | .lshl => .lshl | .lshr => .lshr | .lushr => .lushr
  | .i2l => .i2l | .l2i => .l2i | .i2b => .i2b | .i2c => .i2c | .lcmp => .lcmp
  | .dup => .dup | .dup2 => .dup2 | .pop => .pop | .pop2 => .pop2
  | _ => .athrow
end
section
/-! one instruction of the abstract machine is one of the machine -/
def am_len : aI → Nat
  | .bipush _ => 2 | .ldc _ => 2 | .iload _ => 2 | .lload _ => 2 | .aload _ => 2 | .istore _ => 2 | .lstore _ => 2 | .astore _ => 2 | .newarray _ => 2
  | .sipush _ => 3 | .ldc_w _ => 3 | .ldc2_w _ => 3 | .ifCond .. => 3 | .if_icmp .. => 3 | .goto _ => 3 | .getfield _ => 3 | .putfield _ => 3 | .getstatic _ => 3 | .invokevirtual _ => 3 | .invokestatic _ => 3 | .invokespecial _ => 3 | .new _ => 3 | .anewarray _ => 3 | .iinc .. => 3
  | _ => 1
def am_lok (r : aI) (len : Nat) : Bool := match r with
  | .tableswitch .. => true
  | r => Nat.beq len (am_len r)
abbrev brP : (c : Prop) → Decidable c → Prop → Prop → Prop := fun c _ x y => (c → x) ∧ (¬ c → y)
abbrev ckP : (c : Prop) → Decidable c → Prop → Prop := fun c _ x => c ∧ x
theorem bin_ok {f : Int → Int → Int} {nxt : List aV → Prop} : ∀ {st : List aV}, am_bin (X := Prop) False f nxt st → ∃ a b st2, st = .inl b :: .inl a :: st2 ∧ nxt (.inl (f a b) :: st2)
  | .inl b :: .inl a :: st, h => ⟨a, b, st, rfl, h⟩
  | [], h => h.elim
  | [.inl _], h => h.elim
  | .inl _ :: .inr _ :: _, h => h.elim
  | .inr _ :: _, h => h.elim
theorem binL_ok {f : Int → Int → Int} {nxt : List aV → Prop} : ∀ {st : List aV}, am_binL (X := Prop) False f nxt st → ∃ a b st2, st = .inr (.inl b) :: .inr (.inl a) :: st2 ∧ nxt (.inr (.inl (f a b)) :: st2)
  | .inr (.inl b) :: .inr (.inl a) :: st, h => ⟨a, b, st, rfl, h⟩
  | [], h => h.elim
  | .inl _ :: _, h => h.elim
  | [.inr (.inl _)], h => h.elim
  | .inr (.inl _) :: .inl _ :: _, h => h.elim
  | .inr (.inl _) :: .inr (.inr _) :: _, h => h.elim
  | .inr (.inr _) :: _, h => h.elim
theorem binC_ok {f : Int → Int → Int} {nxt : List aV → Prop} : ∀ {st : List aV}, am_binC (X := Prop) False ckP f nxt st → ∃ a b st2, st = .inl b :: .inl a :: st2 ∧ am_rg (f a b) ∧ nxt (.inl (f a b) :: st2)
  | .inl b :: .inl a :: st, h => ⟨a, b, st, rfl, h.1, h.2⟩
  | [], h => h.elim
  | [.inl _], h => h.elim
  | .inl _ :: .inr _ :: _, h => h.elim
  | .inr _ :: _, h => h.elim
theorem binLC_ok {f : Int → Int → Int} {nxt : List aV → Prop} : ∀ {st : List aV}, am_binLC (X := Prop) False ckP f nxt st → ∃ a b st2, st = .inr (.inl b) :: .inr (.inl a) :: st2 ∧ am_rl (f a b) ∧ nxt (.inr (.inl (f a b)) :: st2)
  | .inr (.inl b) :: .inr (.inl a) :: st, h => ⟨a, b, st, rfl, h.1, h.2⟩
  | [], h => h.elim
  | .inl _ :: _, h => h.elim
  | [.inr (.inl _)], h => h.elim
  | .inr (.inl _) :: .inl _ :: _, h => h.elim
  | .inr (.inl _) :: .inr (.inr _) :: _, h => h.elim
  | .inr (.inr _) :: _, h => h.elim
theorem pop_ok : ∀ (n : Nat) (acc st as st2 : List aV), am_pop n acc st = some (as, st2) → ∃ x, as = x ++ acc ∧ st = x.reverse ++ st2 ∧ x.length = n
  | 0, acc, st, as, st2, h => by
    cases h
    exact ⟨[], rfl, rfl, rfl⟩
  | n + 1, acc, [], as, st2, h => by cases h
  | n + 1, acc, v :: st, as, st2, h => by
    obtain ⟨x, h1, h2, h3⟩ := pop_ok n (v :: acc) st as st2 h
    exact ⟨x ++ [v], by rw [h1]; simp, by rw [h2]; simp, by simp [h3]⟩
theorem bif_t {X : Type} {b : Bool} {x : Prop} (h : (bif b then x else False)) : b = true ∧ x := by
  cases b with
  | true => exact ⟨rfl, h⟩
  | false => exact h.elim
theorem bif_f {b : Bool} {x : Prop} (h : (bif b then False else x)) : b = false ∧ x := by
  cases b with
  | true => exact h.elim
  | false => exact ⟨rfl, h⟩
theorem nb08 {v : Nat} (h : (Nat.beq v 0 || Nat.beq v 8) = false) : v ≠ 0 ∧ v ≠ 8 := by
  constructor <;> (intro e; subst e; cases h)
/-- how a method leaves -/
def retOk (cc : ByteArray) (id pc : Nat) : Option aV → Prop
  | some (.inl x) => decode cc pc = .ok (.ireturn, 1) ∧ ∃ ty, mR id = some ty ∧ narrow ty (.int (Int32.ofInt x)) = .int (Int32.ofInt x)
  | some (.inr (.inl _)) => decode cc pc = .ok (.lreturn, 1) ∧ mR id = some .long
  | some (.inr (.inr _)) => False
  | none => decode cc pc = .ok (.return_, 1) ∧ mR id = none
def aLa (G : aG) : Launch := G.2.1
def adC (G : aG) : Nat → ClassId := G.2.2.2.2.2.2.2.2.2.2.2.2.1
def adI (G : aG) : Nat → Nat → Nat := G.2.2.2.2.2.2.2.2.2.2.2.2.2.1
def aCt (G : aG) : Nat → ClassId := G.2.2.2.2.2.2.2.2.2.2.2.2.2.2.1
def aMg (G : aG) (y : Nat) (as : List aV) (S : aS) (v : Option aV) (S2 : aS) : Prop := ok_h ftab S → (∀ x ∈ as, ok_v x) → aM (aLa G) (adC G) (adI G) (aCt G) (aAd G) y as S v S2
theorem nar_char {x : Int} (h : 0 ≤ x ∧ x < 65536) : narrow .char (.int (Int32.ofInt x)) = .int (Int32.ofInt x) := by
  have := pk_charN (q := x.toNat) (by omega)
  have e : nI x.toNat = Int32.ofInt x := by
    show Int32.ofNat x.toNat = _
    rw [show Int32.ofInt x = Int32.ofInt (x.toNat : Int) by rw [Int.toNat_of_nonneg h.1]]
    rfl
  rw [e] at this
  exact this.1
theorem nar_bool {x : Int} (h : am_tf x) : narrow .boolean (.int (Int32.ofInt x)) = .int (Int32.ofInt x) ∧ narrow .byte (.int (Int32.ofInt x)) = .int (Int32.ofInt x) := by
  rcases h with h | h <;> (subst h; exact ⟨rfl, rfl⟩)
theorem fits_ref {ty : FieldType} (h : refT ty = true) (a : Nat) : narrow ty (.ref a) = .ref a ∧ fits ty (.ref a) = true ∧ narrow ty .null = .null ∧ fits ty .null = true := by
  cases ty <;> first | (cases h; done) | exact ⟨rfl, rfl, rfl, rfl⟩
end
section
/-! calls and stores as the step has them -/
theorem nf_le (c : Nat) : nf c ≤ 99 := by
  rcases Nat.lt_or_ge c 13 with h | h
  · have : ∀ c, c < 13 → nf c ≤ 99 := by decide
    exact this c h
  · show am_nth 0 mNf c ≤ 99
    rw [am_nth_out _ _ _ (show mNf.length ≤ c from h)]
    omega
theorem cv_refs (ad : Nat → Nat) (q : Nat) : cv ad (.inr (.inr q)) = .null ∨ ∃ a, cv ad (.inr (.inr q)) = .ref a := by
  show (bif Nat.beq q 0 || (Nat.beq q 8 && Nat.beq (ad 0) 0) then Value.null else Value.ref (ad q)) = .null ∨ ∃ a, (bif Nat.beq q 0 || (Nat.beq q 8 && Nat.beq (ad 0) 0) then Value.null else Value.ref (ad q)) = .ref a
  cases (Nat.beq q 0 || (Nat.beq q 8 && Nat.beq (ad 0) 0)) with
  | true => exact Or.inl rfl
  | false => exact Or.inr ⟨_, rfl⟩
theorem s_putf {G : aG} {cc : ByteArray} {own pc r n ix : Nat} {ls : aL} {st : List aV} {S : aS} {v : aV} {nx : aS → Prop} (hF : FX G cc own) (hd : decode cc pc = .ok (.putfield ix, 3)) (hO : am_isO S.1 r n = true) (ht : (own, ix, n / 100, n % 100) ∈ tFl)
    (hfin : (cT (n / 100) (n % 100)).2.2.2 = false ∨ ((aMe G).name = "<init>" ∧ own = n / 100)) (h : am_putf (X := Prop) False ckP (am_nth am_o0 S.1 r) (ftab (n / 100) (n % 100)) S r (n % 100) v nx) (k : ∀ S2, nx S2 → WA G (pc + 3) ls st S2) : WA G pc ls (v :: .inr (.inr r) :: st) S := by
  obtain ⟨hkd, hn⟩ := isO_ok hO
  obtain ⟨h13, hnf⟩ := tFl_lt _ ht
  obtain ⟨h9, hc, hlen⟩ := kd_w hkd (by omega) (by
    have : ∀ c, c < 13 → am_xk (10 + c) = false := by decide
    exact this _ h13)
  have hty := cls_ty _ h13 _ hnf
  have hty : tyIs (ftab (n / 100) (n % 100)) (cTy (n / 100) (n % 100)) = true := hty
  have num : ∀ (x : Int), (v = .inl x ∨ v = .inr (.inl x)) → (ok_v v → ok_t (ftab (n / 100) (n % 100)) x) → (ok_v v → narrow (cTy (n / 100) (n % 100)) (cv (aAd G) v) = cv (aAd G) v ∧ fits (cTy (n / 100) (n % 100)) (cv (aAd G) v) = true) → am_fv (aAd G) (ftab (n / 100) (n % 100)) (am_nth am_o0 S.1 r).2.2 (am_up S.2 r (n % 100) x r) (n % 100) = cv (aAd G) v → nx (S.1, am_up S.2 r (n % 100) x) → WA G pc ls (v :: .inr (.inr r) :: st) S := by
    intro x hvx hok hnf2 hfv hnx
    exact s_put (S2 := (S.1, am_up S.2 r (n % 100) x)) hF hd hO ht hfin hnf2 rfl rfl (fun q hq => ⟨rfl, am_up_ne hq⟩) ⟨rfl, rfl⟩ hfv (fun j hj => fv_up _ _ _ _ _ _ _ _ hj) (fun ho hov => ok_up ho (by rw [am_ty_o hkd]; exact hok hov)) (k _ hnx)
  unfold am_putf at h
  split at h
  · rename_i q e1
    rw [e1] at hty
    obtain ⟨hlt, h⟩ := bif_t (X := Nat) h
    have hlt : n % 100 < (am_nth am_o0 S.1 r).2.2.length := Nat.le_of_ble_eq_true hlt
    refine s_put (S2 := (am_put ((am_nth am_o0 S.1 r).1, (am_nth am_o0 S.1 r).2.1, am_put q (am_nth am_o0 S.1 r).2.2 (n % 100)) S.1 r, S.2)) hF hd hO ht hfin ?_ (am_put_len _ _ _) (am_sz_put _ _ _ rfl) (fun q2 hq2 => ⟨by rw [am_nth_put _ _ _ _ _ hlen, if_neg hq2], rfl⟩) (by rw [am_nth_put _ _ _ _ _ hlen, if_pos rfl]; exact ⟨rfl, rfl⟩) ?_ ?_ (fun ho _ => ok_put ho hlen rfl) (k _ h)
    · intro _
      have := fits_ref hty
      rcases cv_refs (aAd G) q with e | ⟨a, e⟩
      · rw [e]; exact ⟨(this 0).2.2.1, (this 0).2.2.2⟩
      · rw [e]; exact ⟨(this a).1, (this a).2.1⟩
    · rw [e1]
      show cv (aAd G) (.inr (.inr (am_nth 0 (am_nth am_o0 (am_put ((am_nth am_o0 S.1 r).1, (am_nth am_o0 S.1 r).2.1, am_put q (am_nth am_o0 S.1 r).2.2 (n % 100)) S.1 r) r).2.2 (n % 100)))) = _
      rw [am_nth_put _ _ _ _ _ hlen, if_pos rfl]
      show cv (aAd G) (.inr (.inr (am_nth 0 (am_put q (am_nth am_o0 S.1 r).2.2 (n % 100)) (n % 100)))) = _
      rw [am_nth_put _ _ _ _ _ hlt, if_pos rfl]
    · intro j hj
      rw [am_nth_put _ _ _ _ _ hlen, if_pos rfl]
      have e0 : am_nth 0 (am_put q (am_nth am_o0 S.1 r).2.2 (n % 100)) j = am_nth 0 (am_nth am_o0 S.1 r).2.2 j := by rw [am_nth_put _ _ _ _ _ hlt, if_neg hj]
      unfold am_fv
      simp only [e0]
  · rename_i x e1
    rw [e1] at hty
    have e2 : cTy (n / 100) (n % 100) = .int := of_decide_eq_true hty
    exact num x (Or.inl rfl) (fun h => by rw [e1]; exact h) (fun _ => by rw [e2]; exact ⟨rfl, rfl⟩) (by rw [e1]; show Value.int (Int32.ofInt (am_up S.2 r (n % 100) x r (n % 100))) = _; rw [am_up_row, if_pos rfl]; rfl) h
  · rename_i x e1
    rw [e1] at hty
    have e2 : cTy (n / 100) (n % 100) = .long := of_decide_eq_true hty
    exact num x (Or.inr rfl) (fun h => by rw [e1]; exact h) (fun _ => by rw [e2]; exact ⟨rfl, rfl⟩) (by rw [e1]; show Value.long (Int64.ofInt (am_up S.2 r (n % 100) x r (n % 100))) = _; rw [am_up_row, if_pos rfl]; rfl) h
  · rename_i x e1
    rw [e1] at hty
    have e2 : cTy (n / 100) (n % 100) = .boolean := of_decide_eq_true hty
    exact num x (Or.inl rfl) (fun _ => by rw [e1]; exact h.1) (fun _ => by rw [e2]; rcases h.1 with q | q <;> (subst q; exact ⟨rfl, rfl⟩)) (by rw [e1]; show Value.int (Int32.ofInt (am_up S.2 r (n % 100) x r (n % 100))) = _; rw [am_up_row, if_pos rfl]; rfl) h.2
  · exact h.elim
section S40
variable {G : aG} {cc : ByteArray} {own pc i x : Nat} {ls : aL} {st : List aV} {S : aS} {lim : Nat × Nat} {call : Nat → List aV → aS → (Option aV → aH → Prop) → Prop} {sp : Nat → List aV → aS → (aS → Prop) → Prop} {ret : Option aV → aS → Prop} {cut : Nat → aL → List aV → aS → Prop} {nxt : aL → List aV → aS → Prop} {jmp : Nat → aL → List aV → aS → Prop}
theorem s_cV {y : Nat} (hF : FX G cc own) (hd : decode cc pc = .ok (.invokevirtual x, 3)) (ht : (own, x, y) ∈ tMV) (h : am_1 (X := Prop) ftab mNa lim False brP ckP call sp ret cut i (.invokevirtual y) ls st S nxt jmp) (hkd : (mNa (2000 + y) = 10 + mCs y ∧ mCs y < 13) ∨ (mNa (2000 + y) = 30 ∧ mCs y = 14))
    (hrm : mFr y + 1 ≤ (aR G).frames ∧ 8 + (mLo y + 11) + mWd y ≤ (aR G).locals) (kcall : ∀ y as S cont, call y as S cont → ∃ v h, aMg G y as S v (S.1, h) ∧ cont v h) (k : ∀ ls st S, nxt ls st S → WA G (pc + 3) ls st S) : WA G pc ls st S := by
  simp only [am_1] at h
  split at h
  · rename_i r as st2 hp
    obtain ⟨xs, e1, e2, e3⟩ := pop_ok _ _ _ _ _ hp
    rw [List.append_nil] at e1
    subst e1
    obtain ⟨h0, h⟩ := bif_t (X := Nat) h
    obtain ⟨h0, h1⟩ := Bool.and_eq_true_iff.mp h0
    obtain ⟨v, hh, hM, hc⟩ := kcall _ _ _ _ h
    obtain ⟨p, l, e, R, s, m, args, below, meth, c, Q, nL, dC, dI, ct, ad, n0, z0, x0⟩ := G
    rw [e2, List.reverse_cons, List.append_assoc]
    obtain ⟨-, -, -, -, hce, hsl⟩ := tMV_id _ ht
    have hce : mCe y = 0 := hce
    have hsl : mSl y = 0 := hsl
    intro H locs lsC hR
    have hl := hR.2.2.2.1
    have hz := hR.2.2.2.2.1.1
    exact s_callV hF hd ht hM (by rw [← e3]; rfl) (Nat.eq_of_beq_eq_true h0) hkd hrm (Nat.le_of_ble_eq_true h1) ⟨by rw [hce]; rfl, by rw [hsl]; rfl, hl.2, hz.2⟩ (k _ _ _ hc) H locs lsC hR
  · exact h.elim
theorem s_cS {y : Nat} (hF : FX G cc own) (hd : decode cc pc = .ok (.invokestatic x, 3)) (ht : (own, x, y) ∈ tMS ∨ (own, x, y) ∈ tMT) (h : am_1 (X := Prop) ftab mNa lim False brP ckP call sp ret cut i (.invokestatic y) ls st S nxt jmp)
    (hrm : mFr y + 1 ≤ (aR G).frames ∧ 8 + (mLo y + 11) + mWd y ≤ (aR G).locals) (kcall : ∀ y as S cont, call y as S cont → ∃ v h, aMg G y as S v (S.1, h) ∧ cont v h) (k : ∀ ls st S, nxt ls st S → WA G (pc + 3) ls st S) : WA G pc ls st S := by
  simp only [am_1] at h
  split at h
  · rename_i as st2 hp
    obtain ⟨xs, e1, e2, e3⟩ := pop_ok _ _ _ _ _ hp
    rw [List.append_nil] at e1
    subst e1
    obtain ⟨h1, h⟩ := bif_t (X := Nat) h
    obtain ⟨v, hh, hM, hc⟩ := kcall _ _ _ _ h
    obtain ⟨p, l, e, R, s, m, args, below, meth, c, Q, nL, dC, dI, ct, ad, n0, z0, x0⟩ := G
    rw [e2]
    have hcs : mCe y = 0 ∧ mSl y = 0 := by
      rcases ht with ht | ht
      · obtain ⟨-, -, -, q1, q2⟩ := tMS_id _ ht
        exact ⟨q1, q2⟩
      · obtain ⟨-, -, -, q1, q2⟩ := tMT_id _ ht
        exact ⟨q1, q2⟩
    intro H locs lsC hR
    have hl := hR.2.2.2.1
    have hz := hR.2.2.2.2.1.1
    exact s_callS hF hd ht hM e3 hrm (Nat.le_of_ble_eq_true h1) ⟨by rw [hcs.1]; rfl, by rw [hcs.2]; rfl, hl.2, hz.2⟩ (k _ _ _ hc) H locs lsC hR
  · exact h.elim
theorem s_cI {y : Nat} (hF : FX G cc own) (hd : decode cc pc = .ok (.invokespecial x, 3)) (ht : (own, x, y) ∈ tMI ∨ (own, x, y) ∈ tMJ) (h : am_1 (X := Prop) ftab mNa lim False brP ckP call sp ret cut i (.invokespecial y) ls st S nxt jmp) (hk : 10 ≤ mNa (2000 + y) ∧ mNa (2000 + y) < 23)
    (hrm : mFr y + 1 ≤ (aR G).frames ∧ 8 + (mLo y + 11) + mWd y ≤ (aR G).locals) (hlim : lim.1 ≤ an0 G + (aR G).cells ∧ lim.2 ≤ az0 G + (aR G).slots) (ksp : ∀ y as S cont, sp y as S cont → ∃ S2 : aS, aMg G y as S none S2 ∧ S2.1.length = S.1.length + mCe y ∧ am_sz S2.1 = am_sz S.1 + mSl y ∧ S2.1.length ≤ lim.1 ∧ am_sz S2.1 ≤ lim.2 ∧ cont S2) (k : ∀ ls st S, nxt ls st S → WA G (pc + 3) ls st S) : WA G pc ls st S := by
  simp only [am_1] at h
  split at h
  · rename_i r as st2 hp
    obtain ⟨xs, e1, e2, e3⟩ := pop_ok _ _ _ _ _ hp
    rw [List.append_nil] at e1
    subst e1
    obtain ⟨h0, h⟩ := bif_t (X := Nat) h
    obtain ⟨h0, h1⟩ := Bool.and_eq_true_iff.mp h0
    obtain ⟨S2, hM, g1, g2, g3, g4, hc⟩ := ksp _ _ _ _ h
    have h0 := Nat.eq_of_beq_eq_true h0
    obtain ⟨r9, -, -⟩ := kd_w (sh := S.1) (r := r) (K := 10 + (mNa (2000 + y) - 10)) (by omega) (by omega) (by
      have : ∀ c, c < 13 → am_xk (10 + c) = false := by decide
      exact this _ (by omega))
    obtain ⟨p, l, e, R, s, m, args, below, meth, c, Q, nL, dC, dI, ct, ad, n0, z0, x0⟩ := G
    rw [e2, List.reverse_cons, List.append_assoc]
    exact s_callI hF hd ht hM (by rw [← e3]; rfl) (by omega) (by omega) hrm (Nat.le_of_ble_eq_true h1) ⟨g1, g2, Nat.le_trans g3 hlim.1, Nat.le_trans g4 hlim.2⟩ (k _ _ _ hc)
  · exact h.elim
theorem s_cX {id : Nat} (hF : FX G cc own) (hd : decode cc pc = .ok (.invokestatic x, 3)) (h : am_1 (X := Prop) ftab mNa lim False brP ckP call sp ret cut i (bif am_in2 tAc own x && Nat.ble 80 (mWd id) then .invokeinterface 1 0 else bif am_in2 tMx own x then .invokeinterface 2 0 else bif am_in2 tMn own x then .invokeinterface 3 0 else bif am_in2 tMa own x then .invokeinterface 4 0 else .athrow) ls st S nxt jmp)
    (hrm : 1 ≤ (aR G).frames ∧ 30 ≤ (aR G).locals) (hw : mWd id ≤ (aR G).locals) (k : ∀ ls st S, nxt ls st S → WA G (pc + 3) ls st S) : WA G pc ls st S := by
  cases b1 : (am_in2 tAc own x && Nat.ble 80 (mWd id)) with
  | true =>
    rw [b1] at h
    simp only [cond_true, am_1] at h
    obtain ⟨b1, b2⟩ := Bool.and_eq_true_iff.mp b1
    have b2 := Nat.le_of_ble_eq_true b2
    split at h
    · rename_i n dp d spp s0 st2
      obtain ⟨h0, h⟩ := bif_t (X := Nat) h
      simp only [Bool.and_eq_true] at h0
      obtain ⟨⟨⟨q1, q2⟩, q3⟩, q4⟩ := h0
      have q1 : s0 ≠ d := fun e => by subst e; simp at q1
      exact s_ac hF hd (am_in2_ok b1) q1 (Nat.eq_of_beq_eq_true q3) (Nat.eq_of_beq_eq_true q4) h.1 (by rw [am_cat_ok]; exact Nat.le_of_ble_eq_true q2) ⟨hrm.1, by omega⟩ (k _ _ _ h.2)
    · exact h.elim
  | false =>
    rw [b1] at h
    simp only [cond_false] at h
    cases b2 : am_in2 tMx own x with
    | true =>
      rw [b2] at h
      simp only [cond_true, am_1] at h
      obtain ⟨h0, h⟩ := bif_t (X := Nat) h
      obtain ⟨a, b, st2, rfl, h⟩ := bin_ok h
      exact s_max hF hd (am_in2_ok b2) (by rw [am_cat_ok]; have q := Nat.le_of_ble_eq_true h0; have q : 1 + (1 + am_cat st2) ≤ 10 := q; omega) hrm (k _ _ _ h)
    | false =>
      rw [b2] at h
      simp only [cond_false] at h
      cases b3 : am_in2 tMn own x with
      | true =>
        rw [b3] at h
        simp only [cond_true, am_1] at h
        obtain ⟨h0, h⟩ := bif_t (X := Nat) h
        obtain ⟨a, b, st2, rfl, h⟩ := bin_ok h
        exact s_min hF hd (am_in2_ok b3) (by rw [am_cat_ok]; have q := Nat.le_of_ble_eq_true h0; have q : 1 + (1 + am_cat st2) ≤ 10 := q; omega) hrm (k _ _ _ h)
      | false =>
        rw [b3] at h
        simp only [cond_false] at h
        cases b4 : am_in2 tMa own x with
        | true =>
          rw [b4] at h
          simp only [cond_true, am_1] at h
          split at h
          · rename_i a st2
            obtain ⟨h0, h⟩ := bif_t (X := Nat) h
            exact s_abs hF hd (am_in2_ok b4) (by rw [am_cat_ok]; exact Nat.le_of_ble_eq_true h0) hrm h.1 (k _ _ _ h.2)
          · exact h.elim
        | false => rw [b4] at h; exact (show False from h).elim
end S40
end
section
/-! one step: every instruction -/
set_option maxRecDepth 100000 in
set_option maxHeartbeats 8000000 in
theorem am_1_ok {G : aG} {cc : ByteArray} {own id pc i len : Nat} {wr : Bool} {PC : List Nat} {r : aI} {ls : aL} {st : List aV} {S : aS} {lim : Nat × Nat}
    {call : Nat → List aV → aS → (Option aV → aH → Prop) → Prop} {sp : Nat → List aV → aS → (aS → Prop) → Prop} {ret : Option aV → aS → Prop} {cut : Nat → aL → List aV → aS → Prop} {nxt : aL → List aV → aS → Prop} {jmp : Nat → aL → List aV → aS → Prop}
    (hF : FX G cc own) (hd : decode cc pc = .ok (r, len)) (hlen : am_lok r len = true) (hfr : mFr id ≤ (aR G).frames ∧ mWd id ≤ (aR G).locals) (hnm : (aMe G).name = (mY id).name)
    (hlim : lim.1 ≤ an0 G + (aR G).cells ∧ lim.2 ≤ az0 G + (aR G).slots)
    (h : am_1 (X := Prop) ftab mNa lim False brP ckP call sp ret cut i (tomi own id (anL G) wr PC pc r) ls st S nxt jmp)
    (knxt : am_ends r = false → ∀ ls st S, nxt ls st S → WA G (pc + len) ls st S)
    (kjmp : ∀ t ls st S, t < PC.length → jmp t ls st S → WA G (am_nth 0 PC t) ls st S)
    (kret : ∀ v ls S, ret v S → retOk cc id pc v → WA G pc ls v.toList S)
    (kcall : ∀ y as S cont, call y as S cont → ∃ v h, aMg G y as S v (S.1, h) ∧ cont v h)
    (ksp : ∀ y as S cont, sp y as S cont → ∃ S2 : aS, aMg G y as S none S2 ∧ S2.1.length = S.1.length + mCe y ∧ am_sz S2.1 = am_sz S.1 + mSl y ∧ S2.1.length ≤ lim.1 ∧ am_sz S2.1 ≤ lim.2 ∧ cont S2) : WA G pc ls st S := by
  cases r
  case iand =>
    have e := Nat.eq_of_beq_eq_true hlen
    subst e
    simp only [tomi, am_1] at h
    obtain ⟨a, b, st2, rfl, h⟩ := bin_ok h
    exact s_iand hF hd (knxt rfl _ _ _ h)
  case ior =>
    have e := Nat.eq_of_beq_eq_true hlen
    subst e
    simp only [tomi, am_1] at h
    obtain ⟨a, b, st2, rfl, h⟩ := bin_ok h
    exact s_ior hF hd (knxt rfl _ _ _ h)
  case ixor =>
    have e := Nat.eq_of_beq_eq_true hlen
    subst e
    simp only [tomi, am_1] at h
    obtain ⟨a, b, st2, rfl, h⟩ := bin_ok h
    exact s_ixor hF hd (knxt rfl _ _ _ h)
  case ishl =>
    have e := Nat.eq_of_beq_eq_true hlen
    subst e
    simp only [tomi, am_1] at h
    obtain ⟨a, b, st2, rfl, h⟩ := bin_ok h
    exact s_ishl hF hd (knxt rfl _ _ _ h)
  case ishr =>
    have e := Nat.eq_of_beq_eq_true hlen
    subst e
    simp only [tomi, am_1] at h
    obtain ⟨a, b, st2, rfl, h⟩ := bin_ok h
    exact s_ishr hF hd (knxt rfl _ _ _ h)
  case iushr =>
    have e := Nat.eq_of_beq_eq_true hlen
    subst e
    simp only [tomi, am_1] at h
    obtain ⟨a, b, st2, rfl, h⟩ := bin_ok h
    exact s_iushr hF hd (knxt rfl _ _ _ h)
  case land =>
    have e := Nat.eq_of_beq_eq_true hlen
    subst e
    simp only [tomi, am_1] at h
    obtain ⟨a, b, st2, rfl, h⟩ := binL_ok h
    exact s_land hF hd (knxt rfl _ _ _ h)
  case lxor =>
    have e := Nat.eq_of_beq_eq_true hlen
    subst e
    simp only [tomi, am_1] at h
    obtain ⟨a, b, st2, rfl, h⟩ := binL_ok h
    exact s_lxor hF hd (knxt rfl _ _ _ h)
  case iadd =>
    have e := Nat.eq_of_beq_eq_true hlen
    subst e
    cases wr with
    | true =>
      simp only [tomi, cond_true, am_1] at h
      obtain ⟨a, b, st2, rfl, h⟩ := bin_ok h
      exact s_iadd hF hd (o32 _) (w32_rg _) (knxt rfl _ _ _ h)
    | false =>
      simp only [tomi, cond_false, am_1] at h
      obtain ⟨a, b, st2, rfl, hg, h⟩ := binC_ok h
      exact s_iadd hF hd rfl hg (knxt rfl _ _ _ h)
  case isub =>
    have e := Nat.eq_of_beq_eq_true hlen
    subst e
    cases wr with
    | true =>
      simp only [tomi, cond_true, am_1] at h
      obtain ⟨a, b, st2, rfl, h⟩ := bin_ok h
      exact s_isub hF hd (o32 _) (w32_rg _) (knxt rfl _ _ _ h)
    | false =>
      simp only [tomi, cond_false, am_1] at h
      obtain ⟨a, b, st2, rfl, hg, h⟩ := binC_ok h
      exact s_isub hF hd rfl hg (knxt rfl _ _ _ h)
  case imul =>
    have e := Nat.eq_of_beq_eq_true hlen
    subst e
    cases wr with
    | true =>
      simp only [tomi, cond_true, am_1] at h
      obtain ⟨a, b, st2, rfl, h⟩ := bin_ok h
      exact s_imul hF hd (o32 _) (w32_rg _) (knxt rfl _ _ _ h)
    | false =>
      simp only [tomi, cond_false, am_1] at h
      obtain ⟨a, b, st2, rfl, hg, h⟩ := binC_ok h
      exact s_imul hF hd rfl hg (knxt rfl _ _ _ h)
  case ladd =>
    have e := Nat.eq_of_beq_eq_true hlen
    subst e
    cases wr with
    | true =>
      simp only [tomi, cond_true, am_1] at h
      obtain ⟨a, b, st2, rfl, h⟩ := binL_ok h
      exact s_ladd hF hd (o64 _) (w64_rl _) (knxt rfl _ _ _ h)
    | false =>
      simp only [tomi, cond_false, am_1] at h
      obtain ⟨a, b, st2, rfl, hg, h⟩ := binLC_ok h
      exact s_ladd hF hd rfl hg (knxt rfl _ _ _ h)
  case lsub =>
    have e := Nat.eq_of_beq_eq_true hlen
    subst e
    cases wr with
    | true =>
      simp only [tomi, cond_true, am_1] at h
      obtain ⟨a, b, st2, rfl, h⟩ := binL_ok h
      exact s_lsub hF hd (o64 _) (w64_rl _) (knxt rfl _ _ _ h)
    | false =>
      simp only [tomi, cond_false, am_1] at h
      obtain ⟨a, b, st2, rfl, hg, h⟩ := binLC_ok h
      exact s_lsub hF hd rfl hg (knxt rfl _ _ _ h)
  case lmul =>
    have e := Nat.eq_of_beq_eq_true hlen
    subst e
    cases wr with
    | true =>
      simp only [tomi, cond_true, am_1] at h
      obtain ⟨a, b, st2, rfl, h⟩ := binL_ok h
      exact s_lmul hF hd (o64 _) (w64_rl _) (knxt rfl _ _ _ h)
    | false =>
      simp only [tomi, cond_false, am_1] at h
      obtain ⟨a, b, st2, rfl, hg, h⟩ := binLC_ok h
      exact s_lmul hF hd rfl hg (knxt rfl _ _ _ h)
  case idiv =>
    have e := Nat.eq_of_beq_eq_true hlen
    subst e
    match st, h with
    | .inl b :: .inl a :: st, h => exact s_idiv hF hd h.1 (knxt rfl _ _ _ h.2)
    | [], h => exact (show False from h).elim
    | [.inl _], h => exact (show False from h).elim
    | .inl _ :: .inr _ :: _, h => exact (show False from h).elim
    | .inr _ :: _, h => exact (show False from h).elim
  case irem =>
    have e := Nat.eq_of_beq_eq_true hlen
    subst e
    match st, h with
    | .inl b :: .inl a :: st, h => exact s_irem hF hd h.1 (knxt rfl _ _ _ h.2)
    | [], h => exact (show False from h).elim
    | [.inl _], h => exact (show False from h).elim
    | .inl _ :: .inr _ :: _, h => exact (show False from h).elim
    | .inr _ :: _, h => exact (show False from h).elim
  case ldiv =>
    have e := Nat.eq_of_beq_eq_true hlen
    subst e
    match st, h with
    | .inr (.inl b) :: .inr (.inl a) :: st, h => exact s_ldiv hF hd h.1 (knxt rfl _ _ _ h.2)
    | [], h => exact (show False from h).elim
    | .inl _ :: _, h => exact (show False from h).elim
    | [.inr (.inl _)], h => exact (show False from h).elim
    | .inr (.inl _) :: .inl _ :: _, h => exact (show False from h).elim
    | .inr (.inl _) :: .inr (.inr _) :: _, h => exact (show False from h).elim
    | .inr (.inr _) :: _, h => exact (show False from h).elim
  case lcmp =>
    have e := Nat.eq_of_beq_eq_true hlen
    subst e
    match st, h with
    | .inr (.inl b) :: .inr (.inl a) :: st, h => exact s_lcmp hF hd (knxt rfl _ _ _ h)
    | [], h => exact (show False from h).elim
    | .inl _ :: _, h => exact (show False from h).elim
    | [.inr (.inl _)], h => exact (show False from h).elim
    | .inr (.inl _) :: .inl _ :: _, h => exact (show False from h).elim
    | .inr (.inl _) :: .inr (.inr _) :: _, h => exact (show False from h).elim
    | .inr (.inr _) :: _, h => exact (show False from h).elim
  case lshl =>
    have e := Nat.eq_of_beq_eq_true hlen
    subst e
    match st, h with
    | .inl b :: .inr (.inl a) :: st, h => exact s_lshl hF hd (knxt rfl _ _ _ h)
    | [], h => exact (show False from h).elim
    | .inr _ :: _, h => exact (show False from h).elim
    | [.inl _], h => exact (show False from h).elim
    | .inl _ :: .inl _ :: _, h => exact (show False from h).elim
    | .inl _ :: .inr (.inr _) :: _, h => exact (show False from h).elim
  case lshr =>
    have e := Nat.eq_of_beq_eq_true hlen
    subst e
    match st, h with
    | .inl b :: .inr (.inl a) :: st, h => exact s_lshr hF hd (knxt rfl _ _ _ h)
    | [], h => exact (show False from h).elim
    | .inr _ :: _, h => exact (show False from h).elim
    | [.inl _], h => exact (show False from h).elim
    | .inl _ :: .inl _ :: _, h => exact (show False from h).elim
    | .inl _ :: .inr (.inr _) :: _, h => exact (show False from h).elim
  case lushr =>
    have e := Nat.eq_of_beq_eq_true hlen
    subst e
    match st, h with
    | .inl b :: .inr (.inl a) :: st, h => exact s_lushr hF hd (knxt rfl _ _ _ h)
    | [], h => exact (show False from h).elim
    | .inr _ :: _, h => exact (show False from h).elim
    | [.inl _], h => exact (show False from h).elim
    | .inl _ :: .inl _ :: _, h => exact (show False from h).elim
    | .inl _ :: .inr (.inr _) :: _, h => exact (show False from h).elim
  case ineg =>
    have e := Nat.eq_of_beq_eq_true hlen
    subst e
    match st, h with
    | .inl a :: st, h => exact s_ineg hF hd h.1 (knxt rfl _ _ _ h.2)
    | [], h => exact (show False from h).elim
    | .inr _ :: _, h => exact (show False from h).elim
  case i2l =>
    have e := Nat.eq_of_beq_eq_true hlen
    subst e
    match st, h with
    | .inl a :: st, h => exact s_i2l hF hd (knxt rfl _ _ _ h)
    | [], h => exact (show False from h).elim
    | .inr _ :: _, h => exact (show False from h).elim
  case i2b =>
    have e := Nat.eq_of_beq_eq_true hlen
    subst e
    match st, h with
    | .inl a :: st, h => exact s_i2b hF hd (knxt rfl _ _ _ h)
    | [], h => exact (show False from h).elim
    | .inr _ :: _, h => exact (show False from h).elim
  case i2c =>
    have e := Nat.eq_of_beq_eq_true hlen
    subst e
    match st, h with
    | .inl a :: st, h => exact s_i2c hF hd (knxt rfl _ _ _ h)
    | [], h => exact (show False from h).elim
    | .inr _ :: _, h => exact (show False from h).elim
  case l2i =>
    have e := Nat.eq_of_beq_eq_true hlen
    subst e
    match st, h with
    | .inr (.inl a) :: st, h => exact s_l2i hF hd (knxt rfl _ _ _ h)
    | [], h => exact (show False from h).elim
    | .inl _ :: _, h => exact (show False from h).elim
    | .inr (.inr _) :: _, h => exact (show False from h).elim
  case pop2 =>
    have e := Nat.eq_of_beq_eq_true hlen
    subst e
    match st, h with
    | .inr (.inl a) :: st, h => exact s_pop2 hF hd (knxt rfl _ _ _ h)
    | [], h => exact (show False from h).elim
    | .inl _ :: _, h => exact (show False from h).elim
    | .inr (.inr _) :: _, h => exact (show False from h).elim
  case dup =>
    have e := Nat.eq_of_beq_eq_true hlen
    subst e
    match st, h with
    | v :: st, h =>
      obtain ⟨h2, h⟩ := bif_f h
      exact s_dup hF hd h2 (knxt rfl _ _ _ h)
    | [], h => exact (show False from h).elim
  case pop =>
    have e := Nat.eq_of_beq_eq_true hlen
    subst e
    match st, h with
    | v :: st, h =>
      obtain ⟨h2, h⟩ := bif_f h
      exact s_pop hF hd h2 (knxt rfl _ _ _ h)
    | [], h => exact (show False from h).elim
  case dup2 =>
    have e := Nat.eq_of_beq_eq_true hlen
    subst e
    match st, h with
    | .inr (.inl v) :: st, h => exact s_dup22 hF hd (knxt rfl _ _ _ h)
    | .inl v :: w :: st, h =>
      obtain ⟨h2, h⟩ := bif_f h
      obtain ⟨h2, h3⟩ := Bool.or_eq_false_iff.mp h2
      exact s_dup21 hF hd h2 h3 (knxt rfl _ _ _ h)
    | .inr (.inr v) :: w :: st, h =>
      obtain ⟨h2, h⟩ := bif_f h
      obtain ⟨h2, h3⟩ := Bool.or_eq_false_iff.mp h2
      exact s_dup21 hF hd h2 h3 (knxt rfl _ _ _ h)
    | [], h => exact (show False from h).elim
    | [.inl _], h => exact (show False from h).elim
    | [.inr (.inr _)], h => exact (show False from h).elim
  case iconst n =>
    have e := Nat.eq_of_beq_eq_true hlen
    subst e
    simp only [tomi] at h
    cases hb : decide (-1 ≤ n ∧ n ≤ 5) with
    | true =>
      rw [hb] at h
      have hb := of_decide_eq_true hb
      exact s_iconst hF hd ⟨by omega, by omega⟩ (knxt rfl _ _ _ h)
    | false => rw [hb] at h; exact (show False from h).elim
  case bipush n =>
    have e := Nat.eq_of_beq_eq_true hlen
    subst e
    simp only [tomi] at h
    cases hb : decide (-128 ≤ n ∧ n < 128) with
    | true =>
      rw [hb] at h
      exact s_bipush hF hd (of_decide_eq_true hb) (knxt rfl _ _ _ h)
    | false => rw [hb] at h; exact (show False from h).elim
  case sipush n =>
    have e := Nat.eq_of_beq_eq_true hlen
    subst e
    simp only [tomi] at h
    cases hb : decide (-32768 ≤ n ∧ n < 32768) with
    | true =>
      rw [hb] at h
      exact s_sipush hF hd (of_decide_eq_true hb) (knxt rfl _ _ _ h)
    | false => rw [hb] at h; exact (show False from h).elim
  case ldc x =>
    have e := Nat.eq_of_beq_eq_true hlen
    subst e
    simp only [tomi] at h
    cases hq : am_as tCn own x with
    | some v =>
      rw [hq] at h
      simp only at h
      cases hb : decide (-2147483648 ≤ v ∧ v < 2147483648) with
      | true =>
        rw [hb] at h
        have hb := of_decide_eq_true hb
        exact s_ldc hF hd (am_as_ok hq) hb (knxt rfl _ _ _ h)
      | false => rw [hb] at h; exact (show False from h).elim
    | none =>
      rw [hq] at h
      simp only at h
      cases hq2 : am_as tTx own x with
      | some q => rw [hq2] at h; exact s_ldcS hF hd (am_as_ok hq2) (knxt rfl _ _ _ h)
      | none => rw [hq2] at h; exact (show False from h).elim
  case ldc_w x =>
    have e := Nat.eq_of_beq_eq_true hlen
    subst e
    simp only [tomi] at h
    cases hq : am_as tCn own x with
    | some v =>
      rw [hq] at h
      simp only at h
      cases hb : decide (-2147483648 ≤ v ∧ v < 2147483648) with
      | true =>
        rw [hb] at h
        have hb := of_decide_eq_true hb
        exact s_ldcw hF hd (am_as_ok hq) hb (knxt rfl _ _ _ h)
      | false => rw [hb] at h; exact (show False from h).elim
    | none => rw [hq] at h; exact (show False from h).elim
  case ldc2_w x =>
    have e := Nat.eq_of_beq_eq_true hlen
    subst e
    simp only [tomi] at h
    cases hq : am_as tCl own x with
    | some v =>
      rw [hq] at h
      simp only at h
      cases hb : decide (-9223372036854775808 ≤ v ∧ v < 9223372036854775808) with
      | true =>
        rw [hb] at h
        have hb := of_decide_eq_true hb
        exact s_ldc2 hF hd (am_as_ok hq) hb (knxt rfl _ _ _ h)
      | false => rw [hb] at h; exact (show False from h).elim
    | none => rw [hq] at h; exact (show False from h).elim
  case lconst n =>
    have e := Nat.eq_of_beq_eq_true hlen
    subst e
    exact s_lconst hF hd (knxt rfl _ _ _ h)
  case getstatic x =>
    have e := Nat.eq_of_beq_eq_true hlen
    subst e
    simp only [tomi] at h
    cases hb : (Nat.beq own 14 && Nat.beq x 38) with
    | true =>
      rw [hb] at h
      obtain ⟨b1, b2⟩ := Bool.and_eq_true_iff.mp hb
      have e1 := Nat.eq_of_beq_eq_true b1
      have e2 := Nat.eq_of_beq_eq_true b2
      subst e1; subst e2
      exact s_gsi hF hd (knxt rfl _ _ _ h)
    | false =>
      rw [hb] at h
      simp only [cond_false] at h
      cases hq : am_as tSr own x with
      | some q => rw [hq] at h; exact s_gst hF hd (am_as_ok hq) (knxt rfl _ _ _ h)
      | none => rw [hq] at h; exact (show False from h).elim
  case iload k =>
    have e := Nat.eq_of_beq_eq_true hlen
    subst e
    simp only [tomi, am_1] at h
    split at h
    · rename_i v hf
      exact s_iload hF hd hf (knxt rfl _ _ _ h)
    · exact (show False from h).elim
  case iload_n k =>
    have e := Nat.eq_of_beq_eq_true hlen
    subst e
    simp only [tomi, am_1] at h
    split at h
    · rename_i v hf
      exact s_iload_n hF hd rfl hf (knxt rfl _ _ _ h)
    · exact (show False from h).elim
  case lload k =>
    have e := Nat.eq_of_beq_eq_true hlen
    subst e
    simp only [tomi, am_1] at h
    split at h
    · rename_i v hf
      exact s_lload hF hd hf (knxt rfl _ _ _ h)
    · exact (show False from h).elim
  case lload_n k =>
    have e := Nat.eq_of_beq_eq_true hlen
    subst e
    simp only [tomi, am_1] at h
    split at h
    · rename_i v hf
      exact s_lload_n hF hd rfl hf (knxt rfl _ _ _ h)
    · exact (show False from h).elim
  case aload k =>
    have e := Nat.eq_of_beq_eq_true hlen
    subst e
    simp only [tomi, am_1] at h
    split at h
    · rename_i v hf
      obtain ⟨h0, h⟩ := bif_f h
      exact s_aload hF hd hf (nb08 h0).1 (nb08 h0).2 (knxt rfl _ _ _ h)
    · exact (show False from h).elim
  case aload_n k =>
    have e := Nat.eq_of_beq_eq_true hlen
    subst e
    simp only [tomi, am_1] at h
    split at h
    · rename_i v hf
      obtain ⟨h0, h⟩ := bif_f h
      exact s_aload_n hF hd rfl hf (nb08 h0).1 (nb08 h0).2 (knxt rfl _ _ _ h)
    · exact (show False from h).elim
  case istore k =>
    have e := Nat.eq_of_beq_eq_true hlen
    subst e
    simp only [tomi] at h
    cases hb : (Nat.blt k (anL G)) with
    | false => rw [hb] at h; exact (show False from h).elim
    | true =>
      rw [hb] at h
      simp only [cond_true] at h
      match st, h with
      | .inl v :: st, h => exact s_istore hF hd (Nat.le_of_ble_eq_true hb) (knxt rfl _ _ _ h)
      | [], h => exact (show False from h).elim
      | .inr _ :: _, h => exact (show False from h).elim
  case istore_n k =>
    have e := Nat.eq_of_beq_eq_true hlen
    subst e
    simp only [tomi] at h
    cases hb : (Nat.blt k.val (anL G)) with
    | false => rw [hb] at h; exact (show False from h).elim
    | true =>
      rw [hb] at h
      simp only [cond_true] at h
      match st, h with
      | .inl v :: st, h => exact s_istore_n hF hd rfl (Nat.le_of_ble_eq_true hb) (knxt rfl _ _ _ h)
      | [], h => exact (show False from h).elim
      | .inr _ :: _, h => exact (show False from h).elim
  case lstore k =>
    have e := Nat.eq_of_beq_eq_true hlen
    subst e
    simp only [tomi] at h
    cases hb : (Nat.blt (k + 1) (anL G)) with
    | false => rw [hb] at h; exact (show False from h).elim
    | true =>
      rw [hb] at h
      simp only [cond_true] at h
      match st, h with
      | .inr (.inl v) :: st, h => exact s_lstore hF hd (Nat.le_of_ble_eq_true hb) (knxt rfl _ _ _ h)
      | [], h => exact (show False from h).elim
      | .inl _ :: _, h => exact (show False from h).elim
      | .inr (.inr _) :: _, h => exact (show False from h).elim
  case lstore_n k =>
    have e := Nat.eq_of_beq_eq_true hlen
    subst e
    simp only [tomi] at h
    cases hb : (Nat.blt (k.val + 1) (anL G)) with
    | false => rw [hb] at h; exact (show False from h).elim
    | true =>
      rw [hb] at h
      simp only [cond_true] at h
      match st, h with
      | .inr (.inl v) :: st, h => exact s_lstore_n hF hd rfl (Nat.le_of_ble_eq_true hb) (knxt rfl _ _ _ h)
      | [], h => exact (show False from h).elim
      | .inl _ :: _, h => exact (show False from h).elim
      | .inr (.inr _) :: _, h => exact (show False from h).elim
  case astore k =>
    have e := Nat.eq_of_beq_eq_true hlen
    subst e
    simp only [tomi] at h
    cases hb : (Nat.blt k (anL G)) with
    | false => rw [hb] at h; exact (show False from h).elim
    | true =>
      rw [hb] at h
      simp only [cond_true] at h
      match st, h with
      | .inr (.inr v) :: st, h =>
        obtain ⟨h0, h⟩ := bif_f h
        exact s_astore hF hd (Nat.le_of_ble_eq_true hb) (nb08 h0).1 (nb08 h0).2 (knxt rfl _ _ _ h)
      | [], h => exact (show False from h).elim
      | .inl _ :: _, h => exact (show False from h).elim
      | .inr (.inl _) :: _, h => exact (show False from h).elim
  case astore_n k =>
    have e := Nat.eq_of_beq_eq_true hlen
    subst e
    simp only [tomi] at h
    cases hb : (Nat.blt k.val (anL G)) with
    | false => rw [hb] at h; exact (show False from h).elim
    | true =>
      rw [hb] at h
      simp only [cond_true] at h
      match st, h with
      | .inr (.inr v) :: st, h =>
        obtain ⟨h0, h⟩ := bif_f h
        exact s_astore_n hF hd rfl (Nat.le_of_ble_eq_true hb) (nb08 h0).1 (nb08 h0).2 (knxt rfl _ _ _ h)
      | [], h => exact (show False from h).elim
      | .inl _ :: _, h => exact (show False from h).elim
      | .inr (.inl _) :: _, h => exact (show False from h).elim
  case iinc k d =>
    have e := Nat.eq_of_beq_eq_true hlen
    subst e
    simp only [tomi] at h
    cases hb : (Nat.blt k (anL G)) with
    | false => rw [hb] at h; exact (show False from h).elim
    | true =>
      rw [hb] at h
      simp only [cond_true, am_1] at h
      split at h
      · rename_i v hf
        exact s_iinc hF hd hf h.1 (Nat.le_of_ble_eq_true hb) (knxt rfl _ _ _ h.2)
      · exact (show False from h).elim
  case goto o =>
    have e := Nat.eq_of_beq_eq_true hlen
    subst e
    simp only [tomi, am_tg] at h
    cases hq : am_ixo ((pc : Int) + o) PC 0 with
    | none => rw [hq] at h; exact (show False from h).elim
    | some t =>
      rw [hq] at h
      simp only [am_1] at h
      obtain ⟨j, e1, e2, e3⟩ := am_ixo_ok _ _ _ hq
      have e4 : t = j := by omega
      subst e4
      exact s_goto hF hd e3 (kjmp t _ _ _ e2 h)
  case ifCond cd o =>
    have e := Nat.eq_of_beq_eq_true hlen
    subst e
    simp only [tomi, am_tg] at h
    cases hq : am_ixo ((pc : Int) + o) PC 0 with
    | none => rw [hq] at h; exact (show False from h).elim
    | some t =>
      rw [hq] at h
      simp only [am_1] at h
      obtain ⟨j, e1, e2, e3⟩ := am_ixo_ok _ _ _ hq
      have e4 : t = j := by omega
      subst e4
      match st, h with
      | .inl v :: st, h => exact s_if hF hd e3 (fun z => kjmp t _ _ _ e2 (h.1 z)) (fun z => knxt rfl _ _ _ (h.2 z))
      | [], h => exact (show False from h).elim
      | .inr _ :: _, h => exact (show False from h).elim
  case if_icmp cd o =>
    have e := Nat.eq_of_beq_eq_true hlen
    subst e
    simp only [tomi, am_tg] at h
    cases hq : am_ixo ((pc : Int) + o) PC 0 with
    | none => rw [hq] at h; exact (show False from h).elim
    | some t =>
      rw [hq] at h
      simp only [am_1] at h
      obtain ⟨j, e1, e2, e3⟩ := am_ixo_ok _ _ _ hq
      have e4 : t = j := by omega
      subst e4
      match st, h with
      | .inl b :: .inl a :: st, h => exact s_icmp hF hd e3 (fun z => kjmp t _ _ _ e2 (h.1 z)) (fun z => knxt rfl _ _ _ (h.2 z))
      | [], h => exact (show False from h).elim
      | [.inl _], h => exact (show False from h).elim
      | .inl _ :: .inr _ :: _, h => exact (show False from h).elim
      | .inr _ :: _, h => exact (show False from h).elim
  case tableswitch d lo hi offs =>
    simp only [tomi] at h
    cases hb : decide (hi - lo + 1 = (offs.toList.length : Int)) with
    | false => rw [hb] at h; exact (show False from h).elim
    | true =>
      rw [hb] at h
      simp only [cond_true] at h
      cases hq : am_ixo ((pc : Int) + d) PC 0 with
      | none => rw [hq] at h; exact (show False from h).elim
      | some t =>
        cases hq2 : am_tgs PC pc offs.toList with
        | none => rw [hq, hq2] at h; exact (show False from h).elim
        | some ts =>
          rw [hq, hq2] at h
          simp only [am_1] at h
          match st, h with
          | [], h => exact (show False from h).elim
          | .inr _ :: _, h => exact (show False from h).elim
          | .inl v :: st, h =>
            obtain ⟨j, e1, e2, e3⟩ := am_ixo_ok _ _ _ hq
            have e4 : t = j := by omega
            subst e4
            by_cases hv : v < lo ∨ hi < v
            · exact s_swOut hF hd hv e3 (kjmp t _ _ _ e2 (h.1 hv))
            · obtain ⟨j, g1, g2, g3⟩ := am_sw_ok _ _ (h.2 hv)
              obtain ⟨o, f1, f2, f3⟩ := am_tgs_at _ _ hq2 j g1
              exact s_swIn hF hd (fun z => hv (Or.inl z)) (fun z => hv (Or.inr z)) (by
                rw [show (v - lo).toNat = j by omega, ← Array.getElem?_toList]
                exact f1) f3 (kjmp _ _ _ _ f2 g3)
  case getfield x =>
    have e := Nat.eq_of_beq_eq_true hlen
    subst e
    simp only [tomi] at h
    cases hb : (Nat.beq own 14 && Nat.beq x 9) with
    | true =>
      rw [hb] at h
      obtain ⟨b1, b2⟩ := Bool.and_eq_true_iff.mp hb
      have e1 := Nat.eq_of_beq_eq_true b1
      have e2 := Nat.eq_of_beq_eq_true b2
      subst e1; subst e2
      simp only [cond_true, am_1] at h
      match st, h with
      | .inr (.inr q) :: st, h =>
        obtain ⟨h0, h⟩ := bif_t (X := Nat) h
        exact s_getS hF hd h0 (Or.inl ⟨rfl, rfl⟩) (knxt rfl _ _ _ h)
      | [], h => exact (show False from h).elim
      | .inl _ :: _, h => exact (show False from h).elim
      | .inr (.inl _) :: _, h => exact (show False from h).elim
    | false =>
      rw [hb] at h
      simp only [cond_false] at h
      cases hb2 : (Nat.beq own 14 && Nat.beq x 15) with
      | true =>
        rw [hb2] at h
        obtain ⟨b1, b2⟩ := Bool.and_eq_true_iff.mp hb2
        have e1 := Nat.eq_of_beq_eq_true b1
        have e2 := Nat.eq_of_beq_eq_true b2
        subst e1; subst e2
        simp only [cond_true, am_1] at h
        match st, h with
        | .inr (.inr q) :: st, h =>
          obtain ⟨h0, h⟩ := bif_t (X := Nat) h
          exact s_getS hF hd h0 (Or.inr ⟨rfl, rfl⟩) (knxt rfl _ _ _ h)
        | [], h => exact (show False from h).elim
        | .inl _ :: _, h => exact (show False from h).elim
        | .inr (.inl _) :: _, h => exact (show False from h).elim
      | false =>
        rw [hb2] at h
        simp only [cond_false] at h
        cases hq : am_as tFl own x with
        | none => rw [hq] at h; exact (show False from h).elim
        | some q =>
          rw [hq] at h
          simp only [am_1] at h
          have hlt := tFl_lt _ (am_as_ok hq)
          have hk : (100 * q.1 + q.2) / 100 = q.1 ∧ (100 * q.1 + q.2) % 100 = q.2 := by
            have hn : nf q.1 ≤ 99 := nf_le _
            have := hlt.2
            have this : q.2 < nf q.1 := this
            omega
          match st, h with
          | .inr (.inr z) :: st, h =>
            obtain ⟨h0, h⟩ := bif_t (X := Nat) h
            exact s_getf hF hd h0 (by rw [hk.1, hk.2]; exact am_as_ok hq) (knxt rfl _ _ _ h)
          | [], h => exact (show False from h).elim
          | .inl _ :: _, h => exact (show False from h).elim
          | .inr (.inl _) :: _, h => exact (show False from h).elim
  case putfield x =>
    have e := Nat.eq_of_beq_eq_true hlen
    subst e
    simp only [tomi] at h
    cases hq : am_as tFl own x with
    | none => rw [hq] at h; exact (show False from h).elim
    | some q =>
      rw [hq] at h
      simp only at h
      cases hb : (!(cT q.1 q.2).2.2.2 || (decide ((mY id).name = "<init>") && Nat.beq own q.1)) with
      | false => rw [hb] at h; exact (show False from h).elim
      | true =>
        rw [hb] at h
        simp only [cond_true, am_1] at h
        have hlt := tFl_lt _ (am_as_ok hq)
        have hk : (100 * q.1 + q.2) / 100 = q.1 ∧ (100 * q.1 + q.2) % 100 = q.2 := by
          have hn : nf q.1 ≤ 99 := nf_le _
          have := hlt.2
          have this : q.2 < nf q.1 := this
          omega
        match st, h with
        | v :: .inr (.inr z) :: st, h =>
          obtain ⟨h0, h⟩ := bif_t (X := Nat) h
          obtain ⟨h0, h9⟩ := Bool.and_eq_true_iff.mp h0
          refine s_putf hF hd h0 (by rw [hk.1, hk.2]; exact am_as_ok hq) ?_ h (fun S2 hS2 => knxt rfl _ _ _ hS2)
          rw [hk.1, hk.2]
          rcases Bool.or_eq_true_iff.mp hb with hb | hb
          · exact Or.inl (by simpa using hb)
          · obtain ⟨b1, b2⟩ := Bool.and_eq_true_iff.mp hb
            exact Or.inr ⟨hnm.trans (of_decide_eq_true b1), Nat.eq_of_beq_eq_true b2⟩
        | [], h => exact (show False from h).elim
        | [_], h => exact (show False from h).elim
        | _ :: .inl _ :: _, h => exact (show False from h).elim
        | _ :: .inr (.inl _) :: _, h => exact (show False from h).elim
  case iaload =>
    have e := Nat.eq_of_beq_eq_true hlen
    subst e
    match st, h with
    | .inl a :: .inr (.inr z) :: st, h =>
      simp only [tomi, am_1] at h
      split at h
      · rename_i hk
        exact s_iald hF hd (Or.inl hk) h.1 (knxt rfl _ _ _ h.2)
      · rename_i hk
        exact s_iald hF hd (Or.inr hk) h.1 (knxt rfl _ _ _ h.2)
      · exact (show False from h).elim
    | [], h => exact (show False from h).elim
    | .inr _ :: _, h => exact (show False from h).elim
    | [.inl _], h => exact (show False from h).elim
    | .inl _ :: .inl _ :: _, h => exact (show False from h).elim
    | .inl _ :: .inr (.inl _) :: _, h => exact (show False from h).elim
  case laload =>
    have e := Nat.eq_of_beq_eq_true hlen
    subst e
    match st, h with
    | .inl a :: .inr (.inr z) :: st, h =>
      simp only [tomi, am_1] at h
      split at h
      · rename_i hk
        exact s_lald hF hd (Or.inl hk) h.1 (knxt rfl _ _ _ h.2)
      · rename_i hk
        exact s_lald hF hd (Or.inr hk) h.1 (knxt rfl _ _ _ h.2)
      · exact (show False from h).elim
    | [], h => exact (show False from h).elim
    | .inr _ :: _, h => exact (show False from h).elim
    | [.inl _], h => exact (show False from h).elim
    | .inl _ :: .inl _ :: _, h => exact (show False from h).elim
    | .inl _ :: .inr (.inl _) :: _, h => exact (show False from h).elim
  case baload =>
    have e := Nat.eq_of_beq_eq_true hlen
    subst e
    match st, h with
    | .inl a :: .inr (.inr z) :: st, h =>
      simp only [tomi, am_1] at h
      split at h
      · rename_i hk
        exact s_bald hF hd (Or.inl hk) h.1 (knxt rfl _ _ _ h.2)
      · rename_i hk
        exact s_bald hF hd (Or.inr (Or.inl hk)) h.1 (knxt rfl _ _ _ h.2)
      · rename_i hk
        exact s_bald hF hd (Or.inr (Or.inr hk)) h.1 (knxt rfl _ _ _ h.2)
      · exact (show False from h).elim
    | [], h => exact (show False from h).elim
    | .inr _ :: _, h => exact (show False from h).elim
    | [.inl _], h => exact (show False from h).elim
    | .inl _ :: .inl _ :: _, h => exact (show False from h).elim
    | .inl _ :: .inr (.inl _) :: _, h => exact (show False from h).elim
  case aaload =>
    have e := Nat.eq_of_beq_eq_true hlen
    subst e
    match st, h with
    | .inl a :: .inr (.inr z) :: st, h =>
      simp only [tomi, am_1] at h
      split at h
      · rename_i hk
        obtain ⟨j, g1, g2, g3⟩ := am_aal_ok _ _ h.2
        exact s_aald hF hd hk h.1 (by omega) rfl (knxt rfl _ _ _ g3)
      · exact (show False from h).elim
    | [], h => exact (show False from h).elim
    | .inr _ :: _, h => exact (show False from h).elim
    | [.inl _], h => exact (show False from h).elim
    | .inl _ :: .inl _ :: _, h => exact (show False from h).elim
    | .inl _ :: .inr (.inl _) :: _, h => exact (show False from h).elim
  case iastore =>
    have e := Nat.eq_of_beq_eq_true hlen
    subst e
    match st, h with
    | .inl v :: .inl a :: .inr (.inr z) :: st, h =>
      simp only [tomi, am_1] at h
      split at h
      · rename_i hk
        exact s_iast hF hd hk h.1 (knxt rfl _ _ _ h.2)
      · exact (show False from h).elim
    | [], h => exact (show False from h).elim
    | .inr _ :: _, h => exact (show False from h).elim
    | [.inl v], h => exact (show False from h).elim
    | .inl v :: .inr _ :: _, h => exact (show False from h).elim
    | [.inl v, .inl _], h => exact (show False from h).elim
    | .inl v :: .inl _ :: .inl _ :: _, h => exact (show False from h).elim
    | .inl v :: .inl _ :: .inr (.inl _) :: _, h => exact (show False from h).elim
  case lastore =>
    have e := Nat.eq_of_beq_eq_true hlen
    subst e
    match st, h with
    | .inr (.inl v) :: .inl a :: .inr (.inr z) :: st, h =>
      simp only [tomi, am_1] at h
      split at h
      · rename_i hk
        exact s_last hF hd hk h.1 (knxt rfl _ _ _ h.2)
      · exact (show False from h).elim
    | [], h => exact (show False from h).elim
    | .inl _ :: _, h => exact (show False from h).elim
    | .inr (.inr _) :: _, h => exact (show False from h).elim
    | [.inr (.inl v)], h => exact (show False from h).elim
    | .inr (.inl v) :: .inr _ :: _, h => exact (show False from h).elim
    | [.inr (.inl v), .inl _], h => exact (show False from h).elim
    | .inr (.inl v) :: .inl _ :: .inl _ :: _, h => exact (show False from h).elim
    | .inr (.inl v) :: .inl _ :: .inr (.inl _) :: _, h => exact (show False from h).elim
  case bastore =>
    have e := Nat.eq_of_beq_eq_true hlen
    subst e
    match st, h with
    | .inl v :: .inl a :: .inr (.inr z) :: st, h =>
      simp only [tomi, am_1] at h
      split at h
      · rename_i hk
        exact s_bast hF hd hk h.1 (knxt rfl _ _ _ h.2)
      · rename_i hk
        exact s_zast hF hd hk h.1 h.2.1 (knxt rfl _ _ _ h.2.2)
      · exact (show False from h).elim
    | [], h => exact (show False from h).elim
    | .inr _ :: _, h => exact (show False from h).elim
    | [.inl v], h => exact (show False from h).elim
    | .inl v :: .inr _ :: _, h => exact (show False from h).elim
    | [.inl v, .inl _], h => exact (show False from h).elim
    | .inl v :: .inl _ :: .inl _ :: _, h => exact (show False from h).elim
    | .inl v :: .inl _ :: .inr (.inl _) :: _, h => exact (show False from h).elim
  case aastore =>
    have e := Nat.eq_of_beq_eq_true hlen
    subst e
    match st, h with
    | .inr (.inr q) :: .inl a :: .inr (.inr z) :: st, h =>
      simp only [tomi, am_1] at h
      split at h
      · rename_i hk
        obtain ⟨h0, h⟩ := bif_f h
        have h0 : Nat.beq (am_kd S.1 q) 19 = true := by simpa using h0
        exact s_aast hF hd hk (Nat.eq_of_beq_eq_true h0) h.1 h.2.1 (knxt rfl _ _ _ h.2.2)
      · exact (show False from h).elim
    | [], h => exact (show False from h).elim
    | .inl _ :: _, h => exact (show False from h).elim
    | .inr (.inl _) :: _, h => exact (show False from h).elim
    | [.inr (.inr q)], h => exact (show False from h).elim
    | .inr (.inr q) :: .inr _ :: _, h => exact (show False from h).elim
    | [.inr (.inr q), .inl _], h => exact (show False from h).elim
    | .inr (.inr q) :: .inl _ :: .inl _ :: _, h => exact (show False from h).elim
    | .inr (.inr q) :: .inl _ :: .inr (.inl _) :: _, h => exact (show False from h).elim
  case arraylength =>
    have e := Nat.eq_of_beq_eq_true hlen
    subst e
    match st, h with
    | .inr (.inr z) :: st, h =>
      simp only [tomi, am_1] at h
      split at h
      iterate 8
        · rename_i hk
          exact s_alen hF hd (by rw [hk]; decide) h.1 (knxt rfl _ _ _ h.2)
      · exact (show False from h).elim
    | [], h => exact (show False from h).elim
    | .inl _ :: _, h => exact (show False from h).elim
    | .inr (.inl _) :: _, h => exact (show False from h).elim
  case new x =>
    have e := Nat.eq_of_beq_eq_true hlen
    subst e
    simp only [tomi] at h
    cases hq : am_as tNw own x with
    | none => rw [hq] at h; exact (show False from h).elim
    | some q =>
      rw [hq] at h
      simp only [am_1] at h
      have hci : q < 13 := tNw_lt _ (am_as_ok hq)
      refine s_new hF hd (am_as_ok hq) ?_ (knxt rfl _ _ _ h.2)
      have h1 := h.1
      rw [mNf_at q hci] at h1
      omega
  case newarray ty =>
    have e := Nat.eq_of_beq_eq_true hlen
    subst e
    simp only [tomi] at h
    cases ty with
    | int =>
      match st, h with
      | .inl n :: st, h => exact s_newa hF hd (Or.inl ⟨rfl, rfl⟩) ⟨h.1.1, h.1.2.1⟩ (by have := h.1.2.2; omega) (knxt rfl _ _ _ h.2)
      | [], h => exact (show False from h).elim
      | .inr _ :: _, h => exact (show False from h).elim
    | long =>
      match st, h with
      | .inl n :: st, h => exact s_newa hF hd (Or.inr (Or.inl ⟨rfl, rfl⟩)) ⟨h.1.1, h.1.2.1⟩ (by have := h.1.2.2; omega) (knxt rfl _ _ _ h.2)
      | [], h => exact (show False from h).elim
      | .inr _ :: _, h => exact (show False from h).elim
    | byte =>
      match st, h with
      | .inl n :: st, h => exact s_newa hF hd (Or.inr (Or.inr (Or.inl ⟨rfl, rfl⟩))) ⟨h.1.1, h.1.2.1⟩ (by have := h.1.2.2; omega) (knxt rfl _ _ _ h.2)
      | [], h => exact (show False from h).elim
      | .inr _ :: _, h => exact (show False from h).elim
    | boolean =>
      match st, h with
      | .inl n :: st, h => exact s_newa hF hd (Or.inr (Or.inr (Or.inr ⟨rfl, rfl⟩))) ⟨h.1.1, h.1.2.1⟩ (by have := h.1.2.2; omega) (knxt rfl _ _ _ h.2)
      | [], h => exact (show False from h).elim
      | .inr _ :: _, h => exact (show False from h).elim
    | char => exact (show False from h).elim
    | float => exact (show False from h).elim
    | double => exact (show False from h).elim
    | short => exact (show False from h).elim
  case anewarray x =>
    have e := Nat.eq_of_beq_eq_true hlen
    subst e
    simp only [tomi] at h
    split at h
    · rename_i hq
      simp only [am_1] at h
      match st, h with
      | .inl n :: st, h => exact s_newq hF hd (am_as_ok hq) ⟨h.1.1, h.1.2.1⟩ (by have := h.1.2.2; omega) (knxt rfl _ _ _ h.2)
      | [], h => exact (show False from h).elim
      | .inr _ :: _, h => exact (show False from h).elim
    · exact (show False from h).elim
  case ireturn =>
    have e := Nat.eq_of_beq_eq_true hlen
    subst e
    simp only [tomi] at h
    have fin : ∀ (v : Int), ret (some (.inl v)) S → (∃ ty, mR id = some ty ∧ narrow ty (.int (Int32.ofInt v)) = .int (Int32.ofInt v)) → WA G pc ls [.inl v] S := fun v hr ht => kret (some (.inl v)) ls S hr ⟨hd, ht⟩
    split at h
    · rename_i hm
      simp only [am_1] at h
      match st, h with
      | [.inl v], h => exact fin v h ⟨_, hm, rfl⟩
      | [], h => exact (show False from h).elim
      | .inr _ :: _, h => exact (show False from h).elim
      | .inl _ :: _ :: _, h => exact (show False from h).elim
    · rename_i hm
      simp only [am_1] at h
      match st, h with
      | [.inl v], h => exact fin v h.2 ⟨_, hm, (nar_bool h.1).1⟩
      | [], h => exact (show False from h).elim
      | .inr _ :: _, h => exact (show False from h).elim
      | .inl _ :: _ :: _, h => exact (show False from h).elim
    · rename_i hm
      simp only [am_1] at h
      match st, h with
      | [.inl v], h => exact fin v h.2 ⟨_, hm, (nar_bool h.1).2⟩
      | [], h => exact (show False from h).elim
      | .inr _ :: _, h => exact (show False from h).elim
      | .inl _ :: _ :: _, h => exact (show False from h).elim
    · rename_i hm
      simp only [am_1] at h
      match st, h with
      | [.inl v], h => exact fin v h.2 ⟨_, hm, nar_char h.1⟩
      | [], h => exact (show False from h).elim
      | .inr _ :: _, h => exact (show False from h).elim
      | .inl _ :: _ :: _, h => exact (show False from h).elim
    · exact (show False from h).elim
  case lreturn =>
    have e := Nat.eq_of_beq_eq_true hlen
    subst e
    simp only [tomi] at h
    cases hb : decide (mR id = some .long) with
    | false => rw [hb] at h; exact (show False from h).elim
    | true =>
      rw [hb] at h
      simp only [cond_true, am_1] at h
      match st, h with
      | [.inr (.inl v)], h => exact kret (some (.inr (.inl v))) ls S h ⟨hd, of_decide_eq_true hb⟩
      | [], h => exact (show False from h).elim
      | .inl _ :: _, h => exact (show False from h).elim
      | .inr (.inr _) :: _, h => exact (show False from h).elim
      | .inr (.inl _) :: _ :: _, h => exact (show False from h).elim
  case return_ =>
    have e := Nat.eq_of_beq_eq_true hlen
    subst e
    simp only [tomi] at h
    cases hb : decide (mR id = none) with
    | false => rw [hb] at h; exact (show False from h).elim
    | true =>
      rw [hb] at h
      simp only [cond_true, am_1] at h
      match st, h with
      | [], h => exact kret none ls S h ⟨hd, of_decide_eq_true hb⟩
      | _ :: _, h => exact (show False from h).elim
  case invokevirtual x =>
    have e := Nat.eq_of_beq_eq_true hlen
    subst e
    simp only [tomi] at h
    cases hq : am_as tMV own x with
    | none => rw [hq] at h; exact (show False from h).elim
    | some y =>
      rw [hq] at h
      simp only at h
      cases hb : (Nat.blt (mFr y) (mFr id) && Nat.ble (8 + (mLo y + 11) + mWd y) (mWd id) && ((Nat.beq (mNa (2000 + y)) (10 + mCs y) && Nat.blt (mCs y) 13) || (Nat.beq (mNa (2000 + y)) 30 && Nat.beq (mCs y) 14)) && Nat.ble 1 (mNa y)) with
      | false => rw [hb] at h; exact (show False from h).elim
      | true =>
        rw [hb] at h
        simp only [cond_true] at h
        simp only [Bool.and_eq_true, Bool.or_eq_true] at hb
        obtain ⟨⟨⟨b1, b2⟩, b3⟩, b4⟩ := hb
        have b1 : mFr y + 1 ≤ mFr id := Nat.le_of_ble_eq_true b1
        have b2 := Nat.le_of_ble_eq_true b2
        have b4 := Nat.le_of_ble_eq_true b4
        have b3 : (mNa (2000 + y) = 10 + mCs y ∧ mCs y < 13) ∨ (mNa (2000 + y) = 30 ∧ mCs y = 14) := by
          rcases b3 with ⟨q1, q2⟩ | ⟨q1, q2⟩
          · exact Or.inl ⟨Nat.eq_of_beq_eq_true q1, Nat.le_of_ble_eq_true q2⟩
          · exact Or.inr ⟨Nat.eq_of_beq_eq_true q1, Nat.eq_of_beq_eq_true q2⟩
        exact s_cV hF hd (am_as_ok hq) h b3 ⟨by omega, by omega⟩ kcall (fun ls st S hn => knxt rfl ls st S hn)
  case invokestatic x =>
    have e := Nat.eq_of_beq_eq_true hlen
    subst e
    simp only [tomi] at h
    have key : ∀ y, ((own, x, y) ∈ tMS ∨ (own, x, y) ∈ tMT) → am_1 (X := Prop) ftab mNa lim False brP ckP call sp ret cut i (bif Nat.blt (mFr y) (mFr id) && Nat.ble (8 + (mLo y + 11) + mWd y) (mWd id) then .invokestatic y else .athrow) ls st S nxt jmp → WA G pc ls st S := by
      intro y hy h
      cases hb : (Nat.blt (mFr y) (mFr id) && Nat.ble (8 + (mLo y + 11) + mWd y) (mWd id)) with
      | false => rw [hb] at h; exact (show False from h).elim
      | true =>
        rw [hb] at h
        simp only [cond_true] at h
        obtain ⟨b1, b2⟩ := Bool.and_eq_true_iff.mp hb
        have b1 : mFr y + 1 ≤ mFr id := Nat.le_of_ble_eq_true b1
        have b2 := Nat.le_of_ble_eq_true b2
        exact s_cS hF hd hy h ⟨by omega, by omega⟩ kcall (fun ls st S hn => knxt rfl ls st S hn)
    cases hq : am_as tMS own x with
    | some y => rw [hq] at h; exact key y (Or.inl (am_as_ok hq)) h
    | none =>
      rw [hq] at h
      simp only at h
      cases hq2 : am_as tMT own x with
      | some y => rw [hq2] at h; exact key y (Or.inr (am_as_ok hq2)) h
      | none =>
        rw [hq2] at h
        simp only at h
        cases hb : (!(Nat.ble 1 (mFr id) && Nat.ble 30 (mWd id))) with
        | true => rw [hb] at h; exact (show False from h).elim
        | false =>
          rw [hb] at h
          simp only [cond_false] at h
          have hb : (Nat.ble 1 (mFr id) && Nat.ble 30 (mWd id)) = true := by simpa using hb
          obtain ⟨r1, r2⟩ := Bool.and_eq_true_iff.mp hb
          have r1 := Nat.le_of_ble_eq_true r1
          have r2 := Nat.le_of_ble_eq_true r2
          exact s_cX hF hd h ⟨by omega, by omega⟩ hfr.2 (fun ls st S hn => knxt rfl ls st S hn)
  case invokespecial x =>
    have e := Nat.eq_of_beq_eq_true hlen
    subst e
    simp only [tomi] at h
    have key : ∀ y, ((own, x, y) ∈ tMI ∨ (own, x, y) ∈ tMJ) → am_1 (X := Prop) ftab mNa lim False brP ckP call sp ret cut i (bif Nat.blt (mFr y) (mFr id) && Nat.ble (8 + (mLo y + 11) + mWd y) (mWd id) && Nat.ble 1 (mNa y) && Nat.ble 10 (mNa (2000 + y)) && Nat.blt (mNa (2000 + y)) 23 then .invokespecial y else .athrow) ls st S nxt jmp → WA G pc ls st S := by
      intro y hy h
      cases hb : (Nat.blt (mFr y) (mFr id) && Nat.ble (8 + (mLo y + 11) + mWd y) (mWd id) && Nat.ble 1 (mNa y) && Nat.ble 10 (mNa (2000 + y)) && Nat.blt (mNa (2000 + y)) 23) with
      | false => rw [hb] at h; exact (show False from h).elim
      | true =>
        rw [hb] at h
        simp only [cond_true] at h
        simp only [Bool.and_eq_true] at hb
        obtain ⟨⟨⟨⟨b1, b2⟩, b3⟩, b4⟩, b5⟩ := hb
        have b1 : mFr y + 1 ≤ mFr id := Nat.le_of_ble_eq_true b1
        have b2 := Nat.le_of_ble_eq_true b2
        have b3 := Nat.le_of_ble_eq_true b3
        have b4 := Nat.le_of_ble_eq_true b4
        have b5 : mNa (2000 + y) < 23 := Nat.le_of_ble_eq_true b5
        exact s_cI hF hd hy h ⟨b4, b5⟩ ⟨by omega, by omega⟩ hlim ksp (fun ls st S hn => knxt rfl ls st S hn)
    cases hb : am_in2 tOi own x with
    | true =>
      rw [hb] at h
      simp only [cond_true] at h
      cases hb2 : (Nat.ble 1 (mFr id) && Nat.ble 20 (mWd id)) with
      | false => rw [hb2] at h; exact (show False from h).elim
      | true =>
        rw [hb2] at h
        simp only [cond_true] at h
        obtain ⟨r1, r2⟩ := Bool.and_eq_true_iff.mp hb2
        have r1 := Nat.le_of_ble_eq_true r1
        have r2 := Nat.le_of_ble_eq_true r2
        match st, h with
        | .inr (.inr v) :: st, h =>
          obtain ⟨h0, h⟩ := bif_f h
          obtain ⟨h0, h1⟩ := Bool.or_eq_false_iff.mp h0
          refine s_oi hF hd (am_in2_ok hb) (nb08 h0).1 (nb08 h0).2 ?_ ⟨by omega, by omega⟩ (knxt rfl _ _ _ h)
          rw [am_cat_ok]
          rcases Nat.lt_or_ge 8 (am_cat st) with q | q
          · have : Nat.blt 8 (am_cat st) = true := Nat.ble_eq_true_of_le q
            rw [this] at h1
            cases h1
          · exact q
        | [], h => exact (show False from h).elim
        | .inl _ :: _, h => exact (show False from h).elim
        | .inr (.inl _) :: _, h => exact (show False from h).elim
    | false =>
      rw [hb] at h
      simp only [cond_false] at h
      cases hq : am_as tMI own x with
      | some y => rw [hq] at h; exact key y (Or.inl (am_as_ok hq)) h
      | none =>
        rw [hq] at h
        simp only at h
        cases hq2 : am_as tMJ own x with
        | some y => rw [hq2] at h; exact key y (Or.inr (am_as_ok hq2)) h
        | none => rw [hq2] at h; exact (show False from h).elim
  all_goals exact (show False from h).elim
end
section
/-! stretches, runs, methods -/
def am_chk1 (cc : ByteArray) (own id nL : Nat) (wr : Bool) (PC : List Nat) (mi : aI) (pc : Nat) (nx : Option Nat) : Bool := match mi with
  | .nop => decide (nx = some pc)
  | mi => match decode cc pc with
    | .ok q => decide (mi = tomi own id nL wr PC pc q.1) && (am_lok q.1 q.2 && (am_ends q.1 || decide (nx = some (pc + q.2))))
    | .error _ => false
def am_chkL (cc : ByteArray) (own id nL : Nat) (wr : Bool) (PC : List Nat) : List aI → List Nat → Bool
  | [], _ => true
  | mi :: ms, pc :: ps => am_chk1 cc own id nL wr PC mi pc ps.head? && am_chkL cc own id nL wr PC ms ps
  | _ :: _, [] => false
theorem chkL_at {cc : ByteArray} {own id nL : Nat} {wr : Bool} {PC : List Nat} : ∀ (M : List aI) (P : List Nat), am_chkL cc own id nL wr PC M P = true → ∀ (i : Nat) (mi : aI), M[i]? = some mi → ∃ pc, P[i]? = some pc ∧ am_chk1 cc own id nL wr PC mi pc P[i + 1]? = true
  | [], _, _, i, mi, h => by simp at h
  | m :: ms, [], h, i, mi, hi => by cases h
  | m :: ms, pc :: ps, h, 0, mi, hi => by
    obtain ⟨h1, -⟩ := Bool.and_eq_true_iff.mp h
    have e : m = mi := by simpa using hi
    subst e
    refine ⟨pc, rfl, ?_⟩
    rw [show (pc :: ps)[0 + 1]? = ps.head? by cases ps <;> rfl]
    exact h1
  | m :: ms, pc :: ps, h, i + 1, mi, hi => by
    obtain ⟨-, h2⟩ := Bool.and_eq_true_iff.mp h
    obtain ⟨q, g1, g2⟩ := chkL_at ms ps h2 i mi (by simpa using hi)
    exact ⟨q, by simpa using g1, by simpa using g2⟩
theorem am_nth_of {α : Type} {d x : α} {l : List α} {i : Nat} (h : l[i]? = some x) : am_nth d l i = x := by
  have hl := (List.getElem?_eq_some_iff.mp h).1
  have := am_nth_get d l i hl
  rw [h] at this
  exact (Option.some.inj this).symm
/-- a stretch -/
theorem am_x_ok {G : aG} {cc : ByteArray} {own id : Nat} {wr : Bool} {PC : List Nat} {M : List aI} {lim : Nat × Nat}
    {call : Nat → List aV → aS → (Option aV → aH → Prop) → Prop} {sp : Nat → List aV → aS → (aS → Prop) → Prop} {ret : Option aV → aS → Prop} {cut : Nat → aL → List aV → aS → Prop}
    (hF : FX G cc own) (hchk : am_chkL cc own id (anL G) wr PC M PC = true) (hfr : mFr id ≤ (aR G).frames ∧ mWd id ≤ (aR G).locals) (hnm : (aMe G).name = (mY id).name) (hlim : lim.1 ≤ an0 G + (aR G).cells ∧ lim.2 ≤ az0 G + (aR G).slots)
    (kcut : ∀ i ls st S, cut i ls st S → WA G (am_nth 0 PC i) ls st S)
    (kret : ∀ pc v ls S, ret v S → retOk cc id pc v → WA G pc ls v.toList S)
    (kcall : ∀ y as S cont, call y as S cont → ∃ v h, aMg G y as S v (S.1, h) ∧ cont v h)
    (ksp : ∀ y as S cont, sp y as S cont → ∃ S2 : aS, aMg G y as S none S2 ∧ S2.1.length = S.1.length + mCe y ∧ am_sz S2.1 = am_sz S.1 + mSl y ∧ S2.1.length ≤ lim.1 ∧ am_sz S2.1 ≤ lim.2 ∧ cont S2) :
    ∀ (f i : Nat) (rest : List aI) (ls : aL) (st : List aV) (S : aS), rest = M.drop i → am_x (X := Prop) ftab mNa lim False brP ckP call sp ret cut M f i rest ls st S → WA G (am_nth 0 PC i) ls st S := by
  intro f
  induction f with
  | zero => intro i rest ls st S _ h; exact (show False from h).elim
  | succ f ih =>
    intro i rest ls st S hr h
    match rest, hr, h with
    | [], _, h => exact (show False from h).elim
    | ins :: rest, hr, h =>
      have hi : M[i]? = some ins := by
        have := congrArg List.head? hr
        rw [List.head?_drop] at this
        exact this.symm
      have hr2 : rest = M.drop (i + 1) := by
        have := congrArg List.tail hr
        rw [List.tail_drop] at this
        exact this
      obtain ⟨pc, hp, hc⟩ := chkL_at _ _ hchk i ins hi
      have h : am_1 (X := Prop) ftab mNa lim False brP ckP call sp ret cut i ins ls st S (fun ls st S => am_x (X := Prop) ftab mNa lim False brP ckP call sp ret cut M f (i + 1) rest ls st S) (fun t ls st S => bif Nat.ble t i then cut t ls st S else am_x (X := Prop) ftab mNa lim False brP ckP call sp ret cut M f t (M.drop t) ls st S) := h
      rw [am_nth_of hp]
      by_cases hn : ins = .nop
      · subst hn
        have hc := of_decide_eq_true hc
        have := kcut (i + 1) ls st S h
        rw [am_nth_of hc] at this
        exact this
      · have hc2 : (match decode cc pc with
          | .ok q => decide (ins = tomi own id (anL G) wr PC pc q.1) && (am_lok q.1 q.2 && (am_ends q.1 || decide (PC[i + 1]? = some (pc + q.2))))
          | .error _ => false) = true := by
          unfold am_chk1 at hc
          split at hc
          · exact absurd rfl hn
          · exact hc
        cases hd : decode cc pc with
        | error x => rw [hd] at hc2; cases hc2
        | ok q =>
          rw [hd] at hc2
          obtain ⟨q1, q2⟩ := q
          simp only at hc2
          obtain ⟨c1, c2⟩ := Bool.and_eq_true_iff.mp hc2
          obtain ⟨c2, c3⟩ := Bool.and_eq_true_iff.mp c2
          have c1 := of_decide_eq_true c1
          subst c1
          refine am_1_ok hF hd c2 hfr hnm hlim h (fun he ls st S hx => ?_) (fun t ls st S ht hx => ?_) (fun v ls S hx ho => kret pc v ls S hx ho) kcall ksp
          · have hx2 := ih (i + 1) rest ls st S hr2 hx
            rw [he, Bool.false_or] at c3
            rw [am_nth_of (of_decide_eq_true c3)] at hx2
            exact hx2
          · cases hb : Nat.ble t i with
            | true => rw [hb] at hx; exact kcut t ls st S hx
            | false => rw [hb] at hx; exact ih t (M.drop t) ls st S rfl hx
/-- the locals with which a method begins -/
def am_en : Nat → List aV → aL
  | _, [] => []
  | i, v :: vs => (i, v) :: am_en (bif am_is2 v then i + 2 else i + 1) vs
theorem am_en_ok (ad : Nat → Nat) : ∀ (vs : List aV) (i : Nat), lv_args i (vs.map (cv ad)) = am_ll ad (am_en i vs)
  | [], _ => rfl
  | v :: vs, i => by
    show (i, cv ad v) :: lv_args (if (cv ad v).category = 2 then i + 2 else i + 1) (vs.map (cv ad)) = (i, cv ad v) :: am_ll ad (am_en (bif am_is2 v then i + 2 else i + 1) vs)
    have hc := cat2 (ad := ad) v
    cases hv : am_is2 v with
    | true =>
      rw [hv] at hc
      rw [if_pos (show (cv ad v).category = 2 by simpa using hc), am_en_ok ad vs (i + 2)]
      rfl
    | false =>
      rw [if_neg (by rw [cat1 hv]; decide), am_en_ok ad vs (i + 1)]
      rfl
theorem en_ok : ∀ (vs : List aV) (i : Nat), (∀ x ∈ vs, ok_v x) → ∀ q ∈ am_en i vs, ok_v q.2
  | [], _, _, q, hq => by cases hq
  | v :: vs, i, h, q, hq => by
    rcases List.mem_cons.mp hq with rfl | hq
    · exact h v List.mem_cons_self
    · exact en_ok vs _ (fun x hx => h x (List.mem_cons_of_mem _ hx)) q hq
theorem sl_len (ad : Nat → Nat) : ∀ (vs : List aV), (lg_sl (vs.map (cv ad))).length = am_cat vs
  | [] => rfl
  | v :: vs => by
    have h := sl_len ad vs
    have hc := cat2 (ad := ad) v
    show ((if (cv ad v).category = 2 then [Slot.val (cv ad v), Slot.second] else [Slot.val (cv ad v)]) ++ lg_sl (vs.map (cv ad))).length = (bif am_is2 v then 2 else 1) + am_cat vs
    rw [List.length_append, h]
    cases hv : am_is2 v with
    | true =>
      rw [hv] at hc
      rw [if_pos (show (cv ad v).category = 2 by simpa using hc)]
      rfl
    | false =>
      rw [if_neg (by rw [cat1 hv]; decide)]
      rfl
/-- a call that fits -/
def am_fit (y : Nat) (as : List aV) (S : aS) : Prop := y < 352 ∧ am_cat as ≤ mLo y ∧ 9 ≤ S.1.length
/-- a run: of method k, from place i on, within n stretches one upon another, it leaves with v and S2 -/
def am_R (P : Nat → List aI) : Nat → Nat → Nat × Nat → Nat → aL → List aV → aS → Option aV → aS → Prop
  | 0, _, _, _, _, _, _, _, _ => False
  | n + 1, k, lim, i, ls, st, S, v, S2 => am_x (X := Prop) ftab mNa lim False brP ckP
      (fun y as S cont => ∃ (v : Option aV) (h : aH), am_fit y as S ∧ am_R P n y (S.1.length + mCe y, am_sz S.1 + mSl y) 0 (am_en 0 as) [] S v (S.1, h) ∧ cont v h)
      (fun y as S cont => ∃ S2 : aS, am_fit y as S ∧ am_R P n y (S.1.length + mCe y, am_sz S.1 + mSl y) 0 (am_en 0 as) [] S none S2 ∧ S2.1.length = S.1.length + mCe y ∧ am_sz S2.1 = am_sz S.1 + mSl y ∧ S2.1.length ≤ lim.1 ∧ am_sz S2.1 ≤ lim.2 ∧ cont S2)
      (fun v' S' => v = v' ∧ S2 = S') (fun i ls st S => am_R P n k lim i ls st S v S2) (P k) 5000 i ((P k).drop i) ls st S
end
section
/-! a method's run is its contract -/
theorem BodyNm {p : Program} {l : Launch} {y : MethodName} {S : Spec} {cc : ByteArray} {n : Nat} {ret : Option FieldType} {e : Env} {s : State} {m : MethodId} {args : Array Value} {below : List Frame} {meth : Method} {c : Code} {s₁ : State} (B : BodyLoose p l y S cc n ret e s m args below meth c s₁) : meth.name = y.name := (name_of_methodNamed B.named B.method).1
section S46
variable {l : Launch} {dC : Nat → ClassId} {dI : Nat → Nat → Nat} {ct : Nat → ClassId} {ad : Nat → Nat} {P : Nat → List aI} {pcs : Nat → List Nat} {wr : Nat → Bool}
/-- from any place of any method: what comes behind it -/
def RunOk (l : Launch) (dC : Nat → ClassId) (dI : Nat → Nat → Nat) (ct : Nat → ClassId) (ad : Nat → Nat) (P : Nat → List aI) (pcs : Nat → List Nat) (n : Nat) : Prop :=
  ∀ (G : aG) (k : Nat) (lim : Nat × Nat) (i : Nat) (ls : aL) (st : List aV) (S : aS) (v : Option aV) (S2 : aS), aLa G = l → adC G = dC → adI G = dI → aCt G = ct → aAd G = ad → k ≤ 352 → FX G (mB k) (mCs k) → anL G = mLo k → mFr k ≤ (aR G).frames ∧ mWd k ≤ (aR G).locals → (aMe G).name = (mY k).name → lim.1 ≤ an0 G + (aR G).cells ∧ lim.2 ≤ az0 G + (aR G).slots →
    (∀ pc ls, retOk (mB k) k pc v → WA G pc ls v.toList S2) → am_R P n k lim i ls st S v S2 → WA G (am_nth 0 (pcs k) i) ls st S
/-- a method's contract out of its runs -/
theorem metOf {n : Nat} (hrow : am_row ad) (h0 : ∀ k, k < 352 → am_nth 0 (pcs k) 0 = 0) (hn : RunOk l dC dI ct ad P pcs n) {k : Nat} {as : List aV} {S : aS} {v : Option aV} {S2 : aS} (hfit : am_fit k as S) (hR : am_R P n k (S.1.length + mCe k, am_sz S.1 + mSl k) 0 (am_en 0 as) [] S v S2) (hok : ok_h ftab S) (hoa : ∀ x ∈ as, ok_v x) : aM l dC dI ct ad k as S v S2 := by
  obtain ⟨hk, hcat, h9⟩ := hfit
  unfold aM
  refine Met.ofW (cc := mB k) (maxL := mLo k) (ret := mR k) (mpl k hk) rfl ?_
  intro p e s m args below meth c s₁ B hml hv
  obtain ⟨rfl, hsz, hP, hK, hX, hN⟩ := hv
  have hg : ∀ w ∈ lw_g, w.before ((as.map (cv ad)).toArray) s = true := fun w hw => atoms_spec (ws := aWs k) B.pre w (List.mem_cons_of_mem _ hw)
  have hown : s.vm.findClass (cN (mCs k)) = some m.cls := by
    rw [← (mcl k hk).1]
    exact findClass_of_methodNamed B.named
  have hlocks := B.notSynchronized
  have hret := B.returns
  have hF : FX (p, l, e, (headSpec (aWs k) (aRm k)).room, s, m, (as.map (cv ad)).toArray, below, meth, c, MQ below (aQc dC dI ct ad S v S2) ((as.map (cv ad)).toArray) s (mCe k) (mSl k) (am_A ad), mLo k, dC, dI, ct, ad, S.1.length, am_sz S.1, (fun r => (am_nth am_o0 S.1 r, S.2 r))) (mB k) (mCs k) :=
    ⟨B.exec, B.bytes, hml, hown, XN.use hg hN, hK, hrow, hsz, h9⟩
  have key := hn _ k (S.1.length + mCe k, am_sz S.1 + mSl k) 0 (am_en 0 as) [] S v S2 rfl rfl rfl rfl rfl (Nat.le_of_lt hk) hF rfl ⟨Nat.le_refl _, Nat.le_refl _⟩ (BodyNm B) ⟨Nat.le_refl _, Nat.le_refl _⟩ ?_ hR
  · rw [h0 k hk] at key
    have hl := lv_entry (as.map (cv ad)) (n := mLo k) (by rw [sl_len]; exact hcat)
    rw [am_en_ok] at hl
    rw [lg_entry_eq]
    have := key s.heap [] _ ⟨hP, va_S.rf, hok, ⟨Nat.le_refl _, Nat.le_add_right _ _⟩, ⟨⟨Nat.le_refl _, Nat.le_add_right _ _⟩, fun r _ => ⟨rfl, rfl⟩⟩, hX⟩ hl (en_ok as 0 hoa) (fun x hx => by cases hx)
    unfold WP at this
    simp only [Nat.sub_self] at this
    exact this
  · intro pc ls hro H locs lsC hRR hl h1 h2
    have hw1 : S2.1.length ≤ S.1.length + mCe k := hRR.2.2.2.1.2
    have hw2 : am_sz S2.1 ≤ am_sz S.1 + mSl k := hRR.2.2.2.2.1.1.2
    refine W.widen (k := mCe k) (n := mSl k) (by omega) (by omega) ?_
    have post : ∀ t : State, t.heap = H → s.WarmedH t.vm → aQc dC dI ct ad S v S2 ((as.map (cv ad)).toArray) s (.returned (v.map (cv ad))) t := by
      intro t ht _
      refine ⟨rfl, by rw [ht]; exact hRR.1, hRR.2.1.F ht, hRR.2.2.1, fun x hx => h2 x (by rw [hx]; exact List.mem_singleton.mpr rfl), fun r hr => hRR.2.2.2.2.1.2 r hr⟩
    match v, hro, post with
    | none, hro, post => exact W.vret B.exec B.bytes (hret.trans hro.2) post hRR.2.1.2.2 hro.1
    | some (.inl x), hro, post =>
      obtain ⟨hd, ty, hty, hnr⟩ := hro
      exact W.zret B.exec B.bytes (hret.trans hty) hnr post hRR.2.1.2.2 hd
    | some (.inr (.inl x)), hro, post => exact W.lret B.exec B.bytes (hret.trans hro.2) post hRR.2.1.2.2 hro.1
    | some (.inr (.inr x)), hro, post => exact (show False from hro).elim
theorem runOk (hrow : am_row ad) (h0 : ∀ k, k < 352 → am_nth 0 (pcs k) 0 = 0) (hC : ∀ k, k ≤ 352 → am_chkL (mB k) (mCs k) k (mLo k) (wr k) (pcs k) (P k) (pcs k) = true) : ∀ n, RunOk l dC dI ct ad P pcs n := by
  intro n
  induction n with
  | zero => intro G k lim i ls st S v S2 _ _ _ _ _ _ _ _ _ _ _ _ h; exact (show False from h).elim
  | succ n ih =>
    intro G k lim i ls st S v S2 e1 e2 e3 e4 e5 hk hF hnL hfr hnm hlim hret h
    have hmet : ∀ y as S v S2, am_fit y as S → am_R P n y (S.1.length + mCe y, am_sz S.1 + mSl y) 0 (am_en 0 as) [] S v S2 → aMg G y as S v S2 := by
      intro y as S v S2 hfit hR hok hoa
      rw [e1, e2, e3, e4, e5]
      exact metOf hrow h0 ih hfit hR hok hoa
    refine am_x_ok (own := mCs k) (id := k) (wr := wr k) hF (by rw [hnL]; exact hC k hk) hfr hnm hlim (fun i ls st S hc => ih G k lim i ls st S v S2 e1 e2 e3 e4 e5 hk hF hnL hfr hnm hlim hret hc) (fun pc v' ls S' hr ho => ?_) (fun y as S cont hc => ?_) (fun y as S cont hc => ?_) 5000 i _ ls st S rfl h
    · obtain ⟨rfl, rfl⟩ := hr
      exact hret pc ls ho
    · obtain ⟨v', hh, hf, hr, hcont⟩ := hc
      exact ⟨v', hh, hmet _ _ _ _ _ hf hr, hcont⟩
    · obtain ⟨S', hf, hr, g1, g2, g3, g4, hcont⟩ := hc
      exact ⟨S', hmet _ _ _ _ _ hf hr, g1, g2, g3, g4, hcont⟩
end S46
end
section
/-! the methods as the abstract machine has them -/
/-- WakeHouse.<init>()V -/
def c_0 : List aI := [.aload 0, .invokeinterface 0 0, .aload 0, .new 10, .dup, .invokespecial 1, .putfield 1100, .aload 0, .new 3, .dup, .invokespecial 10, .putfield 1102, .aload 0, .new 6,
  .dup, .aload 0, .getfield 1100, .invokespecial 12, .putfield 1101, .aload 0, .new 9, .dup, .invokespecial 13, .putfield 1103, .aload 0, .iconst 2, .anewarray 0, .putfield 1104,
  .iconst 0, .istore 1, .nop, .iload 1, .iconst 2, .if_icmp .ge 43, .aload 0, .getfield 1104, .iload 1, .new 9, .dup, .invokespecial 13, .aastore, .iinc 1 1,
  .goto 30, .aload 0, .new 5, .dup, .aload 0, .getfield 1102, .aload 0, .getfield 1103, .invokespecial 14, .putfield 1105, .aload 0, .new 0, .dup, .aload 0,
  .getfield 1102, .aload 0, .getfield 1103, .aload 0, .getfield 1105, .invokespecial 15, .putfield 1106, .aload 0, .new 2, .dup, .aload 0, .getfield 1102, .aload 0, .getfield 1103,
  .aload 0, .getfield 1105, .invokespecial 16, .putfield 1107, .aload 0, .new 8, .dup, .aload 0, .getfield 1102, .aload 0, .getfield 1103, .invokespecial 17, .putfield 1108, .aload 0,
  .new 7, .dup, .aload 0, .getfield 1102, .aload 0, .getfield 1103, .invokespecial 18, .putfield 1109, .aload 0, .new 1, .dup, .aload 0, .getfield 1102, .aload 0,
  .getfield 1103, .aload 0, .getfield 1105, .invokespecial 19, .putfield 1110, .aload 0, .iconst 0, .putfield 1111, .return_]
def p_0 : List Nat := [0, 1, 4, 5, 8, 9, 12, 15, 16, 19, 20, 23, 26, 27, 30, 31, 32, 35, 38, 41, 42, 45, 46, 49, 52, 53, 54, 57, 60, 61,
  62, 62, 63, 64, 67, 68, 71, 72, 75, 76, 79, 80, 83, 86, 87, 90, 91, 92, 95, 96, 99, 102, 105, 106, 109, 110, 111, 114, 115, 118,
  119, 122, 125, 128, 129, 132, 133, 134, 137, 138, 141, 142, 145, 148, 151, 152, 155, 156, 157, 160, 161, 164, 167, 170, 171, 174, 175, 176, 179, 180,
  183, 186, 189, 190, 193, 194, 195, 198, 199, 202, 203, 206, 209, 212, 213, 214, 217]
/-- WakeHouse$Tape.<init>()V -/
def c_1 : List aI := [.aload 0, .invokeinterface 0 0, .aload 0, .iconst 2000, .newarray .byte, .putfield 1000, .aload 0, .iconst 18, .newarray .long, .putfield 1001, .aload 0, .iconst 402, .newarray .int, .putfield 1002,
  .aload 0, .iconst 402, .newarray .int, .putfield 1003, .aload 0, .iconst 402, .newarray .long, .putfield 1004, .iconst 0, .istore 1, .bipush 0, .lstore 2, .iconst 0, .istore 4,
  .nop, .iload 4, .getstatic 4, .invokevirtual 2, .if_icmp .ge 58, .iload 1, .iconst 18, .if_icmp .ge 58, .getstatic 4, .iload 4, .invokevirtual 4, .iconst 32, .if_icmp .ne 50, .aload 0,
  .getfield 1001, .iload 1, .lload 2, .lastore, .iinc 1 1, .bipush 0, .lstore 2, .goto 56, .lload 2, .getstatic 4, .iload 4, .invokevirtual 4, .invokestatic 9, .lstore 2,
  .iinc 4 1, .goto 28, .return_]
def p_1 : List Nat := [0, 1, 4, 5, 8, 10, 13, 14, 16, 18, 21, 22, 25, 27, 30, 31, 34, 36, 39, 40, 43, 45, 48, 49, 50, 51, 52, 53, 55, 55,
  57, 59, 62, 65, 66, 68, 71, 73, 75, 78, 80, 83, 84, 87, 88, 89, 90, 93, 94, 95, 98, 99, 101, 103, 106, 109, 110, 113, 116]
/-- java/lang/String.length()I -/
def c_2 : List aI := [.aload 0, .getfield 2000, .arraylength, .aload 0, .invokevirtual 3, .ishr, .ireturn]
def p_2 : List Nat := [0, 1, 4, 5, 6, 9, 10]
/-- java/lang/String.coder()B -/
def c_3 : List aI := [.iconst 1, .ifCond .eq 5, .aload 0, .getfield 2001, .goto 6, .iconst 1, .freturn]
def p_3 : List Nat := [0, 3, 6, 7, 10, 13, 14]
/-- java/lang/String.charAt(I)C -/
def c_4 : List aI := [.aload 0, .invokevirtual 5, .ifCond .eq 8, .aload 0, .getfield 2000, .iload 1, .invokestatic 6, .dreturn, .aload 0, .getfield 2000, .iload 1, .athrow, .dreturn]
def p_4 : List Nat := [0, 1, 4, 7, 8, 11, 12, 15, 16, 17, 20, 21, 24]
/-- java/lang/String.isLatin1()Z -/
def c_5 : List aI := [.iconst 1, .ifCond .eq 7, .aload 0, .getfield 2001, .ifCond .ne 7, .iconst 1, .goto 8, .iconst 0, .freturn]
def p_5 : List Nat := [0, 3, 6, 7, 10, 13, 14, 17, 18]
/-- java/lang/StringLatin1.charAt([BI)C -/
def c_6 : List aI := [.iload 1, .aload 0, .arraylength, .invokestatic 7, .aload 0, .iload 1, .baload, .iconst 255, .iand, .i2c, .dreturn]
def p_6 : List Nat := [0, 1, 2, 3, 6, 7, 8, 9, 12, 13, 14]
/-- java/lang/String.checkIndex(II)V -/
def c_7 : List aI := [.iload 0, .iload 1, .getstatic 8, .invokestatic 8, .pop, .return_]
def p_7 : List Nat := [0, 1, 2, 5, 8, 9]
/-- jdk/internal/util/Preconditions.checkIndex(IILjava/util/function/BiFunction;)I -/
def c_8 : List aI := [.iload 0, .ifCond .lt 5, .iload 0, .iload 1, .if_icmp .lt 10, .aload 2, .iload 0, .iload 1, .athrow, .athrow, .iload 0, .ireturn]
def p_8 : List Nat := [0, 1, 4, 5, 6, 9, 10, 11, 12, 15, 16, 17]
/-- WakeHouse$Tape.spelled(JI)J -/
def c_9 : List aI := [.lload 0, .bipush 27, .dmul, .iload 2, .iconst 97, .fsub, .iconst 1, .fadd, .i2l, .dadd, .lreturn]
def p_9 : List Nat := [0, 1, 4, 5, 6, 8, 9, 10, 11, 12, 13]
/-- WakeHouse$House.<init>()V -/
def c_10 : List aI := [.aload 0, .invokeinterface 0 0, .aload 0, .iconst 12, .newarray .int, .putfield 300, .aload 0, .iconst 12, .newarray .int, .putfield 301, .aload 0, .iconst 9, .newarray .int, .putfield 302,
  .aload 0, .iconst 9, .newarray .int, .putfield 303, .aload 0, .iconst 12, .newarray .int, .putfield 304, .aload 0, .iconst 12, .newarray .int, .putfield 305, .aload 0, .iconst 12,
  .newarray .int, .putfield 306, .aload 0, .iconst 12, .newarray .int, .putfield 307, .aload 0, .iconst 12, .newarray .int, .putfield 308, .aload 0, .iconst 12, .newarray .int, .putfield 309,
  .aload 0, .iconst 8, .newarray .int, .putfield 310, .aload 0, .iconst 7, .newarray .int, .putfield 311, .aload 0, .new 4, .dup, .invokespecial 11, .putfield 312, .aload 0,
  .new 4, .dup, .invokespecial 11, .putfield 313, .return_]
def p_10 : List Nat := [0, 1, 4, 5, 7, 9, 12, 13, 15, 17, 20, 21, 23, 25, 28, 29, 31, 33, 36, 37, 39, 41, 44, 45, 47, 49, 52, 53, 55, 57,
  60, 61, 63, 65, 68, 69, 71, 73, 76, 77, 79, 81, 84, 85, 87, 89, 92, 93, 95, 97, 100, 101, 104, 105, 108, 111, 112, 115, 116, 119,
  122]
/-- WakeHouse$Law.<init>()V -/
def c_11 : List aI := [.aload 0, .invokeinterface 0 0, .aload 0, .iconst 400, .newarray .int, .putfield 400, .aload 0, .iconst 400, .newarray .int, .putfield 401, .return_]
def p_11 : List Nat := [0, 1, 4, 5, 8, 10, 13, 14, 17, 19, 22]
/-- WakeHouse$Reader.<init>(LWakeHouse$Tape;)V -/
def c_12 : List aI := [.aload 0, .invokeinterface 0 0, .aload 0, .new 3, .dup, .invokespecial 10, .putfield 601, .aload 0, .iconst 33, .newarray .long, .putfield 602, .aload 0, .iconst 33, .newarray .int,
  .putfield 603, .aload 0, .iconst 400, .newarray .int, .putfield 606, .aload 0, .iconst (-1), .putfield 612, .aload 0, .aload 1, .putfield 600, .return_]
def p_12 : List Nat := [0, 1, 4, 5, 8, 9, 12, 15, 16, 18, 20, 23, 24, 26, 28, 31, 32, 35, 37, 40, 41, 42, 45, 46, 47, 50]
/-- WakeHouse$State.<init>()V -/
def c_13 : List aI := [.aload 0, .invokeinterface 0 0, .aload 0, .iconst 8, .newarray .int, .putfield 900, .aload 0, .iconst 8, .newarray .int, .putfield 901, .aload 0, .iconst 8, .newarray .int, .putfield 902,
  .aload 0, .iconst 8, .newarray .int, .putfield 903, .aload 0, .iconst 12, .newarray .int, .putfield 904, .aload 0, .iconst 12, .newarray .int, .putfield 905, .aload 0, .iconst 60,
  .newarray .int, .putfield 906, .aload 0, .iconst 60, .newarray .int, .putfield 907, .aload 0, .iconst 60, .newarray .int, .putfield 908, .aload 0, .iconst 4, .newarray .int, .putfield 909,
  .return_]
def p_13 : List Nat := [0, 1, 4, 5, 7, 9, 12, 13, 15, 17, 20, 21, 23, 25, 28, 29, 31, 33, 36, 37, 39, 41, 44, 45, 47, 49, 52, 53, 55, 57,
  60, 61, 63, 65, 68, 69, 71, 73, 76, 77, 78, 80, 83]
/-- WakeHouse$Night.<init>(LWakeHouse$House;LWakeHouse$State;)V -/
def c_14 : List aI := [.aload 0, .invokeinterface 0 0, .aload 0, .iconst 8, .newarray .int, .putfield 502, .aload 0, .iconst 8, .newarray .int, .putfield 503, .aload 0, .iconst 8, .newarray .int, .putfield 504,
  .aload 0, .iconst 4000, .newarray .byte, .putfield 505, .aload 0, .iconst 7, .newarray .int, .putfield 506, .aload 0, .iconst 3, .newarray .int, .putfield 507, .aload 0, .iconst 3,
  .newarray .int, .putfield 508, .aload 0, .iconst 31, .newarray .int, .putfield 509, .aload 0, .iconst 12, .newarray .long, .putfield 510, .aload 0, .aload 1, .putfield 500, .aload 0,
  .aload 2, .putfield 501, .return_]
def p_14 : List Nat := [0, 1, 4, 5, 7, 9, 12, 13, 15, 17, 20, 21, 23, 25, 28, 29, 32, 34, 37, 38, 40, 42, 45, 46, 47, 49, 52, 53, 54, 56,
  59, 60, 62, 64, 67, 68, 70, 72, 75, 76, 77, 80, 81, 82, 85]
/-- WakeHouse$BestTwo.<init>(LWakeHouse$House;LWakeHouse$State;LWakeHouse$Night;)V -/
def c_15 : List aI := [.aload 0, .invokeinterface 0 0, .aload 0, .iconst 1728, .newarray .int, .putfield 3, .aload 0, .iconst 1728, .newarray .int, .putfield 4, .aload 0, .iconst 96, .newarray .int, .putfield 5,
  .aload 0, .iconst 12, .newarray .long, .putfield 6, .aload 0, .iconst 12, .newarray .long, .putfield 7, .aload 0, .iconst 12, .newarray .long, .putfield 8, .aload 0, .iconst 12,
  .newarray .long, .putfield 9, .aload 0, .iconst (-1), .putfield 16, .aload 0, .aload 1, .putfield 0, .aload 0, .aload 2, .putfield 1, .aload 0, .aload 3, .putfield 2,
  .return_]
def p_15 : List Nat := [0, 1, 4, 5, 8, 10, 13, 14, 17, 19, 22, 23, 25, 27, 30, 31, 33, 35, 38, 39, 41, 43, 46, 47, 49, 51, 54, 55, 57, 59,
  62, 63, 64, 67, 68, 69, 72, 73, 74, 77, 78, 79, 82]
/-- WakeHouse$Cover.<init>(LWakeHouse$House;LWakeHouse$State;LWakeHouse$Night;)V -/
def c_16 : List aI := [.aload 0, .invokeinterface 0 0, .aload 0, .iconst 144, .newarray .int, .putfield 203, .aload 0, .iconst 4096, .newarray .int, .putfield 204, .aload 0, .aload 1, .putfield 200, .aload 0,
  .aload 2, .putfield 201, .aload 0, .aload 3, .putfield 202, .return_]
def p_16 : List Nat := [0, 1, 4, 5, 8, 10, 13, 14, 17, 19, 22, 23, 24, 27, 28, 29, 32, 33, 34, 37]
/-- WakeHouse$Shaking.<init>(LWakeHouse$House;LWakeHouse$State;)V -/
def c_17 : List aI := [.aload 0, .invokeinterface 0 0, .aload 0, .iconst 12, .newarray .int, .putfield 802, .aload 0, .iconst 192, .newarray .long, .putfield 803, .aload 0, .iconst 9, .newarray .long, .putfield 804,
  .aload 0, .iconst 25, .newarray .long, .putfield 805, .aload 0, .iconst 25, .newarray .long, .putfield 806, .aload 0, .iconst 25, .newarray .int, .putfield 807, .aload 0, .iconst 25,
  .newarray .int, .putfield 808, .aload 0, .aload 1, .putfield 800, .aload 0, .aload 2, .putfield 801, .return_]
def p_17 : List Nat := [0, 1, 4, 5, 7, 9, 12, 13, 16, 18, 21, 22, 24, 26, 29, 30, 32, 34, 37, 38, 40, 42, 45, 46, 48, 50, 53, 54, 56, 58,
  61, 62, 63, 66, 67, 68, 71]
/-- WakeHouse$Round.<init>(LWakeHouse$House;LWakeHouse$State;)V -/
def c_18 : List aI := [.aload 0, .invokeinterface 0 0, .aload 0, .iconst 8, .newarray .int, .putfield 702, .aload 0, .iconst 8, .newarray .int, .putfield 703, .aload 0, .iconst 2048, .newarray .int, .putfield 704,
  .aload 0, .iconst 2048, .newarray .int, .putfield 705, .aload 0, .aload 1, .putfield 700, .aload 0, .aload 2, .putfield 701, .return_]
def p_18 : List Nat := [0, 1, 4, 5, 7, 9, 12, 13, 15, 17, 20, 21, 24, 26, 29, 30, 33, 35, 38, 39, 40, 43, 44, 45, 48]
/-- WakeHouse$Changes.<init>(LWakeHouse$House;LWakeHouse$State;LWakeHouse$Night;)V -/
def c_19 : List aI := [.aload 0, .invokeinterface 0 0, .aload 0, .iconst 144, .newarray .long, .putfield 103, .aload 0, .iconst 12, .newarray .int, .putfield 104, .aload 0, .iconst 2, .newarray .int, .putfield 105,
  .aload 0, .aload 1, .putfield 100, .aload 0, .aload 2, .putfield 101, .aload 0, .aload 3, .putfield 102, .return_]
def p_19 : List Nat := [0, 1, 4, 5, 8, 10, 13, 14, 16, 18, 21, 22, 23, 25, 28, 29, 30, 33, 34, 35, 38, 39, 40, 43]
/-- WakeHouse.feed(IIIII)I -/
def c_20 : List aI := [.aload 0, .getfield 1100, .iconst 20, .invokevirtual 21, .ifCond .ne 7, .iconst (-1), .ireturn, .aload 0, .getfield 1100, .iload 1, .invokevirtual 22, .aload 0, .getfield 1100, .iload 2,
  .invokevirtual 22, .aload 0, .getfield 1100, .iload 3, .invokevirtual 22, .aload 0, .getfield 1100, .iload 4, .invokevirtual 22, .aload 0, .getfield 1100, .iload 5, .invokevirtual 22, .aload 0,
  .getfield 1100, .getfield 1005, .ireturn]
def p_20 : List Nat := [0, 1, 4, 6, 9, 12, 13, 14, 15, 18, 19, 22, 23, 26, 27, 30, 31, 34, 35, 38, 39, 42, 44, 47, 48, 51, 53, 56, 57, 60,
  63]
/-- WakeHouse$Tape.hasRoom(I)Z -/
def c_21 : List aI := [.aload 0, .getfield 1005, .iload 1, .fadd, .iconst 2000, .if_icmp .gt 8, .iconst 1, .goto 9, .iconst 0, .freturn]
def p_21 : List Nat := [0, 1, 4, 5, 6, 9, 12, 13, 16, 17]
/-- WakeHouse$Tape.putFour(I)V -/
def c_22 : List aI := [.iconst 24, .istore 2, .nop, .iload 2, .ifCond .lt 26, .aload 0, .getfield 1005, .iconst 2000, .if_icmp .ge 26, .aload 0, .getfield 1000, .aload 0, .getfield 1005, .iload 1,
  .iload 2, .ishr, .i2b, .bastore, .aload 0, .dup, .getfield 1005, .iconst 1, .fadd, .putfield 1005, .iinc 2 (-8), .goto 2, .return_]
def p_22 : List Nat := [0, 2, 3, 3, 4, 7, 8, 11, 14, 17, 18, 21, 22, 25, 26, 27, 28, 29, 30, 31, 32, 35, 36, 37, 40, 43, 46]
/-- WakeHouse.back(I)I -/
def c_23 : List aI := [.iload 1, .ifCond .lt 7, .iload 1, .aload 0, .getfield 1100, .getfield 1005, .if_icmp .le 9, .iconst (-1), .ireturn, .aload 0, .getfield 1100, .dup, .getfield 1005, .iload 1,
  .fsub, .putfield 1005, .aload 0, .getfield 1100, .getfield 1005, .ireturn]
def p_23 : List Nat := [0, 1, 4, 5, 6, 9, 12, 15, 16, 17, 18, 21, 22, 25, 26, 27, 30, 31, 34, 37]
/-- WakeHouse.read()I -/
def c_24 : List aI := [.aload 0, .getfield 1101, .invokevirtual 25, .istore 1, .iload 1, .ifCond .ne 40, .aload 0, .getfield 1102, .aload 0, .getfield 1101, .getfield 601, .invokevirtual 65, .aload 0, .getfield 1103,
  .aload 0, .getfield 1102, .invokevirtual 70, .aload 0, .getfield 1105, .invokevirtual 72, .iconst 0, .istore 2, .nop, .iload 2, .iconst 2, .if_icmp .ge 34, .aload 0, .getfield 1104,
  .iload 2, .aaload, .iconst 0, .putfield 913, .iinc 2 1, .goto 22, .aload 0, .dup, .getfield 1111, .iconst 1, .fadd, .putfield 1111, .iload 1, .ireturn]
def p_24 : List Nat := [0, 1, 4, 7, 8, 9, 12, 13, 16, 17, 20, 23, 26, 27, 30, 31, 34, 37, 38, 41, 44, 45, 46, 46, 47, 48, 51, 52, 55, 56,
  57, 58, 61, 64, 67, 68, 69, 72, 73, 74, 77, 78]
/-- WakeHouse$Reader.readText()I -/
def c_25 : List aI := [.aload 0, .getfield 600, .invokevirtual 26, .aload 0, .getfield 601, .invokevirtual 40, .aload 0, .iconst 0, .putfield 604, .aload 0, .iconst 0, .putfield 605, .aload 0, .iconst 0,
  .putfield 609, .aload 0, .iconst 0, .putfield 611, .aload 0, .iconst (-1), .putfield 612, .aload 0, .iconst 0, .putfield 613, .aload 0, .iconst (-1), .putfield 614, .iconst 1,
  .istore 1, .iconst 0, .istore 2, .nop, .iload 2, .iconst 400, .if_icmp .gt 46, .iload 1, .ifCond .eq 46, .aload 0, .invokevirtual 43, .iconst 31, .if_icmp .eq 46, .aload 0,
  .invokevirtual 44, .istore 1, .iinc 2 1, .goto 31, .iload 1, .ifCond .eq 59, .aload 0, .getfield 613, .ifCond .eq 59, .aload 0, .aload 0, .getfield 613, .putfield 611, .aload 0,
  .aload 0, .getfield 614, .putfield 612, .aload 0, .getfield 600, .iconst 0, .putfield 1005, .aload 0, .getfield 611, .ireturn]
def p_25 : List Nat := [0, 1, 4, 7, 8, 11, 14, 15, 16, 19, 20, 21, 24, 25, 26, 29, 30, 31, 34, 35, 36, 39, 40, 41, 44, 45, 46, 49, 50, 51,
  52, 53, 53, 54, 57, 60, 61, 64, 65, 68, 70, 73, 74, 77, 78, 81, 84, 85, 88, 89, 92, 95, 96, 97, 100, 103, 104, 105, 108, 111,
  112, 115, 116, 119, 120, 123]
/-- WakeHouse$Tape.split()V -/
def c_26 : List aI := [.aload 0, .iconst 0, .putfield 1007, .aload 0, .iconst 0, .putfield 1006, .iconst 1, .istore 1, .iconst 0, .istore 2, .nop, .iload 2, .iconst 400, .if_icmp .gt 21,
  .iload 1, .ifCond .eq 21, .aload 0, .invokevirtual 27, .istore 1, .iinc 2 1, .goto 10, .iload 1, .ifCond .eq 29, .aload 0, .iconst 31, .aload 0, .getfield 1005, .bipush 0,
  .invokevirtual 29, .return_]
def p_26 : List Nat := [0, 1, 2, 5, 6, 7, 10, 11, 12, 13, 14, 14, 15, 18, 21, 22, 25, 26, 29, 30, 33, 36, 37, 40, 41, 43, 44, 47, 48, 51]
/-- WakeHouse$Tape.scan()Z -/
def c_27 : List aI := [.nop, .aload 0, .getfield 1006, .aload 0, .getfield 1005, .if_icmp .ge 20, .aload 0, .getfield 1000, .aload 0, .getfield 1006, .baload, .invokestatic 28, .ifCond .eq 20, .aload 0,
  .dup, .getfield 1006, .iconst 1, .fadd, .putfield 1006, .goto 0, .aload 0, .getfield 1006, .aload 0, .getfield 1005, .if_icmp .lt 33, .aload 0, .iconst 31, .aload 0,
  .getfield 1005, .bipush 0, .invokevirtual 29, .iconst 0, .freturn, .aload 0, .getfield 1000, .aload 0, .getfield 1006, .baload, .istore 1, .iload 1, .invokestatic 30, .ifCond .eq 45,
  .aload 0, .invokevirtual 31, .freturn, .iload 1, .invokestatic 32, .ifCond .eq 51, .aload 0, .invokevirtual 33, .goto 54, .aload 0, .iload 1, .invokevirtual 34, .freturn]
def p_27 : List Nat := [0, 0, 1, 4, 5, 8, 11, 12, 15, 16, 19, 20, 23, 26, 27, 28, 31, 32, 33, 36, 39, 40, 43, 44, 47, 50, 51, 53, 54, 57,
  58, 61, 62, 63, 64, 67, 68, 71, 72, 73, 74, 77, 80, 81, 84, 85, 86, 89, 92, 93, 96, 99, 100, 101, 104]
/-- WakeHouse$Tape.isBlank(I)Z -/
def c_28 : List aI := [.iload 0, .iconst 9, .if_icmp .eq 12, .iload 0, .iconst 10, .if_icmp .eq 12, .iload 0, .iconst 13, .if_icmp .eq 12, .iload 0, .iconst 32, .if_icmp .ne 14, .iconst 1, .goto 15,
  .iconst 0, .freturn]
def p_28 : List Nat := [0, 1, 3, 6, 7, 9, 12, 13, 15, 18, 19, 21, 24, 25, 28, 29]
/-- WakeHouse$Tape.put(IIJ)V -/
def c_29 : List aI := [.aload 0, .getfield 1007, .aload 0, .getfield 1002, .arraylength, .if_icmp .ge 30, .aload 0, .getfield 1002, .aload 0, .getfield 1007, .iload 1, .iastore, .aload 0, .getfield 1003,
  .aload 0, .getfield 1007, .iload 2, .iastore, .aload 0, .getfield 1004, .aload 0, .getfield 1007, .lload 3, .lastore, .aload 0, .dup, .getfield 1007, .iconst 1,
  .fadd, .putfield 1007, .return_]
def p_29 : List Nat := [0, 1, 4, 5, 8, 9, 12, 13, 16, 17, 20, 21, 22, 23, 26, 27, 30, 31, 32, 33, 36, 37, 40, 41, 42, 43, 44, 47, 48, 49,
  52]
/-- WakeHouse$Tape.isLetter(I)Z -/
def c_30 : List aI := [.iload 0, .iconst 97, .if_icmp .lt 8, .iload 0, .iconst 122, .if_icmp .gt 8, .iconst 1, .goto 9, .iconst 0, .freturn]
def p_30 : List Nat := [0, 1, 3, 6, 7, 9, 12, 13, 16, 17]
/-- WakeHouse$Tape.scanLetters()Z -/
def c_31 : List aI := [.aload 0, .getfield 1006, .istore 1, .bipush 0, .lstore 2, .nop, .aload 0, .getfield 1006, .aload 0, .getfield 1005, .if_icmp .ge 41, .aload 0, .getfield 1000, .aload 0,
  .getfield 1006, .baload, .invokestatic 30, .ifCond .eq 41, .aload 0, .getfield 1006, .iload 1, .fsub, .iconst 8, .if_icmp .ge 32, .lload 2, .aload 0, .getfield 1000, .aload 0,
  .getfield 1006, .baload, .invokestatic 9, .goto 33, .lload 2, .lstore 2, .aload 0, .dup, .getfield 1006, .iconst 1, .fadd, .putfield 1006, .goto 5, .aload 0,
  .getfield 1006, .iload 1, .fsub, .iconst 8, .if_icmp .le 54, .aload 0, .iconst 32, .iload 1, .bipush 0, .invokevirtual 29, .iconst 0, .freturn, .iconst 18, .istore 4,
  .iconst 0, .istore 5, .nop, .iload 5, .iconst 18, .if_icmp .ge 78, .iload 4, .iconst 18, .if_icmp .ne 78, .aload 0, .getfield 1001, .iload 5, .laload, .lload 2,
  .lcmp, .ifCond .ne 74, .iload 5, .goto 75, .iconst 18, .istore 4, .iinc 5 1, .goto 58, .aload 0, .iload 4, .iload 1, .lload 2, .invokevirtual 29, .iconst 1,
  .freturn]
def p_31 : List Nat := [0, 1, 4, 5, 6, 7, 7, 8, 11, 12, 15, 18, 19, 22, 23, 26, 27, 30, 33, 34, 37, 38, 39, 41, 44, 45, 46, 49, 50, 53,
  54, 57, 60, 61, 62, 63, 64, 67, 68, 69, 72, 75, 76, 79, 80, 81, 83, 86, 87, 89, 90, 91, 94, 95, 96, 98, 100, 101, 103, 103,
  105, 107, 110, 112, 114, 117, 118, 121, 123, 124, 125, 126, 129, 131, 134, 136, 138, 141, 144, 145, 147, 148, 149, 152, 153]
/-- WakeHouse$Tape.isDigit(I)Z -/
def c_32 : List aI := [.iload 0, .iconst 48, .if_icmp .lt 8, .iload 0, .iconst 57, .if_icmp .gt 8, .iconst 1, .goto 9, .iconst 0, .freturn]
def p_32 : List Nat := [0, 1, 3, 6, 7, 9, 12, 13, 16, 17]
/-- WakeHouse$Tape.scanDigits()Z -/
def c_33 : List aI := [.aload 0, .getfield 1006, .istore 1, .iconst 0, .istore 2, .nop, .aload 0, .getfield 1006, .aload 0, .getfield 1005, .if_icmp .ge 46, .aload 0, .getfield 1000, .aload 0,
  .getfield 1006, .baload, .invokestatic 32, .ifCond .eq 46, .aload 0, .getfield 1006, .iload 1, .fsub, .iconst 4, .if_icmp .ge 36, .iload 2, .iconst 10, .fmul, .aload 0,
  .getfield 1000, .aload 0, .getfield 1006, .baload, .iconst 48, .fsub, .fadd, .goto 37, .iload 2, .istore 2, .nop, .aload 0, .dup, .getfield 1006,
  .iconst 1, .fadd, .putfield 1006, .goto 5, .nop, .aload 0, .getfield 1006, .iload 1, .fsub, .iconst 4, .if_icmp .gt 55, .iconst 1, .goto 56, .iconst 0,
  .istore 3, .nop, .aload 0, .iload 3, .ifCond .eq 63, .iconst 19, .goto 64, .iconst 32, .iload 1, .iload 2, .i2l, .invokevirtual 29, .nop, .iload 3,
  .freturn]
def p_33 : List Nat := [0, 1, 4, 5, 6, 7, 7, 8, 11, 12, 15, 18, 19, 22, 23, 26, 27, 30, 33, 34, 37, 38, 39, 40, 43, 44, 46, 47, 48, 51,
  52, 55, 56, 58, 59, 60, 63, 64, 65, 65, 66, 67, 70, 71, 72, 75, 78, 78, 79, 82, 83, 84, 85, 88, 89, 92, 93, 94, 94, 95,
  96, 99, 101, 104, 106, 107, 108, 109, 112, 112, 113]
/-- WakeHouse$Tape.scanSign(I)Z -/
def c_34 : List aI := [.aload 0, .getfield 1006, .istore 2, .iconst 32, .istore 3, .iload 1, .iconst 61, .if_icmp .ne 28, .iload 2, .iconst 1, .fadd, .aload 0, .getfield 1005, .if_icmp .ge 24,
  .aload 0, .getfield 1000, .iload 2, .iconst 1, .fadd, .baload, .iconst 61, .if_icmp .ne 24, .iconst 30, .goto 26, .nop, .iconst 32, .istore 3, .goto 43,
  .iload 1, .ifCond .le 43, .getstatic 6, .iload 1, .i2c, .invokevirtual 35, .istore 4, .iload 4, .ifCond .lt 41, .iconst 20, .iload 4, .fadd, .goto 42, .iconst 32,
  .istore 3, .nop, .aload 0, .iload 3, .iload 2, .bipush 0, .invokevirtual 29, .aload 0, .dup, .getfield 1006, .iload 3, .iconst 30, .if_icmp .ne 57, .iconst 2,
  .goto 58, .iconst 1, .fadd, .putfield 1006, .nop, .iload 3, .iconst 32, .if_icmp .eq 66, .iconst 1, .goto 67, .iconst 0, .freturn]
def p_34 : List Nat := [0, 1, 4, 5, 7, 8, 9, 11, 14, 15, 16, 17, 18, 21, 24, 25, 28, 29, 30, 31, 32, 34, 37, 39, 42, 42, 44, 45, 48, 49,
  52, 54, 55, 56, 59, 61, 63, 66, 68, 70, 71, 74, 76, 77, 77, 78, 79, 80, 81, 84, 85, 86, 89, 90, 92, 95, 96, 99, 100, 101,
  104, 104, 105, 107, 110, 111, 114, 115]
/-- java/lang/String.indexOf(I)I -/
def c_35 : List aI := [.aload 0, .iload 1, .iconst 0, .invokevirtual 36, .ireturn]
def p_35 : List Nat := [0, 1, 2, 3, 6]
/-- java/lang/String.indexOf(II)I -/
def c_36 : List aI := [.aload 0, .invokevirtual 5, .ifCond .eq 11, .aload 0, .getfield 2000, .iload 1, .iload 2, .aload 0, .invokevirtual 2, .invokestatic 37, .goto 18, .aload 0, .getfield 2000, .iload 1,
  .iload 2, .aload 0, .invokevirtual 2, .athrow, .ireturn]
def p_36 : List Nat := [0, 1, 4, 7, 8, 11, 12, 13, 14, 17, 20, 23, 24, 27, 28, 29, 30, 33, 36]
/-- java/lang/StringLatin1.indexOf([BIII)I -/
def c_37 : List aI := [.iload 1, .invokestatic 38, .ifCond .ne 5, .iconst (-1), .ireturn, .iload 2, .iconst 0, .invokeinterface 2 0, .istore 2, .iload 3, .aload 0, .arraylength, .invokeinterface 3 0, .istore 3,
  .iload 2, .iload 3, .if_icmp .lt 19, .iconst (-1), .ireturn, .aload 0, .iload 1, .iload 2, .iload 3, .invokestatic 39, .ireturn]
def p_37 : List Nat := [0, 1, 4, 7, 8, 9, 10, 11, 14, 15, 16, 17, 18, 21, 22, 23, 24, 27, 28, 29, 30, 31, 32, 33, 36]
/-- java/lang/StringLatin1.canEncode(I)Z -/
def c_38 : List aI := [.iload 0, .ifCond .lt 7, .iload 0, .iconst 255, .if_icmp .gt 7, .iconst 1, .goto 8, .iconst 0, .freturn]
def p_38 : List Nat := [0, 1, 4, 5, 8, 11, 12, 15, 16]
/-- java/lang/StringLatin1.indexOfChar([BIII)I -/
def c_39 : List aI := [.iload 1, .i2b, .istore 4, .iload 2, .istore 5, .nop, .iload 5, .iload 3, .if_icmp .ge 18, .aload 0, .iload 5, .baload, .iload 4, .if_icmp .ne 16,
  .iload 5, .ireturn, .iinc 5 1, .goto 5, .iconst (-1), .ireturn]
def p_39 : List Nat := [0, 1, 2, 4, 5, 7, 7, 9, 10, 13, 14, 16, 17, 19, 22, 24, 25, 28, 31, 32]
/-- WakeHouse$House.clear()V -/
def c_40 : List aI := [.aload 0, .iconst 0, .putfield 314, .aload 0, .iconst 0, .putfield 315, .aload 0, .iconst 0, .putfield 316, .aload 0, .iconst 0, .putfield 317, .aload 0, .iconst 0,
  .putfield 318, .aload 0, .invokevirtual 41, .aload 0, .getfield 313, .iconst 0, .putfield 402, .aload 0, .getfield 313, .iconst 0, .invokevirtual 42, .return_]
def p_40 : List Nat := [0, 1, 2, 5, 6, 7, 10, 11, 12, 15, 16, 17, 20, 21, 22, 25, 26, 29, 30, 33, 34, 37, 38, 41, 42, 45]
/-- WakeHouse$House.putUsualHearing()V -/
def c_41 : List aI := [.aload 0, .getfield 312, .iconst 0, .putfield 402, .aload 0, .getfield 312, .iconst (-1), .invokevirtual 42, .aload 0, .getfield 312, .iconst (-2), .invokevirtual 42, .aload 0, .getfield 312,
  .iconst (-22), .invokevirtual 42, .aload 0, .getfield 312, .iconst (-3), .invokevirtual 42, .aload 0, .getfield 312, .iconst 3, .invokevirtual 42, .aload 0, .getfield 312, .iconst (-23), .invokevirtual 42,
  .aload 0, .getfield 312, .iconst (-22), .invokevirtual 42, .aload 0, .getfield 312, .iconst (-6), .invokevirtual 42, .aload 0, .getfield 312, .iconst 4, .invokevirtual 42, .aload 0, .getfield 312,
  .iconst (-23), .invokevirtual 42, .aload 0, .getfield 312, .iconst (-22), .invokevirtual 42, .return_]
def p_41 : List Nat := [0, 1, 4, 5, 8, 9, 12, 13, 16, 17, 20, 22, 25, 26, 29, 31, 34, 35, 38, 40, 43, 44, 47, 48, 51, 52, 55, 57, 60, 61,
  64, 66, 69, 70, 73, 75, 78, 79, 82, 83, 86, 87, 90, 92, 95, 96, 99, 101, 104]
/-- WakeHouse$Law.put(I)V -/
def c_42 : List aI := [.aload 0, .getfield 402, .iconst 400, .if_icmp .ge 16, .aload 0, .getfield 400, .aload 0, .getfield 402, .iload 1, .iastore, .aload 0, .dup, .getfield 402, .iconst 1,
  .fadd, .putfield 402, .return_]
def p_42 : List Nat := [0, 1, 4, 7, 10, 11, 14, 15, 18, 19, 20, 21, 22, 25, 26, 27, 30]
/-- WakeHouse$Reader.kind()I -/
def c_43 : List aI := [.aload 0, .getfield 600, .getfield 1002, .aload 0, .getfield 609, .iaload, .ireturn]
def p_43 : List Nat := [0, 1, 4, 7, 8, 11, 12]
/-- WakeHouse$Reader.tell()Z -/
def c_44 : List aI := [.aload 0, .invokevirtual 43, .tableswitch 24 7 17 #[3, 6, 24, 24, 9, 24, 24, 24, 24, 12, 18], .aload 0, .invokevirtual 45, .freturn, .aload 0, .invokevirtual 53, .freturn, .aload 0, .invokevirtual 54, .freturn, .aload 0, .aload 0,
  .getfield 601, .getfield 312, .invokevirtual 57, .freturn, .aload 0, .aload 0, .getfield 601, .getfield 313, .invokevirtual 57, .freturn, .aload 0, .iconst 1, .invokevirtual 46, .freturn]
def p_44 : List Nat := [0, 1, 4, 64, 65, 68, 69, 70, 73, 74, 75, 78, 79, 80, 81, 84, 87, 90, 91, 92, 93, 96, 99, 102, 103, 104, 105, 108]
/-- WakeHouse$Reader.tellBed()Z -/
def c_45 : List aI := [.aload 0, .getfield 601, .getfield 314, .istore 1, .iload 1, .iconst 12, .if_icmp .lt 11, .aload 0, .iconst 2, .invokevirtual 46, .freturn, .aload 0, .invokevirtual 47, .ifCond .eq 23,
  .aload 0, .iload 1, .invokevirtual 48, .ifCond .eq 23, .aload 0, .iconst 0, .iconst 3, .invokevirtual 51, .ifCond .ne 25, .iconst 0, .freturn, .aload 0, .getfield 601, .getfield 300,
  .iload 1, .aload 0, .getfield 610, .iastore, .aload 0, .iconst 0, .iconst 9, .invokevirtual 51, .ifCond .ne 39, .iconst 0, .freturn, .aload 0, .getfield 601, .getfield 301,
  .iload 1, .aload 0, .getfield 610, .iastore, .aload 0, .getfield 601, .dup, .getfield 314, .iconst 1, .fadd, .putfield 314, .aload 0, .iconst 20, .invokevirtual 52,
  .freturn]
def p_45 : List Nat := [0, 1, 4, 7, 8, 9, 11, 14, 15, 16, 19, 20, 21, 24, 27, 28, 29, 32, 35, 36, 37, 38, 41, 44, 45, 46, 47, 50, 53, 54,
  55, 58, 59, 60, 61, 63, 66, 69, 70, 71, 72, 75, 78, 79, 80, 83, 84, 85, 88, 89, 92, 93, 94, 97, 98, 100, 103]
/-- WakeHouse$Reader.fail(I)Z -/
def c_46 : List aI := [.aload 0, .iload 1, .putfield 611, .aload 0, .aload 0, .getfield 600, .getfield 1003, .aload 0, .getfield 609, .iaload, .putfield 612, .iconst 0, .freturn]
def p_46 : List Nat := [0, 1, 2, 5, 6, 7, 10, 13, 14, 17, 18, 21, 22]
/-- WakeHouse$Reader.goOn()Z -/
def c_47 : List aI := [.aload 0, .getfield 609, .iconst 400, .if_icmp .lt 8, .aload 0, .iconst 2, .invokevirtual 46, .freturn, .aload 0, .dup, .getfield 609, .iconst 1, .fadd, .putfield 609,
  .iconst 1, .freturn]
def p_47 : List Nat := [0, 1, 4, 7, 10, 11, 12, 15, 16, 17, 18, 21, 22, 23, 26, 27]
/-- WakeHouse$Reader.takeNewName(I)Z -/
def c_48 : List aI := [.aload 0, .invokevirtual 43, .iconst 18, .if_icmp .eq 8, .aload 0, .iconst 1, .invokevirtual 46, .freturn, .aload 0, .getfield 600, .getfield 1004, .aload 0, .getfield 609, .laload,
  .lstore 2, .aload 0, .lload 2, .invokevirtual 49, .iconst (-1), .if_icmp .eq 24, .aload 0, .iconst 3, .invokevirtual 50, .goto 48, .aload 0, .getfield 604, .aload 0, .getfield 602,
  .arraylength, .if_icmp .ge 48, .aload 0, .getfield 602, .aload 0, .getfield 604, .lload 2, .lastore, .aload 0, .getfield 603, .aload 0, .getfield 604, .iload 1, .iastore,
  .aload 0, .dup, .getfield 604, .iconst 1, .fadd, .putfield 604, .aload 0, .invokevirtual 47, .freturn]
def p_48 : List Nat := [0, 1, 4, 6, 9, 10, 11, 14, 15, 16, 19, 22, 23, 26, 27, 28, 29, 30, 33, 34, 37, 38, 39, 42, 45, 46, 49, 50, 53, 54,
  57, 58, 61, 62, 65, 66, 67, 68, 71, 72, 75, 76, 77, 78, 79, 82, 83, 84, 87, 88, 91]
/-- WakeHouse$Reader.numberOf(J)I -/
def c_49 : List aI := [.iconst 0, .istore 3, .nop, .iload 3, .aload 0, .getfield 604, .if_icmp .ge 18, .aload 0, .getfield 602, .iload 3, .laload, .lload 1, .lcmp, .ifCond .ne 16,
  .iload 3, .ireturn, .iinc 3 1, .goto 2, .iconst (-1), .ireturn]
def p_49 : List Nat := [0, 1, 2, 2, 3, 4, 7, 10, 11, 14, 15, 16, 17, 18, 21, 22, 23, 26, 29, 30]
/-- WakeHouse$Reader.doubt(I)V -/
def c_50 : List aI := [.aload 0, .getfield 613, .ifCond .ne 14, .aload 0, .iload 1, .putfield 613, .aload 0, .aload 0, .getfield 600, .getfield 1003, .aload 0, .getfield 609, .iaload, .putfield 614,
  .return_]
def p_50 : List Nat := [0, 1, 4, 7, 8, 9, 12, 13, 14, 17, 20, 21, 24, 25, 28]
/-- WakeHouse$Reader.takeInt(II)Z -/
def c_51 : List aI := [.aload 0, .invokevirtual 43, .iconst 19, .if_icmp .eq 8, .aload 0, .iconst 1, .invokevirtual 46, .freturn, .aload 0, .aload 0, .getfield 600, .getfield 1004, .aload 0, .getfield 609,
  .laload, .l2i, .putfield 610, .aload 0, .getfield 610, .iload 1, .if_icmp .lt 25, .aload 0, .getfield 610, .iload 2, .if_icmp .le 28, .aload 0, .iconst 5, .invokevirtual 50,
  .aload 0, .invokevirtual 47, .freturn]
def p_51 : List Nat := [0, 1, 4, 6, 9, 10, 11, 14, 15, 16, 17, 20, 23, 24, 27, 28, 29, 32, 33, 36, 37, 40, 41, 44, 45, 48, 49, 50, 53, 54,
  57]
/-- WakeHouse$Reader.take(I)Z -/
def c_52 : List aI := [.aload 0, .invokevirtual 43, .iload 1, .if_icmp .ne 7, .aload 0, .invokevirtual 47, .goto 10, .aload 0, .iconst 1, .invokevirtual 46, .freturn]
def p_52 : List Nat := [0, 1, 4, 5, 8, 9, 12, 15, 16, 17, 20]
/-- WakeHouse$Reader.tellClock()Z -/
def c_53 : List aI := [.aload 0, .getfield 601, .getfield 315, .istore 1, .iload 1, .iconst 9, .if_icmp .lt 11, .aload 0, .iconst 2, .invokevirtual 46, .freturn, .aload 0, .invokevirtual 47, .ifCond .eq 23,
  .aload 0, .iconst (-1), .invokevirtual 48, .ifCond .eq 23, .aload 0, .iconst 1, .iconst 12, .invokevirtual 51, .ifCond .ne 26, .nop, .iconst 0, .freturn, .aload 0, .getfield 601,
  .getfield 302, .iload 1, .aload 0, .getfield 610, .iastore, .aload 0, .getfield 601, .getfield 303, .iload 1, .iconst 0, .iastore, .aload 0, .invokevirtual 43, .istore 2,
  .iload 2, .iconst 9, .if_icmp .eq 48, .iload 2, .iconst 10, .if_icmp .ne 74, .nop, .aload 0, .invokevirtual 47, .ifCond .eq 57, .aload 0, .iconst 0, .iconst 30, .invokevirtual 51,
  .ifCond .ne 60, .nop, .iconst 0, .freturn, .aload 0, .getfield 601, .getfield 303, .iload 1, .iload 2, .iconst 9, .if_icmp .ne 71, .aload 0, .getfield 610, .ineg,
  .goto 73, .aload 0, .getfield 610, .iastore, .nop, .aload 0, .getfield 601, .dup, .getfield 315, .iconst 1, .fadd, .putfield 315, .aload 0, .iconst 20,
  .invokevirtual 52, .freturn]
def p_53 : List Nat := [0, 1, 4, 7, 8, 9, 11, 14, 15, 16, 19, 20, 21, 24, 27, 28, 29, 32, 35, 36, 37, 39, 42, 45, 45, 46, 47, 48, 51, 54,
  55, 56, 59, 60, 61, 64, 67, 68, 69, 70, 71, 74, 75, 76, 78, 81, 82, 84, 87, 87, 88, 91, 94, 95, 96, 98, 101, 104, 104, 105,
  106, 107, 110, 113, 114, 115, 117, 120, 121, 124, 125, 128, 129, 132, 133, 133, 134, 137, 138, 141, 142, 143, 146, 147, 149, 152]
/-- WakeHouse$Reader.tellSleeper()Z -/
def c_54 : List aI := [.aload 0, .getfield 601, .getfield 316, .istore 1, .iload 1, .iconst 12, .if_icmp .lt 11, .aload 0, .iconst 2, .invokevirtual 46, .freturn, .aload 0, .invokevirtual 47, .ifCond .eq 25,
  .aload 0, .iconst (-1), .invokevirtual 48, .ifCond .eq 25, .aload 0, .iconst 12, .invokevirtual 52, .ifCond .eq 25, .aload 0, .invokevirtual 55, .ifCond .ne 27, .iconst 0, .freturn, .aload 0,
  .getfield 601, .getfield 304, .iload 1, .aload 0, .getfield 610, .iastore, .aload 0, .iconst 4, .invokevirtual 52, .ifCond .eq 43, .aload 0, .iconst 0, .iconst 9, .invokevirtual 51,
  .ifCond .ne 45, .iconst 0, .freturn, .aload 0, .getfield 601, .getfield 305, .iload 1, .aload 0, .getfield 610, .iastore, .aload 0, .getfield 601, .getfield 306, .iload 1,
  .iconst (-2), .iastore, .aload 0, .getfield 601, .getfield 307, .iload 1, .iconst 0, .iastore, .aload 0, .getfield 601, .getfield 308, .iload 1, .iconst 0, .iastore,
  .aload 0, .iload 1, .invokevirtual 56, .ifCond .ne 76, .iconst 0, .freturn, .aload 0, .getfield 601, .dup, .getfield 316, .iconst 1, .fadd, .putfield 316, .aload 0,
  .iconst 20, .invokevirtual 52, .freturn]
def p_54 : List Nat := [0, 1, 4, 7, 8, 9, 11, 14, 15, 16, 19, 20, 21, 24, 27, 28, 29, 32, 35, 36, 38, 41, 44, 45, 48, 51, 52, 53, 54, 57,
  60, 61, 62, 65, 66, 67, 68, 71, 74, 75, 76, 78, 81, 84, 85, 86, 87, 90, 93, 94, 95, 98, 99, 100, 103, 106, 107, 109, 110, 111,
  114, 117, 118, 119, 120, 121, 124, 127, 128, 129, 130, 131, 132, 135, 138, 139, 140, 141, 144, 145, 148, 149, 150, 153, 154, 156, 159]
/-- WakeHouse$Reader.takeBedName()Z -/
def c_55 : List aI := [.aload 0, .invokevirtual 43, .iconst 18, .if_icmp .eq 8, .aload 0, .iconst 1, .invokevirtual 46, .freturn, .aload 0, .aload 0, .getfield 600, .getfield 1004, .aload 0, .getfield 609,
  .laload, .invokevirtual 49, .istore 1, .aload 0, .iload 1, .iconst (-1), .if_icmp .ne 23, .iconst (-1), .goto 27, .aload 0, .getfield 603, .iload 1, .iaload, .putfield 610,
  .aload 0, .getfield 610, .iconst (-1), .if_icmp .ne 36, .aload 0, .iconst 4, .invokevirtual 50, .goto 58, .aload 0, .getfield 605, .aload 0, .getfield 610, .ishr, .iconst 1,
  .iand, .iconst 1, .if_icmp .ne 49, .aload 0, .iconst 3, .invokevirtual 50, .goto 58, .aload 0, .dup, .getfield 605, .iconst 1, .aload 0, .getfield 610, .ishl,
  .ior, .putfield 605, .aload 0, .invokevirtual 47, .freturn]
def p_55 : List Nat := [0, 1, 4, 6, 9, 10, 11, 14, 15, 16, 17, 20, 23, 24, 27, 28, 31, 32, 33, 34, 35, 38, 39, 42, 43, 46, 47, 48, 51, 52,
  55, 56, 59, 60, 61, 64, 67, 68, 71, 72, 75, 76, 77, 78, 79, 82, 83, 84, 87, 90, 91, 92, 95, 96, 97, 100, 101, 102, 105, 106,
  109]
/-- WakeHouse$Reader.takeDuty(I)Z -/
def c_56 : List aI := [.aload 0, .invokevirtual 43, .iconst 13, .if_icmp .ne 40, .aload 0, .invokevirtual 47, .ifCond .eq 12, .aload 0, .iconst 0, .iconst 399, .invokevirtual 51, .ifCond .ne 14, .iconst 0, .freturn,
  .aload 0, .getfield 601, .getfield 306, .iload 1, .aload 0, .getfield 610, .iastore, .aload 0, .iconst 14, .invokevirtual 52, .ifCond .eq 30, .aload 0, .iconst 0, .iconst 9,
  .invokevirtual 51, .ifCond .ne 32, .iconst 0, .freturn, .aload 0, .getfield 601, .getfield 307, .iload 1, .aload 0, .getfield 610, .iastore, .goto 61, .aload 0, .invokevirtual 43,
  .iconst 15, .if_icmp .ne 61, .aload 0, .invokevirtual 47, .ifCond .eq 52, .aload 0, .iconst 0, .iconst 9, .invokevirtual 51, .ifCond .ne 54, .iconst 0, .freturn, .aload 0, .getfield 601,
  .getfield 308, .iload 1, .aload 0, .getfield 610, .iastore, .iconst 1, .freturn]
def p_56 : List Nat := [0, 1, 4, 6, 9, 10, 13, 16, 17, 18, 21, 24, 27, 28, 29, 30, 33, 36, 37, 38, 41, 42, 43, 45, 48, 51, 52, 53, 55, 58,
  61, 62, 63, 64, 67, 70, 71, 72, 75, 76, 79, 80, 83, 85, 88, 89, 92, 95, 96, 97, 99, 102, 105, 106, 107, 108, 111, 114, 115, 116,
  119, 120, 121]
/-- WakeHouse$Reader.tellLaw(LWakeHouse$Law;)Z -/
def c_57 : List aI := [.aload 1, .iconst 0, .putfield 402, .aload 0, .iconst 0, .putfield 607, .aload 0, .iconst 0, .putfield 608, .iconst 1, .istore 2, .aload 0, .invokevirtual 47, .istore 3,
  .iconst 0, .istore 4, .nop, .iload 4, .iconst 400, .if_icmp .gt 97, .iload 3, .ifCond .eq 97, .aload 0, .invokevirtual 43, .istore 5, .iload 2, .ifCond .eq 51, .iload 5,
  .iconst 26, .if_icmp .eq 33, .iload 5, .iconst 28, .if_icmp .ne 36, .nop, .iconst 1, .goto 37, .iconst 0, .istore 2, .nop, .iload 2, .ifCond .eq 45, .aload 0,
  .iload 5, .invokevirtual 58, .goto 49, .aload 0, .aload 1, .iload 5, .invokevirtual 60, .istore 3, .goto 79, .iload 5, .iconst 21, .if_icmp .lt 57, .iload 5, .iconst 25,
  .if_icmp .le 61, .nop, .iload 5, .iconst 30, .if_icmp .ne 64, .nop, .iconst 1, .goto 65, .iconst 0, .istore 2, .nop, .iload 2, .ifCond .eq 74, .aload 0,
  .aload 1, .iload 5, .invokevirtual 61, .goto 78, .aload 0, .aload 1, .iload 5, .invokevirtual 64, .istore 3, .nop, .iload 3, .ifCond .eq 87, .aload 0, .invokevirtual 47,
  .ifCond .eq 87, .iconst 1, .goto 89, .nop, .iconst 0, .istore 3, .nop, .iload 5, .iconst 20, .if_icmp .ne 95, .goto 97, .iinc 4 1, .goto 16, .nop,
  .iload 3, .freturn]
def p_57 : List Nat := [0, 1, 2, 5, 6, 7, 10, 11, 12, 15, 16, 17, 18, 21, 22, 23, 25, 25, 27, 30, 33, 34, 37, 38, 41, 43, 44, 47, 49, 51,
  54, 56, 58, 61, 61, 62, 65, 66, 67, 67, 68, 71, 72, 74, 77, 80, 81, 82, 84, 87, 88, 91, 93, 95, 98, 100, 102, 105, 105, 107,
  109, 112, 112, 113, 116, 117, 118, 118, 119, 122, 123, 124, 126, 129, 132, 133, 134, 136, 139, 140, 140, 141, 144, 145, 148, 151, 152, 155, 155, 156,
  157, 157, 159, 161, 164, 167, 170, 173, 173, 174]
/-- WakeHouse$Reader.open(I)Z -/
def c_58 : List aI := [.aload 0, .getfield 608, .iconst 6, .if_icmp .lt 8, .aload 0, .iconst 2, .invokevirtual 46, .freturn, .aload 0, .dup, .getfield 608, .iconst 1, .fadd, .putfield 608,
  .aload 0, .iload 1, .invokevirtual 59, .iconst 1, .freturn]
def p_58 : List Nat := [0, 1, 4, 6, 9, 10, 11, 14, 15, 16, 17, 20, 21, 22, 25, 26, 27, 30, 31]
/-- WakeHouse$Reader.pushSign(I)V -/
def c_59 : List aI := [.aload 0, .getfield 607, .aload 0, .getfield 606, .arraylength, .if_icmp .ge 18, .aload 0, .getfield 606, .aload 0, .getfield 607, .iload 1, .iastore, .aload 0, .dup,
  .getfield 607, .iconst 1, .fadd, .putfield 607, .return_]
def p_59 : List Nat := [0, 1, 4, 5, 8, 9, 12, 13, 16, 17, 20, 21, 22, 23, 24, 27, 28, 29, 32]
/-- WakeHouse$Reader.putUnit(LWakeHouse$Law;I)Z -/
def c_60 : List aI := [.iload 2, .iconst 19, .if_icmp .ne 14, .aload 1, .aload 0, .getfield 600, .getfield 1004, .aload 0, .getfield 609, .laload, .l2i, .invokevirtual 42, .iconst 1, .freturn,
  .iload 2, .iconst 6, .if_icmp .le 21, .aload 0, .iconst 1, .invokevirtual 46, .freturn, .aload 1, .iconst (-1), .iload 2, .fsub, .invokevirtual 42, .iconst 1, .freturn]
def p_60 : List Nat := [0, 1, 3, 6, 7, 8, 11, 14, 15, 18, 19, 20, 23, 24, 25, 26, 28, 31, 32, 33, 36, 37, 38, 39, 40, 41, 44, 45]
/-- WakeHouse$Reader.putSign(LWakeHouse$Law;I)Z -/
def c_61 : List aI := [.iload 2, .iconst 23, .if_icmp .eq 6, .iload 2, .iconst 24, .if_icmp .ne 9, .nop, .iconst 1, .goto 10, .iconst 0, .istore 3, .nop, .iload 2, .iconst 25,
  .if_icmp .eq 18, .iload 2, .iconst 30, .if_icmp .ne 21, .nop, .iconst 1, .goto 22, .iconst 0, .istore 4, .nop, .aload 0, .aload 1, .iload 3, .invokevirtual 62,
  .iload 4, .ifCond .eq 38, .aload 0, .iconst 28, .invokevirtual 63, .ifCond .ne 38, .aload 0, .iconst 1, .invokevirtual 46, .freturn, .nop, .aload 0, .iload 2, .invokevirtual 59,
  .iconst 1, .freturn]
def p_61 : List Nat := [0, 1, 3, 6, 7, 9, 12, 12, 13, 16, 17, 18, 18, 19, 21, 24, 25, 27, 30, 30, 31, 34, 35, 37, 37, 38, 39, 40, 43, 45,
  48, 49, 51, 54, 57, 58, 59, 62, 63, 63, 64, 65, 68, 69]
/-- WakeHouse$Reader.putWaiting(LWakeHouse$Law;Z)V -/
def c_62 : List aI := [.iload 2, .ifCond .eq 4, .iconst 23, .goto 5, .iconst 21, .istore 3, .nop, .aload 0, .getfield 607, .ifCond .le 43, .aload 0, .getfield 606, .aload 0, .getfield 607,
  .iconst 1, .fsub, .iaload, .iload 3, .if_icmp .lt 43, .aload 0, .getfield 606, .aload 0, .getfield 607, .iconst 1, .fsub, .iaload, .iconst 24, .if_icmp .gt 43,
  .aload 0, .dup, .getfield 607, .iconst 1, .fsub, .putfield 607, .aload 1, .aload 0, .getfield 606, .aload 0, .getfield 607, .iaload, .ineg, .invokevirtual 42,
  .goto 6, .return_]
def p_62 : List Nat := [0, 1, 4, 6, 9, 11, 12, 12, 13, 16, 19, 20, 23, 24, 27, 28, 29, 30, 31, 34, 35, 38, 39, 42, 43, 44, 45, 47, 50, 51,
  52, 55, 56, 57, 60, 61, 62, 65, 66, 69, 70, 71, 74, 77]
/-- WakeHouse$Reader.closes(I)Z -/
def c_63 : List aI := [.aload 0, .getfield 607, .ifCond .le 14, .aload 0, .getfield 606, .aload 0, .getfield 607, .iconst 1, .fsub, .iaload, .iload 1, .if_icmp .ne 14, .iconst 1, .goto 15,
  .iconst 0, .istore 2, .aload 0, .dup, .getfield 607, .iload 2, .ifCond .eq 23, .iconst 1, .goto 24, .iconst 0, .fsub, .putfield 607, .iload 2, .freturn]
def p_63 : List Nat := [0, 1, 4, 7, 8, 11, 12, 15, 16, 17, 18, 19, 22, 23, 26, 27, 28, 29, 30, 33, 34, 37, 38, 41, 42, 43, 46, 47]
/-- WakeHouse$Reader.close(LWakeHouse$Law;I)Z -/
def c_64 : List aI := [.aload 0, .aload 1, .iconst 0, .invokevirtual 62, .iload 2, .iconst 20, .if_icmp .ne 12, .aload 0, .getfield 607, .ifCond .ne 12, .iconst 1, .freturn, .nop, .iload 2,
  .iconst 27, .if_icmp .ne 28, .aload 0, .iconst 26, .invokevirtual 63, .ifCond .eq 28, .aload 0, .dup, .getfield 608, .iconst 1, .fsub, .putfield 608, .iconst 1, .freturn,
  .nop, .iload 2, .iconst 29, .if_icmp .eq 36, .aload 0, .iconst 1, .invokevirtual 46, .freturn, .aload 0, .iconst 25, .invokevirtual 63, .ifCond .eq 42, .iconst 25, .goto 43,
  .iconst 30, .istore 3, .nop, .iload 3, .iconst 30, .if_icmp .ne 56, .aload 0, .iconst 30, .invokevirtual 63, .ifCond .ne 56, .aload 0, .iconst 1, .invokevirtual 46, .freturn,
  .nop, .aload 1, .iload 3, .ineg, .invokevirtual 42, .aload 0, .dup, .getfield 608, .iconst 1, .fsub, .putfield 608, .iconst 1, .freturn]
def p_64 : List Nat := [0, 1, 2, 3, 6, 7, 9, 12, 13, 16, 19, 20, 21, 21, 22, 24, 27, 28, 30, 33, 36, 37, 38, 41, 42, 43, 46, 47, 48, 48,
  49, 51, 54, 55, 56, 59, 60, 61, 63, 66, 69, 71, 74, 76, 77, 77, 78, 80, 83, 84, 86, 89, 92, 93, 94, 97, 98, 98, 99, 100,
  101, 104, 105, 106, 109, 110, 111, 114, 115]
/-- WakeHouse$House.takeFrom(LWakeHouse$House;)V -/
def c_65 : List aI := [.aload 0, .aload 1, .getfield 314, .putfield 314, .aload 0, .aload 1, .getfield 315, .putfield 315, .aload 0, .aload 1, .getfield 316, .putfield 316, .aload 1, .getfield 300,
  .iconst 0, .aload 0, .getfield 300, .iconst 0, .aload 0, .getfield 314, .invokeinterface 1 0, .aload 1, .getfield 301, .iconst 0, .aload 0, .getfield 301, .iconst 0, .aload 0,
  .getfield 314, .invokeinterface 1 0, .aload 1, .getfield 302, .iconst 0, .aload 0, .getfield 302, .iconst 0, .aload 0, .getfield 315, .invokeinterface 1 0, .aload 1, .getfield 303, .iconst 0,
  .aload 0, .getfield 303, .iconst 0, .aload 0, .getfield 315, .invokeinterface 1 0, .aload 1, .getfield 304, .iconst 0, .aload 0, .getfield 304, .iconst 0, .aload 0, .getfield 316,
  .invokeinterface 1 0, .aload 1, .getfield 305, .iconst 0, .aload 0, .getfield 305, .iconst 0, .aload 0, .getfield 316, .invokeinterface 1 0, .aload 1, .getfield 306, .iconst 0, .aload 0,
  .getfield 306, .iconst 0, .aload 0, .getfield 316, .invokeinterface 1 0, .aload 1, .getfield 307, .iconst 0, .aload 0, .getfield 307, .iconst 0, .aload 0, .getfield 316, .invokeinterface 1 0,
  .aload 1, .getfield 308, .iconst 0, .aload 0, .getfield 308, .iconst 0, .aload 0, .getfield 316, .invokeinterface 1 0, .aload 0, .getfield 312, .aload 1, .getfield 312, .invokevirtual 66,
  .aload 0, .getfield 313, .aload 1, .getfield 313, .invokevirtual 66, .aload 0, .invokevirtual 67, .aload 0, .invokevirtual 69, .return_]
def p_65 : List Nat := [0, 1, 2, 5, 8, 9, 10, 13, 16, 17, 18, 21, 24, 25, 28, 29, 30, 33, 34, 35, 38, 41, 42, 45, 46, 47, 50, 51, 52, 55,
  58, 59, 62, 63, 64, 67, 68, 69, 72, 75, 76, 79, 80, 81, 84, 85, 86, 89, 92, 93, 96, 97, 98, 101, 102, 103, 106, 109, 110, 113,
  114, 115, 118, 119, 120, 123, 126, 127, 130, 131, 132, 135, 136, 137, 140, 143, 144, 147, 148, 149, 152, 153, 154, 157, 160, 161, 164, 165, 166, 169,
  170, 171, 174, 177, 178, 181, 182, 185, 188, 189, 192, 193, 196, 199, 200, 203, 204, 207]
/-- WakeHouse$Law.takeFrom(LWakeHouse$Law;)V -/
def c_66 : List aI := [.aload 0, .aload 1, .getfield 402, .putfield 402, .aload 1, .getfield 400, .iconst 0, .aload 0, .getfield 400, .iconst 0, .aload 0, .getfield 402, .invokeinterface 1 0, .return_]
def p_66 : List Nat := [0, 1, 2, 5, 8, 9, 12, 13, 14, 17, 18, 19, 22, 25]
/-- WakeHouse$House.listHours()V -/
def c_67 : List aI := [.aload 0, .iconst 0, .putfield 317, .iconst 0, .istore 1, .nop, .iload 1, .aload 0, .getfield 316, .if_icmp .ge 24, .aload 0, .getfield 306, .iload 1, .iaload,
  .iconst (-2), .if_icmp .eq 22, .aload 0, .aload 0, .getfield 306, .iload 1, .iaload, .invokevirtual 68, .iinc 1 1, .goto 5, .return_]
def p_67 : List Nat := [0, 1, 2, 5, 6, 7, 7, 8, 9, 12, 15, 16, 19, 20, 21, 23, 26, 27, 28, 31, 32, 33, 36, 39, 42]
/-- WakeHouse$House.listHour(I)V -/
def c_68 : List aI := [.iconst 0, .istore 2, .nop, .iload 2, .aload 0, .getfield 317, .if_icmp .ge 15, .aload 0, .getfield 309, .iload 2, .iaload, .iload 1, .if_icmp .ge 15, .iinc 2 1,
  .goto 2, .nop, .iload 2, .aload 0, .getfield 317, .if_icmp .eq 26, .aload 0, .getfield 309, .iload 2, .iaload, .iload 1, .if_icmp .eq 29, .nop, .iconst 1,
  .goto 30, .iconst 0, .istore 3, .nop, .iload 3, .ifCond .eq 70, .aload 0, .getfield 317, .aload 0, .getfield 309, .arraylength, .if_icmp .ge 70, .aload 0, .getfield 317,
  .istore 4, .nop, .iload 4, .iload 2, .if_icmp .le 59, .aload 0, .getfield 309, .iload 4, .aload 0, .getfield 309, .iload 4, .iconst 1, .fsub, .iaload,
  .iastore, .iinc 4 (-1), .goto 43, .aload 0, .getfield 309, .iload 2, .iload 1, .iastore, .aload 0, .dup, .getfield 317, .iconst 1, .fadd, .putfield 317,
  .return_]
def p_68 : List Nat := [0, 1, 2, 2, 3, 4, 7, 10, 11, 14, 15, 16, 17, 20, 23, 26, 26, 27, 28, 31, 34, 35, 38, 39, 40, 41, 44, 44, 45, 48,
  49, 50, 50, 51, 54, 55, 58, 59, 62, 63, 66, 67, 70, 72, 72, 74, 75, 78, 79, 82, 84, 85, 88, 90, 91, 92, 93, 94, 97, 100,
  101, 104, 105, 106, 107, 108, 109, 112, 113, 114, 117]
/-- WakeHouse$House.listEight()V -/
def c_69 : List aI := [.aload 0, .iconst 0, .putfield 318, .iconst 0, .istore 1, .nop, .iload 1, .aload 0, .getfield 316, .if_icmp .ge 34, .aload 0, .getfield 318, .iconst 8, .if_icmp .ge 34,
  .aload 0, .getfield 306, .iload 1, .iaload, .iconst (-2), .if_icmp .eq 32, .aload 0, .getfield 310, .aload 0, .getfield 318, .iload 1, .iastore, .aload 0, .dup,
  .getfield 318, .iconst 1, .fadd, .putfield 318, .iinc 1 1, .goto 5, .return_]
def p_69 : List Nat := [0, 1, 2, 5, 6, 7, 7, 8, 9, 12, 15, 16, 19, 21, 24, 25, 28, 29, 30, 32, 35, 36, 39, 40, 43, 44, 45, 46, 47, 50,
  51, 52, 55, 58, 61]
/-- WakeHouse$State.begin(LWakeHouse$House;)V -/
def c_70 : List aI := [.aload 0, .iconst 0, .putfield 910, .aload 0, .iconst 0, .putfield 911, .aload 0, .iconst 0, .putfield 912, .aload 0, .getfield 905, .iconst (-2), .invokestatic 71, .iconst 0,
  .istore 2, .nop, .iload 2, .aload 1, .getfield 316, .if_icmp .ge 38, .aload 0, .getfield 904, .iload 2, .aload 1, .getfield 304, .iload 2, .iaload, .iastore,
  .aload 0, .getfield 905, .aload 0, .getfield 904, .iload 2, .iaload, .iload 2, .iastore, .iinc 2 1, .goto 15, .return_]
def p_70 : List Nat := [0, 1, 2, 5, 6, 7, 10, 11, 12, 15, 16, 19, 21, 24, 25, 26, 26, 27, 28, 31, 34, 35, 38, 39, 40, 43, 44, 45, 46, 47,
  50, 51, 54, 55, 56, 57, 58, 61, 64]
/-- java/util/Arrays.fill([II)V -/
def c_71 : List aI := [.iconst 0, .istore 2, .aload 0, .arraylength, .istore 3, .nop, .iload 2, .iload 3, .if_icmp .ge 15, .aload 0, .iload 2, .iload 1, .iastore, .iinc 2 1,
  .goto 5, .return_]
def p_71 : List Nat := [0, 1, 2, 3, 4, 5, 5, 6, 7, 10, 11, 12, 13, 14, 17, 20]
/-- WakeHouse$Night.forget()V -/
def c_72 : List aI := [.aload 0, .getfield 505, .iconst (-1), .invokestatic 73, .return_]
def p_72 : List Nat := [0, 1, 4, 5, 8]
/-- java/util/Arrays.fill([BB)V -/
def c_73 : List aI := [.iconst 0, .istore 2, .aload 0, .arraylength, .istore 3, .nop, .iload 2, .iload 3, .if_icmp .ge 15, .aload 0, .iload 2, .iload 1, .bastore, .iinc 2 1,
  .goto 5, .return_]
def p_73 : List Nat := [0, 1, 2, 3, 4, 5, 5, 6, 7, 10, 11, 12, 13, 14, 17, 20]
/-- WakeHouse.place()I -/
def c_74 : List aI := [.aload 0, .getfield 1101, .getfield 612, .ireturn]
def p_74 : List Nat := [0, 1, 4, 7]
/-- WakeHouse.of(II)I -/
def c_75 : List aI := [.aload 0, .iload 1, .invokevirtual 76, .ifCond .ne 6, .iconst (-1), .ireturn, .iload 2, .tableswitch 43 0 5 #[8, 14, 20, 26, 32, 38], .aload 0, .getfield 1103, .getfield 904, .iload 1, .iaload, .ireturn,
  .aload 0, .getfield 1102, .getfield 305, .iload 1, .iaload, .ireturn, .aload 0, .getfield 1102, .getfield 306, .iload 1, .iaload, .ireturn, .aload 0, .getfield 1102,
  .getfield 307, .iload 1, .iaload, .ireturn, .aload 0, .getfield 1102, .getfield 308, .iload 1, .iaload, .ireturn, .aload 0, .getfield 1103, .iload 1, .invokevirtual 77,
  .ireturn, .iconst (-1), .ireturn]
def p_75 : List Nat := [0, 1, 2, 5, 8, 9, 10, 11, 48, 49, 52, 55, 56, 57, 58, 59, 62, 65, 66, 67, 68, 69, 72, 75, 76, 77, 78, 79, 82, 85,
  86, 87, 88, 89, 92, 95, 96, 97, 98, 99, 102, 103, 106, 107, 108]
/-- WakeHouse.isSleeper(I)Z -/
def c_76 : List aI := [.iload 1, .ifCond .lt 9, .iload 1, .aload 0, .getfield 1102, .getfield 316, .if_icmp .ge 9, .iconst 1, .goto 10, .iconst 0, .freturn]
def p_76 : List Nat := [0, 1, 4, 5, 6, 9, 12, 15, 16, 19, 20]
/-- WakeHouse$State.woolOf(I)I -/
def c_77 : List aI := [.aload 0, .getfield 911, .iload 1, .ishr, .iconst 1, .iand, .ireturn]
def p_77 : List Nat := [0, 1, 4, 5, 6, 7, 8]
/-- WakeHouse.lies(I)I -/
def c_78 : List aI := [.aload 0, .iload 1, .invokevirtual 79, .ifCond .eq 10, .aload 0, .getfield 1103, .getfield 905, .iload 1, .iaload, .goto 11, .iconst (-1), .ireturn]
def p_78 : List Nat := [0, 1, 2, 5, 8, 9, 12, 15, 16, 17, 20, 21]
/-- WakeHouse.isBed(I)Z -/
def c_79 : List aI := [.iload 1, .ifCond .lt 9, .iload 1, .aload 0, .getfield 1102, .getfield 314, .if_icmp .ge 9, .iconst 1, .goto 10, .iconst 0, .freturn]
def p_79 : List Nat := [0, 1, 4, 5, 6, 9, 12, 15, 16, 19, 20]
/-- WakeHouse.hears(IIII)I -/
def c_80 : List aI := [.aload 0, .iload 1, .invokevirtual 76, .ifCond .eq 14, .iload 2, .invokestatic 81, .ifCond .eq 14, .aload 0, .iload 3, .invokevirtual 79, .ifCond .eq 14, .iload 4, .invokestatic 82, .ifCond .ne 16,
  .iconst (-1), .ireturn, .aload 0, .getfield 1102, .iload 1, .aload 0, .getfield 1103, .getfield 904, .iload 1, .iaload, .aload 0, .getfield 1103, .iload 1, .invokevirtual 77,
  .iload 2, .iload 3, .iload 4, .invokevirtual 83, .ireturn]
def p_80 : List Nat := [0, 1, 2, 5, 8, 9, 12, 15, 16, 17, 20, 23, 25, 28, 31, 32, 33, 34, 37, 38, 39, 42, 45, 46, 47, 48, 51, 52, 55, 56,
  57, 59, 62]
/-- WakeHouse.isLoud(I)Z -/
def c_81 : List aI := [.iload 0, .iconst 1, .if_icmp .lt 8, .iload 0, .iconst 12, .if_icmp .gt 8, .iconst 1, .goto 9, .iconst 0, .freturn]
def p_81 : List Nat := [0, 1, 2, 5, 6, 8, 11, 12, 15, 16]
/-- WakeHouse.isMinute(I)Z -/
def c_82 : List aI := [.iload 0, .ifCond .lt 7, .iload 0, .iconst 400, .if_icmp .ge 7, .iconst 1, .goto 8, .iconst 0, .freturn]
def p_82 : List Nat := [0, 1, 4, 5, 8, 11, 12, 15, 16]
/-- WakeHouse$House.hearing(IIIIII)I -/
def c_83 : List aI := [.aload 0, .getfield 311, .iconst 0, .iload 4, .iastore, .aload 0, .getfield 311, .iconst 1, .aload 0, .iload 2, .iload 5, .invokevirtual 84, .iastore, .aload 0,
  .getfield 311, .iconst 2, .aload 0, .getfield 300, .iload 2, .iaload, .aload 0, .getfield 300, .iload 5, .iaload, .fsub, .invokeinterface 4 0, .iastore, .aload 0,
  .getfield 311, .iconst 3, .iload 6, .iconst 60, .idiv, .iastore, .aload 0, .getfield 311, .iconst 4, .aload 0, .getfield 305, .iload 1, .iaload, .iastore,
  .aload 0, .getfield 311, .iconst 5, .iload 3, .iastore, .aload 0, .getfield 312, .aload 0, .getfield 311, .invokevirtual 85, .iconst 0, .iconst 10, .invokestatic 86, .ireturn]
def p_83 : List Nat := [0, 1, 4, 5, 7, 8, 9, 12, 13, 14, 15, 17, 20, 21, 22, 25, 26, 27, 30, 31, 32, 33, 36, 38, 39, 40, 43, 44, 45, 48,
  49, 51, 53, 54, 55, 56, 59, 60, 61, 64, 65, 66, 67, 68, 71, 72, 73, 74, 75, 78, 79, 82, 85, 86, 88, 91]
/-- WakeHouse$House.apart(II)I -/
def c_84 : List aI := [.aload 0, .getfield 301, .iload 1, .iaload, .aload 0, .getfield 301, .iload 2, .iaload, .fsub, .invokeinterface 4 0, .ireturn]
def p_84 : List Nat := [0, 1, 4, 5, 6, 7, 10, 11, 12, 13, 16]
/-- WakeHouse$Law.value([I)I -/
def c_85 : List aI := [.iconst 0, .istore 2, .iconst 0, .istore 3, .nop, .iload 3, .aload 0, .getfield 402, .if_icmp .ge 105, .aload 0, .getfield 400, .iload 3, .iaload, .istore 4,
  .iload 4, .iconst (-7), .if_icmp .lt 33, .aload 0, .getfield 401, .iload 2, .iload 4, .ifCond .lt 24, .iload 4, .goto 29, .aload 1, .iconst (-1), .iload 4, .isub,
  .iaload, .iastore, .nop, .iinc 2 1, .goto 102, .iload 2, .iconst 2, .if_icmp .ge 38, .iconst 0, .ireturn, .iinc 2 (-1), .aload 0, .getfield 401, .iload 2,
  .iaload, .istore 5, .aload 0, .getfield 401, .iload 2, .iconst 1, .isub, .iaload, .istore 6, .iload 4, .ineg, .tableswitch 85 21 30 #[54, 59, 64, 85, 69, 85, 85, 85, 85, 77], .iload 6, .iload 5,
  .iadd, .istore 6, .goto 94, .iload 6, .iload 5, .isub, .istore 6, .goto 94, .iload 6, .iload 5, .imul, .istore 6, .goto 94, .iload 6,
  .iload 5, .if_icmp .ge 74, .iconst 1, .goto 75, .iconst 0, .istore 6, .goto 94, .iload 6, .iload 5, .if_icmp .ne 82, .iconst 1, .goto 83, .iconst 0, .istore 6,
  .goto 94, .nop, .iload 5, .ifCond .ne 90, .iconst 0, .ireturn, .iload 6, .iload 5, .idiv, .istore 6, .nop, .aload 0, .getfield 401, .iload 2,
  .iconst 1, .isub, .iload 6, .iastore, .nop, .iinc 3 1, .goto 4, .iload 2, .ifCond .le 112, .aload 0, .getfield 401, .iconst 0, .iaload, .goto 113,
  .iconst 0, .ireturn]
def p_85 : List Nat := [0, 1, 2, 3, 4, 4, 5, 6, 9, 12, 13, 16, 17, 18, 20, 22, 24, 27, 28, 31, 32, 34, 37, 39, 42, 43, 44, 46, 47, 48,
  49, 49, 52, 55, 56, 57, 60, 61, 62, 65, 66, 69, 70, 71, 73, 74, 77, 78, 79, 80, 81, 83, 85, 86, 140, 142, 144, 145, 147, 150,
  152, 154, 155, 157, 160, 162, 164, 165, 167, 170, 172, 174, 177, 178, 181, 182, 184, 187, 189, 191, 194, 195, 198, 199, 201, 204, 204, 206, 209, 210,
  211, 213, 215, 216, 218, 218, 219, 222, 223, 224, 225, 227, 228, 228, 231, 234, 235, 238, 239, 242, 243, 244, 247, 248]
/-- WakeHouse.held(III)I -/
def c_86 : List aI := [.iload 1, .iload 2, .iload 0, .invokeinterface 3 0, .invokeinterface 2 0, .ireturn]
def p_86 : List Nat := [0, 1, 2, 3, 6, 9]
/-- WakeHouse.again(II)I -/
def c_87 : List aI := [.aload 0, .iload 1, .invokevirtual 76, .ifCond .eq 7, .iload 2, .invokestatic 82, .ifCond .ne 9, .iconst (-1), .ireturn, .aload 0, .getfield 1105, .iload 1, .iload 2, .invokevirtual 88,
  .ireturn]
def p_87 : List Nat := [0, 1, 2, 5, 8, 9, 12, 15, 16, 17, 18, 21, 22, 23, 26]
/-- WakeHouse$Night.asleepAgain(II)I -/
def c_88 : List aI := [.aload 0, .getfield 500, .getfield 305, .iload 1, .iaload, .iconst 400, .fmul, .iload 2, .fadd, .istore 3, .aload 0, .getfield 505, .iload 3, .baload,
  .iconst (-1), .if_icmp .ne 44, .aload 0, .getfield 506, .iconst 4, .aload 0, .getfield 500, .getfield 305, .iload 1, .iaload, .iastore, .aload 0, .getfield 506, .iconst 6,
  .iload 2, .iastore, .aload 0, .getfield 505, .iload 3, .aload 0, .getfield 500, .getfield 313, .aload 0, .getfield 506, .invokevirtual 85, .iconst 0, .iconst 10, .invokestatic 86,
  .i2b, .bastore, .aload 0, .getfield 505, .iload 3, .baload, .ireturn]
def p_88 : List Nat := [0, 1, 4, 7, 8, 9, 12, 13, 14, 15, 16, 17, 20, 21, 22, 23, 26, 27, 30, 31, 32, 35, 38, 39, 40, 41, 42, 45, 47, 48,
  49, 50, 53, 54, 55, 58, 61, 62, 65, 68, 69, 71, 74, 75, 76, 77, 80, 81, 82]
/-- WakeHouse.ring(III)I -/
def c_89 : List aI := [.aload 0, .iload 1, .invokevirtual 90, .ifCond .eq 11, .aload 0, .iload 2, .invokevirtual 79, .ifCond .eq 11, .iload 3, .invokestatic 82, .ifCond .ne 13, .iconst (-1), .ireturn, .aload 0,
  .iconst 0, .aload 0, .getfield 1102, .iload 1, .iload 3, .invokevirtual 91, .aload 0, .getfield 1102, .getfield 302, .iload 1, .iaload, .iload 2, .invokevirtual 92, .ireturn]
def p_89 : List Nat := [0, 1, 2, 5, 8, 9, 10, 13, 16, 17, 20, 23, 24, 25, 26, 27, 28, 31, 32, 33, 36, 37, 40, 43, 44, 45, 46, 49]
/-- WakeHouse.isClock(I)Z -/
def c_90 : List aI := [.iload 1, .ifCond .lt 9, .iload 1, .aload 0, .getfield 1102, .getfield 315, .if_icmp .ge 9, .iconst 1, .goto 10, .iconst 0, .freturn]
def p_90 : List Nat := [0, 1, 4, 5, 6, 9, 12, 15, 16, 19, 20]
/-- WakeHouse$House.soundsAt(II)I -/
def c_91 : List aI := [.iload 2, .aload 0, .getfield 303, .iload 1, .iaload, .fadd, .iconst 0, .iconst 399, .invokestatic 86, .ireturn]
def p_91 : List Nat := [0, 1, 2, 5, 6, 7, 8, 9, 12, 15]
/-- WakeHouse.plan(IIII)I -/
def c_92 : List aI := [.aload 0, .dup, .getfield 1111, .iconst 1, .fadd, .putfield 1111, .aload 0, .getfield 1103, .iload 1, .iload 2, .iload 3, .iload 4, .invokevirtual 93, .ireturn]
def p_92 : List Nat := [0, 1, 2, 5, 6, 7, 10, 11, 14, 15, 16, 17, 19, 22]
/-- WakeHouse$State.putBehind(IIII)I -/
def c_93 : List aI := [.aload 0, .getfield 910, .iconst 8, .if_icmp .lt 6, .iconst (-1), .ireturn, .aload 0, .getfield 900, .aload 0, .getfield 910, .iload 1, .iastore, .aload 0, .getfield 901,
  .aload 0, .getfield 910, .iload 2, .iastore, .aload 0, .getfield 902, .aload 0, .getfield 910, .iload 3, .iastore, .aload 0, .getfield 903, .aload 0, .getfield 910,
  .iload 4, .iastore, .aload 0, .dup, .getfield 910, .iconst 1, .fadd, .putfield 910, .aload 0, .getfield 910, .iconst 1, .fsub, .ireturn]
def p_93 : List Nat := [0, 1, 4, 6, 9, 10, 11, 12, 15, 16, 19, 20, 21, 22, 25, 26, 29, 30, 31, 32, 35, 36, 39, 40, 41, 42, 45, 46, 49, 51,
  52, 53, 54, 57, 58, 59, 62, 63, 66, 67, 68]
/-- WakeHouse.string(II)I -/
def c_94 : List aI := [.aload 0, .iload 1, .invokevirtual 76, .ifCond .eq 7, .iload 2, .invokestatic 82, .ifCond .ne 9, .iconst (-1), .ireturn, .aload 0, .iconst 1, .iload 2, .iconst 0, .iload 1,
  .invokevirtual 92, .ireturn]
def p_94 : List Nat := [0, 1, 2, 5, 8, 9, 12, 15, 16, 17, 18, 19, 20, 21, 22, 25]
/-- WakeHouse.pole(II)I -/
def c_95 : List aI := [.aload 0, .iload 1, .invokevirtual 79, .ifCond .eq 7, .iload 2, .invokestatic 82, .ifCond .ne 9, .iconst (-1), .ireturn, .aload 0, .iconst 2, .iload 2, .iconst 7, .iload 1,
  .invokevirtual 92, .ireturn]
def p_95 : List Nat := [0, 1, 2, 5, 8, 9, 12, 15, 16, 17, 18, 19, 20, 22, 23, 26]
/-- WakeHouse.drop(I)I -/
def c_96 : List aI := [.aload 0, .iload 1, .invokevirtual 97, .ifCond .ne 6, .iconst (-1), .ireturn, .aload 0, .dup, .getfield 1111, .iconst 1, .fadd, .putfield 1111, .aload 0, .getfield 1103,
  .iload 1, .invokevirtual 98, .aload 0, .getfield 1103, .getfield 910, .ireturn]
def p_96 : List Nat := [0, 1, 2, 5, 8, 9, 10, 11, 12, 15, 16, 17, 20, 21, 24, 25, 28, 29, 32, 35]
/-- WakeHouse.isSound(I)Z -/
def c_97 : List aI := [.iload 1, .ifCond .lt 9, .iload 1, .aload 0, .getfield 1103, .getfield 910, .if_icmp .ge 9, .iconst 1, .goto 10, .iconst 0, .freturn]
def p_97 : List Nat := [0, 1, 4, 5, 6, 9, 12, 15, 16, 19, 20]
/-- WakeHouse$State.takeOut(I)V -/
def c_98 : List aI := [.aload 0, .dup, .getfield 910, .iconst 1, .fsub, .putfield 910, .iload 1, .istore 2, .nop, .iload 2, .aload 0, .getfield 910, .if_icmp .ge 55, .aload 0,
  .getfield 900, .iload 2, .aload 0, .getfield 900, .iload 2, .iconst 1, .fadd, .iaload, .iastore, .aload 0, .getfield 901, .iload 2, .aload 0, .getfield 901,
  .iload 2, .iconst 1, .fadd, .iaload, .iastore, .aload 0, .getfield 902, .iload 2, .aload 0, .getfield 902, .iload 2, .iconst 1, .fadd, .iaload,
  .iastore, .aload 0, .getfield 903, .iload 2, .aload 0, .getfield 903, .iload 2, .iconst 1, .fadd, .iaload, .iastore, .iinc 2 1, .goto 8, .return_]
def p_98 : List Nat := [0, 1, 2, 5, 6, 7, 10, 11, 12, 12, 13, 14, 17, 20, 21, 24, 25, 26, 29, 30, 31, 32, 33, 34, 35, 38, 39, 40, 43, 44,
  45, 46, 47, 48, 49, 52, 53, 54, 57, 58, 59, 60, 61, 62, 63, 66, 67, 68, 71, 72, 73, 74, 75, 76, 79, 82]
/-- WakeHouse.sound(II)I -/
def c_99 : List aI := [.aload 0, .iload 1, .invokevirtual 97, .ifCond .ne 6, .iconst (-1), .ireturn, .iload 2, .tableswitch 31 0 3 #[8, 14, 20, 26], .aload 0, .getfield 1103, .getfield 900, .iload 1, .iaload, .ireturn,
  .aload 0, .getfield 1103, .getfield 901, .iload 1, .iaload, .ireturn, .aload 0, .getfield 1103, .getfield 902, .iload 1, .iaload, .ireturn, .aload 0, .getfield 1103,
  .iload 1, .invokevirtual 100, .ireturn, .iconst (-1), .ireturn]
def p_99 : List Nat := [0, 1, 2, 5, 8, 9, 10, 11, 40, 41, 44, 47, 48, 49, 50, 51, 54, 57, 58, 59, 60, 61, 64, 67, 68, 69, 70, 71, 74, 75,
  78, 79, 80]
/-- WakeHouse$State.bedOfSound(I)I -/
def c_100 : List aI := [.aload 0, .getfield 900, .iload 1, .iaload, .iconst 1, .if_icmp .ne 14, .aload 0, .getfield 904, .aload 0, .getfield 903, .iload 1, .iaload, .iaload, .goto 18,
  .aload 0, .getfield 903, .iload 1, .iaload, .ireturn]
def p_100 : List Nat := [0, 1, 4, 5, 6, 7, 10, 11, 14, 15, 18, 19, 20, 21, 24, 25, 28, 29, 30]
/-- WakeHouse.wool(IZ)Z -/
def c_101 : List aI := [.aload 0, .iload 1, .invokevirtual 76, .ifCond .ne 6, .iconst 0, .freturn, .aload 0, .dup, .getfield 1111, .iconst 1, .fadd, .putfield 1111, .iconst 1, .iload 1,
  .ishl, .istore 3, .aload 0, .getfield 1103, .iload 2, .ifCond .eq 26, .aload 0, .getfield 1103, .getfield 911, .iload 3, .ior, .goto 33, .aload 0, .getfield 1103,
  .getfield 911, .iload 3, .iconst (-1), .ixor, .iand, .putfield 911, .iconst 1, .freturn]
def p_101 : List Nat := [0, 1, 2, 5, 8, 9, 10, 11, 12, 15, 16, 17, 20, 21, 22, 23, 24, 25, 28, 29, 32, 33, 36, 39, 40, 41, 44, 45, 48, 51,
  52, 53, 54, 55, 58, 59]
/-- WakeHouse.swap(II)Z -/
def c_102 : List aI := [.aload 0, .iload 1, .invokevirtual 79, .ifCond .eq 11, .aload 0, .iload 2, .invokevirtual 79, .ifCond .eq 11, .iload 1, .iload 2, .if_icmp .ne 13, .iconst 0, .freturn, .aload 0,
  .dup, .getfield 1111, .iconst 1, .fadd, .putfield 1111, .aload 0, .getfield 1103, .iload 1, .iload 2, .invokevirtual 103, .iconst 1, .freturn]
def p_102 : List Nat := [0, 1, 2, 5, 8, 9, 10, 13, 16, 17, 18, 21, 22, 23, 24, 25, 28, 29, 30, 33, 34, 37, 38, 39, 42, 43]
/-- WakeHouse$State.change(II)V -/
def c_103 : List aI := [.aload 0, .getfield 905, .iload 1, .iaload, .istore 3, .aload 0, .getfield 905, .iload 2, .iaload, .istore 4, .aload 0, .getfield 905, .iload 1, .iload 4,
  .iastore, .aload 0, .getfield 905, .iload 2, .iload 3, .iastore, .iload 3, .iconst (-2), .if_icmp .eq 28, .aload 0, .getfield 904, .iload 3, .iload 2, .iastore,
  .iload 4, .iconst (-2), .if_icmp .eq 36, .aload 0, .getfield 904, .iload 4, .iload 1, .iastore, .return_]
def p_103 : List Nat := [0, 1, 4, 5, 6, 7, 8, 11, 12, 13, 15, 16, 19, 20, 22, 23, 24, 27, 28, 29, 30, 31, 33, 36, 37, 40, 41, 42, 43, 45,
  47, 50, 51, 54, 56, 57, 58]
/-- WakeHouse.ways()J -/
def c_104 : List aI := [.getstatic 2, .aload 0, .getfield 1103, .getfield 910, .laload, .lreturn]
def p_104 : List Nat := [0, 3, 4, 7, 10, 11]
/-- WakeHouse.up(I)J -/
def c_105 : List aI := [.aload 0, .iload 1, .invokevirtual 76, .ifCond .ne 6, .bipush (-1), .lreturn, .aload 0, .getfield 1102, .getfield 306, .iload 1, .iaload, .iconst (-2), .if_icmp .ne 15, .bipush (-2),
  .lreturn, .aload 0, .getfield 1105, .iconst (-1), .invokevirtual 106, .aload 0, .getfield 1105, .iload 1, .invokevirtual 108, .aload 0, .getfield 1105, .iload 1, .invokevirtual 111, .lreturn]
def p_105 : List Nat := [0, 1, 2, 5, 8, 11, 12, 13, 16, 19, 20, 21, 23, 26, 29, 30, 31, 34, 35, 38, 39, 42, 43, 46, 47, 50, 51, 54]
/-- WakeHouse$Night.arrange(I)V -/
def c_106 : List aI := [.aload 0, .iconst 0, .putfield 511, .iconst 0, .istore 2, .nop, .iload 2, .aload 0, .getfield 501, .getfield 910, .if_icmp .ge 25, .iload 2, .iload 1, .if_icmp .eq 23,
  .aload 0, .iload 2, .aload 0, .getfield 501, .getfield 901, .iload 2, .iaload, .invokevirtual 107, .pop, .iinc 2 1, .goto 5, .return_]
def p_106 : List Nat := [0, 1, 2, 5, 6, 7, 7, 8, 9, 12, 15, 18, 19, 20, 23, 24, 25, 26, 29, 32, 33, 34, 37, 38, 41, 44]
/-- WakeHouse$Night.insert(II)I -/
def c_107 : List aI := [.aload 0, .getfield 511, .iconst 8, .if_icmp .lt 6, .iconst (-1), .ireturn, .aload 0, .getfield 511, .istore 3, .nop, .iload 3, .ifCond .le 42, .aload 0, .getfield 502,
  .iload 3, .iconst 1, .fsub, .iaload, .iload 2, .if_icmp .le 42, .aload 0, .getfield 502, .iload 3, .aload 0, .getfield 502, .iload 3, .iconst 1, .fsub,
  .iaload, .iastore, .aload 0, .getfield 503, .iload 3, .aload 0, .getfield 503, .iload 3, .iconst 1, .fsub, .iaload, .iastore, .iinc 3 (-1), .goto 9,
  .aload 0, .getfield 502, .iload 3, .iload 2, .iastore, .aload 0, .getfield 503, .iload 3, .iload 1, .iastore, .aload 0, .dup, .getfield 511, .iconst 1,
  .fadd, .putfield 511, .iload 3, .ireturn]
def p_107 : List Nat := [0, 1, 4, 6, 9, 10, 11, 12, 15, 16, 16, 17, 20, 21, 24, 25, 26, 27, 28, 29, 32, 33, 36, 37, 38, 41, 42, 43, 44, 45,
  46, 47, 50, 51, 52, 55, 56, 57, 58, 59, 60, 63, 66, 67, 70, 71, 72, 73, 74, 77, 78, 79, 80, 81, 82, 85, 86, 87, 90, 91]
/-- WakeHouse$Night.listen(I)V -/
def c_108 : List aI := [.aload 0, .iload 1, .aload 0, .getfield 501, .getfield 904, .iload 1, .iaload, .aload 0, .getfield 501, .iload 1, .invokevirtual 77, .invokevirtual 109, .return_]
def p_108 : List Nat := [0, 1, 2, 3, 6, 9, 10, 11, 12, 15, 16, 19, 22]
/-- WakeHouse$Night.listenFrom(III)V -/
def c_109 : List aI := [.iconst 0, .istore 4, .nop, .iload 4, .aload 0, .getfield 511, .if_icmp .ge 22, .aload 0, .getfield 504, .iload 4, .aload 0, .aload 0, .getfield 503, .iload 4,
  .iaload, .iload 1, .iload 2, .iload 3, .invokevirtual 110, .iastore, .iinc 4 1, .goto 2, .return_]
def p_109 : List Nat := [0, 1, 3, 3, 5, 6, 9, 12, 13, 16, 18, 19, 20, 23, 25, 26, 27, 28, 29, 32, 33, 36, 39]
/-- WakeHouse$Night.heardOf(IIII)I -/
def c_110 : List aI := [.aload 0, .getfield 501, .getfield 903, .iload 1, .iaload, .istore 5, .aload 0, .getfield 501, .getfield 900, .iload 1, .iaload, .iconst 1, .if_icmp .ne 20, .iload 5,
  .iload 2, .if_icmp .ne 18, .iconst 10, .goto 19, .iconst 0, .ireturn, .aload 0, .getfield 500, .iload 2, .iload 3, .iload 4, .aload 0, .getfield 501, .getfield 902,
  .iload 1, .iaload, .iload 5, .aload 0, .getfield 501, .getfield 901, .iload 1, .iaload, .invokevirtual 83, .ireturn]
def p_110 : List Nat := [0, 1, 4, 7, 8, 9, 11, 12, 15, 18, 19, 20, 21, 24, 26, 27, 30, 32, 35, 36, 37, 38, 41, 42, 43, 45, 46, 49, 52, 53,
  54, 56, 57, 60, 63, 64, 65, 68]
/-- WakeHouse$Night.upWays(I)J -/
def c_111 : List aI := [.aload 0, .getfield 500, .getfield 306, .iload 1, .iaload, .istore 2, .bipush 0, .lstore 3, .bipush 1, .lstore 5, .iconst 0, .istore 7, .nop, .iload 7,
  .aload 0, .getfield 511, .if_icmp .ge 69, .aload 0, .getfield 502, .iload 7, .iaload, .iload 2, .if_icmp .gt 69, .iload 7, .ifCond .le 49, .lload 3, .iconst 10, .aload 0,
  .iload 1, .aload 0, .getfield 502, .iload 7, .iaload, .aload 0, .getfield 502, .iload 7, .iconst 1, .fsub, .iaload, .fsub, .invokevirtual 88, .fsub,
  .i2l, .dmul, .lstore 3, .lload 5, .bipush 10, .dmul, .lstore 5, .lload 3, .bipush 10, .dmul, .lload 5, .lload 3, .dsub, .aload 0,
  .getfield 504, .iload 7, .iaload, .i2l, .dmul, .dadd, .lstore 3, .lload 5, .bipush 10, .dmul, .lstore 5, .iinc 7 1, .goto 12, .iload 7,
  .ifCond .ne 73, .bipush 0, .lreturn, .lload 3, .iconst 10, .aload 0, .iload 1, .iload 2, .aload 0, .getfield 502, .iload 7, .iconst 1, .fsub, .iaload,
  .fsub, .invokevirtual 88, .fsub, .i2l, .dmul, .lstore 3, .lload 3, .getstatic 2, .aload 0, .getfield 511, .iload 7, .fsub, .laload, .dmul,
  .lreturn]
def p_111 : List Nat := [0, 1, 4, 7, 8, 9, 10, 11, 12, 13, 15, 16, 18, 18, 20, 21, 24, 27, 28, 31, 33, 34, 35, 38, 40, 43, 44, 46, 47, 48,
  49, 52, 54, 55, 56, 59, 61, 62, 63, 64, 65, 68, 69, 70, 71, 72, 74, 77, 78, 80, 81, 84, 85, 87, 88, 89, 90, 93, 95, 96,
  97, 98, 99, 100, 102, 105, 106, 108, 111, 114, 116, 119, 120, 121, 122, 124, 125, 126, 127, 128, 131, 133, 134, 135, 136, 137, 140, 141, 142, 143,
  144, 145, 148, 149, 152, 154, 155, 156, 157]
/-- WakeHouse.woken(I)J -/
def c_112 : List aI := [.aload 0, .iload 1, .invokevirtual 76, .ifCond .ne 6, .bipush (-1), .lreturn, .aload 0, .getfield 1105, .iconst (-1), .invokevirtual 106, .aload 0, .getfield 1105, .iload 1, .invokevirtual 108,
  .aload 0, .getfield 1105, .invokevirtual 113, .lreturn]
def p_112 : List Nat := [0, 1, 2, 5, 8, 11, 12, 13, 16, 17, 20, 21, 24, 25, 28, 29, 32, 35]
/-- WakeHouse$Night.wokenWays()J -/
def c_113 : List aI := [.bipush 1, .lstore 1, .iconst 0, .istore 3, .nop, .iload 3, .aload 0, .getfield 511, .if_icmp .ge 23, .lload 1, .iconst 10, .iconst 10, .aload 0, .getfield 504,
  .iload 3, .iaload, .fsub, .fmul, .i2l, .dmul, .lstore 1, .iinc 3 1, .goto 4, .getstatic 2, .aload 0, .getfield 511, .laload, .lload 1,
  .dsub, .lreturn]
def p_113 : List Nat := [0, 1, 2, 3, 4, 4, 5, 6, 9, 12, 13, 15, 17, 18, 21, 22, 23, 24, 25, 26, 27, 28, 31, 34, 37, 38, 41, 42, 43, 44]
/-- WakeHouse.cost()J -/
def c_114 : List aI := [.aload 0, .getfield 1105, .iconst (-1), .invokevirtual 115, .lreturn]
def p_114 : List Nat := [0, 1, 4, 5, 8]
/-- WakeHouse$Night.costWithout(I)J -/
def c_115 : List aI := [.aload 0, .iload 1, .invokevirtual 106, .bipush 0, .lstore 2, .iconst 0, .istore 4, .nop, .iload 4, .aload 0, .getfield 500, .getfield 316, .if_icmp .ge 24, .aload 0,
  .iload 4, .invokevirtual 108, .lload 2, .aload 0, .iload 4, .invokevirtual 116, .dadd, .lstore 2, .iinc 4 1, .goto 7, .lload 2, .lreturn]
def p_115 : List Nat := [0, 1, 2, 5, 6, 7, 8, 10, 10, 12, 13, 16, 19, 22, 23, 25, 28, 29, 30, 32, 35, 36, 37, 40, 43, 44]
/-- WakeHouse$Night.share(I)J -/
def c_116 : List aI := [.aload 0, .getfield 500, .getfield 306, .iload 1, .iaload, .iconst (-2), .if_icmp .ne 17, .aload 0, .getfield 500, .getfield 308, .iload 1, .iaload, .i2l, .aload 0,
  .invokevirtual 113, .dmul, .lreturn, .aload 0, .getfield 500, .getfield 307, .iload 1, .iaload, .i2l, .getstatic 2, .aload 0, .getfield 511, .laload, .aload 0,
  .iload 1, .invokevirtual 111, .dsub, .dmul, .lreturn]
def p_116 : List Nat := [0, 1, 4, 7, 8, 9, 11, 14, 15, 18, 21, 22, 23, 24, 25, 28, 29, 30, 31, 34, 37, 38, 39, 40, 43, 44, 47, 48, 49, 50,
  53, 54, 55]
/-- WakeHouse.worst()I -/
def c_117 : List aI := [.iconst (-2), .istore 1, .bipush 0, .lstore 2, .iconst 0, .istore 4, .nop, .iload 4, .aload 0, .getfield 1103, .getfield 910, .if_icmp .ge 30, .aload 0, .getfield 1105,
  .iload 4, .invokevirtual 115, .lstore 5, .iload 1, .iconst (-2), .if_icmp .eq 24, .lload 5, .lload 2, .lcmp, .ifCond .ge 28, .iload 4, .istore 1, .lload 5, .lstore 2,
  .iinc 4 1, .goto 6, .iload 1, .ireturn]
def p_117 : List Nat := [0, 2, 3, 4, 5, 6, 8, 8, 10, 11, 14, 17, 20, 21, 24, 26, 29, 31, 32, 34, 37, 39, 40, 41, 44, 46, 47, 49, 50, 53,
  56, 57]
/-- WakeHouse.hours(I)I -/
def c_118 : List aI := [.iload 1, .iconst (-1), .if_icmp .ne 7, .aload 0, .getfield 1102, .getfield 317, .ireturn, .iload 1, .ifCond .lt 20, .iload 1, .aload 0, .getfield 1102, .getfield 317, .if_icmp .ge 20,
  .aload 0, .getfield 1102, .getfield 309, .iload 1, .iaload, .goto 21, .iconst (-1), .ireturn]
def p_118 : List Nat := [0, 1, 2, 5, 6, 9, 12, 13, 14, 17, 18, 19, 22, 25, 28, 29, 32, 35, 36, 37, 40, 41]
/-- WakeHouse.best(III)J -/
def c_119 : List aI := [.aload 0, .iload 1, .iload 2, .iload 3, .invokevirtual 120, .istore 4, .iload 4, .ifCond .eq 11, .iload 4, .i2l, .lreturn, .aload 0, .getfield 1106, .iload 1,
  .iload 2, .iload 3, .aload 0, .getfield 1111, .invokevirtual 121, .aload 0, .getfield 1106, .getfield 11, .lreturn]
def p_119 : List Nat := [0, 1, 2, 3, 4, 7, 9, 11, 14, 16, 17, 18, 19, 22, 23, 24, 25, 26, 29, 32, 33, 36, 39]
/-- WakeHouse.bestRefusal(III)I -/
def c_120 : List aI := [.aload 0, .iload 1, .invokevirtual 90, .ifCond .eq 20, .iload 2, .iconst (-1), .if_icmp .eq 11, .aload 0, .iload 2, .invokevirtual 90, .ifCond .eq 20, .nop, .iload 1, .iload 2,
  .if_icmp .eq 20, .iload 3, .ifCond .lt 20, .iload 3, .iconst 60, .if_icmp .le 23, .nop, .iconst (-1), .ireturn, .aload 0, .getfield 1103, .getfield 910, .iload 2, .iconst (-1),
  .if_icmp .ne 31, .iconst 1, .goto 32, .iconst 2, .fadd, .istore 4, .nop, .aload 0, .getfield 1102, .getfield 317, .ifCond .eq 46, .aload 0, .getfield 1102, .getfield 314,
  .ifCond .eq 46, .iload 4, .iconst 8, .if_icmp .le 49, .nop, .iconst (-2), .goto 50, .iconst 0, .ireturn]
def p_120 : List Nat := [0, 1, 2, 5, 8, 9, 10, 13, 14, 15, 18, 21, 21, 22, 23, 26, 27, 30, 31, 33, 36, 36, 37, 38, 39, 42, 45, 46, 47, 50,
  51, 54, 55, 56, 58, 58, 59, 62, 65, 68, 69, 72, 75, 78, 80, 82, 85, 85, 87, 90, 91]
/-- WakeHouse$BestTwo.seek(IIII)V -/
def c_121 : List aI := [.aload 0, .getfield 13, .iload 1, .if_icmp .ne 17, .aload 0, .getfield 14, .iload 2, .if_icmp .ne 17, .aload 0, .getfield 15, .iload 3, .if_icmp .ne 17, .aload 0, .getfield 16,
  .iload 4, .if_icmp .ne 17, .return_, .nop, .aload 0, .iload 1, .putfield 13, .aload 0, .iload 2, .putfield 14, .aload 0, .iload 3, .putfield 15, .aload 0,
  .iload 4, .putfield 16, .aload 0, .iconst (-1), .putfield 12, .aload 0, .invokevirtual 122, .iload 2, .iconst (-1), .if_icmp .ne 40, .iconst 1, .goto 43, .aload 0, .getfield 0,
  .getfield 317, .istore 5, .nop, .iconst 0, .istore 6, .nop, .iload 6, .aload 0, .getfield 0, .getfield 317, .if_icmp .ge 71, .iconst 0, .istore 7, .nop,
  .iload 7, .iload 5, .if_icmp .ge 69, .aload 0, .iload 6, .iload 7, .invokevirtual 126, .aload 0, .iload 6, .iload 7, .invokevirtual 127, .iinc 7 1, .goto 55, .iinc 6 1,
  .goto 47, .return_]
def p_121 : List Nat := [0, 1, 4, 5, 8, 9, 12, 13, 16, 17, 20, 21, 24, 25, 28, 30, 33, 34, 34, 35, 36, 39, 40, 41, 44, 45, 46, 49, 50, 52,
  55, 56, 57, 60, 61, 64, 65, 66, 69, 70, 73, 74, 77, 80, 82, 82, 83, 85, 85, 87, 88, 91, 94, 97, 98, 100, 100, 102, 104, 107,
  108, 110, 112, 115, 116, 118, 120, 123, 126, 129, 132, 135]
/-- WakeHouse$BestTwo.hearAll()V -/
def c_122 : List aI := [.aload 0, .aload 0, .getfield 13, .aload 0, .getfield 3, .invokevirtual 123, .aload 0, .getfield 14, .iconst (-1), .if_icmp .eq 16, .aload 0, .aload 0, .getfield 14, .aload 0,
  .getfield 4, .invokevirtual 123, .iconst 0, .istore 1, .nop, .iload 1, .aload 0, .getfield 0, .getfield 316, .if_icmp .ge 60, .aload 0, .getfield 1, .getfield 904, .iload 1,
  .iaload, .istore 2, .iconst 0, .istore 3, .nop, .iload 3, .aload 0, .getfield 1, .getfield 910, .if_icmp .ge 58, .aload 0, .getfield 5, .iload 1, .iconst 8,
  .fmul, .iload 3, .fadd, .aload 0, .getfield 2, .iload 3, .iload 1, .iload 2, .aload 0, .getfield 1, .iload 1, .invokevirtual 77, .invokevirtual 110, .iastore,
  .iinc 3 1, .goto 32, .iinc 1 1, .goto 18, .return_]
def p_122 : List Nat := [0, 1, 2, 5, 6, 9, 12, 13, 16, 17, 20, 21, 22, 25, 26, 29, 32, 33, 34, 34, 35, 36, 39, 42, 45, 46, 49, 52, 53, 54,
  55, 56, 57, 57, 58, 59, 62, 65, 68, 69, 72, 73, 75, 76, 77, 78, 79, 82, 83, 84, 85, 86, 89, 90, 93, 96, 97, 100, 103, 106,
  109]
/-- WakeHouse$BestTwo.hearClock(I[I)V -/
def c_123 : List aI := [.iconst 0, .istore 3, .nop, .iload 3, .aload 0, .getfield 0, .getfield 317, .if_icmp .ge 65, .aload 0, .getfield 0, .iload 1, .aload 0, .iload 3, .invokevirtual 124,
  .invokevirtual 91, .istore 4, .iconst 0, .istore 5, .nop, .iload 5, .aload 0, .getfield 0, .getfield 314, .if_icmp .ge 63, .iconst 0, .istore 6, .nop, .iload 6,
  .aload 0, .getfield 0, .getfield 316, .if_icmp .ge 61, .aload 2, .iload 3, .iload 5, .invokestatic 125, .iload 6, .fadd, .aload 0, .getfield 0, .iload 6, .aload 0,
  .getfield 1, .getfield 904, .iload 6, .iaload, .aload 0, .getfield 1, .iload 6, .invokevirtual 77, .aload 0, .getfield 0, .getfield 302, .iload 1, .iaload, .iload 5,
  .iload 4, .invokevirtual 83, .iastore, .iinc 6 1, .goto 26, .iinc 5 1, .goto 18, .iinc 3 1, .goto 2, .return_]
def p_123 : List Nat := [0, 1, 2, 2, 3, 4, 7, 10, 13, 14, 17, 18, 19, 20, 23, 26, 28, 29, 31, 31, 33, 34, 37, 40, 43, 44, 46, 46, 48, 49,
  52, 55, 58, 59, 60, 62, 65, 67, 68, 69, 72, 74, 75, 78, 81, 83, 84, 85, 88, 90, 93, 94, 97, 100, 101, 102, 104, 106, 109, 110,
  113, 116, 119, 122, 125, 128]
/-- WakeHouse$BestTwo.setTo(I)I -/
def c_124 : List aI := [.iload 1, .ifCond .lt 18, .iload 1, .aload 0, .getfield 0, .getfield 317, .if_icmp .ge 18, .iconst 0, .aload 0, .getfield 0, .getfield 309, .iload 1, .iaload, .aload 0,
  .getfield 15, .fsub, .invokeinterface 2 0, .goto 19, .iconst (-1), .ireturn]
def p_124 : List Nat := [0, 1, 4, 5, 6, 9, 12, 15, 16, 17, 20, 23, 24, 25, 26, 29, 30, 33, 36, 37]
/-- WakeHouse$BestTwo.cell(II)I -/
def c_125 : List aI := [.iload 0, .iconst 12, .fmul, .iload 1, .fadd, .iconst 12, .fmul, .ireturn]
def p_125 : List Nat := [0, 1, 3, 4, 5, 6, 8, 9]
/-- WakeHouse$BestTwo.weigh(II)V -/
def c_126 : List aI := [.aload 0, .getfield 2, .iconst (-1), .invokevirtual 106, .aload 0, .getfield 2, .getfield 511, .iconst 8, .aload 0, .getfield 14, .iconst (-1), .if_icmp .ne 14, .iconst 1, .goto 15,
  .iconst 2, .fsub, .if_icmp .le 18, .return_, .aload 0, .getfield 2, .iconst 8, .aload 0, .getfield 0, .aload 0, .getfield 13, .aload 0, .iload 1, .invokevirtual 124,
  .invokevirtual 91, .invokevirtual 107, .istore 3, .iconst (-1), .istore 4, .aload 0, .getfield 14, .iconst (-1), .if_icmp .eq 59, .aload 0, .getfield 2, .iconst 9, .aload 0, .getfield 0,
  .aload 0, .getfield 14, .aload 0, .iload 2, .invokevirtual 124, .invokevirtual 91, .invokevirtual 107, .istore 4, .iload 3, .iload 4, .iload 3, .if_icmp .gt 56, .iconst 1, .goto 57,
  .iconst 0, .fadd, .istore 3, .nop, .aload 0, .bipush 0, .putfield 10, .iconst 0, .istore 5, .nop, .iload 5, .aload 0, .getfield 0, .getfield 316,
  .if_icmp .ge 181, .iconst 0, .istore 6, .nop, .iload 6, .aload 0, .getfield 2, .getfield 511, .if_icmp .ge 106, .aload 0, .getfield 2, .getfield 503, .iload 6, .iaload,
  .istore 7, .aload 0, .getfield 2, .getfield 504, .iload 6, .iload 7, .iconst 8, .if_icmp .ge 101, .aload 0, .getfield 5, .iload 5, .iconst 8, .fmul, .iload 7,
  .fadd, .iaload, .goto 102, .iconst 0, .iastore, .nop, .iinc 6 1, .goto 73, .aload 0, .getfield 2, .iload 5, .invokevirtual 116, .lstore 6, .aload 0,
  .getfield 2, .getfield 504, .iload 3, .iconst 1, .iastore, .aload 0, .getfield 2, .iload 5, .invokevirtual 116, .lstore 8, .aload 0, .dup, .getfield 10, .lload 6,
  .dadd, .putfield 10, .aload 0, .getfield 6, .iload 5, .lload 8, .lload 6, .dsub, .lastore, .iload 4, .iconst (-1), .if_icmp .eq 178, .aload 0, .getfield 2,
  .getfield 504, .iload 4, .iconst 1, .iastore, .aload 0, .getfield 2, .iload 5, .invokevirtual 116, .lstore 10, .aload 0, .getfield 2, .getfield 504, .iload 3, .iconst 0,
  .iastore, .aload 0, .getfield 2, .iload 5, .invokevirtual 116, .lstore 12, .aload 0, .getfield 7, .iload 5, .lload 12, .lload 6, .dsub, .lastore, .aload 0,
  .getfield 8, .iload 5, .lload 10, .lload 8, .dsub, .lload 12, .dsub, .lload 6, .dadd, .lastore, .nop, .iinc 5 1, .goto 65, .return_]
def p_126 : List Nat := [0, 1, 4, 5, 8, 9, 12, 15, 17, 18, 21, 22, 25, 26, 29, 30, 31, 34, 35, 36, 39, 41, 42, 45, 46, 49, 50, 51, 54, 57,
  60, 61, 62, 64, 65, 68, 69, 72, 73, 76, 78, 79, 82, 83, 86, 87, 88, 91, 94, 97, 99, 100, 102, 103, 106, 107, 110, 111, 112, 113,
  113, 114, 115, 118, 119, 121, 121, 123, 124, 127, 130, 133, 134, 136, 136, 138, 139, 142, 145, 148, 149, 152, 155, 157, 158, 160, 161, 164, 167, 169,
  171, 173, 176, 177, 180, 182, 184, 185, 187, 188, 189, 192, 193, 194, 194, 197, 200, 201, 204, 206, 209, 211, 212, 215, 218, 219, 220, 221, 222, 225,
  227, 230, 232, 233, 234, 237, 239, 240, 243, 244, 247, 249, 251, 253, 254, 255, 257, 258, 261, 262, 265, 268, 270, 271, 272, 273, 276, 278, 281, 283,
  284, 287, 290, 291, 292, 293, 294, 297, 299, 302, 304, 305, 308, 310, 312, 314, 315, 316, 317, 320, 322, 324, 326, 327, 329, 330, 332, 333, 334, 334,
  337, 340]
/-- WakeHouse$BestTwo.compareBeds(II)V -/
def c_127 : List aI := [.iconst 0, .istore 3, .nop, .iload 3, .aload 0, .getfield 0, .getfield 314, .if_icmp .ge 84, .iload 1, .iload 3, .invokestatic 125, .istore 4, .aload 0, .getfield 10,
  .lstore 5, .iconst 0, .istore 7, .nop, .iload 7, .aload 0, .getfield 0, .getfield 316, .if_icmp .ge 58, .aload 0, .getfield 3, .iload 4, .iload 7, .fadd,
  .iaload, .istore 8, .lload 5, .aload 0, .getfield 6, .iload 7, .laload, .iload 8, .i2l, .dmul, .dadd, .lstore 5, .aload 0, .getfield 9,
  .iload 7, .aload 0, .getfield 7, .iload 7, .laload, .aload 0, .getfield 8, .iload 7, .laload, .iload 8, .i2l, .dmul, .dadd, .lastore,
  .iinc 7 1, .goto 17, .iload 3, .iconst 12, .fmul, .iload 1, .fadd, .iconst 12, .fmul, .iconst 12, .fmul, .istore 7, .aload 0, .getfield 14,
  .iconst (-1), .if_icmp .ne 77, .aload 0, .lload 5, .iload 7, .invokevirtual 128, .goto 82, .aload 0, .lload 5, .iload 7, .iload 2, .invokevirtual 129, .iinc 3 1, .goto 2,
  .return_]
def p_127 : List Nat := [0, 1, 2, 2, 3, 4, 7, 10, 13, 14, 15, 18, 20, 21, 24, 26, 27, 29, 29, 31, 32, 35, 38, 41, 42, 45, 47, 49, 50, 51,
  53, 55, 56, 59, 61, 62, 64, 65, 66, 67, 69, 70, 73, 75, 76, 79, 81, 82, 83, 86, 88, 89, 91, 92, 93, 94, 95, 98, 101, 102,
  104, 105, 106, 107, 109, 110, 112, 113, 115, 116, 119, 120, 123, 124, 126, 128, 131, 134, 135, 137, 139, 140, 143, 146, 149]
/-- WakeHouse$BestTwo.compare(JI)V -/
def c_128 : List aI := [.aload 0, .getfield 12, .iconst (-1), .if_icmp .eq 18, .lload 1, .aload 0, .getfield 11, .lcmp, .ifCond .lt 18, .lload 1, .aload 0, .getfield 11, .lcmp, .ifCond .ne 24,
  .iload 3, .aload 0, .getfield 12, .if_icmp .ge 24, .aload 0, .lload 1, .putfield 11, .aload 0, .iload 3, .putfield 12, .return_]
def p_128 : List Nat := [0, 1, 4, 5, 8, 9, 10, 13, 14, 17, 18, 19, 22, 23, 26, 27, 28, 31, 34, 35, 36, 39, 40, 41, 44]
/-- WakeHouse$BestTwo.compareSeconds(JII)V -/
def c_129 : List aI := [.iconst 0, .istore 5, .nop, .iload 5, .aload 0, .getfield 0, .getfield 314, .if_icmp .ge 51, .iload 4, .iload 5, .invokestatic 125, .istore 6, .lload 1, .lstore 7,
  .iconst 0, .istore 9, .nop, .iload 9, .aload 0, .getfield 0, .getfield 316, .if_icmp .ge 39, .lload 7, .aload 0, .getfield 9, .iload 9, .laload, .aload 0,
  .getfield 4, .iload 6, .iload 9, .fadd, .iaload, .i2l, .dmul, .dadd, .lstore 7, .iinc 9 1, .goto 16, .aload 0, .lload 7, .iload 3,
  .iload 5, .iconst 12, .fmul, .fadd, .iload 4, .fadd, .invokevirtual 128, .iinc 5 1, .goto 2, .return_]
def p_129 : List Nat := [0, 1, 3, 3, 5, 6, 9, 12, 15, 17, 19, 22, 24, 25, 27, 28, 30, 30, 32, 33, 36, 39, 42, 44, 45, 48, 50, 51, 52, 55,
  57, 59, 60, 61, 62, 63, 64, 66, 69, 72, 73, 75, 76, 78, 80, 81, 82, 84, 85, 88, 91, 94]
/-- WakeHouse.bestAt(IIII)I -/
def c_130 : List aI := [.iload 4, .ifCond .lt 5, .iload 4, .iconst 3, .if_icmp .le 7, .iconst (-1), .ireturn, .aload 0, .iload 1, .iload 2, .iload 3, .invokevirtual 120, .istore 5, .iload 5,
  .ifCond .eq 17, .iload 5, .ireturn, .iload 4, .iconst 2, .if_icmp .lt 25, .iload 2, .iconst (-1), .if_icmp .ne 25, .iconst (-1), .ireturn, .aload 0, .getfield 1106, .iload 1,
  .iload 2, .iload 3, .aload 0, .getfield 1111, .invokevirtual 121, .aload 0, .getfield 1106, .iload 4, .invokevirtual 131, .ireturn]
def p_130 : List Nat := [0, 2, 5, 7, 8, 11, 12, 13, 14, 15, 16, 17, 20, 22, 24, 27, 29, 30, 32, 33, 36, 37, 38, 41, 42, 43, 44, 47, 48, 49,
  50, 51, 54, 57, 58, 61, 63, 66]
/-- WakeHouse$BestTwo.found(I)I -/
def c_131 : List aI := [.iload 1, .tableswitch 23 0 2 #[2, 7, 16], .aload 0, .getfield 12, .iconst 1728, .idiv, .ireturn, .aload 0, .aload 0, .getfield 12, .iconst 144, .idiv, .iconst 12, .irem,
  .invokevirtual 124, .ireturn, .aload 0, .getfield 12, .iconst 12, .idiv, .iconst 12, .irem, .ireturn, .aload 0, .aload 0, .getfield 12, .iconst 12, .irem,
  .invokevirtual 124, .ireturn]
def p_131 : List Nat := [0, 1, 28, 29, 32, 35, 36, 37, 38, 39, 42, 45, 46, 48, 49, 52, 53, 54, 57, 59, 60, 62, 63, 64, 65, 66, 69, 71, 72, 75]
/-- WakeHouse.fewest(I)I -/
def c_132 : List aI := [.aload 0, .iload 1, .invokevirtual 90, .ifCond .eq 9, .aload 0, .getfield 1107, .iload 1, .invokevirtual 133, .goto 10, .iconst (-1), .ireturn]
def p_132 : List Nat := [0, 1, 2, 5, 8, 9, 12, 13, 16, 19, 20]
/-- WakeHouse$Cover.fewestRings(I)I -/
def c_133 : List aI := [.aload 0, .iload 1, .invokevirtual 134, .ifCond .eq 6, .iconst (-2), .ireturn, .aload 0, .invokevirtual 138, .istore 2, .aload 0, .getfield 204, .iconst 100, .invokestatic 71, .aload 0,
  .getfield 204, .iconst 0, .iconst 0, .iastore, .iconst 0, .istore 3, .nop, .iload 3, .iload 2, .if_icmp .ge 36, .aload 0, .getfield 204, .iload 3, .iaload,
  .iconst 100, .if_icmp .ge 34, .aload 0, .iload 3, .iload 2, .invokevirtual 139, .iinc 3 1, .goto 20, .aload 0, .getfield 204, .iload 2, .iaload, .ireturn]
def p_133 : List Nat := [0, 1, 2, 5, 8, 10, 11, 12, 15, 16, 17, 20, 22, 25, 26, 29, 30, 31, 32, 33, 34, 34, 35, 36, 39, 40, 43, 44, 45, 47,
  50, 51, 52, 53, 56, 59, 62, 63, 66, 67, 68]
/-- WakeHouse$Cover.deafOnes(I)I -/
def c_134 : List aI := [.aload 0, .iload 1, .invokevirtual 135, .aload 0, .invokevirtual 138, .istore 2, .iconst 0, .istore 3, .nop, .iload 3, .aload 0, .getfield 205, .if_icmp .ge 24, .iload 2,
  .aload 0, .getfield 203, .iload 3, .iaload, .iconst (-1), .ixor, .iand, .istore 2, .iinc 3 1, .goto 8, .iload 2, .ireturn]
def p_134 : List Nat := [0, 1, 2, 5, 6, 9, 10, 11, 12, 12, 13, 14, 17, 20, 21, 22, 25, 26, 27, 28, 29, 30, 31, 34, 37, 38]
/-- WakeHouse$Cover.gather(I)V -/
def c_135 : List aI := [.aload 0, .iconst 0, .putfield 205, .iconst 0, .istore 2, .nop, .iload 2, .aload 0, .getfield 200, .getfield 314, .if_icmp .ge 44, .iconst 0, .istore 3, .nop,
  .iload 3, .aload 0, .getfield 200, .getfield 317, .if_icmp .ge 42, .aload 0, .getfield 200, .iload 1, .aload 0, .getfield 200, .getfield 309, .iload 3, .iaload, .invokevirtual 91,
  .istore 4, .aload 0, .aload 0, .aload 0, .getfield 200, .getfield 302, .iload 1, .iaload, .iload 2, .iload 4, .invokevirtual 136, .invokevirtual 137, .iinc 3 1, .goto 13,
  .iinc 2 1, .goto 5, .return_]
def p_135 : List Nat := [0, 1, 2, 5, 6, 7, 7, 8, 9, 12, 15, 18, 19, 20, 20, 21, 22, 25, 28, 31, 32, 35, 36, 37, 40, 43, 44, 45, 48, 50,
  51, 52, 53, 56, 59, 60, 61, 62, 64, 67, 70, 73, 76, 79, 82]
/-- WakeHouse$Cover.wokenBy(III)I -/
def c_136 : List aI := [.iconst 0, .istore 4, .iconst 0, .istore 5, .nop, .iload 5, .aload 0, .getfield 200, .getfield 316, .if_icmp .ge 65, .aload 0, .getfield 200, .getfield 306, .iload 5,
  .iaload, .istore 6, .iload 6, .iconst (-2), .if_icmp .eq 24, .iload 3, .iload 6, .if_icmp .gt 24, .iconst 1, .goto 26, .nop, .iconst 0, .istore 7, .nop,
  .iload 7, .ifCond .eq 62, .aload 0, .getfield 202, .iload 5, .iload 6, .iload 3, .fsub, .invokevirtual 88, .ifCond .ne 62, .aload 0, .getfield 200, .iload 5, .aload 0,
  .getfield 201, .getfield 904, .iload 5, .iaload, .aload 0, .getfield 201, .iload 5, .invokevirtual 77, .iload 1, .iload 2, .iload 3, .invokevirtual 83, .iconst 10, .if_icmp .ne 62,
  .iload 4, .iconst 1, .iload 5, .ishl, .ior, .istore 4, .nop, .iinc 5 1, .goto 4, .iload 4, .ireturn]
def p_136 : List Nat := [0, 1, 3, 4, 6, 6, 8, 9, 12, 15, 18, 19, 22, 25, 27, 28, 30, 32, 34, 37, 38, 40, 43, 44, 47, 47, 48, 50, 50, 52,
  55, 56, 59, 61, 63, 64, 65, 68, 71, 72, 75, 77, 78, 81, 84, 86, 87, 88, 91, 93, 96, 97, 98, 99, 102, 104, 107, 109, 110, 112,
  113, 114, 116, 116, 119, 122, 124]
/-- WakeHouse$Cover.keep(I)V -/
def c_137 : List aI := [.iconst 0, .istore 2, .nop, .iload 2, .aload 0, .getfield 205, .if_icmp .ge 19, .iload 1, .aload 0, .getfield 203, .iload 2, .iaload, .iconst (-1), .ixor,
  .iand, .ifCond .ne 17, .return_, .iinc 2 1, .goto 2, .iload 1, .ifCond .eq 39, .aload 0, .getfield 205, .aload 0, .getfield 203, .arraylength, .if_icmp .ge 39, .aload 0,
  .getfield 203, .aload 0, .getfield 205, .iload 1, .iastore, .aload 0, .dup, .getfield 205, .iconst 1, .fadd, .putfield 205, .return_]
def p_137 : List Nat := [0, 1, 2, 2, 3, 4, 7, 10, 11, 12, 15, 16, 17, 18, 19, 20, 23, 24, 27, 30, 31, 34, 35, 38, 39, 42, 43, 46, 47, 50,
  51, 54, 55, 56, 57, 58, 61, 62, 63, 66]
/-- WakeHouse$Cover.bound()I -/
def c_138 : List aI := [.iconst 0, .istore 1, .iconst 0, .istore 2, .nop, .iload 2, .aload 0, .getfield 200, .getfield 316, .if_icmp .ge 27, .iload 1, .aload 0, .getfield 200, .getfield 306,
  .iload 2, .iaload, .iconst (-2), .if_icmp .ne 20, .iconst 0, .goto 23, .iconst 1, .iload 2, .ishl, .ior, .istore 1, .iinc 2 1, .goto 4, .iload 1,
  .ireturn]
def p_138 : List Nat := [0, 1, 2, 3, 4, 4, 5, 6, 9, 12, 15, 16, 17, 20, 23, 24, 25, 27, 30, 31, 34, 35, 36, 37, 38, 39, 42, 45, 46]
/-- WakeHouse$Cover.goOn(II)V -/
def c_139 : List aI := [.iload 2, .iload 1, .iconst (-1), .ixor, .iand, .istore 3, .iload 3, .iload 3, .ineg, .iand, .istore 4, .iconst 0, .istore 5, .nop,
  .iload 5, .aload 0, .getfield 205, .if_icmp .ge 49, .aload 0, .getfield 203, .iload 5, .iaload, .iload 4, .iand, .ifCond .eq 47, .iload 1, .aload 0, .getfield 203,
  .iload 5, .iaload, .ior, .istore 6, .aload 0, .getfield 204, .iload 6, .aload 0, .getfield 204, .iload 6, .iaload, .aload 0, .getfield 204, .iload 1,
  .iaload, .iconst 1, .fadd, .invokeinterface 3 0, .iastore, .iinc 5 1, .goto 13, .return_]
def p_139 : List Nat := [0, 1, 2, 3, 4, 5, 6, 7, 8, 9, 10, 12, 13, 15, 15, 17, 18, 21, 24, 25, 28, 30, 31, 33, 34, 37, 38, 39, 42, 44,
  45, 46, 48, 49, 52, 54, 55, 58, 60, 61, 62, 65, 66, 67, 68, 69, 72, 73, 76, 79]
/-- WakeHouse.deaf(I)I -/
def c_140 : List aI := [.aload 0, .iload 1, .invokevirtual 90, .ifCond .eq 9, .aload 0, .getfield 1107, .iload 1, .invokevirtual 134, .goto 10, .iconst (-1), .ireturn]
def p_140 : List Nat := [0, 1, 2, 5, 8, 9, 12, 13, 16, 19, 20]
/-- WakeHouse.walk(II)I -/
def c_141 : List aI := [.aload 0, .iload 1, .invokevirtual 76, .ifCond .eq 8, .aload 0, .iload 2, .invokevirtual 76, .ifCond .ne 10, .iconst (-1), .ireturn, .aload 0, .getfield 1102, .aload 0, .getfield 1103,
  .getfield 904, .iload 1, .iaload, .aload 0, .getfield 1103, .getfield 904, .iload 2, .iaload, .invokevirtual 142, .ireturn]
def p_141 : List Nat := [0, 1, 2, 5, 8, 9, 10, 13, 16, 17, 18, 19, 22, 23, 26, 29, 30, 31, 32, 35, 38, 39, 40, 43]
/-- WakeHouse$House.walking(II)I -/
def c_142 : List aI := [.iconst 1, .aload 0, .iload 1, .iload 2, .invokevirtual 84, .fadd, .iconst 3, .aload 0, .getfield 300, .iload 1, .iaload, .aload 0, .getfield 300, .iload 2,
  .iaload, .fsub, .invokeinterface 4 0, .fmul, .fadd, .ireturn]
def p_142 : List Nat := [0, 1, 2, 3, 4, 7, 8, 9, 10, 13, 14, 15, 16, 19, 20, 21, 22, 25, 26, 27]
/-- WakeHouse.shakes(II)I -/
def c_143 : List aI := [.iload 1, .iconst 1, .if_icmp .lt 11, .iload 1, .iconst 2, .if_icmp .gt 11, .iload 2, .ifCond .lt 11, .iload 2, .iconst 1, .if_icmp .le 13, .iconst (-1), .ireturn, .aload 0,
  .getfield 1108, .iload 1, .invokevirtual 144, .iload 2, .ifCond .ne 23, .aload 0, .getfield 1108, .getfield 811, .goto 26, .aload 0, .getfield 1108, .getfield 812, .ireturn]
def p_143 : List Nat := [0, 1, 2, 5, 6, 7, 10, 11, 14, 15, 16, 19, 20, 21, 22, 25, 26, 29, 30, 33, 34, 37, 40, 43, 44, 47, 50]
/-- WakeHouse$Shaking.match(I)V -/
def c_144 : List aI := [.aload 0, .getfield 800, .getfield 318, .istore 2, .aload 0, .iload 2, .iload 1, .fmul, .iload 2, .fadd, .putfield 810, .aload 0, .iload 1, .invokevirtual 145,
  .aload 0, .getfield 804, .bipush 0, .invokestatic 148, .aload 0, .getfield 805, .bipush 0, .invokestatic 148, .aload 0, .getfield 807, .iconst 0, .invokestatic 71, .iconst 1, .istore 3,
  .nop, .iload 3, .iload 2, .if_icmp .gt 37, .aload 0, .iload 3, .invokevirtual 149, .iinc 3 1, .goto 28, .aload 0, .iload 1, .invokevirtual 152, .return_]
def p_144 : List Nat := [0, 1, 4, 7, 8, 9, 10, 11, 12, 13, 14, 17, 18, 19, 22, 23, 26, 27, 30, 31, 34, 35, 38, 39, 42, 43, 46, 47, 48, 48,
  49, 50, 53, 54, 55, 58, 61, 64, 65, 66, 69]
/-- WakeHouse$Shaking.setPrices(I)V -/
def c_145 : List aI := [.aload 0, .getfield 800, .getfield 318, .istore 2, .iconst 0, .istore 3, .nop, .iload 3, .iload 2, .if_icmp .ge 77, .iconst 0, .istore 4, .nop, .iload 4,
  .aload 0, .getfield 810, .if_icmp .ge 75, .iload 4, .iload 1, .idiv, .istore 5, .bipush 8, .getstatic 3, .iload 3, .iaload, .i2l, .dmul, .lstore 6,
  .iload 5, .iload 2, .if_icmp .ge 64, .aload 0, .iload 5, .iload 3, .invokevirtual 146, .ifCond .ne 38, .bipush 6586148313000, .goto 63, .iload 5, .i2l, .getstatic 3, .iload 3,
  .iaload, .i2l, .dmul, .bipush 6586148313, .dsub, .bipush 43046721, .aload 0, .aload 0, .getfield 800, .getfield 310, .iload 5, .iaload, .aload 0, .getfield 800,
  .getfield 310, .iload 3, .iaload, .invokevirtual 147, .i2l, .dmul, .dadd, .lstore 6, .aload 0, .getfield 803, .iload 3, .iconst 24, .fmul, .iload 4,
  .fadd, .lload 6, .lastore, .iinc 4 1, .goto 12, .iinc 3 1, .goto 6, .return_]
def p_145 : List Nat := [0, 1, 4, 7, 8, 9, 10, 10, 11, 12, 15, 16, 18, 18, 20, 21, 24, 27, 29, 30, 31, 33, 36, 39, 40, 41, 42, 43, 45, 47,
  48, 51, 52, 54, 55, 58, 61, 64, 67, 69, 70, 73, 74, 75, 76, 77, 80, 81, 84, 85, 86, 89, 92, 94, 95, 96, 99, 102, 103, 104,
  107, 108, 109, 110, 112, 113, 116, 117, 119, 120, 122, 123, 125, 126, 129, 132, 135, 138]
/-- WakeHouse$Shaking.canShake(II)Z -/
def c_146 : List aI := [.aload 0, .getfield 800, .getfield 310, .iload 1, .iaload, .istore 3, .aload 0, .getfield 800, .getfield 310, .iload 2, .iaload, .istore 4, .iload 1, .iload 2,
  .if_icmp .eq 33, .aload 0, .getfield 800, .getfield 306, .iload 3, .iaload, .aload 0, .iload 3, .iload 4, .invokevirtual 147, .fadd, .aload 0, .getfield 800, .getfield 306,
  .iload 4, .iaload, .if_icmp .gt 33, .iconst 1, .goto 34, .iconst 0, .freturn]
def p_146 : List Nat := [0, 1, 4, 7, 8, 9, 10, 11, 14, 17, 18, 19, 21, 22, 23, 26, 27, 30, 33, 34, 35, 36, 37, 39, 42, 43, 44, 47, 50, 52,
  53, 56, 57, 60, 61]
/-- WakeHouse$Shaking.walkOf(II)I -/
def c_147 : List aI := [.aload 0, .getfield 800, .aload 0, .getfield 801, .getfield 904, .iload 1, .iaload, .aload 0, .getfield 801, .getfield 904, .iload 2, .iaload, .invokevirtual 142, .ireturn]
def p_147 : List Nat := [0, 1, 4, 5, 8, 11, 12, 13, 14, 17, 20, 21, 22, 25]
/-- java/util/Arrays.fill([JJ)V -/
def c_148 : List aI := [.iconst 0, .istore 3, .aload 0, .arraylength, .istore 4, .nop, .iload 3, .iload 4, .if_icmp .ge 15, .aload 0, .iload 3, .lload 1, .lastore, .iinc 3 1,
  .goto 5, .return_]
def p_148 : List Nat := [0, 1, 2, 3, 4, 6, 6, 7, 9, 12, 13, 14, 15, 16, 19, 22]
/-- WakeHouse$Shaking.seat(I)V -/
def c_149 : List aI := [.aload 0, .getfield 807, .iconst 0, .iload 1, .iastore, .aload 0, .getfield 806, .bipush 9223372036854775807, .invokestatic 148, .aload 0, .iconst 0, .putfield 809, .iconst 0, .istore 2,
  .iconst 0, .istore 3, .nop, .iload 3, .aload 0, .getfield 810, .if_icmp .gt 40, .aload 0, .getfield 807, .iload 2, .iaload, .ifCond .eq 40, .aload 0, .dup,
  .getfield 809, .iconst 1, .iload 2, .ishl, .ior, .putfield 809, .aload 0, .iload 2, .invokevirtual 150, .istore 2, .iinc 3 1, .goto 16, .iconst 0, .istore 3,
  .nop, .iload 3, .aload 0, .getfield 810, .if_icmp .gt 67, .iload 2, .ifCond .eq 67, .aload 0, .getfield 807, .iload 2, .aload 0, .getfield 807, .aload 0, .getfield 808,
  .iload 2, .iaload, .iaload, .iastore, .aload 0, .getfield 808, .iload 2, .iaload, .istore 2, .iinc 3 1, .goto 42, .return_]
def p_149 : List Nat := [0, 1, 4, 5, 6, 7, 8, 11, 14, 17, 18, 19, 22, 23, 24, 25, 26, 26, 27, 28, 31, 34, 35, 38, 39, 40, 43, 44, 45, 48,
  49, 50, 51, 52, 55, 56, 57, 60, 61, 64, 67, 68, 69, 69, 70, 71, 74, 77, 78, 81, 82, 85, 86, 87, 90, 91, 94, 95, 96, 97,
  98, 99, 102, 103, 104, 105, 108, 111]
/-- WakeHouse$Shaking.nearest(I)I -/
def c_150 : List aI := [.aload 0, .getfield 807, .iload 1, .iaload, .istore 2, .iconst 0, .istore 3, .iconst 1, .istore 4, .nop, .iload 4, .aload 0, .getfield 810, .if_icmp .gt 75,
  .aload 0, .iload 4, .invokevirtual 151, .ifCond .eq 19, .goto 73, .aload 0, .getfield 803, .iload 2, .iconst 1, .fsub, .iconst 24, .fmul, .iload 4, .fadd,
  .iconst 1, .fsub, .laload, .aload 0, .getfield 804, .iload 2, .laload, .dsub, .aload 0, .getfield 805, .iload 4, .laload, .dsub, .lstore 5,
  .lload 5, .aload 0, .getfield 806, .iload 4, .laload, .lcmp, .ifCond .ge 59, .aload 0, .getfield 806, .iload 4, .lload 5, .lastore, .aload 0, .getfield 808,
  .iload 4, .iload 1, .iastore, .iload 3, .ifCond .eq 71, .aload 0, .getfield 806, .iload 4, .laload, .aload 0, .getfield 806, .iload 3, .laload, .lcmp,
  .ifCond .ge 73, .iload 4, .istore 3, .iinc 4 1, .goto 9, .aload 0, .getfield 806, .iload 3, .laload, .lstore 4, .iconst 0, .istore 6, .nop, .iload 6,
  .aload 0, .getfield 810, .if_icmp .gt 121, .aload 0, .iload 6, .invokevirtual 151, .ifCond .eq 111, .aload 0, .getfield 804, .aload 0, .getfield 807, .iload 6, .iaload, .dup2,
  .laload, .lload 4, .dadd, .lastore, .aload 0, .getfield 805, .iload 6, .dup2, .laload, .lload 4, .dsub, .lastore, .goto 119, .aload 0,
  .getfield 806, .iload 6, .dup2, .laload, .lload 4, .dsub, .lastore, .iinc 6 1, .goto 82, .iload 3, .ireturn]
def p_150 : List Nat := [0, 1, 4, 5, 6, 7, 8, 9, 10, 12, 12, 14, 15, 18, 21, 22, 24, 27, 30, 33, 34, 37, 38, 39, 40, 42, 43, 45, 46, 47,
  48, 49, 50, 53, 54, 55, 56, 57, 60, 62, 63, 64, 66, 68, 69, 72, 74, 75, 76, 79, 80, 83, 85, 87, 88, 89, 92, 94, 95, 96,
  97, 100, 101, 104, 106, 107, 108, 111, 112, 113, 114, 117, 119, 120, 123, 126, 127, 130, 131, 132, 134, 135, 137, 137, 139, 140, 143, 146, 147, 149,
  152, 155, 156, 159, 160, 163, 165, 166, 167, 168, 170, 171, 172, 173, 176, 178, 179, 180, 182, 183, 184, 187, 188, 191, 193, 194, 195, 197, 198, 199,
  202, 205, 206]
/-- WakeHouse$Shaking.isDone(I)Z -/
def c_151 : List aI := [.aload 0, .getfield 809, .iload 1, .ishr, .iconst 1, .iand, .iconst 1, .if_icmp .ne 10, .iconst 1, .goto 11, .iconst 0, .freturn]
def p_151 : List Nat := [0, 1, 4, 5, 6, 7, 8, 9, 12, 13, 16, 17]
/-- WakeHouse$Shaking.tell(I)V -/
def c_152 : List aI := [.aload 0, .getfield 800, .getfield 318, .istore 2, .aload 0, .getfield 802, .iconst (-2), .invokestatic 71, .aload 0, .iconst 0, .putfield 811, .aload 0, .iconst 0, .putfield 812,
  .iconst 1, .istore 3, .nop, .iload 3, .iload 2, .iload 1, .fmul, .if_icmp .gt 70, .aload 0, .getfield 807, .iload 3, .iaload, .ifCond .eq 68, .aload 0,
  .getfield 800, .getfield 310, .iload 3, .iconst 1, .fsub, .iload 1, .idiv, .iaload, .istore 4, .aload 0, .getfield 800, .getfield 310, .aload 0, .getfield 807,
  .iload 3, .iaload, .iconst 1, .fsub, .iaload, .istore 5, .aload 0, .getfield 802, .iload 5, .iload 4, .iastore, .aload 0, .dup, .getfield 811,
  .iconst 1, .fadd, .putfield 811, .aload 0, .dup, .getfield 812, .aload 0, .iload 4, .iload 5, .invokevirtual 147, .fadd, .putfield 812, .iinc 3 1, .goto 16,
  .return_]
def p_152 : List Nat := [0, 1, 4, 7, 8, 9, 12, 14, 17, 18, 19, 22, 23, 24, 27, 28, 29, 29, 30, 31, 32, 33, 36, 37, 40, 41, 42, 45, 46, 49,
  52, 53, 54, 55, 56, 57, 58, 60, 61, 64, 67, 68, 71, 72, 73, 74, 75, 76, 78, 79, 82, 84, 86, 87, 88, 89, 92, 93, 94, 97,
  98, 99, 102, 103, 105, 107, 110, 111, 114, 117, 120]
/-- WakeHouse.shaker(II)I -/
def c_153 : List aI := [.iload 1, .iconst 1, .if_icmp .lt 10, .iload 1, .iconst 2, .if_icmp .gt 10, .aload 0, .iload 2, .invokevirtual 76, .ifCond .ne 12, .iconst (-1), .ireturn, .aload 0, .getfield 1108,
  .iload 1, .invokevirtual 144, .aload 0, .getfield 1108, .getfield 802, .iload 2, .iaload, .ireturn]
def p_153 : List Nat := [0, 1, 2, 5, 6, 7, 10, 11, 12, 15, 18, 19, 20, 21, 24, 25, 28, 29, 32, 35, 36, 37]
/-- WakeHouse.twice(IIII)J -/
def c_154 : List aI := [.aload 0, .iload 1, .iload 2, .iload 3, .iload 4, .invokevirtual 155, .ifCond .eq 15, .aload 0, .getfield 1105, .iload 1, .iload 2, .iload 3, .iload 4, .invokevirtual 156,
  .goto 16, .bipush (-1), .lreturn]
def p_154 : List Nat := [0, 1, 2, 3, 4, 6, 9, 12, 13, 16, 17, 18, 19, 21, 24, 27, 30]
/-- WakeHouse.mayRingTwice(IIII)Z -/
def c_155 : List aI := [.aload 0, .iload 1, .invokevirtual 76, .ifCond .eq 18, .iload 2, .invokestatic 81, .ifCond .eq 18, .iload 3, .iconst 1, .if_icmp .lt 18, .iload 3, .iconst 3, .if_icmp .gt 18, .iload 4,
  .ifCond .lt 18, .iload 4, .iconst 30, .if_icmp .le 20, .iconst 0, .freturn, .aload 0, .getfield 1102, .getfield 306, .iload 1, .iaload, .iconst (-2), .if_icmp .eq 42, .aload 0,
  .getfield 1102, .getfield 306, .iload 1, .iaload, .iload 4, .fsub, .ifCond .lt 42, .iload 4, .iconst 1, .fadd, .iload 3, .if_icmp .lt 42, .iconst 1, .goto 43,
  .iconst 0, .freturn]
def p_155 : List Nat := [0, 1, 2, 5, 8, 9, 12, 15, 16, 17, 20, 21, 22, 25, 27, 30, 32, 34, 37, 38, 39, 40, 43, 46, 47, 48, 50, 53, 54, 57,
  60, 61, 62, 64, 65, 68, 70, 71, 72, 73, 76, 77, 80, 81]
/-- WakeHouse$Night.ringOften(IIII)J -/
def c_156 : List aI := [.aload 0, .getfield 500, .getfield 306, .iload 1, .iaload, .iload 4, .fsub, .istore 5, .aload 0, .getfield 501, .getfield 904, .iload 1, .iaload, .istore 6,
  .iconst 0, .istore 7, .nop, .iload 7, .iload 4, .if_icmp .gt 40, .aload 0, .getfield 509, .iload 7, .aload 0, .getfield 500, .iload 1, .iload 6, .aload 0,
  .getfield 501, .iload 1, .invokevirtual 77, .iload 2, .iload 6, .iload 5, .iload 7, .fadd, .invokevirtual 83, .iastore, .iinc 7 1, .goto 16, .iconst 0, .istore 7,
  .nop, .iload 7, .iload 3, .if_icmp .ge 53, .aload 0, .getfield 507, .iload 7, .iload 7, .iastore, .iinc 7 1, .goto 42, .aload 0, .iload 3, .putfield 511,
  .bipush (-1), .lstore 7, .iconst 1, .istore 9, .iconst 0, .istore 10, .nop, .iload 10, .iconst 5000, .if_icmp .ge 122, .iload 9, .ifCond .eq 122, .iconst 0, .istore 11,
  .nop, .iload 11, .iload 3, .if_icmp .ge 97, .aload 0, .getfield 502, .iload 11, .iload 5, .aload 0, .getfield 507, .iload 11, .iaload, .fadd, .iastore,
  .aload 0, .getfield 504, .iload 11, .aload 0, .getfield 509, .aload 0, .getfield 507, .iload 11, .iaload, .iaload, .iastore, .iinc 11 1, .goto 70, .aload 0,
  .iload 1, .invokevirtual 111, .lstore 11, .lload 11, .lload 7, .lcmp, .ifCond .le 115, .lload 11, .lstore 7, .aload 0, .getfield 502, .iconst 0, .aload 0, .getfield 508,
  .iconst 0, .iload 3, .invokeinterface 1 0, .aload 0, .iload 3, .iload 4, .invokevirtual 157, .istore 9, .iinc 10 1, .goto 62, .lload 7, .lreturn]
def p_156 : List Nat := [0, 1, 4, 7, 8, 9, 11, 12, 14, 15, 18, 21, 22, 23, 25, 26, 28, 28, 30, 32, 35, 36, 39, 41, 42, 45, 46, 48, 49, 52,
  53, 56, 57, 59, 61, 63, 64, 67, 68, 71, 74, 75, 77, 77, 79, 80, 83, 84, 87, 89, 91, 92, 95, 98, 99, 100, 103, 106, 108, 109,
  111, 112, 114, 114, 116, 119, 122, 124, 127, 128, 130, 130, 132, 133, 136, 137, 140, 142, 144, 145, 148, 150, 151, 152, 153, 154, 157, 159, 160, 163,
  164, 167, 169, 170, 171, 172, 175, 178, 179, 180, 183, 185, 187, 189, 190, 193, 195, 197, 198, 201, 202, 203, 206, 207, 208, 211, 212, 213, 215, 218,
  220, 223, 226, 228]
/-- WakeHouse$Night.pickNext(II)Z -/
def c_157 : List aI := [.iload 1, .iconst 1, .fsub, .istore 3, .nop, .iload 3, .ifCond .lt 53, .aload 0, .getfield 507, .iload 3, .iaload, .iload 2, .iload 1, .iconst 1,
  .fsub, .iload 3, .fsub, .fsub, .if_icmp .ge 51, .aload 0, .getfield 507, .iload 3, .dup2, .iaload, .iconst 1, .fadd, .iastore, .iload 3,
  .iconst 1, .fadd, .istore 4, .nop, .iload 4, .iload 1, .if_icmp .ge 49, .aload 0, .getfield 507, .iload 4, .aload 0, .getfield 507, .iload 4, .iconst 1,
  .fsub, .iaload, .iconst 1, .fadd, .iastore, .iinc 4 1, .goto 31, .iconst 1, .freturn, .iinc 3 (-1), .goto 4, .iconst 0, .freturn]
def p_157 : List Nat := [0, 1, 2, 3, 4, 4, 5, 8, 9, 12, 13, 14, 15, 16, 17, 18, 19, 20, 21, 24, 25, 28, 29, 30, 31, 32, 33, 34, 35, 36,
  37, 39, 39, 41, 42, 45, 46, 49, 51, 52, 55, 57, 58, 59, 60, 61, 62, 63, 66, 69, 70, 71, 74, 77, 78]
/-- WakeHouse.twiceAt(IIIII)I -/
def c_158 : List aI := [.aload 0, .iload 1, .iload 2, .iload 3, .iload 4, .invokevirtual 155, .ifCond .eq 12, .iload 5, .ifCond .lt 12, .iload 5, .iload 3, .if_icmp .lt 14, .iconst (-1), .ireturn,
  .aload 0, .getfield 1105, .iload 1, .iload 2, .iload 3, .iload 4, .invokevirtual 156, .pop2, .aload 0, .getfield 1105, .getfield 508, .iload 5, .iaload, .ireturn]
def p_158 : List Nat := [0, 1, 2, 3, 4, 6, 9, 12, 14, 17, 19, 20, 23, 24, 25, 26, 29, 30, 31, 32, 34, 37, 38, 39, 42, 45, 47, 48]
/-- WakeHouse.swaps(I)I -/
def c_159 : List aI := [.iload 1, .invokestatic 160, .ifCond .eq 8, .aload 0, .getfield 1110, .iload 1, .invokevirtual 161, .goto 9, .iconst (-1), .ireturn]
def p_159 : List Nat := [0, 1, 4, 7, 8, 11, 12, 15, 18, 19]
/-- WakeHouse.isLimit(I)Z -/
def c_160 : List aI := [.iload 0, .ifCond .lt 7, .iload 0, .iconst 99, .if_icmp .gt 7, .iconst 1, .goto 8, .iconst 0, .freturn]
def p_160 : List Nat := [0, 1, 4, 5, 7, 10, 11, 14, 15]
/-- WakeHouse$Changes.fewestChanges(I)I -/
def c_161 : List aI := [.aload 0, .invokevirtual 162, .bipush 0, .lstore 2, .iconst 0, .istore 4, .nop, .iload 4, .aload 0, .getfield 100, .getfield 316, .if_icmp .ge 25, .lload 2, .aload 0,
  .iload 4, .aload 0, .getfield 101, .getfield 904, .iload 4, .iaload, .invokevirtual 163, .dadd, .lstore 2, .iinc 4 1, .goto 6, .lload 2, .iload 1, .i2l,
  .getstatic 2, .aload 0, .getfield 101, .getfield 910, .laload, .dmul, .dsub, .lstore 4, .lload 4, .bipush 0, .lcmp, .ifCond .gt 42, .iconst 0, .ireturn,
  .aload 0, .getfield 101, .getfield 905, .iconst 0, .aload 0, .getfield 104, .iconst 0, .iconst 12, .invokeinterface 1 0, .aload 0, .lload 4, .iconst 0, .invokevirtual 164, .ifCond .eq 58,
  .iconst 1, .ireturn, .aload 0, .lload 4, .invokevirtual 166, .ifCond .eq 64, .iconst 2, .goto 65, .iconst (-2), .ireturn]
def p_161 : List Nat := [0, 1, 4, 5, 6, 7, 9, 9, 11, 12, 15, 18, 21, 22, 23, 25, 26, 29, 32, 34, 35, 38, 39, 40, 43, 46, 47, 48, 49, 52,
  53, 56, 59, 60, 61, 62, 64, 66, 67, 68, 71, 72, 73, 74, 77, 80, 81, 82, 85, 86, 88, 91, 92, 94, 95, 98, 101, 102, 103, 104,
  106, 109, 112, 113, 116, 118]
/-- WakeHouse$Changes.setPrices()V -/
def c_162 : List aI := [.aload 0, .getfield 102, .iconst (-1), .invokevirtual 106, .iconst 0, .istore 1, .nop, .iload 1, .aload 0, .getfield 100, .getfield 316, .if_icmp .ge 45, .iconst 0, .istore 2,
  .nop, .iload 2, .aload 0, .getfield 100, .getfield 314, .if_icmp .ge 43, .aload 0, .getfield 102, .iload 1, .iload 2, .aload 0, .getfield 101, .iload 1, .invokevirtual 77,
  .invokevirtual 109, .aload 0, .getfield 103, .iload 1, .iconst 12, .fmul, .iload 2, .fadd, .aload 0, .getfield 102, .iload 1, .invokevirtual 116, .lastore, .iinc 2 1,
  .goto 14, .iinc 1 1, .goto 6, .return_]
def p_162 : List Nat := [0, 1, 4, 5, 8, 9, 10, 10, 11, 12, 15, 18, 21, 22, 23, 23, 24, 25, 28, 31, 34, 35, 38, 39, 40, 41, 44, 45, 48, 51,
  52, 55, 56, 58, 59, 60, 61, 62, 65, 66, 69, 70, 73, 76, 79, 82]
/-- WakeHouse$Changes.priceOf(II)J -/
def c_163 : List aI := [.iload 1, .iconst (-2), .if_icmp .ne 5, .bipush 0, .goto 13, .aload 0, .getfield 103, .iload 1, .iconst 12, .fmul, .iload 2, .fadd, .laload, .lreturn]
def p_163 : List Nat := [0, 1, 3, 6, 7, 10, 11, 14, 15, 17, 18, 19, 20, 21]
/-- WakeHouse$Changes.seekOne(JI)Z -/
def c_164 : List aI := [.iconst 0, .istore 4, .nop, .iload 4, .aload 0, .getfield 100, .getfield 314, .if_icmp .ge 40, .iload 4, .iconst 1, .fadd, .istore 5, .nop, .iload 5,
  .aload 0, .getfield 100, .getfield 314, .if_icmp .ge 38, .aload 0, .iload 4, .iload 5, .invokevirtual 165, .lload 1, .lcmp, .ifCond .lt 36, .aload 0, .getfield 105, .iload 3,
  .iconst 100, .iload 4, .fmul, .iload 5, .fadd, .iastore, .iconst 1, .freturn, .iinc 5 1, .goto 12, .iinc 4 1, .goto 2, .iconst 0, .freturn]
def p_164 : List Nat := [0, 1, 3, 3, 5, 6, 9, 12, 15, 17, 18, 19, 21, 21, 23, 24, 27, 30, 33, 34, 36, 38, 41, 42, 43, 46, 47, 50, 51, 53,
  55, 56, 58, 59, 60, 61, 62, 65, 68, 71, 74, 75]
/-- WakeHouse$Changes.saved(II)J -/
def c_165 : List aI := [.aload 0, .getfield 104, .iload 1, .iaload, .istore 3, .aload 0, .getfield 104, .iload 2, .iaload, .istore 4, .aload 0, .iload 3, .iload 1, .invokevirtual 163,
  .aload 0, .iload 3, .iload 2, .invokevirtual 163, .dsub, .aload 0, .iload 4, .iload 2, .invokevirtual 163, .dadd, .aload 0, .iload 4, .iload 1, .invokevirtual 163,
  .dsub, .lreturn]
def p_165 : List Nat := [0, 1, 4, 5, 6, 7, 8, 11, 12, 13, 15, 16, 17, 18, 21, 22, 23, 24, 27, 28, 29, 31, 32, 35, 36, 37, 39, 40, 43, 44]
/-- WakeHouse$Changes.seekTwo(J)Z -/
def c_166 : List aI := [.iconst 0, .istore 3, .nop, .iload 3, .aload 0, .getfield 100, .getfield 314, .if_icmp .ge 53, .iload 3, .iconst 1, .fadd, .istore 4, .nop, .iload 4,
  .aload 0, .getfield 100, .getfield 314, .if_icmp .ge 51, .lload 1, .aload 0, .iload 3, .iload 4, .invokevirtual 165, .dsub, .lstore 5, .aload 0, .iload 3, .iload 4,
  .invokevirtual 167, .aload 0, .lload 5, .iconst 1, .invokevirtual 164, .ifCond .eq 45, .aload 0, .getfield 105, .iconst 0, .iconst 100, .iload 3, .fmul, .iload 4, .fadd,
  .iastore, .iconst 1, .freturn, .aload 0, .iload 3, .iload 4, .invokevirtual 167, .iinc 4 1, .goto 12, .iinc 3 1, .goto 2, .iconst 0, .freturn]
def p_166 : List Nat := [0, 1, 2, 2, 3, 4, 7, 10, 13, 14, 15, 16, 18, 18, 20, 21, 24, 27, 30, 31, 32, 33, 35, 38, 39, 41, 42, 43, 45, 48,
  49, 51, 52, 55, 58, 59, 62, 63, 65, 66, 67, 69, 70, 71, 72, 73, 74, 75, 77, 80, 83, 86, 89, 92, 93]
/-- WakeHouse$Changes.turn(II)V -/
def c_167 : List aI := [.aload 0, .getfield 104, .iload 1, .iaload, .istore 3, .aload 0, .getfield 104, .iload 1, .aload 0, .getfield 104, .iload 2, .iaload, .iastore, .aload 0,
  .getfield 104, .iload 2, .iload 3, .iastore, .return_]
def p_167 : List Nat := [0, 1, 4, 5, 6, 7, 8, 11, 12, 13, 16, 17, 18, 19, 20, 23, 24, 25, 26]
/-- WakeHouse.swapAt(II)I -/
def c_168 : List aI := [.iload 1, .invokestatic 160, .ifCond .ne 5, .iconst (-1), .ireturn, .aload 0, .getfield 1110, .iload 1, .invokevirtual 161, .istore 3, .iload 2, .ifCond .lt 21, .iload 2, .iload 3,
  .if_icmp .ge 21, .aload 0, .getfield 1110, .getfield 105, .iload 2, .iaload, .goto 22, .iconst (-1), .ireturn]
def p_168 : List Nat := [0, 1, 4, 7, 8, 9, 10, 13, 14, 17, 18, 19, 22, 23, 24, 27, 28, 31, 34, 35, 36, 39, 40]
/-- WakeHouse.worth(I)J -/
def c_169 : List aI := [.aload 0, .iload 1, .invokevirtual 76, .ifCond .ne 6, .bipush (-1000000000000000000), .lreturn, .aload 0, .getfield 1105, .iconst (-1), .invokevirtual 106, .aload 0, .getfield 1105, .iload 1, .invokevirtual 170,
  .lreturn]
def p_169 : List Nat := [0, 1, 2, 5, 8, 11, 12, 13, 16, 17, 20, 21, 24, 25, 28]
/-- WakeHouse$Night.worthOfWool(I)J -/
def c_170 : List aI := [.aload 0, .iload 1, .aload 0, .getfield 501, .getfield 904, .iload 1, .iaload, .iconst 0, .invokevirtual 109, .aload 0, .iload 1, .invokevirtual 116, .lstore 2, .aload 0,
  .iload 1, .aload 0, .getfield 501, .getfield 904, .iload 1, .iaload, .iconst 1, .invokevirtual 109, .lload 2, .aload 0, .iload 1, .invokevirtual 116, .dsub, .lreturn]
def p_170 : List Nat := [0, 1, 2, 3, 6, 9, 10, 11, 12, 15, 16, 17, 20, 21, 22, 23, 24, 27, 30, 31, 32, 33, 36, 37, 38, 39, 42, 43]
/-- WakeHouse.whose(I)I -/
def c_171 : List aI := [.iload 1, .ifCond .lt 10, .iload 1, .iconst 12, .if_icmp .gt 10, .aload 0, .getfield 1105, .iload 1, .invokevirtual 172, .goto 11, .iconst (-1), .ireturn]
def p_171 : List Nat := [0, 1, 4, 5, 7, 10, 11, 14, 15, 18, 21, 22]
/-- WakeHouse$Night.worthiest(I)I -/
def c_172 : List aI := [.aload 0, .iconst (-1), .invokevirtual 106, .iconst 0, .istore 2, .nop, .iload 2, .aload 0, .getfield 500, .getfield 316, .if_icmp .ge 20, .aload 0, .getfield 510, .iload 2,
  .aload 0, .iload 2, .invokevirtual 170, .lastore, .iinc 2 1, .goto 5, .iconst 0, .istore 2, .iconst 0, .istore 3, .nop, .iload 3, .iload 1, .if_icmp .ge 79,
  .iconst (-1), .istore 4, .iconst 0, .istore 5, .nop, .iload 5, .aload 0, .getfield 500, .getfield 316, .if_icmp .ge 62, .aload 0, .getfield 510, .iload 5, .laload,
  .bipush 0, .lcmp, .ifCond .le 60, .iload 4, .iconst (-1), .if_icmp .eq 58, .aload 0, .getfield 510, .iload 5, .laload, .aload 0, .getfield 510, .iload 4, .laload,
  .lcmp, .ifCond .le 60, .iload 5, .istore 4, .iinc 5 1, .goto 32, .iload 4, .iconst (-1), .if_icmp .ne 66, .goto 79, .iload 2, .iconst 1, .iload 4, .ishl,
  .ior, .istore 2, .aload 0, .getfield 510, .iload 4, .bipush 0, .lastore, .iinc 3 1, .goto 24, .iload 2, .ireturn]
def p_172 : List Nat := [0, 1, 2, 5, 6, 7, 7, 8, 9, 12, 15, 18, 19, 22, 23, 24, 25, 28, 29, 32, 35, 36, 37, 38, 39, 39, 40, 41, 44, 45,
  47, 48, 50, 50, 52, 53, 56, 59, 62, 63, 66, 68, 69, 70, 71, 74, 76, 77, 80, 81, 84, 86, 87, 88, 91, 93, 94, 95, 98, 100,
  102, 105, 108, 110, 111, 114, 117, 118, 119, 121, 122, 123, 124, 125, 128, 130, 131, 132, 135, 138, 139]
/-- WakeHouse.round(I)I -/
def c_173 : List aI := [.iload 1, .invokestatic 174, .ifCond .eq 8, .aload 0, .getfield 1109, .iload 1, .invokevirtual 175, .goto 9, .iconst (-1), .ireturn]
def p_173 : List Nat := [0, 1, 4, 7, 8, 11, 12, 15, 18, 19]
/-- WakeHouse.isEarly(I)Z -/
def c_174 : List aI := [.iload 0, .ifCond .lt 7, .iload 0, .iconst 60, .if_icmp .gt 7, .iconst 1, .goto 8, .iconst 0, .freturn]
def p_174 : List Nat := [0, 1, 4, 5, 7, 10, 11, 14, 15]
/-- WakeHouse$Round.walkRound(I)I -/
def c_175 : List aI := [.aload 0, .getfield 700, .getfield 318, .istore 2, .iload 2, .ifCond .ne 8, .iconst 0, .ireturn, .aload 0, .iload 1, .putfield 707, .aload 0, .iconst 1, .iload 2,
  .ishl, .iconst 1, .fsub, .putfield 706, .iconst 0, .istore 3, .nop, .iload 3, .iload 2, .if_icmp .ge 43, .aload 0, .getfield 703, .iload 3, .aload 0,
  .getfield 700, .getfield 301, .aload 0, .getfield 701, .getfield 904, .aload 0, .getfield 700, .getfield 310, .iload 3, .iaload, .iaload, .iaload, .iastore, .iinc 3 1,
  .goto 20, .aload 0, .invokevirtual 176, .iconst 100000, .istore 3, .iconst 0, .istore 4, .nop, .iload 4, .iload 2, .if_icmp .ge 67, .iload 3, .aload 0, .getfield 704,
  .aload 0, .getfield 706, .iconst 8, .fmul, .iload 4, .fadd, .iaload, .invokeinterface 3 0, .istore 3, .iinc 4 1, .goto 49, .iload 3, .iconst 100000, .if_icmp .ne 72,
  .iconst (-2), .ireturn, .aload 0, .iload 3, .invokevirtual 179, .aload 0, .invokevirtual 180, .iload 3, .ireturn]
def p_175 : List Nat := [0, 1, 4, 7, 8, 9, 12, 13, 14, 15, 16, 19, 20, 21, 22, 23, 24, 25, 28, 29, 30, 30, 31, 32, 35, 36, 39, 40, 41, 44,
  47, 48, 51, 54, 55, 58, 61, 62, 63, 64, 65, 66, 69, 72, 73, 76, 78, 79, 80, 82, 82, 84, 85, 88, 89, 90, 93, 94, 97, 99,
  100, 102, 103, 104, 107, 108, 111, 114, 115, 117, 120, 122, 123, 124, 125, 128, 129, 132, 133]
/-- WakeHouse$Round.goForward()V -/
def c_176 : List aI := [.aload 0, .getfield 700, .getfield 318, .istore 1, .aload 0, .getfield 704, .iconst 100000, .invokestatic 71, .iconst 0, .istore 2, .nop, .iload 2, .iload 1, .if_icmp .ge 33,
  .aload 0, .getfield 704, .iconst 1, .iload 2, .ishl, .iconst 8, .fmul, .iload 2, .fadd, .aload 0, .iload 2, .aload 0, .getfield 703, .iload 2,
  .iaload, .invokevirtual 177, .iastore, .iinc 2 1, .goto 10, .iconst 1, .istore 2, .nop, .iload 2, .aload 0, .getfield 706, .if_icmp .ge 112, .iconst 0, .istore 3,
  .nop, .iload 3, .iload 1, .if_icmp .ge 110, .aload 0, .getfield 704, .iload 2, .iconst 8, .fmul, .iload 3, .fadd, .iaload, .istore 4, .iconst 0,
  .istore 5, .nop, .iload 5, .iload 1, .if_icmp .ge 108, .iload 4, .iconst 100000, .if_icmp .ge 108, .iload 2, .iload 5, .ishr, .iconst 1, .iand, .ifCond .ne 106,
  .iload 2, .iconst 1, .iload 5, .ishl, .ior, .iconst 8, .fmul, .iload 5, .fadd, .istore 6, .aload 0, .iload 5, .iload 4, .aload 0,
  .getfield 703, .iload 3, .iaload, .aload 0, .getfield 703, .iload 5, .iaload, .fsub, .invokeinterface 4 0, .fadd, .invokevirtual 177, .istore 7, .aload 0, .getfield 704,
  .iload 6, .aload 0, .getfield 704, .iload 6, .iaload, .iload 7, .invokeinterface 3 0, .iastore, .iinc 5 1, .goto 57, .iinc 3 1, .goto 42, .iinc 2 1, .goto 35,
  .return_]
def p_176 : List Nat := [0, 1, 4, 7, 8, 9, 12, 14, 17, 18, 19, 19, 20, 21, 24, 25, 28, 29, 30, 31, 33, 34, 35, 36, 37, 38, 39, 42, 43, 44,
  47, 48, 51, 54, 55, 56, 56, 57, 58, 61, 64, 65, 66, 66, 67, 68, 71, 72, 75, 76, 78, 79, 80, 81, 82, 84, 85, 87, 87, 89,
  90, 93, 95, 97, 100, 101, 103, 104, 105, 106, 109, 110, 111, 113, 114, 115, 117, 118, 120, 121, 123, 124, 126, 128, 129, 132, 133, 134, 135, 138,
  140, 141, 142, 145, 146, 149, 151, 152, 155, 157, 158, 161, 163, 164, 166, 169, 170, 173, 176, 179, 182, 185, 188]
/-- WakeHouse$Round.knock(II)I -/
def c_177 : List aI := [.iload 2, .aload 0, .iload 1, .invokevirtual 178, .aload 0, .getfield 707, .fsub, .invokeinterface 2 0, .istore 3, .iload 3, .aload 0, .iload 1, .invokevirtual 178, .if_icmp .gt 16,
  .iload 3, .goto 17, .iconst 100000, .ireturn]
def p_177 : List Nat := [0, 1, 2, 3, 6, 7, 10, 11, 14, 15, 16, 17, 18, 21, 24, 25, 28, 30]
/-- WakeHouse$Round.hourOf(I)I -/
def c_178 : List aI := [.aload 0, .getfield 700, .getfield 306, .aload 0, .getfield 700, .getfield 310, .iload 1, .iaload, .iaload, .ireturn]
def p_178 : List Nat := [0, 1, 4, 7, 8, 11, 14, 15, 16, 17]
/-- WakeHouse$Round.goBackward(I)V -/
def c_179 : List aI := [.aload 0, .getfield 700, .getfield 318, .istore 2, .aload 0, .getfield 705, .iconst (-1), .invokestatic 71, .iconst 0, .istore 3, .nop, .iload 3, .iload 2, .if_icmp .ge 26,
  .aload 0, .getfield 705, .aload 0, .getfield 706, .iconst 8, .fmul, .iload 3, .fadd, .iload 1, .iastore, .iinc 3 1, .goto 10, .aload 0, .getfield 706,
  .iconst 1, .fsub, .istore 3, .nop, .iload 3, .ifCond .le 116, .iconst 0, .istore 4, .nop, .iload 4, .iload 2, .if_icmp .ge 114, .iconst 0, .istore 5,
  .nop, .iload 5, .iload 2, .if_icmp .ge 112, .iload 3, .iload 5, .ishr, .iconst 1, .iand, .ifCond .ne 110, .aload 0, .iload 5, .invokevirtual 178, .aload 0,
  .getfield 705, .iload 3, .iconst 1, .iload 5, .ishl, .ior, .iconst 8, .fmul, .iload 5, .fadd, .iaload, .invokeinterface 3 0, .istore 6, .iload 6,
  .aload 0, .iload 5, .invokevirtual 178, .aload 0, .getfield 707, .fsub, .if_icmp .lt 90, .iload 6, .aload 0, .getfield 703, .iload 4, .iaload, .aload 0, .getfield 703,
  .iload 5, .iaload, .fsub, .invokeinterface 4 0, .fsub, .goto 91, .iconst (-1), .istore 7, .aload 0, .getfield 705, .iload 3, .iconst 8, .fmul, .iload 4,
  .fadd, .aload 0, .getfield 705, .iload 3, .iconst 8, .fmul, .iload 4, .fadd, .iaload, .iload 7, .invokeinterface 2 0, .iastore, .iinc 5 1, .goto 42,
  .iinc 4 1, .goto 36, .iinc 3 (-1), .goto 31, .return_]
def p_179 : List Nat := [0, 1, 4, 7, 8, 9, 12, 13, 16, 17, 18, 18, 19, 20, 23, 24, 27, 28, 31, 33, 34, 35, 36, 37, 38, 41, 44, 45, 48, 49,
  50, 51, 51, 52, 55, 56, 58, 58, 60, 61, 64, 65, 67, 67, 69, 70, 73, 74, 76, 77, 78, 79, 82, 83, 85, 88, 89, 92, 93, 94,
  96, 97, 98, 100, 101, 103, 104, 105, 108, 110, 112, 113, 115, 118, 119, 122, 123, 126, 128, 129, 132, 134, 135, 136, 139, 141, 142, 143, 146, 147,
  150, 151, 153, 154, 157, 158, 160, 161, 163, 164, 165, 168, 169, 171, 172, 174, 175, 176, 178, 181, 182, 185, 188, 191, 194, 197, 200]
/-- WakeHouse$Round.pickOrder()V -/
def c_180 : List aI := [.aload 0, .getfield 700, .getfield 318, .istore 1, .iconst 0, .istore 2, .iconst 0, .istore 3, .iconst 0, .istore 4, .iconst 0, .istore 5, .nop, .iload 5,
  .iload 1, .if_icmp .ge 82, .iconst 0, .istore 6, .nop, .iload 6, .iload 1, .if_icmp .ge 80, .aload 0, .iload 6, .iload 3, .aload 0, .getfield 703, .iload 6,
  .iaload, .iload 4, .fsub, .invokeinterface 4 0, .fadd, .invokevirtual 177, .istore 7, .iload 2, .iload 6, .ishr, .iconst 1, .iand, .ifCond .ne 78, .iload 7,
  .aload 0, .getfield 705, .iload 2, .iconst 1, .iload 6, .ishl, .ior, .iconst 8, .fmul, .iload 6, .fadd, .iaload, .if_icmp .gt 78, .aload 0,
  .getfield 702, .iload 5, .aload 0, .getfield 700, .getfield 310, .iload 6, .iaload, .iastore, .iload 2, .iconst 1, .iload 6, .ishl, .ior, .istore 2,
  .iload 7, .istore 3, .aload 0, .getfield 703, .iload 6, .iaload, .istore 4, .goto 80, .iinc 6 1, .goto 18, .iinc 5 1, .goto 12, .return_]
def p_180 : List Nat := [0, 1, 4, 7, 8, 9, 10, 11, 12, 13, 15, 16, 18, 18, 20, 21, 24, 25, 27, 27, 29, 30, 33, 34, 36, 37, 38, 41, 43, 44,
  46, 47, 50, 51, 54, 56, 57, 59, 60, 61, 62, 65, 67, 68, 71, 72, 73, 75, 76, 77, 79, 80, 82, 83, 84, 87, 88, 91, 93, 94,
  97, 100, 102, 103, 104, 105, 106, 108, 109, 110, 111, 113, 114, 115, 118, 120, 121, 123, 126, 129, 132, 135, 138]
/-- WakeHouse.roundAt(II)I -/
def c_181 : List aI := [.iload 1, .invokestatic 174, .ifCond .eq 16, .iload 2, .ifCond .lt 16, .iload 2, .aload 0, .getfield 1102, .getfield 318, .if_icmp .ge 16, .aload 0, .getfield 1109, .iload 1, .invokevirtual 175,
  .iconst (-2), .if_icmp .ne 18, .iconst (-1), .ireturn, .aload 0, .getfield 1109, .getfield 702, .iload 2, .iaload, .ireturn]
def p_181 : List Nat := [0, 1, 4, 7, 8, 11, 12, 13, 16, 19, 22, 23, 26, 27, 30, 32, 35, 36, 37, 38, 41, 44, 45, 46]
/-- WakeHouse.morning(III)I -/
def c_182 : List aI := [.aload 0, .iload 1, .invokevirtual 76, .ifCond .eq 14, .iload 2, .ifCond .lt 14, .iload 2, .iconst 6, .if_icmp .gt 14, .iload 3, .ifCond .lt 14, .iload 3, .iconst 400, .if_icmp .le 16,
  .iconst (-1), .ireturn, .aload 0, .getfield 1103, .iload 1, .iload 2, .iload 3, .invokevirtual 183, .ireturn]
def p_182 : List Nat := [0, 1, 2, 5, 8, 9, 12, 13, 15, 18, 19, 22, 23, 26, 29, 30, 31, 32, 35, 36, 37, 38, 41]
/-- WakeHouse$State.note(III)I -/
def c_183 : List aI := [.aload 0, .getfield 912, .iconst 60, .if_icmp .lt 6, .iconst (-1), .ireturn, .aload 0, .getfield 906, .aload 0, .getfield 912, .iload 1, .iastore, .aload 0, .getfield 907,
  .aload 0, .getfield 912, .iload 2, .iastore, .aload 0, .getfield 908, .aload 0, .getfield 912, .iload 3, .iastore, .aload 0, .dup, .getfield 912, .iconst 1,
  .fadd, .putfield 912, .aload 0, .getfield 912, .iconst 1, .fsub, .ireturn]
def p_183 : List Nat := [0, 1, 4, 6, 9, 10, 11, 12, 15, 16, 19, 20, 21, 22, 25, 26, 29, 30, 31, 32, 35, 36, 39, 40, 41, 42, 43, 46, 47, 48,
  51, 52, 55, 56, 57]
/-- WakeHouse.annul(I)I -/
def c_184 : List aI := [.iload 1, .ifCond .lt 14, .iload 1, .aload 0, .getfield 1103, .getfield 912, .if_icmp .ge 14, .aload 0, .getfield 1103, .getfield 906, .iload 1, .iaload, .iconst (-1), .if_icmp .ne 16,
  .iconst (-1), .ireturn, .aload 0, .getfield 1103, .iconst (-1), .iconst 0, .iload 1, .invokevirtual 183, .ireturn]
def p_184 : List Nat := [0, 1, 4, 5, 6, 9, 12, 15, 16, 19, 22, 23, 24, 25, 28, 29, 30, 31, 34, 35, 36, 37, 40]
/-- WakeHouse.alone(IIII)I -/
def c_185 : List aI := [.aload 0, .iload 1, .invokevirtual 76, .ifCond .eq 18, .iload 2, .ifCond .lt 18, .iload 2, .iconst 7, .if_icmp .gt 18, .aload 0, .iload 3, .invokevirtual 186, .ifCond .eq 18, .iload 4,
  .ifCond .lt 18, .iload 4, .iconst 1, .if_icmp .le 20, .iconst (-1), .ireturn, .aload 0, .getfield 1103, .aload 0, .getfield 1102, .iload 1, .iload 2, .iload 3, .iload 4,
  .iconst 1, .if_icmp .ne 32, .iconst 1, .goto 33, .iconst 0, .invokevirtual 187, .ireturn]
def p_185 : List Nat := [0, 1, 2, 5, 8, 9, 12, 13, 15, 18, 19, 20, 23, 26, 28, 31, 33, 34, 37, 38, 39, 40, 43, 44, 47, 48, 49, 50, 52, 53,
  56, 57, 60, 61, 64]
/-- WakeHouse.isKnown(I)Z -/
def c_186 : List aI := [.iload 1, .ifCond .lt 9, .iload 1, .aload 0, .getfield 1103, .getfield 912, .if_icmp .gt 9, .iconst 1, .goto 10, .iconst 0, .freturn]
def p_186 : List Nat := [0, 1, 4, 5, 6, 9, 12, 15, 16, 19, 20]
/-- WakeHouse$State.countAlone(LWakeHouse$House;IIIZ)I -/
def c_187 : List aI := [.iconst 0, .istore 6, .iconst 0, .istore 7, .nop, .iload 7, .iload 4, .if_icmp .ge 49, .aload 0, .getfield 906, .iload 7, .iaload, .iload 2, .if_icmp .ne 31,
  .iload 3, .iconst 7, .if_icmp .eq 23, .aload 0, .getfield 907, .iload 7, .iaload, .iload 3, .if_icmp .ne 31, .nop, .aload 0, .iload 7, .iload 4, .invokevirtual 188,
  .ifCond .eq 31, .iconst 1, .goto 33, .nop, .iconst 0, .istore 8, .nop, .iload 8, .ifCond .eq 46, .iload 5, .ifCond .eq 44, .aload 0, .aload 1, .iload 7,
  .invokevirtual 189, .ifCond .eq 46, .nop, .iinc 6 1, .nop, .iinc 7 1, .goto 4, .iload 6, .ireturn]
def p_187 : List Nat := [0, 1, 3, 4, 6, 6, 8, 10, 13, 14, 17, 19, 20, 21, 24, 25, 27, 30, 31, 34, 36, 37, 38, 41, 41, 42, 44, 46, 49, 52,
  53, 56, 56, 57, 59, 59, 61, 64, 66, 69, 70, 71, 73, 76, 79, 79, 82, 82, 85, 88, 90]
/-- WakeHouse$State.known(II)Z -/
def c_188 : List aI := [.aload 0, .getfield 906, .iload 1, .iaload, .iconst (-1), .if_icmp .ne 8, .iconst 0, .freturn, .iload 1, .iconst 1, .fadd, .istore 3, .nop, .iload 3,
  .iload 2, .if_icmp .ge 32, .aload 0, .getfield 906, .iload 3, .iaload, .iconst (-1), .if_icmp .ne 30, .aload 0, .getfield 908, .iload 3, .iaload, .iload 1, .if_icmp .ne 30,
  .iconst 0, .freturn, .iinc 3 1, .goto 12, .iconst 1, .freturn]
def p_188 : List Nat := [0, 1, 4, 5, 6, 7, 10, 11, 12, 13, 14, 15, 16, 16, 17, 18, 21, 22, 25, 26, 27, 28, 31, 32, 35, 36, 37, 38, 41, 42,
  43, 46, 49, 50]
/-- WakeHouse$State.inTime(LWakeHouse$House;I)Z -/
def c_189 : List aI := [.aload 1, .getfield 306, .aload 0, .getfield 906, .iload 2, .iaload, .iaload, .istore 3, .iload 3, .iconst (-2), .if_icmp .ne 21, .aload 0, .getfield 908, .iload 2,
  .iaload, .iconst 400, .if_icmp .ge 19, .iconst 1, .goto 30, .iconst 0, .goto 30, .aload 0, .getfield 908, .iload 2, .iaload, .iload 3, .if_icmp .gt 29, .iconst 1,
  .goto 30, .iconst 0, .freturn]
def p_189 : List Nat := [0, 1, 4, 5, 8, 9, 10, 11, 12, 13, 15, 18, 19, 22, 23, 24, 27, 30, 31, 34, 35, 38, 39, 42, 43, 44, 45, 48, 49, 52,
  53]
/-- WakeHouse.mondays(II)I -/
def c_190 : List aI := [.aload 0, .iload 1, .invokevirtual 186, .ifCond .eq 9, .iload 2, .ifCond .lt 9, .iload 2, .iconst 3, .if_icmp .le 11, .iconst (-1), .ireturn, .aload 0, .getfield 1103, .aload 0,
  .getfield 1102, .iload 1, .invokevirtual 191, .aload 0, .getfield 1103, .getfield 909, .iload 2, .iaload, .ireturn]
def p_190 : List Nat := [0, 1, 2, 5, 8, 9, 12, 13, 14, 17, 18, 19, 20, 23, 24, 27, 28, 31, 32, 35, 38, 39, 40]
/-- WakeHouse$State.tallyMondays(LWakeHouse$House;I)V -/
def c_191 : List aI := [.aload 0, .getfield 909, .iconst 0, .invokestatic 71, .iconst 0, .istore 3, .nop, .iload 3, .iload 2, .if_icmp .ge 69, .aload 0, .iload 3, .iload 2, .invokevirtual 188,
  .ifCond .eq 67, .aload 0, .getfield 907, .iload 3, .iaload, .ifCond .ne 22, .iconst 1, .goto 23, .iconst 0, .istore 4, .aload 0, .aload 1, .iload 3, .invokevirtual 189,
  .ifCond .eq 31, .iconst 0, .goto 32, .iconst 1, .istore 5, .aload 0, .getfield 909, .iconst 0, .dup2, .iaload, .iconst 1, .fadd, .iastore, .aload 0,
  .getfield 909, .iconst 1, .dup2, .iaload, .iload 4, .fadd, .iastore, .aload 0, .getfield 909, .iconst 2, .dup2, .iaload, .iload 5, .fadd,
  .iastore, .aload 0, .getfield 909, .iconst 3, .dup2, .iaload, .iload 4, .iload 5, .fmul, .fadd, .iastore, .iinc 3 1, .goto 6, .return_]
def p_191 : List Nat := [0, 1, 4, 5, 8, 9, 10, 10, 11, 12, 15, 16, 17, 18, 21, 24, 25, 28, 29, 30, 33, 34, 37, 38, 40, 41, 42, 43, 46, 49,
  50, 53, 54, 56, 57, 60, 61, 62, 63, 64, 65, 66, 67, 70, 71, 72, 73, 75, 76, 77, 78, 81, 82, 83, 84, 86, 87, 88, 89, 92,
  93, 94, 95, 97, 99, 100, 101, 102, 105, 108]
/-- WakeHouse.mondayWays(IZ)J -/
def c_192 : List aI := [.aload 0, .iload 1, .invokevirtual 186, .ifCond .ne 6, .bipush (-1), .lreturn, .aload 0, .getfield 1103, .aload 0, .getfield 1102, .iload 1, .invokevirtual 191, .iload 2, .ifCond .eq 18,
  .aload 0, .getfield 1103, .invokevirtual 193, .goto 29, .aload 0, .getfield 1103, .getfield 909, .iconst 0, .iaload, .aload 0, .getfield 1103, .getfield 909, .iconst 1, .iaload,
  .invokestatic 194, .lreturn]
def p_192 : List Nat := [0, 1, 2, 5, 8, 11, 12, 13, 16, 17, 20, 21, 24, 25, 28, 29, 32, 35, 38, 39, 42, 45, 46, 47, 48, 51, 54, 55, 56, 59]
/-- WakeHouse$State.waysOfSoMany()J -/
def c_193 : List aI := [.bipush 0, .lstore 1, .aload 0, .getfield 909, .iconst 3, .iaload, .istore 3, .nop, .iload 3, .aload 0, .getfield 909, .iconst 1, .iaload, .if_icmp .gt 42,
  .lload 1, .aload 0, .getfield 909, .iconst 2, .iaload, .iload 3, .invokestatic 194, .aload 0, .getfield 909, .iconst 0, .iaload, .aload 0, .getfield 909, .iconst 2,
  .iaload, .fsub, .aload 0, .getfield 909, .iconst 1, .iaload, .iload 3, .fsub, .invokestatic 194, .dmul, .dadd, .lstore 1, .iinc 3 1, .goto 7,
  .lload 1, .lreturn]
def p_193 : List Nat := [0, 1, 2, 3, 6, 7, 8, 9, 9, 10, 11, 14, 15, 16, 19, 20, 21, 24, 25, 26, 27, 30, 31, 34, 35, 36, 37, 40, 41, 42,
  43, 44, 47, 48, 49, 50, 51, 54, 55, 56, 57, 60, 63, 64]
/-- WakeHouse.choose(II)J -/
def c_194 : List aI := [.iload 1, .ifCond .lt 5, .iload 1, .iload 0, .if_icmp .le 7, .bipush 0, .lreturn, .bipush 1, .lstore 2, .iload 1, .iload 0, .iload 1, .fsub, .invokeinterface 3 0,
  .istore 4, .iconst 1, .istore 5, .nop, .iload 5, .iload 4, .if_icmp .gt 35, .lload 2, .iload 0, .iload 4, .fsub, .iload 5, .fadd, .i2l,
  .dmul, .iload 5, .i2l, .ldiv, .lstore 2, .iinc 5 1, .goto 17, .lload 2, .lreturn]
def p_194 : List Nat := [0, 1, 4, 5, 6, 9, 10, 11, 12, 13, 14, 15, 16, 17, 20, 22, 23, 25, 25, 27, 29, 32, 33, 34, 36, 37, 39, 40, 41, 42,
  44, 45, 46, 47, 50, 53, 54]
/-- WakeHouse.fire(IIZ)I -/
def c_195 : List aI := [.aload 0, .iload 1, .invokevirtual 76, .ifCond .eq 7, .iload 2, .invokestatic 81, .ifCond .ne 9, .iconst (-1), .ireturn, .iconst 1, .aload 0, .getfield 1102, .getfield 316, .ishl,
  .iconst 1, .fsub, .istore 4, .iconst 1, .iload 1, .ishl, .istore 5, .iconst 0, .istore 6, .nop, .iload 6, .iconst 12, .if_icmp .gt 40, .iload 5,
  .iload 4, .if_icmp .ne 32, .iload 6, .ireturn, .aload 0, .iload 5, .iload 2, .iload 3, .invokevirtual 196, .istore 5, .iinc 6 1, .goto 23, .iconst (-2), .ireturn]
def p_195 : List Nat := [0, 1, 2, 5, 8, 9, 12, 15, 16, 17, 18, 19, 22, 25, 26, 27, 28, 30, 31, 32, 33, 35, 36, 38, 38, 40, 42, 45, 47, 49,
  52, 54, 55, 56, 58, 59, 60, 63, 65, 68, 71, 73]
/-- WakeHouse.aMinuteLater(IIZ)I -/
def c_196 : List aI := [.iload 3, .ifCond .eq 4, .iconst 1, .goto 5, .iconst 10, .istore 4, .iload 1, .istore 5, .iconst 0, .istore 6, .nop, .iload 6, .aload 0, .getfield 1102,
  .getfield 316, .if_icmp .ge 54, .iconst 0, .istore 7, .nop, .iload 7, .aload 0, .getfield 1102, .getfield 316, .if_icmp .ge 52, .iload 5, .iload 6, .ishr, .iconst 1,
  .iand, .ifCond .ne 52, .iload 1, .iload 7, .ishr, .iconst 1, .iand, .iconst 1, .if_icmp .ne 50, .aload 0, .iload 6, .iload 7, .iload 2, .invokevirtual 197,
  .iload 4, .if_icmp .lt 50, .iload 5, .iconst 1, .iload 6, .ishl, .ior, .istore 5, .iinc 7 1, .goto 18, .iinc 6 1, .goto 10, .iload 5, .ireturn]
def p_196 : List Nat := [0, 1, 4, 5, 8, 10, 12, 13, 15, 16, 18, 18, 20, 21, 24, 27, 30, 31, 33, 33, 35, 36, 39, 42, 45, 47, 49, 50, 51, 52,
  55, 56, 58, 59, 60, 61, 62, 65, 66, 68, 70, 71, 74, 76, 79, 81, 82, 84, 85, 86, 88, 91, 94, 97, 100, 102]
/-- WakeHouse.cryHeard(III)I -/
def c_197 : List aI := [.aload 0, .getfield 1102, .iload 1, .aload 0, .getfield 1103, .getfield 904, .iload 1, .iaload, .aload 0, .getfield 1103, .iload 1, .invokevirtual 77, .iload 3, .aload 0,
  .getfield 1103, .getfield 904, .iload 2, .iaload, .iconst 0, .invokevirtual 83, .ireturn]
def p_197 : List Nat := [0, 1, 4, 5, 6, 9, 12, 13, 14, 15, 18, 19, 22, 23, 24, 27, 30, 31, 32, 33, 36]
/-- WakeHouse.reaches(IIZ)I -/
def c_198 : List aI := [.aload 0, .iload 1, .invokevirtual 76, .ifCond .eq 7, .iload 2, .invokestatic 81, .ifCond .ne 9, .iconst (-1), .ireturn, .iconst 1, .iload 1, .ishl, .istore 4, .iconst 0,
  .istore 5, .nop, .iload 5, .iconst 12, .if_icmp .ge 33, .aload 0, .iload 4, .iload 2, .iload 3, .invokevirtual 196, .istore 6, .iload 6, .iload 4, .if_icmp .ne 29,
  .goto 33, .iload 6, .istore 4, .iinc 5 1, .goto 15, .iload 4, .ireturn]
def p_198 : List Nat := [0, 1, 2, 5, 8, 9, 12, 15, 16, 17, 18, 19, 20, 22, 23, 25, 25, 27, 29, 32, 33, 35, 36, 37, 40, 42, 44, 46, 49, 52,
  54, 56, 59, 62, 64]
/-- WakeHouse.day(II)I -/
def c_199 : List aI := [.iload 2, .ifCond .lt 5, .iload 2, .iconst 999, .if_icmp .le 7, .iconst (-1), .ireturn, .iconst 0, .istore 3, .aload 0, .getfield 1105, .iconst (-1), .invokevirtual 106, .iconst 0,
  .istore 4, .nop, .iload 4, .aload 0, .getfield 1102, .getfield 316, .if_icmp .ge 49, .aload 0, .getfield 1102, .getfield 306, .iload 4, .iaload, .iconst (-2), .if_icmp .eq 47,
  .aload 0, .getfield 1105, .iload 4, .invokevirtual 108, .iload 3, .aload 0, .getfield 1105, .iload 1, .iload 2, .iload 4, .invokevirtual 200, .ifCond .eq 44, .iconst 1, .iload 4,
  .ishl, .goto 45, .iconst 0, .ior, .istore 3, .iinc 4 1, .goto 15, .iload 3, .ireturn]
def p_199 : List Nat := [0, 1, 4, 5, 8, 11, 12, 13, 14, 15, 16, 19, 20, 23, 24, 26, 26, 28, 29, 32, 35, 38, 39, 42, 45, 47, 48, 50, 53, 54,
  57, 59, 62, 63, 64, 67, 68, 69, 71, 74, 77, 78, 80, 81, 84, 85, 86, 87, 90, 93, 94]
/-- WakeHouse$Night.upByLots(III)Z -/
def c_200 : List aI := [.aload 0, .getfield 500, .getfield 306, .iload 3, .iaload, .istore 4, .iconst 1000, .iload 2, .fmul, .iconst 40, .iload 3, .fmul, .fadd, .istore 5,
  .iconst 0, .istore 6, .iconst 0, .istore 7, .nop, .iload 7, .aload 0, .getfield 511, .if_icmp .ge 84, .aload 0, .getfield 502, .iload 7, .iaload, .iload 4,
  .if_icmp .gt 84, .iload 6, .ifCond .eq 61, .iload 7, .ifCond .le 61, .iload 1, .iload 5, .iconst 2, .iload 7, .fmul, .fadd, .iconst 1, .fadd, .invokestatic 201,
  .aload 0, .iload 3, .aload 0, .getfield 502, .iload 7, .iaload, .aload 0, .getfield 502, .iload 7, .iconst 1, .fsub, .iaload, .fsub, .invokevirtual 88,
  .if_icmp .lt 59, .iconst 1, .goto 60, .iconst 0, .istore 6, .nop, .iload 6, .ifCond .ne 76, .iload 1, .iload 5, .iconst 2, .iload 7, .fmul, .fadd,
  .invokestatic 201, .aload 0, .getfield 504, .iload 7, .iaload, .if_icmp .ge 79, .nop, .iconst 1, .goto 80, .iconst 0, .istore 6, .nop, .iinc 7 1, .goto 18,
  .nop, .iload 6, .ifCond .eq 112, .iload 7, .ifCond .le 112, .iload 1, .iload 5, .iconst 2, .iload 7, .fmul, .fadd, .iconst 1, .fadd, .invokestatic 201,
  .aload 0, .iload 3, .iload 4, .aload 0, .getfield 502, .iload 7, .iconst 1, .fsub, .iaload, .fsub, .invokevirtual 88, .if_icmp .lt 112, .iconst 1, .goto 114,
  .nop, .iconst 0, .freturn]
def p_200 : List Nat := [0, 1, 4, 7, 8, 9, 11, 14, 15, 16, 18, 19, 20, 21, 23, 24, 26, 27, 29, 29, 31, 32, 35, 38, 39, 42, 44, 45, 47, 50,
  52, 55, 57, 60, 61, 63, 64, 66, 67, 68, 69, 70, 73, 74, 75, 76, 79, 81, 82, 83, 86, 88, 89, 90, 91, 92, 95, 98, 99, 102,
  103, 105, 105, 107, 110, 111, 113, 114, 116, 117, 118, 121, 122, 125, 127, 128, 131, 131, 132, 135, 136, 138, 138, 141, 144, 144, 146, 149, 151, 154,
  155, 157, 158, 160, 161, 162, 163, 164, 167, 168, 169, 171, 172, 175, 177, 178, 179, 180, 181, 184, 187, 188, 191, 191, 192]
/-- WakeHouse$Night.lotOfTen(II)I -/
def c_201 : List aI := [.iload 0, .iconst 14, .invokestatic 202, .iload 1, .invokestatic 202, .istore 2, .iload 2, .iconst 1, .iushr, .iconst 10, .irem, .ireturn]
def p_201 : List Nat := [0, 1, 3, 6, 7, 10, 11, 12, 13, 14, 16, 17]
/-- WakeHouse$Night.stirred(II)I -/
def c_202 : List aI := [.iload 0, .iload 1, .ixor, .iconst 1103515245, .imul, .iconst 12345, .iadd, .istore 2, .iload 2, .iload 2, .iconst 15, .iushr, .ixor, .ireturn]
def p_202 : List Nat := [0, 1, 2, 3, 5, 6, 9, 10, 11, 12, 13, 15, 16, 17]
/-- WakeHouse.days(III)I -/
def c_203 : List aI := [.iload 2, .iconst 1, .if_icmp .lt 6, .iload 2, .iconst 50, .if_icmp .le 8, .iconst (-2), .ireturn, .iload 3, .iconst (-1), .if_icmp .ne 17, .aload 0, .getfield 1105, .iload 1,
  .iload 2, .invokevirtual 204, .ireturn, .aload 0, .iload 3, .invokevirtual 76, .ifCond .eq 28, .aload 0, .getfield 1102, .getfield 306, .iload 3, .iaload, .iconst (-2), .if_icmp .ne 30,
  .iconst (-2), .ireturn, .aload 0, .getfield 1105, .iconst (-1), .invokevirtual 106, .aload 0, .getfield 1105, .iload 3, .invokevirtual 108, .iconst 0, .istore 4, .iconst 0, .istore 5,
  .nop, .iload 5, .iload 2, .if_icmp .ge 61, .iload 4, .aload 0, .getfield 1105, .iload 1, .iload 5, .iload 3, .invokevirtual 200, .ifCond .eq 56, .iconst 1, .goto 57,
  .iconst 0, .fadd, .istore 4, .iinc 5 1, .goto 42, .iload 4, .ireturn]
def p_203 : List Nat := [0, 1, 2, 5, 6, 8, 11, 13, 14, 15, 16, 19, 20, 23, 24, 25, 28, 29, 30, 31, 34, 37, 38, 41, 44, 45, 46, 48, 51, 53,
  54, 55, 58, 59, 62, 63, 66, 67, 70, 71, 73, 74, 76, 76, 78, 79, 82, 84, 85, 88, 89, 91, 92, 95, 98, 99, 102, 103, 104, 106,
  109, 112, 114]
/-- WakeHouse$Night.daysAllUp(II)I -/
def c_204 : List aI := [.bipush 1, .iload 2, .lshl, .bipush 1, .dsub, .lstore 3, .aload 0, .iconst (-1), .invokevirtual 106, .iconst 0, .istore 5, .nop, .iload 5, .aload 0,
  .getfield 500, .getfield 316, .if_icmp .ge 60, .aload 0, .getfield 500, .getfield 306, .iload 5, .iaload, .iconst (-2), .if_icmp .ne 25, .goto 58, .aload 0, .iload 5, .invokevirtual 108,
  .iconst 0, .istore 6, .nop, .iload 6, .iload 2, .if_icmp .ge 58, .lload 3, .iload 6, .lshr, .bipush 1, .land, .bipush 1, .lcmp, .ifCond .ne 56,
  .aload 0, .iload 1, .iload 6, .iload 5, .invokevirtual 200, .ifCond .ne 56, .lload 3, .bipush 1, .iload 6, .lshl, .bipush (-1), .lxor, .land, .lstore 3,
  .iinc 6 1, .goto 30, .iinc 5 1, .goto 11, .lload 3, .invokestatic 205, .ireturn]
def p_204 : List Nat := [0, 1, 2, 3, 4, 5, 6, 7, 8, 11, 12, 14, 14, 16, 17, 20, 23, 26, 27, 30, 33, 35, 36, 38, 41, 44, 45, 47, 50, 51,
  53, 53, 55, 56, 59, 60, 62, 63, 64, 65, 66, 67, 70, 71, 72, 74, 76, 79, 82, 83, 84, 86, 87, 90, 91, 92, 93, 96, 99, 102,
  105, 106, 109]
/-- java/lang/Long.bitCount(J)I -/
def c_205 : List aI := [.lload 0, .lload 0, .iconst 1, .athrow, .bipush 6148914691236517205, .land, .lsub, .lstore 0, .lload 0, .bipush 3689348814741910323, .land, .lload 0, .iconst 2, .athrow,
  .bipush 3689348814741910323, .land, .ladd, .lstore 0, .lload 0, .lload 0, .iconst 4, .athrow, .ladd, .bipush 1085102592571150095, .land, .lstore 0, .lload 0, .lload 0,
  .iconst 8, .athrow, .ladd, .lstore 0, .lload 0, .lload 0, .iconst 16, .athrow, .ladd, .lstore 0, .lload 0, .lload 0, .iconst 32, .athrow,
  .ladd, .lstore 0, .lload 0, .l2i, .iconst 127, .iand, .ireturn]
def p_205 : List Nat := [0, 1, 2, 3, 4, 7, 8, 9, 10, 11, 14, 15, 16, 17, 18, 21, 22, 23, 24, 25, 26, 27, 28, 29, 32, 33, 34, 35, 36, 38,
  39, 40, 41, 42, 43, 45, 46, 47, 48, 49, 50, 52, 53, 54, 55, 56, 57, 59, 60]
/-- WakeHouse.hold(I)Z -/
def c_206 : List aI := [.iload 1, .invokestatic 207, .ifCond .ne 5, .iconst 0, .freturn, .aload 0, .getfield 1104, .iload 1, .aaload, .aload 0, .getfield 1103, .invokevirtual 208, .aload 0, .getfield 1104,
  .iload 1, .aaload, .iconst 1, .putfield 913, .iconst 1, .freturn]
def p_206 : List Nat := [0, 1, 4, 7, 8, 9, 10, 13, 14, 15, 16, 19, 22, 23, 26, 27, 28, 29, 32, 33]
/-- WakeHouse.isSlot(I)Z -/
def c_207 : List aI := [.iload 0, .ifCond .lt 7, .iload 0, .iconst 2, .if_icmp .ge 7, .iconst 1, .goto 8, .iconst 0, .freturn]
def p_207 : List Nat := [0, 1, 4, 5, 6, 9, 10, 13, 14]
/-- WakeHouse$State.takeFrom(LWakeHouse$State;)V -/
def c_208 : List aI := [.aload 0, .aload 1, .getfield 910, .putfield 910, .aload 0, .aload 1, .getfield 911, .putfield 911, .aload 0, .aload 1, .getfield 912, .putfield 912, .aload 1, .getfield 900,
  .iconst 0, .aload 0, .getfield 900, .iconst 0, .aload 0, .getfield 910, .invokeinterface 1 0, .aload 1, .getfield 901, .iconst 0, .aload 0, .getfield 901, .iconst 0, .aload 0,
  .getfield 910, .invokeinterface 1 0, .aload 1, .getfield 902, .iconst 0, .aload 0, .getfield 902, .iconst 0, .aload 0, .getfield 910, .invokeinterface 1 0, .aload 1, .getfield 903, .iconst 0,
  .aload 0, .getfield 903, .iconst 0, .aload 0, .getfield 910, .invokeinterface 1 0, .aload 1, .getfield 904, .iconst 0, .aload 0, .getfield 904, .iconst 0, .iconst 12, .invokeinterface 1 0,
  .aload 1, .getfield 905, .iconst 0, .aload 0, .getfield 905, .iconst 0, .iconst 12, .invokeinterface 1 0, .aload 1, .getfield 906, .iconst 0, .aload 0, .getfield 906, .iconst 0,
  .aload 0, .getfield 912, .invokeinterface 1 0, .aload 1, .getfield 907, .iconst 0, .aload 0, .getfield 907, .iconst 0, .aload 0, .getfield 912, .invokeinterface 1 0, .aload 1, .getfield 908,
  .iconst 0, .aload 0, .getfield 908, .iconst 0, .aload 0, .getfield 912, .invokeinterface 1 0, .return_]
def p_208 : List Nat := [0, 1, 2, 5, 8, 9, 10, 13, 16, 17, 18, 21, 24, 25, 28, 29, 30, 33, 34, 35, 38, 41, 42, 45, 46, 47, 50, 51, 52, 55,
  58, 59, 62, 63, 64, 67, 68, 69, 72, 75, 76, 79, 80, 81, 84, 85, 86, 89, 92, 93, 96, 97, 98, 101, 102, 104, 107, 108, 111, 112,
  113, 116, 117, 119, 122, 123, 126, 127, 128, 131, 132, 133, 136, 139, 140, 143, 144, 145, 148, 149, 150, 153, 156, 157, 160, 161, 162, 165, 166, 167,
  170, 173]
/-- WakeHouse.restore(I)Z -/
def c_209 : List aI := [.iload 1, .invokestatic 207, .ifCond .eq 9, .aload 0, .getfield 1104, .iload 1, .aaload, .getfield 913, .ifCond .ne 11, .iconst 0, .freturn, .aload 0, .dup, .getfield 1111,
  .iconst 1, .fadd, .putfield 1111, .aload 0, .getfield 1103, .aload 0, .getfield 1104, .iload 1, .aaload, .invokevirtual 208, .iconst 1, .freturn]
def p_209 : List Nat := [0, 1, 4, 7, 8, 11, 12, 13, 16, 19, 20, 21, 22, 23, 26, 27, 28, 31, 32, 35, 36, 39, 40, 41, 44, 45]
/-- WakeHouse.count(I)I -/
def c_210 : List aI := [.iload 1, .tableswitch 51 0 7 #[2, 6, 10, 14, 18, 22, 27, 31], .aload 0, .getfield 1102, .getfield 314, .ireturn, .aload 0, .getfield 1102, .getfield 315, .ireturn, .aload 0, .getfield 1102, .getfield 316, .ireturn,
  .aload 0, .getfield 1103, .getfield 910, .ireturn, .aload 0, .getfield 1103, .getfield 912, .ireturn, .aload 0, .getfield 1103, .getfield 911, .invokestatic 211, .ireturn, .aload 0,
  .getfield 1100, .getfield 1005, .ireturn, .aload 0, .getfield 1104, .iconst 0, .aaload, .getfield 913, .ifCond .eq 39, .iconst 1, .goto 40, .iconst 0, .aload 0, .getfield 1104,
  .iconst 1, .aaload, .getfield 913, .ifCond .eq 48, .iconst 1, .goto 49, .iconst 0, .fadd, .ireturn, .iconst (-1), .ireturn]
def p_210 : List Nat := [0, 1, 48, 49, 52, 55, 56, 57, 60, 63, 64, 65, 68, 71, 72, 73, 76, 79, 80, 81, 84, 87, 88, 89, 92, 95, 98, 99, 100, 103,
  106, 107, 108, 111, 112, 113, 116, 119, 120, 123, 124, 125, 128, 129, 130, 133, 136, 137, 140, 141, 142, 143, 144]
/-- java/lang/Integer.bitCount(I)I -/
def c_211 : List aI := [.iload 0, .iload 0, .iconst 1, .iushr, .iconst 1431655765, .iand, .isub, .istore 0, .iload 0, .iconst 858993459, .iand, .iload 0, .iconst 2, .iushr,
  .iconst 858993459, .iand, .iadd, .istore 0, .iload 0, .iload 0, .iconst 4, .iushr, .iadd, .iconst 252645135, .iand, .istore 0, .iload 0, .iload 0,
  .iconst 8, .iushr, .iadd, .istore 0, .iload 0, .iload 0, .iconst 16, .iushr, .iadd, .istore 0, .iload 0, .iconst 63, .iand, .ireturn]
def p_211 : List Nat := [0, 1, 2, 3, 4, 7, 8, 9, 10, 11, 14, 15, 16, 17, 18, 21, 22, 23, 24, 25, 26, 27, 28, 29, 32, 33, 34, 35, 36, 38,
  39, 40, 41, 42, 43, 45, 46, 47, 48, 49, 51, 52]
/-- WakeHouseModel.<init>()V -/
def c_212 : List aI := [.aload 0, .invokeinterface 0 0, .aload 0, .iconst 2000, .newarray .byte, .putfield 1201, .aload 0, .iconst 2000, .newarray .byte, .putfield 1203, .aload 0, .iconst 403, .newarray .int, .putfield 1205,
  .aload 0, .iconst 403, .newarray .int, .putfield 1206, .aload 0, .iconst 403, .newarray .int, .putfield 1207, .aload 0, .iconst 403, .newarray .long, .putfield 1208, .aload 0, .iconst 18,
  .newarray .long, .putfield 1209, .aload 0, .iconst (-1), .putfield 1217, .aload 0, .iconst 40, .newarray .long, .putfield 1221, .aload 0, .iconst 40, .newarray .int, .putfield 1222, .aload 0,
  .iconst 40, .newarray .int, .putfield 1223, .aload 0, .iconst 2, .newarray .int, .putfield 1224, .aload 0, .iconst 24, .newarray .int, .putfield 1225, .aload 0, .iconst 24, .newarray .int,
  .putfield 1226, .aload 0, .iconst 2, .newarray .int, .putfield 1227, .aload 0, .iconst 18, .newarray .int, .putfield 1228, .aload 0, .iconst 18, .newarray .int, .putfield 1229, .aload 0,
  .iconst 2, .newarray .int, .putfield 1230, .aload 0, .iconst 24, .newarray .int, .putfield 1231, .aload 0, .iconst 24, .newarray .int, .putfield 1232, .aload 0, .iconst 24, .newarray .int,
  .putfield 1233, .aload 0, .iconst 24, .newarray .int, .putfield 1234, .aload 0, .iconst 24, .newarray .int, .putfield 1235, .aload 0, .iconst 4, .newarray .boolean, .putfield 1236, .aload 0,
  .iconst 4, .newarray .int, .putfield 1237, .aload 0, .iconst 4, .newarray .int, .putfield 1238, .aload 0, .iconst 840, .newarray .int, .putfield 1240, .aload 0, .iconst 840, .newarray .int,
  .putfield 1241, .aload 0, .iconst 420, .newarray .int, .putfield 1242, .aload 0, .iconst 7, .newarray .int, .putfield 1244, .aload 0, .iconst 420, .newarray .int, .putfield 1245, .aload 0,
  .iconst 12, .newarray .int, .putfield 1246, .aload 0, .iconst 12, .newarray .boolean, .putfield 1247, .aload 0, .iconst 10, .newarray .int, .putfield 1249, .aload 0, .iconst 10, .newarray .int,
  .putfield 1250, .aload 0, .iconst 10, .newarray .int, .putfield 1251, .aload 0, .iconst 10, .newarray .int, .putfield 1252, .aload 0, .iconst 10, .newarray .int, .putfield 1253, .aload 0,
  .iconst 10, .newarray .int, .putfield 1254, .aload 0, .iconst 10, .newarray .int, .putfield 1255, .aload 0, .iconst 10, .newarray .int, .putfield 1256, .aload 0, .iconst 10, .newarray .int,
  .putfield 1257, .aload 0, .iconst 12, .newarray .int, .putfield 1259, .aload 0, .iconst 4, .newarray .int, .putfield 1260, .aload 0, .iconst 4096, .newarray .int, .putfield 1262, .aload 0,
  .iconst 12, .newarray .int, .putfield 1263, .aload 0, .iconst 12, .newarray .int, .putfield 1264, .aload 0, .iconst 12, .newarray .int, .putfield 1265, .aload 0, .iconst 12, .newarray .int,
  .putfield 1266, .aload 0, .iconst 3, .newarray .int, .putfield 1269, .aload 0, .iconst 3, .newarray .int, .putfield 1270, .aload 0, .iconst 2, .newarray .int, .putfield 1271, .aload 0,
  .iconst 8, .newarray .int, .putfield 1273, .aload 0, .iconst 8, .newarray .int, .putfield 1274, .aload 0, .iconst 8, .newarray .int, .putfield 1275, .aload 0, .iconst 180, .newarray .int,
  .putfield 1277, .aload 0, .iconst 180, .newarray .int, .putfield 1278, .aload 0, .iconst 180, .newarray .int, .putfield 1279, .aload 0, .iconst 180, .newarray .int, .putfield 1280, .aload 0,
  .iconst 2, .newarray .int, .dup, .iconst 0, .iconst (-1), .iastore, .dup, .iconst 1, .iconst (-1), .iastore, .putfield 1282, .aload 0, .iconst 16, .newarray .int,
  .putfield 1283, .aload 0, .iconst 16, .newarray .int, .putfield 1284, .aload 0, .iconst 16, .newarray .int, .putfield 1285, .aload 0, .iconst 16, .newarray .int, .putfield 1286, .aload 0,
  .iconst 24, .newarray .int, .putfield 1287, .aload 0, .iconst 24, .newarray .boolean, .putfield 1288, .aload 0, .iconst 2, .newarray .int, .putfield 1289, .aload 0, .getfield 1209, .iconst 0,
  .iconst 98, .iconst 101, .iconst 100, .iconst 0, .iconst 0, .iconst 0, .iconst 0, .invokestatic 213, .lastore, .aload 0, .getfield 1209, .iconst 1, .iconst 99, .iconst 108,
  .iconst 111, .iconst 99, .iconst 107, .iconst 0, .iconst 0, .invokestatic 213, .lastore, .aload 0, .getfield 1209, .iconst 2, .iconst 102, .iconst 97, .iconst 115, .iconst 116,
  .iconst 0, .iconst 0, .iconst 0, .invokestatic 213, .lastore, .aload 0, .getfield 1209, .iconst 3, .iconst 115, .iconst 108, .iconst 111, .iconst 119, .iconst 0, .iconst 0,
  .iconst 0, .invokestatic 213, .lastore, .aload 0, .getfield 1209, .iconst 4, .iconst 115, .iconst 108, .iconst 101, .iconst 101, .iconst 112, .iconst 101, .iconst 114, .invokestatic 213,
  .lastore, .aload 0, .getfield 1209, .iconst 5, .iconst 105, .iconst 110, .iconst 0, .iconst 0, .iconst 0, .iconst 0, .iconst 0, .invokestatic 213, .lastore, .aload 0,
  .getfield 1209, .iconst 6, .iconst 100, .iconst 101, .iconst 101, .iconst 112, .iconst 0, .iconst 0, .iconst 0, .invokestatic 213, .lastore, .aload 0, .getfield 1209, .iconst 7,
  .iconst 117, .iconst 112, .iconst 0, .iconst 0, .iconst 0, .iconst 0, .iconst 0, .invokestatic 213, .lastore, .aload 0, .getfield 1209, .iconst 8, .iconst 108, .iconst 97,
  .iconst 116, .iconst 101, .iconst 0, .iconst 0, .iconst 0, .invokestatic 213, .lastore, .aload 0, .getfield 1209, .iconst 9, .iconst 118, .iconst 97, .iconst 105, .iconst 110,
  .iconst 0, .iconst 0, .iconst 0, .invokestatic 213, .lastore, .aload 0, .getfield 1209, .iconst 10, .iconst 104, .iconst 101, .iconst 97, .iconst 114, .iconst 115, .iconst 0,
  .iconst 0, .invokestatic 213, .lastore, .aload 0, .getfield 1209, .iconst 11, .iconst 97, .iconst 103, .iconst 97, .iconst 105, .iconst 110, .iconst 0, .iconst 0, .invokestatic 213,
  .lastore, .aload 0, .getfield 1209, .iconst 12, .iconst 108, .iconst 111, .iconst 117, .iconst 100, .iconst 0, .iconst 0, .iconst 0, .invokestatic 213, .lastore, .aload 0,
  .getfield 1209, .iconst 13, .iconst 103, .iconst 97, .iconst 112, .iconst 0, .iconst 0, .iconst 0, .iconst 0, .invokestatic 213, .lastore, .aload 0, .getfield 1209, .iconst 14,
  .iconst 102, .iconst 108, .iconst 111, .iconst 111, .iconst 114, .iconst 115, .iconst 0, .invokestatic 213, .lastore, .aload 0, .getfield 1209, .iconst 15, .iconst 104, .iconst 111,
  .iconst 117, .iconst 114, .iconst 0, .iconst 0, .iconst 0, .invokestatic 213, .lastore, .aload 0, .getfield 1209, .iconst 16, .iconst 119, .iconst 111, .iconst 111, .iconst 108,
  .iconst 0, .iconst 0, .iconst 0, .invokestatic 213, .lastore, .aload 0, .getfield 1209, .iconst 17, .iconst 97, .iconst 102, .iconst 116, .iconst 101, .iconst 114, .iconst 0,
  .iconst 0, .invokestatic 213, .lastore, .return_]
def p_212 : List Nat := [0, 1, 4, 5, 8, 10, 13, 14, 17, 19, 22, 23, 26, 28, 31, 32, 35, 37, 40, 41, 44, 46, 49, 50, 53, 55, 58, 59, 61, 63,
  66, 67, 68, 71, 72, 74, 76, 79, 80, 82, 84, 87, 88, 90, 92, 95, 96, 97, 99, 102, 103, 105, 107, 110, 111, 113, 115, 118, 119, 120,
  122, 125, 126, 128, 130, 133, 134, 136, 138, 141, 142, 143, 145, 148, 149, 151, 153, 156, 157, 159, 161, 164, 165, 167, 169, 172, 173, 175, 177, 180,
  181, 183, 185, 188, 189, 190, 192, 195, 196, 197, 199, 202, 203, 204, 206, 209, 210, 213, 215, 218, 219, 222, 224, 227, 228, 231, 233, 236, 237, 239,
  241, 244, 245, 248, 250, 253, 254, 256, 258, 261, 262, 264, 266, 269, 270, 272, 274, 277, 278, 280, 282, 285, 286, 288, 290, 293, 294, 296, 298, 301,
  302, 304, 306, 309, 310, 312, 314, 317, 318, 320, 322, 325, 326, 328, 330, 333, 334, 336, 338, 341, 342, 344, 346, 349, 350, 351, 353, 356, 357, 360,
  362, 365, 366, 368, 370, 373, 374, 376, 378, 381, 382, 384, 386, 389, 390, 392, 394, 397, 398, 399, 401, 404, 405, 406, 408, 411, 412, 413, 415, 418,
  419, 421, 423, 426, 427, 429, 431, 434, 435, 437, 439, 442, 443, 446, 448, 451, 452, 455, 457, 460, 461, 464, 466, 469, 470, 473, 475, 478, 479, 480,
  482, 483, 484, 485, 486, 487, 488, 489, 490, 493, 494, 496, 498, 501, 502, 504, 506, 509, 510, 512, 514, 517, 518, 520, 522, 525, 526, 528, 530, 533,
  534, 536, 538, 541, 542, 543, 545, 548, 549, 552, 553, 555, 557, 559, 560, 561, 562, 563, 566, 567, 568, 571, 572, 574, 576, 578, 580, 582, 583, 584,
  587, 588, 589, 592, 593, 595, 597, 599, 601, 602, 603, 604, 607, 608, 609, 612, 613, 615, 617, 619, 621, 622, 623, 624, 627, 628, 629, 632, 633, 635,
  637, 639, 641, 643, 645, 647, 650, 651, 652, 655, 656, 658, 660, 661, 662, 663, 664, 665, 668, 669, 670, 673, 675, 677, 679, 681, 683, 684, 685, 686,
  689, 690, 691, 694, 696, 698, 700, 701, 702, 703, 704, 705, 708, 709, 710, 713, 715, 717, 719, 721, 723, 724, 725, 726, 729, 730, 731, 734, 736, 738,
  740, 742, 744, 745, 746, 747, 750, 751, 752, 755, 757, 759, 761, 763, 765, 767, 768, 769, 772, 773, 774, 777, 779, 781, 783, 785, 787, 789, 790, 791,
  794, 795, 796, 799, 801, 803, 805, 807, 809, 810, 811, 812, 815, 816, 817, 820, 822, 824, 826, 828, 829, 830, 831, 832, 835, 836, 837, 840, 842, 844,
  846, 848, 850, 852, 854, 855, 858, 859, 860, 863, 865, 867, 869, 871, 873, 874, 875, 876, 879, 880, 881, 884, 886, 888, 890, 892, 894, 895, 896, 897,
  900, 901, 902, 905, 907, 909, 911, 913, 915, 917, 918, 919, 922, 923]
/-- WakeHouseModel.word(IIIIIII)J -/
def c_213 : List aI := [.bipush 0, .iload 0, .invokestatic 214, .iload 1, .invokestatic 214, .iload 2, .invokestatic 214, .iload 3, .invokestatic 214, .iload 4, .invokestatic 214, .iload 5, .invokestatic 214, .iload 6,
  .invokestatic 214, .lreturn]
def p_213 : List Nat := [0, 1, 2, 5, 6, 9, 10, 13, 14, 17, 19, 22, 24, 27, 29, 32]
/-- WakeHouseModel.appends(JI)J -/
def c_214 : List aI := [.iload 2, .ifCond .ne 4, .lload 0, .goto 14, .bipush 27, .lload 0, .dmul, .iload 2, .iconst 97, .fsub, .iconst 1, .fadd, .i2l, .dadd,
  .lreturn]
def p_214 : List Nat := [0, 1, 4, 5, 8, 11, 12, 13, 14, 16, 17, 18, 19, 20, 21]
/-- WakeHouseModel.feed(IIIII)I -/
def c_215 : List aI := [.aload 0, .getfield 1202, .iconst 20, .fadd, .iconst 2000, .if_icmp .le 8, .iconst (-1), .ireturn, .aload 0, .iload 1, .invokevirtual 216, .aload 0, .iload 2, .invokevirtual 216,
  .aload 0, .iload 3, .invokevirtual 216, .aload 0, .iload 4, .invokevirtual 216, .aload 0, .iload 5, .invokevirtual 216, .aload 0, .getfield 1202, .ireturn]
def p_215 : List Nat := [0, 1, 4, 6, 7, 10, 13, 14, 15, 16, 17, 20, 21, 22, 25, 26, 27, 30, 31, 33, 36, 37, 39, 42, 43, 46]
/-- WakeHouseModel.put(I)V -/
def c_216 : List aI := [.iconst 24, .istore 2, .nop, .iload 2, .ifCond .lt 22, .aload 0, .getfield 1201, .aload 0, .getfield 1202, .iload 1, .iload 2, .ishr, .i2b, .bastore,
  .aload 0, .dup, .getfield 1202, .iconst 1, .fadd, .putfield 1202, .iinc 2 (-8), .goto 2, .return_]
def p_216 : List Nat := [0, 2, 3, 3, 4, 7, 8, 11, 12, 15, 16, 17, 18, 19, 20, 21, 22, 25, 26, 27, 30, 33, 36]
/-- WakeHouseModel.back(I)I -/
def c_217 : List aI := [.iload 1, .ifCond .lt 6, .iload 1, .aload 0, .getfield 1202, .if_icmp .le 8, .iconst (-1), .ireturn, .aload 0, .dup, .getfield 1202, .iload 1, .fsub, .putfield 1202,
  .aload 0, .getfield 1202, .ireturn]
def p_217 : List Nat := [0, 1, 4, 5, 6, 9, 12, 13, 14, 15, 16, 19, 20, 21, 24, 25, 28]
/-- WakeHouseModel.read()I -/
def c_218 : List aI := [.aload 0, .aload 0, .getfield 1202, .putfield 1204, .iconst 0, .istore 1, .nop, .iload 1, .aload 0, .getfield 1204, .if_icmp .ge 21, .aload 0, .getfield 1203, .iload 1,
  .aload 0, .getfield 1201, .iload 1, .baload, .bastore, .iinc 1 1, .goto 6, .aload 0, .iconst 0, .putfield 1202, .aload 0, .invokevirtual 219, .aload 0, .iconst 0,
  .putfield 1211, .aload 0, .iconst 0, .putfield 1212, .aload 0, .iconst 0, .putfield 1213, .aload 0, .iconst 0, .putfield 1215, .aload 0, .iconst 1, .aload 0, .getfield 1218,
  .fsub, .putfield 1219, .aload 0, .iconst 0, .putfield 1220, .aload 0, .getfield 1224, .aload 0, .getfield 1219, .iconst 0, .iastore, .aload 0, .getfield 1227, .aload 0,
  .getfield 1219, .iconst 0, .iastore, .aload 0, .getfield 1230, .aload 0, .getfield 1219, .iconst 0, .iastore, .aload 0, .getfield 1236, .iconst 2, .aload 0, .getfield 1219,
  .fmul, .iconst 0, .bastore, .aload 0, .getfield 1236, .iconst 2, .aload 0, .getfield 1219, .fmul, .iconst 1, .fadd, .iconst 0, .bastore, .aload 0,
  .iconst 420, .aload 0, .getfield 1219, .fmul, .putfield 1239, .nop, .aload 0, .getfield 1213, .ifCond .ne 100, .aload 0, .iconst 0, .invokevirtual 225, .ifCond .ne 100, .aload 0,
  .invokevirtual 226, .goto 89, .nop, .aload 0, .aload 0, .getfield 1213, .ifCond .le 108, .aload 0, .getfield 1214, .goto 115, .aload 0, .getfield 1215, .ifCond .le 114, .aload 0,
  .getfield 1216, .goto 115, .iconst (-1), .putfield 1217, .nop, .aload 0, .getfield 1213, .ifCond .le 123, .aload 0, .getfield 1213, .ireturn, .aload 0, .getfield 1215, .ifCond .le 129,
  .aload 0, .getfield 1215, .ireturn, .aload 0, .aload 0, .getfield 1219, .putfield 1218, .aload 0, .invokevirtual 246, .iconst 0, .ireturn]
def p_218 : List Nat := [0, 1, 2, 5, 8, 9, 10, 10, 11, 12, 15, 18, 19, 22, 23, 24, 27, 28, 29, 30, 33, 36, 37, 38, 41, 42, 45, 46, 47, 50,
  51, 52, 55, 56, 57, 60, 61, 62, 65, 66, 67, 68, 71, 72, 75, 76, 77, 80, 81, 84, 85, 88, 89, 90, 91, 94, 95, 98, 99, 100,
  101, 104, 105, 108, 109, 110, 111, 114, 115, 116, 119, 120, 121, 122, 123, 126, 127, 128, 131, 132, 133, 134, 135, 136, 137, 140, 141, 144, 145, 148,
  148, 149, 152, 155, 156, 157, 160, 163, 164, 167, 170, 170, 171, 172, 175, 178, 179, 182, 185, 186, 189, 192, 193, 196, 199, 200, 203, 203, 204, 207,
  210, 211, 214, 215, 216, 219, 222, 223, 226, 227, 228, 229, 232, 235, 236, 239, 240]
/-- WakeHouseModel.cut()V -/
def c_219 : List aI := [.aload 0, .iconst 0, .putfield 1210, .iconst 0, .istore 1, .nop, .aload 0, .getfield 1210, .iconst 400, .if_icmp .gt 176, .aload 0, .iload 1, .invokevirtual 220, .istore 2,
  .iload 1, .aload 0, .getfield 1204, .if_icmp .lt 26, .aload 0, .iconst 0, .aload 0, .getfield 1204, .iconst 0, .bipush 0, .invokevirtual 221, .return_, .iload 2, .iconst 9,
  .if_icmp .eq 38, .iload 2, .iconst 10, .if_icmp .eq 38, .iload 2, .iconst 13, .if_icmp .eq 38, .iload 2, .iconst 32, .if_icmp .ne 41, .nop, .iinc 1 1, .goto 175, .iload 2,
  .invokestatic 222, .ifCond .eq 113, .iconst 0, .istore 3, .bipush 0, .lstore 4, .nop, .aload 0, .iload 1, .iload 3, .fadd, .invokevirtual 220, .invokestatic 222, .ifCond .eq 70,
  .iload 3, .iconst 8, .if_icmp .ge 67, .lload 4, .aload 0, .iload 1, .iload 3, .fadd, .invokevirtual 220, .invokestatic 214, .lstore 4, .nop, .iinc 3 1, .goto 48,
  .iload 3, .iconst 8, .if_icmp .le 75, .iconst 3, .goto 76, .iconst 1, .istore 6, .nop, .iload 3, .iconst 7, .if_icmp .gt 101, .iconst 0, .istore 7, .nop,
  .iload 7, .iconst 18, .if_icmp .ge 101, .aload 0, .getfield 1209, .iload 7, .laload, .lload 4, .lcmp, .ifCond .ne 98, .iconst 20, .iload 7, .fadd, .istore 6,
  .nop, .iinc 7 1, .goto 83, .nop, .aload 0, .iload 6, .iload 1, .iconst 0, .lload 4, .invokevirtual 221, .iload 1, .iload 3, .fadd, .istore 1,
  .goto 175, .iload 2, .invokestatic 223, .ifCond .eq 163, .iconst 0, .istore 3, .iconst 0, .istore 4, .nop, .aload 0, .iload 1, .iload 3, .fadd, .invokevirtual 220,
  .invokestatic 223, .ifCond .eq 146, .iload 3, .iconst 4, .if_icmp .ge 143, .iconst 10, .iload 4, .fmul, .aload 0, .iload 1, .iload 3, .fadd, .invokevirtual 220, .fadd,
  .iconst 48, .fsub, .istore 4, .nop, .iinc 3 1, .goto 120, .aload 0, .iload 3, .iconst 4, .if_icmp .le 152, .iconst 3, .goto 153, .iconst 2, .iload 1,
  .iload 4, .bipush 0, .invokevirtual 221, .nop, .iload 1, .iload 3, .fadd, .istore 1, .goto 175, .iload 1, .aload 0, .iload 1, .iload 2, .aload 0,
  .iload 1, .iconst 1, .fadd, .invokevirtual 220, .invokevirtual 224, .fadd, .istore 1, .goto 5, .return_]
def p_219 : List Nat := [0, 1, 2, 5, 6, 7, 7, 8, 11, 14, 17, 18, 19, 22, 23, 24, 25, 28, 31, 32, 33, 34, 37, 38, 39, 42, 43, 44, 46, 49,
  50, 52, 55, 56, 58, 61, 62, 64, 67, 67, 70, 73, 74, 77, 80, 81, 82, 83, 85, 85, 86, 87, 88, 89, 92, 95, 98, 99, 101, 104,
  106, 107, 108, 109, 110, 113, 116, 118, 118, 121, 124, 125, 127, 130, 131, 134, 135, 137, 137, 138, 140, 143, 144, 146, 146, 148, 150, 153, 154, 157,
  159, 160, 162, 163, 166, 168, 170, 171, 173, 173, 176, 179, 179, 180, 182, 183, 184, 186, 189, 190, 191, 192, 193, 196, 197, 200, 203, 204, 205, 206,
  208, 208, 209, 210, 211, 212, 215, 218, 221, 222, 223, 226, 228, 230, 231, 232, 233, 234, 235, 238, 239, 241, 242, 244, 244, 247, 250, 251, 252, 253,
  256, 257, 260, 261, 262, 264, 265, 268, 268, 269, 270, 271, 272, 275, 276, 277, 278, 279, 280, 281, 282, 283, 286, 289, 290, 291, 294]
/-- WakeHouseModel.byteAt(I)I -/
def c_220 : List aI := [.iload 1, .aload 0, .getfield 1204, .if_icmp .ge 11, .aload 0, .getfield 1203, .iload 1, .baload, .iconst 255, .iand, .goto 12, .iconst 0, .ireturn]
def p_220 : List Nat := [0, 1, 2, 5, 8, 9, 12, 13, 14, 17, 18, 21, 22]
/-- WakeHouseModel.token(IIIJ)V -/
def c_221 : List aI := [.aload 0, .getfield 1205, .aload 0, .getfield 1210, .iload 1, .iastore, .aload 0, .getfield 1206, .aload 0, .getfield 1210, .iload 2, .iastore, .aload 0, .getfield 1207,
  .aload 0, .getfield 1210, .iload 3, .iastore, .aload 0, .getfield 1208, .aload 0, .getfield 1210, .lload 4, .lastore, .aload 0, .dup, .getfield 1210, .iconst 1,
  .fadd, .putfield 1210, .return_]
def p_221 : List Nat := [0, 1, 4, 5, 8, 9, 10, 11, 14, 15, 18, 19, 20, 21, 24, 25, 28, 29, 30, 31, 34, 35, 38, 40, 41, 42, 43, 46, 47, 48,
  51]
/-- WakeHouseModel.isLetter(I)Z -/
def c_222 : List aI := [.iload 0, .iconst 97, .if_icmp .lt 8, .iload 0, .iconst 122, .if_icmp .gt 8, .iconst 1, .goto 9, .iconst 0, .freturn]
def p_222 : List Nat := [0, 1, 3, 6, 7, 9, 12, 13, 16, 17]
/-- WakeHouseModel.isDigit(I)Z -/
def c_223 : List aI := [.iload 0, .iconst 48, .if_icmp .lt 8, .iload 0, .iconst 57, .if_icmp .gt 8, .iconst 1, .goto 9, .iconst 0, .freturn]
def p_223 : List Nat := [0, 1, 3, 6, 7, 9, 12, 13, 16, 17]
/-- WakeHouseModel.sign(III)I -/
def c_224 : List aI := [.iload 2, .iconst 61, .if_icmp .ne 8, .iload 3, .iconst 61, .if_icmp .ne 8, .iconst 1, .goto 10, .nop, .iconst 0, .istore 4, .nop, .iload 4, .ifCond .eq 16,
  .iconst 12, .goto 32, .iload 2, .iconst 59, .if_icmp .ne 21, .iconst 4, .goto 32, .iload 2, .iconst 40, .if_icmp .ne 26, .iconst 6, .goto 32, .iload 2, .iconst 41,
  .if_icmp .ne 31, .iconst 7, .goto 32, .iconst 3, .istore 5, .nop, .iload 2, .iconst 43, .if_icmp .ne 39, .iconst 8, .istore 5, .nop, .iload 2, .iconst 45,
  .if_icmp .ne 45, .iconst 9, .istore 5, .nop, .iload 2, .iconst 42, .if_icmp .ne 51, .iconst 10, .istore 5, .nop, .iload 2, .iconst 47, .if_icmp .ne 57, .iconst 11,
  .istore 5, .nop, .iload 2, .iconst 60, .if_icmp .ne 63, .iconst 13, .istore 5, .nop, .iload 2, .iconst 91, .if_icmp .ne 69, .iconst 14, .istore 5, .nop,
  .iload 2, .iconst 93, .if_icmp .ne 75, .iconst 15, .istore 5, .nop, .aload 0, .iload 5, .iload 1, .iconst 0, .bipush 0, .invokevirtual 221, .iload 4, .ifCond .eq 86,
  .iconst 2, .goto 87, .iconst 1, .ireturn]
def p_224 : List Nat := [0, 1, 3, 6, 7, 9, 12, 13, 16, 16, 17, 19, 19, 21, 24, 26, 29, 30, 32, 35, 36, 39, 40, 42, 45, 47, 50, 51, 53, 56,
  58, 61, 62, 64, 64, 65, 67, 70, 72, 74, 74, 75, 77, 80, 82, 84, 84, 85, 87, 90, 92, 94, 94, 95, 97, 100, 102, 104, 104, 105,
  107, 110, 112, 114, 114, 115, 117, 120, 122, 124, 124, 125, 127, 130, 132, 134, 134, 135, 137, 138, 139, 140, 143, 145, 148, 149, 152, 153]
/-- WakeHouseModel.is(I)Z -/
def c_225 : List aI := [.aload 0, .getfield 1213, .ifCond .ne 12, .aload 0, .getfield 1205, .aload 0, .getfield 1211, .iaload, .iload 1, .if_icmp .ne 12, .iconst 1, .goto 13, .iconst 0, .freturn]
def p_225 : List Nat := [0, 1, 4, 7, 8, 11, 12, 15, 16, 17, 20, 21, 24, 25]
/-- WakeHouseModel.tell()V -/
def c_226 : List aI := [.aload 0, .getfield 1205, .aload 0, .getfield 1211, .iaload, .tableswitch 96 20 31 #[6, 23, 96, 96, 40, 96, 96, 96, 96, 96, 57, 57], .aload 0, .getfield 1224, .aload 0, .getfield 1219, .iaload, .iconst 12, .if_icmp .ne 16, .aload 0,
  .iconst 2, .invokevirtual 227, .nop, .aload 0, .getfield 1213, .ifCond .ne 100, .aload 0, .invokevirtual 228, .goto 100, .aload 0, .getfield 1227, .aload 0, .getfield 1219, .iaload,
  .iconst 9, .if_icmp .ne 33, .aload 0, .iconst 2, .invokevirtual 227, .nop, .aload 0, .getfield 1213, .ifCond .ne 100, .aload 0, .invokevirtual 235, .goto 100, .aload 0, .getfield 1230,
  .aload 0, .getfield 1219, .iaload, .iconst 12, .if_icmp .ne 50, .aload 0, .iconst 2, .invokevirtual 227, .nop, .aload 0, .getfield 1213, .ifCond .ne 100, .aload 0, .invokevirtual 236,
  .goto 100, .nop, .iconst 2, .aload 0, .getfield 1219, .fmul, .aload 0, .getfield 1205, .aload 0, .getfield 1211, .iaload, .fadd, .iconst 30, .fsub,
  .istore 1, .aload 0, .invokevirtual 229, .aload 0, .getfield 1236, .iload 1, .iconst 1, .bastore, .aload 0, .getfield 1237, .iload 1, .aload 0, .getfield 1239, .iastore,
  .aload 0, .invokevirtual 238, .aload 0, .getfield 1238, .iload 1, .aload 0, .getfield 1239, .iastore, .aload 0, .iconst 4, .invokevirtual 231, .goto 100, .nop, .aload 0,
  .iconst 1, .invokevirtual 227, .return_]
def p_226 : List Nat := [0, 1, 4, 5, 8, 9, 72, 73, 76, 77, 80, 81, 83, 86, 87, 88, 91, 91, 92, 95, 98, 99, 102, 105, 106, 109, 110, 113, 114, 116,
  119, 120, 121, 124, 124, 125, 128, 131, 132, 135, 138, 139, 142, 143, 146, 147, 149, 152, 153, 154, 157, 157, 158, 161, 164, 165, 168, 171, 171, 172,
  173, 176, 177, 178, 181, 182, 185, 186, 187, 189, 190, 191, 192, 195, 196, 199, 200, 201, 202, 203, 206, 207, 208, 211, 212, 213, 216, 217, 220, 221,
  222, 225, 226, 227, 228, 231, 234, 234, 235, 236, 239]
/-- WakeHouseModel.fail(I)V -/
def c_227 : List aI := [.aload 0, .getfield 1213, .ifCond .le 4, .return_, .aload 0, .iload 1, .putfield 1213, .aload 0, .aload 0, .getfield 1206, .aload 0, .getfield 1211, .iaload, .putfield 1214,
  .return_]
def p_227 : List Nat := [0, 1, 4, 7, 8, 9, 10, 13, 14, 15, 18, 19, 22, 23, 26]
/-- WakeHouseModel.tellBed()V -/
def c_228 : List aI := [.iconst 12, .aload 0, .getfield 1219, .fmul, .aload 0, .getfield 1224, .aload 0, .getfield 1219, .iaload, .fadd, .istore 1, .aload 0, .invokevirtual 229, .aload 0,
  .invokevirtual 230, .istore 2, .aload 0, .getfield 1225, .iload 1, .aload 0, .iconst 0, .iconst 3, .invokevirtual 233, .iastore, .aload 0, .getfield 1226, .iload 1, .aload 0,
  .iconst 0, .iconst 9, .invokevirtual 233, .iastore, .aload 0, .iconst 4, .invokevirtual 231, .aload 0, .getfield 1213, .ifCond .le 39, .return_, .aload 0, .iload 2, .iconst 0,
  .aload 0, .getfield 1224, .aload 0, .getfield 1219, .iaload, .invokevirtual 234, .aload 0, .getfield 1224, .aload 0, .getfield 1219, .dup2, .iaload, .iconst 1, .fadd,
  .iastore, .return_]
def p_228 : List Nat := [0, 2, 3, 6, 7, 8, 11, 12, 15, 16, 17, 18, 19, 22, 23, 26, 27, 28, 31, 32, 33, 34, 35, 38, 39, 40, 43, 44, 45, 46,
  48, 51, 52, 53, 54, 57, 58, 61, 64, 65, 66, 67, 68, 69, 72, 73, 76, 77, 80, 81, 84, 85, 88, 89, 90, 91, 92, 93]
/-- WakeHouseModel.goesOn()V -/
def c_229 : List aI := [.aload 0, .getfield 1211, .iconst 400, .if_icmp .ne 8, .aload 0, .iconst 2, .invokevirtual 227, .goto 14, .aload 0, .dup, .getfield 1211, .iconst 1, .fadd, .putfield 1211,
  .return_]
def p_229 : List Nat := [0, 1, 4, 7, 10, 11, 12, 15, 18, 19, 20, 23, 24, 25, 28]
/-- WakeHouseModel.named()I -/
def c_230 : List aI := [.aload 0, .getfield 1211, .istore 1, .aload 0, .iconst 1, .invokevirtual 231, .iconst 0, .istore 2, .nop, .iload 2, .aload 0, .getfield 1220, .if_icmp .ge 32, .aload 0,
  .getfield 1213, .ifCond .ne 32, .aload 0, .getfield 1221, .iload 2, .laload, .aload 0, .getfield 1208, .iload 1, .laload, .lcmp, .ifCond .ne 30, .aload 0, .iconst 3,
  .iload 1, .invokevirtual 232, .iinc 2 1, .goto 8, .iload 1, .ireturn]
def p_230 : List Nat := [0, 1, 4, 5, 6, 7, 10, 11, 12, 12, 13, 14, 17, 20, 21, 24, 27, 28, 31, 32, 33, 34, 37, 38, 39, 40, 43, 44, 45, 46,
  49, 52, 55, 56]
/-- WakeHouseModel.must(I)V -/
def c_231 : List aI := [.aload 0, .iload 1, .invokevirtual 225, .ifCond .eq 7, .aload 0, .invokevirtual 229, .goto 10, .aload 0, .iconst 1, .invokevirtual 227, .return_]
def p_231 : List Nat := [0, 1, 2, 5, 8, 9, 12, 15, 16, 17, 20]
/-- WakeHouseModel.wrong(II)V -/
def c_232 : List aI := [.aload 0, .getfield 1206, .iload 2, .iaload, .istore 3, .aload 0, .getfield 1213, .ifCond .gt 23, .aload 0, .getfield 1215, .ifCond .eq 24, .iload 3, .aload 0, .getfield 1216,
  .if_icmp .gt 23, .iload 3, .aload 0, .getfield 1216, .if_icmp .ne 24, .iload 1, .aload 0, .getfield 1215, .if_icmp .lt 24, .return_, .aload 0, .iload 1, .putfield 1215, .aload 0,
  .iload 3, .putfield 1216, .return_]
def p_232 : List Nat := [0, 1, 4, 5, 6, 7, 8, 11, 14, 15, 18, 21, 22, 23, 26, 29, 30, 31, 34, 37, 38, 39, 42, 45, 46, 47, 48, 51, 52, 53,
  56]
/-- WakeHouseModel.told(II)I -/
def c_233 : List aI := [.aload 0, .getfield 1213, .ifCond .gt 7, .aload 0, .iconst 2, .invokevirtual 225, .ifCond .ne 12, .aload 0, .iconst 1, .invokevirtual 227, .iload 1, .ireturn, .aload 0, .getfield 1207,
  .aload 0, .getfield 1211, .iaload, .istore 3, .iload 3, .iload 1, .if_icmp .lt 24, .iload 3, .iload 2, .if_icmp .le 29, .aload 0, .iconst 5, .aload 0, .getfield 1211,
  .invokevirtual 232, .aload 0, .invokevirtual 229, .iload 3, .ireturn]
def p_233 : List Nat := [0, 1, 4, 7, 8, 9, 12, 15, 16, 17, 20, 21, 22, 23, 26, 27, 30, 31, 32, 33, 34, 37, 38, 39, 42, 43, 44, 45, 48, 51,
  52, 55, 56]
/-- WakeHouseModel.knows(III)V -/
def c_234 : List aI := [.aload 0, .getfield 1221, .aload 0, .getfield 1220, .aload 0, .getfield 1208, .iload 1, .laload, .lastore, .aload 0, .getfield 1222, .aload 0, .getfield 1220, .iload 2,
  .iastore, .aload 0, .getfield 1223, .aload 0, .getfield 1220, .iload 3, .iastore, .aload 0, .dup, .getfield 1220, .iconst 1, .fadd, .putfield 1220, .return_]
def p_234 : List Nat := [0, 1, 4, 5, 8, 9, 12, 13, 14, 15, 16, 19, 20, 23, 24, 25, 26, 29, 30, 33, 34, 35, 36, 37, 40, 41, 42, 45]
/-- WakeHouseModel.tellClock()V -/
def c_235 : List aI := [.iconst 9, .aload 0, .getfield 1219, .fmul, .aload 0, .getfield 1227, .aload 0, .getfield 1219, .iaload, .fadd, .istore 1, .aload 0, .invokevirtual 229, .aload 0,
  .invokevirtual 230, .istore 2, .aload 0, .getfield 1228, .iload 1, .aload 0, .iconst 1, .iconst 12, .invokevirtual 233, .iastore, .aload 0, .getfield 1229, .iload 1, .iconst 0,
  .iastore, .aload 0, .getfield 1213, .ifCond .ne 62, .aload 0, .iconst 22, .invokevirtual 225, .ifCond .ne 40, .aload 0, .iconst 23, .invokevirtual 225, .ifCond .eq 62, .nop, .aload 0,
  .iconst 22, .invokevirtual 225, .istore 3, .aload 0, .invokevirtual 229, .aload 0, .iconst 0, .iconst 30, .invokevirtual 233, .istore 4, .aload 0, .getfield 1229, .iload 1, .iload 3,
  .ifCond .eq 60, .iload 4, .ineg, .goto 61, .iload 4, .iastore, .nop, .aload 0, .iconst 4, .invokevirtual 231, .aload 0, .getfield 1213, .ifCond .le 70, .return_,
  .aload 0, .iload 2, .iconst 1, .aload 0, .getfield 1227, .aload 0, .getfield 1219, .iaload, .invokevirtual 234, .aload 0, .getfield 1227, .aload 0, .getfield 1219, .dup2,
  .iaload, .iconst 1, .fadd, .iastore, .return_]
def p_235 : List Nat := [0, 2, 3, 6, 7, 8, 11, 12, 15, 16, 17, 18, 19, 22, 23, 26, 27, 28, 31, 32, 33, 34, 36, 39, 40, 41, 44, 45, 46, 47,
  48, 51, 54, 55, 57, 60, 63, 64, 66, 69, 72, 72, 73, 75, 78, 79, 80, 83, 84, 85, 87, 90, 92, 93, 96, 97, 98, 101, 103, 104,
  107, 109, 110, 110, 111, 112, 115, 116, 119, 122, 123, 124, 125, 126, 127, 130, 131, 134, 135, 138, 139, 142, 143, 146, 147, 148, 149, 150, 151]
/-- WakeHouseModel.tellSleeper()V -/
def c_236 : List aI := [.iconst 12, .aload 0, .getfield 1219, .fmul, .aload 0, .getfield 1230, .aload 0, .getfield 1219, .iaload, .fadd, .istore 1, .aload 0, .invokevirtual 229, .aload 0,
  .invokevirtual 230, .istore 2, .aload 0, .iconst 25, .invokevirtual 231, .aload 0, .getfield 1231, .iload 1, .aload 0, .getfield 1213, .ifCond .le 27, .iconst (-1), .goto 29, .aload 0,
  .invokevirtual 237, .iastore, .nop, .aload 0, .iconst 26, .invokevirtual 231, .aload 0, .getfield 1232, .iload 1, .aload 0, .iconst 0, .iconst 9, .invokevirtual 233, .iastore,
  .aload 0, .getfield 1233, .iload 1, .iconst (-2), .iastore, .aload 0, .getfield 1234, .iload 1, .iconst 0, .iastore, .aload 0, .getfield 1235, .iload 1, .iconst 0,
  .iastore, .aload 0, .getfield 1213, .ifCond .ne 86, .aload 0, .iconst 27, .invokevirtual 225, .ifCond .eq 86, .aload 0, .invokevirtual 229, .aload 0, .getfield 1233, .iload 1, .aload 0,
  .iconst 0, .iconst 399, .invokevirtual 233, .iastore, .aload 0, .iconst 28, .invokevirtual 231, .aload 0, .getfield 1234, .iload 1, .aload 0, .iconst 0, .iconst 9, .invokevirtual 233,
  .iastore, .goto 104, .nop, .aload 0, .getfield 1213, .ifCond .ne 104, .aload 0, .iconst 29, .invokevirtual 225, .ifCond .eq 104, .aload 0, .invokevirtual 229, .aload 0, .getfield 1235,
  .iload 1, .aload 0, .iconst 0, .iconst 9, .invokevirtual 233, .iastore, .nop, .aload 0, .iconst 4, .invokevirtual 231, .aload 0, .getfield 1213, .ifCond .le 112, .return_,
  .aload 0, .iload 2, .iconst 1, .aload 0, .getfield 1230, .aload 0, .getfield 1219, .iaload, .invokevirtual 234, .aload 0, .getfield 1230, .aload 0, .getfield 1219, .dup2,
  .iaload, .iconst 1, .fadd, .iastore, .return_]
def p_236 : List Nat := [0, 2, 3, 6, 7, 8, 11, 12, 15, 16, 17, 18, 19, 22, 23, 26, 27, 28, 30, 33, 34, 37, 38, 39, 42, 45, 46, 49, 50, 53,
  54, 54, 55, 57, 60, 61, 64, 65, 66, 67, 69, 72, 73, 74, 77, 78, 80, 81, 82, 85, 86, 87, 88, 89, 92, 93, 94, 95, 96, 99,
  102, 103, 105, 108, 111, 112, 115, 116, 119, 120, 121, 122, 125, 128, 129, 130, 132, 135, 136, 139, 140, 141, 142, 144, 147, 148, 151, 151, 152, 155,
  158, 159, 161, 164, 167, 168, 171, 172, 175, 176, 177, 178, 180, 183, 184, 184, 185, 186, 189, 190, 193, 196, 197, 198, 199, 200, 201, 204, 205, 208,
  209, 212, 213, 216, 217, 220, 221, 222, 223, 224, 225]
/-- WakeHouseModel.freeBed()I -/
def c_237 : List aI := [.aload 0, .getfield 1211, .istore 1, .aload 0, .iconst 1, .invokevirtual 231, .aload 0, .getfield 1213, .ifCond .le 11, .iconst (-1), .ireturn, .iconst (-1), .istore 2, .iconst 0,
  .istore 3, .nop, .iload 3, .aload 0, .getfield 1220, .if_icmp .ge 45, .iload 2, .iconst (-1), .if_icmp .ne 43, .aload 0, .getfield 1221, .iload 3, .laload, .aload 0,
  .getfield 1208, .iload 1, .laload, .lcmp, .ifCond .ne 43, .aload 0, .getfield 1222, .iload 3, .iaload, .ifCond .ne 43, .aload 0, .getfield 1223, .iload 3, .iaload,
  .istore 2, .iinc 3 1, .goto 15, .iload 2, .iconst (-1), .if_icmp .ne 52, .aload 0, .iconst 4, .iload 1, .invokevirtual 232, .iconst 0, .istore 3, .nop, .iload 3,
  .aload 0, .getfield 1230, .aload 0, .getfield 1219, .iaload, .if_icmp .ge 82, .iload 2, .iconst (-1), .if_icmp .eq 82, .aload 0, .getfield 1231, .iconst 12, .aload 0, .getfield 1219,
  .fmul, .iload 3, .fadd, .iaload, .iload 2, .if_icmp .ne 80, .aload 0, .iconst 3, .iload 1, .invokevirtual 232, .iinc 3 1, .goto 54, .iload 2, .ireturn]
def p_237 : List Nat := [0, 1, 4, 5, 6, 7, 10, 11, 14, 17, 18, 19, 20, 21, 22, 23, 23, 24, 25, 28, 31, 32, 33, 36, 37, 40, 41, 42, 43, 46,
  47, 48, 49, 52, 53, 56, 57, 58, 61, 62, 65, 66, 67, 68, 71, 74, 75, 76, 79, 80, 81, 82, 85, 86, 87, 87, 88, 89, 92, 93,
  96, 97, 100, 101, 102, 105, 106, 109, 111, 112, 115, 116, 117, 118, 119, 120, 123, 124, 125, 126, 129, 132, 135, 136]
/-- WakeHouseModel.expression()V -/
def c_238 : List aI := [.aload 0, .iconst 0, .putfield 1243, .aload 0, .getfield 1213, .ifCond .ne 8, .iconst 1, .goto 9, .iconst 0, .istore 1, .nop, .iload 1, .ifCond .eq 65, .aload 0,
  .getfield 1213, .ifCond .ne 65, .aload 0, .iconst 6, .invokevirtual 225, .ifCond .ne 24, .aload 0, .iconst 14, .invokevirtual 225, .ifCond .eq 51, .nop, .aload 0, .getfield 1212, .iconst 6,
  .if_icmp .ne 32, .aload 0, .iconst 2, .invokevirtual 227, .nop, .aload 0, .getfield 1213, .ifCond .le 37, .return_, .aload 0, .dup, .getfield 1212, .iconst 1, .fadd,
  .putfield 1212, .aload 0, .aload 0, .getfield 1205, .aload 0, .getfield 1211, .iaload, .invokevirtual 239, .goto 10, .aload 0, .invokevirtual 240, .aload 0, .getfield 1213, .ifCond .ne 61,
  .aload 0, .invokevirtual 242, .ifCond .eq 61, .iconst 1, .goto 63, .nop, .iconst 0, .istore 1, .goto 10, .return_]
def p_238 : List Nat := [0, 1, 2, 5, 6, 9, 12, 13, 16, 17, 18, 18, 19, 22, 23, 26, 29, 30, 32, 35, 38, 39, 41, 44, 47, 47, 48, 51, 53, 56,
  57, 58, 61, 61, 62, 65, 68, 69, 70, 71, 74, 75, 76, 79, 80, 81, 84, 85, 88, 89, 92, 95, 96, 99, 100, 103, 106, 107, 110, 113,
  114, 117, 117, 118, 119, 122]
/-- WakeHouseModel.waitFor(I)V -/
def c_239 : List aI := [.aload 0, .getfield 1242, .aload 0, .getfield 1243, .iload 1, .iastore, .aload 0, .dup, .getfield 1243, .iconst 1, .fadd, .putfield 1243, .aload 0, .invokevirtual 229,
  .return_]
def p_239 : List Nat := [0, 1, 4, 5, 8, 9, 10, 11, 12, 15, 16, 17, 20, 21, 24]
/-- WakeHouseModel.unit()V -/
def c_240 : List aI := [.aload 0, .getfield 1205, .aload 0, .getfield 1211, .iaload, .istore 1, .iload 1, .iconst 2, .if_icmp .ne 18, .aload 0, .iconst 0, .aload 0, .getfield 1207, .aload 0,
  .getfield 1211, .iaload, .invokevirtual 241, .goto 58, .iload 1, .iconst 32, .if_icmp .lt 31, .iload 1, .iconst 35, .if_icmp .gt 31, .aload 0, .iconst 1, .iload 1, .iconst 32,
  .fsub, .invokevirtual 241, .goto 58, .iload 1, .iconst 26, .if_icmp .ne 39, .aload 0, .iconst 1, .iconst 4, .invokevirtual 241, .goto 58, .iload 1, .iconst 36, .if_icmp .ne 47,
  .aload 0, .iconst 1, .iconst 5, .invokevirtual 241, .goto 58, .iload 1, .iconst 37, .if_icmp .ne 55, .aload 0, .iconst 1, .iconst 6, .invokevirtual 241, .goto 58, .aload 0,
  .iconst 1, .invokevirtual 227, .aload 0, .getfield 1213, .ifCond .ne 63, .aload 0, .invokevirtual 229, .return_]
def p_240 : List Nat := [0, 1, 4, 5, 8, 9, 10, 11, 12, 15, 16, 17, 18, 21, 22, 25, 26, 29, 32, 33, 35, 38, 39, 41, 44, 45, 46, 47, 49, 50,
  53, 56, 57, 59, 62, 63, 64, 65, 68, 71, 72, 74, 77, 78, 79, 80, 83, 86, 87, 89, 92, 93, 94, 96, 99, 102, 103, 104, 107, 108,
  111, 114, 115, 118]
/-- WakeHouseModel.emit(II)V -/
def c_241 : List aI := [.aload 0, .getfield 1213, .ifCond .le 4, .return_, .aload 0, .getfield 1240, .aload 0, .getfield 1239, .iload 1, .iastore, .aload 0, .getfield 1241, .aload 0, .getfield 1239,
  .iload 2, .iastore, .aload 0, .dup, .getfield 1239, .iconst 1, .fadd, .putfield 1239, .return_]
def p_241 : List Nat := [0, 1, 4, 7, 8, 9, 12, 13, 16, 17, 18, 19, 22, 23, 26, 27, 28, 29, 30, 33, 34, 35, 38]
/-- WakeHouseModel.goes()Z -/
def c_242 : List aI := [.nop, .aload 0, .getfield 1213, .ifCond .ne 136, .aload 0, .iconst 10, .invokevirtual 225, .ifCond .ne 12, .aload 0, .iconst 11, .invokevirtual 225, .ifCond .eq 25, .nop, .aload 0,
  .iconst 1, .invokevirtual 243, .aload 0, .aload 0, .getfield 1205, .aload 0, .getfield 1211, .iaload, .invokevirtual 239, .iconst 1, .freturn, .aload 0, .iconst 0, .invokevirtual 243,
  .aload 0, .iconst 8, .invokevirtual 225, .ifCond .ne 36, .aload 0, .iconst 9, .invokevirtual 225, .ifCond .eq 46, .nop, .aload 0, .aload 0, .getfield 1205, .aload 0, .getfield 1211,
  .iaload, .invokevirtual 239, .iconst 1, .freturn, .aload 0, .iconst 13, .invokevirtual 225, .ifCond .ne 54, .aload 0, .iconst 12, .invokevirtual 225, .ifCond .eq 68, .nop, .aload 0,
  .iconst 14, .invokevirtual 245, .ifCond .eq 68, .aload 0, .aload 0, .getfield 1205, .aload 0, .getfield 1211, .iaload, .invokevirtual 239, .iconst 1, .freturn, .nop, .aload 0,
  .iconst 7, .invokevirtual 225, .ifCond .eq 84, .aload 0, .iconst 6, .invokevirtual 245, .ifCond .eq 84, .aload 0, .dup, .getfield 1243, .iconst 1, .fsub, .putfield 1243, .goto 126,
  .nop, .aload 0, .iconst 15, .invokevirtual 225, .ifCond .eq 116, .aload 0, .iconst 13, .invokevirtual 245, .ifCond .ne 97, .aload 0, .iconst 12, .invokevirtual 245, .ifCond .eq 116, .nop,
  .aload 0, .aload 0, .iconst 13, .invokevirtual 245, .ifCond .eq 105, .iconst 6, .goto 106, .iconst 7, .iconst 0, .invokevirtual 241, .nop, .aload 0, .dup, .getfield 1243,
  .iconst 2, .fsub, .putfield 1243, .goto 126, .nop, .aload 0, .getfield 1243, .ifCond .le 123, .aload 0, .iconst 1, .invokevirtual 227, .nop, .iconst 0, .freturn,
  .nop, .aload 0, .dup, .getfield 1212, .iconst 1, .fsub, .putfield 1212, .aload 0, .invokevirtual 229, .goto 0, .iconst 0, .freturn]
def p_242 : List Nat := [0, 0, 1, 4, 7, 8, 10, 13, 16, 17, 19, 22, 25, 25, 26, 27, 30, 31, 32, 35, 36, 39, 40, 43, 44, 45, 46, 47, 50, 51,
  53, 56, 59, 60, 62, 65, 68, 68, 69, 70, 73, 74, 77, 78, 81, 82, 83, 84, 86, 89, 92, 93, 95, 98, 101, 101, 102, 104, 107, 110,
  111, 112, 115, 116, 119, 120, 123, 124, 125, 125, 126, 128, 131, 134, 135, 137, 140, 143, 144, 145, 148, 149, 150, 153, 156, 156, 157, 159, 162, 165,
  166, 168, 171, 174, 175, 177, 180, 183, 183, 184, 185, 187, 190, 193, 195, 198, 200, 201, 204, 204, 205, 206, 209, 210, 211, 214, 217, 217, 218, 221,
  224, 225, 226, 229, 229, 230, 231, 231, 232, 233, 236, 237, 238, 241, 242, 245, 248, 249]
/-- WakeHouseModel.comesOut(Z)V -/
def c_243 : List aI := [.nop, .aload 0, .invokevirtual 244, .ifCond .ne 14, .iload 1, .ifCond .ne 49, .aload 0, .iconst 8, .invokevirtual 245, .ifCond .ne 14, .aload 0, .iconst 9, .invokevirtual 245, .ifCond .eq 49,
  .nop, .aload 0, .getfield 1242, .aload 0, .getfield 1243, .iconst 1, .fsub, .iaload, .istore 2, .aload 0, .dup, .getfield 1243, .iconst 1, .fsub,
  .putfield 1243, .aload 0, .iload 2, .iconst 8, .if_icmp .ne 35, .iconst 2, .goto 46, .iload 2, .iconst 9, .if_icmp .ne 40, .iconst 3, .goto 46, .iload 2, .iconst 10,
  .if_icmp .ne 45, .iconst 4, .goto 46, .iconst 5, .iconst 0, .invokevirtual 241, .goto 0, .return_]
def p_243 : List Nat := [0, 0, 1, 4, 7, 8, 11, 12, 14, 17, 20, 21, 23, 26, 29, 29, 30, 33, 34, 37, 38, 39, 40, 41, 42, 43, 46, 47, 48, 51,
  52, 53, 55, 58, 59, 62, 63, 65, 68, 69, 72, 73, 75, 78, 79, 82, 83, 84, 87, 90]
/-- WakeHouseModel.isStrong()Z -/
def c_244 : List aI := [.aload 0, .iconst 10, .invokevirtual 245, .ifCond .ne 8, .aload 0, .iconst 11, .invokevirtual 245, .ifCond .eq 10, .iconst 1, .goto 11, .iconst 0, .freturn]
def p_244 : List Nat := [0, 1, 3, 6, 9, 10, 12, 15, 18, 19, 22, 23]
/-- WakeHouseModel.waitsOn(I)Z -/
def c_245 : List aI := [.aload 0, .getfield 1243, .ifCond .le 14, .aload 0, .getfield 1242, .aload 0, .getfield 1243, .iconst 1, .fsub, .iaload, .iload 1, .if_icmp .ne 14, .iconst 1, .goto 15,
  .iconst 0, .freturn]
def p_245 : List Nat := [0, 1, 4, 7, 8, 11, 12, 15, 16, 17, 18, 19, 22, 23, 26, 27]
/-- WakeHouseModel.begins()V -/
def c_246 : List aI := [.aload 0, .iconst 0, .putfield 1248, .aload 0, .iconst 0, .putfield 1276, .iconst 0, .istore 1, .nop, .iload 1, .iconst 12, .if_icmp .ge 41, .aload 0, .getfield 1246,
  .iload 1, .iload 1, .aload 0, .getfield 1230, .aload 0, .getfield 1218, .iaload, .if_icmp .ge 32, .aload 0, .getfield 1231, .iconst 12, .aload 0, .getfield 1218, .fmul,
  .iload 1, .fadd, .iaload, .goto 33, .iconst (-1), .iastore, .aload 0, .getfield 1247, .iload 1, .iconst 0, .bastore, .iinc 1 1, .goto 8, .aload 0,
  .getfield 1282, .iconst 0, .iconst (-1), .iastore, .aload 0, .getfield 1282, .iconst 1, .iconst (-1), .iastore, .return_]
def p_246 : List Nat := [0, 1, 2, 5, 6, 7, 10, 11, 12, 12, 13, 15, 18, 19, 22, 23, 24, 25, 28, 29, 32, 33, 36, 37, 40, 42, 43, 46, 47, 48,
  49, 50, 53, 54, 55, 56, 59, 60, 61, 62, 65, 68, 69, 72, 73, 74, 75, 76, 79, 80, 81, 82]
/-- WakeHouseModel.place()I -/
def c_247 : List aI := [.aload 0, .getfield 1217, .ireturn]
def p_247 : List Nat := [0, 1, 4]
/-- WakeHouseModel.of(II)I -/
def c_248 : List aI := [.aload 0, .iload 1, .invokevirtual 249, .ifCond .ne 6, .iconst (-1), .ireturn, .iconst 12, .aload 0, .getfield 1218, .fmul, .iload 1, .fadd, .istore 3, .iload 2,
  .tableswitch 49 0 5 #[15, 20, 25, 30, 35, 40], .aload 0, .getfield 1246, .iload 1, .iaload, .ireturn, .aload 0, .getfield 1232, .iload 3, .iaload, .ireturn, .aload 0, .getfield 1233, .iload 3,
  .iaload, .ireturn, .aload 0, .getfield 1234, .iload 3, .iaload, .ireturn, .aload 0, .getfield 1235, .iload 3, .iaload, .ireturn, .aload 0, .getfield 1247,
  .iload 1, .baload, .ifCond .eq 47, .iconst 1, .goto 48, .iconst 0, .ireturn, .iconst (-1), .ireturn]
def p_248 : List Nat := [0, 1, 2, 5, 8, 9, 10, 12, 13, 16, 17, 18, 19, 20, 21, 60, 61, 64, 65, 66, 67, 68, 71, 72, 73, 74, 75, 78, 79, 80,
  81, 82, 85, 86, 87, 88, 89, 92, 93, 94, 95, 96, 99, 100, 101, 104, 105, 108, 109, 110, 111]
/-- WakeHouseModel.isSleeper(I)Z -/
def c_249 : List aI := [.iload 1, .iconst 0, .aload 0, .getfield 1230, .aload 0, .getfield 1218, .iaload, .iconst 1, .fsub, .invokestatic 250, .freturn]
def p_249 : List Nat := [0, 1, 2, 3, 6, 7, 10, 11, 12, 13, 16]
/-- WakeHouseModel.in(III)Z -/
def c_250 : List aI := [.iload 0, .iload 1, .if_icmp .lt 8, .iload 0, .iload 2, .if_icmp .gt 8, .iconst 1, .goto 9, .iconst 0, .freturn]
def p_250 : List Nat := [0, 1, 2, 5, 6, 7, 10, 11, 14, 15]
/-- WakeHouseModel.lies(I)I -/
def c_251 : List aI := [.aload 0, .iload 1, .invokevirtual 252, .ifCond .eq 8, .aload 0, .iload 1, .invokevirtual 253, .goto 9, .iconst (-1), .ireturn]
def p_251 : List Nat := [0, 1, 2, 5, 8, 9, 10, 13, 16, 17]
/-- WakeHouseModel.isBed(I)Z -/
def c_252 : List aI := [.iload 1, .iconst 0, .aload 0, .getfield 1224, .aload 0, .getfield 1218, .iaload, .iconst 1, .fsub, .invokestatic 250, .freturn]
def p_252 : List Nat := [0, 1, 2, 3, 6, 7, 10, 11, 12, 13, 16]
/-- WakeHouseModel.whoLies(I)I -/
def c_253 : List aI := [.iconst 0, .istore 2, .nop, .iload 2, .aload 0, .getfield 1230, .aload 0, .getfield 1218, .iaload, .if_icmp .ge 20, .aload 0, .getfield 1246, .iload 2, .iaload,
  .iload 1, .if_icmp .ne 18, .iload 2, .ireturn, .iinc 2 1, .goto 2, .iconst (-2), .ireturn]
def p_253 : List Nat := [0, 1, 2, 2, 3, 4, 7, 8, 11, 12, 15, 16, 19, 20, 21, 22, 25, 26, 27, 30, 33, 35]
/-- WakeHouseModel.hears(IIII)I -/
def c_254 : List aI := [.aload 0, .iload 1, .invokevirtual 249, .ifCond .eq 21, .iload 2, .invokestatic 255, .ifCond .eq 21, .aload 0, .iload 3, .invokevirtual 252, .ifCond .eq 21, .iload 4, .invokestatic 256, .ifCond .eq 21,
  .aload 0, .iload 1, .iload 2, .iload 3, .iload 4, .invokevirtual 257, .goto 22, .iconst (-1), .ireturn]
def p_254 : List Nat := [0, 1, 2, 5, 8, 9, 12, 15, 16, 17, 20, 23, 25, 28, 31, 32, 33, 34, 35, 37, 40, 43, 44]
/-- WakeHouseModel.isLoud(I)Z -/
def c_255 : List aI := [.iload 0, .iconst 1, .iconst 12, .invokestatic 250, .freturn]
def p_255 : List Nat := [0, 1, 2, 4, 7]
/-- WakeHouseModel.isMinute(I)Z -/
def c_256 : List aI := [.iload 0, .iconst 0, .iconst 399, .invokestatic 250, .freturn]
def p_256 : List Nat := [0, 1, 2, 5, 8]
/-- WakeHouseModel.hearing(IIII)I -/
def c_257 : List aI := [.aload 0, .getfield 1244, .iconst 0, .iload 2, .iastore, .aload 0, .getfield 1244, .iconst 1, .aload 0, .iload 3, .aload 0, .getfield 1246, .iload 1, .iaload,
  .invokevirtual 258, .iastore, .aload 0, .getfield 1244, .iconst 2, .aload 0, .iload 3, .aload 0, .getfield 1246, .iload 1, .iaload, .invokevirtual 260, .iastore, .aload 0,
  .getfield 1244, .iconst 3, .iload 4, .iconst 60, .idiv, .iastore, .aload 0, .getfield 1244, .iconst 4, .aload 0, .getfield 1232, .iconst 12, .aload 0, .getfield 1218,
  .fmul, .iload 1, .fadd, .iaload, .iastore, .aload 0, .getfield 1244, .iconst 5, .aload 0, .getfield 1247, .iload 1, .baload, .ifCond .eq 57, .iconst 1,
  .goto 58, .iconst 0, .iastore, .aload 0, .getfield 1244, .iconst 6, .iconst 0, .iastore, .aload 0, .getfield 1236, .iconst 2, .aload 0, .getfield 1218, .fmul,
  .baload, .ifCond .eq 79, .aload 0, .iconst 2, .aload 0, .getfield 1218, .fmul, .invokevirtual 261, .goto 99, .iload 2, .aload 0, .getfield 1244, .iconst 1, .iaload,
  .fsub, .aload 0, .getfield 1244, .iconst 2, .iaload, .iconst 3, .fmul, .fsub, .aload 0, .getfield 1244, .iconst 5, .iaload, .iconst 4, .fmul,
  .fsub, .istore 5, .iload 5, .iconst 10, .invokestatic 262, .ireturn]
def p_257 : List Nat := [0, 1, 4, 5, 6, 7, 8, 11, 12, 13, 14, 15, 18, 19, 20, 23, 24, 25, 28, 29, 30, 31, 32, 35, 36, 37, 40, 41, 42, 45,
  46, 48, 50, 51, 52, 53, 56, 57, 58, 61, 63, 64, 67, 68, 69, 70, 71, 72, 73, 76, 77, 78, 81, 82, 83, 86, 87, 90, 91, 92,
  93, 96, 98, 99, 100, 101, 104, 105, 106, 109, 110, 111, 114, 115, 116, 117, 120, 121, 124, 127, 128, 129, 132, 133, 134, 135, 136, 139, 140, 141,
  142, 143, 144, 145, 148, 149, 150, 151, 152, 153, 155, 157, 159, 162]
/-- WakeHouseModel.gapOf(II)I -/
def c_258 : List aI := [.aload 0, .getfield 1226, .iconst 12, .aload 0, .getfield 1218, .fmul, .iload 1, .fadd, .iaload, .aload 0, .getfield 1226, .iconst 12, .aload 0, .getfield 1218,
  .fmul, .iload 2, .fadd, .iaload, .fsub, .invokestatic 259, .ireturn]
def p_258 : List Nat := [0, 1, 4, 6, 7, 10, 11, 12, 13, 14, 15, 18, 20, 21, 24, 25, 26, 27, 28, 29, 32]
/-- WakeHouseModel.bare(I)I -/
def c_259 : List aI := [.iload 0, .ifCond .ge 5, .iload 0, .ineg, .goto 6, .iload 0, .ireturn]
def p_259 : List Nat := [0, 1, 4, 5, 6, 9, 10]
/-- WakeHouseModel.floorsOf(II)I -/
def c_260 : List aI := [.aload 0, .getfield 1225, .iconst 12, .aload 0, .getfield 1218, .fmul, .iload 1, .fadd, .iaload, .aload 0, .getfield 1225, .iconst 12, .aload 0, .getfield 1218,
  .fmul, .iload 2, .fadd, .iaload, .fsub, .invokestatic 259, .ireturn]
def p_260 : List Nat := [0, 1, 4, 6, 7, 10, 11, 12, 13, 14, 15, 18, 20, 21, 24, 25, 26, 27, 28, 29, 32]
/-- WakeHouseModel.valueOf(I)I -/
def c_261 : List aI := [.iconst 0, .istore 2, .aload 0, .getfield 1237, .iload 1, .iaload, .istore 3, .nop, .iload 3, .aload 0, .getfield 1238, .iload 1, .iaload, .if_icmp .ge 114,
  .aload 0, .getfield 1240, .iload 3, .iaload, .istore 4, .iload 4, .iconst 2, .if_icmp .ge 43, .aload 0, .getfield 1245, .iload 2, .iload 4, .ifCond .ne 32, .aload 0,
  .getfield 1241, .iload 3, .iaload, .goto 39, .aload 0, .getfield 1244, .aload 0, .getfield 1241, .iload 3, .iaload, .iaload, .iastore, .nop, .iinc 2 1,
  .goto 111, .iinc 2 (-1), .aload 0, .getfield 1245, .iload 2, .iconst 1, .isub, .iaload, .istore 5, .aload 0, .getfield 1245, .iload 2, .iaload, .istore 6,
  .iload 4, .iconst 5, .if_icmp .ne 63, .iload 6, .ifCond .ne 63, .iconst 0, .ireturn, .nop, .aload 0, .getfield 1245, .iload 2, .iconst 1, .isub, .iload 4,
  .iconst 2, .if_icmp .ne 76, .iload 5, .iload 6, .iadd, .goto 110, .iload 4, .iconst 3, .if_icmp .ne 83, .iload 5, .iload 6, .isub, .goto 110, .iload 4,
  .iconst 4, .if_icmp .ne 90, .iload 5, .iload 6, .imul, .goto 110, .iload 4, .iconst 5, .if_icmp .ne 97, .iload 5, .iload 6, .idiv, .goto 110, .iload 4,
  .iconst 6, .if_icmp .ne 104, .iload 5, .iload 6, .if_icmp .ge 109, .goto 107, .iload 5, .iload 6, .if_icmp .ne 109, .iconst 1, .goto 110, .iconst 0, .iastore, .nop,
  .iinc 3 1, .goto 7, .aload 0, .getfield 1245, .iconst 0, .iaload, .ireturn]
def p_261 : List Nat := [0, 1, 2, 3, 6, 7, 8, 9, 9, 10, 11, 14, 15, 16, 19, 20, 23, 24, 25, 27, 29, 30, 33, 34, 37, 38, 40, 43, 44, 47,
  48, 49, 52, 53, 56, 57, 60, 61, 62, 63, 64, 64, 67, 70, 73, 74, 77, 78, 79, 80, 81, 83, 84, 87, 88, 89, 91, 93, 94, 97,
  99, 102, 103, 104, 104, 105, 108, 109, 110, 111, 113, 114, 117, 119, 121, 122, 125, 127, 128, 131, 133, 135, 136, 139, 141, 142, 145, 147, 149, 150,
  153, 155, 156, 159, 161, 163, 164, 167, 169, 171, 174, 176, 178, 181, 184, 186, 188, 191, 192, 195, 196, 197, 197, 200, 203, 204, 207, 208, 209]
/-- WakeHouseModel.held(II)I -/
def c_262 : List aI := [.iload 0, .ifCond .ge 4, .iconst 0, .goto 10, .iload 0, .iload 1, .if_icmp .le 9, .iload 1, .goto 10, .iload 0, .ireturn]
def p_262 : List Nat := [0, 1, 4, 5, 8, 9, 10, 13, 14, 17, 18]
/-- WakeHouseModel.again(II)I -/
def c_263 : List aI := [.aload 0, .iload 1, .invokevirtual 249, .ifCond .eq 12, .iload 2, .invokestatic 256, .ifCond .eq 12, .aload 0, .iload 1, .iload 2, .invokevirtual 264, .goto 13, .iconst (-1), .ireturn]
def p_263 : List Nat := [0, 1, 2, 5, 8, 9, 12, 15, 16, 17, 18, 21, 24, 25]
/-- WakeHouseModel.asleepAgain(II)I -/
def c_264 : List aI := [.iconst 0, .istore 3, .nop, .iload 3, .iconst 7, .if_icmp .ge 13, .aload 0, .getfield 1244, .iload 3, .iconst 0, .iastore, .iinc 3 1, .goto 2, .aload 0,
  .getfield 1244, .iconst 4, .aload 0, .getfield 1232, .iconst 12, .aload 0, .getfield 1218, .fmul, .iload 1, .fadd, .iaload, .iastore, .aload 0, .getfield 1244,
  .iconst 6, .iload 2, .iastore, .aload 0, .getfield 1236, .iconst 2, .aload 0, .getfield 1218, .fmul, .iconst 1, .fadd, .baload, .ifCond .eq 52, .aload 0,
  .iconst 2, .aload 0, .getfield 1218, .fmul, .iconst 1, .fadd, .invokevirtual 261, .iconst 10, .invokestatic 262, .goto 53, .iconst 0, .ireturn]
def p_264 : List Nat := [0, 1, 2, 2, 3, 5, 8, 9, 12, 13, 14, 15, 18, 21, 22, 25, 26, 27, 30, 32, 33, 36, 37, 38, 39, 40, 41, 42, 45, 47,
  48, 49, 50, 53, 54, 55, 58, 59, 60, 61, 62, 65, 66, 67, 68, 71, 72, 73, 74, 77, 79, 82, 85, 86]
/-- WakeHouseModel.ring(III)I -/
def c_265 : List aI := [.aload 0, .getfield 1248, .iconst 8, .if_icmp .eq 15, .aload 0, .iload 1, .invokevirtual 266, .ifCond .eq 15, .aload 0, .iload 2, .invokevirtual 252, .ifCond .eq 15, .iload 3, .invokestatic 256,
  .ifCond .ne 17, .iconst (-1), .goto 22, .aload 0, .iload 1, .iload 2, .iload 3, .invokevirtual 267, .ireturn]
def p_265 : List Nat := [0, 1, 4, 6, 9, 10, 11, 14, 17, 18, 19, 22, 25, 26, 29, 32, 33, 36, 37, 38, 39, 40, 43]
/-- WakeHouseModel.isClock(I)Z -/
def c_266 : List aI := [.iload 1, .iconst 0, .aload 0, .getfield 1227, .aload 0, .getfield 1218, .iaload, .iconst 1, .fsub, .invokestatic 250, .freturn]
def p_266 : List Nat := [0, 1, 2, 3, 6, 7, 10, 11, 12, 13, 16]
/-- WakeHouseModel.rings(III)I -/
def c_267 : List aI := [.aload 0, .iconst 0, .aload 0, .iload 1, .iload 3, .invokevirtual 268, .aload 0, .getfield 1228, .iconst 9, .aload 0, .getfield 1218, .fmul, .iload 1, .fadd,
  .iaload, .iload 2, .invokevirtual 269, .ireturn]
def p_267 : List Nat := [0, 1, 2, 3, 4, 5, 8, 9, 12, 14, 15, 18, 19, 20, 21, 22, 23, 26]
/-- WakeHouseModel.soundsAt(II)I -/
def c_268 : List aI := [.iload 2, .aload 0, .getfield 1229, .iconst 9, .aload 0, .getfield 1218, .fmul, .iload 1, .fadd, .iaload, .fadd, .iconst 399, .invokestatic 262, .ireturn]
def p_268 : List Nat := [0, 1, 2, 5, 7, 8, 11, 12, 13, 14, 15, 16, 19, 22]
/-- WakeHouseModel.soundComes(IIII)I -/
def c_269 : List aI := [.aload 0, .getfield 1249, .aload 0, .getfield 1248, .iload 1, .iastore, .aload 0, .getfield 1250, .aload 0, .getfield 1248, .iload 2, .iastore, .aload 0, .getfield 1251,
  .aload 0, .getfield 1248, .iload 3, .iastore, .aload 0, .getfield 1252, .aload 0, .getfield 1248, .iload 4, .iastore, .aload 0, .dup, .getfield 1248, .iconst 1,
  .fadd, .putfield 1248, .aload 0, .getfield 1248, .iconst 1, .fsub, .ireturn]
def p_269 : List Nat := [0, 1, 4, 5, 8, 9, 10, 11, 14, 15, 18, 19, 20, 21, 24, 25, 28, 29, 30, 31, 34, 35, 38, 40, 41, 42, 43, 46, 47, 48,
  51, 52, 55, 56, 57]
/-- WakeHouseModel.string(II)I -/
def c_270 : List aI := [.aload 0, .getfield 1248, .iconst 8, .if_icmp .eq 11, .aload 0, .iload 1, .invokevirtual 249, .ifCond .eq 11, .iload 2, .invokestatic 256, .ifCond .ne 13, .iconst (-1), .goto 19, .aload 0,
  .iconst 1, .iload 2, .iconst 0, .iload 1, .invokevirtual 269, .ireturn]
def p_270 : List Nat := [0, 1, 4, 6, 9, 10, 11, 14, 17, 18, 21, 24, 25, 28, 29, 30, 31, 32, 33, 36]
/-- WakeHouseModel.pole(II)I -/
def c_271 : List aI := [.aload 0, .getfield 1248, .iconst 8, .if_icmp .eq 11, .aload 0, .iload 1, .invokevirtual 252, .ifCond .eq 11, .iload 2, .invokestatic 256, .ifCond .ne 13, .iconst (-1), .goto 19, .aload 0,
  .iconst 2, .iload 2, .iconst 7, .iload 1, .invokevirtual 269, .ireturn]
def p_271 : List Nat := [0, 1, 4, 6, 9, 10, 11, 14, 17, 18, 21, 24, 25, 28, 29, 30, 31, 33, 34, 37]
/-- WakeHouseModel.drop(I)I -/
def c_272 : List aI := [.iload 1, .iconst 0, .aload 0, .getfield 1248, .iconst 1, .fsub, .invokestatic 250, .ifCond .ne 10, .iconst (-1), .ireturn, .aload 0, .iload 1, .invokevirtual 273, .aload 0,
  .getfield 1248, .ireturn]
def p_272 : List Nat := [0, 1, 2, 3, 6, 7, 8, 11, 14, 15, 16, 17, 18, 21, 22, 25]
/-- WakeHouseModel.goesOut(I)V -/
def c_273 : List aI := [.aload 0, .dup, .getfield 1248, .iconst 1, .fsub, .putfield 1248, .iload 1, .istore 2, .nop, .iload 2, .aload 0, .getfield 1248, .if_icmp .ge 55, .aload 0,
  .getfield 1249, .iload 2, .aload 0, .getfield 1249, .iload 2, .iconst 1, .fadd, .iaload, .iastore, .aload 0, .getfield 1250, .iload 2, .aload 0, .getfield 1250,
  .iload 2, .iconst 1, .fadd, .iaload, .iastore, .aload 0, .getfield 1251, .iload 2, .aload 0, .getfield 1251, .iload 2, .iconst 1, .fadd, .iaload,
  .iastore, .aload 0, .getfield 1252, .iload 2, .aload 0, .getfield 1252, .iload 2, .iconst 1, .fadd, .iaload, .iastore, .iinc 2 1, .goto 8, .return_]
def p_273 : List Nat := [0, 1, 2, 5, 6, 7, 10, 11, 12, 12, 13, 14, 17, 20, 21, 24, 25, 26, 29, 30, 31, 32, 33, 34, 35, 38, 39, 40, 43, 44,
  45, 46, 47, 48, 49, 52, 53, 54, 57, 58, 59, 60, 61, 62, 63, 66, 67, 68, 71, 72, 73, 74, 75, 76, 79, 82]
/-- WakeHouseModel.sound(II)I -/
def c_274 : List aI := [.iload 1, .iconst 0, .aload 0, .getfield 1248, .iconst 1, .fsub, .invokestatic 250, .ifCond .ne 10, .iconst (-1), .ireturn, .iload 2, .tableswitch 46 0 3 #[12, 17, 22, 27], .aload 0, .getfield 1249,
  .iload 1, .iaload, .ireturn, .aload 0, .getfield 1250, .iload 1, .iaload, .ireturn, .aload 0, .getfield 1251, .iload 1, .iaload, .ireturn, .aload 0,
  .getfield 1249, .iload 1, .iaload, .iconst 1, .if_icmp .ne 41, .aload 0, .getfield 1246, .aload 0, .getfield 1252, .iload 1, .iaload, .iaload, .goto 45, .aload 0,
  .getfield 1252, .iload 1, .iaload, .ireturn, .iconst (-1), .ireturn]
def p_274 : List Nat := [0, 1, 2, 3, 6, 7, 8, 11, 14, 15, 16, 17, 48, 49, 52, 53, 54, 55, 56, 59, 60, 61, 62, 63, 66, 67, 68, 69, 70, 73,
  74, 75, 76, 79, 80, 83, 84, 87, 88, 89, 90, 93, 94, 97, 98, 99, 100, 101]
/-- WakeHouseModel.wool(IZ)Z -/
def c_275 : List aI := [.aload 0, .iload 1, .invokevirtual 249, .ifCond .ne 6, .iconst 0, .freturn, .aload 0, .getfield 1247, .iload 1, .iload 2, .bastore, .iconst 1, .freturn]
def p_275 : List Nat := [0, 1, 2, 5, 8, 9, 10, 11, 14, 15, 16, 17, 18]
/-- WakeHouseModel.swap(II)Z -/
def c_276 : List aI := [.aload 0, .iload 1, .invokevirtual 252, .ifCond .eq 11, .aload 0, .iload 2, .invokevirtual 252, .ifCond .eq 11, .iload 1, .iload 2, .if_icmp .ne 13, .iconst 0, .freturn, .aload 0,
  .iload 1, .iload 2, .invokevirtual 277, .iconst 1, .freturn]
def p_276 : List Nat := [0, 1, 2, 5, 8, 9, 10, 13, 16, 17, 18, 21, 22, 23, 24, 25, 26, 29, 30]
/-- WakeHouseModel.changes(II)V -/
def c_277 : List aI := [.aload 0, .iload 1, .invokevirtual 253, .istore 3, .aload 0, .iload 2, .invokevirtual 253, .istore 4, .iload 3, .ifCond .lt 15, .aload 0, .getfield 1246, .iload 3, .iload 2,
  .iastore, .iload 4, .ifCond .lt 22, .aload 0, .getfield 1246, .iload 4, .iload 1, .iastore, .return_]
def p_277 : List Nat := [0, 1, 2, 5, 6, 7, 8, 11, 13, 14, 17, 18, 21, 22, 23, 24, 26, 29, 30, 33, 35, 36, 37]
/-- WakeHouseModel.ways()J -/
def c_278 : List aI := [.bipush 100, .aload 0, .getfield 1248, .invokestatic 279, .lreturn]
def p_278 : List Nat := [0, 3, 4, 7, 10]
/-- WakeHouseModel.power(JI)J -/
def c_279 : List aI := [.bipush 1, .lstore 3, .iconst 0, .istore 5, .nop, .iload 5, .iload 2, .if_icmp .ge 14, .lload 3, .lload 0, .dmul, .lstore 3, .iinc 5 1, .goto 4,
  .lload 3, .lreturn]
def p_279 : List Nat := [0, 1, 2, 3, 5, 5, 7, 8, 11, 12, 13, 14, 15, 18, 21, 22]
/-- WakeHouseModel.up(I)J -/
def c_280 : List aI := [.aload 0, .iload 1, .invokevirtual 249, .ifCond .ne 6, .bipush (-1), .lreturn, .aload 0, .iload 1, .invokevirtual 281, .ifCond .ge 12, .bipush (-2), .lreturn, .aload 0, .invokevirtual 282,
  .aload 0, .iload 1, .invokevirtual 283, .lreturn]
def p_280 : List Nat := [0, 1, 2, 5, 8, 11, 12, 13, 14, 17, 20, 23, 24, 25, 28, 29, 30, 33]
/-- WakeHouseModel.hour(I)I -/
def c_281 : List aI := [.aload 0, .getfield 1233, .iconst 12, .aload 0, .getfield 1218, .fmul, .iload 1, .fadd, .iaload, .ireturn]
def p_281 : List Nat := [0, 1, 4, 6, 7, 10, 11, 12, 13, 14]
/-- WakeHouseModel.sorts()V -/
def c_282 : List aI := [.iconst 0, .istore 1, .nop, .iload 1, .aload 0, .getfield 1248, .if_icmp .ge 45, .iload 1, .istore 2, .nop, .iload 2, .ifCond .le 38, .aload 0, .getfield 1250,
  .aload 0, .getfield 1253, .iload 2, .iconst 1, .fsub, .iaload, .iaload, .aload 0, .getfield 1250, .iload 1, .iaload, .if_icmp .le 38, .aload 0, .getfield 1253,
  .iload 2, .aload 0, .getfield 1253, .iload 2, .iconst 1, .fsub, .iaload, .iastore, .iinc 2 (-1), .goto 9, .aload 0, .getfield 1253, .iload 2, .iload 1,
  .iastore, .iinc 1 1, .goto 2, .return_]
def p_282 : List Nat := [0, 1, 2, 2, 3, 4, 7, 10, 11, 12, 12, 13, 16, 17, 20, 21, 24, 25, 26, 27, 28, 29, 30, 33, 34, 35, 38, 39, 42, 43,
  44, 47, 48, 49, 50, 51, 52, 55, 58, 59, 62, 63, 64, 65, 68, 71]
/-- WakeHouseModel.upOf(I)J -/
def c_283 : List aI := [.aload 0, .iload 1, .invokevirtual 281, .istore 2, .aload 0, .iload 2, .invokevirtual 284, .istore 3, .bipush 1, .lstore 4, .bipush 0, .lstore 6, .iconst 0, .istore 8,
  .nop, .iload 8, .iload 3, .if_icmp .ge 90, .aload 0, .iload 1, .aload 0, .getfield 1253, .iload 8, .iaload, .invokevirtual 285, .istore 9, .bipush 10, .lload 6,
  .dmul, .iload 9, .i2l, .lload 4, .dmul, .dadd, .lstore 6, .iconst 10, .iload 9, .fsub, .i2l, .lload 4, .dmul, .lstore 4,
  .iload 8, .iconst 1, .fadd, .iload 3, .if_icmp .ge 57, .aload 0, .getfield 1250, .aload 0, .getfield 1253, .iload 8, .iconst 1, .fadd, .iaload, .iaload,
  .goto 58, .iload 2, .istore 10, .aload 0, .iload 1, .iload 10, .aload 0, .getfield 1250, .aload 0, .getfield 1253, .iload 8, .iaload, .iaload, .fsub,
  .invokevirtual 264, .istore 11, .bipush 10, .lload 4, .dmul, .iload 11, .i2l, .lload 6, .dmul, .dadd, .lstore 4, .iconst 10, .iload 11, .fsub,
  .i2l, .lload 6, .dmul, .lstore 6, .iinc 8 1, .goto 14, .lload 6, .bipush 100, .aload 0, .getfield 1248, .iload 3, .fsub, .invokestatic 279, .dmul,
  .lreturn]
def p_283 : List Nat := [0, 1, 2, 5, 6, 7, 8, 11, 12, 13, 15, 16, 18, 19, 21, 21, 23, 24, 27, 28, 29, 30, 33, 35, 36, 39, 41, 44, 46, 47,
  49, 50, 52, 53, 54, 56, 58, 60, 61, 62, 64, 65, 67, 69, 70, 71, 72, 75, 76, 79, 80, 83, 85, 86, 87, 88, 89, 92, 93, 95,
  96, 97, 99, 100, 103, 104, 107, 109, 110, 111, 112, 115, 117, 120, 122, 123, 125, 126, 128, 129, 130, 132, 134, 136, 137, 138, 140, 141, 143, 146,
  149, 151, 154, 155, 158, 159, 160, 163, 164]
/-- WakeHouseModel.until(I)I -/
def c_284 : List aI := [.iconst 0, .istore 2, .nop, .iload 2, .aload 0, .getfield 1248, .if_icmp .ge 18, .aload 0, .getfield 1250, .aload 0, .getfield 1253, .iload 2, .iaload, .iaload,
  .iload 1, .if_icmp .gt 18, .iinc 2 1, .goto 2, .iload 2, .ireturn]
def p_284 : List Nat := [0, 1, 2, 2, 3, 4, 7, 10, 11, 14, 15, 18, 19, 20, 21, 22, 25, 28, 31, 32]
/-- WakeHouseModel.heard(II)I -/
def c_285 : List aI := [.aload 0, .getfield 1249, .iload 2, .iaload, .iconst 1, .if_icmp .ne 16, .aload 0, .getfield 1252, .iload 2, .iaload, .iload 1, .if_icmp .ne 14, .iconst 10, .goto 31,
  .iconst 0, .goto 31, .aload 0, .iload 1, .aload 0, .getfield 1251, .iload 2, .iaload, .aload 0, .getfield 1252, .iload 2, .iaload, .aload 0, .getfield 1250,
  .iload 2, .iaload, .invokevirtual 257, .ireturn]
def p_285 : List Nat := [0, 1, 4, 5, 6, 7, 10, 11, 14, 15, 16, 17, 20, 22, 25, 26, 29, 30, 31, 32, 35, 36, 37, 38, 41, 42, 43, 44, 47, 48,
  49, 52]
/-- WakeHouseModel.woken(I)J -/
def c_286 : List aI := [.aload 0, .iload 1, .invokevirtual 249, .ifCond .eq 8, .aload 0, .iload 1, .invokevirtual 287, .goto 9, .bipush (-1), .lreturn]
def p_286 : List Nat := [0, 1, 2, 5, 8, 9, 10, 13, 16, 19]
/-- WakeHouseModel.wokenOf(I)J -/
def c_287 : List aI := [.bipush 1, .lstore 2, .iconst 0, .istore 4, .nop, .iload 4, .aload 0, .getfield 1248, .if_icmp .ge 23, .lload 2, .bipush 10, .dmul, .iconst 10, .aload 0,
  .iload 1, .iload 4, .invokevirtual 285, .fsub, .i2l, .dmul, .lstore 2, .iinc 4 1, .goto 4, .bipush 100, .aload 0, .getfield 1248, .invokestatic 279, .lload 2,
  .dsub, .lreturn]
def p_287 : List Nat := [0, 1, 2, 3, 5, 5, 7, 8, 11, 14, 15, 18, 19, 21, 22, 23, 25, 28, 29, 30, 31, 32, 35, 38, 41, 42, 45, 48, 49, 50]
/-- WakeHouseModel.cost()J -/
def c_288 : List aI := [.aload 0, .invokevirtual 289, .lreturn]
def p_288 : List Nat := [0, 1, 4]
/-- WakeHouseModel.costNow()J -/
def c_289 : List aI := [.aload 0, .invokevirtual 282, .bipush 0, .lstore 1, .iconst 0, .istore 3, .nop, .iload 3, .aload 0, .getfield 1230, .aload 0, .getfield 1218, .iaload, .if_icmp .ge 61,
  .iconst 12, .aload 0, .getfield 1218, .fmul, .iload 3, .fadd, .istore 4, .lload 1, .aload 0, .iload 3, .invokevirtual 281, .ifCond .lt 41, .aload 0, .getfield 1234,
  .iload 4, .iaload, .i2l, .bipush 100, .aload 0, .getfield 1248, .invokestatic 279, .aload 0, .iload 3, .invokevirtual 283, .dsub, .dmul, .goto 57, .aload 0,
  .getfield 1235, .iload 4, .iaload, .ifCond .ne 48, .bipush 0, .goto 57, .aload 0, .getfield 1235, .iload 4, .iaload, .i2l, .aload 0, .iload 3, .invokevirtual 287,
  .dmul, .dadd, .lstore 1, .iinc 3 1, .goto 6, .lload 1, .lreturn]
def p_289 : List Nat := [0, 1, 4, 5, 6, 7, 8, 8, 9, 10, 13, 14, 17, 18, 21, 23, 24, 27, 28, 29, 30, 32, 33, 34, 35, 38, 41, 42, 45, 47,
  48, 49, 52, 53, 56, 59, 60, 61, 64, 65, 66, 69, 70, 73, 75, 76, 79, 80, 83, 84, 87, 89, 90, 91, 92, 93, 96, 97, 98, 99,
  102, 105, 106]
/-- WakeHouseModel.worst()I -/
def c_290 : List aI := [.aload 0, .getfield 1248, .istore 1, .iconst (-2), .istore 2, .bipush 0, .lstore 3, .aload 0, .invokevirtual 291, .iconst 0, .istore 5, .nop, .iload 5, .iload 1,
  .if_icmp .ge 37, .aload 0, .iload 5, .invokevirtual 273, .aload 0, .invokevirtual 289, .lstore 6, .aload 0, .iload 1, .invokevirtual 292, .iload 2, .ifCond .lt 31, .lload 6, .lload 3,
  .lcmp, .ifCond .lt 31, .goto 35, .iload 5, .istore 2, .lload 6, .lstore 3, .iinc 5 1, .goto 11, .iload 2, .ireturn]
def p_290 : List Nat := [0, 1, 4, 5, 7, 8, 9, 10, 11, 14, 15, 17, 17, 19, 20, 23, 24, 26, 29, 30, 33, 35, 36, 37, 40, 41, 44, 46, 47, 48,
  51, 54, 56, 57, 59, 60, 63, 66, 67]
/-- WakeHouseModel.keeps()V -/
def c_291 : List aI := [.iconst 0, .istore 1, .nop, .iload 1, .aload 0, .getfield 1248, .if_icmp .ge 41, .aload 0, .getfield 1254, .iload 1, .aload 0, .getfield 1249, .iload 1, .iaload,
  .iastore, .aload 0, .getfield 1255, .iload 1, .aload 0, .getfield 1250, .iload 1, .iaload, .iastore, .aload 0, .getfield 1256, .iload 1, .aload 0, .getfield 1251,
  .iload 1, .iaload, .iastore, .aload 0, .getfield 1257, .iload 1, .aload 0, .getfield 1252, .iload 1, .iaload, .iastore, .iinc 1 1, .goto 2, .return_]
def p_291 : List Nat := [0, 1, 2, 2, 3, 4, 7, 10, 11, 14, 15, 16, 19, 20, 21, 22, 23, 26, 27, 28, 31, 32, 33, 34, 35, 38, 39, 40, 43, 44,
  45, 46, 47, 50, 51, 52, 55, 56, 57, 58, 61, 64]
/-- WakeHouseModel.putsBack(I)V -/
def c_292 : List aI := [.aload 0, .iload 1, .putfield 1248, .iconst 0, .istore 2, .nop, .iload 2, .aload 0, .getfield 1248, .if_icmp .ge 44, .aload 0, .getfield 1249, .iload 2, .aload 0,
  .getfield 1254, .iload 2, .iaload, .iastore, .aload 0, .getfield 1250, .iload 2, .aload 0, .getfield 1255, .iload 2, .iaload, .iastore, .aload 0, .getfield 1251,
  .iload 2, .aload 0, .getfield 1256, .iload 2, .iaload, .iastore, .aload 0, .getfield 1252, .iload 2, .aload 0, .getfield 1257, .iload 2, .iaload, .iastore,
  .iinc 2 1, .goto 5, .return_]
def p_292 : List Nat := [0, 1, 2, 5, 6, 7, 7, 8, 9, 12, 15, 16, 19, 20, 21, 24, 25, 26, 27, 28, 31, 32, 33, 36, 37, 38, 39, 40, 43, 44,
  45, 48, 49, 50, 51, 52, 55, 56, 57, 60, 61, 62, 63, 66, 69]
/-- WakeHouseModel.hours(I)I -/
def c_293 : List aI := [.aload 0, .invokevirtual 294, .iload 1, .iconst (-1), .if_icmp .ne 8, .aload 0, .getfield 1258, .goto 22, .iload 1, .iconst 0, .aload 0, .getfield 1258, .iconst 1, .fsub,
  .invokestatic 250, .ifCond .eq 21, .aload 0, .getfield 1259, .iload 1, .iaload, .goto 22, .iconst (-1), .ireturn]
def p_293 : List Nat := [0, 1, 4, 5, 6, 9, 10, 13, 16, 17, 18, 19, 22, 23, 24, 27, 30, 31, 34, 35, 36, 39, 40]
/-- WakeHouseModel.hoursNow()V -/
def c_294 : List aI := [.aload 0, .iconst 0, .putfield 1258, .iconst 0, .istore 1, .nop, .iload 1, .aload 0, .getfield 1230, .aload 0, .getfield 1218, .iaload, .if_icmp .ge 85, .aload 0,
  .iload 1, .invokevirtual 281, .ifCond .ge 18, .goto 82, .iconst 0, .istore 2, .nop, .iload 2, .aload 0, .getfield 1258, .if_icmp .ge 35, .aload 0, .getfield 1259, .iload 2,
  .iaload, .aload 0, .iload 1, .invokevirtual 281, .if_icmp .ge 35, .iinc 2 1, .goto 20, .nop, .iload 2, .aload 0, .getfield 1258, .if_icmp .ge 49, .aload 0, .getfield 1259,
  .iload 2, .iaload, .aload 0, .iload 1, .invokevirtual 281, .if_icmp .ne 49, .goto 82, .nop, .aload 0, .getfield 1258, .istore 3, .nop, .iload 3, .iload 2,
  .if_icmp .le 69, .aload 0, .getfield 1259, .iload 3, .aload 0, .getfield 1259, .iload 3, .iconst 1, .fsub, .iaload, .iastore, .iinc 3 (-1), .goto 53, .aload 0,
  .getfield 1259, .iload 2, .aload 0, .iload 1, .invokevirtual 281, .iastore, .aload 0, .dup, .getfield 1258, .iconst 1, .fadd, .putfield 1258, .nop, .iinc 1 1,
  .goto 5, .return_]
def p_294 : List Nat := [0, 1, 2, 5, 6, 7, 7, 8, 9, 12, 13, 16, 17, 20, 21, 22, 25, 28, 31, 32, 33, 33, 34, 35, 38, 41, 42, 45, 46, 47,
  48, 49, 52, 55, 58, 61, 61, 62, 63, 66, 69, 70, 73, 74, 75, 76, 77, 80, 83, 86, 86, 87, 90, 91, 91, 92, 93, 96, 97, 100,
  101, 102, 105, 106, 107, 108, 109, 110, 113, 116, 117, 120, 121, 122, 123, 126, 127, 128, 129, 132, 133, 134, 137, 137, 140, 143]
/-- WakeHouseModel.best(III)J -/
def c_295 : List aI := [.aload 0, .iload 1, .iload 2, .iload 3, .invokevirtual 296, .istore 4, .iload 4, .ifCond .ge 11, .iload 4, .i2l, .goto 13, .aload 0, .getfield 1261, .lreturn]
def p_295 : List Nat := [0, 1, 2, 3, 4, 7, 9, 11, 14, 16, 17, 20, 21, 24]
/-- WakeHouseModel.bests(III)I -/
def c_296 : List aI := [.aload 0, .iload 1, .invokevirtual 266, .ifCond .eq 20, .iload 2, .iconst (-1), .if_icmp .eq 11, .aload 0, .iload 2, .invokevirtual 266, .ifCond .eq 20, .nop, .iload 1, .iload 2,
  .if_icmp .eq 20, .iload 3, .iconst 0, .iconst 60, .invokestatic 250, .ifCond .ne 23, .nop, .iconst (-1), .ireturn, .aload 0, .invokevirtual 294, .aload 0, .getfield 1258, .ifCond .eq 45,
  .aload 0, .getfield 1224, .aload 0, .getfield 1218, .iaload, .ifCond .eq 45, .aload 0, .getfield 1248, .iload 2, .iconst (-1), .if_icmp .ne 41, .iconst 1, .goto 42, .iconst 2,
  .fadd, .iconst 8, .if_icmp .le 48, .nop, .iconst (-2), .ireturn, .iconst 0, .istore 4, .aload 0, .getfield 1248, .istore 5, .iconst 0, .istore 6, .nop,
  .iload 6, .aload 0, .getfield 1224, .aload 0, .getfield 1218, .iaload, .aload 0, .getfield 1258, .fmul, .if_icmp .ge 186, .aload 0, .iload 1, .iload 6, .aload 0,
  .getfield 1258, .idiv, .aload 0, .iload 6, .aload 0, .getfield 1258, .irem, .iload 3, .invokevirtual 297, .invokevirtual 267, .pop, .iconst 0, .istore 7, .nop,
  .iload 7, .iload 2, .iconst (-1), .if_icmp .ne 90, .iconst 1, .goto 98, .aload 0, .getfield 1224, .aload 0, .getfield 1218, .iaload, .aload 0, .getfield 1258, .fmul,
  .if_icmp .ge 181, .iload 2, .iconst (-1), .if_icmp .eq 117, .aload 0, .iload 2, .iload 7, .aload 0, .getfield 1258, .idiv, .aload 0, .iload 7, .aload 0, .getfield 1258,
  .irem, .iload 3, .invokevirtual 297, .invokevirtual 267, .pop, .nop, .aload 0, .invokevirtual 289, .lstore 8, .aload 0, .iload 5, .iconst 1, .fadd, .putfield 1248,
  .iload 4, .ifCond .eq 134, .lload 8, .aload 0, .getfield 1261, .lcmp, .ifCond .lt 134, .goto 178, .nop, .iconst 1, .istore 4, .aload 0, .lload 8, .putfield 1261,
  .aload 0, .getfield 1260, .iconst 0, .iload 6, .aload 0, .getfield 1258, .idiv, .iastore, .aload 0, .getfield 1260, .iconst 1, .aload 0, .iload 6, .aload 0,
  .getfield 1258, .irem, .iload 3, .invokevirtual 297, .iastore, .aload 0, .getfield 1260, .iconst 2, .iload 7, .aload 0, .getfield 1258, .idiv, .iastore, .aload 0,
  .getfield 1260, .iconst 3, .aload 0, .iload 7, .aload 0, .getfield 1258, .irem, .iload 3, .invokevirtual 297, .iastore, .nop, .iinc 7 1, .goto 83, .aload 0,
  .iload 5, .putfield 1248, .iinc 6 1, .goto 55, .iconst 0, .ireturn]
def p_296 : List Nat := [0, 1, 2, 5, 8, 9, 10, 13, 14, 15, 18, 21, 21, 22, 23, 26, 27, 28, 30, 33, 36, 36, 37, 38, 39, 42, 43, 46, 49, 50,
  53, 54, 57, 58, 61, 62, 65, 66, 67, 70, 71, 74, 75, 76, 78, 81, 81, 83, 84, 85, 87, 88, 91, 93, 94, 96, 96, 98, 99, 102,
  103, 106, 107, 108, 111, 112, 115, 116, 117, 119, 120, 123, 124, 125, 127, 128, 131, 132, 133, 136, 139, 140, 141, 143, 143, 145, 146, 147, 150, 151,
  154, 155, 158, 159, 162, 163, 164, 167, 168, 171, 172, 173, 176, 177, 178, 180, 181, 184, 185, 186, 188, 189, 192, 193, 194, 197, 200, 201, 201, 202,
  205, 207, 208, 210, 211, 212, 215, 217, 220, 222, 223, 226, 227, 230, 233, 233, 234, 236, 237, 239, 242, 243, 246, 247, 249, 250, 253, 254, 255, 256,
  259, 260, 261, 263, 264, 267, 268, 269, 272, 273, 274, 277, 278, 280, 281, 284, 285, 286, 287, 290, 291, 292, 294, 295, 298, 299, 300, 303, 304, 304,
  307, 310, 311, 313, 316, 319, 322, 323]
/-- WakeHouseModel.leadOf(II)I -/
def c_297 : List aI := [.aload 0, .getfield 1259, .iload 1, .iaload, .iload 2, .if_icmp .ge 8, .iconst 0, .goto 14, .aload 0, .getfield 1259, .iload 1, .iaload, .iload 2, .fsub,
  .ireturn]
def p_297 : List Nat := [0, 1, 4, 5, 6, 7, 10, 11, 14, 15, 18, 19, 20, 21, 22]
/-- WakeHouseModel.bestAt(IIII)I -/
def c_298 : List aI := [.iload 4, .iconst 0, .iconst 3, .invokestatic 250, .ifCond .ne 7, .iconst (-1), .ireturn, .aload 0, .iload 1, .iload 2, .iload 3, .invokevirtual 296, .istore 5, .iload 5,
  .ifCond .ge 17, .iload 5, .ireturn, .iload 4, .iconst 1, .if_icmp .le 25, .iload 2, .iconst (-1), .if_icmp .ne 25, .iconst (-1), .goto 29, .aload 0, .getfield 1260, .iload 4,
  .iaload, .ireturn]
def p_298 : List Nat := [0, 2, 3, 4, 7, 10, 11, 12, 13, 14, 15, 16, 19, 21, 23, 26, 28, 29, 31, 32, 35, 36, 37, 40, 41, 44, 45, 48, 50, 51]
/-- WakeHouseModel.fewest(I)I -/
def c_299 : List aI := [.aload 0, .iload 1, .invokevirtual 266, .ifCond .ne 6, .iconst (-1), .ireturn, .aload 0, .invokevirtual 294, .aload 0, .invokevirtual 300, .istore 2, .iconst 0, .istore 3, .nop,
  .iload 3, .iconst 4096, .if_icmp .ge 28, .aload 0, .getfield 1262, .iload 3, .iload 3, .ifCond .ne 24, .iconst 0, .goto 25, .iconst 100, .iastore, .iinc 3 1, .goto 13,
  .iconst 0, .istore 3, .nop, .iload 3, .aload 0, .getfield 1224, .aload 0, .getfield 1218, .iaload, .if_icmp .ge 100, .iconst 0, .istore 4, .nop, .iload 4,
  .aload 0, .getfield 1258, .if_icmp .ge 98, .aload 0, .iload 1, .iload 3, .aload 0, .getfield 1259, .iload 4, .iaload, .invokevirtual 301, .istore 5, .iload 5, .ifCond .ne 57,
  .goto 96, .iconst 0, .istore 6, .nop, .iload 6, .iconst 4096, .if_icmp .ge 96, .iload 6, .iload 2, .iconst (-1), .ixor, .iand, .ifCond .ne 94, .aload 0,
  .getfield 1262, .iload 6, .iaload, .iconst 1, .fadd, .aload 0, .getfield 1262, .iload 6, .iload 5, .ior, .iaload, .if_icmp .ge 94, .aload 0, .getfield 1262,
  .iload 6, .iload 5, .ior, .aload 0, .getfield 1262, .iload 6, .iaload, .iconst 1, .fadd, .iastore, .iinc 6 1, .goto 59, .iinc 4 1, .goto 40,
  .iinc 3 1, .goto 30, .aload 0, .getfield 1262, .iload 2, .iaload, .iconst 12, .if_icmp .le 108, .iconst (-2), .goto 112, .aload 0, .getfield 1262, .iload 2, .iaload,
  .ireturn]
def p_299 : List Nat := [0, 1, 2, 5, 8, 9, 10, 11, 14, 15, 18, 19, 20, 21, 21, 22, 25, 28, 29, 32, 33, 34, 37, 38, 41, 43, 44, 47, 50, 51,
  52, 52, 53, 54, 57, 58, 61, 62, 65, 66, 68, 68, 70, 71, 74, 77, 78, 79, 80, 81, 84, 86, 87, 90, 92, 94, 97, 100, 101, 103,
  103, 105, 108, 111, 113, 114, 115, 116, 117, 120, 121, 124, 126, 127, 128, 129, 130, 133, 135, 137, 138, 139, 142, 143, 146, 148, 150, 151, 152, 155,
  157, 158, 159, 160, 161, 164, 167, 170, 173, 176, 179, 180, 183, 184, 185, 187, 190, 192, 195, 196, 199, 200, 201]
/-- WakeHouseModel.withHours()I -/
def c_300 : List aI := [.iconst 0, .istore 1, .iconst 0, .istore 2, .nop, .iload 2, .aload 0, .getfield 1230, .aload 0, .getfield 1218, .iaload, .if_icmp .ge 24, .aload 0, .iload 2,
  .invokevirtual 281, .ifCond .lt 22, .iload 1, .iconst 1, .iload 2, .ishl, .ior, .istore 1, .iinc 2 1, .goto 4, .iload 1, .ireturn]
def p_300 : List Nat := [0, 1, 2, 3, 4, 4, 5, 6, 9, 10, 13, 14, 17, 18, 19, 22, 25, 26, 27, 28, 29, 30, 31, 34, 37, 38]
/-- WakeHouseModel.wakes(III)I -/
def c_301 : List aI := [.aload 0, .iload 1, .iload 3, .invokevirtual 268, .istore 4, .iconst 0, .istore 5, .iconst 0, .istore 6, .nop, .iload 6, .aload 0, .getfield 1230, .aload 0,
  .getfield 1218, .iaload, .if_icmp .ge 55, .aload 0, .iload 6, .invokevirtual 281, .iload 4, .if_icmp .lt 53, .aload 0, .iload 6, .aload 0, .getfield 1228, .iconst 9, .aload 0,
  .getfield 1218, .fmul, .iload 1, .fadd, .iaload, .iload 2, .iload 4, .invokevirtual 257, .iconst 10, .if_icmp .ne 53, .aload 0, .iload 6, .aload 0, .iload 6,
  .invokevirtual 281, .iload 4, .fsub, .invokevirtual 264, .ifCond .ne 53, .iload 5, .iconst 1, .iload 6, .ishl, .ior, .istore 5, .iinc 6 1, .goto 9, .iload 5,
  .ireturn]
def p_301 : List Nat := [0, 1, 2, 3, 6, 8, 9, 11, 12, 14, 14, 16, 17, 20, 21, 24, 25, 28, 29, 31, 34, 36, 39, 40, 42, 43, 46, 48, 49, 52,
  53, 54, 55, 56, 57, 59, 62, 64, 67, 68, 70, 71, 73, 76, 78, 79, 82, 85, 87, 88, 90, 91, 92, 94, 97, 100, 102]
/-- WakeHouseModel.deaf(I)I -/
def c_302 : List aI := [.aload 0, .iload 1, .invokevirtual 266, .ifCond .ne 6, .iconst (-1), .ireturn, .aload 0, .invokevirtual 294, .aload 0, .invokevirtual 300, .istore 2, .iconst 0, .istore 3, .nop,
  .iload 3, .aload 0, .getfield 1224, .aload 0, .getfield 1218, .iaload, .if_icmp .ge 45, .iconst 0, .istore 4, .nop, .iload 4, .aload 0, .getfield 1258, .if_icmp .ge 43,
  .iload 2, .aload 0, .iload 1, .iload 3, .aload 0, .getfield 1259, .iload 4, .iaload, .invokevirtual 301, .iconst (-1), .ixor, .iand, .istore 2, .iinc 4 1,
  .goto 23, .iinc 3 1, .goto 13, .iload 2, .ireturn]
def p_302 : List Nat := [0, 1, 2, 5, 8, 9, 10, 11, 14, 15, 18, 19, 20, 21, 21, 22, 23, 26, 27, 30, 31, 34, 35, 37, 37, 39, 40, 43, 46, 47,
  48, 49, 50, 51, 54, 56, 57, 60, 61, 62, 63, 64, 67, 70, 73, 76, 77]
/-- WakeHouseModel.walk(II)I -/
def c_303 : List aI := [.aload 0, .iload 1, .invokevirtual 249, .ifCond .eq 13, .aload 0, .iload 2, .invokevirtual 249, .ifCond .eq 13, .aload 0, .iload 1, .iload 2, .invokevirtual 304, .goto 14, .iconst (-1),
  .ireturn]
def p_303 : List Nat := [0, 1, 2, 5, 8, 9, 10, 13, 16, 17, 18, 19, 22, 25, 26]
/-- WakeHouseModel.walkOf(II)I -/
def c_304 : List aI := [.iconst 1, .aload 0, .aload 0, .getfield 1246, .iload 1, .iaload, .aload 0, .getfield 1246, .iload 2, .iaload, .invokevirtual 258, .fadd, .iconst 3, .aload 0,
  .aload 0, .getfield 1246, .iload 1, .iaload, .aload 0, .getfield 1246, .iload 2, .iaload, .invokevirtual 260, .fmul, .fadd, .ireturn]
def p_304 : List Nat := [0, 1, 2, 3, 6, 7, 8, 9, 12, 13, 14, 17, 18, 19, 20, 21, 24, 25, 26, 27, 30, 31, 32, 35, 36, 37]
/-- WakeHouseModel.shakes(II)I -/
def c_305 : List aI := [.iload 1, .iconst 1, .iconst 2, .invokestatic 250, .ifCond .eq 10, .iload 2, .iconst 0, .iconst 1, .invokestatic 250, .ifCond .ne 12, .iconst (-1), .ireturn, .aload 0, .iconst 0,
  .iload 1, .invokevirtual 306, .iload 2, .ifCond .ne 21, .aload 0, .getfield 1267, .goto 23, .aload 0, .getfield 1268, .ireturn]
def p_305 : List Nat := [0, 1, 2, 3, 6, 9, 10, 11, 12, 15, 18, 19, 20, 21, 22, 23, 26, 27, 30, 31, 34, 37, 38, 41]
/-- WakeHouseModel.shakesOn(II)V -/
def c_306 : List aI := [.aload 0, .getfield 1230, .aload 0, .getfield 1218, .iaload, .istore 3, .iload 1, .istore 4, .nop, .iload 4, .iload 3, .if_icmp .ge 19, .aload 0, .getfield 1263,
  .iload 4, .iconst (-1), .iastore, .iinc 4 1, .goto 8, .iconst 0, .istore 4, .nop, .iload 4, .iload 3, .if_icmp .ge 54, .aload 0, .getfield 1264, .iload 4,
  .iconst 0, .iastore, .iconst 0, .istore 5, .nop, .iload 5, .iload 1, .if_icmp .ge 52, .aload 0, .getfield 1263, .iload 5, .iaload, .iload 4, .if_icmp .ne 50,
  .aload 0, .getfield 1264, .iload 4, .dup2, .iaload, .iconst 1, .fadd, .iastore, .iinc 5 1, .goto 32, .iinc 4 1, .goto 21, .iconst 1, .istore 4,
  .nop, .iload 4, .ifCond .eq 65, .aload 0, .iload 1, .iload 2, .invokevirtual 307, .istore 4, .goto 56, .aload 0, .iconst 0, .putfield 1267, .aload 0, .iconst 0,
  .putfield 1268, .iconst 0, .istore 5, .nop, .iload 5, .iload 3, .if_icmp .ge 104, .aload 0, .getfield 1263, .iload 5, .iaload, .iconst (-1), .if_icmp .ne 84, .goto 102,
  .aload 0, .dup, .getfield 1267, .iconst 1, .fadd, .putfield 1267, .aload 0, .dup, .getfield 1268, .aload 0, .aload 0, .getfield 1263, .iload 5, .iaload,
  .iload 5, .invokevirtual 304, .fadd, .putfield 1268, .iinc 5 1, .goto 73, .return_]
def p_306 : List Nat := [0, 1, 4, 5, 8, 9, 10, 11, 13, 13, 15, 16, 19, 20, 23, 25, 26, 27, 30, 33, 34, 36, 36, 38, 39, 42, 43, 46, 48, 49,
  50, 51, 53, 53, 55, 56, 59, 60, 63, 65, 66, 68, 71, 72, 75, 77, 78, 79, 80, 81, 82, 85, 88, 91, 94, 95, 97, 97, 99, 102,
  103, 104, 105, 108, 110, 113, 114, 115, 118, 119, 120, 123, 124, 126, 126, 128, 129, 132, 133, 136, 138, 139, 140, 143, 146, 147, 148, 151, 152, 153,
  156, 157, 158, 161, 162, 163, 166, 168, 169, 171, 174, 175, 178, 181, 184]
/-- WakeHouseModel.oneMore(II)Z -/
def c_307 : List aI := [.aload 0, .getfield 1230, .aload 0, .getfield 1218, .iaload, .istore 3, .iconst 0, .istore 4, .nop, .iload 4, .iload 3, .if_icmp .ge 40, .aload 0, .getfield 1265,
  .iload 4, .iload 4, .iload 1, .if_icmp .lt 30, .aload 0, .getfield 1263, .iload 4, .iaload, .iconst (-1), .if_icmp .ne 30, .aload 0, .iload 4, .invokevirtual 308, .ifCond .eq 30,
  .iconst 0, .goto 31, .iconst 100000, .iastore, .nop, .aload 0, .getfield 1266, .iload 4, .iconst (-1), .iastore, .iinc 4 1, .goto 8, .iconst 0, .istore 4,
  .nop, .iload 4, .iload 3, .if_icmp .ge 129, .iload 1, .istore 5, .nop, .iload 5, .iload 3, .if_icmp .ge 127, .aload 0, .getfield 1265, .iload 5, .iaload,
  .iconst 100000, .if_icmp .ne 59, .goto 124, .iload 1, .istore 6, .nop, .iload 6, .iload 3, .if_icmp .ge 124, .iload 6, .iload 5, .if_icmp .eq 121, .aload 0, .getfield 1263,
  .iload 6, .iaload, .iconst (-1), .if_icmp .eq 121, .aload 0, .aload 0, .getfield 1263, .iload 6, .iaload, .iload 5, .invokevirtual 309, .ifCond .ne 83, .goto 121, .aload 0,
  .getfield 1265, .iload 5, .iaload, .aload 0, .aload 0, .getfield 1263, .iload 6, .iaload, .iload 5, .invokevirtual 304, .fadd, .aload 0, .aload 0, .getfield 1263,
  .iload 6, .iaload, .iload 6, .invokevirtual 304, .fsub, .istore 7, .iload 7, .aload 0, .getfield 1265, .iload 6, .iaload, .if_icmp .lt 111, .goto 121, .aload 0,
  .getfield 1265, .iload 6, .iload 7, .iastore, .aload 0, .getfield 1266, .iload 6, .iload 5, .iastore, .nop, .iinc 6 1, .goto 61, .nop, .iinc 5 1,
  .goto 48, .iinc 4 1, .goto 42, .iconst 100000, .istore 4, .iconst (-1), .istore 5, .iconst (-1), .istore 6, .iload 1, .istore 7, .nop, .iload 7, .iload 3,
  .if_icmp .ge 197, .aload 0, .getfield 1265, .iload 7, .iaload, .iconst 100000, .if_icmp .ne 148, .goto 194, .iconst 0, .istore 8, .nop, .iload 8, .iload 3, .if_icmp .ge 194,
  .aload 0, .getfield 1264, .iload 8, .iaload, .iload 2, .if_icmp .eq 191, .aload 0, .iload 8, .iload 7, .invokevirtual 309, .ifCond .eq 191, .aload 0, .getfield 1265, .iload 7,
  .iaload, .aload 0, .iload 8, .iload 7, .invokevirtual 304, .fadd, .iload 4, .if_icmp .lt 177, .goto 191, .aload 0, .getfield 1265, .iload 7, .iaload, .aload 0,
  .iload 8, .iload 7, .invokevirtual 304, .fadd, .istore 4, .iload 8, .istore 5, .iload 7, .istore 6, .nop, .iinc 8 1, .goto 150, .nop, .iinc 7 1,
  .goto 137, .iload 5, .iconst (-1), .if_icmp .ne 202, .iconst 0, .freturn, .aload 0, .getfield 1264, .iload 5, .dup2, .iaload, .iconst 1, .fadd, .iastore,
  .iload 5, .istore 7, .iload 6, .istore 8, .nop, .iload 8, .iconst (-1), .if_icmp .eq 236, .aload 0, .getfield 1263, .iload 8, .iaload, .istore 9, .aload 0,
  .getfield 1263, .iload 8, .iload 7, .iastore, .iload 9, .istore 7, .aload 0, .getfield 1266, .iload 8, .iaload, .istore 8, .goto 214, .iconst 1, .freturn]
def p_307 : List Nat := [0, 1, 4, 5, 8, 9, 10, 11, 13, 13, 15, 16, 19, 20, 23, 25, 27, 28, 31, 32, 35, 37, 38, 39, 42, 43, 45, 48, 51, 52,
  55, 58, 59, 59, 60, 63, 65, 66, 67, 70, 73, 74, 76, 76, 78, 79, 82, 83, 85, 85, 87, 88, 91, 92, 95, 97, 98, 101, 104, 107,
  108, 110, 110, 112, 113, 116, 118, 120, 123, 124, 127, 129, 130, 131, 134, 135, 136, 139, 141, 142, 144, 147, 150, 153, 154, 157, 159, 160, 161, 162,
  165, 167, 168, 170, 173, 174, 175, 176, 179, 181, 182, 184, 187, 188, 190, 192, 193, 196, 198, 199, 202, 205, 206, 209, 211, 213, 214, 215, 218, 220,
  222, 223, 223, 226, 229, 229, 232, 235, 238, 241, 244, 246, 247, 249, 250, 252, 253, 255, 255, 257, 258, 261, 262, 265, 267, 268, 271, 274, 277, 278,
  280, 280, 282, 283, 286, 287, 290, 292, 293, 294, 297, 298, 300, 302, 305, 308, 309, 312, 314, 315, 316, 318, 320, 323, 324, 326, 329, 332, 333, 336,
  338, 339, 340, 342, 344, 347, 348, 350, 352, 354, 356, 358, 358, 361, 364, 364, 367, 370, 372, 373, 376, 377, 378, 379, 382, 384, 385, 386, 387, 388,
  389, 391, 393, 395, 397, 397, 399, 400, 403, 404, 407, 409, 410, 412, 413, 416, 418, 420, 421, 423, 425, 426, 429, 431, 432, 434, 437, 438]
/-- WakeHouseModel.isFirst(I)Z -/
def c_308 : List aI := [.iconst 0, .istore 2, .iconst 0, .istore 3, .nop, .iload 3, .iload 1, .if_icmp .ge 15, .aload 0, .iload 3, .invokevirtual 281, .ifCond .lt 13, .iinc 2 1, .iinc 3 1,
  .goto 4, .aload 0, .iload 1, .invokevirtual 281, .ifCond .lt 24, .iload 2, .iconst 8, .if_icmp .ge 24, .iconst 1, .goto 25, .iconst 0, .freturn]
def p_308 : List Nat := [0, 1, 2, 3, 4, 4, 5, 6, 9, 10, 11, 14, 17, 20, 23, 26, 27, 28, 31, 34, 35, 37, 40, 41, 44, 45]
/-- WakeHouseModel.canShake(II)Z -/
def c_309 : List aI := [.iload 1, .iload 2, .if_icmp .eq 25, .aload 0, .iload 1, .invokevirtual 308, .ifCond .eq 25, .aload 0, .iload 2, .invokevirtual 308, .ifCond .eq 25, .aload 0, .iload 1, .invokevirtual 281,
  .aload 0, .iload 1, .iload 2, .invokevirtual 304, .fadd, .aload 0, .iload 2, .invokevirtual 281, .if_icmp .gt 25, .iconst 1, .goto 26, .iconst 0, .freturn]
def p_309 : List Nat := [0, 1, 2, 5, 6, 7, 10, 13, 14, 15, 18, 21, 22, 23, 26, 27, 28, 29, 32, 33, 34, 35, 38, 41, 42, 45, 46]
/-- WakeHouseModel.shaker(II)I -/
def c_310 : List aI := [.iload 1, .iconst 1, .iconst 2, .invokestatic 250, .ifCond .eq 9, .aload 0, .iload 2, .invokevirtual 249, .ifCond .ne 11, .iconst (-1), .ireturn, .aload 0, .iload 1, .invokevirtual 311,
  .aload 0, .getfield 1263, .iload 2, .iaload, .iconst (-1), .if_icmp .ne 22, .iconst (-2), .goto 26, .aload 0, .getfield 1263, .iload 2, .iaload, .ireturn]
def p_310 : List Nat := [0, 1, 2, 3, 6, 9, 10, 11, 14, 17, 18, 19, 20, 21, 24, 25, 28, 29, 30, 31, 34, 36, 39, 40, 43, 44, 45]
/-- WakeHouseModel.shakesAll(I)V -/
def c_311 : List aI := [.aload 0, .iconst 0, .iload 1, .invokevirtual 306, .aload 0, .getfield 1267, .istore 2, .aload 0, .getfield 1268, .istore 3, .iconst 0, .istore 4, .nop, .iload 4,
  .aload 0, .getfield 1230, .aload 0, .getfield 1218, .iaload, .if_icmp .ge 94, .iconst 0, .istore 5, .iconst 0, .istore 6, .nop, .iload 6, .aload 0, .getfield 1230,
  .aload 0, .getfield 1218, .iaload, .if_icmp .ge 85, .iload 5, .ifCond .ne 85, .iconst 0, .istore 7, .iconst 0, .istore 8, .nop, .iload 8, .iload 4, .if_icmp .ge 51,
  .aload 0, .getfield 1263, .iload 8, .iaload, .iload 6, .if_icmp .ne 49, .iinc 7 1, .iinc 8 1, .goto 38, .iload 7, .iload 1, .if_icmp .eq 83, .aload 0, .iload 6,
  .iload 4, .invokevirtual 309, .ifCond .ne 60, .goto 83, .aload 0, .getfield 1263, .iload 4, .iload 6, .iastore, .aload 0, .iload 4, .iconst 1, .fadd, .iload 1,
  .invokevirtual 306, .aload 0, .getfield 1267, .iload 2, .if_icmp .ne 81, .aload 0, .getfield 1268, .iload 3, .if_icmp .ne 81, .iconst 1, .goto 82, .iconst 0, .istore 5, .iinc 6 1,
  .goto 24, .iload 5, .ifCond .ne 92, .aload 0, .getfield 1263, .iload 4, .iconst (-1), .iastore, .iinc 4 1, .goto 12, .aload 0, .aload 0, .getfield 1230, .aload 0,
  .getfield 1218, .iaload, .iload 1, .invokevirtual 306, .return_]
def p_311 : List Nat := [0, 1, 2, 3, 6, 7, 10, 11, 12, 15, 16, 17, 19, 19, 21, 22, 25, 26, 29, 30, 33, 34, 36, 37, 39, 39, 41, 42, 45, 46,
  49, 50, 53, 55, 58, 59, 61, 62, 64, 64, 66, 68, 71, 72, 75, 77, 78, 80, 83, 86, 89, 92, 94, 95, 98, 99, 101, 103, 106, 109,
  112, 113, 116, 118, 120, 121, 122, 124, 125, 126, 127, 130, 131, 134, 135, 138, 139, 142, 143, 146, 147, 150, 151, 153, 156, 159, 161, 164, 165, 168,
  170, 171, 172, 175, 178, 179, 180, 183, 184, 187, 188, 189, 192]
/-- WakeHouseModel.twice(IIII)J -/
def c_312 : List aI := [.aload 0, .iload 1, .iload 2, .iload 3, .iload 4, .invokevirtual 313, .lreturn]
def p_312 : List Nat := [0, 1, 2, 3, 4, 6, 9]
/-- WakeHouseModel.twiceBest(IIII)J -/
def c_313 : List aI := [.aload 0, .iload 1, .invokevirtual 249, .ifCond .eq 32, .iload 2, .invokestatic 255, .ifCond .eq 32, .iload 3, .iconst 1, .iconst 3, .invokestatic 250, .ifCond .eq 32, .iload 4, .iconst 0,
  .iconst 30, .invokestatic 250, .ifCond .eq 32, .aload 0, .iload 1, .invokevirtual 281, .ifCond .lt 32, .aload 0, .iload 1, .invokevirtual 281, .iload 4, .fsub, .ifCond .lt 32, .iload 4,
  .iconst 1, .fadd, .iload 3, .if_icmp .ge 35, .nop, .bipush (-1), .lreturn, .aload 0, .iload 1, .invokevirtual 281, .iload 4, .fsub, .istore 5, .bipush (-1),
  .lstore 6, .iconst 0, .istore 8, .nop, .iload 8, .iload 4, .if_icmp .gt 132, .iload 3, .iconst 1, .if_icmp .le 56, .iload 8, .iconst 1, .fadd, .goto 57,
  .iload 4, .istore 9, .nop, .iload 9, .iload 4, .if_icmp .gt 130, .iload 3, .iconst 2, .if_icmp .le 69, .iload 9, .iconst 1, .fadd, .goto 70, .iload 4,
  .istore 10, .nop, .iload 10, .iload 4, .if_icmp .gt 128, .aload 0, .getfield 1269, .iconst 0, .iload 5, .iload 8, .fadd, .iastore, .aload 0, .getfield 1269,
  .iconst 1, .iload 5, .iload 9, .fadd, .iastore, .aload 0, .getfield 1269, .iconst 2, .iload 5, .iload 10, .fadd, .iastore, .aload 0, .iload 1,
  .iload 2, .iload 3, .invokevirtual 314, .lstore 11, .lload 11, .lload 6, .lcmp, .ifCond .gt 107, .goto 125, .lload 11, .lstore 6, .iconst 0, .istore 13, .nop,
  .iload 13, .iconst 3, .if_icmp .ge 125, .aload 0, .getfield 1270, .iload 13, .aload 0, .getfield 1269, .iload 13, .iaload, .iastore, .iinc 13 1, .goto 111, .nop,
  .iinc 10 1, .goto 71, .iinc 9 1, .goto 58, .iinc 8 1, .goto 45, .lload 6, .lreturn]
def p_313 : List Nat := [0, 1, 2, 5, 8, 9, 12, 15, 16, 17, 18, 21, 24, 26, 27, 29, 32, 35, 36, 37, 40, 43, 44, 45, 48, 50, 51, 54, 56, 57,
  58, 59, 62, 62, 65, 66, 67, 68, 71, 73, 74, 76, 79, 81, 82, 84, 84, 86, 88, 91, 92, 93, 96, 98, 99, 100, 103, 105, 107, 107,
  109, 111, 114, 115, 116, 119, 121, 122, 123, 126, 128, 130, 130, 132, 134, 137, 138, 141, 142, 144, 146, 147, 148, 149, 152, 153, 155, 157, 158, 159,
  160, 163, 164, 166, 168, 169, 170, 171, 172, 173, 174, 177, 179, 181, 183, 184, 187, 190, 192, 194, 195, 197, 197, 199, 200, 203, 204, 207, 209, 210,
  213, 215, 216, 217, 220, 223, 223, 226, 229, 232, 235, 238, 241, 243]
/-- WakeHouseModel.upBy(III)J -/
def c_314 : List aI := [.bipush 1, .lstore 4, .bipush 0, .lstore 6, .iconst 0, .istore 8, .nop, .iload 8, .iload 3, .if_icmp .ge 83, .aload 0, .iload 1, .iload 2, .aload 0,
  .getfield 1246, .iload 1, .iaload, .aload 0, .getfield 1269, .iload 8, .iaload, .invokevirtual 257, .istore 9, .bipush 10, .lload 6, .dmul, .iload 9, .i2l,
  .lload 4, .dmul, .dadd, .lstore 6, .iconst 10, .iload 9, .fsub, .i2l, .lload 4, .dmul, .lstore 4, .iload 8, .iconst 1, .fadd,
  .iload 3, .if_icmp .ge 51, .aload 0, .getfield 1269, .iload 8, .iconst 1, .fadd, .iaload, .goto 54, .aload 0, .iload 1, .invokevirtual 281, .istore 10, .aload 0,
  .iload 1, .iload 10, .aload 0, .getfield 1269, .iload 8, .iaload, .fsub, .invokevirtual 264, .istore 11, .bipush 10, .lload 4, .dmul, .iload 11, .i2l,
  .lload 6, .dmul, .dadd, .lstore 4, .iconst 10, .iload 11, .fsub, .i2l, .lload 6, .dmul, .lstore 6, .iinc 8 1, .goto 6, .lload 6,
  .lreturn]
def p_314 : List Nat := [0, 1, 3, 4, 6, 7, 9, 9, 11, 12, 15, 16, 17, 18, 19, 22, 23, 24, 25, 28, 30, 31, 34, 36, 39, 41, 42, 44, 45, 47,
  48, 49, 51, 53, 55, 56, 57, 59, 60, 62, 64, 65, 66, 67, 70, 71, 74, 76, 77, 78, 79, 82, 83, 84, 87, 89, 90, 91, 93, 94,
  97, 99, 100, 101, 104, 106, 109, 111, 112, 114, 115, 117, 118, 119, 121, 123, 125, 126, 127, 129, 130, 132, 135, 138, 140]
/-- WakeHouseModel.twiceAt(IIIII)I -/
def c_315 : List aI := [.aload 0, .iload 1, .iload 2, .iload 3, .iload 4, .invokevirtual 313, .bipush 0, .lcmp, .ifCond .lt 16, .iload 5, .iconst 0, .iload 3, .iconst 1, .fsub,
  .invokestatic 250, .ifCond .ne 18, .iconst (-1), .goto 22, .aload 0, .getfield 1270, .iload 5, .iaload, .ireturn]
def p_315 : List Nat := [0, 1, 2, 3, 4, 6, 9, 10, 11, 14, 16, 17, 18, 19, 20, 23, 26, 27, 30, 31, 34, 36, 37]
/-- WakeHouseModel.swaps(I)I -/
def c_316 : List aI := [.iload 1, .iconst 0, .iconst 99, .invokestatic 250, .ifCond .eq 9, .aload 0, .iload 1, .invokevirtual 317, .goto 10, .iconst (-1), .ireturn]
def p_316 : List Nat := [0, 1, 2, 4, 7, 10, 11, 12, 15, 18, 19]
/-- WakeHouseModel.swapsNow(I)I -/
def c_317 : List aI := [.aload 0, .iload 1, .invokevirtual 318, .ifCond .eq 6, .iconst 0, .ireturn, .aload 0, .getfield 1224, .aload 0, .getfield 1218, .iaload, .istore 2, .iconst 1, .istore 3,
  .nop, .iload 3, .iconst 3, .if_icmp .ge 71, .iconst 0, .istore 4, .nop, .iload 4, .iload 2, .if_icmp .ge 69, .iload 4, .iconst 1, .fadd, .istore 5,
  .nop, .iload 5, .iload 2, .if_icmp .ge 67, .aload 0, .iload 4, .iload 5, .invokevirtual 277, .iload 3, .iconst 1, .if_icmp .ne 43, .aload 0, .iload 1, .invokevirtual 318,
  .goto 46, .aload 0, .iload 1, .invokevirtual 319, .istore 6, .aload 0, .iload 4, .iload 5, .invokevirtual 277, .iload 6, .ifCond .ne 54, .goto 65, .aload 0, .getfield 1271,
  .iconst 0, .iconst 100, .iload 4, .fmul, .iload 5, .fadd, .iastore, .iload 3, .ireturn, .iinc 5 1, .goto 28, .iinc 4 1, .goto 20, .iinc 3 1,
  .goto 14, .iconst (-2), .ireturn]
def p_317 : List Nat := [0, 1, 2, 5, 8, 9, 10, 11, 14, 15, 18, 19, 20, 21, 22, 22, 23, 24, 27, 28, 30, 30, 32, 33, 36, 38, 39, 40, 42, 42,
  44, 45, 48, 49, 51, 53, 56, 57, 58, 61, 62, 63, 66, 69, 70, 71, 74, 76, 77, 79, 81, 84, 86, 89, 92, 93, 96, 97, 99, 101,
  102, 104, 105, 106, 107, 108, 111, 114, 117, 120, 123, 126, 128]
/-- WakeHouseModel.isCheap(I)Z -/
def c_318 : List aI := [.aload 0, .invokevirtual 289, .iload 1, .i2l, .bipush 100, .aload 0, .getfield 1248, .invokestatic 279, .dmul, .lcmp, .ifCond .gt 13, .iconst 1, .goto 14, .iconst 0,
  .freturn]
def p_318 : List Nat := [0, 1, 4, 5, 6, 9, 10, 13, 16, 17, 18, 21, 22, 25, 26]
/-- WakeHouseModel.secondSwap(I)Z -/
def c_319 : List aI := [.aload 0, .getfield 1224, .aload 0, .getfield 1218, .iaload, .istore 2, .iconst 0, .istore 3, .nop, .iload 3, .iload 2, .if_icmp .ge 50, .iload 3, .iconst 1,
  .fadd, .istore 4, .nop, .iload 4, .iload 2, .if_icmp .ge 48, .aload 0, .iload 3, .iload 4, .invokevirtual 277, .aload 0, .iload 1, .invokevirtual 318, .istore 5,
  .aload 0, .iload 3, .iload 4, .invokevirtual 277, .iload 5, .ifCond .ne 35, .goto 46, .aload 0, .getfield 1271, .iconst 1, .iconst 100, .iload 3, .fmul, .iload 4,
  .fadd, .iastore, .iconst 1, .freturn, .iinc 4 1, .goto 16, .iinc 3 1, .goto 8, .iconst 0, .freturn]
def p_319 : List Nat := [0, 1, 4, 5, 8, 9, 10, 11, 12, 12, 13, 14, 17, 18, 19, 20, 22, 22, 24, 25, 28, 29, 30, 32, 35, 36, 37, 40, 42, 43,
  44, 46, 49, 51, 54, 57, 58, 61, 62, 64, 65, 66, 68, 69, 70, 71, 72, 75, 78, 81, 84, 85]
/-- WakeHouseModel.swapAt(II)I -/
def c_320 : List aI := [.iload 1, .iconst 0, .iconst 99, .invokestatic 250, .ifCond .ne 7, .iconst (-1), .ireturn, .aload 0, .iload 1, .invokevirtual 317, .istore 3, .iload 2, .iconst 0, .iload 3,
  .iconst 1, .fsub, .invokestatic 250, .ifCond .eq 23, .aload 0, .getfield 1271, .iload 2, .iaload, .goto 24, .iconst (-1), .ireturn]
def p_320 : List Nat := [0, 1, 2, 4, 7, 10, 11, 12, 13, 14, 17, 18, 19, 20, 21, 22, 23, 26, 29, 30, 33, 34, 35, 38, 39]
/-- WakeHouseModel.worth(I)J -/
def c_321 : List aI := [.aload 0, .iload 1, .invokevirtual 249, .ifCond .eq 8, .aload 0, .iload 1, .invokevirtual 322, .goto 9, .bipush (-1000000000000000000), .lreturn]
def p_321 : List Nat := [0, 1, 2, 5, 8, 9, 10, 13, 16, 19]
/-- WakeHouseModel.worthOf(I)J -/
def c_322 : List aI := [.aload 0, .getfield 1247, .iload 1, .baload, .istore 2, .aload 0, .getfield 1247, .iload 1, .iconst 0, .bastore, .aload 0, .invokevirtual 289, .lstore 3, .aload 0,
  .getfield 1247, .iload 1, .iconst 1, .bastore, .aload 0, .invokevirtual 289, .lstore 5, .aload 0, .getfield 1247, .iload 1, .iload 2, .bastore, .lload 3, .lload 5,
  .dsub, .lreturn]
def p_322 : List Nat := [0, 1, 4, 5, 6, 7, 8, 11, 12, 13, 14, 15, 18, 19, 20, 23, 24, 25, 26, 27, 30, 32, 33, 36, 37, 38, 39, 40, 42, 43]
/-- WakeHouseModel.whose(I)I -/
def c_323 : List aI := [.iload 1, .iconst 0, .iconst 12, .invokestatic 250, .ifCond .ne 7, .iconst (-1), .ireturn, .iconst 0, .istore 2, .iconst 0, .istore 3, .nop, .iload 3, .iload 1,
  .if_icmp .ge 63, .iconst (-1), .istore 4, .bipush 0, .lstore 5, .iconst 0, .istore 7, .nop, .iload 7, .aload 0, .getfield 1230, .aload 0, .getfield 1218, .iaload,
  .if_icmp .ge 52, .iload 2, .iload 7, .ishr, .iconst 1, .iand, .iconst 1, .if_icmp .ne 37, .goto 50, .aload 0, .iload 7, .invokevirtual 322, .lstore 8, .lload 8,
  .lload 5, .lcmp, .ifCond .gt 46, .goto 50, .iload 7, .istore 4, .lload 8, .lstore 5, .iinc 7 1, .goto 21, .iload 4, .iconst (-1), .if_icmp .eq 61, .iload 2,
  .iconst 1, .iload 4, .ishl, .ior, .istore 2, .iinc 3 1, .goto 11, .iload 2, .ireturn]
def p_323 : List Nat := [0, 1, 2, 4, 7, 10, 11, 12, 13, 14, 15, 16, 16, 17, 18, 21, 22, 24, 25, 27, 28, 30, 30, 32, 33, 36, 37, 40, 41, 44,
  45, 47, 48, 49, 50, 51, 54, 57, 58, 60, 63, 65, 67, 69, 70, 73, 76, 78, 80, 82, 84, 87, 90, 92, 93, 96, 97, 98, 100, 101,
  102, 103, 106, 109, 110]
/-- WakeHouseModel.round(I)I -/
def c_324 : List aI := [.iload 1, .iconst 0, .iconst 60, .invokestatic 250, .ifCond .eq 9, .aload 0, .iload 1, .invokevirtual 325, .goto 10, .iconst (-1), .ireturn]
def p_324 : List Nat := [0, 1, 2, 4, 7, 10, 11, 12, 15, 18, 19]
/-- WakeHouseModel.roundBy(I)I -/
def c_325 : List aI := [.aload 0, .iconst 0, .putfield 1272, .iconst 0, .istore 2, .nop, .iload 2, .aload 0, .getfield 1230, .aload 0, .getfield 1218, .iaload, .if_icmp .ge 44, .aload 0,
  .getfield 1272, .iconst 8, .if_icmp .ge 44, .aload 0, .iload 2, .invokevirtual 281, .ifCond .ge 22, .goto 41, .aload 0, .getfield 1273, .aload 0, .getfield 1272, .iload 2, .iastore,
  .aload 0, .getfield 1274, .aload 0, .getfield 1272, .aload 0, .getfield 1272, .iastore, .aload 0, .dup, .getfield 1272, .iconst 1, .fadd, .putfield 1272, .nop,
  .iinc 2 1, .goto 5, .nop, .iconst (-2), .istore 2, .iconst 1, .istore 3, .nop, .iload 3, .ifCond .eq 91, .aload 0, .iload 1, .invokevirtual 326, .istore 4,
  .iload 4, .ifCond .lt 86, .iload 2, .ifCond .lt 63, .iload 4, .iload 2, .if_icmp .ge 86, .nop, .iload 4, .istore 2, .iconst 0, .istore 5, .nop, .iload 5,
  .aload 0, .getfield 1272, .if_icmp .ge 86, .aload 0, .getfield 1275, .iload 5, .aload 0, .getfield 1273, .aload 0, .getfield 1274, .iload 5, .iaload, .iaload, .iastore,
  .iinc 5 1, .goto 68, .nop, .aload 0, .invokevirtual 327, .istore 3, .goto 49, .iload 2, .ireturn]
def p_325 : List Nat := [0, 1, 2, 5, 6, 7, 7, 8, 9, 12, 13, 16, 17, 20, 21, 24, 26, 29, 30, 31, 34, 37, 40, 41, 44, 45, 48, 49, 50, 51,
  54, 55, 58, 59, 62, 63, 64, 65, 68, 69, 70, 73, 73, 76, 79, 79, 81, 82, 83, 84, 84, 85, 88, 89, 90, 93, 95, 97, 100, 101,
  104, 106, 107, 110, 110, 112, 113, 114, 116, 116, 118, 119, 122, 125, 126, 129, 131, 132, 135, 136, 139, 141, 142, 143, 144, 147, 150, 150, 151, 154,
  155, 158, 159]
/-- WakeHouseModel.roundDone(I)I -/
def c_326 : List aI := [.iconst 0, .istore 2, .iconst 0, .istore 3, .iconst 0, .istore 4, .nop, .iload 4, .aload 0, .getfield 1272, .if_icmp .ge 63, .aload 0, .getfield 1273, .aload 0,
  .getfield 1274, .iload 4, .iaload, .iaload, .istore 5, .aload 0, .getfield 1226, .iconst 12, .aload 0, .getfield 1218, .fmul, .aload 0, .getfield 1246, .iload 5,
  .iaload, .fadd, .iaload, .istore 6, .iload 2, .iload 6, .iload 3, .fsub, .invokestatic 259, .fadd, .istore 2, .iload 6, .istore 3, .iload 2,
  .aload 0, .iload 5, .invokevirtual 281, .iload 1, .fsub, .if_icmp .ge 54, .aload 0, .iload 5, .invokevirtual 281, .iload 1, .fsub, .istore 2, .iload 2, .aload 0,
  .iload 5, .invokevirtual 281, .if_icmp .le 61, .iconst (-2), .ireturn, .iinc 4 1, .goto 6, .iload 2, .ireturn]
def p_326 : List Nat := [0, 1, 2, 3, 4, 5, 7, 7, 9, 10, 13, 16, 17, 20, 21, 24, 26, 27, 28, 30, 31, 34, 36, 37, 40, 41, 42, 45, 47, 48,
  49, 50, 52, 53, 55, 56, 57, 60, 61, 62, 64, 65, 66, 67, 69, 72, 73, 74, 77, 78, 80, 83, 84, 85, 86, 87, 88, 90, 93, 96,
  98, 99, 102, 105, 106]
/-- WakeHouseModel.nextOrder()Z -/
def c_327 : List aI := [.aload 0, .getfield 1272, .iconst 2, .fsub, .istore 1, .nop, .iload 1, .ifCond .lt 21, .aload 0, .getfield 1274, .iload 1, .iaload, .aload 0, .getfield 1274,
  .iload 1, .iconst 1, .fadd, .iaload, .if_icmp .le 21, .iinc 1 (-1), .goto 5, .iload 1, .ifCond .ge 25, .iconst 0, .freturn, .aload 0, .getfield 1272, .iconst 1,
  .fsub, .istore 2, .nop, .aload 0, .getfield 1274, .iload 2, .iaload, .aload 0, .getfield 1274, .iload 1, .iaload, .if_icmp .ge 42, .iinc 2 (-1), .goto 30,
  .aload 0, .getfield 1274, .iload 1, .iaload, .istore 3, .aload 0, .getfield 1274, .iload 1, .aload 0, .getfield 1274, .iload 2, .iaload, .iastore, .aload 0,
  .getfield 1274, .iload 2, .iload 3, .iastore, .iload 1, .iconst 1, .fadd, .istore 4, .nop, .iload 4, .aload 0, .getfield 1272, .iload 1, .fadd,
  .iload 4, .fsub, .if_icmp .ge 103, .aload 0, .getfield 1274, .iload 4, .iaload, .istore 3, .aload 0, .getfield 1274, .iload 4, .aload 0, .getfield 1274, .aload 0,
  .getfield 1272, .iload 1, .fadd, .iload 4, .fsub, .iaload, .iastore, .aload 0, .getfield 1274, .aload 0, .getfield 1272, .iload 1, .fadd, .iload 4,
  .fsub, .iload 3, .iastore, .iinc 4 1, .goto 64, .iconst 1, .freturn]
def p_327 : List Nat := [0, 1, 4, 5, 6, 7, 7, 8, 11, 12, 15, 16, 17, 18, 21, 22, 23, 24, 25, 28, 31, 34, 35, 38, 39, 40, 41, 44, 45, 46,
  47, 47, 48, 51, 52, 53, 54, 57, 58, 59, 62, 65, 68, 69, 72, 73, 74, 75, 76, 79, 80, 81, 84, 85, 86, 87, 88, 91, 92, 93,
  94, 95, 96, 97, 99, 99, 101, 102, 105, 106, 107, 109, 110, 113, 114, 117, 119, 120, 121, 122, 125, 127, 128, 131, 132, 135, 136, 137, 139, 140,
  141, 142, 143, 146, 147, 150, 151, 152, 154, 155, 156, 157, 160, 163, 164]
/-- WakeHouseModel.roundAt(II)I -/
def c_328 : List aI := [.iload 1, .iconst 0, .iconst 60, .invokestatic 250, .ifCond .eq 17, .aload 0, .iload 1, .invokevirtual 325, .ifCond .lt 17, .iload 2, .iconst 0, .aload 0, .getfield 1272, .iconst 1,
  .fsub, .invokestatic 250, .ifCond .ne 19, .iconst (-1), .ireturn, .aload 0, .getfield 1275, .iload 2, .iaload, .ireturn]
def p_328 : List Nat := [0, 1, 2, 4, 7, 10, 11, 12, 15, 18, 19, 20, 21, 24, 25, 26, 29, 32, 33, 34, 35, 38, 39, 40]
/-- WakeHouseModel.morning(III)I -/
def c_329 : List aI := [.aload 0, .getfield 1276, .iconst 60, .if_icmp .eq 18, .aload 0, .iload 1, .invokevirtual 249, .ifCond .eq 18, .iload 2, .iconst 0, .iconst 6, .invokestatic 250, .ifCond .eq 18, .iload 3,
  .iconst 0, .iconst 400, .invokestatic 250, .ifCond .ne 20, .iconst (-1), .ireturn, .aload 0, .getfield 1277, .iconst 120, .aload 0, .getfield 1276, .fadd, .iconst (-1), .iastore,
  .aload 0, .getfield 1278, .iconst 120, .aload 0, .getfield 1276, .fadd, .iload 1, .iastore, .aload 0, .getfield 1279, .iconst 120, .aload 0, .getfield 1276, .fadd,
  .iload 2, .iastore, .aload 0, .getfield 1280, .iconst 120, .aload 0, .getfield 1276, .fadd, .iload 3, .iastore, .aload 0, .dup, .getfield 1276, .iconst 1,
  .fadd, .putfield 1276, .aload 0, .getfield 1276, .iconst 1, .fsub, .ireturn]
def p_329 : List Nat := [0, 1, 4, 6, 9, 10, 11, 14, 17, 18, 19, 21, 24, 27, 28, 29, 32, 35, 38, 39, 40, 41, 44, 46, 47, 50, 51, 52, 53, 54,
  57, 59, 60, 63, 64, 65, 66, 67, 70, 72, 73, 76, 77, 78, 79, 80, 83, 85, 86, 89, 90, 91, 92, 93, 94, 97, 98, 99, 102, 103,
  106, 107, 108]
/-- WakeHouseModel.annul(I)I -/
def c_330 : List aI := [.aload 0, .getfield 1276, .iconst 60, .if_icmp .eq 20, .iload 1, .iconst 0, .aload 0, .getfield 1276, .iconst 1, .fsub, .invokestatic 250, .ifCond .eq 20, .aload 0, .getfield 1277,
  .iconst 120, .iload 1, .fadd, .iaload, .iconst (-1), .if_icmp .eq 22, .iconst (-1), .ireturn, .aload 0, .getfield 1277, .iconst 120, .aload 0, .getfield 1276, .fadd,
  .iload 1, .iastore, .aload 0, .dup, .getfield 1276, .iconst 1, .fadd, .putfield 1276, .aload 0, .getfield 1276, .iconst 1, .fsub, .ireturn]
def p_330 : List Nat := [0, 1, 4, 6, 9, 10, 11, 12, 15, 16, 17, 20, 23, 24, 27, 29, 30, 31, 32, 33, 36, 37, 38, 39, 42, 44, 45, 48, 49, 50,
  51, 52, 53, 56, 57, 58, 61, 62, 65, 66, 67]
/-- WakeHouseModel.alone(IIII)I -/
def c_331 : List aI := [.aload 0, .iload 1, .invokevirtual 249, .ifCond .eq 18, .iload 2, .iconst 0, .iconst 7, .invokestatic 250, .ifCond .eq 18, .aload 0, .iload 3, .invokevirtual 332, .ifCond .eq 18, .iload 4,
  .iconst 0, .iconst 1, .invokestatic 250, .ifCond .ne 20, .iconst (-1), .ireturn, .iconst 0, .istore 5, .iconst 0, .istore 6, .nop, .iload 6, .iload 3, .if_icmp .ge 61,
  .aload 0, .iload 6, .iload 3, .invokevirtual 333, .ifCond .eq 59, .aload 0, .getfield 1278, .iconst 120, .iload 6, .fadd, .iaload, .iload 1, .if_icmp .ne 59, .iload 2,
  .iconst 7, .if_icmp .eq 52, .aload 0, .getfield 1279, .iconst 120, .iload 6, .fadd, .iaload, .iload 2, .if_icmp .ne 59, .iload 4, .ifCond .eq 58, .aload 0, .iload 6,
  .invokevirtual 334, .ifCond .eq 59, .iinc 5 1, .iinc 6 1, .goto 24, .iload 5, .ireturn]
def p_331 : List Nat := [0, 1, 2, 5, 8, 9, 10, 12, 15, 18, 19, 20, 23, 26, 28, 29, 30, 33, 36, 37, 38, 39, 41, 42, 44, 44, 46, 47, 50, 51,
  53, 54, 57, 60, 61, 64, 66, 68, 69, 70, 71, 74, 75, 77, 80, 81, 84, 86, 88, 89, 90, 91, 94, 96, 99, 100, 102, 105, 108, 111,
  114, 117, 119]
/-- WakeHouseModel.isKnown(I)Z -/
def c_332 : List aI := [.iload 1, .iconst 0, .aload 0, .getfield 1276, .invokestatic 250, .freturn]
def p_332 : List Nat := [0, 1, 2, 3, 6, 9]
/-- WakeHouseModel.counts(II)Z -/
def c_333 : List aI := [.aload 0, .getfield 1277, .iconst 120, .iload 1, .fadd, .iaload, .iconst (-1), .if_icmp .eq 10, .iconst 0, .freturn, .iload 1, .iconst 1, .fadd, .istore 3,
  .nop, .iload 3, .iload 2, .if_icmp .ge 30, .aload 0, .getfield 1277, .iconst 120, .iload 3, .fadd, .iaload, .iload 1, .if_icmp .ne 28, .iconst 0, .freturn,
  .iinc 3 1, .goto 14, .iconst 1, .freturn]
def p_333 : List Nat := [0, 1, 4, 6, 7, 8, 9, 10, 13, 14, 15, 16, 17, 18, 19, 19, 20, 21, 24, 25, 28, 30, 31, 32, 33, 34, 37, 38, 39, 42,
  45, 46]
/-- WakeHouseModel.isInTime(I)Z -/
def c_334 : List aI := [.aload 0, .aload 0, .getfield 1278, .iconst 120, .iload 1, .fadd, .iaload, .invokevirtual 281, .istore 2, .aload 0, .getfield 1280, .iconst 120, .iload 1, .fadd,
  .iaload, .iload 2, .ifCond .ge 19, .iconst 399, .goto 20, .iload 2, .if_icmp .gt 23, .iconst 1, .goto 24, .iconst 0, .freturn]
def p_334 : List Nat := [0, 1, 2, 5, 7, 8, 9, 10, 13, 14, 15, 18, 20, 21, 22, 23, 24, 27, 30, 33, 34, 37, 38, 41, 42]
/-- WakeHouseModel.mondays(II)I -/
def c_335 : List aI := [.aload 0, .iload 1, .invokevirtual 332, .ifCond .eq 14, .iload 2, .iconst 0, .iconst 3, .invokestatic 250, .ifCond .eq 14, .aload 0, .iload 1, .iload 2, .invokevirtual 336, .goto 15,
  .iconst (-1), .ireturn]
def p_335 : List Nat := [0, 1, 2, 5, 8, 9, 10, 11, 14, 17, 18, 19, 20, 23, 26, 27]
/-- WakeHouseModel.mondaysOf(II)I -/
def c_336 : List aI := [.iconst 0, .istore 3, .iconst 0, .istore 4, .nop, .iload 4, .iload 1, .if_icmp .ge 61, .aload 0, .iload 4, .iload 1, .invokevirtual 333, .ifCond .ne 14, .goto 58,
  .aload 0, .getfield 1279, .iconst 120, .iload 4, .fadd, .iaload, .ifCond .ne 23, .iconst 1, .goto 24, .iconst 0, .istore 5, .nop, .aload 0, .iload 4,
  .invokevirtual 334, .ifCond .ne 32, .iconst 1, .goto 33, .iconst 0, .istore 6, .nop, .iload 2, .ifCond .eq 56, .iload 2, .iconst 1, .if_icmp .ne 42, .iload 5, .ifCond .ne 56,
  .nop, .iload 2, .iconst 2, .if_icmp .ne 48, .iload 6, .ifCond .ne 56, .nop, .iload 2, .iconst 3, .if_icmp .ne 58, .iload 5, .ifCond .eq 58, .iload 6, .ifCond .eq 58,
  .nop, .iinc 3 1, .nop, .iinc 4 1, .goto 4, .iload 3, .ireturn]
def p_336 : List Nat := [0, 1, 2, 3, 5, 5, 7, 8, 11, 12, 14, 15, 18, 21, 24, 25, 28, 30, 32, 33, 34, 37, 38, 41, 42, 44, 44, 45, 47, 50,
  53, 54, 57, 58, 60, 60, 61, 64, 65, 66, 69, 71, 74, 74, 75, 76, 79, 81, 84, 84, 85, 86, 89, 91, 94, 96, 99, 99, 102, 102,
  105, 108, 109]
/-- WakeHouseModel.mondayWays(IZ)J -/
def c_337 : List aI := [.aload 0, .iload 1, .invokevirtual 332, .ifCond .ne 6, .bipush (-1), .lreturn, .aload 0, .iload 1, .iconst 0, .invokevirtual 336, .istore 3, .aload 0, .iload 1, .iconst 1,
  .invokevirtual 336, .istore 4, .aload 0, .iload 1, .iconst 2, .invokevirtual 336, .istore 5, .iload 2, .ifCond .ne 27, .iload 3, .iload 4, .invokestatic 338, .lreturn, .bipush 0,
  .lstore 6, .aload 0, .iload 1, .iconst 3, .invokevirtual 336, .istore 8, .nop, .iload 8, .iload 5, .if_icmp .gt 54, .lload 6, .iload 5, .iload 8, .invokestatic 338,
  .iload 3, .iload 5, .fsub, .iload 4, .iload 8, .fsub, .invokestatic 338, .dmul, .dadd, .lstore 6, .iinc 8 1, .goto 34, .lload 6, .lreturn]
def p_337 : List Nat := [0, 1, 2, 5, 8, 11, 12, 13, 14, 15, 18, 19, 20, 21, 22, 25, 27, 28, 29, 30, 33, 35, 36, 39, 40, 42, 45, 46, 47, 49,
  50, 51, 52, 55, 57, 57, 59, 61, 64, 66, 68, 70, 73, 74, 76, 77, 79, 81, 82, 85, 86, 87, 89, 92, 95, 97]
/-- WakeHouseModel.picks(II)J -/
def c_338 : List aI := [.iload 1, .ifCond .lt 5, .iload 1, .iload 0, .if_icmp .le 7, .bipush 0, .lreturn, .bipush 1, .lstore 2, .iconst 1, .istore 4, .nop, .iload 4, .iload 1,
  .if_icmp .gt 29, .lload 2, .iload 0, .iload 1, .fsub, .iload 4, .fadd, .i2l, .dmul, .iload 4, .i2l, .ldiv, .lstore 2, .iinc 4 1,
  .goto 11, .lload 2, .lreturn]
def p_338 : List Nat := [0, 1, 4, 5, 6, 9, 10, 11, 12, 13, 14, 16, 16, 18, 19, 22, 23, 24, 25, 26, 28, 29, 30, 31, 33, 34, 35, 36, 39, 42,
  43]
/-- WakeHouseModel.fire(IIZ)I -/
def c_339 : List aI := [.aload 0, .iload 1, .invokevirtual 249, .ifCond .eq 7, .iload 2, .invokestatic 255, .ifCond .ne 9, .iconst (-1), .ireturn, .aload 0, .iload 1, .iload 2, .iload 3, .invokevirtual 340,
  .iconst 1, .aload 0, .getfield 1230, .aload 0, .getfield 1218, .iaload, .ishl, .iconst 1, .fsub, .if_icmp .ne 27, .aload 0, .getfield 1281, .goto 28, .iconst (-2),
  .ireturn]
def p_339 : List Nat := [0, 1, 2, 5, 8, 9, 12, 15, 16, 17, 18, 19, 20, 21, 24, 25, 26, 29, 30, 33, 34, 35, 36, 37, 40, 41, 44, 47, 49]
/-- WakeHouseModel.cries(IIZ)I -/
def c_340 : List aI := [.iconst 1, .iload 1, .ishl, .istore 4, .aload 0, .iconst 0, .putfield 1281, .iconst 1, .istore 5, .nop, .iload 5, .ifCond .eq 91, .iload 4, .istore 6,
  .iconst 0, .istore 7, .nop, .iload 7, .aload 0, .getfield 1230, .aload 0, .getfield 1218, .iaload, .if_icmp .ge 73, .iconst 0, .istore 8, .nop, .iload 8,
  .aload 0, .getfield 1230, .aload 0, .getfield 1218, .iaload, .if_icmp .ge 71, .iload 4, .iload 8, .ishr, .iconst 1, .iand, .ifCond .eq 69, .iload 6, .iload 7,
  .ishr, .iconst 1, .iand, .iconst 1, .if_icmp .ne 48, .goto 69, .aload 0, .iload 7, .iload 2, .aload 0, .getfield 1246, .iload 8, .iaload, .iconst 0,
  .invokevirtual 257, .iload 3, .ifCond .eq 61, .iconst 1, .goto 62, .iconst 10, .if_icmp .lt 69, .iload 6, .iconst 1, .iload 7, .ishl, .ior, .istore 6, .iinc 8 1,
  .goto 26, .iinc 7 1, .goto 16, .iload 6, .iload 4, .if_icmp .eq 78, .iconst 1, .goto 79, .iconst 0, .istore 5, .iload 6, .istore 4, .iload 5, .ifCond .eq 90,
  .aload 0, .dup, .getfield 1281, .iconst 1, .fadd, .putfield 1281, .goto 9, .iload 4, .ireturn]
def p_340 : List Nat := [0, 1, 2, 3, 5, 6, 7, 10, 11, 13, 13, 15, 18, 20, 22, 23, 25, 25, 27, 28, 31, 32, 35, 36, 39, 40, 42, 42, 44, 45,
  48, 49, 52, 53, 56, 58, 60, 61, 62, 63, 66, 68, 70, 71, 72, 73, 74, 77, 80, 81, 83, 84, 85, 88, 90, 91, 92, 95, 96, 99,
  100, 103, 105, 108, 110, 111, 113, 114, 115, 117, 120, 123, 126, 129, 131, 133, 136, 137, 140, 141, 143, 145, 147, 149, 152, 153, 154, 157, 158, 159,
  162, 165, 167]
/-- WakeHouseModel.reaches(IIZ)I -/
def c_341 : List aI := [.aload 0, .iload 1, .invokevirtual 249, .ifCond .eq 13, .iload 2, .invokestatic 255, .ifCond .eq 13, .aload 0, .iload 1, .iload 2, .iload 3, .invokevirtual 340, .goto 14, .iconst (-1),
  .ireturn]
def p_341 : List Nat := [0, 1, 2, 5, 8, 9, 12, 15, 16, 17, 18, 19, 22, 25, 26]
/-- WakeHouseModel.day(II)I -/
def c_342 : List aI := [.iload 2, .iconst 0, .iconst 999, .invokestatic 250, .ifCond .eq 10, .aload 0, .iload 1, .iload 2, .invokevirtual 343, .goto 11, .iconst (-1), .ireturn]
def p_342 : List Nat := [0, 1, 2, 5, 8, 11, 12, 13, 14, 17, 20, 21]
/-- WakeHouseModel.upOn(II)I -/
def c_343 : List aI := [.aload 0, .invokevirtual 282, .iconst 0, .istore 3, .iconst 0, .istore 4, .nop, .iload 4, .aload 0, .getfield 1230, .aload 0, .getfield 1218, .iaload, .if_icmp .ge 32,
  .aload 0, .iload 4, .invokevirtual 281, .ifCond .lt 30, .aload 0, .iload 1, .iload 2, .iload 4, .invokevirtual 344, .ifCond .eq 30, .iload 3, .iconst 1, .iload 4, .ishl,
  .ior, .istore 3, .iinc 4 1, .goto 6, .iload 3, .ireturn]
def p_343 : List Nat := [0, 1, 4, 5, 6, 7, 9, 9, 11, 12, 15, 16, 19, 20, 23, 24, 26, 29, 32, 33, 34, 35, 37, 40, 43, 44, 45, 47, 48, 49,
  50, 53, 56, 57]
/-- WakeHouseModel.isUpOn(III)Z -/
def c_344 : List aI := [.aload 0, .aload 0, .iload 3, .invokevirtual 281, .invokevirtual 284, .istore 4, .iconst 0, .istore 5, .iconst 1000, .iload 2, .fmul, .iconst 40, .iload 3, .fmul,
  .fadd, .istore 6, .iconst 0, .istore 7, .nop, .iload 7, .iload 4, .if_icmp .ge 81, .iload 5, .ifCond .eq 57, .iload 1, .iload 6, .iconst 2, .iload 7,
  .fmul, .fadd, .iconst 1, .fadd, .iconst 10, .invokestatic 345, .aload 0, .iload 3, .aload 0, .getfield 1250, .aload 0, .getfield 1253, .iload 7, .iaload,
  .iaload, .aload 0, .getfield 1250, .aload 0, .getfield 1253, .iload 7, .iconst 1, .fsub, .iaload, .iaload, .fsub, .invokevirtual 264, .if_icmp .ge 57, .iconst 0,
  .istore 5, .nop, .iload 5, .ifCond .ne 78, .iload 1, .iload 6, .iconst 2, .iload 7, .fmul, .fadd, .iconst 10, .invokestatic 345, .aload 0, .iload 3,
  .aload 0, .getfield 1253, .iload 7, .iaload, .invokevirtual 285, .if_icmp .ge 78, .iconst 1, .istore 5, .nop, .iinc 7 1, .goto 18, .iload 5, .ifCond .eq 112, .iload 1,
  .iload 6, .iconst 2, .iload 4, .fmul, .fadd, .iconst 1, .fadd, .iconst 10, .invokestatic 345, .aload 0, .iload 3, .aload 0, .iload 3, .invokevirtual 281,
  .aload 0, .getfield 1250, .aload 0, .getfield 1253, .iload 4, .iconst 1, .fsub, .iaload, .iaload, .fsub, .invokevirtual 264, .if_icmp .ge 112, .iconst 0, .istore 5,
  .nop, .iload 5, .freturn]
def p_344 : List Nat := [0, 1, 2, 3, 6, 9, 11, 12, 14, 17, 18, 19, 21, 22, 23, 24, 26, 27, 29, 29, 31, 33, 36, 38, 41, 42, 44, 45, 47, 48,
  49, 50, 51, 53, 56, 57, 58, 59, 62, 63, 66, 68, 69, 70, 71, 74, 75, 78, 80, 81, 82, 83, 84, 85, 88, 91, 92, 94, 94, 96,
  99, 100, 102, 103, 105, 106, 107, 109, 112, 113, 114, 115, 118, 120, 121, 124, 127, 128, 130, 130, 133, 136, 138, 141, 142, 144, 145, 147, 148, 149,
  150, 151, 153, 156, 157, 158, 159, 160, 163, 164, 167, 168, 171, 173, 174, 175, 176, 177, 178, 181, 184, 185, 187, 187, 189]
/-- WakeHouseModel.lot(III)I -/
def c_345 : List aI := [.iload 0, .iconst 14, .invokestatic 346, .iload 1, .invokestatic 346, .iconst 1, .iushr, .iload 2, .irem, .ireturn]
def p_345 : List Nat := [0, 1, 3, 6, 7, 10, 11, 12, 13, 14]
/-- WakeHouseModel.mixed(II)I -/
def c_346 : List aI := [.iload 0, .iload 1, .ixor, .iconst 1103515245, .imul, .iconst 12345, .iadd, .istore 2, .iload 2, .iload 2, .iconst 15, .iushr, .ixor, .ireturn]
def p_346 : List Nat := [0, 1, 2, 3, 6, 7, 10, 11, 12, 13, 14, 16, 17, 18]
/-- WakeHouseModel.days(III)I -/
def c_347 : List aI := [.iload 2, .iconst 1, .iconst 50, .invokestatic 250, .ifCond .eq 16, .iload 3, .iconst (-1), .if_icmp .eq 18, .aload 0, .iload 3, .invokevirtual 249, .ifCond .eq 16, .aload 0, .iload 3,
  .invokevirtual 281, .ifCond .ge 18, .iconst (-2), .ireturn, .iconst 0, .istore 4, .iconst 0, .istore 5, .nop, .iload 5, .iload 2, .if_icmp .ge 49, .aload 0, .iload 1,
  .iload 5, .invokevirtual 343, .istore 6, .iload 3, .iconst (-1), .if_icmp .ne 39, .iload 6, .aload 0, .invokevirtual 300, .if_icmp .ne 47, .goto 46, .iload 6, .iload 3, .ishr,
  .iconst 1, .iand, .iconst 1, .if_icmp .ne 47, .iinc 4 1, .iinc 5 1, .goto 22, .iload 4, .ireturn]
def p_347 : List Nat := [0, 1, 2, 4, 7, 10, 11, 12, 15, 16, 17, 20, 23, 24, 25, 28, 31, 33, 34, 35, 37, 38, 40, 40, 42, 43, 46, 47, 48, 50,
  53, 55, 56, 57, 60, 62, 63, 66, 69, 72, 74, 75, 76, 77, 78, 79, 82, 85, 88, 91, 93]
/-- WakeHouseModel.hold(I)Z -/
def c_348 : List aI := [.iload 1, .iconst 0, .iconst 1, .invokestatic 250, .ifCond .ne 7, .iconst 0, .freturn, .aload 0, .getfield 1282, .iload 1, .aload 0, .getfield 1248, .iastore, .iconst 0,
  .istore 2, .nop, .iload 2, .aload 0, .getfield 1248, .if_icmp .ge 70, .aload 0, .getfield 1283, .iconst 8, .iload 1, .fmul, .iload 2, .fadd, .aload 0,
  .getfield 1249, .iload 2, .iaload, .iastore, .aload 0, .getfield 1284, .iconst 8, .iload 1, .fmul, .iload 2, .fadd, .aload 0, .getfield 1250, .iload 2,
  .iaload, .iastore, .aload 0, .getfield 1285, .iconst 8, .iload 1, .fmul, .iload 2, .fadd, .aload 0, .getfield 1251, .iload 2, .iaload, .iastore,
  .aload 0, .getfield 1286, .iconst 8, .iload 1, .fmul, .iload 2, .fadd, .aload 0, .getfield 1252, .iload 2, .iaload, .iastore, .iinc 2 1, .goto 15,
  .iconst 0, .istore 2, .nop, .iload 2, .iconst 12, .if_icmp .ge 102, .aload 0, .getfield 1287, .iconst 12, .iload 1, .fmul, .iload 2, .fadd, .aload 0,
  .getfield 1246, .iload 2, .iaload, .iastore, .aload 0, .getfield 1288, .iconst 12, .iload 1, .fmul, .iload 2, .fadd, .aload 0, .getfield 1247, .iload 2,
  .baload, .bastore, .iinc 2 1, .goto 72, .aload 0, .getfield 1289, .iload 1, .aload 0, .getfield 1276, .iastore, .aload 0, .iconst 120, .iconst 60, .iload 1,
  .fmul, .aload 0, .getfield 1276, .invokevirtual 349, .iconst 1, .freturn]
def p_348 : List Nat := [0, 1, 2, 3, 6, 9, 10, 11, 12, 15, 16, 17, 20, 21, 22, 23, 23, 24, 25, 28, 31, 32, 35, 37, 38, 39, 40, 41, 42, 45,
  46, 47, 48, 49, 52, 54, 55, 56, 57, 58, 59, 62, 63, 64, 65, 66, 69, 71, 72, 73, 74, 75, 76, 79, 80, 81, 82, 83, 86, 88,
  89, 90, 91, 92, 93, 96, 97, 98, 99, 102, 105, 106, 107, 107, 108, 110, 113, 114, 117, 119, 120, 121, 122, 123, 124, 127, 128, 129, 130, 131,
  134, 136, 137, 138, 139, 140, 141, 144, 145, 146, 147, 150, 153, 154, 157, 158, 159, 162, 163, 164, 166, 168, 169, 170, 171, 174, 177, 178]
/-- WakeHouseModel.copies(III)V -/
def c_349 : List aI := [.iconst 0, .istore 4, .nop, .iload 4, .iload 3, .if_icmp .ge 56, .aload 0, .getfield 1277, .iload 2, .iload 4, .fadd, .aload 0, .getfield 1277, .iload 1,
  .iload 4, .fadd, .iaload, .iastore, .aload 0, .getfield 1278, .iload 2, .iload 4, .fadd, .aload 0, .getfield 1278, .iload 1, .iload 4, .fadd,
  .iaload, .iastore, .aload 0, .getfield 1279, .iload 2, .iload 4, .fadd, .aload 0, .getfield 1279, .iload 1, .iload 4, .fadd, .iaload, .iastore,
  .aload 0, .getfield 1280, .iload 2, .iload 4, .fadd, .aload 0, .getfield 1280, .iload 1, .iload 4, .fadd, .iaload, .iastore, .iinc 4 1, .goto 2,
  .return_]
def p_349 : List Nat := [0, 1, 3, 3, 5, 6, 9, 10, 13, 14, 16, 17, 18, 21, 22, 24, 25, 26, 27, 28, 31, 32, 34, 35, 36, 39, 40, 42, 43, 44,
  45, 46, 49, 50, 52, 53, 54, 57, 58, 60, 61, 62, 63, 64, 67, 68, 70, 71, 72, 75, 76, 78, 79, 80, 81, 84, 87]
/-- WakeHouseModel.restore(I)Z -/
def c_350 : List aI := [.iload 1, .iconst 0, .iconst 1, .invokestatic 250, .ifCond .eq 10, .aload 0, .getfield 1282, .iload 1, .iaload, .ifCond .ge 12, .iconst 0, .freturn, .aload 0, .aload 0,
  .getfield 1282, .iload 1, .iaload, .putfield 1248, .iconst 0, .istore 2, .nop, .iload 2, .aload 0, .getfield 1248, .if_icmp .ge 75, .aload 0, .getfield 1249, .iload 2,
  .aload 0, .getfield 1283, .iconst 8, .iload 1, .fmul, .iload 2, .fadd, .iaload, .iastore, .aload 0, .getfield 1250, .iload 2, .aload 0, .getfield 1284,
  .iconst 8, .iload 1, .fmul, .iload 2, .fadd, .iaload, .iastore, .aload 0, .getfield 1251, .iload 2, .aload 0, .getfield 1285, .iconst 8, .iload 1,
  .fmul, .iload 2, .fadd, .iaload, .iastore, .aload 0, .getfield 1252, .iload 2, .aload 0, .getfield 1286, .iconst 8, .iload 1, .fmul, .iload 2,
  .fadd, .iaload, .iastore, .iinc 2 1, .goto 20, .iconst 0, .istore 2, .nop, .iload 2, .iconst 12, .if_icmp .ge 107, .aload 0, .getfield 1246, .iload 2,
  .aload 0, .getfield 1287, .iconst 12, .iload 1, .fmul, .iload 2, .fadd, .iaload, .iastore, .aload 0, .getfield 1247, .iload 2, .aload 0, .getfield 1288,
  .iconst 12, .iload 1, .fmul, .iload 2, .fadd, .baload, .bastore, .iinc 2 1, .goto 77, .aload 0, .aload 0, .getfield 1289, .iload 1, .iaload,
  .putfield 1276, .aload 0, .iconst 60, .iload 1, .fmul, .iconst 120, .aload 0, .getfield 1276, .invokevirtual 349, .iconst 1, .freturn]
def p_350 : List Nat := [0, 1, 2, 3, 6, 9, 10, 13, 14, 15, 18, 19, 20, 21, 22, 25, 26, 27, 30, 31, 32, 32, 33, 34, 37, 40, 41, 44, 45, 46,
  49, 51, 52, 53, 54, 55, 56, 57, 58, 61, 62, 63, 66, 68, 69, 70, 71, 72, 73, 74, 75, 78, 79, 80, 83, 85, 86, 87, 88, 89,
  90, 91, 92, 95, 96, 97, 100, 102, 103, 104, 105, 106, 107, 108, 111, 114, 115, 116, 116, 117, 119, 122, 123, 126, 127, 128, 131, 133, 134, 135,
  136, 137, 138, 139, 140, 143, 144, 145, 148, 150, 151, 152, 153, 154, 155, 156, 159, 162, 163, 164, 167, 168, 169, 172, 173, 175, 176, 177, 179, 180,
  183, 186, 187]
/-- WakeHouseModel.count(I)I -/
def c_351 : List aI := [.iconst 0, .istore 2, .iload 1, .tableswitch 74 0 7 #[4, 10, 16, 22, 25, 28, 53, 56], .aload 0, .getfield 1224, .aload 0, .getfield 1218, .iaload, .ireturn, .aload 0, .getfield 1227, .aload 0, .getfield 1218,
  .iaload, .ireturn, .aload 0, .getfield 1230, .aload 0, .getfield 1218, .iaload, .ireturn, .aload 0, .getfield 1248, .ireturn, .aload 0, .getfield 1276, .ireturn,
  .iconst 0, .istore 3, .nop, .iload 3, .aload 0, .getfield 1230, .aload 0, .getfield 1218, .iaload, .if_icmp .ge 51, .iload 2, .aload 0, .getfield 1247, .iload 3,
  .baload, .ifCond .eq 46, .iconst 1, .goto 47, .iconst 0, .fadd, .istore 2, .iinc 3 1, .goto 30, .iload 2, .ireturn, .aload 0, .getfield 1202, .ireturn,
  .aload 0, .getfield 1282, .iconst 0, .iaload, .ifCond .ge 63, .iconst 0, .goto 64, .iconst 1, .aload 0, .getfield 1282, .iconst 1, .iaload, .ifCond .ge 71, .iconst 0,
  .goto 72, .iconst 1, .fadd, .ireturn, .iconst (-1), .ireturn]
def p_351 : List Nat := [0, 1, 2, 3, 48, 49, 52, 53, 56, 57, 58, 59, 62, 63, 66, 67, 68, 69, 72, 73, 76, 77, 78, 79, 82, 83, 84, 87, 88, 89,
  90, 90, 91, 92, 95, 96, 99, 100, 103, 104, 105, 108, 109, 110, 113, 114, 117, 118, 119, 120, 123, 126, 127, 128, 129, 132, 133, 134, 137, 138,
  139, 142, 143, 146, 147, 148, 151, 152, 153, 156, 157, 160, 161, 162, 163, 164]
/-- WakeHouseLaw.law([I)Z -/
def c_352 : List aI := [.new 11, .dup, .invokespecial 0, .astore 1, .new 12, .dup, .invokespecial 212, .astore 2, .iconst 0, .istore 3, .nop, .iload 3, .aload 0, .arraylength,
  .iconst 6, .fsub, .if_icmp .gt 1301, .aload 0, .iload 3, .iaload, .iconst 63, .iand, .tableswitch 1299 0 47 #[23, 80, 97, 104, 111, 138, 155, 202, 229, 266, 293, 320, 337, 364, 399, 426, 434, 452, 470, 478, 485, 502, 540, 587, 604, 621, 648, 675, 702, 750, 807, 824, 851, 869, 886, 903, 930, 967, 984, 1031, 1058, 1094, 1139, 1184, 1211, 1248, 1265, 1282], .aload 1, .aload 0, .iload 3, .iconst 1, .fadd,
  .iaload, .aload 0, .iload 3, .iconst 2, .fadd, .iaload, .aload 0, .iload 3, .iconst 3, .fadd, .iaload, .aload 0, .iload 3, .iconst 4,
  .fadd, .iaload, .aload 0, .iload 3, .iconst 5, .fadd, .iaload, .invokevirtual 20, .aload 2, .aload 0, .iload 3, .iconst 1, .fadd, .iaload,
  .aload 0, .iload 3, .iconst 2, .fadd, .iaload, .aload 0, .iload 3, .iconst 3, .fadd, .iaload, .aload 0, .iload 3, .iconst 4, .fadd,
  .iaload, .aload 0, .iload 3, .iconst 5, .fadd, .iaload, .invokevirtual 215, .if_icmp .eq 1299, .iconst 0, .freturn, .aload 1, .aload 0, .iload 3, .iconst 1,
  .fadd, .iaload, .invokevirtual 23, .aload 2, .aload 0, .iload 3, .iconst 1, .fadd, .iaload, .invokevirtual 217, .if_icmp .eq 1299, .iconst 0, .freturn, .aload 1,
  .invokevirtual 24, .aload 2, .invokevirtual 218, .if_icmp .eq 1299, .iconst 0, .freturn, .aload 1, .invokevirtual 74, .aload 2, .invokevirtual 247, .if_icmp .eq 1299, .iconst 0, .freturn, .aload 1,
  .aload 0, .iload 3, .iconst 1, .fadd, .iaload, .aload 0, .iload 3, .iconst 2, .fadd, .iaload, .invokevirtual 75, .aload 2, .aload 0, .iload 3,
  .iconst 1, .fadd, .iaload, .aload 0, .iload 3, .iconst 2, .fadd, .iaload, .invokevirtual 248, .if_icmp .eq 1299, .iconst 0, .freturn, .aload 1, .aload 0,
  .iload 3, .iconst 1, .fadd, .iaload, .invokevirtual 78, .aload 2, .aload 0, .iload 3, .iconst 1, .fadd, .iaload, .invokevirtual 251, .if_icmp .eq 1299, .iconst 0,
  .freturn, .aload 1, .aload 0, .iload 3, .iconst 1, .fadd, .iaload, .aload 0, .iload 3, .iconst 2, .fadd, .iaload, .aload 0, .iload 3,
  .iconst 3, .fadd, .iaload, .aload 0, .iload 3, .iconst 4, .fadd, .iaload, .invokevirtual 80, .aload 2, .aload 0, .iload 3, .iconst 1, .fadd,
  .iaload, .aload 0, .iload 3, .iconst 2, .fadd, .iaload, .aload 0, .iload 3, .iconst 3, .fadd, .iaload, .aload 0, .iload 3, .iconst 4,
  .fadd, .iaload, .invokevirtual 254, .if_icmp .eq 1299, .iconst 0, .freturn, .aload 1, .aload 0, .iload 3, .iconst 1, .fadd, .iaload, .aload 0, .iload 3,
  .iconst 2, .fadd, .iaload, .invokevirtual 87, .aload 2, .aload 0, .iload 3, .iconst 1, .fadd, .iaload, .aload 0, .iload 3, .iconst 2, .fadd,
  .iaload, .invokevirtual 263, .if_icmp .eq 1299, .iconst 0, .freturn, .aload 1, .aload 0, .iload 3, .iconst 1, .fadd, .iaload, .aload 0, .iload 3, .iconst 2,
  .fadd, .iaload, .aload 0, .iload 3, .iconst 3, .fadd, .iaload, .invokevirtual 89, .aload 2, .aload 0, .iload 3, .iconst 1, .fadd, .iaload,
  .aload 0, .iload 3, .iconst 2, .fadd, .iaload, .aload 0, .iload 3, .iconst 3, .fadd, .iaload, .invokevirtual 265, .if_icmp .eq 1299, .iconst 0, .freturn,
  .aload 1, .aload 0, .iload 3, .iconst 1, .fadd, .iaload, .aload 0, .iload 3, .iconst 2, .fadd, .iaload, .invokevirtual 94, .aload 2, .aload 0,
  .iload 3, .iconst 1, .fadd, .iaload, .aload 0, .iload 3, .iconst 2, .fadd, .iaload, .invokevirtual 270, .if_icmp .eq 1299, .iconst 0, .freturn, .aload 1,
  .aload 0, .iload 3, .iconst 1, .fadd, .iaload, .aload 0, .iload 3, .iconst 2, .fadd, .iaload, .invokevirtual 95, .aload 2, .aload 0, .iload 3,
  .iconst 1, .fadd, .iaload, .aload 0, .iload 3, .iconst 2, .fadd, .iaload, .invokevirtual 271, .if_icmp .eq 1299, .iconst 0, .freturn, .aload 1, .aload 0,
  .iload 3, .iconst 1, .fadd, .iaload, .invokevirtual 96, .aload 2, .aload 0, .iload 3, .iconst 1, .fadd, .iaload, .invokevirtual 272, .if_icmp .eq 1299, .iconst 0,
  .freturn, .aload 1, .aload 0, .iload 3, .iconst 1, .fadd, .iaload, .aload 0, .iload 3, .iconst 2, .fadd, .iaload, .invokevirtual 99, .aload 2,
  .aload 0, .iload 3, .iconst 1, .fadd, .iaload, .aload 0, .iload 3, .iconst 2, .fadd, .iaload, .invokevirtual 274, .if_icmp .eq 1299, .iconst 0, .freturn,
  .aload 1, .aload 0, .iload 3, .iconst 1, .fadd, .iaload, .aload 0, .iload 3, .iconst 2, .fadd, .iaload, .ifCond .eq 378, .iconst 1, .goto 379,
  .iconst 0, .invokevirtual 101, .aload 2, .aload 0, .iload 3, .iconst 1, .fadd, .iaload, .aload 0, .iload 3, .iconst 2, .fadd, .iaload, .ifCond .eq 394,
  .iconst 1, .goto 395, .iconst 0, .invokevirtual 275, .if_icmp .eq 1299, .iconst 0, .freturn, .aload 1, .aload 0, .iload 3, .iconst 1, .fadd, .iaload, .aload 0,
  .iload 3, .iconst 2, .fadd, .iaload, .invokevirtual 102, .aload 2, .aload 0, .iload 3, .iconst 1, .fadd, .iaload, .aload 0, .iload 3, .iconst 2,
  .fadd, .iaload, .invokevirtual 276, .if_icmp .eq 1299, .iconst 0, .freturn, .aload 1, .invokevirtual 104, .aload 2, .invokevirtual 278, .lcmp, .ifCond .eq 1299, .iconst 0, .freturn,
  .aload 1, .aload 0, .iload 3, .iconst 1, .fadd, .iaload, .invokevirtual 105, .aload 2, .aload 0, .iload 3, .iconst 1, .fadd, .iaload, .invokevirtual 280,
  .lcmp, .ifCond .eq 1299, .iconst 0, .freturn, .aload 1, .aload 0, .iload 3, .iconst 1, .fadd, .iaload, .invokevirtual 112, .aload 2, .aload 0, .iload 3,
  .iconst 1, .fadd, .iaload, .invokevirtual 286, .lcmp, .ifCond .eq 1299, .iconst 0, .freturn, .aload 1, .invokevirtual 114, .aload 2, .invokevirtual 288, .lcmp, .ifCond .eq 1299,
  .iconst 0, .freturn, .aload 1, .invokevirtual 117, .aload 2, .invokevirtual 290, .if_icmp .eq 1299, .iconst 0, .freturn, .aload 1, .aload 0, .iload 3, .iconst 1, .fadd,
  .iaload, .invokevirtual 118, .aload 2, .aload 0, .iload 3, .iconst 1, .fadd, .iaload, .invokevirtual 293, .if_icmp .eq 1299, .iconst 0, .freturn, .aload 1, .aload 0,
  .iload 3, .iconst 1, .fadd, .iaload, .aload 0, .iload 3, .iconst 2, .fadd, .iaload, .aload 0, .iload 3, .iconst 3, .fadd, .iaload,
  .invokevirtual 119, .aload 2, .aload 0, .iload 3, .iconst 1, .fadd, .iaload, .aload 0, .iload 3, .iconst 2, .fadd, .iaload, .aload 0, .iload 3,
  .iconst 3, .fadd, .iaload, .invokevirtual 295, .lcmp, .ifCond .eq 1299, .iconst 0, .freturn, .aload 1, .aload 0, .iload 3, .iconst 1, .fadd, .iaload,
  .aload 0, .iload 3, .iconst 2, .fadd, .iaload, .aload 0, .iload 3, .iconst 3, .fadd, .iaload, .aload 0, .iload 3, .iconst 4, .fadd,
  .iaload, .invokevirtual 130, .aload 2, .aload 0, .iload 3, .iconst 1, .fadd, .iaload, .aload 0, .iload 3, .iconst 2, .fadd, .iaload, .aload 0,
  .iload 3, .iconst 3, .fadd, .iaload, .aload 0, .iload 3, .iconst 4, .fadd, .iaload, .invokevirtual 298, .if_icmp .eq 1299, .iconst 0, .freturn, .aload 1,
  .aload 0, .iload 3, .iconst 1, .fadd, .iaload, .invokevirtual 132, .aload 2, .aload 0, .iload 3, .iconst 1, .fadd, .iaload, .invokevirtual 299, .if_icmp .eq 1299,
  .iconst 0, .freturn, .aload 1, .aload 0, .iload 3, .iconst 1, .fadd, .iaload, .invokevirtual 140, .aload 2, .aload 0, .iload 3, .iconst 1, .fadd,
  .iaload, .invokevirtual 302, .if_icmp .eq 1299, .iconst 0, .freturn, .aload 1, .aload 0, .iload 3, .iconst 1, .fadd, .iaload, .aload 0, .iload 3, .iconst 2,
  .fadd, .iaload, .invokevirtual 141, .aload 2, .aload 0, .iload 3, .iconst 1, .fadd, .iaload, .aload 0, .iload 3, .iconst 2, .fadd, .iaload,
  .invokevirtual 303, .if_icmp .eq 1299, .iconst 0, .freturn, .aload 1, .aload 0, .iload 3, .iconst 1, .fadd, .iaload, .aload 0, .iload 3, .iconst 2, .fadd,
  .iaload, .invokevirtual 143, .aload 2, .aload 0, .iload 3, .iconst 1, .fadd, .iaload, .aload 0, .iload 3, .iconst 2, .fadd, .iaload, .invokevirtual 305,
  .if_icmp .eq 1299, .iconst 0, .freturn, .aload 1, .aload 0, .iload 3, .iconst 1, .fadd, .iaload, .aload 0, .iload 3, .iconst 2, .fadd, .iaload,
  .invokevirtual 153, .aload 2, .aload 0, .iload 3, .iconst 1, .fadd, .iaload, .aload 0, .iload 3, .iconst 2, .fadd, .iaload, .invokevirtual 310, .if_icmp .eq 1299,
  .iconst 0, .freturn, .aload 1, .aload 0, .iload 3, .iconst 1, .fadd, .iaload, .aload 0, .iload 3, .iconst 2, .fadd, .iaload, .aload 0,
  .iload 3, .iconst 3, .fadd, .iaload, .aload 0, .iload 3, .iconst 4, .fadd, .iaload, .invokevirtual 154, .aload 2, .aload 0, .iload 3, .iconst 1,
  .fadd, .iaload, .aload 0, .iload 3, .iconst 2, .fadd, .iaload, .aload 0, .iload 3, .iconst 3, .fadd, .iaload, .aload 0, .iload 3,
  .iconst 4, .fadd, .iaload, .invokevirtual 312, .lcmp, .ifCond .eq 1299, .iconst 0, .freturn, .aload 1, .aload 0, .iload 3, .iconst 1, .fadd, .iaload,
  .aload 0, .iload 3, .iconst 2, .fadd, .iaload, .aload 0, .iload 3, .iconst 3, .fadd, .iaload, .aload 0, .iload 3, .iconst 4, .fadd,
  .iaload, .aload 0, .iload 3, .iconst 5, .fadd, .iaload, .invokevirtual 158, .aload 2, .aload 0, .iload 3, .iconst 1, .fadd, .iaload, .aload 0,
  .iload 3, .iconst 2, .fadd, .iaload, .aload 0, .iload 3, .iconst 3, .fadd, .iaload, .aload 0, .iload 3, .iconst 4, .fadd, .iaload,
  .aload 0, .iload 3, .iconst 5, .fadd, .iaload, .invokevirtual 315, .if_icmp .eq 1299, .iconst 0, .freturn, .aload 1, .aload 0, .iload 3, .iconst 1, .fadd,
  .iaload, .invokevirtual 159, .aload 2, .aload 0, .iload 3, .iconst 1, .fadd, .iaload, .invokevirtual 316, .if_icmp .eq 1299, .iconst 0, .freturn, .aload 1, .aload 0,
  .iload 3, .iconst 1, .fadd, .iaload, .aload 0, .iload 3, .iconst 2, .fadd, .iaload, .invokevirtual 168, .aload 2, .aload 0, .iload 3, .iconst 1,
  .fadd, .iaload, .aload 0, .iload 3, .iconst 2, .fadd, .iaload, .invokevirtual 320, .if_icmp .eq 1299, .iconst 0, .freturn, .aload 1, .aload 0, .iload 3,
  .iconst 1, .fadd, .iaload, .invokevirtual 169, .aload 2, .aload 0, .iload 3, .iconst 1, .fadd, .iaload, .invokevirtual 321, .lcmp, .ifCond .eq 1299, .iconst 0,
  .freturn, .aload 1, .aload 0, .iload 3, .iconst 1, .fadd, .iaload, .invokevirtual 171, .aload 2, .aload 0, .iload 3, .iconst 1, .fadd, .iaload,
  .invokevirtual 323, .if_icmp .eq 1299, .iconst 0, .freturn, .aload 1, .aload 0, .iload 3, .iconst 1, .fadd, .iaload, .invokevirtual 173, .aload 2, .aload 0, .iload 3,
  .iconst 1, .fadd, .iaload, .invokevirtual 324, .if_icmp .eq 1299, .iconst 0, .freturn, .aload 1, .aload 0, .iload 3, .iconst 1, .fadd, .iaload, .aload 0,
  .iload 3, .iconst 2, .fadd, .iaload, .invokevirtual 181, .aload 2, .aload 0, .iload 3, .iconst 1, .fadd, .iaload, .aload 0, .iload 3, .iconst 2,
  .fadd, .iaload, .invokevirtual 328, .if_icmp .eq 1299, .iconst 0, .freturn, .aload 1, .aload 0, .iload 3, .iconst 1, .fadd, .iaload, .aload 0, .iload 3,
  .iconst 2, .fadd, .iaload, .aload 0, .iload 3, .iconst 3, .fadd, .iaload, .invokevirtual 182, .aload 2, .aload 0, .iload 3, .iconst 1, .fadd,
  .iaload, .aload 0, .iload 3, .iconst 2, .fadd, .iaload, .aload 0, .iload 3, .iconst 3, .fadd, .iaload, .invokevirtual 329, .if_icmp .eq 1299, .iconst 0,
  .freturn, .aload 1, .aload 0, .iload 3, .iconst 1, .fadd, .iaload, .invokevirtual 184, .aload 2, .aload 0, .iload 3, .iconst 1, .fadd, .iaload,
  .invokevirtual 330, .if_icmp .eq 1299, .iconst 0, .freturn, .aload 1, .aload 0, .iload 3, .iconst 1, .fadd, .iaload, .aload 0, .iload 3, .iconst 2, .fadd,
  .iaload, .aload 0, .iload 3, .iconst 3, .fadd, .iaload, .aload 0, .iload 3, .iconst 4, .fadd, .iaload, .invokevirtual 185, .aload 2, .aload 0,
  .iload 3, .iconst 1, .fadd, .iaload, .aload 0, .iload 3, .iconst 2, .fadd, .iaload, .aload 0, .iload 3, .iconst 3, .fadd, .iaload,
  .aload 0, .iload 3, .iconst 4, .fadd, .iaload, .invokevirtual 331, .if_icmp .eq 1299, .iconst 0, .freturn, .aload 1, .aload 0, .iload 3, .iconst 1, .fadd,
  .iaload, .aload 0, .iload 3, .iconst 2, .fadd, .iaload, .invokevirtual 190, .aload 2, .aload 0, .iload 3, .iconst 1, .fadd, .iaload, .aload 0,
  .iload 3, .iconst 2, .fadd, .iaload, .invokevirtual 335, .if_icmp .eq 1299, .iconst 0, .freturn, .aload 1, .aload 0, .iload 3, .iconst 1, .fadd, .iaload,
  .aload 0, .iload 3, .iconst 2, .fadd, .iaload, .ifCond .eq 1072, .iconst 1, .goto 1073, .iconst 0, .invokevirtual 192, .aload 2, .aload 0, .iload 3, .iconst 1,
  .fadd, .iaload, .aload 0, .iload 3, .iconst 2, .fadd, .iaload, .ifCond .eq 1088, .iconst 1, .goto 1089, .iconst 0, .invokevirtual 337, .lcmp, .ifCond .eq 1299,
  .iconst 0, .freturn, .aload 1, .aload 0, .iload 3, .iconst 1, .fadd, .iaload, .aload 0, .iload 3, .iconst 2, .fadd, .iaload, .aload 0,
  .iload 3, .iconst 3, .fadd, .iaload, .ifCond .eq 1113, .iconst 1, .goto 1114, .iconst 0, .invokevirtual 195, .aload 2, .aload 0, .iload 3, .iconst 1, .fadd,
  .iaload, .aload 0, .iload 3, .iconst 2, .fadd, .iaload, .aload 0, .iload 3, .iconst 3, .fadd, .iaload, .ifCond .eq 1134, .iconst 1, .goto 1135,
  .iconst 0, .invokevirtual 339, .if_icmp .eq 1299, .iconst 0, .freturn, .aload 1, .aload 0, .iload 3, .iconst 1, .fadd, .iaload, .aload 0, .iload 3, .iconst 2,
  .fadd, .iaload, .aload 0, .iload 3, .iconst 3, .fadd, .iaload, .ifCond .eq 1158, .iconst 1, .goto 1159, .iconst 0, .invokevirtual 198, .aload 2, .aload 0,
  .iload 3, .iconst 1, .fadd, .iaload, .aload 0, .iload 3, .iconst 2, .fadd, .iaload, .aload 0, .iload 3, .iconst 3, .fadd, .iaload,
  .ifCond .eq 1179, .iconst 1, .goto 1180, .iconst 0, .invokevirtual 341, .if_icmp .eq 1299, .iconst 0, .freturn, .aload 1, .aload 0, .iload 3, .iconst 1, .fadd, .iaload,
  .aload 0, .iload 3, .iconst 2, .fadd, .iaload, .invokevirtual 199, .aload 2, .aload 0, .iload 3, .iconst 1, .fadd, .iaload, .aload 0, .iload 3,
  .iconst 2, .fadd, .iaload, .invokevirtual 342, .if_icmp .eq 1299, .iconst 0, .freturn, .aload 1, .aload 0, .iload 3, .iconst 1, .fadd, .iaload, .aload 0,
  .iload 3, .iconst 2, .fadd, .iaload, .aload 0, .iload 3, .iconst 3, .fadd, .iaload, .invokevirtual 203, .aload 2, .aload 0, .iload 3, .iconst 1,
  .fadd, .iaload, .aload 0, .iload 3, .iconst 2, .fadd, .iaload, .aload 0, .iload 3, .iconst 3, .fadd, .iaload, .invokevirtual 347, .if_icmp .eq 1299,
  .iconst 0, .freturn, .aload 1, .aload 0, .iload 3, .iconst 1, .fadd, .iaload, .invokevirtual 206, .aload 2, .aload 0, .iload 3, .iconst 1, .fadd,
  .iaload, .invokevirtual 348, .if_icmp .eq 1299, .iconst 0, .freturn, .aload 1, .aload 0, .iload 3, .iconst 1, .fadd, .iaload, .invokevirtual 209, .aload 2, .aload 0,
  .iload 3, .iconst 1, .fadd, .iaload, .invokevirtual 350, .if_icmp .eq 1299, .iconst 0, .freturn, .aload 1, .aload 0, .iload 3, .iconst 1, .fadd, .iaload,
  .invokevirtual 210, .aload 2, .aload 0, .iload 3, .iconst 1, .fadd, .iaload, .invokevirtual 351, .if_icmp .eq 1299, .iconst 0, .freturn, .iinc 3 6, .goto 10, .iconst 1,
  .freturn]
def p_352 : List Nat := [0, 3, 4, 7, 8, 11, 12, 15, 16, 17, 18, 18, 19, 20, 21, 23, 24, 27, 28, 29, 30, 32, 33, 240, 241, 242, 243, 244, 245, 246,
  247, 248, 249, 250, 251, 252, 253, 254, 255, 256, 257, 258, 259, 260, 261, 262, 263, 264, 265, 266, 269, 270, 271, 272, 273, 274, 275, 276, 277, 278,
  279, 280, 281, 282, 283, 284, 285, 286, 287, 288, 289, 290, 291, 292, 293, 294, 295, 298, 301, 302, 303, 304, 305, 306, 307, 308, 309, 312, 313, 314,
  315, 316, 317, 318, 321, 324, 325, 326, 327, 330, 331, 334, 337, 338, 339, 340, 343, 344, 347, 350, 351, 352, 353, 354, 355, 356, 357, 358, 359, 360,
  361, 362, 363, 366, 367, 368, 369, 370, 371, 372, 373, 374, 375, 376, 377, 380, 383, 384, 385, 386, 387, 388, 389, 390, 391, 394, 395, 396, 397, 398,
  399, 400, 403, 406, 407, 408, 409, 410, 411, 412, 413, 414, 415, 416, 417, 418, 419, 420, 421, 422, 423, 424, 425, 426, 427, 428, 429, 432, 433, 434,
  435, 436, 437, 438, 439, 440, 441, 442, 443, 444, 445, 446, 447, 448, 449, 450, 451, 452, 453, 456, 459, 460, 461, 462, 463, 464, 465, 466, 467, 468,
  469, 470, 471, 472, 475, 476, 477, 478, 479, 480, 481, 482, 483, 484, 485, 486, 489, 492, 493, 494, 495, 496, 497, 498, 499, 500, 501, 502, 503, 504,
  505, 506, 507, 508, 509, 510, 513, 514, 515, 516, 517, 518, 519, 520, 521, 522, 523, 524, 525, 526, 527, 528, 529, 532, 535, 536, 537, 538, 539, 540,
  541, 542, 543, 544, 545, 546, 547, 548, 551, 552, 553, 554, 555, 556, 557, 558, 559, 560, 561, 562, 565, 568, 569, 570, 571, 572, 573, 574, 575, 576,
  577, 578, 579, 580, 581, 584, 585, 586, 587, 588, 589, 590, 591, 592, 593, 594, 595, 598, 601, 602, 603, 604, 605, 606, 607, 608, 609, 612, 613, 614,
  615, 616, 617, 618, 621, 624, 625, 626, 627, 628, 629, 630, 631, 632, 633, 634, 635, 636, 637, 640, 641, 642, 643, 644, 645, 646, 647, 648, 649, 650,
  651, 654, 657, 658, 659, 660, 661, 662, 663, 664, 665, 666, 667, 668, 669, 670, 673, 674, 677, 678, 681, 682, 683, 684, 685, 686, 687, 688, 689, 690,
  691, 692, 695, 696, 699, 700, 703, 706, 707, 708, 709, 710, 711, 712, 713, 714, 715, 716, 717, 718, 719, 722, 723, 724, 725, 726, 727, 728, 729, 730,
  731, 732, 733, 736, 739, 740, 741, 742, 745, 746, 749, 750, 753, 754, 755, 756, 757, 758, 759, 760, 761, 764, 765, 766, 767, 768, 769, 770, 773, 774,
  777, 778, 779, 780, 781, 782, 783, 784, 785, 788, 789, 790, 791, 792, 793, 794, 797, 798, 801, 802, 803, 804, 807, 808, 811, 812, 815, 816, 817, 818,
  821, 822, 825, 828, 829, 830, 831, 832, 833, 834, 835, 836, 839, 840, 841, 842, 843, 844, 845, 848, 851, 852, 853, 854, 855, 856, 857, 858, 859, 860,
  861, 862, 863, 864, 865, 866, 867, 868, 869, 872, 873, 874, 875, 876, 877, 878, 879, 880, 881, 882, 883, 884, 885, 886, 887, 888, 891, 892, 895, 896,
  897, 898, 899, 900, 901, 902, 903, 904, 905, 906, 907, 908, 909, 910, 911, 912, 913, 914, 915, 916, 917, 918, 921, 922, 923, 924, 925, 926, 927, 928,
  929, 930, 931, 932, 933, 934, 935, 936, 937, 938, 939, 940, 941, 942, 945, 948, 949, 950, 951, 952, 953, 954, 955, 956, 959, 960, 961, 962, 963, 964,
  965, 968, 971, 972, 973, 974, 975, 976, 977, 978, 979, 982, 983, 984, 985, 986, 987, 988, 991, 994, 995, 996, 997, 998, 999, 1000, 1001, 1002, 1003, 1004,
  1005, 1006, 1007, 1010, 1011, 1012, 1013, 1014, 1015, 1016, 1017, 1018, 1019, 1020, 1021, 1024, 1027, 1028, 1029, 1030, 1031, 1032, 1033, 1034, 1035, 1036, 1037, 1038, 1039, 1040,
  1043, 1044, 1045, 1046, 1047, 1048, 1049, 1050, 1051, 1052, 1053, 1054, 1057, 1060, 1061, 1062, 1063, 1064, 1065, 1066, 1067, 1068, 1069, 1070, 1071, 1072, 1073, 1076, 1077, 1078,
  1079, 1080, 1081, 1082, 1083, 1084, 1085, 1086, 1087, 1090, 1093, 1094, 1095, 1096, 1097, 1098, 1099, 1100, 1101, 1102, 1103, 1104, 1105, 1106, 1107, 1108, 1109, 1110, 1111, 1112,
  1113, 1114, 1115, 1116, 1119, 1120, 1121, 1122, 1123, 1124, 1125, 1126, 1127, 1128, 1129, 1130, 1131, 1132, 1133, 1134, 1135, 1136, 1137, 1138, 1139, 1140, 1143, 1144, 1147, 1148,
  1149, 1150, 1151, 1152, 1153, 1154, 1155, 1156, 1157, 1158, 1159, 1160, 1161, 1162, 1163, 1164, 1165, 1166, 1167, 1168, 1169, 1170, 1171, 1172, 1173, 1174, 1175, 1178, 1179, 1180,
  1181, 1182, 1183, 1184, 1185, 1186, 1187, 1188, 1189, 1190, 1191, 1192, 1193, 1194, 1195, 1196, 1197, 1198, 1199, 1200, 1201, 1202, 1203, 1204, 1207, 1210, 1211, 1212, 1213, 1214,
  1215, 1216, 1217, 1218, 1221, 1222, 1223, 1224, 1225, 1226, 1227, 1230, 1233, 1234, 1235, 1236, 1237, 1238, 1239, 1240, 1241, 1242, 1243, 1244, 1245, 1246, 1249, 1250, 1251, 1252,
  1253, 1254, 1255, 1256, 1257, 1258, 1259, 1260, 1263, 1266, 1267, 1268, 1269, 1270, 1271, 1272, 1273, 1274, 1277, 1278, 1279, 1280, 1281, 1282, 1283, 1286, 1287, 1290, 1291, 1292,
  1293, 1294, 1295, 1296, 1297, 1298, 1301, 1302, 1303, 1304, 1305, 1306, 1307, 1310, 1313, 1314, 1315, 1316, 1317, 1318, 1319, 1320, 1321, 1324, 1325, 1326, 1327, 1328, 1329, 1330,
  1333, 1336, 1337, 1338, 1339, 1340, 1341, 1342, 1343, 1344, 1345, 1346, 1347, 1348, 1349, 1352, 1353, 1354, 1355, 1356, 1357, 1358, 1359, 1360, 1361, 1362, 1363, 1366, 1369, 1370,
  1371, 1372, 1373, 1374, 1375, 1376, 1377, 1378, 1379, 1380, 1381, 1382, 1383, 1384, 1385, 1386, 1387, 1390, 1391, 1392, 1393, 1394, 1395, 1396, 1397, 1398, 1399, 1400, 1401, 1402,
  1403, 1404, 1405, 1406, 1409, 1412, 1413, 1414, 1415, 1416, 1417, 1418, 1419, 1420, 1423, 1424, 1425, 1426, 1427, 1428, 1429, 1432, 1435, 1436, 1437, 1438, 1439, 1440, 1441, 1442,
  1443, 1444, 1445, 1446, 1447, 1448, 1449, 1450, 1451, 1452, 1453, 1454, 1455, 1456, 1457, 1458, 1461, 1462, 1463, 1464, 1465, 1466, 1467, 1468, 1469, 1470, 1471, 1472, 1473, 1474,
  1475, 1476, 1477, 1478, 1479, 1480, 1481, 1482, 1485, 1488, 1489, 1490, 1491, 1492, 1493, 1494, 1495, 1496, 1497, 1498, 1499, 1500, 1501, 1504, 1505, 1506, 1507, 1508, 1509, 1510,
  1511, 1512, 1513, 1514, 1515, 1518, 1521, 1522, 1523, 1524, 1525, 1526, 1527, 1528, 1529, 1530, 1531, 1532, 1533, 1534, 1537, 1538, 1541, 1542, 1545, 1546, 1547, 1548, 1549, 1550,
  1551, 1552, 1553, 1554, 1555, 1556, 1559, 1560, 1563, 1564, 1567, 1568, 1571, 1572, 1573, 1574, 1575, 1576, 1577, 1578, 1579, 1580, 1581, 1582, 1583, 1584, 1585, 1586, 1587, 1588,
  1589, 1592, 1593, 1596, 1597, 1600, 1601, 1602, 1603, 1604, 1605, 1606, 1607, 1608, 1609, 1610, 1611, 1612, 1613, 1614, 1615, 1616, 1619, 1620, 1623, 1624, 1627, 1630, 1631, 1632,
  1633, 1634, 1635, 1636, 1637, 1638, 1639, 1640, 1641, 1642, 1643, 1644, 1645, 1646, 1647, 1648, 1651, 1652, 1655, 1656, 1659, 1660, 1661, 1662, 1663, 1664, 1665, 1666, 1667, 1668,
  1669, 1670, 1671, 1672, 1673, 1674, 1675, 1678, 1679, 1682, 1683, 1686, 1689, 1690, 1691, 1692, 1693, 1694, 1695, 1696, 1697, 1698, 1699, 1700, 1701, 1702, 1705, 1706, 1707, 1708,
  1709, 1710, 1711, 1712, 1713, 1714, 1715, 1716, 1719, 1722, 1723, 1724, 1725, 1726, 1727, 1728, 1729, 1730, 1731, 1732, 1733, 1734, 1735, 1736, 1737, 1738, 1739, 1740, 1743, 1744,
  1745, 1746, 1747, 1748, 1749, 1750, 1751, 1752, 1753, 1754, 1755, 1756, 1757, 1758, 1759, 1762, 1765, 1766, 1767, 1768, 1769, 1770, 1771, 1772, 1773, 1776, 1777, 1778, 1779, 1780,
  1781, 1782, 1785, 1788, 1789, 1790, 1791, 1792, 1793, 1794, 1795, 1796, 1799, 1800, 1801, 1802, 1803, 1804, 1805, 1808, 1811, 1812, 1813, 1814, 1815, 1816, 1817, 1818, 1819, 1822,
  1823, 1824, 1825, 1826, 1827, 1828, 1831, 1834, 1835, 1836, 1839, 1842, 1843]
def mML : List (List aI) := [c_0, c_1, c_2, c_3, c_4, c_5, c_6, c_7, c_8, c_9, c_10, c_11, c_12, c_13, c_14, c_15, c_16, c_17, c_18, c_19, c_20, c_21, c_22, c_23,
  c_24, c_25, c_26, c_27, c_28, c_29, c_30, c_31, c_32, c_33, c_34, c_35, c_36, c_37, c_38, c_39, c_40, c_41, c_42, c_43, c_44, c_45, c_46, c_47,
  c_48, c_49, c_50, c_51, c_52, c_53, c_54, c_55, c_56, c_57, c_58, c_59, c_60, c_61, c_62, c_63, c_64, c_65, c_66, c_67, c_68, c_69, c_70, c_71,
  c_72, c_73, c_74, c_75, c_76, c_77, c_78, c_79, c_80, c_81, c_82, c_83, c_84, c_85, c_86, c_87, c_88, c_89, c_90, c_91, c_92, c_93, c_94, c_95,
  c_96, c_97, c_98, c_99, c_100, c_101, c_102, c_103, c_104, c_105, c_106, c_107, c_108, c_109, c_110, c_111, c_112, c_113, c_114, c_115, c_116, c_117, c_118, c_119,
  c_120, c_121, c_122, c_123, c_124, c_125, c_126, c_127, c_128, c_129, c_130, c_131, c_132, c_133, c_134, c_135, c_136, c_137, c_138, c_139, c_140, c_141, c_142, c_143,
  c_144, c_145, c_146, c_147, c_148, c_149, c_150, c_151, c_152, c_153, c_154, c_155, c_156, c_157, c_158, c_159, c_160, c_161, c_162, c_163, c_164, c_165, c_166, c_167,
  c_168, c_169, c_170, c_171, c_172, c_173, c_174, c_175, c_176, c_177, c_178, c_179, c_180, c_181, c_182, c_183, c_184, c_185, c_186, c_187, c_188, c_189, c_190, c_191,
  c_192, c_193, c_194, c_195, c_196, c_197, c_198, c_199, c_200, c_201, c_202, c_203, c_204, c_205, c_206, c_207, c_208, c_209, c_210, c_211, c_212, c_213, c_214, c_215,
  c_216, c_217, c_218, c_219, c_220, c_221, c_222, c_223, c_224, c_225, c_226, c_227, c_228, c_229, c_230, c_231, c_232, c_233, c_234, c_235, c_236, c_237, c_238, c_239,
  c_240, c_241, c_242, c_243, c_244, c_245, c_246, c_247, c_248, c_249, c_250, c_251, c_252, c_253, c_254, c_255, c_256, c_257, c_258, c_259, c_260, c_261, c_262, c_263,
  c_264, c_265, c_266, c_267, c_268, c_269, c_270, c_271, c_272, c_273, c_274, c_275, c_276, c_277, c_278, c_279, c_280, c_281, c_282, c_283, c_284, c_285, c_286, c_287,
  c_288, c_289, c_290, c_291, c_292, c_293, c_294, c_295, c_296, c_297, c_298, c_299, c_300, c_301, c_302, c_303, c_304, c_305, c_306, c_307, c_308, c_309, c_310, c_311,
  c_312, c_313, c_314, c_315, c_316, c_317, c_318, c_319, c_320, c_321, c_322, c_323, c_324, c_325, c_326, c_327, c_328, c_329, c_330, c_331, c_332, c_333, c_334, c_335,
  c_336, c_337, c_338, c_339, c_340, c_341, c_342, c_343, c_344, c_345, c_346, c_347, c_348, c_349, c_350, c_351, c_352]
def mPL : List (List Nat) := [p_0, p_1, p_2, p_3, p_4, p_5, p_6, p_7, p_8, p_9, p_10, p_11, p_12, p_13, p_14, p_15, p_16, p_17, p_18, p_19, p_20, p_21, p_22, p_23,
  p_24, p_25, p_26, p_27, p_28, p_29, p_30, p_31, p_32, p_33, p_34, p_35, p_36, p_37, p_38, p_39, p_40, p_41, p_42, p_43, p_44, p_45, p_46, p_47,
  p_48, p_49, p_50, p_51, p_52, p_53, p_54, p_55, p_56, p_57, p_58, p_59, p_60, p_61, p_62, p_63, p_64, p_65, p_66, p_67, p_68, p_69, p_70, p_71,
  p_72, p_73, p_74, p_75, p_76, p_77, p_78, p_79, p_80, p_81, p_82, p_83, p_84, p_85, p_86, p_87, p_88, p_89, p_90, p_91, p_92, p_93, p_94, p_95,
  p_96, p_97, p_98, p_99, p_100, p_101, p_102, p_103, p_104, p_105, p_106, p_107, p_108, p_109, p_110, p_111, p_112, p_113, p_114, p_115, p_116, p_117, p_118, p_119,
  p_120, p_121, p_122, p_123, p_124, p_125, p_126, p_127, p_128, p_129, p_130, p_131, p_132, p_133, p_134, p_135, p_136, p_137, p_138, p_139, p_140, p_141, p_142, p_143,
  p_144, p_145, p_146, p_147, p_148, p_149, p_150, p_151, p_152, p_153, p_154, p_155, p_156, p_157, p_158, p_159, p_160, p_161, p_162, p_163, p_164, p_165, p_166, p_167,
  p_168, p_169, p_170, p_171, p_172, p_173, p_174, p_175, p_176, p_177, p_178, p_179, p_180, p_181, p_182, p_183, p_184, p_185, p_186, p_187, p_188, p_189, p_190, p_191,
  p_192, p_193, p_194, p_195, p_196, p_197, p_198, p_199, p_200, p_201, p_202, p_203, p_204, p_205, p_206, p_207, p_208, p_209, p_210, p_211, p_212, p_213, p_214, p_215,
  p_216, p_217, p_218, p_219, p_220, p_221, p_222, p_223, p_224, p_225, p_226, p_227, p_228, p_229, p_230, p_231, p_232, p_233, p_234, p_235, p_236, p_237, p_238, p_239,
  p_240, p_241, p_242, p_243, p_244, p_245, p_246, p_247, p_248, p_249, p_250, p_251, p_252, p_253, p_254, p_255, p_256, p_257, p_258, p_259, p_260, p_261, p_262, p_263,
  p_264, p_265, p_266, p_267, p_268, p_269, p_270, p_271, p_272, p_273, p_274, p_275, p_276, p_277, p_278, p_279, p_280, p_281, p_282, p_283, p_284, p_285, p_286, p_287,
  p_288, p_289, p_290, p_291, p_292, p_293, p_294, p_295, p_296, p_297, p_298, p_299, p_300, p_301, p_302, p_303, p_304, p_305, p_306, p_307, p_308, p_309, p_310, p_311,
  p_312, p_313, p_314, p_315, p_316, p_317, p_318, p_319, p_320, p_321, p_322, p_323, p_324, p_325, p_326, p_327, p_328, p_329, p_330, p_331, p_332, p_333, p_334, p_335,
  p_336, p_337, p_338, p_339, p_340, p_341, p_342, p_343, p_344, p_345, p_346, p_347, p_348, p_349, p_350, p_351, p_352]
def mM (n : Nat) : List aI := am_nth [] mML n
def mPc (n : Nat) : List Nat := am_nth [] mPL n
def mWr (n : Nat) : Bool := Nat.beq n 85 || Nat.beq n 202 || Nat.beq n 205 || Nat.beq n 211 || Nat.beq n 261 || Nat.beq n 346
def mChk (k : Nat) : Bool := am_chkL (mB k) (mCs k) k (mLo k) (mWr k) (mPc k) (mM k) (mPc k)
end
section
/-! TWO READINGS OF A STRETCH SIDE BY SIDE (where the shape stays) -/
def okI : aI → Bool
  | .new _ => false
  | .newarray _ => false
  | .anewarray _ => false
  | .aastore => false
  | .invokespecial _ => false
  | .putfield n => !(Nat.beq (ftab (n / 100) (n % 100)) 0)
  | _ => true
def LoN (l : aL) : Prop := (l.map Prod.fst).Nodup
/-- the locals of the one are among those of the other -/
def LoS (a b : aL) : Prop := (∀ q ∈ a, q ∈ b) ∧ LoN b
theorem find_mem {k : Nat} {v : aV} : ∀ {l : aL}, am_find k l = some v → (k, v) ∈ l
  | [], h => by cases h
  | q :: l, h => by
    have h : (bif Nat.beq q.1 k then some q.2 else am_find k l) = some v := h
    cases hb : Nat.beq q.1 k with
    | true =>
      rw [hb] at h
      have e := Nat.eq_of_beq_eq_true hb
      have e2 : q.2 = v := Option.some.inj h
      rw [← e, ← e2]; exact List.mem_cons_self
    | false =>
      rw [hb] at h
      exact List.mem_cons_of_mem _ (find_mem h)
theorem mem_find {k : Nat} {v : aV} : ∀ {l : aL}, LoN l → (k, v) ∈ l → am_find k l = some v
  | [], _, h => by cases h
  | q :: l, hn, h => by
    show (bif Nat.beq q.1 k then some q.2 else am_find k l) = some v
    unfold LoN at hn
    rw [List.map_cons, List.nodup_cons] at hn
    rcases List.mem_cons.mp h with e | h
    · rw [← e]; simp
    · have hne : q.1 ≠ k := fun e => hn.1 (e ▸ List.mem_map.mpr ⟨(k, v), h, rfl⟩)
      rw [nb_ne hne]
      exact mem_find hn.2 h
theorem LoS.find {a b : aL} (h : LoS a b) {k : Nat} {v : aV} (e : am_find k a = some v) : am_find k b = some v := mem_find h.2 (h.1 _ (find_mem e))
theorem LoN.cons {k : Nat} {v : aV} {l : aL} {p : Nat × aV → Bool} (h : LoN l) (hp : ∀ q, p q = true → q.1 ≠ k) : LoN ((k, v) :: l.filter p) := by
  unfold LoN at h ⊢
  rw [List.map_cons, List.nodup_cons]
  refine ⟨fun hm => ?_, h.sublist (List.filter_sublist.map _)⟩
  obtain ⟨q, hq, e⟩ := List.mem_map.mp hm
  exact hp q (List.mem_filter.mp hq).2 e
theorem LoS.cons {a b : aL} {k : Nat} {v : aV} {p : Nat × aV → Bool} (h : LoS a b) (hp : ∀ q, p q = true → q.1 ≠ k) : LoS ((k, v) :: a.filter p) ((k, v) :: b.filter p) := by
  refine ⟨fun q hq => ?_, h.2.cons hp⟩
  rcases List.mem_cons.mp hq with e | hq
  · rw [e]; exact List.mem_cons_self
  · have := List.mem_filter.mp hq
    exact List.mem_cons_of_mem _ (List.mem_filter.mpr ⟨h.1 q this.1, this.2⟩)
theorem LoS.set1 {a b : aL} (h : LoS a b) (k : Nat) (v : aV) : LoS (am_set1 k v a) (am_set1 k v b) := by
  refine h.cons fun q hq e => ?_
  rw [e] at hq; simp at hq
theorem LoS.set2 {a b : aL} (h : LoS a b) (k : Nat) (v : aV) : LoS (am_set2 k v a) (am_set2 k v b) := by
  refine h.cons fun q hq e => ?_
  rw [e] at hq; simp at hq
section PAR
variable {X Y : Type} (R : X → Y → Prop) {badX : X} {badY : Y} {brX : (c : Prop) → Decidable c → X → X → X} {brY : (c : Prop) → Decidable c → Y → Y → Y} {ckX : (c : Prop) → Decidable c → X → X} {ckY : (c : Prop) → Decidable c → Y → Y}
theorem am_bin_par (hbad : ∀ y, R badX y) {f : Int → Int → Int} {nX : List aV → X} {nY : List aV → Y} (h : ∀ st, R (nX st) (nY st)) (st : List aV) : R (am_bin badX f nX st) (am_bin badY f nY st) := by
  rcases st with _ | ⟨v | v | v, _ | ⟨w | w | w, st⟩⟩ <;> first | exact hbad _ | exact h _
theorem am_binL_par (hbad : ∀ y, R badX y) {f : Int → Int → Int} {nX : List aV → X} {nY : List aV → Y} (h : ∀ st, R (nX st) (nY st)) (st : List aV) : R (am_binL badX f nX st) (am_binL badY f nY st) := by
  rcases st with _ | ⟨v | v | v, _ | ⟨w | w | w, st⟩⟩ <;> first | exact hbad _ | exact h _
theorem am_binC_par (hbad : ∀ y, R badX y) (hck : ∀ c d x y, R x y → R (ckX c d x) (ckY c d y)) {f : Int → Int → Int} {nX : List aV → X} {nY : List aV → Y} (h : ∀ st, R (nX st) (nY st)) (st : List aV) : R (am_binC badX ckX f nX st) (am_binC badY ckY f nY st) := by
  rcases st with _ | ⟨v | v | v, _ | ⟨w | w | w, st⟩⟩ <;> first | exact hbad _ | exact hck _ _ _ _ (h _)
theorem am_binLC_par (hbad : ∀ y, R badX y) (hck : ∀ c d x y, R x y → R (ckX c d x) (ckY c d y)) {f : Int → Int → Int} {nX : List aV → X} {nY : List aV → Y} (h : ∀ st, R (nX st) (nY st)) (st : List aV) : R (am_binLC badX ckX f nX st) (am_binLC badY ckY f nY st) := by
  rcases st with _ | ⟨v | v | v, _ | ⟨w | w | w, st⟩⟩ <;> first | exact hbad _ | exact hck _ _ _ _ (h _)
theorem am_sw_par (hbad : ∀ y, R badX y) (hbr : ∀ c d x x' y y', R x y → R x' y' → R (brX c d x x') (brY c d y y')) {jX : Nat → X} {jY : Nat → Y} (h : ∀ t, R (jX t) (jY t)) (v : Int) : ∀ (a : Int) (l : List Int), R (am_sw badX brX jX v a l) (am_sw badY brY jY v a l)
  | _, [] => hbad _
  | a, t :: l => hbr _ _ _ _ _ _ (h _) (am_sw_par hbad hbr h v (a + 1) l)
theorem am_aal_par (hbad : ∀ y, R badX y) (hbr : ∀ c d x x' y y', R x y → R x' y' → R (brX c d x x') (brY c d y y')) {i : Int} {nX : Nat → X} {nY : Nat → Y} (h : ∀ t, R (nX t) (nY t)) : ∀ (a : Int) (l : List Nat), R (am_aal badX brX i nX a l) (am_aal badY brY i nY a l)
  | _, [] => hbad _
  | a, q :: l => hbr _ _ _ _ _ _ (h _) (am_aal_par hbad hbr h (a + 1) l)
theorem am_putf_par (hbad : ∀ y, R badX y) (hck : ∀ c d x y, R x y → R (ckX c d x) (ckY c d y)) {c : aC} {ty : Nat} {sh : List aC} {h : aH} {r k : Nat} {v : aV} {nX : aS → X} {nY : aS → Y} (hn : ∀ h, R (nX (sh, h)) (nY (sh, h))) (hok : (!(Nat.beq ty 0)) = true) : R (am_putf badX ckX c ty (sh, h) r k v nX) (am_putf badY ckY c ty (sh, h) r k v nY) := by
  rcases ty with _ | _ | _ | _ | ty
  · cases hok
  all_goals rcases v with v | v | v <;> first | exact hbad _ | exact hn _ | exact hck _ _ _ _ (hn _)
set_option maxHeartbeats 4000000 in
theorem am_1_par {na : Nat → Nat} {limX limY : Nat × Nat} {callX : Nat → List aV → aS → (Option aV → aH → X) → X} {callY : Nat → List aV → aS → (Option aV → aH → Y) → Y} {spX : Nat → List aV → aS → (aS → X) → X} {spY : Nat → List aV → aS → (aS → Y) → Y} {retX : Option aV → aS → X} {retY : Option aV → aS → Y} {cutX : Nat → aL → List aV → aS → X} {cutY : Nat → aL → List aV → aS → Y} {nxtX : aL → List aV → aS → X} {nxtY : aL → List aV → aS → Y} {jmpX : Nat → aL → List aV → aS → X} {jmpY : Nat → aL → List aV → aS → Y} {sh : List aC}
    (LR : aL → aL → Prop) (hfd : ∀ {a b : aL}, LR a b → ∀ {k : Nat} {v : aV}, am_find k a = some v → am_find k b = some v) (hs1 : ∀ {a b : aL} (k : Nat) (v : aV), LR a b → LR (am_set1 k v a) (am_set1 k v b)) (hs2 : ∀ {a b : aL} (k : Nat) (v : aV), LR a b → LR (am_set2 k v a) (am_set2 k v b))
    (hbad : ∀ y, R badX y) (hbr : ∀ c d x x' y y', R x y → R x' y' → R (brX c d x x') (brY c d y y')) (hck : ∀ c d x y, R x y → R (ckX c d x) (ckY c d y))
    (hcall : ∀ id as h cX cY, (∀ v h, R (cX v h) (cY v h)) → R (callX id as (sh, h) cX) (callY id as (sh, h) cY)) (hret : ∀ v h, R (retX v (sh, h)) (retY v (sh, h))) (hcut : ∀ i a b st h, LR a b → R (cutX i a st (sh, h)) (cutY i b st (sh, h)))
    (hnxt : ∀ a b st h, LR a b → R (nxtX a st (sh, h)) (nxtY b st (sh, h))) (i : Nat) (hjmp : ∀ t a b st h, LR a b → R (jmpX t a st (sh, h)) (jmpY t b st (sh, h)))
    (ins : aI) (hok : okI ins = true) (lsX lsY : aL) (hl : LR lsX lsY) (st : List aV) (h : aH) :
    R (am_1 ftab na limX badX brX ckX callX spX retX cutX i ins lsX st (sh, h) nxtX jmpX) (am_1 ftab na limY badY brY ckY callY spY retY cutY i ins lsY st (sh, h) nxtY jmpY) := by
  cases ins
  case aaload => delta am_1; dsimp only; rcases st with _ | ⟨v | v | v, _ | ⟨w | w | w, st⟩⟩ <;> (first | exact hbad _ | (generalize am_kd sh _ = kk; split <;> (first | exact hbad _ | exact hck _ _ _ _ (am_aal_par R hbad hbr (fun _ => hnxt _ _ _ _ hl) _ _) | (split <;> first | exact hbad _ | exact hck _ _ _ _ (am_aal_par R hbad hbr (fun _ => hnxt _ _ _ _ hl) _ _) | (exfalso; simp_all)))))
  case aastore => cases hok
  case aconst_null => exact hbad _
  case aload index => delta am_1; dsimp only; rcases hX : am_find index lsX with _ | v | v | v <;> (first | exact hbad _ | (rw [hfd hl hX]; dsimp only; cases (Nat.beq v 0 || Nat.beq v 8) <;> (first | exact hbad _ | exact hnxt _ _ _ _ hl | exact hnxt _ _ _ _ (hs1 _ _ hl) | exact hnxt _ _ _ _ (hs2 _ _ hl) | exact hck _ _ _ _ (hnxt _ _ _ _ hl) | exact hck _ _ _ _ (hnxt _ _ _ _ (hs1 _ _ hl)) | exact hck _ _ _ _ (hck _ _ _ _ (hnxt _ _ _ _ hl)) | exact hjmp _ _ _ _ _ hl | exact hbr _ _ _ _ _ _ (hjmp _ _ _ _ _ hl) (hnxt _ _ _ _ hl) | exact hret _ _ | exact hck _ _ _ _ (hret _ _) | exact hcut _ _ _ _ _ hl)))
  case aload_n => exact hbad _
  case anewarray => cases hok
  case areturn => exact hbad _
  case arraylength => delta am_1; dsimp only; rcases st with _ | ⟨v | v | v, st⟩ <;> (first | exact hbad _ | (generalize am_kd sh _ = kk; split <;> (first | (first | exact hbad _ | exact hnxt _ _ _ _ hl | exact hnxt _ _ _ _ (hs1 _ _ hl) | exact hnxt _ _ _ _ (hs2 _ _ hl) | exact hck _ _ _ _ (hnxt _ _ _ _ hl) | exact hck _ _ _ _ (hnxt _ _ _ _ (hs1 _ _ hl)) | exact hck _ _ _ _ (hck _ _ _ _ (hnxt _ _ _ _ hl)) | exact hjmp _ _ _ _ _ hl | exact hbr _ _ _ _ _ _ (hjmp _ _ _ _ _ hl) (hnxt _ _ _ _ hl) | exact hret _ _ | exact hck _ _ _ _ (hret _ _) | exact hcut _ _ _ _ _ hl) | (split <;> first | (first | exact hbad _ | exact hnxt _ _ _ _ hl | exact hnxt _ _ _ _ (hs1 _ _ hl) | exact hnxt _ _ _ _ (hs2 _ _ hl) | exact hck _ _ _ _ (hnxt _ _ _ _ hl) | exact hck _ _ _ _ (hnxt _ _ _ _ (hs1 _ _ hl)) | exact hck _ _ _ _ (hck _ _ _ _ (hnxt _ _ _ _ hl)) | exact hjmp _ _ _ _ _ hl | exact hbr _ _ _ _ _ _ (hjmp _ _ _ _ _ hl) (hnxt _ _ _ _ hl) | exact hret _ _ | exact hck _ _ _ _ (hret _ _) | exact hcut _ _ _ _ _ hl) | (exfalso; simp_all)))))
  case astore index => delta am_1; dsimp only; rcases st with _ | ⟨v | v | v, st⟩ <;> (first | exact hbad _ | (dsimp only; cases (Nat.beq v 0 || Nat.beq v 8) <;> (first | exact hbad _ | exact hnxt _ _ _ _ hl | exact hnxt _ _ _ _ (hs1 _ _ hl) | exact hnxt _ _ _ _ (hs2 _ _ hl) | exact hck _ _ _ _ (hnxt _ _ _ _ hl) | exact hck _ _ _ _ (hnxt _ _ _ _ (hs1 _ _ hl)) | exact hck _ _ _ _ (hck _ _ _ _ (hnxt _ _ _ _ hl)) | exact hjmp _ _ _ _ _ hl | exact hbr _ _ _ _ _ _ (hjmp _ _ _ _ _ hl) (hnxt _ _ _ _ hl) | exact hret _ _ | exact hck _ _ _ _ (hret _ _) | exact hcut _ _ _ _ _ hl)))
  case astore_n => exact hbad _
  case athrow => exact hbad _
  case baload => delta am_1; dsimp only; rcases st with _ | ⟨v | v | v, _ | ⟨w | w | w, st⟩⟩ <;> (first | exact hbad _ | (generalize am_kd sh _ = kk; split <;> (first | (first | exact hbad _ | exact hnxt _ _ _ _ hl | exact hnxt _ _ _ _ (hs1 _ _ hl) | exact hnxt _ _ _ _ (hs2 _ _ hl) | exact hck _ _ _ _ (hnxt _ _ _ _ hl) | exact hck _ _ _ _ (hnxt _ _ _ _ (hs1 _ _ hl)) | exact hck _ _ _ _ (hck _ _ _ _ (hnxt _ _ _ _ hl)) | exact hjmp _ _ _ _ _ hl | exact hbr _ _ _ _ _ _ (hjmp _ _ _ _ _ hl) (hnxt _ _ _ _ hl) | exact hret _ _ | exact hck _ _ _ _ (hret _ _) | exact hcut _ _ _ _ _ hl) | (split <;> first | (first | exact hbad _ | exact hnxt _ _ _ _ hl | exact hnxt _ _ _ _ (hs1 _ _ hl) | exact hnxt _ _ _ _ (hs2 _ _ hl) | exact hck _ _ _ _ (hnxt _ _ _ _ hl) | exact hck _ _ _ _ (hnxt _ _ _ _ (hs1 _ _ hl)) | exact hck _ _ _ _ (hck _ _ _ _ (hnxt _ _ _ _ hl)) | exact hjmp _ _ _ _ _ hl | exact hbr _ _ _ _ _ _ (hjmp _ _ _ _ _ hl) (hnxt _ _ _ _ hl) | exact hret _ _ | exact hck _ _ _ _ (hret _ _) | exact hcut _ _ _ _ _ hl) | (exfalso; simp_all)))))
  case bastore => delta am_1; dsimp only; rcases st with _ | ⟨v | v | v, _ | ⟨w | w | w, _ | ⟨u | u | u, st⟩⟩⟩ <;> (first | exact hbad _ | (generalize am_kd sh _ = kk; split <;> (first | (first | exact hbad _ | exact hnxt _ _ _ _ hl | exact hnxt _ _ _ _ (hs1 _ _ hl) | exact hnxt _ _ _ _ (hs2 _ _ hl) | exact hck _ _ _ _ (hnxt _ _ _ _ hl) | exact hck _ _ _ _ (hnxt _ _ _ _ (hs1 _ _ hl)) | exact hck _ _ _ _ (hck _ _ _ _ (hnxt _ _ _ _ hl)) | exact hjmp _ _ _ _ _ hl | exact hbr _ _ _ _ _ _ (hjmp _ _ _ _ _ hl) (hnxt _ _ _ _ hl) | exact hret _ _ | exact hck _ _ _ _ (hret _ _) | exact hcut _ _ _ _ _ hl) | (split <;> first | (first | exact hbad _ | exact hnxt _ _ _ _ hl | exact hnxt _ _ _ _ (hs1 _ _ hl) | exact hnxt _ _ _ _ (hs2 _ _ hl) | exact hck _ _ _ _ (hnxt _ _ _ _ hl) | exact hck _ _ _ _ (hnxt _ _ _ _ (hs1 _ _ hl)) | exact hck _ _ _ _ (hck _ _ _ _ (hnxt _ _ _ _ hl)) | exact hjmp _ _ _ _ _ hl | exact hbr _ _ _ _ _ _ (hjmp _ _ _ _ _ hl) (hnxt _ _ _ _ hl) | exact hret _ _ | exact hck _ _ _ _ (hret _ _) | exact hcut _ _ _ _ _ hl) | (exfalso; simp_all)))))
  case bipush byte => delta am_1; dsimp only; (first | exact hbad _ | exact hnxt _ _ _ _ hl | exact hnxt _ _ _ _ (hs1 _ _ hl) | exact hnxt _ _ _ _ (hs2 _ _ hl) | exact hck _ _ _ _ (hnxt _ _ _ _ hl) | exact hck _ _ _ _ (hnxt _ _ _ _ (hs1 _ _ hl)) | exact hck _ _ _ _ (hck _ _ _ _ (hnxt _ _ _ _ hl)) | exact hjmp _ _ _ _ _ hl | exact hbr _ _ _ _ _ _ (hjmp _ _ _ _ _ hl) (hnxt _ _ _ _ hl) | exact hret _ _ | exact hck _ _ _ _ (hret _ _) | exact hcut _ _ _ _ _ hl)
  case caload => exact hbad _
  case castore => exact hbad _
  case checkcast => exact hbad _
  case d2f => exact hbad _
  case d2i => exact hbad _
  case d2l => exact hbad _
  case dadd => delta am_1; dsimp only; exact am_binLC_par R hbad hck (fun _ => hnxt _ _ _ _ hl) st
  case daload => exact hbad _
  case dastore => exact hbad _
  case dcmp => exact hbad _
  case dconst => exact hbad _
  case ddiv => exact hbad _
  case dload => exact hbad _
  case dload_n => exact hbad _
  case dmul => delta am_1; dsimp only; exact am_binLC_par R hbad hck (fun _ => hnxt _ _ _ _ hl) st
  case dneg => exact hbad _
  case drem => exact hbad _
  case dreturn => delta am_1; dsimp only; rcases st with _ | ⟨v | v | v, _ | ⟨w, st⟩⟩ <;> (first | exact hbad _ | exact hnxt _ _ _ _ hl | exact hnxt _ _ _ _ (hs1 _ _ hl) | exact hnxt _ _ _ _ (hs2 _ _ hl) | exact hck _ _ _ _ (hnxt _ _ _ _ hl) | exact hck _ _ _ _ (hnxt _ _ _ _ (hs1 _ _ hl)) | exact hck _ _ _ _ (hck _ _ _ _ (hnxt _ _ _ _ hl)) | exact hjmp _ _ _ _ _ hl | exact hbr _ _ _ _ _ _ (hjmp _ _ _ _ _ hl) (hnxt _ _ _ _ hl) | exact hret _ _ | exact hck _ _ _ _ (hret _ _) | exact hcut _ _ _ _ _ hl)
  case dstore => exact hbad _
  case dstore_n => exact hbad _
  case dsub => delta am_1; dsimp only; exact am_binLC_par R hbad hck (fun _ => hnxt _ _ _ _ hl) st
  case dup => delta am_1; dsimp only; rcases st with _ | ⟨v | v | v, st⟩ <;> (first | exact hbad _ | exact hnxt _ _ _ _ hl | exact hnxt _ _ _ _ (hs1 _ _ hl) | exact hnxt _ _ _ _ (hs2 _ _ hl) | exact hck _ _ _ _ (hnxt _ _ _ _ hl) | exact hck _ _ _ _ (hnxt _ _ _ _ (hs1 _ _ hl)) | exact hck _ _ _ _ (hck _ _ _ _ (hnxt _ _ _ _ hl)) | exact hjmp _ _ _ _ _ hl | exact hbr _ _ _ _ _ _ (hjmp _ _ _ _ _ hl) (hnxt _ _ _ _ hl) | exact hret _ _ | exact hck _ _ _ _ (hret _ _) | exact hcut _ _ _ _ _ hl)
  case dup_x1 => exact hbad _
  case dup_x2 => exact hbad _
  case dup2 => delta am_1; dsimp only; rcases st with _ | ⟨v | v | v, _ | ⟨w | w | w, st⟩⟩ <;> (first | exact hbad _ | exact hnxt _ _ _ _ hl | exact hnxt _ _ _ _ (hs1 _ _ hl) | exact hnxt _ _ _ _ (hs2 _ _ hl) | exact hck _ _ _ _ (hnxt _ _ _ _ hl) | exact hck _ _ _ _ (hnxt _ _ _ _ (hs1 _ _ hl)) | exact hck _ _ _ _ (hck _ _ _ _ (hnxt _ _ _ _ hl)) | exact hjmp _ _ _ _ _ hl | exact hbr _ _ _ _ _ _ (hjmp _ _ _ _ _ hl) (hnxt _ _ _ _ hl) | exact hret _ _ | exact hck _ _ _ _ (hret _ _) | exact hcut _ _ _ _ _ hl)
  case dup2_x1 => exact hbad _
  case dup2_x2 => exact hbad _
  case f2d => exact hbad _
  case f2i => exact hbad _
  case f2l => exact hbad _
  case fadd => delta am_1; dsimp only; exact am_binC_par R hbad hck (fun _ => hnxt _ _ _ _ hl) st
  case faload => exact hbad _
  case fastore => exact hbad _
  case fcmp => exact hbad _
  case fconst => exact hbad _
  case fdiv => exact hbad _
  case fload => exact hbad _
  case fload_n => exact hbad _
  case fmul => delta am_1; dsimp only; exact am_binC_par R hbad hck (fun _ => hnxt _ _ _ _ hl) st
  case fneg => exact hbad _
  case frem => exact hbad _
  case freturn => delta am_1; dsimp only; rcases st with _ | ⟨v | v | v, _ | ⟨w, st⟩⟩ <;> (first | exact hbad _ | exact hnxt _ _ _ _ hl | exact hnxt _ _ _ _ (hs1 _ _ hl) | exact hnxt _ _ _ _ (hs2 _ _ hl) | exact hck _ _ _ _ (hnxt _ _ _ _ hl) | exact hck _ _ _ _ (hnxt _ _ _ _ (hs1 _ _ hl)) | exact hck _ _ _ _ (hck _ _ _ _ (hnxt _ _ _ _ hl)) | exact hjmp _ _ _ _ _ hl | exact hbr _ _ _ _ _ _ (hjmp _ _ _ _ _ hl) (hnxt _ _ _ _ hl) | exact hret _ _ | exact hck _ _ _ _ (hret _ _) | exact hcut _ _ _ _ _ hl)
  case fstore => exact hbad _
  case fstore_n => exact hbad _
  case fsub => delta am_1; dsimp only; exact am_binC_par R hbad hck (fun _ => hnxt _ _ _ _ hl) st
  case getfield index => delta am_1; dsimp only; rcases st with _ | ⟨v | v | v, st⟩ <;> (first | exact hbad _ | (dsimp only; cases am_isO sh _ _ <;> (first | exact hbad _ | exact hnxt _ _ _ _ hl | exact hnxt _ _ _ _ (hs1 _ _ hl) | exact hnxt _ _ _ _ (hs2 _ _ hl) | exact hck _ _ _ _ (hnxt _ _ _ _ hl) | exact hck _ _ _ _ (hnxt _ _ _ _ (hs1 _ _ hl)) | exact hck _ _ _ _ (hck _ _ _ _ (hnxt _ _ _ _ hl)) | exact hjmp _ _ _ _ _ hl | exact hbr _ _ _ _ _ _ (hjmp _ _ _ _ _ hl) (hnxt _ _ _ _ hl) | exact hret _ _ | exact hck _ _ _ _ (hret _ _) | exact hcut _ _ _ _ _ hl)))
  case getstatic index => delta am_1; dsimp only; (first | exact hbad _ | exact hnxt _ _ _ _ hl | exact hnxt _ _ _ _ (hs1 _ _ hl) | exact hnxt _ _ _ _ (hs2 _ _ hl) | exact hck _ _ _ _ (hnxt _ _ _ _ hl) | exact hck _ _ _ _ (hnxt _ _ _ _ (hs1 _ _ hl)) | exact hck _ _ _ _ (hck _ _ _ _ (hnxt _ _ _ _ hl)) | exact hjmp _ _ _ _ _ hl | exact hbr _ _ _ _ _ _ (hjmp _ _ _ _ _ hl) (hnxt _ _ _ _ hl) | exact hret _ _ | exact hck _ _ _ _ (hret _ _) | exact hcut _ _ _ _ _ hl)
  case goto offset => delta am_1; dsimp only; (first | exact hbad _ | exact hnxt _ _ _ _ hl | exact hnxt _ _ _ _ (hs1 _ _ hl) | exact hnxt _ _ _ _ (hs2 _ _ hl) | exact hck _ _ _ _ (hnxt _ _ _ _ hl) | exact hck _ _ _ _ (hnxt _ _ _ _ (hs1 _ _ hl)) | exact hck _ _ _ _ (hck _ _ _ _ (hnxt _ _ _ _ hl)) | exact hjmp _ _ _ _ _ hl | exact hbr _ _ _ _ _ _ (hjmp _ _ _ _ _ hl) (hnxt _ _ _ _ hl) | exact hret _ _ | exact hck _ _ _ _ (hret _ _) | exact hcut _ _ _ _ _ hl)
  case goto_w => exact hbad _
  case i2b => delta am_1; dsimp only; rcases st with _ | ⟨v | v | v, st⟩ <;> (first | exact hbad _ | exact hnxt _ _ _ _ hl | exact hnxt _ _ _ _ (hs1 _ _ hl) | exact hnxt _ _ _ _ (hs2 _ _ hl) | exact hck _ _ _ _ (hnxt _ _ _ _ hl) | exact hck _ _ _ _ (hnxt _ _ _ _ (hs1 _ _ hl)) | exact hck _ _ _ _ (hck _ _ _ _ (hnxt _ _ _ _ hl)) | exact hjmp _ _ _ _ _ hl | exact hbr _ _ _ _ _ _ (hjmp _ _ _ _ _ hl) (hnxt _ _ _ _ hl) | exact hret _ _ | exact hck _ _ _ _ (hret _ _) | exact hcut _ _ _ _ _ hl)
  case i2c => delta am_1; dsimp only; rcases st with _ | ⟨v | v | v, st⟩ <;> (first | exact hbad _ | exact hnxt _ _ _ _ hl | exact hnxt _ _ _ _ (hs1 _ _ hl) | exact hnxt _ _ _ _ (hs2 _ _ hl) | exact hck _ _ _ _ (hnxt _ _ _ _ hl) | exact hck _ _ _ _ (hnxt _ _ _ _ (hs1 _ _ hl)) | exact hck _ _ _ _ (hck _ _ _ _ (hnxt _ _ _ _ hl)) | exact hjmp _ _ _ _ _ hl | exact hbr _ _ _ _ _ _ (hjmp _ _ _ _ _ hl) (hnxt _ _ _ _ hl) | exact hret _ _ | exact hck _ _ _ _ (hret _ _) | exact hcut _ _ _ _ _ hl)
  case i2d => exact hbad _
  case i2f => exact hbad _
  case i2l => delta am_1; dsimp only; rcases st with _ | ⟨v | v | v, st⟩ <;> (first | exact hbad _ | exact hnxt _ _ _ _ hl | exact hnxt _ _ _ _ (hs1 _ _ hl) | exact hnxt _ _ _ _ (hs2 _ _ hl) | exact hck _ _ _ _ (hnxt _ _ _ _ hl) | exact hck _ _ _ _ (hnxt _ _ _ _ (hs1 _ _ hl)) | exact hck _ _ _ _ (hck _ _ _ _ (hnxt _ _ _ _ hl)) | exact hjmp _ _ _ _ _ hl | exact hbr _ _ _ _ _ _ (hjmp _ _ _ _ _ hl) (hnxt _ _ _ _ hl) | exact hret _ _ | exact hck _ _ _ _ (hret _ _) | exact hcut _ _ _ _ _ hl)
  case i2s => exact hbad _
  case iadd => delta am_1; dsimp only; exact am_bin_par R hbad (fun _ => hnxt _ _ _ _ hl) st
  case iaload => delta am_1; dsimp only; rcases st with _ | ⟨v | v | v, _ | ⟨w | w | w, st⟩⟩ <;> (first | exact hbad _ | (generalize am_kd sh _ = kk; split <;> (first | (first | exact hbad _ | exact hnxt _ _ _ _ hl | exact hnxt _ _ _ _ (hs1 _ _ hl) | exact hnxt _ _ _ _ (hs2 _ _ hl) | exact hck _ _ _ _ (hnxt _ _ _ _ hl) | exact hck _ _ _ _ (hnxt _ _ _ _ (hs1 _ _ hl)) | exact hck _ _ _ _ (hck _ _ _ _ (hnxt _ _ _ _ hl)) | exact hjmp _ _ _ _ _ hl | exact hbr _ _ _ _ _ _ (hjmp _ _ _ _ _ hl) (hnxt _ _ _ _ hl) | exact hret _ _ | exact hck _ _ _ _ (hret _ _) | exact hcut _ _ _ _ _ hl) | (split <;> first | (first | exact hbad _ | exact hnxt _ _ _ _ hl | exact hnxt _ _ _ _ (hs1 _ _ hl) | exact hnxt _ _ _ _ (hs2 _ _ hl) | exact hck _ _ _ _ (hnxt _ _ _ _ hl) | exact hck _ _ _ _ (hnxt _ _ _ _ (hs1 _ _ hl)) | exact hck _ _ _ _ (hck _ _ _ _ (hnxt _ _ _ _ hl)) | exact hjmp _ _ _ _ _ hl | exact hbr _ _ _ _ _ _ (hjmp _ _ _ _ _ hl) (hnxt _ _ _ _ hl) | exact hret _ _ | exact hck _ _ _ _ (hret _ _) | exact hcut _ _ _ _ _ hl) | (exfalso; simp_all)))))
  case iand => delta am_1; dsimp only; exact am_bin_par R hbad (fun _ => hnxt _ _ _ _ hl) st
  case iastore => delta am_1; dsimp only; rcases st with _ | ⟨v | v | v, _ | ⟨w | w | w, _ | ⟨u | u | u, st⟩⟩⟩ <;> (first | exact hbad _ | (generalize am_kd sh _ = kk; split <;> (first | (first | exact hbad _ | exact hnxt _ _ _ _ hl | exact hnxt _ _ _ _ (hs1 _ _ hl) | exact hnxt _ _ _ _ (hs2 _ _ hl) | exact hck _ _ _ _ (hnxt _ _ _ _ hl) | exact hck _ _ _ _ (hnxt _ _ _ _ (hs1 _ _ hl)) | exact hck _ _ _ _ (hck _ _ _ _ (hnxt _ _ _ _ hl)) | exact hjmp _ _ _ _ _ hl | exact hbr _ _ _ _ _ _ (hjmp _ _ _ _ _ hl) (hnxt _ _ _ _ hl) | exact hret _ _ | exact hck _ _ _ _ (hret _ _) | exact hcut _ _ _ _ _ hl) | (split <;> first | (first | exact hbad _ | exact hnxt _ _ _ _ hl | exact hnxt _ _ _ _ (hs1 _ _ hl) | exact hnxt _ _ _ _ (hs2 _ _ hl) | exact hck _ _ _ _ (hnxt _ _ _ _ hl) | exact hck _ _ _ _ (hnxt _ _ _ _ (hs1 _ _ hl)) | exact hck _ _ _ _ (hck _ _ _ _ (hnxt _ _ _ _ hl)) | exact hjmp _ _ _ _ _ hl | exact hbr _ _ _ _ _ _ (hjmp _ _ _ _ _ hl) (hnxt _ _ _ _ hl) | exact hret _ _ | exact hck _ _ _ _ (hret _ _) | exact hcut _ _ _ _ _ hl) | (exfalso; simp_all)))))
  case iconst i => delta am_1; dsimp only; (first | exact hbad _ | exact hnxt _ _ _ _ hl | exact hnxt _ _ _ _ (hs1 _ _ hl) | exact hnxt _ _ _ _ (hs2 _ _ hl) | exact hck _ _ _ _ (hnxt _ _ _ _ hl) | exact hck _ _ _ _ (hnxt _ _ _ _ (hs1 _ _ hl)) | exact hck _ _ _ _ (hck _ _ _ _ (hnxt _ _ _ _ hl)) | exact hjmp _ _ _ _ _ hl | exact hbr _ _ _ _ _ _ (hjmp _ _ _ _ _ hl) (hnxt _ _ _ _ hl) | exact hret _ _ | exact hck _ _ _ _ (hret _ _) | exact hcut _ _ _ _ _ hl)
  case idiv => delta am_1; dsimp only; rcases st with _ | ⟨v | v | v, _ | ⟨w | w | w, st⟩⟩ <;> (first | exact hbad _ | exact hnxt _ _ _ _ hl | exact hnxt _ _ _ _ (hs1 _ _ hl) | exact hnxt _ _ _ _ (hs2 _ _ hl) | exact hck _ _ _ _ (hnxt _ _ _ _ hl) | exact hck _ _ _ _ (hnxt _ _ _ _ (hs1 _ _ hl)) | exact hck _ _ _ _ (hck _ _ _ _ (hnxt _ _ _ _ hl)) | exact hjmp _ _ _ _ _ hl | exact hbr _ _ _ _ _ _ (hjmp _ _ _ _ _ hl) (hnxt _ _ _ _ hl) | exact hret _ _ | exact hck _ _ _ _ (hret _ _) | exact hcut _ _ _ _ _ hl)
  case if_acmp => exact hbad _
  case if_icmp cond offset => delta am_1; dsimp only; rcases st with _ | ⟨v | v | v, _ | ⟨w | w | w, st⟩⟩ <;> (first | exact hbad _ | exact hnxt _ _ _ _ hl | exact hnxt _ _ _ _ (hs1 _ _ hl) | exact hnxt _ _ _ _ (hs2 _ _ hl) | exact hck _ _ _ _ (hnxt _ _ _ _ hl) | exact hck _ _ _ _ (hnxt _ _ _ _ (hs1 _ _ hl)) | exact hck _ _ _ _ (hck _ _ _ _ (hnxt _ _ _ _ hl)) | exact hjmp _ _ _ _ _ hl | exact hbr _ _ _ _ _ _ (hjmp _ _ _ _ _ hl) (hnxt _ _ _ _ hl) | exact hret _ _ | exact hck _ _ _ _ (hret _ _) | exact hcut _ _ _ _ _ hl)
  case ifCond cond offset => delta am_1; dsimp only; rcases st with _ | ⟨v | v | v, st⟩ <;> (first | exact hbad _ | exact hnxt _ _ _ _ hl | exact hnxt _ _ _ _ (hs1 _ _ hl) | exact hnxt _ _ _ _ (hs2 _ _ hl) | exact hck _ _ _ _ (hnxt _ _ _ _ hl) | exact hck _ _ _ _ (hnxt _ _ _ _ (hs1 _ _ hl)) | exact hck _ _ _ _ (hck _ _ _ _ (hnxt _ _ _ _ hl)) | exact hjmp _ _ _ _ _ hl | exact hbr _ _ _ _ _ _ (hjmp _ _ _ _ _ hl) (hnxt _ _ _ _ hl) | exact hret _ _ | exact hck _ _ _ _ (hret _ _) | exact hcut _ _ _ _ _ hl)
  case ifnonnull => exact hbad _
  case ifnull => exact hbad _
  case iinc index const => delta am_1; dsimp only; rcases hX : am_find index lsX with _ | v | v | v <;> (first | exact hbad _ | (rw [hfd hl hX]; (first | exact hbad _ | exact hnxt _ _ _ _ hl | exact hnxt _ _ _ _ (hs1 _ _ hl) | exact hnxt _ _ _ _ (hs2 _ _ hl) | exact hck _ _ _ _ (hnxt _ _ _ _ hl) | exact hck _ _ _ _ (hnxt _ _ _ _ (hs1 _ _ hl)) | exact hck _ _ _ _ (hck _ _ _ _ (hnxt _ _ _ _ hl)) | exact hjmp _ _ _ _ _ hl | exact hbr _ _ _ _ _ _ (hjmp _ _ _ _ _ hl) (hnxt _ _ _ _ hl) | exact hret _ _ | exact hck _ _ _ _ (hret _ _) | exact hcut _ _ _ _ _ hl)))
  case iload index => delta am_1; dsimp only; rcases hX : am_find index lsX with _ | v | v | v <;> (first | exact hbad _ | (rw [hfd hl hX]; (first | exact hbad _ | exact hnxt _ _ _ _ hl | exact hnxt _ _ _ _ (hs1 _ _ hl) | exact hnxt _ _ _ _ (hs2 _ _ hl) | exact hck _ _ _ _ (hnxt _ _ _ _ hl) | exact hck _ _ _ _ (hnxt _ _ _ _ (hs1 _ _ hl)) | exact hck _ _ _ _ (hck _ _ _ _ (hnxt _ _ _ _ hl)) | exact hjmp _ _ _ _ _ hl | exact hbr _ _ _ _ _ _ (hjmp _ _ _ _ _ hl) (hnxt _ _ _ _ hl) | exact hret _ _ | exact hck _ _ _ _ (hret _ _) | exact hcut _ _ _ _ _ hl)))
  case iload_n => exact hbad _
  case imul => delta am_1; dsimp only; exact am_bin_par R hbad (fun _ => hnxt _ _ _ _ hl) st
  case ineg => delta am_1; dsimp only; rcases st with _ | ⟨v | v | v, st⟩ <;> (first | exact hbad _ | exact hnxt _ _ _ _ hl | exact hnxt _ _ _ _ (hs1 _ _ hl) | exact hnxt _ _ _ _ (hs2 _ _ hl) | exact hck _ _ _ _ (hnxt _ _ _ _ hl) | exact hck _ _ _ _ (hnxt _ _ _ _ (hs1 _ _ hl)) | exact hck _ _ _ _ (hck _ _ _ _ (hnxt _ _ _ _ hl)) | exact hjmp _ _ _ _ _ hl | exact hbr _ _ _ _ _ _ (hjmp _ _ _ _ _ hl) (hnxt _ _ _ _ hl) | exact hret _ _ | exact hck _ _ _ _ (hret _ _) | exact hcut _ _ _ _ _ hl)
  case instanceof => exact hbad _
  case invokedynamic => exact hbad _
  case invokeinterface index count =>
    delta am_1; dsimp only
    rcases index with _ | _ | _ | _ | _ | index
    · rcases st with _ | ⟨v | v | v, st⟩ <;> (first | exact hbad _ | (dsimp only; cases (Nat.beq v 0 || Nat.beq v 8 || Nat.blt 8 (am_cat st)) <;> (first | exact hbad _ | exact hnxt _ _ _ _ hl | exact hnxt _ _ _ _ (hs1 _ _ hl) | exact hnxt _ _ _ _ (hs2 _ _ hl) | exact hck _ _ _ _ (hnxt _ _ _ _ hl) | exact hck _ _ _ _ (hnxt _ _ _ _ (hs1 _ _ hl)) | exact hck _ _ _ _ (hck _ _ _ _ (hnxt _ _ _ _ hl)) | exact hjmp _ _ _ _ _ hl | exact hbr _ _ _ _ _ _ (hjmp _ _ _ _ _ hl) (hnxt _ _ _ _ hl) | exact hret _ _ | exact hck _ _ _ _ (hret _ _) | exact hcut _ _ _ _ _ hl)))
    · rcases st with _ | ⟨v | v | v, _ | ⟨w | w | w, _ | ⟨u | u | u, st⟩⟩⟩ <;> (first | exact hbad _ | skip)
      rcases st with _ | ⟨v1 | v1 | v1, _ | ⟨v2 | v2 | v2, st⟩⟩ <;> (first | exact hbad _ | (dsimp only; split <;> (first | (first | exact hbad _ | exact hnxt _ _ _ _ hl | exact hnxt _ _ _ _ (hs1 _ _ hl) | exact hnxt _ _ _ _ (hs2 _ _ hl) | exact hck _ _ _ _ (hnxt _ _ _ _ hl) | exact hck _ _ _ _ (hnxt _ _ _ _ (hs1 _ _ hl)) | exact hck _ _ _ _ (hck _ _ _ _ (hnxt _ _ _ _ hl)) | exact hjmp _ _ _ _ _ hl | exact hbr _ _ _ _ _ _ (hjmp _ _ _ _ _ hl) (hnxt _ _ _ _ hl) | exact hret _ _ | exact hck _ _ _ _ (hret _ _) | exact hcut _ _ _ _ _ hl) | (split <;> first | (first | exact hbad _ | exact hnxt _ _ _ _ hl | exact hnxt _ _ _ _ (hs1 _ _ hl) | exact hnxt _ _ _ _ (hs2 _ _ hl) | exact hck _ _ _ _ (hnxt _ _ _ _ hl) | exact hck _ _ _ _ (hnxt _ _ _ _ (hs1 _ _ hl)) | exact hck _ _ _ _ (hck _ _ _ _ (hnxt _ _ _ _ hl)) | exact hjmp _ _ _ _ _ hl | exact hbr _ _ _ _ _ _ (hjmp _ _ _ _ _ hl) (hnxt _ _ _ _ hl) | exact hret _ _ | exact hck _ _ _ _ (hret _ _) | exact hcut _ _ _ _ _ hl) | (exfalso; simp_all)))) | (dsimp only; cases (!(Nat.beq v2 u) && Nat.ble (am_cat st) 8 && Nat.beq (am_kd sh v2) 1 && Nat.beq (am_kd sh u) 1) <;> (first | exact hbad _ | exact hnxt _ _ _ _ hl | exact hnxt _ _ _ _ (hs1 _ _ hl) | exact hnxt _ _ _ _ (hs2 _ _ hl) | exact hck _ _ _ _ (hnxt _ _ _ _ hl) | exact hck _ _ _ _ (hnxt _ _ _ _ (hs1 _ _ hl)) | exact hck _ _ _ _ (hck _ _ _ _ (hnxt _ _ _ _ hl)) | exact hjmp _ _ _ _ _ hl | exact hbr _ _ _ _ _ _ (hjmp _ _ _ _ _ hl) (hnxt _ _ _ _ hl) | exact hret _ _ | exact hck _ _ _ _ (hret _ _) | exact hcut _ _ _ _ _ hl)))
    · show R (cond (Nat.ble (am_cat st) 10) (am_bin badX (fun a b => max a b) (fun st => nxtX lsX st (sh, h)) st) badX) (cond (Nat.ble (am_cat st) 10) (am_bin badY (fun a b => max a b) (fun st => nxtY lsY st (sh, h)) st) badY)
      cases (Nat.ble (am_cat st) 10)
      · exact hbad _
      · exact am_bin_par (nX := fun st => nxtX lsX st (sh, h)) (nY := fun st => nxtY lsY st (sh, h)) R hbad (fun _ => hnxt _ _ _ _ hl) st
    · show R (cond (Nat.ble (am_cat st) 10) (am_bin badX (fun a b => min a b) (fun st => nxtX lsX st (sh, h)) st) badX) (cond (Nat.ble (am_cat st) 10) (am_bin badY (fun a b => min a b) (fun st => nxtY lsY st (sh, h)) st) badY)
      cases (Nat.ble (am_cat st) 10)
      · exact hbad _
      · exact am_bin_par (nX := fun st => nxtX lsX st (sh, h)) (nY := fun st => nxtY lsY st (sh, h)) R hbad (fun _ => hnxt _ _ _ _ hl) st
    · rcases st with _ | ⟨v | v | v, st⟩ <;> (first | exact hbad _ | (dsimp only; cases (Nat.ble (am_cat st) 8) <;> (first | exact hbad _ | exact hnxt _ _ _ _ hl | exact hnxt _ _ _ _ (hs1 _ _ hl) | exact hnxt _ _ _ _ (hs2 _ _ hl) | exact hck _ _ _ _ (hnxt _ _ _ _ hl) | exact hck _ _ _ _ (hnxt _ _ _ _ (hs1 _ _ hl)) | exact hck _ _ _ _ (hck _ _ _ _ (hnxt _ _ _ _ hl)) | exact hjmp _ _ _ _ _ hl | exact hbr _ _ _ _ _ _ (hjmp _ _ _ _ _ hl) (hnxt _ _ _ _ hl) | exact hret _ _ | exact hck _ _ _ _ (hret _ _) | exact hcut _ _ _ _ _ hl)))
    · exact hbad _
  case invokespecial => cases hok
  case invokestatic index => delta am_1; dsimp only; rcases am_pop (na index) [] st with _ | ⟨as, st⟩ <;> (first | exact hbad _ | (dsimp only; cases (Nat.ble (am_cat st) 8) <;> (first | exact hbad _ | exact hcall _ _ _ _ _ (fun _ _ => hnxt _ _ _ _ hl))))
  case invokevirtual index => delta am_1; dsimp only; rcases am_pop (na index) [] st with _ | ⟨_ | ⟨v | v | v, as⟩, st⟩ <;> (first | exact hbad _ | (dsimp only; cases (Nat.beq (am_kd sh _) (na (2000 + index)) && Nat.ble (am_cat st) 8) <;> (first | exact hbad _ | exact hcall _ _ _ _ _ (fun _ _ => hnxt _ _ _ _ hl))))
  case ior => delta am_1; dsimp only; exact am_bin_par R hbad (fun _ => hnxt _ _ _ _ hl) st
  case irem => delta am_1; dsimp only; rcases st with _ | ⟨v | v | v, _ | ⟨w | w | w, st⟩⟩ <;> (first | exact hbad _ | exact hnxt _ _ _ _ hl | exact hnxt _ _ _ _ (hs1 _ _ hl) | exact hnxt _ _ _ _ (hs2 _ _ hl) | exact hck _ _ _ _ (hnxt _ _ _ _ hl) | exact hck _ _ _ _ (hnxt _ _ _ _ (hs1 _ _ hl)) | exact hck _ _ _ _ (hck _ _ _ _ (hnxt _ _ _ _ hl)) | exact hjmp _ _ _ _ _ hl | exact hbr _ _ _ _ _ _ (hjmp _ _ _ _ _ hl) (hnxt _ _ _ _ hl) | exact hret _ _ | exact hck _ _ _ _ (hret _ _) | exact hcut _ _ _ _ _ hl)
  case ireturn => delta am_1; dsimp only; rcases st with _ | ⟨v | v | v, _ | ⟨w, st⟩⟩ <;> (first | exact hbad _ | exact hnxt _ _ _ _ hl | exact hnxt _ _ _ _ (hs1 _ _ hl) | exact hnxt _ _ _ _ (hs2 _ _ hl) | exact hck _ _ _ _ (hnxt _ _ _ _ hl) | exact hck _ _ _ _ (hnxt _ _ _ _ (hs1 _ _ hl)) | exact hck _ _ _ _ (hck _ _ _ _ (hnxt _ _ _ _ hl)) | exact hjmp _ _ _ _ _ hl | exact hbr _ _ _ _ _ _ (hjmp _ _ _ _ _ hl) (hnxt _ _ _ _ hl) | exact hret _ _ | exact hck _ _ _ _ (hret _ _) | exact hcut _ _ _ _ _ hl)
  case ishl => delta am_1; dsimp only; exact am_bin_par R hbad (fun _ => hnxt _ _ _ _ hl) st
  case ishr => delta am_1; dsimp only; exact am_bin_par R hbad (fun _ => hnxt _ _ _ _ hl) st
  case istore index => delta am_1; dsimp only; rcases st with _ | ⟨v | v | v, st⟩ <;> (first | exact hbad _ | exact hnxt _ _ _ _ hl | exact hnxt _ _ _ _ (hs1 _ _ hl) | exact hnxt _ _ _ _ (hs2 _ _ hl) | exact hck _ _ _ _ (hnxt _ _ _ _ hl) | exact hck _ _ _ _ (hnxt _ _ _ _ (hs1 _ _ hl)) | exact hck _ _ _ _ (hck _ _ _ _ (hnxt _ _ _ _ hl)) | exact hjmp _ _ _ _ _ hl | exact hbr _ _ _ _ _ _ (hjmp _ _ _ _ _ hl) (hnxt _ _ _ _ hl) | exact hret _ _ | exact hck _ _ _ _ (hret _ _) | exact hcut _ _ _ _ _ hl)
  case istore_n => exact hbad _
  case isub => delta am_1; dsimp only; exact am_bin_par R hbad (fun _ => hnxt _ _ _ _ hl) st
  case iushr => delta am_1; dsimp only; exact am_bin_par R hbad (fun _ => hnxt _ _ _ _ hl) st
  case ixor => delta am_1; dsimp only; exact am_bin_par R hbad (fun _ => hnxt _ _ _ _ hl) st
  case jsr => exact hbad _
  case jsr_w => exact hbad _
  case l2d => exact hbad _
  case l2f => exact hbad _
  case l2i => delta am_1; dsimp only; rcases st with _ | ⟨v | v | v, st⟩ <;> (first | exact hbad _ | exact hnxt _ _ _ _ hl | exact hnxt _ _ _ _ (hs1 _ _ hl) | exact hnxt _ _ _ _ (hs2 _ _ hl) | exact hck _ _ _ _ (hnxt _ _ _ _ hl) | exact hck _ _ _ _ (hnxt _ _ _ _ (hs1 _ _ hl)) | exact hck _ _ _ _ (hck _ _ _ _ (hnxt _ _ _ _ hl)) | exact hjmp _ _ _ _ _ hl | exact hbr _ _ _ _ _ _ (hjmp _ _ _ _ _ hl) (hnxt _ _ _ _ hl) | exact hret _ _ | exact hck _ _ _ _ (hret _ _) | exact hcut _ _ _ _ _ hl)
  case ladd => delta am_1; dsimp only; exact am_binL_par R hbad (fun _ => hnxt _ _ _ _ hl) st
  case laload => delta am_1; dsimp only; rcases st with _ | ⟨v | v | v, _ | ⟨w | w | w, st⟩⟩ <;> (first | exact hbad _ | (generalize am_kd sh _ = kk; split <;> (first | (first | exact hbad _ | exact hnxt _ _ _ _ hl | exact hnxt _ _ _ _ (hs1 _ _ hl) | exact hnxt _ _ _ _ (hs2 _ _ hl) | exact hck _ _ _ _ (hnxt _ _ _ _ hl) | exact hck _ _ _ _ (hnxt _ _ _ _ (hs1 _ _ hl)) | exact hck _ _ _ _ (hck _ _ _ _ (hnxt _ _ _ _ hl)) | exact hjmp _ _ _ _ _ hl | exact hbr _ _ _ _ _ _ (hjmp _ _ _ _ _ hl) (hnxt _ _ _ _ hl) | exact hret _ _ | exact hck _ _ _ _ (hret _ _) | exact hcut _ _ _ _ _ hl) | (split <;> first | (first | exact hbad _ | exact hnxt _ _ _ _ hl | exact hnxt _ _ _ _ (hs1 _ _ hl) | exact hnxt _ _ _ _ (hs2 _ _ hl) | exact hck _ _ _ _ (hnxt _ _ _ _ hl) | exact hck _ _ _ _ (hnxt _ _ _ _ (hs1 _ _ hl)) | exact hck _ _ _ _ (hck _ _ _ _ (hnxt _ _ _ _ hl)) | exact hjmp _ _ _ _ _ hl | exact hbr _ _ _ _ _ _ (hjmp _ _ _ _ _ hl) (hnxt _ _ _ _ hl) | exact hret _ _ | exact hck _ _ _ _ (hret _ _) | exact hcut _ _ _ _ _ hl) | (exfalso; simp_all)))))
  case land => delta am_1; dsimp only; exact am_binL_par R hbad (fun _ => hnxt _ _ _ _ hl) st
  case lastore => delta am_1; dsimp only; rcases st with _ | ⟨v | v | v, _ | ⟨w | w | w, _ | ⟨u | u | u, st⟩⟩⟩ <;> (first | exact hbad _ | (generalize am_kd sh _ = kk; split <;> (first | (first | exact hbad _ | exact hnxt _ _ _ _ hl | exact hnxt _ _ _ _ (hs1 _ _ hl) | exact hnxt _ _ _ _ (hs2 _ _ hl) | exact hck _ _ _ _ (hnxt _ _ _ _ hl) | exact hck _ _ _ _ (hnxt _ _ _ _ (hs1 _ _ hl)) | exact hck _ _ _ _ (hck _ _ _ _ (hnxt _ _ _ _ hl)) | exact hjmp _ _ _ _ _ hl | exact hbr _ _ _ _ _ _ (hjmp _ _ _ _ _ hl) (hnxt _ _ _ _ hl) | exact hret _ _ | exact hck _ _ _ _ (hret _ _) | exact hcut _ _ _ _ _ hl) | (split <;> first | (first | exact hbad _ | exact hnxt _ _ _ _ hl | exact hnxt _ _ _ _ (hs1 _ _ hl) | exact hnxt _ _ _ _ (hs2 _ _ hl) | exact hck _ _ _ _ (hnxt _ _ _ _ hl) | exact hck _ _ _ _ (hnxt _ _ _ _ (hs1 _ _ hl)) | exact hck _ _ _ _ (hck _ _ _ _ (hnxt _ _ _ _ hl)) | exact hjmp _ _ _ _ _ hl | exact hbr _ _ _ _ _ _ (hjmp _ _ _ _ _ hl) (hnxt _ _ _ _ hl) | exact hret _ _ | exact hck _ _ _ _ (hret _ _) | exact hcut _ _ _ _ _ hl) | (exfalso; simp_all)))))
  case lcmp => delta am_1; dsimp only; rcases st with _ | ⟨v | v | v, _ | ⟨w | w | w, st⟩⟩ <;> (first | exact hbad _ | exact hnxt _ _ _ _ hl | exact hnxt _ _ _ _ (hs1 _ _ hl) | exact hnxt _ _ _ _ (hs2 _ _ hl) | exact hck _ _ _ _ (hnxt _ _ _ _ hl) | exact hck _ _ _ _ (hnxt _ _ _ _ (hs1 _ _ hl)) | exact hck _ _ _ _ (hck _ _ _ _ (hnxt _ _ _ _ hl)) | exact hjmp _ _ _ _ _ hl | exact hbr _ _ _ _ _ _ (hjmp _ _ _ _ _ hl) (hnxt _ _ _ _ hl) | exact hret _ _ | exact hck _ _ _ _ (hret _ _) | exact hcut _ _ _ _ _ hl)
  case lconst => exact hbad _
  case ldc => exact hbad _
  case ldc_w => exact hbad _
  case ldc2_w => exact hbad _
  case ldiv => delta am_1; dsimp only; rcases st with _ | ⟨v | v | v, _ | ⟨w | w | w, st⟩⟩ <;> (first | exact hbad _ | exact hnxt _ _ _ _ hl | exact hnxt _ _ _ _ (hs1 _ _ hl) | exact hnxt _ _ _ _ (hs2 _ _ hl) | exact hck _ _ _ _ (hnxt _ _ _ _ hl) | exact hck _ _ _ _ (hnxt _ _ _ _ (hs1 _ _ hl)) | exact hck _ _ _ _ (hck _ _ _ _ (hnxt _ _ _ _ hl)) | exact hjmp _ _ _ _ _ hl | exact hbr _ _ _ _ _ _ (hjmp _ _ _ _ _ hl) (hnxt _ _ _ _ hl) | exact hret _ _ | exact hck _ _ _ _ (hret _ _) | exact hcut _ _ _ _ _ hl)
  case lload index => delta am_1; dsimp only; rcases hX : am_find index lsX with _ | v | v | v <;> (first | exact hbad _ | (rw [hfd hl hX]; (first | exact hbad _ | exact hnxt _ _ _ _ hl | exact hnxt _ _ _ _ (hs1 _ _ hl) | exact hnxt _ _ _ _ (hs2 _ _ hl) | exact hck _ _ _ _ (hnxt _ _ _ _ hl) | exact hck _ _ _ _ (hnxt _ _ _ _ (hs1 _ _ hl)) | exact hck _ _ _ _ (hck _ _ _ _ (hnxt _ _ _ _ hl)) | exact hjmp _ _ _ _ _ hl | exact hbr _ _ _ _ _ _ (hjmp _ _ _ _ _ hl) (hnxt _ _ _ _ hl) | exact hret _ _ | exact hck _ _ _ _ (hret _ _) | exact hcut _ _ _ _ _ hl)))
  case lload_n => exact hbad _
  case lmul => delta am_1; dsimp only; exact am_binL_par R hbad (fun _ => hnxt _ _ _ _ hl) st
  case lneg => exact hbad _
  case lookupswitch => exact hbad _
  case lor => exact hbad _
  case lrem => exact hbad _
  case lreturn => delta am_1; dsimp only; rcases st with _ | ⟨v | v | v, _ | ⟨w, st⟩⟩ <;> (first | exact hbad _ | exact hnxt _ _ _ _ hl | exact hnxt _ _ _ _ (hs1 _ _ hl) | exact hnxt _ _ _ _ (hs2 _ _ hl) | exact hck _ _ _ _ (hnxt _ _ _ _ hl) | exact hck _ _ _ _ (hnxt _ _ _ _ (hs1 _ _ hl)) | exact hck _ _ _ _ (hck _ _ _ _ (hnxt _ _ _ _ hl)) | exact hjmp _ _ _ _ _ hl | exact hbr _ _ _ _ _ _ (hjmp _ _ _ _ _ hl) (hnxt _ _ _ _ hl) | exact hret _ _ | exact hck _ _ _ _ (hret _ _) | exact hcut _ _ _ _ _ hl)
  case lshl => delta am_1; dsimp only; rcases st with _ | ⟨v | v | v, _ | ⟨w | w | w, st⟩⟩ <;> (first | exact hbad _ | exact hnxt _ _ _ _ hl | exact hnxt _ _ _ _ (hs1 _ _ hl) | exact hnxt _ _ _ _ (hs2 _ _ hl) | exact hck _ _ _ _ (hnxt _ _ _ _ hl) | exact hck _ _ _ _ (hnxt _ _ _ _ (hs1 _ _ hl)) | exact hck _ _ _ _ (hck _ _ _ _ (hnxt _ _ _ _ hl)) | exact hjmp _ _ _ _ _ hl | exact hbr _ _ _ _ _ _ (hjmp _ _ _ _ _ hl) (hnxt _ _ _ _ hl) | exact hret _ _ | exact hck _ _ _ _ (hret _ _) | exact hcut _ _ _ _ _ hl)
  case lshr => delta am_1; dsimp only; rcases st with _ | ⟨v | v | v, _ | ⟨w | w | w, st⟩⟩ <;> (first | exact hbad _ | exact hnxt _ _ _ _ hl | exact hnxt _ _ _ _ (hs1 _ _ hl) | exact hnxt _ _ _ _ (hs2 _ _ hl) | exact hck _ _ _ _ (hnxt _ _ _ _ hl) | exact hck _ _ _ _ (hnxt _ _ _ _ (hs1 _ _ hl)) | exact hck _ _ _ _ (hck _ _ _ _ (hnxt _ _ _ _ hl)) | exact hjmp _ _ _ _ _ hl | exact hbr _ _ _ _ _ _ (hjmp _ _ _ _ _ hl) (hnxt _ _ _ _ hl) | exact hret _ _ | exact hck _ _ _ _ (hret _ _) | exact hcut _ _ _ _ _ hl)
  case lstore index => delta am_1; dsimp only; rcases st with _ | ⟨v | v | v, st⟩ <;> (first | exact hbad _ | exact hnxt _ _ _ _ hl | exact hnxt _ _ _ _ (hs1 _ _ hl) | exact hnxt _ _ _ _ (hs2 _ _ hl) | exact hck _ _ _ _ (hnxt _ _ _ _ hl) | exact hck _ _ _ _ (hnxt _ _ _ _ (hs1 _ _ hl)) | exact hck _ _ _ _ (hck _ _ _ _ (hnxt _ _ _ _ hl)) | exact hjmp _ _ _ _ _ hl | exact hbr _ _ _ _ _ _ (hjmp _ _ _ _ _ hl) (hnxt _ _ _ _ hl) | exact hret _ _ | exact hck _ _ _ _ (hret _ _) | exact hcut _ _ _ _ _ hl)
  case lstore_n => exact hbad _
  case lsub => delta am_1; dsimp only; exact am_binL_par R hbad (fun _ => hnxt _ _ _ _ hl) st
  case lushr => delta am_1; dsimp only; rcases st with _ | ⟨v | v | v, _ | ⟨w | w | w, st⟩⟩ <;> (first | exact hbad _ | exact hnxt _ _ _ _ hl | exact hnxt _ _ _ _ (hs1 _ _ hl) | exact hnxt _ _ _ _ (hs2 _ _ hl) | exact hck _ _ _ _ (hnxt _ _ _ _ hl) | exact hck _ _ _ _ (hnxt _ _ _ _ (hs1 _ _ hl)) | exact hck _ _ _ _ (hck _ _ _ _ (hnxt _ _ _ _ hl)) | exact hjmp _ _ _ _ _ hl | exact hbr _ _ _ _ _ _ (hjmp _ _ _ _ _ hl) (hnxt _ _ _ _ hl) | exact hret _ _ | exact hck _ _ _ _ (hret _ _) | exact hcut _ _ _ _ _ hl)
  case lxor => delta am_1; dsimp only; exact am_binL_par R hbad (fun _ => hnxt _ _ _ _ hl) st
  case monitorenter => exact hbad _
  case monitorexit => exact hbad _
  case multianewarray => exact hbad _
  case new => cases hok
  case newarray => cases hok
  case nop => delta am_1; dsimp only; (first | exact hbad _ | exact hnxt _ _ _ _ hl | exact hnxt _ _ _ _ (hs1 _ _ hl) | exact hnxt _ _ _ _ (hs2 _ _ hl) | exact hck _ _ _ _ (hnxt _ _ _ _ hl) | exact hck _ _ _ _ (hnxt _ _ _ _ (hs1 _ _ hl)) | exact hck _ _ _ _ (hck _ _ _ _ (hnxt _ _ _ _ hl)) | exact hjmp _ _ _ _ _ hl | exact hbr _ _ _ _ _ _ (hjmp _ _ _ _ _ hl) (hnxt _ _ _ _ hl) | exact hret _ _ | exact hck _ _ _ _ (hret _ _) | exact hcut _ _ _ _ _ hl)
  case pop => delta am_1; dsimp only; rcases st with _ | ⟨v | v | v, st⟩ <;> (first | exact hbad _ | exact hnxt _ _ _ _ hl | exact hnxt _ _ _ _ (hs1 _ _ hl) | exact hnxt _ _ _ _ (hs2 _ _ hl) | exact hck _ _ _ _ (hnxt _ _ _ _ hl) | exact hck _ _ _ _ (hnxt _ _ _ _ (hs1 _ _ hl)) | exact hck _ _ _ _ (hck _ _ _ _ (hnxt _ _ _ _ hl)) | exact hjmp _ _ _ _ _ hl | exact hbr _ _ _ _ _ _ (hjmp _ _ _ _ _ hl) (hnxt _ _ _ _ hl) | exact hret _ _ | exact hck _ _ _ _ (hret _ _) | exact hcut _ _ _ _ _ hl)
  case pop2 => delta am_1; dsimp only; rcases st with _ | ⟨v | v | v, st⟩ <;> (first | exact hbad _ | exact hnxt _ _ _ _ hl | exact hnxt _ _ _ _ (hs1 _ _ hl) | exact hnxt _ _ _ _ (hs2 _ _ hl) | exact hck _ _ _ _ (hnxt _ _ _ _ hl) | exact hck _ _ _ _ (hnxt _ _ _ _ (hs1 _ _ hl)) | exact hck _ _ _ _ (hck _ _ _ _ (hnxt _ _ _ _ hl)) | exact hjmp _ _ _ _ _ hl | exact hbr _ _ _ _ _ _ (hjmp _ _ _ _ _ hl) (hnxt _ _ _ _ hl) | exact hret _ _ | exact hck _ _ _ _ (hret _ _) | exact hcut _ _ _ _ _ hl)
  case putfield index => delta am_1; dsimp only; rcases st with _ | ⟨v | v | v, _ | ⟨w | w | w, st⟩⟩ <;> (first | exact hbad _ | (dsimp only; cases (am_isO sh _ _ && Nat.ble 9 _) <;> (first | exact hbad _ | exact am_putf_par R hbad hck (fun _ => hnxt _ _ _ _ hl) hok)))
  case putstatic => exact hbad _
  case ret => exact hbad _
  case return_ => delta am_1; dsimp only; rcases st with _ | ⟨v | v | v, _ | ⟨w, st⟩⟩ <;> (first | exact hbad _ | exact hnxt _ _ _ _ hl | exact hnxt _ _ _ _ (hs1 _ _ hl) | exact hnxt _ _ _ _ (hs2 _ _ hl) | exact hck _ _ _ _ (hnxt _ _ _ _ hl) | exact hck _ _ _ _ (hnxt _ _ _ _ (hs1 _ _ hl)) | exact hck _ _ _ _ (hck _ _ _ _ (hnxt _ _ _ _ hl)) | exact hjmp _ _ _ _ _ hl | exact hbr _ _ _ _ _ _ (hjmp _ _ _ _ _ hl) (hnxt _ _ _ _ hl) | exact hret _ _ | exact hck _ _ _ _ (hret _ _) | exact hcut _ _ _ _ _ hl)
  case saload => exact hbad _
  case sastore => exact hbad _
  case sipush => exact hbad _
  case swap => exact hbad _
  case tableswitch default low high offsets => delta am_1; dsimp only; rcases st with _ | ⟨v | v | v, st⟩ <;> (first | exact hbad _ | exact hbr _ _ _ _ _ _ (hjmp _ _ _ _ _ hl) (am_sw_par R hbad hbr (fun _ => hjmp _ _ _ _ _ hl) _ _ _))
theorem okI_drop {code : List aI} {i t : Nat} (h : (code.drop i).all okI = true) (hit : i ≤ t) : (code.drop t).all okI = true := by
  rw [show t = i + (t - i) by omega, ← List.drop_drop]
  rw [List.all_eq_true] at h ⊢
  exact fun x hx => h x (List.mem_of_mem_drop hx)
theorem am_x_par {na : Nat → Nat} {limX limY : Nat × Nat} {callX : Nat → List aV → aS → (Option aV → aH → X) → X} {callY : Nat → List aV → aS → (Option aV → aH → Y) → Y} {spX : Nat → List aV → aS → (aS → X) → X} {spY : Nat → List aV → aS → (aS → Y) → Y} {retX : Option aV → aS → X} {retY : Option aV → aS → Y} {cutX : Nat → aL → List aV → aS → X} {cutY : Nat → aL → List aV → aS → Y} {sh : List aC} {code : List aI} {i0 : Nat}
    (LR : aL → aL → Prop) (hfd : ∀ {a b : aL}, LR a b → ∀ {k : Nat} {v : aV}, am_find k a = some v → am_find k b = some v) (hs1 : ∀ {a b : aL} (k : Nat) (v : aV), LR a b → LR (am_set1 k v a) (am_set1 k v b)) (hs2 : ∀ {a b : aL} (k : Nat) (v : aV), LR a b → LR (am_set2 k v a) (am_set2 k v b))
    (hbad : ∀ y, R badX y) (hbr : ∀ c d x x' y y', R x y → R x' y' → R (brX c d x x') (brY c d y y')) (hck : ∀ c d x y, R x y → R (ckX c d x) (ckY c d y))
    (hcall : ∀ id as h cX cY, (∀ v h, R (cX v h) (cY v h)) → R (callX id as (sh, h) cX) (callY id as (sh, h) cY)) (hret : ∀ v h, R (retX v (sh, h)) (retY v (sh, h))) (hcut : ∀ i a b st h, LR a b → R (cutX i a st (sh, h)) (cutY i b st (sh, h)))
    (hcode : (code.drop i0).all okI = true) : ∀ (f i : Nat) (rest : List aI) (lsX lsY : aL) (st : List aV) (h : aH), LR lsX lsY → i0 ≤ i → rest.all okI = true →
    R (am_x ftab na limX badX brX ckX callX spX retX cutX code f i rest lsX st (sh, h)) (am_x ftab na limY badY brY ckY callY spY retY cutY code f i rest lsY st (sh, h)) := by
  intro f
  induction f with
  | zero => intro i rest lsX lsY st h _ _ _; exact hbad _
  | succ f ih =>
    intro i rest lsX lsY st h hl hi hr
    rcases rest with _ | ⟨ins, rest⟩
    · exact hbad _
    · rw [List.all_cons, Bool.and_eq_true_iff] at hr
      refine am_1_par R LR hfd hs1 hs2 hbad hbr hck hcall hret hcut (fun a b st h hab => ih (i + 1) rest a b st h hab (by omega) hr.2) i (fun t a b st h hab => ?_) ins hr.1 lsX lsY hl st h
      show R (bif Nat.ble t i then _ else _) (bif Nat.ble t i then _ else _)
      cases hb : Nat.ble t i with
      | true => exact hcut _ _ _ _ _ hab
      | false =>
        have ht : i0 ≤ t := by
          rcases Nat.lt_or_ge i t with h1 | h1
          · omega
          · rw [Nat.ble_eq_true_of_le h1] at hb; cases hb
        exact ih t (code.drop t) a b st h hab ht (okI_drop hcode ht)
end PAR
end
section
/-! RUNS OVER THE CONTENTS ALONE: the shape stays as it is after both constructors -/
def SH (N : Nat) : List aC := [(0, 0, []), (6, N, []), (7, 9, []), (6, 8, []), (30, 2, [5, 0]), (8, 93, []), (30, 2, [7, 0]), (8, 10, []),
  (0, 0, []), (21, 12, [10, 35, 16, 58, 69, 92, 102, 110, 113, 121, 126, 0]), (20, 8, [11, 12, 13, 14, 15, 0, 0, 0]), (3, 2000, []), (2, 18, []), (1, 402, []), (1, 402, []), (2, 402, []),
  (13, 19, [17, 18, 19, 20, 21, 22, 23, 24, 25, 26, 27, 28, 29, 32, 0, 0, 0, 0, 0]), (1, 12, []), (1, 12, []), (1, 9, []), (1, 9, []), (1, 12, []), (1, 12, []), (1, 12, []),
  (1, 12, []), (1, 12, []), (1, 12, []), (1, 8, []), (1, 7, []), (14, 3, [30, 31, 0]), (1, 400, []), (1, 400, []),
  (14, 3, [33, 34, 0]), (1, 400, []), (1, 400, []), (16, 15, [10, 36, 55, 56, 0, 0, 57, 0, 0, 0, 0, 0, 0, 0, 0]), (13, 19, [37, 38, 39, 40, 41, 42, 43, 44, 45, 46, 47, 48, 49, 52, 0, 0, 0, 0, 0]), (1, 12, []), (1, 12, []), (1, 9, []),
  (1, 9, []), (1, 12, []), (1, 12, []), (1, 12, []), (1, 12, []), (1, 12, []), (1, 12, []), (1, 8, []),
  (1, 7, []), (14, 3, [50, 51, 0]), (1, 400, []), (1, 400, []), (14, 3, [53, 54, 0]), (1, 400, []), (1, 400, []), (2, 33, []),
  (1, 33, []), (1, 400, []), (19, 14, [59, 60, 61, 62, 63, 64, 65, 66, 67, 68, 0, 0, 0, 0]), (1, 8, []), (1, 8, []), (1, 8, []), (1, 8, []), (1, 12, []),
  (1, 12, []), (1, 60, []), (1, 60, []), (1, 60, []), (1, 4, []), (5, 2, [70, 81]), (19, 14, [71, 72, 73, 74, 75, 76, 77, 78, 79, 80, 0, 0, 0, 0]), (1, 8, []),
  (1, 8, []), (1, 8, []), (1, 8, []), (1, 12, []), (1, 12, []), (1, 60, []), (1, 60, []), (1, 60, []),
  (1, 4, []), (19, 14, [82, 83, 84, 85, 86, 87, 88, 89, 90, 91, 0, 0, 0, 0]), (1, 8, []), (1, 8, []), (1, 8, []), (1, 8, []), (1, 12, []), (1, 12, []),
  (1, 60, []), (1, 60, []), (1, 60, []), (1, 4, []), (15, 12, [16, 58, 93, 94, 95, 96, 97, 98, 99, 100, 101, 0]), (1, 8, []), (1, 8, []), (1, 8, []),
  (3, 4000, []), (1, 7, []), (1, 3, []), (1, 3, []), (1, 31, []), (2, 12, []), (10, 17, [16, 58, 92, 103, 104, 105, 106, 107, 108, 109, 0, 0, 0, 0, 0, 0, 0]), (1, 1728, []),
  (1, 1728, []), (1, 96, []), (2, 12, []), (2, 12, []), (2, 12, []), (2, 12, []), (12, 6, [16, 58, 92, 111, 112, 0]), (1, 144, []),
  (1, 4096, []), (18, 13, [16, 58, 114, 115, 116, 117, 118, 119, 120, 0, 0, 0, 0]), (1, 12, []), (2, 192, []), (2, 9, []), (2, 25, []), (2, 25, []), (1, 25, []),
  (1, 25, []), (17, 8, [16, 58, 122, 123, 124, 125, 0, 0]), (1, 8, []), (1, 8, []), (1, 2048, []), (1, 2048, []), (11, 6, [16, 58, 92, 127, 128, 129]), (2, 144, []),
  (1, 12, []), (1, 2, []), (22, 90, [0, 131, 0, 132, 0, 133, 134, 135, 136, 137, 0, 0, 0, 0, 0, 0, 0, 0, 0, 0, 0, 138, 139, 140, 141, 142, 143, 144, 145, 146, 147, 148, 149, 150, 151, 152, 153, 154, 155, 0, 156, 157, 158, 0, 159, 160, 161, 162, 0, 163, 164, 165, 166, 167, 168, 169, 170, 171, 0, 172, 173, 0, 174, 175, 176, 177, 178, 0, 0, 179, 180, 181, 0, 182, 183, 184, 0, 185, 186, 187, 188, 0, 189, 190, 191, 192, 193, 194, 195, 196]), (3, 2000, []), (3, 2000, []), (1, 403, []), (1, 403, []), (1, 403, []),
  (2, 403, []), (2, 18, []), (2, 40, []), (1, 40, []), (1, 40, []), (1, 2, []), (1, 24, []), (1, 24, []),
  (1, 2, []), (1, 18, []), (1, 18, []), (1, 2, []), (1, 24, []), (1, 24, []), (1, 24, []), (1, 24, []),
  (1, 24, []), (4, 4, []), (1, 4, []), (1, 4, []), (1, 840, []), (1, 840, []), (1, 420, []), (1, 7, []),
  (1, 420, []), (1, 12, []), (4, 12, []), (1, 10, []), (1, 10, []), (1, 10, []), (1, 10, []), (1, 10, []),
  (1, 10, []), (1, 10, []), (1, 10, []), (1, 10, []), (1, 12, []), (1, 4, []), (1, 4096, []), (1, 12, []),
  (1, 12, []), (1, 12, []), (1, 12, []), (1, 3, []), (1, 3, []), (1, 2, []), (1, 8, []), (1, 8, []),
  (1, 8, []), (1, 180, []), (1, 180, []), (1, 180, []), (1, 180, []), (1, 2, []), (1, 16, []), (1, 16, []),
  (1, 16, []), (1, 16, []), (1, 24, []), (4, 24, []), (1, 2, [])]
set_option maxRecDepth 100000 in
theorem SH_len (N : Nat) : (SH N).length = 197 := rfl
/-- not a constructor -/
def okB (y : Nat) : Bool := (Nat.ble 20 y || (Nat.ble 2 y && Nat.ble y 9)) && (!(Nat.beq y 212) && Nat.blt y 352)
set_option maxRecDepth 100000 in
theorem okB_all : (List.range 352).all (fun y => !(okB y) || (mM y).all okI) = true := by decide +kernel
theorem okB_at {y : Nat} (h : okB y = true) : y < 352 ∧ (mM y).all okI = true := by
  have hy : y < 352 := by
    unfold okB at h
    rw [Bool.and_eq_true_iff, Bool.and_eq_true_iff] at h
    have := h.2.2
    unfold Nat.blt at this
    exact Nat.le_of_ble_eq_true this
  refine ⟨hy, ?_⟩
  have := List.all_eq_true.mp okB_all y (List.mem_range.mpr hy)
  rw [h] at this
  simpa using this
/-- what a method answers: 0 nothing, 1 an int, 2 a long -/
def rT (y : Nat) : Nat := (110901198982888873054835188548034038486951482874891202084355969560171735333342548652815003258855588022612784531339716802041859510431688082902511618285791226305091030011410911157876217315758543438547728623542539600 >>> (2 * y)) % 4
def WK (N k i : Nat) (ls : aL) (h : aH) (Q : Option aV → aH → Prop) : Prop := ∀ (lim : Nat × Nat) (ls2 : aL), LoS ls ls2 → ∃ v h2, Q v h2 ∧ ∃ n0, ∀ n, n0 ≤ n → am_R mM n k lim i ls2 [] (SH N, h) v (SH N, h2)
def QV (C : aH → Prop) : Option aV → aH → Prop := fun v h => v = none ∧ C h
def QI (C : Int → aH → Prop) : Option aV → aH → Prop := fun v h => ∃ x, v = some (.inl x) ∧ C x h
def QL (C : Int → aH → Prop) : Option aV → aH → Prop := fun v h => ∃ x, v = some (.inr (.inl x)) ∧ C x h
/-- method k from place i on, with these locals, over these contents, leaves so that .. (an int, a long, nothing) -/
def WV (N k i : Nat) (ls : aL) (h : aH) (C : aH → Prop) : Prop := WK N k i ls h (QV C)
def WI (N k i : Nat) (ls : aL) (h : aH) (C : Int → aH → Prop) : Prop := WK N k i ls h (QI C)
def WL (N k i : Nat) (ls : aL) (h : aH) (C : Int → aH → Prop) : Prop := WK N k i ls h (QL C)
def kCall (N : Nat) : Nat → List aV → aS → (Option aV → aH → Prop) → Prop := fun y as S cont =>
  bif okB y && Nat.ble (am_cat as) (mLo y) then
    (match rT y with
    | 0 => WV N y 0 (am_en 0 as) S.2 (fun h => cont none h)
    | 1 => WI N y 0 (am_en 0 as) S.2 (fun x h => cont (some (.inl x)) h)
    | _ => WL N y 0 (am_en 0 as) S.2 (fun x h => cont (some (.inr (.inl x))) h))
  else False
/-- some of the locals -/
def lo_sel : List Nat → aL → aL
  | [], _ => []
  | k :: L, ls => match am_find k ls with
    | some v => (k, v) :: lo_sel L ls
    | none => lo_sel L ls
theorem sel_mem {q : Nat × aV} : ∀ {L : List Nat} {ls : aL}, q ∈ lo_sel L ls → q ∈ ls
  | [], ls, h => by cases h
  | k :: L, ls, h => by
    unfold lo_sel at h
    split at h
    · rename_i v hv
      rcases List.mem_cons.mp h with e | h
      · rw [e]; exact find_mem hv
      · exact sel_mem h
    · exact sel_mem h
theorem en_keys : ∀ (vs : List aV) (i : Nat), ∀ q ∈ am_en i vs, i ≤ q.1
  | [], _, q, hq => by cases hq
  | v :: vs, i, q, hq => by
    rcases List.mem_cons.mp hq with e | hq
    · rw [e]; exact Nat.le_refl _
    · have := en_keys vs _ q hq
      cases hv : am_is2 v <;> rw [hv] at this
      · exact Nat.le_trans (Nat.le_succ i) this
      · exact Nat.le_trans (by omega) (show i + 2 ≤ q.1 from this)
theorem en_ND : ∀ (vs : List aV) (i : Nat), LoN (am_en i vs)
  | [], _ => List.nodup_nil
  | v :: vs, i => by
    unfold LoN
    show (i :: (am_en (bif am_is2 v then i + 2 else i + 1) vs).map Prod.fst).Nodup
    rw [List.nodup_cons]
    refine ⟨fun hm => ?_, en_ND vs _⟩
    obtain ⟨q, hq, e⟩ := List.mem_map.mp hm
    have := en_keys vs _ q hq
    cases hv : am_is2 v <;> rw [hv] at this
    · exact absurd (show i + 1 ≤ q.1 from this) (by omega)
    · exact absurd (show i + 2 ≤ q.1 from this) (by omega)
/-- THE STEP: one stretch -/
theorem WK.step {N k i : Nat} {ls : aL} {h : aH} {Q : Option aV → aH → Prop} {retX : Option aV → aS → Prop} {cutX : Nat → aL → List aV → aS → Prop} (hk : ((mM k).drop i).all okI = true)
    (hret : ∀ v h, retX v (SH N, h) → Q v h) (hcut : ∀ i ls st h, cutX i ls st (SH N, h) → ∃ ls', (∀ q ∈ ls', q ∈ ls) ∧ st = [] ∧ WK N k i ls' h Q)
    (H : am_x (X := Prop) ftab mNa (0, 0) False brP ckP (kCall N) (fun _ _ _ _ => False) retX cutX (mM k) 5000 i ((mM k).drop i) ls [] (SH N, h)) : WK N k i ls h Q := by
  intro lim ls2 hls
  have key := am_x_par (X := Prop) (Y := Nat → Option aV → aH → Prop) (fun x y => x → ∃ v h2, Q v h2 ∧ ∃ n0, ∀ n, n0 ≤ n → y n v h2)
    LoS (fun hl _ _ e => hl.find e) (fun k v hl => hl.set1 k v) (fun k v hl => hl.set2 k v) (badX := False) (badY := fun _ _ _ => False) (brX := brP) (brY := fun c d x y => fun n v h2 => brP c d (x n v h2) (y n v h2)) (ckX := ckP) (ckY := fun c d x => fun n v h2 => ckP c d (x n v h2))
    (na := mNa) (limX := (0, 0)) (limY := lim) (callX := kCall N)
    (callY := fun y as S cont => fun n v h2 => ∃ (w : Option aV) (h' : aH), am_fit y as S ∧ am_R mM n y (S.1.length + mCe y, am_sz S.1 + mSl y) 0 (am_en 0 as) [] S w (S.1, h') ∧ cont w h' n v h2)
    (spX := fun _ _ _ _ => False) (spY := fun _ _ _ _ => fun _ _ _ => False)
    (retX := retX) (retY := fun v' S' => fun _ v h2 => v = v' ∧ (SH N, h2) = S')
    (cutX := cutX) (cutY := fun i ls st S => fun n v h2 => am_R mM n k lim i ls st S v (SH N, h2)) (sh := SH N) (code := mM k) (i0 := i)
    (fun _ hf => hf.elim) ?_ ?_ ?_ ?_ ?_ hk 5000 i _ ls ls2 [] h hls (Nat.le_refl _) hk H
  · obtain ⟨v, h2, hq, n0, hn⟩ := key
    refine ⟨v, h2, hq, n0 + 1, fun n hle => ?_⟩
    obtain ⟨n, rfl⟩ : ∃ m, n = m + 1 := ⟨n - 1, by omega⟩
    exact am_x_par (X := Nat → Option aV → aH → Prop) (Y := Prop) (fun f p => f n v h2 → p)
      (fun a b => a = b) (fun e _ _ q => e ▸ q) (fun _ _ e => by rw [e]) (fun _ _ e => by rw [e]) (badX := fun _ _ _ => False) (badY := False) (brY := brP) (brX := fun c d x y => fun n v h2 => brP c d (x n v h2) (y n v h2)) (ckY := ckP) (ckX := fun c d x => fun n v h2 => ckP c d (x n v h2))
      (na := mNa) (limX := lim) (limY := lim)
      (callX := fun y as S cont => fun n v h2 => ∃ (w : Option aV) (h' : aH), am_fit y as S ∧ am_R mM n y (S.1.length + mCe y, am_sz S.1 + mSl y) 0 (am_en 0 as) [] S w (S.1, h') ∧ cont w h' n v h2)
      (callY := fun y as S cont => ∃ (w : Option aV) (h' : aH), am_fit y as S ∧ am_R mM n y (S.1.length + mCe y, am_sz S.1 + mSl y) 0 (am_en 0 as) [] S w (S.1, h') ∧ cont w h')
      (spX := fun _ _ _ _ => fun _ _ _ => False) (spY := fun y as S cont => ∃ S2 : aS, am_fit y as S ∧ am_R mM n y (S.1.length + mCe y, am_sz S.1 + mSl y) 0 (am_en 0 as) [] S none S2 ∧ S2.1.length = S.1.length + mCe y ∧ am_sz S2.1 = am_sz S.1 + mSl y ∧ S2.1.length ≤ lim.1 ∧ am_sz S2.1 ≤ lim.2 ∧ cont S2)
      (retX := fun v' S' => fun _ v h2 => v = v' ∧ (SH N, h2) = S') (retY := fun v' S' => v = v' ∧ (SH N, h2) = S')
      (cutX := fun i ls st S => fun n v h2 => am_R mM n k lim i ls st S v (SH N, h2)) (cutY := fun i ls st S => am_R mM n k lim i ls st S v (SH N, h2)) (sh := SH N) (code := mM k) (i0 := i)
      (fun _ hf => hf.elim) (fun c d x x' y y' h1 h2 hx => ⟨fun hc => h1 (hx.1 hc), fun hc => h2 (hx.2 hc)⟩) (fun c d x y h1 hx => ⟨hx.1, h1 hx.2⟩)
      (fun y as h0 cX cY hc hx => by
        obtain ⟨w, h', g1, g2, g3⟩ := hx
        exact ⟨w, h', g1, g2, hc w h' g3⟩)
      (fun v' h' hx => hx)
      (fun i a b st h0 hab hx => by rw [← hab]; exact hx) hk 5000 i _ ls2 ls2 [] h rfl (Nat.le_refl _) hk (hn n (by omega))
  · intro c d x x' y y' h1 h2 hx
    rcases Classical.em c with hc | hc
    · obtain ⟨v, h2', hq, n0, hn⟩ := h1 (hx.1 hc)
      exact ⟨v, h2', hq, n0, fun n hle => ⟨fun _ => hn n hle, fun hnc => absurd hc hnc⟩⟩
    · obtain ⟨v, h2', hq, n0, hn⟩ := h2 (hx.2 hc)
      exact ⟨v, h2', hq, n0, fun n hle => ⟨fun hcc => absurd hcc hc, fun _ => hn n hle⟩⟩
  · intro c d x y h1 hx
    obtain ⟨v, h2', hq, n0, hn⟩ := h1 hx.2
    exact ⟨v, h2', hq, n0, fun n hle => ⟨hx.1, hn n hle⟩⟩
  · intro y as h0 cX cY hc hx
    have hx : (bif okB y && Nat.ble (am_cat as) (mLo y) then (match rT y with
      | 0 => WV N y 0 (am_en 0 as) h0 (fun h => cX none h)
      | 1 => WI N y 0 (am_en 0 as) h0 (fun x h => cX (some (.inl x)) h)
      | _ => WL N y 0 (am_en 0 as) h0 (fun x h => cX (some (.inr (.inl x))) h)) else False) := hx
    cases hb : (okB y && Nat.ble (am_cat as) (mLo y)) with
    | false => rw [hb] at hx; exact hx.elim
    | true =>
      rw [hb] at hx
      obtain ⟨hb1, hb2⟩ := Bool.and_eq_true_iff.mp hb
      have hfit : am_fit y as (SH N, h0) := ⟨(okB_at hb1).1, Nat.le_of_ble_eq_true hb2, (show 9 ≤ (SH N).length by rw [SH_len]; decide)⟩
      have fin : ∀ (w : Option aV) (h' : aH), cX w h' → (∃ n0, ∀ n, n0 ≤ n → am_R mM n y ((SH N).length + mCe y, am_sz (SH N) + mSl y) 0 (am_en 0 as) [] (SH N, h0) w (SH N, h')) →
          ∃ v h2, Q v h2 ∧ ∃ n0, ∀ n, n0 ≤ n → ∃ (w : Option aV) (h' : aH), am_fit y as (SH N, h0) ∧ am_R mM n y ((SH N).length + mCe y, am_sz (SH N) + mSl y) 0 (am_en 0 as) [] (SH N, h0) w (SH N, h') ∧ cY w h' n v h2 := by
        intro w h' hcx hr
        obtain ⟨n1, hr⟩ := hr
        obtain ⟨v, h2, hq, n2, hn⟩ := hc w h' hcx
        exact ⟨v, h2, hq, max n1 n2, fun n hle => ⟨w, h', hfit, hr n (by omega), hn n (by omega)⟩⟩
      have hen : LoS (am_en 0 as) (am_en 0 as) := ⟨fun _ hq => hq, en_ND as 0⟩
      have hx : (match rT y with
        | 0 => WV N y 0 (am_en 0 as) h0 (fun h => cX none h)
        | 1 => WI N y 0 (am_en 0 as) h0 (fun x h => cX (some (.inl x)) h)
        | _ => WL N y 0 (am_en 0 as) h0 (fun x h => cX (some (.inr (.inl x))) h)) := hx
      split at hx
      · obtain ⟨v, h2, ⟨rfl, hcx⟩, hr⟩ := hx _ _ hen
        exact fin _ _ hcx hr
      · obtain ⟨v, h2, ⟨x, rfl, hcx⟩, hr⟩ := hx _ _ hen
        exact fin _ _ hcx hr
      · obtain ⟨v, h2, ⟨x, rfl, hcx⟩, hr⟩ := hx _ _ hen
        exact fin _ _ hcx hr
  · intro v h0 hq
    exact ⟨v, h0, hret v h0 hq, 0, fun n _ => ⟨rfl, rfl⟩⟩
  · intro i a b st h0 hab hx
    obtain ⟨ls', hsub, rfl, hw⟩ := hcut i a st h0 hx
    exact hw lim b ⟨fun q hq => hab.1 q (hsub q hq), hab.2⟩
theorem okB_drop {k : Nat} (i : Nat) (hk : okB k = true) : ((mM k).drop i).all okI = true := okI_drop (i := 0) (okB_at hk).2 (Nat.zero_le _)
/-- what comes behind may be more -/
theorem WV.mono {N k i : Nat} {ls : aL} {h : aH} {C D : aH → Prop} (H : WV N k i ls h C) (hm : ∀ h, C h → D h) : WV N k i ls h D := fun lim ls2 hl => by
  obtain ⟨v, h2, ⟨e, hc⟩, hr⟩ := H lim ls2 hl
  exact ⟨v, h2, ⟨e, hm _ hc⟩, hr⟩
theorem WI.mono {N k i : Nat} {ls : aL} {h : aH} {C D : Int → aH → Prop} (H : WI N k i ls h C) (hm : ∀ x h, C x h → D x h) : WI N k i ls h D := fun lim ls2 hl => by
  obtain ⟨v, h2, ⟨x, e, hc⟩, hr⟩ := H lim ls2 hl
  exact ⟨v, h2, ⟨x, e, hm _ _ hc⟩, hr⟩
theorem WL.mono {N k i : Nat} {ls : aL} {h : aH} {C D : Int → aH → Prop} (H : WL N k i ls h C) (hm : ∀ x h, C x h → D x h) : WL N k i ls h D := fun lim ls2 hl => by
  obtain ⟨v, h2, ⟨x, e, hc⟩, hr⟩ := H lim ls2 hl
  exact ⟨v, h2, ⟨x, e, hm _ _ hc⟩, hr⟩
end
section
/-! THE STRETCH AS THE KERNEL GOES THROUGH IT FAST: the shape as numbers -/
def kdF (r : Nat) : Nat := (10514124957318935078321284104037415488407696699531183950990872484084295427661112068774748343956176281160648411619543444967517286574760338324108613823537762805528202627585313922938522900160413642605217457579602461906439526700622472113704899949942461188949427117472235753344406114631252177323509658148530689739106348845968562937871541283174946132731813517820840892391232654132307694249081572536871390966086879904544352300078612164915710045670299933763662127060925602096154112 >>> (8 * r)) % 256
def szF (N r : Nat) : Nat := bif Nat.beq r 1 then N else (214375876739306103607862155106355032295080179423131550491449575637811602542001214520582026433583093786691172522240321914489971473572358599002911886807648604301906318917706780085276161023938711588112861346232216432515960584793743166616893199679735844384138441559936673601971206123350716022394312926647775992048390342016989744553313469745706574670143804572298893111028555250951719565300868117783243918843033164391023671340601137148697436182743463895895062363147742546111024753450017661906837961499878268460829556116510547058404835185864248157804471416695483485149928902526950535978390099643522456968122926332384917750778993320619672364628689043587647675789744435628968349300071640976045170514567742579559722589515855672993773714646838305569472851432669490128211921005630668508336513776989672187159161218908573921623372492968799497845410926055365163300761897659785999639945761291003465540103514452239758387753775514611296385463844814838143251382272 >>> (16 * r)) % 65536
def ftF (n : Nat) : Nat := (269224654207703673185993294030414142130429214046343411279344095587185764135584145969937651997564656166874764007711251107569560882664876150304220714876180148631297860565305139330323198898380025815492756041092076074207925038662077325991199928396316325866436404735777695472653991626243165559983325230106815094532078472391848069008249415961739962046495290950468732075273515728793175147676387200959578845938776179588333590092394817782992396473188988295840533664744428194714620473962041655882503589042286881545465994326229689059903376635410601908262562080414261060947942380924470229898539996657599567298864624061126820982580297998323367276069213779769605048952494291579474351749471211589577004145234753290543506098886110585309434849220292666804751864719785339980659589240319033773843441736533283288876471600944869648935377059388612052228593752556891065412633396445455788059866544668414601578900059751508290478124344905034564677738653930190831700201080320708467042949049231286726704231384819519329752632050547389116510726656933545802769266397835172828721438767425794520579505969258000462129509149518938516723076265346975897691164894599486395916647421455143758342915769747714092442755665110306547840636892614258157065057489413494434428059398078440172264873134377569945454247608138901272629595395160292526915210810011948738308720191765996604124310091809103188032854359961690992365412193818415053320332116303665324232129846722547113197433751500348318451334889238317268824445930413969458981993435141834858817126830249524272853485438409840340101736430959244365793115741789006636897989273927968659080964949170101603120593695362089390189389538028493840590912791665968816663891769540118847755998004618755061033522579398895706261759173954248825155547042629978665917315173772866280813309586441440205465453519803109894653125028839872048743960135789264428009179525338192215743891662294069173469765653885550305258476013797678535989124588014039074642199994413344312182127849903707291556575350832559700764069722099180227913553844612734575480707556133113500950124886209260962915941632985847013737939250227639613557565130586359202140624076815173891281945515712769768956395631824802798649022223249036291821628265186244970893111812581147344114882649994697658427708352240098322227727491456343737692969082225442500732079168715842532965660928600441820706482218981640857095039561601367651459299444775694438364623409752708588322439762228078292559263709161748301490183173469737535742882970588595573940074739763666591186344362090515713554319690141779769964888064 >>> (4 * n)) % 16
def naF (n : Nat) : Nat := (947908382631422632534637383608357710226706068242807621324862684396869327389939261381606102252764408792152979390420831733738953923265742262320347820946699831911648680035276197208680880196019594981242172346632607833132438273404379589893275965296331370701993971720108903230513256744849052199085257720347653890356422548532519629810271764346790434011304004986426896622115126129679367515155613538549250851894741788435084295147793 >>> (4 * n)) % 16
def rkF (n : Nat) : Nat := (4328628256950762240595321176778767099666297154034752132591263960684704031415364824855036845706818002298083637751818383870180226157819865508160560789470442934045576501674651643159140962974577031704369488146066865626025023156091687240671208724756586985461436727816546823401102632456495898913450317518298347168997976017919937836409002065313384949955682145128795263281857083083343501176173640100167190020626313310044077685791326697720995105708067337425800598158538161418168434834441530085515527897164408072034774856212431837479944244375615798756465524805960262759859322302053644453213461968968471330318791837367294791773995013421131109678371846139336765601939359189173947583594126754364946398774093132586577615695370723360020651444158615225881553196951933804536134096965599125637489279233427728954673358040134628939263000074333992913895095906208715797 >>> (8 * n)) % 256
def loF (n : Nat) : Nat := (786260723224726154455435298351352082889024666382228395745113135801896117310889727897154797201700957870202965819850556024391095126690643694055967250222383037254340294130325731622720321852462252569642516312078319634004385659728076378752953435789980586245272792108519692616324725872954750962269627610607594112599198218493653682269601403119725039991795306368284891768866996668314672133369305565317729998414433046677122967949601142807513850993756942454697938395506648216237711163160878149470030517051965936220927961159446982717127384895557858598784407275660025839011701877123543412763839739251996868069656563441608558235900110852389751812351390713329511301888036793204162304623197275023624735142791342974349817573122570374295207845492605216088535239483710329601450898858814227130572181353129821294284754061285198096414537949237057115139426788495656194 >>> (8 * n)) % 256
def rfF (r k : Nat) : Nat := bif Nat.beq r 4 then (5 >>> (8 * k)) % 256 else bif Nat.beq r 6 then (7 >>> (8 * k)) % 256 else bif Nat.beq r 9 then (152898152053098076456362762 >>> (8 * k)) % 256 else bif Nat.beq r 10 then (64660245515 >>> (8 * k)) % 256 else bif Nat.beq r 16 then (651343422374283679650351502529041 >>> (8 * k)) % 256 else bif Nat.beq r 29 then (7966 >>> (8 * k)) % 256 else bif Nat.beq r 32 then (8737 >>> (8 * k)) % 256 else bif Nat.beq r 35 then (16044074615645194 >>> (8 * k)) % 256 else bif Nat.beq r 36 then (1058582391671132905417449253840421 >>> (8 * k)) % 256 else bif Nat.beq r 49 then (13106 >>> (8 * k)) % 256 else bif Nat.beq r 52 then (13877 >>> (8 * k)) % 256 else bif Nat.beq r 58 then (322361626855794775243835 >>> (8 * k)) % 256 else bif Nat.beq r 70 then (379252253661189089347655 >>> (8 * k)) % 256 else bif Nat.beq r 81 then (431401994899467210609490 >>> (8 * k)) % 256 else bif Nat.beq r 92 then (122575577746081059591502352 >>> (8 * k)) % 256 else bif Nat.beq r 102 then (516737935107558681098768 >>> (8 * k)) % 256 else bif Nat.beq r 110 then (482904652304 >>> (8 * k)) % 256 else bif Nat.beq r 113 then (2222217485725924997648 >>> (8 * k)) % 256 else bif Nat.beq r 121 then (137973601024528 >>> (8 * k)) % 256 else bif Nat.beq r 126 then (142388892547600 >>> (8 * k)) % 256 else bif Nat.beq r 130 then (4239396915918096473493043308786304663737868410833454508400770760683282586318792510288940759526435805604721558189991540824230319485644390849278889082801978702140469911546501568843474169449989898590691368976986763461376 >>> (8 * k)) % 256 else 0
set_option maxRecDepth 100000 in
theorem SH_put (N : Nat) : SH N = am_put (6, N, []) (SH 0) 1 := rfl
theorem SH_nth (N r : Nat) : am_nth am_o0 (SH N) r = if r = 1 then (6, N, []) else am_nth am_o0 (SH 0) r := by
  rw [SH_put N, am_nth_put _ _ _ _ _ (by rw [SH_len]; decide)]
set_option maxRecDepth 100000 in
theorem kd_ok0 : (List.range 197).all (fun r => Nat.beq (am_kd (SH 0) r) (kdF r)) = true := by decide +kernel
set_option maxRecDepth 100000 in
theorem sz_ok0 : (List.range 197).all (fun r => Nat.beq (am_nth am_o0 (SH 0) r).2.1 (szF 0 r)) = true := by decide +kernel
set_option maxRecDepth 100000 in
theorem rf_ok0 : (List.range 197).all (fun r => bif Nat.ble 10 (kdF r) then (List.range (szF 0 r)).all (fun k => Nat.beq (am_nth 0 (am_nth am_o0 (SH 0) r).2.2 k) (rfF r k)) else true) = true := by decide +kernel
set_option maxRecDepth 100000 in
theorem ft_ok0 : (List.range 2100).all (fun n => Nat.beq (ftab (n / 100) (n % 100)) (ftF n)) = true := by decide +kernel
set_option maxRecDepth 100000 in
theorem na_ok0 : (List.range 352).all (fun n => Nat.beq (mNa n) (naF n) && Nat.beq (mNa (2000 + n)) (rkF n) && Nat.beq (mLo n) (loF n)) = true := by decide +kernel
theorem all_lt {n : Nat} {p : Nat → Bool} (h : (List.range n).all p = true) {r : Nat} (hr : r < n) : p r = true := List.all_eq_true.mp h r (List.mem_range.mpr hr)
theorem kd_out {sh : List aC} {r : Nat} (h : sh.length ≤ r) : am_kd sh r = 0 := by
  unfold am_kd
  rw [am_nth_out _ _ _ h]
  cases (Nat.beq r 0 || Nat.beq r 8) <;> cases Nat.ble 9 r <;> rfl
theorem kd_SH0 (N r : Nat) : am_kd (SH N) r = am_kd (SH 0) r := by
  unfold am_kd
  rw [SH_nth N r]
  by_cases h : r = 1
  · subst h; rw [if_pos rfl]; rfl
  · rw [if_neg h]
theorem kd_F {N r : Nat} (h : kdF r ≠ 0) : am_kd (SH N) r = kdF r := by
  rw [kd_SH0]
  rcases Nat.lt_or_ge r 197 with hr | hr
  · exact Nat.eq_of_beq_eq_true (all_lt kd_ok0 hr)
  · exfalso
    apply h
    unfold kdF
    have : (10514124957318935078321284104037415488407696699531183950990872484084295427661112068774748343956176281160648411619543444967517286574760338324108613823537762805528202627585313922938522900160413642605217457579602461906439526700622472113704899949942461188949427117472235753344406114631252177323509658148530689739106348845968562937871541283174946132731813517820840892391232654132307694249081572536871390966086879904544352300078612164915710045670299933763662127060925602096154112 >>> (8 * r)) = 0 := by
      rw [Nat.shiftRight_eq_div_pow]
      apply Nat.div_eq_of_lt
      exact Nat.lt_of_lt_of_le (show _ < 2 ^ (8 * 197) from Nat.lt_of_sub_pos (by decide +kernel)) (Nat.pow_le_pow_right (by decide) (by omega))
    rw [this]
theorem kd_lt {r : Nat} (h : kdF r ≠ 0) : r < 197 := by
  rcases Nat.lt_or_ge r 197 with hr | hr
  · exact hr
  · have := kd_F (N := 0) h
    rw [kd_out (by rw [SH_len]; exact hr)] at this
    exact absurd this.symm h
theorem sz_F {N r : Nat} (h : kdF r ≠ 0) : (am_nth am_o0 (SH N) r).2.1 = szF N r := by
  rw [SH_nth]
  by_cases h1 : r = 1
  · subst h1; rw [if_pos rfl]; rfl
  · rw [if_neg h1]
    have := Nat.eq_of_beq_eq_true (all_lt sz_ok0 (kd_lt h))
    rw [this]
    unfold szF
    rw [nb_ne h1]
    rfl
theorem rf_F {N r k : Nat} (h : 10 ≤ kdF r) (hk : k < szF N r) : am_nth 0 (am_nth am_o0 (SH N) r).2.2 k = rfF r k := by
  have hr := kd_lt (r := r) (by omega)
  have h1 : r ≠ 1 := by intro e; subst e; exact absurd h (by decide +kernel)
  rw [SH_nth, if_neg h1]
  have := all_lt rf_ok0 hr
  rw [Nat.ble_eq_true_of_le h] at this
  refine Nat.eq_of_beq_eq_true (all_lt (n := szF 0 r) this ?_)
  unfold szF at hk ⊢
  rw [nb_ne h1] at hk ⊢
  exact hk
/-- evaluated first -/
def frcN (n : Nat) (k : Nat → Prop) : Prop := Nat.rec (motive := fun _ => Prop) (k 0) (fun m _ => k (m + 1)) n
theorem frcN_eq (n : Nat) (k : Nat → Prop) : frcN n k = k n := by cases n <;> rfl
def frcL : aL → (aL → Prop) → Prop
  | [], k => k []
  | q :: l, k => frcL l (fun l => k (q :: l))
theorem frcL_eq : ∀ (l : aL) (k : aL → Prop), frcL l k = k l
  | [], _ => rfl
  | q :: l, k => frcL_eq l (fun l => k (q :: l))
/-- one instruction over the fixed shape -/
def am_isF (N r n : Nat) : Bool := (Nat.beq (kdF r) (10 + n / 100) && Nat.blt (n % 100) (szF N r)) && Nat.blt n 2100
/-- the instructions on the pile alone, and the others that are taken as they are -/
def okR : aI → Bool
  | .iadd | .isub | .imul | .fadd | .fsub | .fmul | .iand | .ior | .ixor | .ishl | .ishr | .iushr | .idiv | .irem | .ineg | .ladd | .lsub | .lmul | .dadd | .dsub | .dmul | .land | .lxor | .ldiv | .lshl | .lshr | .lushr | .i2l | .l2i | .i2b | .i2c | .lcmp | .dup | .pop | .dup2 | .pop2 | .aaload | .invokeinterface _ _ => true
  | _ => false
section AF
variable (N : Nat) (call : Nat → List aV → aH → (Option aV → aH → Prop) → Prop) (ret : Option aV → aH → Prop) (cut : Nat → aL → List aV → aH → Prop)
def am_putF (ty : Nat) (h : aH) (r k : Nat) (v : aV) (nxt : aH → Prop) : Prop :=
  match ty, v with
  | 1, .inl x => nxt (am_up h r k x)
  | 2, .inr (.inl x) => nxt (am_up h r k x)
  | 3, .inl x => am_tf x ∧ nxt (am_up h r k x)
  | _, _ => False
def am_1F (i : Nat) (ins : aI) (ls : aL) (st : List aV) (h : aH) (nxt : aL → List aV → aH → Prop) (jmp : Nat → aL → List aV → aH → Prop) : Prop :=
  match ins with
  | .nop => cut (i + 1) ls st h
  | .iconst v => nxt ls (.inl v :: st) h
  | .bipush v => nxt ls (.inr (.inl v) :: st) h
  | .getstatic r => nxt ls (.inr (.inr r) :: st) h
  | .iload k => match am_find k ls with
    | some (.inl v) => nxt ls (.inl v :: st) h
    | _ => False
  | .lload k => match am_find k ls with
    | some (.inr (.inl v)) => nxt ls (.inr (.inl v) :: st) h
    | _ => False
  | .aload k => match am_find k ls with
    | some (.inr (.inr v)) => bif Nat.beq v 0 || Nat.beq v 8 then False else nxt ls (.inr (.inr v) :: st) h
    | _ => False
  | .istore k => match st with
    | .inl v :: st => frcL (am_set1 k (.inl v) ls) (fun ls => nxt ls st h)
    | _ => False
  | .lstore k => match st with
    | .inr (.inl v) :: st => frcL (am_set2 k (.inr (.inl v)) ls) (fun ls => nxt ls st h)
    | _ => False
  | .iinc k d => match am_find k ls with
    | some (.inl v) => am_rg (v + d) ∧ frcL (am_set1 k (.inl (v + d)) ls) (fun ls => nxt ls st h)
    | _ => False
  | .astore k => match st with
    | .inr (.inr v) :: st => bif Nat.beq v 0 || Nat.beq v 8 then False else frcL (am_set1 k (.inr (.inr v)) ls) (fun ls => nxt ls st h)
    | _ => False
  | .ifCond c t => match st with
    | .inl v :: st => (am_cnd c v 0 → jmp t.toNat ls st h) ∧ (¬ am_cnd c v 0 → nxt ls st h)
    | _ => False
  | .if_icmp c t => match st with
    | .inl b :: .inl a :: st => (am_cnd c a b → jmp t.toNat ls st h) ∧ (¬ am_cnd c a b → nxt ls st h)
    | _ => False
  | .goto t => jmp t.toNat ls st h
  | .tableswitch d lo hi offs => match st with
    | .inl v :: st => ((v < lo ∨ hi < v) → jmp d.toNat ls st h) ∧ (¬ (v < lo ∨ hi < v) → am_sw (X := Prop) False brP (fun t => jmp t ls st h) v lo offs.toList)
    | _ => False
  | .getfield n => match st with
    | .inr (.inr r) :: st => bif am_isF N r n then (match ftF n with
      | 0 => nxt ls (.inr (.inr (rfF r (n % 100))) :: st) h
      | 2 => nxt ls (.inr (.inl (h r (n % 100))) :: st) h
      | _ => nxt ls (.inl (h r (n % 100)) :: st) h) else False
    | _ => False
  | .putfield n => match st with
    | v :: .inr (.inr r) :: st => bif am_isF N r n && Nat.ble 9 r then am_putF (ftF n) h r (n % 100) v (fun h => nxt ls st h) else False
    | _ => False
  | .iaload => match st with
    | .inl i :: .inr (.inr r) :: st => match kdF r with
      | 1 | 6 => am_ix i (szF N r) ∧ nxt ls (.inl (h r i.toNat) :: st) h
      | _ => False
    | _ => False
  | .laload => match st with
    | .inl i :: .inr (.inr r) :: st => match kdF r with
      | 2 | 7 => am_ix i (szF N r) ∧ nxt ls (.inr (.inl (h r i.toNat)) :: st) h
      | _ => False
    | _ => False
  | .baload => match st with
    | .inl i :: .inr (.inr r) :: st => match kdF r with
      | 3 | 4 | 8 => am_ix i (szF N r) ∧ nxt ls (.inl (h r i.toNat) :: st) h
      | _ => False
    | _ => False
  | .iastore => match st with
    | .inl v :: .inl i :: .inr (.inr r) :: st => match kdF r with
      | 1 => am_ix i (szF N r) ∧ nxt ls st (am_up h r i.toNat v)
      | _ => False
    | _ => False
  | .lastore => match st with
    | .inr (.inl v) :: .inl i :: .inr (.inr r) :: st => match kdF r with
      | 2 => am_ix i (szF N r) ∧ nxt ls st (am_up h r i.toNat v)
      | _ => False
    | _ => False
  | .bastore => match st with
    | .inl v :: .inl i :: .inr (.inr r) :: st => match kdF r with
      | 3 => am_ix i (szF N r) ∧ nxt ls st (am_up h r i.toNat (w8 v))
      | 4 => am_ix i (szF N r) ∧ am_tf v ∧ nxt ls st (am_up h r i.toNat v)
      | _ => False
    | _ => False
  | .arraylength => match st with
    | .inr (.inr r) :: st => bif Nat.ble 1 (kdF r) && Nat.ble (kdF r) 8 then am_rg (szF N r : Int) ∧ nxt ls (.inl (szF N r : Int) :: st) h else False
    | _ => False
  | .invokevirtual id => bif okB id then (match am_pop (naF id) [] st with
    | some (.inr (.inr r) :: as, st) => bif Nat.beq (kdF r) (rkF id) && Nat.ble (am_cat st) 8 && Nat.ble 1 (kdF r) then call id (.inr (.inr r) :: as) h (fun v h => nxt ls (am_psh v st) h) else False
    | _ => False) else False
  | .invokestatic id => bif okB id then (match am_pop (naF id) [] st with
    | some (as, st) => bif Nat.ble (am_cat st) 8 then call id as h (fun v h => nxt ls (am_psh v st) h) else False
    | none => False) else False
  | .ireturn => match st with
    | [.inl v] => ret (some (.inl v)) h
    | _ => False
  | .freturn => match st with
    | [.inl v] => am_tf v ∧ ret (some (.inl v)) h
    | _ => False
  | .dreturn => match st with
    | [.inl v] => (0 ≤ v ∧ v < 65536) ∧ ret (some (.inl v)) h
    | _ => False
  | .lreturn => match st with
    | [.inr (.inl v)] => ret (some (.inr (.inl v))) h
    | _ => False
  | .return_ => match st with
    | [] => ret none h
    | _ => False
  | ins => bif okR ins then am_1 (X := Prop) ftab mNa (0, 0) False brP ckP (fun _ _ _ _ => False) (fun _ _ _ _ => False) (fun _ _ => False) (fun _ _ _ _ => False) i ins ls st (SH N, h) (fun ls st S => nxt ls st S.2) (fun _ _ _ _ => False) else False
def am_xF (code : List aI) : Nat → Nat → List aI → aL → List aV → aH → Prop
  | 0, _, _, _, _, _ => False
  | _ + 1, _, [], _, _, _ => False
  | f + 1, i, ins :: rest, ls, st, h => frcN i fun i => am_1F N call ret cut i ins ls st h (fun ls st h => am_xF code f (i + 1) rest ls st h) (fun t ls st h => bif Nat.ble t i then cut t ls st h else am_xF code f t (code.drop t) ls st h)
end AF
theorem na_at {y : Nat} (hy : y < 352) : mNa y = naF y ∧ mNa (2000 + y) = rkF y ∧ mLo y = loF y := by
  have h := all_lt na_ok0 hy
  obtain ⟨h, h3⟩ := Bool.and_eq_true_iff.mp h
  obtain ⟨h1, h2⟩ := Bool.and_eq_true_iff.mp h
  exact ⟨Nat.eq_of_beq_eq_true h1, Nat.eq_of_beq_eq_true h2, Nat.eq_of_beq_eq_true h3⟩
theorem isF_ok {N r n : Nat} (hb : am_isF N r n = true) : am_isO (SH N) r n = true ∧ 10 ≤ kdF r ∧ n % 100 < szF N r ∧ ftab (n / 100) (n % 100) = ftF n := by
  obtain ⟨hb, h3⟩ := Bool.and_eq_true_iff.mp hb
  obtain ⟨h1, h2⟩ := Bool.and_eq_true_iff.mp hb
  have e1 := Nat.eq_of_beq_eq_true h1
  have h0 : kdF r ≠ 0 := by omega
  refine ⟨?_, by omega, Nat.le_of_ble_eq_true h2, Nat.eq_of_beq_eq_true (all_lt ft_ok0 (Nat.le_of_ble_eq_true h3))⟩
  unfold am_isO
  rw [kd_F h0, sz_F h0, h1, h2]; rfl
theorem getF_ok {N n r : Nat} {ls : aL} {st : List aV} {h : aH} {nxt : aL → List aV → aH → Prop} {nx : aL → List aV → aS → Prop} (hn : ∀ ls st h, nxt ls st h → nx ls st (SH N, h)) (hb : am_isF N r n = true)
    (H : (match ftF n with
      | 0 => nxt ls (.inr (.inr (rfF r (n % 100))) :: st) h
      | 2 => nxt ls (.inr (.inl (h r (n % 100))) :: st) h
      | _ => nxt ls (.inl (h r (n % 100)) :: st) h)) : (bif am_isO (SH N) r n then nx ls (am_getf (am_nth am_o0 (SH N) r) (ftab (n / 100) (n % 100)) h r (n % 100) :: st) (SH N, h) else False) := by
  obtain ⟨h1, h2, h3, h4⟩ := isF_ok hb
  rw [h1, h4]
  show nx ls (am_getf (am_nth am_o0 (SH N) r) (ftF n) h r (n % 100) :: st) (SH N, h)
  revert H
  generalize ftF n = t
  rcases t with _ | _ | _ | t
  · intro H
    show nx ls (.inr (.inr (am_nth 0 (am_nth am_o0 (SH N) r).2.2 (n % 100))) :: st) (SH N, h)
    rw [rf_F h2 h3]
    exact hn _ _ _ H
  · exact hn _ _ _
  · exact hn _ _ _
  · exact hn _ _ _
theorem putF_ok {N n r : Nat} {ls : aL} {st : List aV} {h : aH} {v : aV} {nxt : aL → List aV → aH → Prop} {nx : aL → List aV → aS → Prop} (hn : ∀ ls st h, nxt ls st h → nx ls st (SH N, h)) (hb : (am_isF N r n && Nat.ble 9 r) = true)
    (H : am_putF (ftF n) h r (n % 100) v (fun h => nxt ls st h)) : (bif am_isO (SH N) r n && Nat.ble 9 r then am_putf (X := Prop) False ckP (am_nth am_o0 (SH N) r) (ftab (n / 100) (n % 100)) (SH N, h) r (n % 100) v (fun S => nx ls st S) else False) := by
  obtain ⟨hb, h9⟩ := Bool.and_eq_true_iff.mp hb
  obtain ⟨h1, h2, h3, h4⟩ := isF_ok hb
  rw [h1, h4, h9]
  show am_putf (X := Prop) False ckP (am_nth am_o0 (SH N) r) (ftF n) (SH N, h) r (n % 100) v (fun S => nx ls st S)
  revert H
  generalize ftF n = t
  rcases t with _ | _ | _ | _ | t
  · exact False.elim
  all_goals rcases v with v | v | v <;> first | exact False.elim | exact hn _ _ _ | exact fun H => ⟨H.1, hn _ _ _ H.2⟩
/-- what it does, the abstract machine does -/
theorem am_1F_ok {N : Nat} {call : Nat → List aV → aH → (Option aV → aH → Prop) → Prop} {ret : Option aV → aH → Prop} {cut : Nat → aL → List aV → aH → Prop} {nxt : aL → List aV → aH → Prop} {jmp : Nat → aL → List aV → aH → Prop} {nx : aL → List aV → aS → Prop} {jm : Nat → aL → List aV → aS → Prop}
    (hmono : ∀ y as h c c', (∀ v h, c v h → c' v h) → call y as h c → call y as h c') (hn : ∀ ls st h, nxt ls st h → nx ls st (SH N, h)) (i : Nat) (hj : ∀ t ls st h, jmp t ls st h → jm t ls st (SH N, h)) (ins : aI) (ls : aL) (st : List aV) (h : aH) :
    am_1F N call ret cut i ins ls st h nxt jmp → am_1 (X := Prop) ftab mNa (0, 0) False brP ckP (fun y as S c => call y as S.2 c) (fun _ _ _ _ => False) (fun v S => ret v S.2) (fun i ls st S => cut i ls st S.2) i ins ls st (SH N, h) nx jm := by
  have key : ∀ ins : aI, okI ins = true → am_1 (X := Prop) ftab mNa (0, 0) False brP ckP (fun _ _ _ _ => False) (fun _ _ _ _ => False) (fun _ _ => False) (fun _ _ _ _ => False) i ins ls st (SH N, h) (fun ls st S => nxt ls st S.2) (fun _ _ _ _ => False) → am_1 (X := Prop) ftab mNa (0, 0) False brP ckP (fun y as S c => call y as S.2 c) (fun _ _ _ _ => False) (fun v S => ret v S.2) (fun i ls st S => cut i ls st S.2) i ins ls st (SH N, h) nx jm :=
    fun ins hok => am_1_par (fun x y => x → y) (fun a b => a = b) (fun e _ _ q => e ▸ q) (fun _ _ e => by rw [e]) (fun _ _ e => by rw [e]) (fun _ hf => hf.elim) (fun c d x x' y y' h1 h2 hx => ⟨fun hc => h1 (hx.1 hc), fun hc => h2 (hx.2 hc)⟩) (fun c d x y h1 hx => ⟨hx.1, h1 hx.2⟩)
      (fun _ _ _ _ _ _ hf => hf.elim) (fun _ _ hf => hf.elim) (fun _ _ _ _ _ _ hf => hf.elim) (fun a b st h e hx => by rw [← e]; exact hn _ _ _ hx) i (fun _ _ _ _ _ _ hf => hf.elim) ins hok ls ls rfl st h
  cases ins
  case aaload => exact key (.aaload) rfl
  case aastore => exact False.elim
  case aconst_null => exact False.elim
  case aload index => delta am_1F am_1; dsimp only; rcases am_find index ls with _ | v | v | v <;> (first | exact False.elim | (dsimp only; cases (Nat.beq v 0 || Nat.beq v 8) <;> (first | exact False.elim | exact hn _ _ _ | exact fun H => ⟨H.1, hn _ _ _ H.2⟩ | exact fun H => ⟨H.1, H.2.1, hn _ _ _ H.2.2⟩ | exact fun H => ⟨fun c => hj _ _ _ _ (H.1 c), fun c => hn _ _ _ (H.2 c)⟩ | exact hj _ _ _ _ | exact fun H => H)))
  case aload_n => exact False.elim
  case anewarray => exact False.elim
  case areturn => exact False.elim
  case arraylength => delta am_1F am_1; dsimp only; rcases st with _ | ⟨v | v | v, st⟩ <;> (first | exact False.elim | (rcases Decidable.em (kdF v = 0) with h0 | h0 <;> first | (dsimp only; rw [h0]; exact False.elim) | (dsimp only; rw [kd_F h0, sz_F h0]; generalize kdF v = t; rcases t with _ | _ | _ | _ | _ | _ | _ | _ | _ | t <;> (first | exact False.elim | exact hn _ _ _ | exact fun H => ⟨H.1, hn _ _ _ H.2⟩ | exact fun H => ⟨H.1, H.2.1, hn _ _ _ H.2.2⟩ | exact fun H => ⟨fun c => hj _ _ _ _ (H.1 c), fun c => hn _ _ _ (H.2 c)⟩ | exact hj _ _ _ _ | exact fun H => H))))
  case astore index => delta am_1F am_1; dsimp only; rcases st with _ | ⟨v | v | v, st⟩ <;> (first | exact False.elim | (dsimp only; cases (Nat.beq v 0 || Nat.beq v 8) <;> first | exact False.elim | (dsimp only [cond]; rw [frcL_eq]; (first | exact False.elim | exact hn _ _ _ | exact fun H => ⟨H.1, hn _ _ _ H.2⟩ | exact fun H => ⟨H.1, H.2.1, hn _ _ _ H.2.2⟩ | exact fun H => ⟨fun c => hj _ _ _ _ (H.1 c), fun c => hn _ _ _ (H.2 c)⟩ | exact hj _ _ _ _ | exact fun H => H))))
  case astore_n => exact False.elim
  case athrow => exact False.elim
  case baload => delta am_1F am_1; dsimp only; rcases st with _ | ⟨v | v | v, _ | ⟨w | w | w, st⟩⟩ <;> (first | exact False.elim | (rcases Decidable.em (kdF w = 0) with h0 | h0 <;> first | (dsimp only; rw [h0]; exact False.elim) | (dsimp only; rw [kd_F h0, sz_F h0]; generalize kdF w = t; rcases t with _ | _ | _ | _ | _ | _ | _ | _ | _ | t <;> (first | exact False.elim | exact hn _ _ _ | exact fun H => ⟨H.1, hn _ _ _ H.2⟩ | exact fun H => ⟨H.1, H.2.1, hn _ _ _ H.2.2⟩ | exact fun H => ⟨fun c => hj _ _ _ _ (H.1 c), fun c => hn _ _ _ (H.2 c)⟩ | exact hj _ _ _ _ | exact fun H => H))))
  case bastore => delta am_1F am_1; dsimp only; rcases st with _ | ⟨v | v | v, _ | ⟨w | w | w, _ | ⟨u | u | u, st⟩⟩⟩ <;> (first | exact False.elim | (rcases Decidable.em (kdF u = 0) with h0 | h0 <;> first | (dsimp only; rw [h0]; exact False.elim) | (dsimp only; rw [kd_F h0, sz_F h0]; generalize kdF u = t; rcases t with _ | _ | _ | _ | _ | _ | _ | _ | _ | t <;> (first | exact False.elim | exact hn _ _ _ | exact fun H => ⟨H.1, hn _ _ _ H.2⟩ | exact fun H => ⟨H.1, H.2.1, hn _ _ _ H.2.2⟩ | exact fun H => ⟨fun c => hj _ _ _ _ (H.1 c), fun c => hn _ _ _ (H.2 c)⟩ | exact hj _ _ _ _ | exact fun H => H))))
  case bipush byte => delta am_1F am_1; dsimp only; (first | exact False.elim | exact hn _ _ _ | exact fun H => ⟨H.1, hn _ _ _ H.2⟩ | exact fun H => ⟨H.1, H.2.1, hn _ _ _ H.2.2⟩ | exact fun H => ⟨fun c => hj _ _ _ _ (H.1 c), fun c => hn _ _ _ (H.2 c)⟩ | exact hj _ _ _ _ | exact fun H => H)
  case caload => exact False.elim
  case castore => exact False.elim
  case checkcast => exact False.elim
  case d2f => exact False.elim
  case d2i => exact False.elim
  case d2l => exact False.elim
  case dadd => exact key (.dadd) rfl
  case daload => exact False.elim
  case dastore => exact False.elim
  case dcmp => exact False.elim
  case dconst => exact False.elim
  case ddiv => exact False.elim
  case dload => exact False.elim
  case dload_n => exact False.elim
  case dmul => exact key (.dmul) rfl
  case dneg => exact False.elim
  case drem => exact False.elim
  case dreturn => delta am_1F am_1; dsimp only; rcases st with _ | ⟨v | v | v, _ | ⟨w, st⟩⟩ <;> (first | exact False.elim | exact hn _ _ _ | exact fun H => ⟨H.1, hn _ _ _ H.2⟩ | exact fun H => ⟨H.1, H.2.1, hn _ _ _ H.2.2⟩ | exact fun H => ⟨fun c => hj _ _ _ _ (H.1 c), fun c => hn _ _ _ (H.2 c)⟩ | exact hj _ _ _ _ | exact fun H => H)
  case dstore => exact False.elim
  case dstore_n => exact False.elim
  case dsub => exact key (.dsub) rfl
  case dup => exact key (.dup) rfl
  case dup_x1 => exact False.elim
  case dup_x2 => exact False.elim
  case dup2 => exact key (.dup2) rfl
  case dup2_x1 => exact False.elim
  case dup2_x2 => exact False.elim
  case f2d => exact False.elim
  case f2i => exact False.elim
  case f2l => exact False.elim
  case fadd => exact key (.fadd) rfl
  case faload => exact False.elim
  case fastore => exact False.elim
  case fcmp => exact False.elim
  case fconst => exact False.elim
  case fdiv => exact False.elim
  case fload => exact False.elim
  case fload_n => exact False.elim
  case fmul => exact key (.fmul) rfl
  case fneg => exact False.elim
  case frem => exact False.elim
  case freturn => delta am_1F am_1; dsimp only; rcases st with _ | ⟨v | v | v, _ | ⟨w, st⟩⟩ <;> (first | exact False.elim | exact hn _ _ _ | exact fun H => ⟨H.1, hn _ _ _ H.2⟩ | exact fun H => ⟨H.1, H.2.1, hn _ _ _ H.2.2⟩ | exact fun H => ⟨fun c => hj _ _ _ _ (H.1 c), fun c => hn _ _ _ (H.2 c)⟩ | exact hj _ _ _ _ | exact fun H => H)
  case fstore => exact False.elim
  case fstore_n => exact False.elim
  case fsub => exact key (.fsub) rfl
  case getfield index => delta am_1F am_1; dsimp only; rcases st with _ | ⟨v | v | v, st⟩ <;> (first | exact False.elim | (intro H; obtain ⟨hb, H⟩ := bif_t (X := Nat) H; exact getF_ok hn hb H))
  case getstatic index => delta am_1F am_1; dsimp only; (first | exact False.elim | exact hn _ _ _ | exact fun H => ⟨H.1, hn _ _ _ H.2⟩ | exact fun H => ⟨H.1, H.2.1, hn _ _ _ H.2.2⟩ | exact fun H => ⟨fun c => hj _ _ _ _ (H.1 c), fun c => hn _ _ _ (H.2 c)⟩ | exact hj _ _ _ _ | exact fun H => H)
  case goto offset => delta am_1F am_1; dsimp only; (first | exact False.elim | exact hn _ _ _ | exact fun H => ⟨H.1, hn _ _ _ H.2⟩ | exact fun H => ⟨H.1, H.2.1, hn _ _ _ H.2.2⟩ | exact fun H => ⟨fun c => hj _ _ _ _ (H.1 c), fun c => hn _ _ _ (H.2 c)⟩ | exact hj _ _ _ _ | exact fun H => H)
  case goto_w => exact False.elim
  case i2b => exact key (.i2b) rfl
  case i2c => exact key (.i2c) rfl
  case i2d => exact False.elim
  case i2f => exact False.elim
  case i2l => exact key (.i2l) rfl
  case i2s => exact False.elim
  case iadd => exact key (.iadd) rfl
  case iaload => delta am_1F am_1; dsimp only; rcases st with _ | ⟨v | v | v, _ | ⟨w | w | w, st⟩⟩ <;> (first | exact False.elim | (rcases Decidable.em (kdF w = 0) with h0 | h0 <;> first | (dsimp only; rw [h0]; exact False.elim) | (dsimp only; rw [kd_F h0, sz_F h0]; generalize kdF w = t; rcases t with _ | _ | _ | _ | _ | _ | _ | _ | _ | t <;> (first | exact False.elim | exact hn _ _ _ | exact fun H => ⟨H.1, hn _ _ _ H.2⟩ | exact fun H => ⟨H.1, H.2.1, hn _ _ _ H.2.2⟩ | exact fun H => ⟨fun c => hj _ _ _ _ (H.1 c), fun c => hn _ _ _ (H.2 c)⟩ | exact hj _ _ _ _ | exact fun H => H))))
  case iand => exact key (.iand) rfl
  case iastore => delta am_1F am_1; dsimp only; rcases st with _ | ⟨v | v | v, _ | ⟨w | w | w, _ | ⟨u | u | u, st⟩⟩⟩ <;> (first | exact False.elim | (rcases Decidable.em (kdF u = 0) with h0 | h0 <;> first | (dsimp only; rw [h0]; exact False.elim) | (dsimp only; rw [kd_F h0, sz_F h0]; generalize kdF u = t; rcases t with _ | _ | _ | _ | _ | _ | _ | _ | _ | t <;> (first | exact False.elim | exact hn _ _ _ | exact fun H => ⟨H.1, hn _ _ _ H.2⟩ | exact fun H => ⟨H.1, H.2.1, hn _ _ _ H.2.2⟩ | exact fun H => ⟨fun c => hj _ _ _ _ (H.1 c), fun c => hn _ _ _ (H.2 c)⟩ | exact hj _ _ _ _ | exact fun H => H))))
  case iconst i => delta am_1F am_1; dsimp only; (first | exact False.elim | exact hn _ _ _ | exact fun H => ⟨H.1, hn _ _ _ H.2⟩ | exact fun H => ⟨H.1, H.2.1, hn _ _ _ H.2.2⟩ | exact fun H => ⟨fun c => hj _ _ _ _ (H.1 c), fun c => hn _ _ _ (H.2 c)⟩ | exact hj _ _ _ _ | exact fun H => H)
  case idiv => exact key (.idiv) rfl
  case if_acmp => exact False.elim
  case if_icmp cond offset => delta am_1F am_1; dsimp only; rcases st with _ | ⟨v | v | v, _ | ⟨w | w | w, st⟩⟩ <;> (first | exact False.elim | exact hn _ _ _ | exact fun H => ⟨H.1, hn _ _ _ H.2⟩ | exact fun H => ⟨H.1, H.2.1, hn _ _ _ H.2.2⟩ | exact fun H => ⟨fun c => hj _ _ _ _ (H.1 c), fun c => hn _ _ _ (H.2 c)⟩ | exact hj _ _ _ _ | exact fun H => H)
  case ifCond cond offset => delta am_1F am_1; dsimp only; rcases st with _ | ⟨v | v | v, st⟩ <;> (first | exact False.elim | exact hn _ _ _ | exact fun H => ⟨H.1, hn _ _ _ H.2⟩ | exact fun H => ⟨H.1, H.2.1, hn _ _ _ H.2.2⟩ | exact fun H => ⟨fun c => hj _ _ _ _ (H.1 c), fun c => hn _ _ _ (H.2 c)⟩ | exact hj _ _ _ _ | exact fun H => H)
  case ifnonnull => exact False.elim
  case ifnull => exact False.elim
  case iinc index const => delta am_1F am_1; dsimp only; rcases am_find index ls with _ | v | v | v <;> (first | exact False.elim | (dsimp only; rw [frcL_eq]; (first | exact False.elim | exact hn _ _ _ | exact fun H => ⟨H.1, hn _ _ _ H.2⟩ | exact fun H => ⟨H.1, H.2.1, hn _ _ _ H.2.2⟩ | exact fun H => ⟨fun c => hj _ _ _ _ (H.1 c), fun c => hn _ _ _ (H.2 c)⟩ | exact hj _ _ _ _ | exact fun H => H)))
  case iload index => delta am_1F am_1; dsimp only; rcases am_find index ls with _ | v | v | v <;> (first | exact False.elim | exact hn _ _ _ | exact fun H => ⟨H.1, hn _ _ _ H.2⟩ | exact fun H => ⟨H.1, H.2.1, hn _ _ _ H.2.2⟩ | exact fun H => ⟨fun c => hj _ _ _ _ (H.1 c), fun c => hn _ _ _ (H.2 c)⟩ | exact hj _ _ _ _ | exact fun H => H)
  case iload_n => exact False.elim
  case imul => exact key (.imul) rfl
  case ineg => exact key (.ineg) rfl
  case instanceof => exact False.elim
  case invokedynamic => exact False.elim
  case invokeinterface index count => exact key (.invokeinterface index count) rfl
  case invokespecial => exact False.elim
  case invokestatic index =>
    delta am_1F am_1; dsimp only
    intro H
    obtain ⟨hb, H⟩ := bif_t (X := Nat) H
    obtain ⟨e1, e2, -⟩ := na_at (okB_at hb).1
    rw [e1]
    revert H
    rcases am_pop (naF index) [] st with _ | ⟨as, st⟩
    · exact False.elim
    · intro H
      obtain ⟨hq, H⟩ := bif_t (X := Nat) H
      dsimp only
      rw [hq]
      exact hmono _ _ _ _ _ (fun v h => hn _ _ _) H
  case invokevirtual index =>
    delta am_1F am_1; dsimp only
    intro H
    obtain ⟨hb, H⟩ := bif_t (X := Nat) H
    obtain ⟨e1, e2, -⟩ := na_at (okB_at hb).1
    rw [e1, e2]
    revert H
    rcases am_pop (naF index) [] st with _ | ⟨_ | ⟨v | v | v, as⟩, st⟩
    · exact False.elim
    · exact False.elim
    · exact False.elim
    · exact False.elim
    · intro H
      obtain ⟨hq, H⟩ := bif_t (X := Nat) H
      obtain ⟨hq, hk⟩ := Bool.and_eq_true_iff.mp hq
      have hk := Nat.le_of_ble_eq_true hk
      dsimp only
      rw [kd_F (by omega), hq]
      exact hmono _ _ _ _ _ (fun v h => hn _ _ _) H
  case ior => exact key (.ior) rfl
  case irem => exact key (.irem) rfl
  case ireturn => delta am_1F am_1; dsimp only; rcases st with _ | ⟨v | v | v, _ | ⟨w, st⟩⟩ <;> (first | exact False.elim | exact hn _ _ _ | exact fun H => ⟨H.1, hn _ _ _ H.2⟩ | exact fun H => ⟨H.1, H.2.1, hn _ _ _ H.2.2⟩ | exact fun H => ⟨fun c => hj _ _ _ _ (H.1 c), fun c => hn _ _ _ (H.2 c)⟩ | exact hj _ _ _ _ | exact fun H => H)
  case ishl => exact key (.ishl) rfl
  case ishr => exact key (.ishr) rfl
  case istore index => delta am_1F am_1; dsimp only; rcases st with _ | ⟨v | v | v, st⟩ <;> (first | exact False.elim | (dsimp only; rw [frcL_eq]; (first | exact False.elim | exact hn _ _ _ | exact fun H => ⟨H.1, hn _ _ _ H.2⟩ | exact fun H => ⟨H.1, H.2.1, hn _ _ _ H.2.2⟩ | exact fun H => ⟨fun c => hj _ _ _ _ (H.1 c), fun c => hn _ _ _ (H.2 c)⟩ | exact hj _ _ _ _ | exact fun H => H)))
  case istore_n => exact False.elim
  case isub => exact key (.isub) rfl
  case iushr => exact key (.iushr) rfl
  case ixor => exact key (.ixor) rfl
  case jsr => exact False.elim
  case jsr_w => exact False.elim
  case l2d => exact False.elim
  case l2f => exact False.elim
  case l2i => exact key (.l2i) rfl
  case ladd => exact key (.ladd) rfl
  case laload => delta am_1F am_1; dsimp only; rcases st with _ | ⟨v | v | v, _ | ⟨w | w | w, st⟩⟩ <;> (first | exact False.elim | (rcases Decidable.em (kdF w = 0) with h0 | h0 <;> first | (dsimp only; rw [h0]; exact False.elim) | (dsimp only; rw [kd_F h0, sz_F h0]; generalize kdF w = t; rcases t with _ | _ | _ | _ | _ | _ | _ | _ | _ | t <;> (first | exact False.elim | exact hn _ _ _ | exact fun H => ⟨H.1, hn _ _ _ H.2⟩ | exact fun H => ⟨H.1, H.2.1, hn _ _ _ H.2.2⟩ | exact fun H => ⟨fun c => hj _ _ _ _ (H.1 c), fun c => hn _ _ _ (H.2 c)⟩ | exact hj _ _ _ _ | exact fun H => H))))
  case land => exact key (.land) rfl
  case lastore => delta am_1F am_1; dsimp only; rcases st with _ | ⟨v | v | v, _ | ⟨w | w | w, _ | ⟨u | u | u, st⟩⟩⟩ <;> (first | exact False.elim | (rcases Decidable.em (kdF u = 0) with h0 | h0 <;> first | (dsimp only; rw [h0]; exact False.elim) | (dsimp only; rw [kd_F h0, sz_F h0]; generalize kdF u = t; rcases t with _ | _ | _ | _ | _ | _ | _ | _ | _ | t <;> (first | exact False.elim | exact hn _ _ _ | exact fun H => ⟨H.1, hn _ _ _ H.2⟩ | exact fun H => ⟨H.1, H.2.1, hn _ _ _ H.2.2⟩ | exact fun H => ⟨fun c => hj _ _ _ _ (H.1 c), fun c => hn _ _ _ (H.2 c)⟩ | exact hj _ _ _ _ | exact fun H => H))))
  case lcmp => exact key (.lcmp) rfl
  case lconst => exact False.elim
  case ldc => exact False.elim
  case ldc_w => exact False.elim
  case ldc2_w => exact False.elim
  case ldiv => exact key (.ldiv) rfl
  case lload index => delta am_1F am_1; dsimp only; rcases am_find index ls with _ | v | v | v <;> (first | exact False.elim | exact hn _ _ _ | exact fun H => ⟨H.1, hn _ _ _ H.2⟩ | exact fun H => ⟨H.1, H.2.1, hn _ _ _ H.2.2⟩ | exact fun H => ⟨fun c => hj _ _ _ _ (H.1 c), fun c => hn _ _ _ (H.2 c)⟩ | exact hj _ _ _ _ | exact fun H => H)
  case lload_n => exact False.elim
  case lmul => exact key (.lmul) rfl
  case lneg => exact False.elim
  case lookupswitch => exact False.elim
  case lor => exact False.elim
  case lrem => exact False.elim
  case lreturn => delta am_1F am_1; dsimp only; rcases st with _ | ⟨v | v | v, _ | ⟨w, st⟩⟩ <;> (first | exact False.elim | exact hn _ _ _ | exact fun H => ⟨H.1, hn _ _ _ H.2⟩ | exact fun H => ⟨H.1, H.2.1, hn _ _ _ H.2.2⟩ | exact fun H => ⟨fun c => hj _ _ _ _ (H.1 c), fun c => hn _ _ _ (H.2 c)⟩ | exact hj _ _ _ _ | exact fun H => H)
  case lshl => exact key (.lshl) rfl
  case lshr => exact key (.lshr) rfl
  case lstore index => delta am_1F am_1; dsimp only; rcases st with _ | ⟨v | v | v, st⟩ <;> (first | exact False.elim | (dsimp only; rw [frcL_eq]; (first | exact False.elim | exact hn _ _ _ | exact fun H => ⟨H.1, hn _ _ _ H.2⟩ | exact fun H => ⟨H.1, H.2.1, hn _ _ _ H.2.2⟩ | exact fun H => ⟨fun c => hj _ _ _ _ (H.1 c), fun c => hn _ _ _ (H.2 c)⟩ | exact hj _ _ _ _ | exact fun H => H)))
  case lstore_n => exact False.elim
  case lsub => exact key (.lsub) rfl
  case lushr => exact key (.lushr) rfl
  case lxor => exact key (.lxor) rfl
  case monitorenter => exact False.elim
  case monitorexit => exact False.elim
  case multianewarray => exact False.elim
  case new => exact False.elim
  case newarray => exact False.elim
  case nop => delta am_1F am_1; dsimp only; (first | exact False.elim | exact hn _ _ _ | exact fun H => ⟨H.1, hn _ _ _ H.2⟩ | exact fun H => ⟨H.1, H.2.1, hn _ _ _ H.2.2⟩ | exact fun H => ⟨fun c => hj _ _ _ _ (H.1 c), fun c => hn _ _ _ (H.2 c)⟩ | exact hj _ _ _ _ | exact fun H => H)
  case pop => exact key (.pop) rfl
  case pop2 => exact key (.pop2) rfl
  case putfield index => delta am_1F am_1; dsimp only; rcases st with _ | ⟨v | v | v, _ | ⟨w | w | w, st⟩⟩ <;> (first | exact False.elim | (intro H; obtain ⟨hb, H⟩ := bif_t (X := Nat) H; exact putF_ok hn hb H))
  case putstatic => exact False.elim
  case ret => exact False.elim
  case return_ => delta am_1F am_1; dsimp only; rcases st with _ | ⟨v | v | v, _ | ⟨w, st⟩⟩ <;> (first | exact False.elim | exact hn _ _ _ | exact fun H => ⟨H.1, hn _ _ _ H.2⟩ | exact fun H => ⟨H.1, H.2.1, hn _ _ _ H.2.2⟩ | exact fun H => ⟨fun c => hj _ _ _ _ (H.1 c), fun c => hn _ _ _ (H.2 c)⟩ | exact hj _ _ _ _ | exact fun H => H)
  case saload => exact False.elim
  case sastore => exact False.elim
  case sipush => exact False.elim
  case swap => exact False.elim
  case tableswitch default low high offsets => delta am_1F am_1; dsimp only; rcases st with _ | ⟨v | v | v, st⟩ <;> (first | exact False.elim | exact fun H => ⟨fun c => hj _ _ _ _ (H.1 c), fun c => am_sw_par (fun x y => x → y) (fun _ hf => hf.elim) (fun c d x x' y y' h1 h2 hx => ⟨fun hc => h1 (hx.1 hc), fun hc => h2 (hx.2 hc)⟩) (fun _ => hj _ _ _ _) _ _ _ (H.2 c)⟩)
theorem am_xF_ok {N : Nat} {call : Nat → List aV → aH → (Option aV → aH → Prop) → Prop} {ret : Option aV → aH → Prop} {cut : Nat → aL → List aV → aH → Prop} {code : List aI}
    (hmono : ∀ y as h c c', (∀ v h, c v h → c' v h) → call y as h c → call y as h c') : ∀ (f i : Nat) (rest : List aI) (ls : aL) (st : List aV) (h : aH), am_xF N call ret cut code f i rest ls st h →
    am_x (X := Prop) ftab mNa (0, 0) False brP ckP (fun y as S c => call y as S.2 c) (fun _ _ _ _ => False) (fun v S => ret v S.2) (fun i ls st S => cut i ls st S.2) code f i rest ls st (SH N, h) := by
  intro f
  induction f with
  | zero => intro i rest ls st h H; exact H.elim
  | succ f ih =>
    intro i rest ls st h H
    rcases rest with _ | ⟨ins, rest⟩
    · exact H.elim
    · have H : frcN i (fun i => am_1F N call ret cut i ins ls st h (fun ls st h => am_xF N call ret cut code f (i + 1) rest ls st h) (fun t ls st h => bif Nat.ble t i then cut t ls st h else am_xF N call ret cut code f t (code.drop t) ls st h)) := H
      rw [frcN_eq] at H
      refine am_1F_ok hmono (fun ls st h H => ih (i + 1) rest ls st h H) i (fun t ls st h H => ?_) ins ls st h H
      show (bif Nat.ble t i then _ else _)
      cases hb : Nat.ble t i with
      | true => rw [hb] at H; exact H
      | false => rw [hb] at H; exact ih t (code.drop t) ls st h H
def fCall (N : Nat) : Nat → List aV → aH → (Option aV → aH → Prop) → Prop := fun y as h cont =>
  bif okB y && Nat.ble (am_cat as) (loF y) then
    (match rT y with
    | 0 => WV N y 0 (am_en 0 as) h (fun h => cont none h)
    | 1 => WI N y 0 (am_en 0 as) h (fun x h => cont (some (.inl x)) h)
    | _ => WL N y 0 (am_en 0 as) h (fun x h => cont (some (.inr (.inl x))) h))
  else False
theorem fCall_mono {N : Nat} : ∀ y as h c c', (∀ v h, c v h → c' v h) → fCall N y as h c → fCall N y as h c' := by
  intro y as h c c' hc H
  unfold fCall at H ⊢
  obtain ⟨hb, H⟩ := bif_t (X := Nat) H
  rw [hb]
  show (match rT y with
    | 0 => WV N y 0 (am_en 0 as) h (fun h => c' none h)
    | 1 => WI N y 0 (am_en 0 as) h (fun x h => c' (some (.inl x)) h)
    | _ => WL N y 0 (am_en 0 as) h (fun x h => c' (some (.inr (.inl x))) h))
  revert H
  generalize rT y = t
  rcases t with _ | _ | t
  · exact fun H => WV.mono H fun h => hc _ _
  · exact fun H => WI.mono H fun x h => hc _ _
  · exact fun H => WL.mono H fun x h => hc _ _
theorem fCall_k {N : Nat} (y : Nat) (as : List aV) (h : aH) (c : Option aV → aH → Prop) (H : fCall N y as h c) : kCall N y as (SH N, h) c := by
  unfold fCall at H
  obtain ⟨hb, H⟩ := bif_t (X := Nat) H
  obtain ⟨h1, h2⟩ := Bool.and_eq_true_iff.mp hb
  unfold kCall
  rw [(na_at (okB_at h1).1).2.2, h1, h2]
  exact H
def gV (C : aH → Prop) : Option aV → aH → Prop := fun v h => match v with
  | none => C h
  | some _ => False
def gI (C : Int → aH → Prop) : Option aV → aH → Prop := fun v h => match v with
  | some (.inl x) => C x h
  | _ => False
def gL (C : Int → aH → Prop) : Option aV → aH → Prop := fun v h => match v with
  | some (.inr (.inl x)) => C x h
  | _ => False
/-- past a mark -/
def nxN (code : List aI) (i : Nat) : Nat := match code.drop i with
  | .nop :: _ => i + 1
  | _ => i
def uV (N k : Nat) (code : List aI) (lv : Nat → List Nat) (C : aH → Prop) : Nat → aL → List aV → aH → Prop := fun i ls st h => match st with
  | [] => WV N k (nxN code i) (lo_sel (lv i) ls) h C
  | _ :: _ => False
def uI (N k : Nat) (code : List aI) (lv : Nat → List Nat) (C : Int → aH → Prop) : Nat → aL → List aV → aH → Prop := fun i ls st h => match st with
  | [] => WI N k (nxN code i) (lo_sel (lv i) ls) h C
  | _ :: _ => False
def uL (N k : Nat) (code : List aI) (lv : Nat → List Nat) (C : Int → aH → Prop) : Nat → aL → List aV → aH → Prop := fun i ls st h => match st with
  | [] => WL N k (nxN code i) (lo_sel (lv i) ls) h C
  | _ :: _ => False
theorem WK.stepF {N k i : Nat} {ls : aL} {h : aH} {Q : Option aV → aH → Prop} {ret : Option aV → aH → Prop} {cut : Nat → aL → List aV → aH → Prop} {code : List aI} (hc : mM k = code) (hk : (code.drop i).all okI = true)
    (hret : ∀ v h, ret v h → Q v h) (hcut : ∀ i ls st h, cut i ls st h → ∃ ls', (∀ q ∈ ls', q ∈ ls) ∧ st = [] ∧ WK N k i ls' h Q)
    (H : am_xF N (fCall N) ret cut code 5000 i (code.drop i) ls [] h) : WK N k i ls h Q := by
  subst hc
  refine WK.step (retX := fun v S => ret v S.2) (cutX := fun i ls st S => cut i ls st S.2) hk (fun v h => hret v h) (fun i ls st h => hcut i ls st h) ?_
  exact am_x_par (fun x y => x → y) (fun a b => a = b) (fun e _ _ q => e ▸ q) (fun _ _ e => by rw [e]) (fun _ _ e => by rw [e]) (fun _ hf => hf.elim) (fun c d x x' y y' h1 h2 hx => ⟨fun hc => h1 (hx.1 hc), fun hc => h2 (hx.2 hc)⟩) (fun c d x y h1 hx => ⟨hx.1, h1 hx.2⟩)
    (fun y as h c c' hcc hx => fCall_k y as h c' (fCall_mono y as h c c' hcc hx)) (fun _ _ hx => hx) (fun _ a b _ _ e hx => by rw [← e]; exact hx) hk 5000 i _ ls ls [] h rfl (Nat.le_refl _) hk (am_xF_ok fCall_mono 5000 i _ ls [] h H)
theorem WK.nop {N k i : Nat} {ls : aL} {h : aH} {Q : Option aV → aH → Prop} {code : List aI} (hc : mM k = code) {rest : List aI} (hd : code.drop i = .nop :: rest) (H : WK N k (i + 1) ls h Q) : WK N k i ls h Q := by
  intro lim ls2 hl
  obtain ⟨v, h2, hq, n0, hn⟩ := H lim ls2 hl
  refine ⟨v, h2, hq, n0 + 1, fun n hle => ?_⟩
  obtain ⟨n, rfl⟩ : ∃ m, n = m + 1 := ⟨n - 1, by omega⟩
  show am_x (X := Prop) ftab mNa lim False brP ckP _ _ _ _ (mM k) 5000 i ((mM k).drop i) ls2 [] (SH N, h)
  rw [hc, hd]
  exact hn n (by omega)
theorem WK.nx {N k i : Nat} {ls : aL} {h : aH} {Q : Option aV → aH → Prop} {code : List aI} (hc : mM k = code) (H : WK N k (nxN code i) ls h Q) : WK N k i ls h Q := by
  unfold nxN at H
  split at H
  · rename_i hd; exact WK.nop hc hd H
  · exact H
def fV (N k i : Nat) (code : List aI) (lv : Nat → List Nat) (ls : aL) (h : aH) (C : aH → Prop) : Prop := am_xF N (fCall N) (gV C) (uV N k code lv C) code 5000 i (code.drop i) ls [] h
def fI (N k i : Nat) (code : List aI) (lv : Nat → List Nat) (ls : aL) (h : aH) (C : Int → aH → Prop) : Prop := am_xF N (fCall N) (gI C) (uI N k code lv C) code 5000 i (code.drop i) ls [] h
def fL (N k i : Nat) (code : List aI) (lv : Nat → List Nat) (ls : aL) (h : aH) (C : Int → aH → Prop) : Prop := am_xF N (fCall N) (gL C) (uL N k code lv C) code 5000 i (code.drop i) ls [] h
theorem WV.fD {N k i : Nat} {code : List aI} {ls : aL} {h : aH} {C : aH → Prop} (lv : Nat → List Nat) (hm : mM k = code) (hk : (code.drop i).all okI = true) (H : fV N k i code lv ls h C) : WV N k i ls h C := by
  refine WK.stepF (ret := gV C) (cut := uV N k code lv C) hm hk ?_ ?_ H
  · intro v h hr
    rcases v with _ | v
    · exact ⟨rfl, hr⟩
    · exact hr.elim
  · intro i ls st h hc
    rcases st with _ | ⟨s, st⟩
    · exact ⟨_, fun q hq => sel_mem hq, rfl, WK.nx hm hc⟩
    · exact hc.elim
theorem WV.f {N k i : Nat} {code : List aI} {ls : aL} {h : aH} {C : aH → Prop} (lv : Nat → List Nat) (hc : mM k = code) (hk : okB k = true) (H : fV N k i code lv ls h C) : WV N k i ls h C := WV.fD lv hc (by rw [← hc]; exact okB_drop i hk) H
theorem WI.fD {N k i : Nat} {code : List aI} {ls : aL} {h : aH} {C : Int → aH → Prop} (lv : Nat → List Nat) (hm : mM k = code) (hk : (code.drop i).all okI = true) (H : fI N k i code lv ls h C) : WI N k i ls h C := by
  refine WK.stepF (ret := gI C) (cut := uI N k code lv C) hm hk ?_ ?_ H
  · intro v h hr
    rcases v with _ | (v | v | v)
    · exact hr.elim
    · exact ⟨v, rfl, hr⟩
    · exact hr.elim
    · exact hr.elim
  · intro i ls st h hc
    rcases st with _ | ⟨s, st⟩
    · exact ⟨_, fun q hq => sel_mem hq, rfl, WK.nx hm hc⟩
    · exact hc.elim
theorem WI.f {N k i : Nat} {code : List aI} {ls : aL} {h : aH} {C : Int → aH → Prop} (lv : Nat → List Nat) (hc : mM k = code) (hk : okB k = true) (H : fI N k i code lv ls h C) : WI N k i ls h C := WI.fD lv hc (by rw [← hc]; exact okB_drop i hk) H
theorem WL.fD {N k i : Nat} {code : List aI} {ls : aL} {h : aH} {C : Int → aH → Prop} (lv : Nat → List Nat) (hm : mM k = code) (hk : (code.drop i).all okI = true) (H : fL N k i code lv ls h C) : WL N k i ls h C := by
  refine WK.stepF (ret := gL C) (cut := uL N k code lv C) hm hk ?_ ?_ H
  · intro v h hr
    rcases v with _ | (v | v | v)
    · exact hr.elim
    · exact hr.elim
    · exact ⟨v, rfl, hr⟩
    · exact hr.elim
  · intro i ls st h hc
    rcases st with _ | ⟨s, st⟩
    · exact ⟨_, fun q hq => sel_mem hq, rfl, WK.nx hm hc⟩
    · exact hc.elim
theorem WL.f {N k i : Nat} {code : List aI} {ls : aL} {h : aH} {C : Int → aH → Prop} (lv : Nat → List Nat) (hc : mM k = code) (hk : okB k = true) (H : fL N k i code lv ls h C) : WL N k i ls h C := WL.fD lv hc (by rw [← hc]; exact okB_drop i hk) H
end
section
/-! the last part stays small -/
theorem z_last : True := trivial
end
