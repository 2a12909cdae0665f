-- ===== PART A: goes FIRST, ahead of the names: the tables' words, and 'selects' of the private methods out of them =====
/-- a private method of a class that the tables say can be made, by its rows of tables_1 -/
def lw_okq (q : MethodName × Nat) : Prop := (q.1.cls ≠ "java/lang/invoke/MethodHandle" ∧ q.1.cls ≠ "java/lang/invoke/VarHandle") ∧ Cond.instantiable q.1.cls q.2 ∈ tables_1 ∧ Cond.privateMethod q.1 ∈ tables_1 ∧ Cond.instanceMethod q.1 ∈ tables_1
theorem lw_p0 : lw_okq (⟨"WakeHouse$Tape", "scan", "()Z"⟩, 8) := ⟨⟨by decide +kernel, by decide +kernel⟩, List.mem_of_getElem? (i := 33) (by decide +kernel), List.mem_of_getElem? (i := 694) (by decide +kernel), List.mem_of_getElem? (i := 695) (by decide +kernel)⟩
theorem lw_p1 : lw_okq (⟨"WakeHouse$Tape", "put", "(IIJ)V"⟩, 8) := ⟨⟨by decide +kernel, by decide +kernel⟩, List.mem_of_getElem? (i := 33) (by decide +kernel), List.mem_of_getElem? (i := 701) (by decide +kernel), List.mem_of_getElem? (i := 702) (by decide +kernel)⟩
theorem lw_p2 : lw_okq (⟨"WakeHouse$Tape", "scanLetters", "()Z"⟩, 8) := ⟨⟨by decide +kernel, by decide +kernel⟩, List.mem_of_getElem? (i := 33) (by decide +kernel), List.mem_of_getElem? (i := 708) (by decide +kernel), List.mem_of_getElem? (i := 709) (by decide +kernel)⟩
theorem lw_p3 : lw_okq (⟨"WakeHouse$Tape", "scanDigits", "()Z"⟩, 8) := ⟨⟨by decide +kernel, by decide +kernel⟩, List.mem_of_getElem? (i := 33) (by decide +kernel), List.mem_of_getElem? (i := 715) (by decide +kernel), List.mem_of_getElem? (i := 716) (by decide +kernel)⟩
theorem lw_p4 : lw_okq (⟨"WakeHouse$Tape", "scanSign", "(I)Z"⟩, 8) := ⟨⟨by decide +kernel, by decide +kernel⟩, List.mem_of_getElem? (i := 33) (by decide +kernel), List.mem_of_getElem? (i := 719) (by decide +kernel), List.mem_of_getElem? (i := 720) (by decide +kernel)⟩
theorem lw_p5 : lw_okq (⟨"WakeHouse$House", "putUsualHearing", "()V"⟩, 19) := ⟨⟨by decide +kernel, by decide +kernel⟩, List.mem_of_getElem? (i := 125) (by decide +kernel), List.mem_of_getElem? (i := 787) (by decide +kernel), List.mem_of_getElem? (i := 788) (by decide +kernel)⟩
theorem lw_p6 : lw_okq (⟨"WakeHouse$Reader", "kind", "()I"⟩, 15) := ⟨⟨by decide +kernel, by decide +kernel⟩, List.mem_of_getElem? (i := 261) (by decide +kernel), List.mem_of_getElem? (i := 795) (by decide +kernel), List.mem_of_getElem? (i := 796) (by decide +kernel)⟩
theorem lw_p7 : lw_okq (⟨"WakeHouse$Reader", "tell", "()Z"⟩, 15) := ⟨⟨by decide +kernel, by decide +kernel⟩, List.mem_of_getElem? (i := 261) (by decide +kernel), List.mem_of_getElem? (i := 799) (by decide +kernel), List.mem_of_getElem? (i := 800) (by decide +kernel)⟩
theorem lw_p8 : lw_okq (⟨"WakeHouse$Reader", "tellBed", "()Z"⟩, 15) := ⟨⟨by decide +kernel, by decide +kernel⟩, List.mem_of_getElem? (i := 261) (by decide +kernel), List.mem_of_getElem? (i := 803) (by decide +kernel), List.mem_of_getElem? (i := 804) (by decide +kernel)⟩
theorem lw_p9 : lw_okq (⟨"WakeHouse$Reader", "fail", "(I)Z"⟩, 15) := ⟨⟨by decide +kernel, by decide +kernel⟩, List.mem_of_getElem? (i := 261) (by decide +kernel), List.mem_of_getElem? (i := 807) (by decide +kernel), List.mem_of_getElem? (i := 808) (by decide +kernel)⟩
theorem lw_p10 : lw_okq (⟨"WakeHouse$Reader", "goOn", "()Z"⟩, 15) := ⟨⟨by decide +kernel, by decide +kernel⟩, List.mem_of_getElem? (i := 261) (by decide +kernel), List.mem_of_getElem? (i := 811) (by decide +kernel), List.mem_of_getElem? (i := 812) (by decide +kernel)⟩
theorem lw_p11 : lw_okq (⟨"WakeHouse$Reader", "takeNewName", "(I)Z"⟩, 15) := ⟨⟨by decide +kernel, by decide +kernel⟩, List.mem_of_getElem? (i := 261) (by decide +kernel), List.mem_of_getElem? (i := 815) (by decide +kernel), List.mem_of_getElem? (i := 816) (by decide +kernel)⟩
theorem lw_p12 : lw_okq (⟨"WakeHouse$Reader", "numberOf", "(J)I"⟩, 15) := ⟨⟨by decide +kernel, by decide +kernel⟩, List.mem_of_getElem? (i := 261) (by decide +kernel), List.mem_of_getElem? (i := 819) (by decide +kernel), List.mem_of_getElem? (i := 820) (by decide +kernel)⟩
theorem lw_p13 : lw_okq (⟨"WakeHouse$Reader", "doubt", "(I)V"⟩, 15) := ⟨⟨by decide +kernel, by decide +kernel⟩, List.mem_of_getElem? (i := 261) (by decide +kernel), List.mem_of_getElem? (i := 823) (by decide +kernel), List.mem_of_getElem? (i := 824) (by decide +kernel)⟩
theorem lw_p14 : lw_okq (⟨"WakeHouse$Reader", "takeInt", "(II)Z"⟩, 15) := ⟨⟨by decide +kernel, by decide +kernel⟩, List.mem_of_getElem? (i := 261) (by decide +kernel), List.mem_of_getElem? (i := 827) (by decide +kernel), List.mem_of_getElem? (i := 828) (by decide +kernel)⟩
theorem lw_p15 : lw_okq (⟨"WakeHouse$Reader", "take", "(I)Z"⟩, 15) := ⟨⟨by decide +kernel, by decide +kernel⟩, List.mem_of_getElem? (i := 261) (by decide +kernel), List.mem_of_getElem? (i := 831) (by decide +kernel), List.mem_of_getElem? (i := 832) (by decide +kernel)⟩
def lw_privs_1 : List (MethodName × Nat) := [(⟨"WakeHouse$Tape", "scan", "()Z"⟩, 8), (⟨"WakeHouse$Tape", "put", "(IIJ)V"⟩, 8), (⟨"WakeHouse$Tape", "scanLetters", "()Z"⟩, 8), (⟨"WakeHouse$Tape", "scanDigits", "()Z"⟩, 8), (⟨"WakeHouse$Tape", "scanSign", "(I)Z"⟩, 8), (⟨"WakeHouse$House", "putUsualHearing", "()V"⟩, 19), (⟨"WakeHouse$Reader", "kind", "()I"⟩, 15), (⟨"WakeHouse$Reader", "tell", "()Z"⟩, 15), (⟨"WakeHouse$Reader", "tellBed", "()Z"⟩, 15), (⟨"WakeHouse$Reader", "fail", "(I)Z"⟩, 15), (⟨"WakeHouse$Reader", "goOn", "()Z"⟩, 15), (⟨"WakeHouse$Reader", "takeNewName", "(I)Z"⟩, 15), (⟨"WakeHouse$Reader", "numberOf", "(J)I"⟩, 15), (⟨"WakeHouse$Reader", "doubt", "(I)V"⟩, 15), (⟨"WakeHouse$Reader", "takeInt", "(II)Z"⟩, 15), (⟨"WakeHouse$Reader", "take", "(I)Z"⟩, 15)]
theorem lw_r1 : ∀ q ∈ lw_privs_1, lw_okq q := List.forall_mem_cons.mpr ⟨lw_p0, List.forall_mem_cons.mpr ⟨lw_p1, List.forall_mem_cons.mpr ⟨lw_p2, List.forall_mem_cons.mpr ⟨lw_p3, List.forall_mem_cons.mpr ⟨lw_p4, List.forall_mem_cons.mpr ⟨lw_p5, List.forall_mem_cons.mpr ⟨lw_p6, List.forall_mem_cons.mpr ⟨lw_p7, List.forall_mem_cons.mpr ⟨lw_p8, List.forall_mem_cons.mpr ⟨lw_p9, List.forall_mem_cons.mpr ⟨lw_p10, List.forall_mem_cons.mpr ⟨lw_p11, List.forall_mem_cons.mpr ⟨lw_p12, List.forall_mem_cons.mpr ⟨lw_p13, List.forall_mem_cons.mpr ⟨lw_p14, List.forall_mem_cons.mpr ⟨lw_p15, fun _ h => absurd h List.not_mem_nil⟩⟩⟩⟩⟩⟩⟩⟩⟩⟩⟩⟩⟩⟩⟩⟩
theorem lw_p16 : lw_okq (⟨"WakeHouse$Reader", "tellClock", "()Z"⟩, 15) := ⟨⟨by decide +kernel, by decide +kernel⟩, List.mem_of_getElem? (i := 261) (by decide +kernel), List.mem_of_getElem? (i := 835) (by decide +kernel), List.mem_of_getElem? (i := 836) (by decide +kernel)⟩
theorem lw_p17 : lw_okq (⟨"WakeHouse$Reader", "tellSleeper", "()Z"⟩, 15) := ⟨⟨by decide +kernel, by decide +kernel⟩, List.mem_of_getElem? (i := 261) (by decide +kernel), List.mem_of_getElem? (i := 839) (by decide +kernel), List.mem_of_getElem? (i := 840) (by decide +kernel)⟩
theorem lw_p18 : lw_okq (⟨"WakeHouse$Reader", "takeBedName", "()Z"⟩, 15) := ⟨⟨by decide +kernel, by decide +kernel⟩, List.mem_of_getElem? (i := 261) (by decide +kernel), List.mem_of_getElem? (i := 843) (by decide +kernel), List.mem_of_getElem? (i := 844) (by decide +kernel)⟩
theorem lw_p19 : lw_okq (⟨"WakeHouse$Reader", "takeDuty", "(I)Z"⟩, 15) := ⟨⟨by decide +kernel, by decide +kernel⟩, List.mem_of_getElem? (i := 261) (by decide +kernel), List.mem_of_getElem? (i := 847) (by decide +kernel), List.mem_of_getElem? (i := 848) (by decide +kernel)⟩
theorem lw_p20 : lw_okq (⟨"WakeHouse$Reader", "tellLaw", "(LWakeHouse$Law;)Z"⟩, 15) := ⟨⟨by decide +kernel, by decide +kernel⟩, List.mem_of_getElem? (i := 261) (by decide +kernel), List.mem_of_getElem? (i := 851) (by decide +kernel), List.mem_of_getElem? (i := 852) (by decide +kernel)⟩
theorem lw_p21 : lw_okq (⟨"WakeHouse$Reader", "open", "(I)Z"⟩, 15) := ⟨⟨by decide +kernel, by decide +kernel⟩, List.mem_of_getElem? (i := 261) (by decide +kernel), List.mem_of_getElem? (i := 855) (by decide +kernel), List.mem_of_getElem? (i := 856) (by decide +kernel)⟩
theorem lw_p22 : lw_okq (⟨"WakeHouse$Reader", "pushSign", "(I)V"⟩, 15) := ⟨⟨by decide +kernel, by decide +kernel⟩, List.mem_of_getElem? (i := 261) (by decide +kernel), List.mem_of_getElem? (i := 859) (by decide +kernel), List.mem_of_getElem? (i := 860) (by decide +kernel)⟩
theorem lw_p23 : lw_okq (⟨"WakeHouse$Reader", "putUnit", "(LWakeHouse$Law;I)Z"⟩, 15) := ⟨⟨by decide +kernel, by decide +kernel⟩, List.mem_of_getElem? (i := 261) (by decide +kernel), List.mem_of_getElem? (i := 863) (by decide +kernel), List.mem_of_getElem? (i := 864) (by decide +kernel)⟩
theorem lw_p24 : lw_okq (⟨"WakeHouse$Reader", "putSign", "(LWakeHouse$Law;I)Z"⟩, 15) := ⟨⟨by decide +kernel, by decide +kernel⟩, List.mem_of_getElem? (i := 261) (by decide +kernel), List.mem_of_getElem? (i := 868) (by decide +kernel), List.mem_of_getElem? (i := 869) (by decide +kernel)⟩
theorem lw_p25 : lw_okq (⟨"WakeHouse$Reader", "putWaiting", "(LWakeHouse$Law;Z)V"⟩, 15) := ⟨⟨by decide +kernel, by decide +kernel⟩, List.mem_of_getElem? (i := 261) (by decide +kernel), List.mem_of_getElem? (i := 872) (by decide +kernel), List.mem_of_getElem? (i := 873) (by decide +kernel)⟩
theorem lw_p26 : lw_okq (⟨"WakeHouse$Reader", "closes", "(I)Z"⟩, 15) := ⟨⟨by decide +kernel, by decide +kernel⟩, List.mem_of_getElem? (i := 261) (by decide +kernel), List.mem_of_getElem? (i := 876) (by decide +kernel), List.mem_of_getElem? (i := 877) (by decide +kernel)⟩
theorem lw_p27 : lw_okq (⟨"WakeHouse$Reader", "close", "(LWakeHouse$Law;I)Z"⟩, 15) := ⟨⟨by decide +kernel, by decide +kernel⟩, List.mem_of_getElem? (i := 261) (by decide +kernel), List.mem_of_getElem? (i := 880) (by decide +kernel), List.mem_of_getElem? (i := 881) (by decide +kernel)⟩
theorem lw_p28 : lw_okq (⟨"WakeHouse$House", "listHours", "()V"⟩, 19) := ⟨⟨by decide +kernel, by decide +kernel⟩, List.mem_of_getElem? (i := 125) (by decide +kernel), List.mem_of_getElem? (i := 896) (by decide +kernel), List.mem_of_getElem? (i := 897) (by decide +kernel)⟩
theorem lw_p29 : lw_okq (⟨"WakeHouse$House", "listHour", "(I)V"⟩, 19) := ⟨⟨by decide +kernel, by decide +kernel⟩, List.mem_of_getElem? (i := 125) (by decide +kernel), List.mem_of_getElem? (i := 900) (by decide +kernel), List.mem_of_getElem? (i := 901) (by decide +kernel)⟩
theorem lw_p30 : lw_okq (⟨"WakeHouse$House", "listEight", "()V"⟩, 19) := ⟨⟨by decide +kernel, by decide +kernel⟩, List.mem_of_getElem? (i := 125) (by decide +kernel), List.mem_of_getElem? (i := 904) (by decide +kernel), List.mem_of_getElem? (i := 905) (by decide +kernel)⟩
theorem lw_p31 : lw_okq (⟨"WakeHouse", "isSleeper", "(I)Z"⟩, 12) := ⟨⟨by decide +kernel, by decide +kernel⟩, List.mem_of_getElem? (i := 25) (by decide +kernel), List.mem_of_getElem? (i := 930) (by decide +kernel), List.mem_of_getElem? (i := 931) (by decide +kernel)⟩
def lw_privs_2 : List (MethodName × Nat) := [(⟨"WakeHouse$Reader", "tellClock", "()Z"⟩, 15), (⟨"WakeHouse$Reader", "tellSleeper", "()Z"⟩, 15), (⟨"WakeHouse$Reader", "takeBedName", "()Z"⟩, 15), (⟨"WakeHouse$Reader", "takeDuty", "(I)Z"⟩, 15), (⟨"WakeHouse$Reader", "tellLaw", "(LWakeHouse$Law;)Z"⟩, 15), (⟨"WakeHouse$Reader", "open", "(I)Z"⟩, 15), (⟨"WakeHouse$Reader", "pushSign", "(I)V"⟩, 15), (⟨"WakeHouse$Reader", "putUnit", "(LWakeHouse$Law;I)Z"⟩, 15), (⟨"WakeHouse$Reader", "putSign", "(LWakeHouse$Law;I)Z"⟩, 15), (⟨"WakeHouse$Reader", "putWaiting", "(LWakeHouse$Law;Z)V"⟩, 15), (⟨"WakeHouse$Reader", "closes", "(I)Z"⟩, 15), (⟨"WakeHouse$Reader", "close", "(LWakeHouse$Law;I)Z"⟩, 15), (⟨"WakeHouse$House", "listHours", "()V"⟩, 19), (⟨"WakeHouse$House", "listHour", "(I)V"⟩, 19), (⟨"WakeHouse$House", "listEight", "()V"⟩, 19), (⟨"WakeHouse", "isSleeper", "(I)Z"⟩, 12)]
theorem lw_r2 : ∀ q ∈ lw_privs_2, lw_okq q := List.forall_mem_cons.mpr ⟨lw_p16, List.forall_mem_cons.mpr ⟨lw_p17, List.forall_mem_cons.mpr ⟨lw_p18, List.forall_mem_cons.mpr ⟨lw_p19, List.forall_mem_cons.mpr ⟨lw_p20, List.forall_mem_cons.mpr ⟨lw_p21, List.forall_mem_cons.mpr ⟨lw_p22, List.forall_mem_cons.mpr ⟨lw_p23, List.forall_mem_cons.mpr ⟨lw_p24, List.forall_mem_cons.mpr ⟨lw_p25, List.forall_mem_cons.mpr ⟨lw_p26, List.forall_mem_cons.mpr ⟨lw_p27, List.forall_mem_cons.mpr ⟨lw_p28, List.forall_mem_cons.mpr ⟨lw_p29, List.forall_mem_cons.mpr ⟨lw_p30, List.forall_mem_cons.mpr ⟨lw_p31, fun _ h => absurd h List.not_mem_nil⟩⟩⟩⟩⟩⟩⟩⟩⟩⟩⟩⟩⟩⟩⟩⟩
theorem lw_p32 : lw_okq (⟨"WakeHouse", "isBed", "(I)Z"⟩, 12) := ⟨⟨by decide +kernel, by decide +kernel⟩, List.mem_of_getElem? (i := 25) (by decide +kernel), List.mem_of_getElem? (i := 942) (by decide +kernel), List.mem_of_getElem? (i := 943) (by decide +kernel)⟩
theorem lw_p33 : lw_okq (⟨"WakeHouse", "isClock", "(I)Z"⟩, 12) := ⟨⟨by decide +kernel, by decide +kernel⟩, List.mem_of_getElem? (i := 25) (by decide +kernel), List.mem_of_getElem? (i := 990) (by decide +kernel), List.mem_of_getElem? (i := 991) (by decide +kernel)⟩
theorem lw_p34 : lw_okq (⟨"WakeHouse", "plan", "(IIII)I"⟩, 12) := ⟨⟨by decide +kernel, by decide +kernel⟩, List.mem_of_getElem? (i := 25) (by decide +kernel), List.mem_of_getElem? (i := 998) (by decide +kernel), List.mem_of_getElem? (i := 999) (by decide +kernel)⟩
theorem lw_p35 : lw_okq (⟨"WakeHouse", "isSound", "(I)Z"⟩, 12) := ⟨⟨by decide +kernel, by decide +kernel⟩, List.mem_of_getElem? (i := 25) (by decide +kernel), List.mem_of_getElem? (i := 1018) (by decide +kernel), List.mem_of_getElem? (i := 1019) (by decide +kernel)⟩
theorem lw_p36 : lw_okq (⟨"WakeHouse", "bestRefusal", "(III)I"⟩, 12) := ⟨⟨by decide +kernel, by decide +kernel⟩, List.mem_of_getElem? (i := 25) (by decide +kernel), List.mem_of_getElem? (i := 1123) (by decide +kernel), List.mem_of_getElem? (i := 1124) (by decide +kernel)⟩
theorem lw_p37 : lw_okq (⟨"WakeHouse$BestTwo", "hearAll", "()V"⟩, 17) := ⟨⟨by decide +kernel, by decide +kernel⟩, List.mem_of_getElem? (i := 438) (by decide +kernel), List.mem_of_getElem? (i := 1131) (by decide +kernel), List.mem_of_getElem? (i := 1132) (by decide +kernel)⟩
theorem lw_p38 : lw_okq (⟨"WakeHouse$BestTwo", "hearClock", "(I[I)V"⟩, 17) := ⟨⟨by decide +kernel, by decide +kernel⟩, List.mem_of_getElem? (i := 438) (by decide +kernel), List.mem_of_getElem? (i := 1135) (by decide +kernel), List.mem_of_getElem? (i := 1136) (by decide +kernel)⟩
theorem lw_p39 : lw_okq (⟨"WakeHouse$BestTwo", "setTo", "(I)I"⟩, 17) := ⟨⟨by decide +kernel, by decide +kernel⟩, List.mem_of_getElem? (i := 438) (by decide +kernel), List.mem_of_getElem? (i := 1139) (by decide +kernel), List.mem_of_getElem? (i := 1140) (by decide +kernel)⟩
theorem lw_p40 : lw_okq (⟨"WakeHouse$BestTwo", "weigh", "(II)V"⟩, 17) := ⟨⟨by decide +kernel, by decide +kernel⟩, List.mem_of_getElem? (i := 438) (by decide +kernel), List.mem_of_getElem? (i := 1151) (by decide +kernel), List.mem_of_getElem? (i := 1152) (by decide +kernel)⟩
theorem lw_p41 : lw_okq (⟨"WakeHouse$BestTwo", "compareBeds", "(II)V"⟩, 17) := ⟨⟨by decide +kernel, by decide +kernel⟩, List.mem_of_getElem? (i := 438) (by decide +kernel), List.mem_of_getElem? (i := 1158) (by decide +kernel), List.mem_of_getElem? (i := 1159) (by decide +kernel)⟩
theorem lw_p42 : lw_okq (⟨"WakeHouse$BestTwo", "compare", "(JI)V"⟩, 17) := ⟨⟨by decide +kernel, by decide +kernel⟩, List.mem_of_getElem? (i := 438) (by decide +kernel), List.mem_of_getElem? (i := 1162) (by decide +kernel), List.mem_of_getElem? (i := 1163) (by decide +kernel)⟩
theorem lw_p43 : lw_okq (⟨"WakeHouse$BestTwo", "compareSeconds", "(JII)V"⟩, 17) := ⟨⟨by decide +kernel, by decide +kernel⟩, List.mem_of_getElem? (i := 438) (by decide +kernel), List.mem_of_getElem? (i := 1166) (by decide +kernel), List.mem_of_getElem? (i := 1167) (by decide +kernel)⟩
theorem lw_p44 : lw_okq (⟨"WakeHouse$Cover", "gather", "(I)V"⟩, 6) := ⟨⟨by decide +kernel, by decide +kernel⟩, List.mem_of_getElem? (i := 497) (by decide +kernel), List.mem_of_getElem? (i := 1190) (by decide +kernel), List.mem_of_getElem? (i := 1191) (by decide +kernel)⟩
theorem lw_p45 : lw_okq (⟨"WakeHouse$Cover", "wokenBy", "(III)I"⟩, 6) := ⟨⟨by decide +kernel, by decide +kernel⟩, List.mem_of_getElem? (i := 497) (by decide +kernel), List.mem_of_getElem? (i := 1195) (by decide +kernel), List.mem_of_getElem? (i := 1196) (by decide +kernel)⟩
theorem lw_p46 : lw_okq (⟨"WakeHouse$Cover", "keep", "(I)V"⟩, 6) := ⟨⟨by decide +kernel, by decide +kernel⟩, List.mem_of_getElem? (i := 497) (by decide +kernel), List.mem_of_getElem? (i := 1202) (by decide +kernel), List.mem_of_getElem? (i := 1203) (by decide +kernel)⟩
theorem lw_p47 : lw_okq (⟨"WakeHouse$Cover", "bound", "()I"⟩, 6) := ⟨⟨by decide +kernel, by decide +kernel⟩, List.mem_of_getElem? (i := 497) (by decide +kernel), List.mem_of_getElem? (i := 1206) (by decide +kernel), List.mem_of_getElem? (i := 1207) (by decide +kernel)⟩
def lw_privs_3 : List (MethodName × Nat) := [(⟨"WakeHouse", "isBed", "(I)Z"⟩, 12), (⟨"WakeHouse", "isClock", "(I)Z"⟩, 12), (⟨"WakeHouse", "plan", "(IIII)I"⟩, 12), (⟨"WakeHouse", "isSound", "(I)Z"⟩, 12), (⟨"WakeHouse", "bestRefusal", "(III)I"⟩, 12), (⟨"WakeHouse$BestTwo", "hearAll", "()V"⟩, 17), (⟨"WakeHouse$BestTwo", "hearClock", "(I[I)V"⟩, 17), (⟨"WakeHouse$BestTwo", "setTo", "(I)I"⟩, 17), (⟨"WakeHouse$BestTwo", "weigh", "(II)V"⟩, 17), (⟨"WakeHouse$BestTwo", "compareBeds", "(II)V"⟩, 17), (⟨"WakeHouse$BestTwo", "compare", "(JI)V"⟩, 17), (⟨"WakeHouse$BestTwo", "compareSeconds", "(JII)V"⟩, 17), (⟨"WakeHouse$Cover", "gather", "(I)V"⟩, 6), (⟨"WakeHouse$Cover", "wokenBy", "(III)I"⟩, 6), (⟨"WakeHouse$Cover", "keep", "(I)V"⟩, 6), (⟨"WakeHouse$Cover", "bound", "()I"⟩, 6)]
theorem lw_r3 : ∀ q ∈ lw_privs_3, lw_okq q := List.forall_mem_cons.mpr ⟨lw_p32, List.forall_mem_cons.mpr ⟨lw_p33, List.forall_mem_cons.mpr ⟨lw_p34, List.forall_mem_cons.mpr ⟨lw_p35, List.forall_mem_cons.mpr ⟨lw_p36, List.forall_mem_cons.mpr ⟨lw_p37, List.forall_mem_cons.mpr ⟨lw_p38, List.forall_mem_cons.mpr ⟨lw_p39, List.forall_mem_cons.mpr ⟨lw_p40, List.forall_mem_cons.mpr ⟨lw_p41, List.forall_mem_cons.mpr ⟨lw_p42, List.forall_mem_cons.mpr ⟨lw_p43, List.forall_mem_cons.mpr ⟨lw_p44, List.forall_mem_cons.mpr ⟨lw_p45, List.forall_mem_cons.mpr ⟨lw_p46, List.forall_mem_cons.mpr ⟨lw_p47, fun _ h => absurd h List.not_mem_nil⟩⟩⟩⟩⟩⟩⟩⟩⟩⟩⟩⟩⟩⟩⟩⟩
theorem lw_p48 : lw_okq (⟨"WakeHouse$Cover", "goOn", "(II)V"⟩, 6) := ⟨⟨by decide +kernel, by decide +kernel⟩, List.mem_of_getElem? (i := 497) (by decide +kernel), List.mem_of_getElem? (i := 1211) (by decide +kernel), List.mem_of_getElem? (i := 1212) (by decide +kernel)⟩
theorem lw_p49 : lw_okq (⟨"WakeHouse$Shaking", "setPrices", "(I)V"⟩, 13) := ⟨⟨by decide +kernel, by decide +kernel⟩, List.mem_of_getElem? (i := 522) (by decide +kernel), List.mem_of_getElem? (i := 1237) (by decide +kernel), List.mem_of_getElem? (i := 1238) (by decide +kernel)⟩
theorem lw_p50 : lw_okq (⟨"WakeHouse$Shaking", "canShake", "(II)Z"⟩, 13) := ⟨⟨by decide +kernel, by decide +kernel⟩, List.mem_of_getElem? (i := 522) (by decide +kernel), List.mem_of_getElem? (i := 1247) (by decide +kernel), List.mem_of_getElem? (i := 1248) (by decide +kernel)⟩
theorem lw_p51 : lw_okq (⟨"WakeHouse$Shaking", "walkOf", "(II)I"⟩, 13) := ⟨⟨by decide +kernel, by decide +kernel⟩, List.mem_of_getElem? (i := 522) (by decide +kernel), List.mem_of_getElem? (i := 1251) (by decide +kernel), List.mem_of_getElem? (i := 1252) (by decide +kernel)⟩
theorem lw_p52 : lw_okq (⟨"WakeHouse$Shaking", "seat", "(I)V"⟩, 13) := ⟨⟨by decide +kernel, by decide +kernel⟩, List.mem_of_getElem? (i := 522) (by decide +kernel), List.mem_of_getElem? (i := 1263) (by decide +kernel), List.mem_of_getElem? (i := 1264) (by decide +kernel)⟩
theorem lw_p53 : lw_okq (⟨"WakeHouse$Shaking", "nearest", "(I)I"⟩, 13) := ⟨⟨by decide +kernel, by decide +kernel⟩, List.mem_of_getElem? (i := 522) (by decide +kernel), List.mem_of_getElem? (i := 1268) (by decide +kernel), List.mem_of_getElem? (i := 1269) (by decide +kernel)⟩
theorem lw_p54 : lw_okq (⟨"WakeHouse$Shaking", "isDone", "(I)Z"⟩, 13) := ⟨⟨by decide +kernel, by decide +kernel⟩, List.mem_of_getElem? (i := 522) (by decide +kernel), List.mem_of_getElem? (i := 1272) (by decide +kernel), List.mem_of_getElem? (i := 1273) (by decide +kernel)⟩
theorem lw_p55 : lw_okq (⟨"WakeHouse$Shaking", "tell", "(I)V"⟩, 13) := ⟨⟨by decide +kernel, by decide +kernel⟩, List.mem_of_getElem? (i := 522) (by decide +kernel), List.mem_of_getElem? (i := 1276) (by decide +kernel), List.mem_of_getElem? (i := 1277) (by decide +kernel)⟩
theorem lw_p56 : lw_okq (⟨"WakeHouse", "mayRingTwice", "(IIII)Z"⟩, 12) := ⟨⟨by decide +kernel, by decide +kernel⟩, List.mem_of_getElem? (i := 25) (by decide +kernel), List.mem_of_getElem? (i := 1288) (by decide +kernel), List.mem_of_getElem? (i := 1289) (by decide +kernel)⟩
theorem lw_p57 : lw_okq (⟨"WakeHouse$Night", "pickNext", "(II)Z"⟩, 12) := ⟨⟨by decide +kernel, by decide +kernel⟩, List.mem_of_getElem? (i := 391) (by decide +kernel), List.mem_of_getElem? (i := 1298) (by decide +kernel), List.mem_of_getElem? (i := 1299) (by decide +kernel)⟩
theorem lw_p58 : lw_okq (⟨"WakeHouse$Changes", "setPrices", "()V"⟩, 6) := ⟨⟨by decide +kernel, by decide +kernel⟩, List.mem_of_getElem? (i := 603) (by decide +kernel), List.mem_of_getElem? (i := 1317) (by decide +kernel), List.mem_of_getElem? (i := 1318) (by decide +kernel)⟩
theorem lw_p59 : lw_okq (⟨"WakeHouse$Changes", "priceOf", "(II)J"⟩, 6) := ⟨⟨by decide +kernel, by decide +kernel⟩, List.mem_of_getElem? (i := 603) (by decide +kernel), List.mem_of_getElem? (i := 1325) (by decide +kernel), List.mem_of_getElem? (i := 1326) (by decide +kernel)⟩
theorem lw_p60 : lw_okq (⟨"WakeHouse$Changes", "seekOne", "(JI)Z"⟩, 6) := ⟨⟨by decide +kernel, by decide +kernel⟩, List.mem_of_getElem? (i := 603) (by decide +kernel), List.mem_of_getElem? (i := 1331) (by decide +kernel), List.mem_of_getElem? (i := 1332) (by decide +kernel)⟩
theorem lw_p61 : lw_okq (⟨"WakeHouse$Changes", "saved", "(II)J"⟩, 6) := ⟨⟨by decide +kernel, by decide +kernel⟩, List.mem_of_getElem? (i := 603) (by decide +kernel), List.mem_of_getElem? (i := 1335) (by decide +kernel), List.mem_of_getElem? (i := 1336) (by decide +kernel)⟩
theorem lw_p62 : lw_okq (⟨"WakeHouse$Changes", "seekTwo", "(J)Z"⟩, 6) := ⟨⟨by decide +kernel, by decide +kernel⟩, List.mem_of_getElem? (i := 603) (by decide +kernel), List.mem_of_getElem? (i := 1339) (by decide +kernel), List.mem_of_getElem? (i := 1340) (by decide +kernel)⟩
theorem lw_p63 : lw_okq (⟨"WakeHouse$Changes", "turn", "(II)V"⟩, 6) := ⟨⟨by decide +kernel, by decide +kernel⟩, List.mem_of_getElem? (i := 603) (by decide +kernel), List.mem_of_getElem? (i := 1343) (by decide +kernel), List.mem_of_getElem? (i := 1344) (by decide +kernel)⟩
def lw_privs_4 : List (MethodName × Nat) := [(⟨"WakeHouse$Cover", "goOn", "(II)V"⟩, 6), (⟨"WakeHouse$Shaking", "setPrices", "(I)V"⟩, 13), (⟨"WakeHouse$Shaking", "canShake", "(II)Z"⟩, 13), (⟨"WakeHouse$Shaking", "walkOf", "(II)I"⟩, 13), (⟨"WakeHouse$Shaking", "seat", "(I)V"⟩, 13), (⟨"WakeHouse$Shaking", "nearest", "(I)I"⟩, 13), (⟨"WakeHouse$Shaking", "isDone", "(I)Z"⟩, 13), (⟨"WakeHouse$Shaking", "tell", "(I)V"⟩, 13), (⟨"WakeHouse", "mayRingTwice", "(IIII)Z"⟩, 12), (⟨"WakeHouse$Night", "pickNext", "(II)Z"⟩, 12), (⟨"WakeHouse$Changes", "setPrices", "()V"⟩, 6), (⟨"WakeHouse$Changes", "priceOf", "(II)J"⟩, 6), (⟨"WakeHouse$Changes", "seekOne", "(JI)Z"⟩, 6), (⟨"WakeHouse$Changes", "saved", "(II)J"⟩, 6), (⟨"WakeHouse$Changes", "seekTwo", "(J)Z"⟩, 6), (⟨"WakeHouse$Changes", "turn", "(II)V"⟩, 6)]
theorem lw_r4 : ∀ q ∈ lw_privs_4, lw_okq q := List.forall_mem_cons.mpr ⟨lw_p48, List.forall_mem_cons.mpr ⟨lw_p49, List.forall_mem_cons.mpr ⟨lw_p50, List.forall_mem_cons.mpr ⟨lw_p51, List.forall_mem_cons.mpr ⟨lw_p52, List.forall_mem_cons.mpr ⟨lw_p53, List.forall_mem_cons.mpr ⟨lw_p54, List.forall_mem_cons.mpr ⟨lw_p55, List.forall_mem_cons.mpr ⟨lw_p56, List.forall_mem_cons.mpr ⟨lw_p57, List.forall_mem_cons.mpr ⟨lw_p58, List.forall_mem_cons.mpr ⟨lw_p59, List.forall_mem_cons.mpr ⟨lw_p60, List.forall_mem_cons.mpr ⟨lw_p61, List.forall_mem_cons.mpr ⟨lw_p62, List.forall_mem_cons.mpr ⟨lw_p63, fun _ h => absurd h List.not_mem_nil⟩⟩⟩⟩⟩⟩⟩⟩⟩⟩⟩⟩⟩⟩⟩⟩
theorem lw_p64 : lw_okq (⟨"WakeHouse$Round", "goForward", "()V"⟩, 8) := ⟨⟨by decide +kernel, by decide +kernel⟩, List.mem_of_getElem? (i := 571) (by decide +kernel), List.mem_of_getElem? (i := 1380) (by decide +kernel), List.mem_of_getElem? (i := 1381) (by decide +kernel)⟩
theorem lw_p65 : lw_okq (⟨"WakeHouse$Round", "knock", "(II)I"⟩, 8) := ⟨⟨by decide +kernel, by decide +kernel⟩, List.mem_of_getElem? (i := 571) (by decide +kernel), List.mem_of_getElem? (i := 1386) (by decide +kernel), List.mem_of_getElem? (i := 1387) (by decide +kernel)⟩
theorem lw_p66 : lw_okq (⟨"WakeHouse$Round", "hourOf", "(I)I"⟩, 8) := ⟨⟨by decide +kernel, by decide +kernel⟩, List.mem_of_getElem? (i := 571) (by decide +kernel), List.mem_of_getElem? (i := 1390) (by decide +kernel), List.mem_of_getElem? (i := 1391) (by decide +kernel)⟩
theorem lw_p67 : lw_okq (⟨"WakeHouse$Round", "goBackward", "(I)V"⟩, 8) := ⟨⟨by decide +kernel, by decide +kernel⟩, List.mem_of_getElem? (i := 571) (by decide +kernel), List.mem_of_getElem? (i := 1397) (by decide +kernel), List.mem_of_getElem? (i := 1398) (by decide +kernel)⟩
theorem lw_p68 : lw_okq (⟨"WakeHouse$Round", "pickOrder", "()V"⟩, 8) := ⟨⟨by decide +kernel, by decide +kernel⟩, List.mem_of_getElem? (i := 571) (by decide +kernel), List.mem_of_getElem? (i := 1401) (by decide +kernel), List.mem_of_getElem? (i := 1402) (by decide +kernel)⟩
theorem lw_p69 : lw_okq (⟨"WakeHouse", "isKnown", "(I)Z"⟩, 12) := ⟨⟨by decide +kernel, by decide +kernel⟩, List.mem_of_getElem? (i := 25) (by decide +kernel), List.mem_of_getElem? (i := 1425) (by decide +kernel), List.mem_of_getElem? (i := 1426) (by decide +kernel)⟩
theorem lw_p70 : lw_okq (⟨"WakeHouse$State", "known", "(II)Z"⟩, 14) := ⟨⟨by decide +kernel, by decide +kernel⟩, List.mem_of_getElem? (i := 317) (by decide +kernel), List.mem_of_getElem? (i := 1433) (by decide +kernel), List.mem_of_getElem? (i := 1434) (by decide +kernel)⟩
theorem lw_p71 : lw_okq (⟨"WakeHouse$State", "inTime", "(LWakeHouse$House;I)Z"⟩, 14) := ⟨⟨by decide +kernel, by decide +kernel⟩, List.mem_of_getElem? (i := 317) (by decide +kernel), List.mem_of_getElem? (i := 1437) (by decide +kernel), List.mem_of_getElem? (i := 1438) (by decide +kernel)⟩
theorem lw_p72 : lw_okq (⟨"WakeHouse", "aMinuteLater", "(IIZ)I"⟩, 12) := ⟨⟨by decide +kernel, by decide +kernel⟩, List.mem_of_getElem? (i := 25) (by decide +kernel), List.mem_of_getElem? (i := 1465) (by decide +kernel), List.mem_of_getElem? (i := 1466) (by decide +kernel)⟩
theorem lw_p73 : lw_okq (⟨"WakeHouse", "cryHeard", "(III)I"⟩, 12) := ⟨⟨by decide +kernel, by decide +kernel⟩, List.mem_of_getElem? (i := 25) (by decide +kernel), List.mem_of_getElem? (i := 1469) (by decide +kernel), List.mem_of_getElem? (i := 1470) (by decide +kernel)⟩
theorem lw_p74 : lw_okq (⟨"WakeHouseModel", "put", "(I)V"⟩, 90) := ⟨⟨by decide +kernel, by decide +kernel⟩, List.mem_of_getElem? (i := 1533) (by decide +kernel), List.mem_of_getElem? (i := 1821) (by decide +kernel), List.mem_of_getElem? (i := 1822) (by decide +kernel)⟩
theorem lw_p75 : lw_okq (⟨"WakeHouseModel", "cut", "()V"⟩, 90) := ⟨⟨by decide +kernel, by decide +kernel⟩, List.mem_of_getElem? (i := 1533) (by decide +kernel), List.mem_of_getElem? (i := 1833) (by decide +kernel), List.mem_of_getElem? (i := 1834) (by decide +kernel)⟩
theorem lw_p76 : lw_okq (⟨"WakeHouseModel", "byteAt", "(I)I"⟩, 90) := ⟨⟨by decide +kernel, by decide +kernel⟩, List.mem_of_getElem? (i := 1533) (by decide +kernel), List.mem_of_getElem? (i := 1837) (by decide +kernel), List.mem_of_getElem? (i := 1838) (by decide +kernel)⟩
theorem lw_p77 : lw_okq (⟨"WakeHouseModel", "token", "(IIIJ)V"⟩, 90) := ⟨⟨by decide +kernel, by decide +kernel⟩, List.mem_of_getElem? (i := 1533) (by decide +kernel), List.mem_of_getElem? (i := 1841) (by decide +kernel), List.mem_of_getElem? (i := 1842) (by decide +kernel)⟩
theorem lw_p78 : lw_okq (⟨"WakeHouseModel", "sign", "(III)I"⟩, 90) := ⟨⟨by decide +kernel, by decide +kernel⟩, List.mem_of_getElem? (i := 1533) (by decide +kernel), List.mem_of_getElem? (i := 1851) (by decide +kernel), List.mem_of_getElem? (i := 1852) (by decide +kernel)⟩
theorem lw_p79 : lw_okq (⟨"WakeHouseModel", "is", "(I)Z"⟩, 90) := ⟨⟨by decide +kernel, by decide +kernel⟩, List.mem_of_getElem? (i := 1533) (by decide +kernel), List.mem_of_getElem? (i := 1855) (by decide +kernel), List.mem_of_getElem? (i := 1856) (by decide +kernel)⟩
def lw_privs_5 : List (MethodName × Nat) := [(⟨"WakeHouse$Round", "goForward", "()V"⟩, 8), (⟨"WakeHouse$Round", "knock", "(II)I"⟩, 8), (⟨"WakeHouse$Round", "hourOf", "(I)I"⟩, 8), (⟨"WakeHouse$Round", "goBackward", "(I)V"⟩, 8), (⟨"WakeHouse$Round", "pickOrder", "()V"⟩, 8), (⟨"WakeHouse", "isKnown", "(I)Z"⟩, 12), (⟨"WakeHouse$State", "known", "(II)Z"⟩, 14), (⟨"WakeHouse$State", "inTime", "(LWakeHouse$House;I)Z"⟩, 14), (⟨"WakeHouse", "aMinuteLater", "(IIZ)I"⟩, 12), (⟨"WakeHouse", "cryHeard", "(III)I"⟩, 12), (⟨"WakeHouseModel", "put", "(I)V"⟩, 90), (⟨"WakeHouseModel", "cut", "()V"⟩, 90), (⟨"WakeHouseModel", "byteAt", "(I)I"⟩, 90), (⟨"WakeHouseModel", "token", "(IIIJ)V"⟩, 90), (⟨"WakeHouseModel", "sign", "(III)I"⟩, 90), (⟨"WakeHouseModel", "is", "(I)Z"⟩, 90)]
theorem lw_r5 : ∀ q ∈ lw_privs_5, lw_okq q := List.forall_mem_cons.mpr ⟨lw_p64, List.forall_mem_cons.mpr ⟨lw_p65, List.forall_mem_cons.mpr ⟨lw_p66, List.forall_mem_cons.mpr ⟨lw_p67, List.forall_mem_cons.mpr ⟨lw_p68, List.forall_mem_cons.mpr ⟨lw_p69, List.forall_mem_cons.mpr ⟨lw_p70, List.forall_mem_cons.mpr ⟨lw_p71, List.forall_mem_cons.mpr ⟨lw_p72, List.forall_mem_cons.mpr ⟨lw_p73, List.forall_mem_cons.mpr ⟨lw_p74, List.forall_mem_cons.mpr ⟨lw_p75, List.forall_mem_cons.mpr ⟨lw_p76, List.forall_mem_cons.mpr ⟨lw_p77, List.forall_mem_cons.mpr ⟨lw_p78, List.forall_mem_cons.mpr ⟨lw_p79, fun _ h => absurd h List.not_mem_nil⟩⟩⟩⟩⟩⟩⟩⟩⟩⟩⟩⟩⟩⟩⟩⟩
theorem lw_p80 : lw_okq (⟨"WakeHouseModel", "tell", "()V"⟩, 90) := ⟨⟨by decide +kernel, by decide +kernel⟩, List.mem_of_getElem? (i := 1533) (by decide +kernel), List.mem_of_getElem? (i := 1859) (by decide +kernel), List.mem_of_getElem? (i := 1860) (by decide +kernel)⟩
theorem lw_p81 : lw_okq (⟨"WakeHouseModel", "fail", "(I)V"⟩, 90) := ⟨⟨by decide +kernel, by decide +kernel⟩, List.mem_of_getElem? (i := 1533) (by decide +kernel), List.mem_of_getElem? (i := 1863) (by decide +kernel), List.mem_of_getElem? (i := 1864) (by decide +kernel)⟩
theorem lw_p82 : lw_okq (⟨"WakeHouseModel", "tellBed", "()V"⟩, 90) := ⟨⟨by decide +kernel, by decide +kernel⟩, List.mem_of_getElem? (i := 1533) (by decide +kernel), List.mem_of_getElem? (i := 1867) (by decide +kernel), List.mem_of_getElem? (i := 1868) (by decide +kernel)⟩
theorem lw_p83 : lw_okq (⟨"WakeHouseModel", "goesOn", "()V"⟩, 90) := ⟨⟨by decide +kernel, by decide +kernel⟩, List.mem_of_getElem? (i := 1533) (by decide +kernel), List.mem_of_getElem? (i := 1871) (by decide +kernel), List.mem_of_getElem? (i := 1872) (by decide +kernel)⟩
theorem lw_p84 : lw_okq (⟨"WakeHouseModel", "named", "()I"⟩, 90) := ⟨⟨by decide +kernel, by decide +kernel⟩, List.mem_of_getElem? (i := 1533) (by decide +kernel), List.mem_of_getElem? (i := 1875) (by decide +kernel), List.mem_of_getElem? (i := 1876) (by decide +kernel)⟩
theorem lw_p85 : lw_okq (⟨"WakeHouseModel", "must", "(I)V"⟩, 90) := ⟨⟨by decide +kernel, by decide +kernel⟩, List.mem_of_getElem? (i := 1533) (by decide +kernel), List.mem_of_getElem? (i := 1879) (by decide +kernel), List.mem_of_getElem? (i := 1880) (by decide +kernel)⟩
theorem lw_p86 : lw_okq (⟨"WakeHouseModel", "wrong", "(II)V"⟩, 90) := ⟨⟨by decide +kernel, by decide +kernel⟩, List.mem_of_getElem? (i := 1533) (by decide +kernel), List.mem_of_getElem? (i := 1883) (by decide +kernel), List.mem_of_getElem? (i := 1884) (by decide +kernel)⟩
theorem lw_p87 : lw_okq (⟨"WakeHouseModel", "told", "(II)I"⟩, 90) := ⟨⟨by decide +kernel, by decide +kernel⟩, List.mem_of_getElem? (i := 1533) (by decide +kernel), List.mem_of_getElem? (i := 1887) (by decide +kernel), List.mem_of_getElem? (i := 1888) (by decide +kernel)⟩
theorem lw_p88 : lw_okq (⟨"WakeHouseModel", "knows", "(III)V"⟩, 90) := ⟨⟨by decide +kernel, by decide +kernel⟩, List.mem_of_getElem? (i := 1533) (by decide +kernel), List.mem_of_getElem? (i := 1891) (by decide +kernel), List.mem_of_getElem? (i := 1892) (by decide +kernel)⟩
theorem lw_p89 : lw_okq (⟨"WakeHouseModel", "tellClock", "()V"⟩, 90) := ⟨⟨by decide +kernel, by decide +kernel⟩, List.mem_of_getElem? (i := 1533) (by decide +kernel), List.mem_of_getElem? (i := 1895) (by decide +kernel), List.mem_of_getElem? (i := 1896) (by decide +kernel)⟩
theorem lw_p90 : lw_okq (⟨"WakeHouseModel", "tellSleeper", "()V"⟩, 90) := ⟨⟨by decide +kernel, by decide +kernel⟩, List.mem_of_getElem? (i := 1533) (by decide +kernel), List.mem_of_getElem? (i := 1899) (by decide +kernel), List.mem_of_getElem? (i := 1900) (by decide +kernel)⟩
theorem lw_p91 : lw_okq (⟨"WakeHouseModel", "freeBed", "()I"⟩, 90) := ⟨⟨by decide +kernel, by decide +kernel⟩, List.mem_of_getElem? (i := 1533) (by decide +kernel), List.mem_of_getElem? (i := 1903) (by decide +kernel), List.mem_of_getElem? (i := 1904) (by decide +kernel)⟩
theorem lw_p92 : lw_okq (⟨"WakeHouseModel", "expression", "()V"⟩, 90) := ⟨⟨by decide +kernel, by decide +kernel⟩, List.mem_of_getElem? (i := 1533) (by decide +kernel), List.mem_of_getElem? (i := 1907) (by decide +kernel), List.mem_of_getElem? (i := 1908) (by decide +kernel)⟩
theorem lw_p93 : lw_okq (⟨"WakeHouseModel", "waitFor", "(I)V"⟩, 90) := ⟨⟨by decide +kernel, by decide +kernel⟩, List.mem_of_getElem? (i := 1533) (by decide +kernel), List.mem_of_getElem? (i := 1911) (by decide +kernel), List.mem_of_getElem? (i := 1912) (by decide +kernel)⟩
theorem lw_p94 : lw_okq (⟨"WakeHouseModel", "unit", "()V"⟩, 90) := ⟨⟨by decide +kernel, by decide +kernel⟩, List.mem_of_getElem? (i := 1533) (by decide +kernel), List.mem_of_getElem? (i := 1915) (by decide +kernel), List.mem_of_getElem? (i := 1916) (by decide +kernel)⟩
theorem lw_p95 : lw_okq (⟨"WakeHouseModel", "emit", "(II)V"⟩, 90) := ⟨⟨by decide +kernel, by decide +kernel⟩, List.mem_of_getElem? (i := 1533) (by decide +kernel), List.mem_of_getElem? (i := 1919) (by decide +kernel), List.mem_of_getElem? (i := 1920) (by decide +kernel)⟩
def lw_privs_6 : List (MethodName × Nat) := [(⟨"WakeHouseModel", "tell", "()V"⟩, 90), (⟨"WakeHouseModel", "fail", "(I)V"⟩, 90), (⟨"WakeHouseModel", "tellBed", "()V"⟩, 90), (⟨"WakeHouseModel", "goesOn", "()V"⟩, 90), (⟨"WakeHouseModel", "named", "()I"⟩, 90), (⟨"WakeHouseModel", "must", "(I)V"⟩, 90), (⟨"WakeHouseModel", "wrong", "(II)V"⟩, 90), (⟨"WakeHouseModel", "told", "(II)I"⟩, 90), (⟨"WakeHouseModel", "knows", "(III)V"⟩, 90), (⟨"WakeHouseModel", "tellClock", "()V"⟩, 90), (⟨"WakeHouseModel", "tellSleeper", "()V"⟩, 90), (⟨"WakeHouseModel", "freeBed", "()I"⟩, 90), (⟨"WakeHouseModel", "expression", "()V"⟩, 90), (⟨"WakeHouseModel", "waitFor", "(I)V"⟩, 90), (⟨"WakeHouseModel", "unit", "()V"⟩, 90), (⟨"WakeHouseModel", "emit", "(II)V"⟩, 90)]
theorem lw_r6 : ∀ q ∈ lw_privs_6, lw_okq q := List.forall_mem_cons.mpr ⟨lw_p80, List.forall_mem_cons.mpr ⟨lw_p81, List.forall_mem_cons.mpr ⟨lw_p82, List.forall_mem_cons.mpr ⟨lw_p83, List.forall_mem_cons.mpr ⟨lw_p84, List.forall_mem_cons.mpr ⟨lw_p85, List.forall_mem_cons.mpr ⟨lw_p86, List.forall_mem_cons.mpr ⟨lw_p87, List.forall_mem_cons.mpr ⟨lw_p88, List.forall_mem_cons.mpr ⟨lw_p89, List.forall_mem_cons.mpr ⟨lw_p90, List.forall_mem_cons.mpr ⟨lw_p91, List.forall_mem_cons.mpr ⟨lw_p92, List.forall_mem_cons.mpr ⟨lw_p93, List.forall_mem_cons.mpr ⟨lw_p94, List.forall_mem_cons.mpr ⟨lw_p95, fun _ h => absurd h List.not_mem_nil⟩⟩⟩⟩⟩⟩⟩⟩⟩⟩⟩⟩⟩⟩⟩⟩
theorem lw_p96 : lw_okq (⟨"WakeHouseModel", "goes", "()Z"⟩, 90) := ⟨⟨by decide +kernel, by decide +kernel⟩, List.mem_of_getElem? (i := 1533) (by decide +kernel), List.mem_of_getElem? (i := 1923) (by decide +kernel), List.mem_of_getElem? (i := 1924) (by decide +kernel)⟩
theorem lw_p97 : lw_okq (⟨"WakeHouseModel", "comesOut", "(Z)V"⟩, 90) := ⟨⟨by decide +kernel, by decide +kernel⟩, List.mem_of_getElem? (i := 1533) (by decide +kernel), List.mem_of_getElem? (i := 1927) (by decide +kernel), List.mem_of_getElem? (i := 1928) (by decide +kernel)⟩
theorem lw_p98 : lw_okq (⟨"WakeHouseModel", "isStrong", "()Z"⟩, 90) := ⟨⟨by decide +kernel, by decide +kernel⟩, List.mem_of_getElem? (i := 1533) (by decide +kernel), List.mem_of_getElem? (i := 1931) (by decide +kernel), List.mem_of_getElem? (i := 1932) (by decide +kernel)⟩
theorem lw_p99 : lw_okq (⟨"WakeHouseModel", "waitsOn", "(I)Z"⟩, 90) := ⟨⟨by decide +kernel, by decide +kernel⟩, List.mem_of_getElem? (i := 1533) (by decide +kernel), List.mem_of_getElem? (i := 1935) (by decide +kernel), List.mem_of_getElem? (i := 1936) (by decide +kernel)⟩
theorem lw_p100 : lw_okq (⟨"WakeHouseModel", "begins", "()V"⟩, 90) := ⟨⟨by decide +kernel, by decide +kernel⟩, List.mem_of_getElem? (i := 1533) (by decide +kernel), List.mem_of_getElem? (i := 1939) (by decide +kernel), List.mem_of_getElem? (i := 1940) (by decide +kernel)⟩
theorem lw_p101 : lw_okq (⟨"WakeHouseModel", "isSleeper", "(I)Z"⟩, 90) := ⟨⟨by decide +kernel, by decide +kernel⟩, List.mem_of_getElem? (i := 1533) (by decide +kernel), List.mem_of_getElem? (i := 1951) (by decide +kernel), List.mem_of_getElem? (i := 1952) (by decide +kernel)⟩
theorem lw_p102 : lw_okq (⟨"WakeHouseModel", "isBed", "(I)Z"⟩, 90) := ⟨⟨by decide +kernel, by decide +kernel⟩, List.mem_of_getElem? (i := 1533) (by decide +kernel), List.mem_of_getElem? (i := 1962) (by decide +kernel), List.mem_of_getElem? (i := 1963) (by decide +kernel)⟩
theorem lw_p103 : lw_okq (⟨"WakeHouseModel", "whoLies", "(I)I"⟩, 90) := ⟨⟨by decide +kernel, by decide +kernel⟩, List.mem_of_getElem? (i := 1533) (by decide +kernel), List.mem_of_getElem? (i := 1966) (by decide +kernel), List.mem_of_getElem? (i := 1967) (by decide +kernel)⟩
theorem lw_p104 : lw_okq (⟨"WakeHouseModel", "hearing", "(IIII)I"⟩, 90) := ⟨⟨by decide +kernel, by decide +kernel⟩, List.mem_of_getElem? (i := 1533) (by decide +kernel), List.mem_of_getElem? (i := 1980) (by decide +kernel), List.mem_of_getElem? (i := 1981) (by decide +kernel)⟩
theorem lw_p105 : lw_okq (⟨"WakeHouseModel", "gapOf", "(II)I"⟩, 90) := ⟨⟨by decide +kernel, by decide +kernel⟩, List.mem_of_getElem? (i := 1533) (by decide +kernel), List.mem_of_getElem? (i := 1984) (by decide +kernel), List.mem_of_getElem? (i := 1985) (by decide +kernel)⟩
theorem lw_p106 : lw_okq (⟨"WakeHouseModel", "floorsOf", "(II)I"⟩, 90) := ⟨⟨by decide +kernel, by decide +kernel⟩, List.mem_of_getElem? (i := 1533) (by decide +kernel), List.mem_of_getElem? (i := 1991) (by decide +kernel), List.mem_of_getElem? (i := 1992) (by decide +kernel)⟩
theorem lw_p107 : lw_okq (⟨"WakeHouseModel", "valueOf", "(I)I"⟩, 90) := ⟨⟨by decide +kernel, by decide +kernel⟩, List.mem_of_getElem? (i := 1533) (by decide +kernel), List.mem_of_getElem? (i := 1995) (by decide +kernel), List.mem_of_getElem? (i := 1996) (by decide +kernel)⟩
theorem lw_p108 : lw_okq (⟨"WakeHouseModel", "asleepAgain", "(II)I"⟩, 90) := ⟨⟨by decide +kernel, by decide +kernel⟩, List.mem_of_getElem? (i := 1533) (by decide +kernel), List.mem_of_getElem? (i := 2006) (by decide +kernel), List.mem_of_getElem? (i := 2007) (by decide +kernel)⟩
theorem lw_p109 : lw_okq (⟨"WakeHouseModel", "isClock", "(I)Z"⟩, 90) := ⟨⟨by decide +kernel, by decide +kernel⟩, List.mem_of_getElem? (i := 1533) (by decide +kernel), List.mem_of_getElem? (i := 2014) (by decide +kernel), List.mem_of_getElem? (i := 2015) (by decide +kernel)⟩
theorem lw_p110 : lw_okq (⟨"WakeHouseModel", "rings", "(III)I"⟩, 90) := ⟨⟨by decide +kernel, by decide +kernel⟩, List.mem_of_getElem? (i := 1533) (by decide +kernel), List.mem_of_getElem? (i := 2018) (by decide +kernel), List.mem_of_getElem? (i := 2019) (by decide +kernel)⟩
theorem lw_p111 : lw_okq (⟨"WakeHouseModel", "soundsAt", "(II)I"⟩, 90) := ⟨⟨by decide +kernel, by decide +kernel⟩, List.mem_of_getElem? (i := 1533) (by decide +kernel), List.mem_of_getElem? (i := 2022) (by decide +kernel), List.mem_of_getElem? (i := 2023) (by decide +kernel)⟩
def lw_privs_7 : List (MethodName × Nat) := [(⟨"WakeHouseModel", "goes", "()Z"⟩, 90), (⟨"WakeHouseModel", "comesOut", "(Z)V"⟩, 90), (⟨"WakeHouseModel", "isStrong", "()Z"⟩, 90), (⟨"WakeHouseModel", "waitsOn", "(I)Z"⟩, 90), (⟨"WakeHouseModel", "begins", "()V"⟩, 90), (⟨"WakeHouseModel", "isSleeper", "(I)Z"⟩, 90), (⟨"WakeHouseModel", "isBed", "(I)Z"⟩, 90), (⟨"WakeHouseModel", "whoLies", "(I)I"⟩, 90), (⟨"WakeHouseModel", "hearing", "(IIII)I"⟩, 90), (⟨"WakeHouseModel", "gapOf", "(II)I"⟩, 90), (⟨"WakeHouseModel", "floorsOf", "(II)I"⟩, 90), (⟨"WakeHouseModel", "valueOf", "(I)I"⟩, 90), (⟨"WakeHouseModel", "asleepAgain", "(II)I"⟩, 90), (⟨"WakeHouseModel", "isClock", "(I)Z"⟩, 90), (⟨"WakeHouseModel", "rings", "(III)I"⟩, 90), (⟨"WakeHouseModel", "soundsAt", "(II)I"⟩, 90)]
theorem lw_r7 : ∀ q ∈ lw_privs_7, lw_okq q := List.forall_mem_cons.mpr ⟨lw_p96, List.forall_mem_cons.mpr ⟨lw_p97, List.forall_mem_cons.mpr ⟨lw_p98, List.forall_mem_cons.mpr ⟨lw_p99, List.forall_mem_cons.mpr ⟨lw_p100, List.forall_mem_cons.mpr ⟨lw_p101, List.forall_mem_cons.mpr ⟨lw_p102, List.forall_mem_cons.mpr ⟨lw_p103, List.forall_mem_cons.mpr ⟨lw_p104, List.forall_mem_cons.mpr ⟨lw_p105, List.forall_mem_cons.mpr ⟨lw_p106, List.forall_mem_cons.mpr ⟨lw_p107, List.forall_mem_cons.mpr ⟨lw_p108, List.forall_mem_cons.mpr ⟨lw_p109, List.forall_mem_cons.mpr ⟨lw_p110, List.forall_mem_cons.mpr ⟨lw_p111, fun _ h => absurd h List.not_mem_nil⟩⟩⟩⟩⟩⟩⟩⟩⟩⟩⟩⟩⟩⟩⟩⟩
theorem lw_p112 : lw_okq (⟨"WakeHouseModel", "soundComes", "(IIII)I"⟩, 90) := ⟨⟨by decide +kernel, by decide +kernel⟩, List.mem_of_getElem? (i := 1533) (by decide +kernel), List.mem_of_getElem? (i := 2026) (by decide +kernel), List.mem_of_getElem? (i := 2027) (by decide +kernel)⟩
theorem lw_p113 : lw_okq (⟨"WakeHouseModel", "goesOut", "(I)V"⟩, 90) := ⟨⟨by decide +kernel, by decide +kernel⟩, List.mem_of_getElem? (i := 1533) (by decide +kernel), List.mem_of_getElem? (i := 2042) (by decide +kernel), List.mem_of_getElem? (i := 2043) (by decide +kernel)⟩
theorem lw_p114 : lw_okq (⟨"WakeHouseModel", "changes", "(II)V"⟩, 90) := ⟨⟨by decide +kernel, by decide +kernel⟩, List.mem_of_getElem? (i := 1533) (by decide +kernel), List.mem_of_getElem? (i := 2058) (by decide +kernel), List.mem_of_getElem? (i := 2059) (by decide +kernel)⟩
theorem lw_p115 : lw_okq (⟨"WakeHouseModel", "hour", "(I)I"⟩, 90) := ⟨⟨by decide +kernel, by decide +kernel⟩, List.mem_of_getElem? (i := 1533) (by decide +kernel), List.mem_of_getElem? (i := 2075) (by decide +kernel), List.mem_of_getElem? (i := 2076) (by decide +kernel)⟩
theorem lw_p116 : lw_okq (⟨"WakeHouseModel", "sorts", "()V"⟩, 90) := ⟨⟨by decide +kernel, by decide +kernel⟩, List.mem_of_getElem? (i := 1533) (by decide +kernel), List.mem_of_getElem? (i := 2080) (by decide +kernel), List.mem_of_getElem? (i := 2081) (by decide +kernel)⟩
theorem lw_p117 : lw_okq (⟨"WakeHouseModel", "upOf", "(I)J"⟩, 90) := ⟨⟨by decide +kernel, by decide +kernel⟩, List.mem_of_getElem? (i := 1533) (by decide +kernel), List.mem_of_getElem? (i := 2084) (by decide +kernel), List.mem_of_getElem? (i := 2085) (by decide +kernel)⟩
theorem lw_p118 : lw_okq (⟨"WakeHouseModel", "until", "(I)I"⟩, 90) := ⟨⟨by decide +kernel, by decide +kernel⟩, List.mem_of_getElem? (i := 1533) (by decide +kernel), List.mem_of_getElem? (i := 2088) (by decide +kernel), List.mem_of_getElem? (i := 2089) (by decide +kernel)⟩
theorem lw_p119 : lw_okq (⟨"WakeHouseModel", "heard", "(II)I"⟩, 90) := ⟨⟨by decide +kernel, by decide +kernel⟩, List.mem_of_getElem? (i := 1533) (by decide +kernel), List.mem_of_getElem? (i := 2092) (by decide +kernel), List.mem_of_getElem? (i := 2093) (by decide +kernel)⟩
theorem lw_p120 : lw_okq (⟨"WakeHouseModel", "wokenOf", "(I)J"⟩, 90) := ⟨⟨by decide +kernel, by decide +kernel⟩, List.mem_of_getElem? (i := 1533) (by decide +kernel), List.mem_of_getElem? (i := 2101) (by decide +kernel), List.mem_of_getElem? (i := 2102) (by decide +kernel)⟩
theorem lw_p121 : lw_okq (⟨"WakeHouseModel", "costNow", "()J"⟩, 90) := ⟨⟨by decide +kernel, by decide +kernel⟩, List.mem_of_getElem? (i := 1533) (by decide +kernel), List.mem_of_getElem? (i := 2109) (by decide +kernel), List.mem_of_getElem? (i := 2110) (by decide +kernel)⟩
theorem lw_p122 : lw_okq (⟨"WakeHouseModel", "keeps", "()V"⟩, 90) := ⟨⟨by decide +kernel, by decide +kernel⟩, List.mem_of_getElem? (i := 1533) (by decide +kernel), List.mem_of_getElem? (i := 2117) (by decide +kernel), List.mem_of_getElem? (i := 2118) (by decide +kernel)⟩
theorem lw_p123 : lw_okq (⟨"WakeHouseModel", "putsBack", "(I)V"⟩, 90) := ⟨⟨by decide +kernel, by decide +kernel⟩, List.mem_of_getElem? (i := 1533) (by decide +kernel), List.mem_of_getElem? (i := 2121) (by decide +kernel), List.mem_of_getElem? (i := 2122) (by decide +kernel)⟩
theorem lw_p124 : lw_okq (⟨"WakeHouseModel", "hoursNow", "()V"⟩, 90) := ⟨⟨by decide +kernel, by decide +kernel⟩, List.mem_of_getElem? (i := 1533) (by decide +kernel), List.mem_of_getElem? (i := 2129) (by decide +kernel), List.mem_of_getElem? (i := 2130) (by decide +kernel)⟩
theorem lw_p125 : lw_okq (⟨"WakeHouseModel", "bests", "(III)I"⟩, 90) := ⟨⟨by decide +kernel, by decide +kernel⟩, List.mem_of_getElem? (i := 1533) (by decide +kernel), List.mem_of_getElem? (i := 2137) (by decide +kernel), List.mem_of_getElem? (i := 2138) (by decide +kernel)⟩
theorem lw_p126 : lw_okq (⟨"WakeHouseModel", "leadOf", "(II)I"⟩, 90) := ⟨⟨by decide +kernel, by decide +kernel⟩, List.mem_of_getElem? (i := 1533) (by decide +kernel), List.mem_of_getElem? (i := 2141) (by decide +kernel), List.mem_of_getElem? (i := 2142) (by decide +kernel)⟩
theorem lw_p127 : lw_okq (⟨"WakeHouseModel", "withHours", "()I"⟩, 90) := ⟨⟨by decide +kernel, by decide +kernel⟩, List.mem_of_getElem? (i := 1533) (by decide +kernel), List.mem_of_getElem? (i := 2153) (by decide +kernel), List.mem_of_getElem? (i := 2154) (by decide +kernel)⟩
def lw_privs_8 : List (MethodName × Nat) := [(⟨"WakeHouseModel", "soundComes", "(IIII)I"⟩, 90), (⟨"WakeHouseModel", "goesOut", "(I)V"⟩, 90), (⟨"WakeHouseModel", "changes", "(II)V"⟩, 90), (⟨"WakeHouseModel", "hour", "(I)I"⟩, 90), (⟨"WakeHouseModel", "sorts", "()V"⟩, 90), (⟨"WakeHouseModel", "upOf", "(I)J"⟩, 90), (⟨"WakeHouseModel", "until", "(I)I"⟩, 90), (⟨"WakeHouseModel", "heard", "(II)I"⟩, 90), (⟨"WakeHouseModel", "wokenOf", "(I)J"⟩, 90), (⟨"WakeHouseModel", "costNow", "()J"⟩, 90), (⟨"WakeHouseModel", "keeps", "()V"⟩, 90), (⟨"WakeHouseModel", "putsBack", "(I)V"⟩, 90), (⟨"WakeHouseModel", "hoursNow", "()V"⟩, 90), (⟨"WakeHouseModel", "bests", "(III)I"⟩, 90), (⟨"WakeHouseModel", "leadOf", "(II)I"⟩, 90), (⟨"WakeHouseModel", "withHours", "()I"⟩, 90)]
theorem lw_r8 : ∀ q ∈ lw_privs_8, lw_okq q := List.forall_mem_cons.mpr ⟨lw_p112, List.forall_mem_cons.mpr ⟨lw_p113, List.forall_mem_cons.mpr ⟨lw_p114, List.forall_mem_cons.mpr ⟨lw_p115, List.forall_mem_cons.mpr ⟨lw_p116, List.forall_mem_cons.mpr ⟨lw_p117, List.forall_mem_cons.mpr ⟨lw_p118, List.forall_mem_cons.mpr ⟨lw_p119, List.forall_mem_cons.mpr ⟨lw_p120, List.forall_mem_cons.mpr ⟨lw_p121, List.forall_mem_cons.mpr ⟨lw_p122, List.forall_mem_cons.mpr ⟨lw_p123, List.forall_mem_cons.mpr ⟨lw_p124, List.forall_mem_cons.mpr ⟨lw_p125, List.forall_mem_cons.mpr ⟨lw_p126, List.forall_mem_cons.mpr ⟨lw_p127, fun _ h => absurd h List.not_mem_nil⟩⟩⟩⟩⟩⟩⟩⟩⟩⟩⟩⟩⟩⟩⟩⟩
theorem lw_p128 : lw_okq (⟨"WakeHouseModel", "wakes", "(III)I"⟩, 90) := ⟨⟨by decide +kernel, by decide +kernel⟩, List.mem_of_getElem? (i := 1533) (by decide +kernel), List.mem_of_getElem? (i := 2157) (by decide +kernel), List.mem_of_getElem? (i := 2158) (by decide +kernel)⟩
theorem lw_p129 : lw_okq (⟨"WakeHouseModel", "walkOf", "(II)I"⟩, 90) := ⟨⟨by decide +kernel, by decide +kernel⟩, List.mem_of_getElem? (i := 1533) (by decide +kernel), List.mem_of_getElem? (i := 2169) (by decide +kernel), List.mem_of_getElem? (i := 2170) (by decide +kernel)⟩
theorem lw_p130 : lw_okq (⟨"WakeHouseModel", "shakesOn", "(II)V"⟩, 90) := ⟨⟨by decide +kernel, by decide +kernel⟩, List.mem_of_getElem? (i := 1533) (by decide +kernel), List.mem_of_getElem? (i := 2177) (by decide +kernel), List.mem_of_getElem? (i := 2178) (by decide +kernel)⟩
theorem lw_p131 : lw_okq (⟨"WakeHouseModel", "oneMore", "(II)Z"⟩, 90) := ⟨⟨by decide +kernel, by decide +kernel⟩, List.mem_of_getElem? (i := 1533) (by decide +kernel), List.mem_of_getElem? (i := 2181) (by decide +kernel), List.mem_of_getElem? (i := 2182) (by decide +kernel)⟩
theorem lw_p132 : lw_okq (⟨"WakeHouseModel", "isFirst", "(I)Z"⟩, 90) := ⟨⟨by decide +kernel, by decide +kernel⟩, List.mem_of_getElem? (i := 1533) (by decide +kernel), List.mem_of_getElem? (i := 2185) (by decide +kernel), List.mem_of_getElem? (i := 2186) (by decide +kernel)⟩
theorem lw_p133 : lw_okq (⟨"WakeHouseModel", "canShake", "(II)Z"⟩, 90) := ⟨⟨by decide +kernel, by decide +kernel⟩, List.mem_of_getElem? (i := 1533) (by decide +kernel), List.mem_of_getElem? (i := 2190) (by decide +kernel), List.mem_of_getElem? (i := 2191) (by decide +kernel)⟩
theorem lw_p134 : lw_okq (⟨"WakeHouseModel", "shakesAll", "(I)V"⟩, 90) := ⟨⟨by decide +kernel, by decide +kernel⟩, List.mem_of_getElem? (i := 1533) (by decide +kernel), List.mem_of_getElem? (i := 2198) (by decide +kernel), List.mem_of_getElem? (i := 2199) (by decide +kernel)⟩
theorem lw_p135 : lw_okq (⟨"WakeHouseModel", "twiceBest", "(IIII)J"⟩, 90) := ⟨⟨by decide +kernel, by decide +kernel⟩, List.mem_of_getElem? (i := 1533) (by decide +kernel), List.mem_of_getElem? (i := 2206) (by decide +kernel), List.mem_of_getElem? (i := 2207) (by decide +kernel)⟩
theorem lw_p136 : lw_okq (⟨"WakeHouseModel", "upBy", "(III)J"⟩, 90) := ⟨⟨by decide +kernel, by decide +kernel⟩, List.mem_of_getElem? (i := 1533) (by decide +kernel), List.mem_of_getElem? (i := 2210) (by decide +kernel), List.mem_of_getElem? (i := 2211) (by decide +kernel)⟩
theorem lw_p137 : lw_okq (⟨"WakeHouseModel", "swapsNow", "(I)I"⟩, 90) := ⟨⟨by decide +kernel, by decide +kernel⟩, List.mem_of_getElem? (i := 1533) (by decide +kernel), List.mem_of_getElem? (i := 2222) (by decide +kernel), List.mem_of_getElem? (i := 2223) (by decide +kernel)⟩
theorem lw_p138 : lw_okq (⟨"WakeHouseModel", "isCheap", "(I)Z"⟩, 90) := ⟨⟨by decide +kernel, by decide +kernel⟩, List.mem_of_getElem? (i := 1533) (by decide +kernel), List.mem_of_getElem? (i := 2226) (by decide +kernel), List.mem_of_getElem? (i := 2227) (by decide +kernel)⟩
theorem lw_p139 : lw_okq (⟨"WakeHouseModel", "secondSwap", "(I)Z"⟩, 90) := ⟨⟨by decide +kernel, by decide +kernel⟩, List.mem_of_getElem? (i := 1533) (by decide +kernel), List.mem_of_getElem? (i := 2230) (by decide +kernel), List.mem_of_getElem? (i := 2231) (by decide +kernel)⟩
theorem lw_p140 : lw_okq (⟨"WakeHouseModel", "worthOf", "(I)J"⟩, 90) := ⟨⟨by decide +kernel, by decide +kernel⟩, List.mem_of_getElem? (i := 1533) (by decide +kernel), List.mem_of_getElem? (i := 2242) (by decide +kernel), List.mem_of_getElem? (i := 2243) (by decide +kernel)⟩
theorem lw_p141 : lw_okq (⟨"WakeHouseModel", "roundBy", "(I)I"⟩, 90) := ⟨⟨by decide +kernel, by decide +kernel⟩, List.mem_of_getElem? (i := 1533) (by decide +kernel), List.mem_of_getElem? (i := 2255) (by decide +kernel), List.mem_of_getElem? (i := 2256) (by decide +kernel)⟩
theorem lw_p142 : lw_okq (⟨"WakeHouseModel", "roundDone", "(I)I"⟩, 90) := ⟨⟨by decide +kernel, by decide +kernel⟩, List.mem_of_getElem? (i := 1533) (by decide +kernel), List.mem_of_getElem? (i := 2259) (by decide +kernel), List.mem_of_getElem? (i := 2260) (by decide +kernel)⟩
theorem lw_p143 : lw_okq (⟨"WakeHouseModel", "nextOrder", "()Z"⟩, 90) := ⟨⟨by decide +kernel, by decide +kernel⟩, List.mem_of_getElem? (i := 1533) (by decide +kernel), List.mem_of_getElem? (i := 2263) (by decide +kernel), List.mem_of_getElem? (i := 2264) (by decide +kernel)⟩
def lw_privs_9 : List (MethodName × Nat) := [(⟨"WakeHouseModel", "wakes", "(III)I"⟩, 90), (⟨"WakeHouseModel", "walkOf", "(II)I"⟩, 90), (⟨"WakeHouseModel", "shakesOn", "(II)V"⟩, 90), (⟨"WakeHouseModel", "oneMore", "(II)Z"⟩, 90), (⟨"WakeHouseModel", "isFirst", "(I)Z"⟩, 90), (⟨"WakeHouseModel", "canShake", "(II)Z"⟩, 90), (⟨"WakeHouseModel", "shakesAll", "(I)V"⟩, 90), (⟨"WakeHouseModel", "twiceBest", "(IIII)J"⟩, 90), (⟨"WakeHouseModel", "upBy", "(III)J"⟩, 90), (⟨"WakeHouseModel", "swapsNow", "(I)I"⟩, 90), (⟨"WakeHouseModel", "isCheap", "(I)Z"⟩, 90), (⟨"WakeHouseModel", "secondSwap", "(I)Z"⟩, 90), (⟨"WakeHouseModel", "worthOf", "(I)J"⟩, 90), (⟨"WakeHouseModel", "roundBy", "(I)I"⟩, 90), (⟨"WakeHouseModel", "roundDone", "(I)I"⟩, 90), (⟨"WakeHouseModel", "nextOrder", "()Z"⟩, 90)]
theorem lw_r9 : ∀ q ∈ lw_privs_9, lw_okq q := List.forall_mem_cons.mpr ⟨lw_p128, List.forall_mem_cons.mpr ⟨lw_p129, List.forall_mem_cons.mpr ⟨lw_p130, List.forall_mem_cons.mpr ⟨lw_p131, List.forall_mem_cons.mpr ⟨lw_p132, List.forall_mem_cons.mpr ⟨lw_p133, List.forall_mem_cons.mpr ⟨lw_p134, List.forall_mem_cons.mpr ⟨lw_p135, List.forall_mem_cons.mpr ⟨lw_p136, List.forall_mem_cons.mpr ⟨lw_p137, List.forall_mem_cons.mpr ⟨lw_p138, List.forall_mem_cons.mpr ⟨lw_p139, List.forall_mem_cons.mpr ⟨lw_p140, List.forall_mem_cons.mpr ⟨lw_p141, List.forall_mem_cons.mpr ⟨lw_p142, List.forall_mem_cons.mpr ⟨lw_p143, fun _ h => absurd h List.not_mem_nil⟩⟩⟩⟩⟩⟩⟩⟩⟩⟩⟩⟩⟩⟩⟩⟩
theorem lw_p144 : lw_okq (⟨"WakeHouseModel", "isKnown", "(I)Z"⟩, 90) := ⟨⟨by decide +kernel, by decide +kernel⟩, List.mem_of_getElem? (i := 1533) (by decide +kernel), List.mem_of_getElem? (i := 2283) (by decide +kernel), List.mem_of_getElem? (i := 2284) (by decide +kernel)⟩
theorem lw_p145 : lw_okq (⟨"WakeHouseModel", "counts", "(II)Z"⟩, 90) := ⟨⟨by decide +kernel, by decide +kernel⟩, List.mem_of_getElem? (i := 1533) (by decide +kernel), List.mem_of_getElem? (i := 2287) (by decide +kernel), List.mem_of_getElem? (i := 2288) (by decide +kernel)⟩
theorem lw_p146 : lw_okq (⟨"WakeHouseModel", "isInTime", "(I)Z"⟩, 90) := ⟨⟨by decide +kernel, by decide +kernel⟩, List.mem_of_getElem? (i := 1533) (by decide +kernel), List.mem_of_getElem? (i := 2291) (by decide +kernel), List.mem_of_getElem? (i := 2292) (by decide +kernel)⟩
theorem lw_p147 : lw_okq (⟨"WakeHouseModel", "mondaysOf", "(II)I"⟩, 90) := ⟨⟨by decide +kernel, by decide +kernel⟩, List.mem_of_getElem? (i := 1533) (by decide +kernel), List.mem_of_getElem? (i := 2299) (by decide +kernel), List.mem_of_getElem? (i := 2300) (by decide +kernel)⟩
theorem lw_p148 : lw_okq (⟨"WakeHouseModel", "cries", "(IIZ)I"⟩, 90) := ⟨⟨by decide +kernel, by decide +kernel⟩, List.mem_of_getElem? (i := 1533) (by decide +kernel), List.mem_of_getElem? (i := 2314) (by decide +kernel), List.mem_of_getElem? (i := 2315) (by decide +kernel)⟩
theorem lw_p149 : lw_okq (⟨"WakeHouseModel", "upOn", "(II)I"⟩, 90) := ⟨⟨by decide +kernel, by decide +kernel⟩, List.mem_of_getElem? (i := 1533) (by decide +kernel), List.mem_of_getElem? (i := 2326) (by decide +kernel), List.mem_of_getElem? (i := 2327) (by decide +kernel)⟩
theorem lw_p150 : lw_okq (⟨"WakeHouseModel", "isUpOn", "(III)Z"⟩, 90) := ⟨⟨by decide +kernel, by decide +kernel⟩, List.mem_of_getElem? (i := 1533) (by decide +kernel), List.mem_of_getElem? (i := 2330) (by decide +kernel), List.mem_of_getElem? (i := 2331) (by decide +kernel)⟩
theorem lw_p151 : lw_okq (⟨"WakeHouseModel", "copies", "(III)V"⟩, 90) := ⟨⟨by decide +kernel, by decide +kernel⟩, List.mem_of_getElem? (i := 1533) (by decide +kernel), List.mem_of_getElem? (i := 2349) (by decide +kernel), List.mem_of_getElem? (i := 2350) (by decide +kernel)⟩
def lw_privs_10 : List (MethodName × Nat) := [(⟨"WakeHouseModel", "isKnown", "(I)Z"⟩, 90), (⟨"WakeHouseModel", "counts", "(II)Z"⟩, 90), (⟨"WakeHouseModel", "isInTime", "(I)Z"⟩, 90), (⟨"WakeHouseModel", "mondaysOf", "(II)I"⟩, 90), (⟨"WakeHouseModel", "cries", "(IIZ)I"⟩, 90), (⟨"WakeHouseModel", "upOn", "(II)I"⟩, 90), (⟨"WakeHouseModel", "isUpOn", "(III)Z"⟩, 90), (⟨"WakeHouseModel", "copies", "(III)V"⟩, 90)]
theorem lw_r10 : ∀ q ∈ lw_privs_10, lw_okq q := List.forall_mem_cons.mpr ⟨lw_p144, List.forall_mem_cons.mpr ⟨lw_p145, List.forall_mem_cons.mpr ⟨lw_p146, List.forall_mem_cons.mpr ⟨lw_p147, List.forall_mem_cons.mpr ⟨lw_p148, List.forall_mem_cons.mpr ⟨lw_p149, List.forall_mem_cons.mpr ⟨lw_p150, List.forall_mem_cons.mpr ⟨lw_p151, fun _ h => absurd h List.not_mem_nil⟩⟩⟩⟩⟩⟩⟩⟩
def lw_privs : List (MethodName × Nat) := lw_privs_1 ++ (lw_privs_2 ++ (lw_privs_3 ++ (lw_privs_4 ++ (lw_privs_5 ++ (lw_privs_6 ++ (lw_privs_7 ++ (lw_privs_8 ++ (lw_privs_9 ++ (lw_privs_10)))))))))
def lw_tbl : List Cond := k2_sels lw_privs ++ tables_1
theorem lw_privs_ok : ∀ q ∈ lw_privs, lw_okq q := by
  show ∀ q ∈ lw_privs_1 ++ (lw_privs_2 ++ (lw_privs_3 ++ (lw_privs_4 ++ (lw_privs_5 ++ (lw_privs_6 ++ (lw_privs_7 ++ (lw_privs_8 ++ (lw_privs_9 ++ (lw_privs_10))))))))), lw_okq q
  exact List.forall_mem_append.mpr ⟨lw_r1, List.forall_mem_append.mpr ⟨lw_r2, List.forall_mem_append.mpr ⟨lw_r3, List.forall_mem_append.mpr ⟨lw_r4, List.forall_mem_append.mpr ⟨lw_r5, List.forall_mem_append.mpr ⟨lw_r6, List.forall_mem_append.mpr ⟨lw_r7, List.forall_mem_append.mpr ⟨lw_r8, List.forall_mem_append.mpr ⟨lw_r9, lw_r10⟩⟩⟩⟩⟩⟩⟩⟩⟩
/-! classes, their fields in the order of the slots, their types -/
def RX0 : String := "WakeHouse$BestTwo"
def TX0 : u_T := fun k => match k with
  | 0 => ("WakeHouse$BestTwo", "house", "LWakeHouse$House;", true)
  | 1 => ("WakeHouse$BestTwo", "state", "LWakeHouse$State;", true)
  | 2 => ("WakeHouse$BestTwo", "night", "LWakeHouse$Night;", true)
  | 3 => ("WakeHouse$BestTwo", "hearFirst", "[I", true)
  | 4 => ("WakeHouse$BestTwo", "hearSecond", "[I", true)
  | 5 => ("WakeHouse$BestTwo", "hearPlan", "[I", true)
  | 6 => ("WakeHouse$BestTwo", "byFirst", "[J", true)
  | 7 => ("WakeHouse$BestTwo", "bySecond", "[J", true)
  | 8 => ("WakeHouse$BestTwo", "byBoth", "[J", true)
  | 9 => ("WakeHouse$BestTwo", "slope", "[J", true)
  | 10 => ("WakeHouse$BestTwo", "silent", "J", false)
  | 11 => ("WakeHouse$BestTwo", "least", "J", false)
  | 12 => ("WakeHouse$BestTwo", "leastKey", "I", false)
  | 13 => ("WakeHouse$BestTwo", "first", "I", false)
  | 14 => ("WakeHouse$BestTwo", "second", "I", false)
  | 15 => ("WakeHouse$BestTwo", "lead", "I", false)
  | _ => ("WakeHouse$BestTwo", "editsThen", "I", false)
def tyX0 : Nat → FieldType := fun k => match k with
  | 0 => .object "WakeHouse$House"
  | 1 => .object "WakeHouse$State"
  | 2 => .object "WakeHouse$Night"
  | 3 => .array .int
  | 4 => .array .int
  | 5 => .array .int
  | 6 => .array .long
  | 7 => .array .long
  | 8 => .array .long
  | 9 => .array .long
  | 10 => .long
  | 11 => .long
  | 12 => .int
  | 13 => .int
  | 14 => .int
  | 15 => .int
  | _ => .int
theorem nmX0 : ∀ a, a < 17 → ∀ b, b < 17 → a ≠ b → (TX0 a).2.1 ≠ (TX0 b).2.1 := by decide +kernel
theorem tyX0_ok : ∀ k, k < 17 → parseFieldDescriptor (TX0 k).2.2.1 = some (tyX0 k) := by decide +kernel
def RX1 : String := "WakeHouse$Changes"
def TX1 : u_T := fun k => match k with
  | 0 => ("WakeHouse$Changes", "house", "LWakeHouse$House;", true)
  | 1 => ("WakeHouse$Changes", "state", "LWakeHouse$State;", true)
  | 2 => ("WakeHouse$Changes", "night", "LWakeHouse$Night;", true)
  | 3 => ("WakeHouse$Changes", "price", "[J", true)
  | 4 => ("WakeHouse$Changes", "inBed", "[I", true)
  | _ => ("WakeHouse$Changes", "found", "[I", true)
def tyX1 : Nat → FieldType := fun k => match k with
  | 0 => .object "WakeHouse$House"
  | 1 => .object "WakeHouse$State"
  | 2 => .object "WakeHouse$Night"
  | 3 => .array .long
  | 4 => .array .int
  | _ => .array .int
theorem nmX1 : ∀ a, a < 6 → ∀ b, b < 6 → a ≠ b → (TX1 a).2.1 ≠ (TX1 b).2.1 := by decide +kernel
theorem tyX1_ok : ∀ k, k < 6 → parseFieldDescriptor (TX1 k).2.2.1 = some (tyX1 k) := by decide +kernel
def RX2 : String := "WakeHouse$Cover"
def TX2 : u_T := fun k => match k with
  | 0 => ("WakeHouse$Cover", "house", "LWakeHouse$House;", true)
  | 1 => ("WakeHouse$Cover", "state", "LWakeHouse$State;", true)
  | 2 => ("WakeHouse$Cover", "night", "LWakeHouse$Night;", true)
  | 3 => ("WakeHouse$Cover", "wakes", "[I", true)
  | 4 => ("WakeHouse$Cover", "needed", "[I", true)
  | _ => ("WakeHouse$Cover", "rings", "I", false)
def tyX2 : Nat → FieldType := fun k => match k with
  | 0 => .object "WakeHouse$House"
  | 1 => .object "WakeHouse$State"
  | 2 => .object "WakeHouse$Night"
  | 3 => .array .int
  | 4 => .array .int
  | _ => .int
theorem nmX2 : ∀ a, a < 6 → ∀ b, b < 6 → a ≠ b → (TX2 a).2.1 ≠ (TX2 b).2.1 := by decide +kernel
theorem tyX2_ok : ∀ k, k < 6 → parseFieldDescriptor (TX2 k).2.2.1 = some (tyX2 k) := by decide +kernel
def RX3 : String := "WakeHouse$House"
def TX3 : u_T := fun k => match k with
  | 0 => ("WakeHouse$House", "floor", "[I", true)
  | 1 => ("WakeHouse$House", "spot", "[I", true)
  | 2 => ("WakeHouse$House", "loud", "[I", true)
  | 3 => ("WakeHouse$House", "shift", "[I", true)
  | 4 => ("WakeHouse$House", "firstBed", "[I", true)
  | 5 => ("WakeHouse$House", "deep", "[I", true)
  | 6 => ("WakeHouse$House", "hour", "[I", true)
  | 7 => ("WakeHouse$House", "late", "[I", true)
  | 8 => ("WakeHouse$House", "vain", "[I", true)
  | 9 => ("WakeHouse$House", "hours", "[I", true)
  | 10 => ("WakeHouse$House", "eight", "[I", true)
  | 11 => ("WakeHouse$House", "words", "[I", true)
  | 12 => ("WakeHouse$House", "hearingLaw", "LWakeHouse$Law;", true)
  | 13 => ("WakeHouse$House", "againLaw", "LWakeHouse$Law;", true)
  | 14 => ("WakeHouse$House", "beds", "I", false)
  | 15 => ("WakeHouse$House", "clocks", "I", false)
  | 16 => ("WakeHouse$House", "sleepers", "I", false)
  | 17 => ("WakeHouse$House", "hourCount", "I", false)
  | _ => ("WakeHouse$House", "eightCount", "I", false)
def tyX3 : Nat → FieldType := fun k => match k with
  | 0 => .array .int
  | 1 => .array .int
  | 2 => .array .int
  | 3 => .array .int
  | 4 => .array .int
  | 5 => .array .int
  | 6 => .array .int
  | 7 => .array .int
  | 8 => .array .int
  | 9 => .array .int
  | 10 => .array .int
  | 11 => .array .int
  | 12 => .object "WakeHouse$Law"
  | 13 => .object "WakeHouse$Law"
  | 14 => .int
  | 15 => .int
  | 16 => .int
  | 17 => .int
  | _ => .int
theorem nmX3 : ∀ a, a < 19 → ∀ b, b < 19 → a ≠ b → (TX3 a).2.1 ≠ (TX3 b).2.1 := by decide +kernel
theorem tyX3_ok : ∀ k, k < 19 → parseFieldDescriptor (TX3 k).2.2.1 = some (tyX3 k) := by decide +kernel
def RX4 : String := "WakeHouse$Law"
def TX4 : u_T := fun k => match k with
  | 0 => ("WakeHouse$Law", "steps", "[I", true)
  | 1 => ("WakeHouse$Law", "stack", "[I", true)
  | _ => ("WakeHouse$Law", "length", "I", false)
def tyX4 : Nat → FieldType := fun k => match k with
  | 0 => .array .int
  | 1 => .array .int
  | _ => .int
theorem nmX4 : ∀ a, a < 3 → ∀ b, b < 3 → a ≠ b → (TX4 a).2.1 ≠ (TX4 b).2.1 := by decide +kernel
theorem tyX4_ok : ∀ k, k < 3 → parseFieldDescriptor (TX4 k).2.2.1 = some (tyX4 k) := by decide +kernel
def RX5 : String := "WakeHouse$Night"
def TX5 : u_T := fun k => match k with
  | 0 => ("WakeHouse$Night", "house", "LWakeHouse$House;", true)
  | 1 => ("WakeHouse$Night", "state", "LWakeHouse$State;", true)
  | 2 => ("WakeHouse$Night", "minute", "[I", true)
  | 3 => ("WakeHouse$Night", "number", "[I", true)
  | 4 => ("WakeHouse$Night", "hear", "[I", true)
  | 5 => ("WakeHouse$Night", "dozes", "[B", true)
  | 6 => ("WakeHouse$Night", "words", "[I", true)
  | 7 => ("WakeHouse$Night", "pick", "[I", true)
  | 8 => ("WakeHouse$Night", "chosen", "[I", true)
  | 9 => ("WakeHouse$Night", "hearAhead", "[I", true)
  | 10 => ("WakeHouse$Night", "worths", "[J", true)
  | _ => ("WakeHouse$Night", "count", "I", false)
def tyX5 : Nat → FieldType := fun k => match k with
  | 0 => .object "WakeHouse$House"
  | 1 => .object "WakeHouse$State"
  | 2 => .array .int
  | 3 => .array .int
  | 4 => .array .int
  | 5 => .array .byte
  | 6 => .array .int
  | 7 => .array .int
  | 8 => .array .int
  | 9 => .array .int
  | 10 => .array .long
  | _ => .int
theorem nmX5 : ∀ a, a < 12 → ∀ b, b < 12 → a ≠ b → (TX5 a).2.1 ≠ (TX5 b).2.1 := by decide +kernel
theorem tyX5_ok : ∀ k, k < 12 → parseFieldDescriptor (TX5 k).2.2.1 = some (tyX5 k) := by decide +kernel
def RX6 : String := "WakeHouse$Reader"
def TX6 : u_T := fun k => match k with
  | 0 => ("WakeHouse$Reader", "tape", "LWakeHouse$Tape;", true)
  | 1 => ("WakeHouse$Reader", "draft", "LWakeHouse$House;", true)
  | 2 => ("WakeHouse$Reader", "names", "[J", true)
  | 3 => ("WakeHouse$Reader", "bedNamed", "[I", true)
  | 4 => ("WakeHouse$Reader", "nameCount", "I", false)
  | 5 => ("WakeHouse$Reader", "bedsTaken", "I", false)
  | 6 => ("WakeHouse$Reader", "signs", "[I", true)
  | 7 => ("WakeHouse$Reader", "waiting", "I", false)
  | 8 => ("WakeHouse$Reader", "depth", "I", false)
  | 9 => ("WakeHouse$Reader", "now", "I", false)
  | 10 => ("WakeHouse$Reader", "value", "I", false)
  | 11 => ("WakeHouse$Reader", "fault", "I", false)
  | 12 => ("WakeHouse$Reader", "faultAt", "I", false)
  | 13 => ("WakeHouse$Reader", "sense", "I", false)
  | _ => ("WakeHouse$Reader", "senseAt", "I", false)
def tyX6 : Nat → FieldType := fun k => match k with
  | 0 => .object "WakeHouse$Tape"
  | 1 => .object "WakeHouse$House"
  | 2 => .array .long
  | 3 => .array .int
  | 4 => .int
  | 5 => .int
  | 6 => .array .int
  | 7 => .int
  | 8 => .int
  | 9 => .int
  | 10 => .int
  | 11 => .int
  | 12 => .int
  | 13 => .int
  | _ => .int
theorem nmX6 : ∀ a, a < 15 → ∀ b, b < 15 → a ≠ b → (TX6 a).2.1 ≠ (TX6 b).2.1 := by decide +kernel
theorem tyX6_ok : ∀ k, k < 15 → parseFieldDescriptor (TX6 k).2.2.1 = some (tyX6 k) := by decide +kernel
def RX7 : String := "WakeHouse$Round"
def TX7 : u_T := fun k => match k with
  | 0 => ("WakeHouse$Round", "house", "LWakeHouse$House;", true)
  | 1 => ("WakeHouse$Round", "state", "LWakeHouse$State;", true)
  | 2 => ("WakeHouse$Round", "order", "[I", true)
  | 3 => ("WakeHouse$Round", "spot", "[I", true)
  | 4 => ("WakeHouse$Round", "soonest", "[I", true)
  | 5 => ("WakeHouse$Round", "latest", "[I", true)
  | 6 => ("WakeHouse$Round", "all", "I", false)
  | _ => ("WakeHouse$Round", "early", "I", false)
def tyX7 : Nat → FieldType := fun k => match k with
  | 0 => .object "WakeHouse$House"
  | 1 => .object "WakeHouse$State"
  | 2 => .array .int
  | 3 => .array .int
  | 4 => .array .int
  | 5 => .array .int
  | 6 => .int
  | _ => .int
theorem nmX7 : ∀ a, a < 8 → ∀ b, b < 8 → a ≠ b → (TX7 a).2.1 ≠ (TX7 b).2.1 := by decide +kernel
theorem tyX7_ok : ∀ k, k < 8 → parseFieldDescriptor (TX7 k).2.2.1 = some (tyX7 k) := by decide +kernel
def RX8 : String := "WakeHouse$Shaking"
def TX8 : u_T := fun k => match k with
  | 0 => ("WakeHouse$Shaking", "house", "LWakeHouse$House;", true)
  | 1 => ("WakeHouse$Shaking", "state", "LWakeHouse$State;", true)
  | 2 => ("WakeHouse$Shaking", "shakerOf", "[I", true)
  | 3 => ("WakeHouse$Shaking", "price", "[J", true)
  | 4 => ("WakeHouse$Shaking", "rowPart", "[J", true)
  | 5 => ("WakeHouse$Shaking", "sidePart", "[J", true)
  | 6 => ("WakeHouse$Shaking", "slack", "[J", true)
  | 7 => ("WakeHouse$Shaking", "rowAt", "[I", true)
  | 8 => ("WakeHouse$Shaking", "from", "[I", true)
  | 9 => ("WakeHouse$Shaking", "doneSides", "I", false)
  | 10 => ("WakeHouse$Shaking", "sides", "I", false)
  | 11 => ("WakeHouse$Shaking", "shaken", "I", false)
  | _ => ("WakeHouse$Shaking", "walks", "I", false)
def tyX8 : Nat → FieldType := fun k => match k with
  | 0 => .object "WakeHouse$House"
  | 1 => .object "WakeHouse$State"
  | 2 => .array .int
  | 3 => .array .long
  | 4 => .array .long
  | 5 => .array .long
  | 6 => .array .long
  | 7 => .array .int
  | 8 => .array .int
  | 9 => .int
  | 10 => .int
  | 11 => .int
  | _ => .int
theorem nmX8 : ∀ a, a < 13 → ∀ b, b < 13 → a ≠ b → (TX8 a).2.1 ≠ (TX8 b).2.1 := by decide +kernel
theorem tyX8_ok : ∀ k, k < 13 → parseFieldDescriptor (TX8 k).2.2.1 = some (tyX8 k) := by decide +kernel
def RX9 : String := "WakeHouse$State"
def TX9 : u_T := fun k => match k with
  | 0 => ("WakeHouse$State", "kind", "[I", true)
  | 1 => ("WakeHouse$State", "minute", "[I", true)
  | 2 => ("WakeHouse$State", "loud", "[I", true)
  | 3 => ("WakeHouse$State", "where", "[I", true)
  | 4 => ("WakeHouse$State", "bedOf", "[I", true)
  | 5 => ("WakeHouse$State", "sleeperIn", "[I", true)
  | 6 => ("WakeHouse$State", "who", "[I", true)
  | 7 => ("WakeHouse$State", "weekday", "[I", true)
  | 8 => ("WakeHouse$State", "woke", "[I", true)
  | 9 => ("WakeHouse$State", "tally", "[I", true)
  | 10 => ("WakeHouse$State", "sounds", "I", false)
  | 11 => ("WakeHouse$State", "wool", "I", false)
  | 12 => ("WakeHouse$State", "row", "I", false)
  | _ => ("WakeHouse$State", "holds", "Z", false)
def tyX9 : Nat → FieldType := fun k => match k with
  | 0 => .array .int
  | 1 => .array .int
  | 2 => .array .int
  | 3 => .array .int
  | 4 => .array .int
  | 5 => .array .int
  | 6 => .array .int
  | 7 => .array .int
  | 8 => .array .int
  | 9 => .array .int
  | 10 => .int
  | 11 => .int
  | 12 => .int
  | _ => .boolean
theorem nmX9 : ∀ a, a < 14 → ∀ b, b < 14 → a ≠ b → (TX9 a).2.1 ≠ (TX9 b).2.1 := by decide +kernel
theorem tyX9_ok : ∀ k, k < 14 → parseFieldDescriptor (TX9 k).2.2.1 = some (tyX9 k) := by decide +kernel
def RX10 : String := "WakeHouse$Tape"
def TX10 : u_T := fun k => match k with
  | 0 => ("WakeHouse$Tape", "bytes", "[B", true)
  | 1 => ("WakeHouse$Tape", "words", "[J", true)
  | 2 => ("WakeHouse$Tape", "kinds", "[I", true)
  | 3 => ("WakeHouse$Tape", "places", "[I", true)
  | 4 => ("WakeHouse$Tape", "values", "[J", true)
  | 5 => ("WakeHouse$Tape", "length", "I", false)
  | 6 => ("WakeHouse$Tape", "next", "I", false)
  | _ => ("WakeHouse$Tape", "tokens", "I", false)
def tyX10 : Nat → FieldType := fun k => match k with
  | 0 => .array .byte
  | 1 => .array .long
  | 2 => .array .int
  | 3 => .array .int
  | 4 => .array .long
  | 5 => .int
  | 6 => .int
  | _ => .int
theorem nmX10 : ∀ a, a < 8 → ∀ b, b < 8 → a ≠ b → (TX10 a).2.1 ≠ (TX10 b).2.1 := by decide +kernel
theorem tyX10_ok : ∀ k, k < 8 → parseFieldDescriptor (TX10 k).2.2.1 = some (tyX10 k) := by decide +kernel
def RX11 : String := "WakeHouse"
def TX11 : u_T := fun k => match k with
  | 0 => ("WakeHouse", "tape", "LWakeHouse$Tape;", true)
  | 1 => ("WakeHouse", "reader", "LWakeHouse$Reader;", true)
  | 2 => ("WakeHouse", "house", "LWakeHouse$House;", true)
  | 3 => ("WakeHouse", "now", "LWakeHouse$State;", true)
  | 4 => ("WakeHouse", "slots", "[LWakeHouse$State;", true)
  | 5 => ("WakeHouse", "night", "LWakeHouse$Night;", true)
  | 6 => ("WakeHouse", "bestTwo", "LWakeHouse$BestTwo;", true)
  | 7 => ("WakeHouse", "cover", "LWakeHouse$Cover;", true)
  | 8 => ("WakeHouse", "shaking", "LWakeHouse$Shaking;", true)
  | 9 => ("WakeHouse", "rounds", "LWakeHouse$Round;", true)
  | 10 => ("WakeHouse", "changes", "LWakeHouse$Changes;", true)
  | _ => ("WakeHouse", "edits", "I", false)
def tyX11 : Nat → FieldType := fun k => match k with
  | 0 => .object "WakeHouse$Tape"
  | 1 => .object "WakeHouse$Reader"
  | 2 => .object "WakeHouse$House"
  | 3 => .object "WakeHouse$State"
  | 4 => .array (.object "WakeHouse$State")
  | 5 => .object "WakeHouse$Night"
  | 6 => .object "WakeHouse$BestTwo"
  | 7 => .object "WakeHouse$Cover"
  | 8 => .object "WakeHouse$Shaking"
  | 9 => .object "WakeHouse$Round"
  | 10 => .object "WakeHouse$Changes"
  | _ => .int
theorem nmX11 : ∀ a, a < 12 → ∀ b, b < 12 → a ≠ b → (TX11 a).2.1 ≠ (TX11 b).2.1 := by decide +kernel
theorem tyX11_ok : ∀ k, k < 12 → parseFieldDescriptor (TX11 k).2.2.1 = some (tyX11 k) := by decide +kernel
def RX12 : String := "WakeHouseModel"
def TX12 : u_T := fun k => match k with
  | 0 => ("WakeHouseModel", "thrown", "I", false)
  | 1 => ("WakeHouseModel", "tape", "[B", true)
  | 2 => ("WakeHouseModel", "taped", "I", false)
  | 3 => ("WakeHouseModel", "text", "[B", true)
  | 4 => ("WakeHouseModel", "size", "I", false)
  | 5 => ("WakeHouseModel", "tKind", "[I", true)
  | 6 => ("WakeHouseModel", "tPlace", "[I", true)
  | 7 => ("WakeHouseModel", "tValue", "[I", true)
  | 8 => ("WakeHouseModel", "tName", "[J", true)
  | 9 => ("WakeHouseModel", "keys", "[J", true)
  | 10 => ("WakeHouseModel", "tokens", "I", false)
  | 11 => ("WakeHouseModel", "t", "I", false)
  | 12 => ("WakeHouseModel", "open", "I", false)
  | 13 => ("WakeHouseModel", "fault", "I", false)
  | 14 => ("WakeHouseModel", "faultPlace", "I", false)
  | 15 => ("WakeHouseModel", "worst", "I", false)
  | 16 => ("WakeHouseModel", "worstPlace", "I", false)
  | 17 => ("WakeHouseModel", "place", "I", false)
  | 18 => ("WakeHouseModel", "live", "I", false)
  | 19 => ("WakeHouseModel", "side", "I", false)
  | 20 => ("WakeHouseModel", "names", "I", false)
  | 21 => ("WakeHouseModel", "nameOf", "[J", true)
  | 22 => ("WakeHouseModel", "nameSort", "[I", true)
  | 23 => ("WakeHouseModel", "nameAt", "[I", true)
  | 24 => ("WakeHouseModel", "beds", "[I", true)
  | 25 => ("WakeHouseModel", "floorOf", "[I", true)
  | 26 => ("WakeHouseModel", "placeOf", "[I", true)
  | 27 => ("WakeHouseModel", "clocks", "[I", true)
  | 28 => ("WakeHouseModel", "clockLoud", "[I", true)
  | 29 => ("WakeHouseModel", "clockLate", "[I", true)
  | 30 => ("WakeHouseModel", "sleepers", "[I", true)
  | 31 => ("WakeHouseModel", "firstBed", "[I", true)
  | 32 => ("WakeHouseModel", "deepOf", "[I", true)
  | 33 => ("WakeHouseModel", "hourOf", "[I", true)
  | 34 => ("WakeHouseModel", "lateOf", "[I", true)
  | 35 => ("WakeHouseModel", "vainOf", "[I", true)
  | 36 => ("WakeHouseModel", "isTold", "[Z", true)
  | 37 => ("WakeHouseModel", "lawFrom", "[I", true)
  | 38 => ("WakeHouseModel", "lawTo", "[I", true)
  | 39 => ("WakeHouseModel", "codes", "I", false)
  | 40 => ("WakeHouseModel", "code", "[I", true)
  | 41 => ("WakeHouseModel", "codeInt", "[I", true)
  | 42 => ("WakeHouseModel", "waits", "[I", true)
  | 43 => ("WakeHouseModel", "waiting", "I", false)
  | 44 => ("WakeHouseModel", "variables", "[I", true)
  | 45 => ("WakeHouseModel", "pile", "[I", true)
  | 46 => ("WakeHouseModel", "bedOf", "[I", true)
  | 47 => ("WakeHouseModel", "hasWool", "[Z", true)
  | 48 => ("WakeHouseModel", "sounds", "I", false)
  | 49 => ("WakeHouseModel", "soundSort", "[I", true)
  | 50 => ("WakeHouseModel", "soundMinute", "[I", true)
  | 51 => ("WakeHouseModel", "soundLoud", "[I", true)
  | 52 => ("WakeHouseModel", "soundAt", "[I", true)
  | 53 => ("WakeHouseModel", "order", "[I", true)
  | 54 => ("WakeHouseModel", "keptSort", "[I", true)
  | 55 => ("WakeHouseModel", "keptMinute", "[I", true)
  | 56 => ("WakeHouseModel", "keptLoud", "[I", true)
  | 57 => ("WakeHouseModel", "keptAt", "[I", true)
  | 58 => ("WakeHouseModel", "hours", "I", false)
  | 59 => ("WakeHouseModel", "hourAt", "[I", true)
  | 60 => ("WakeHouseModel", "bestIs", "[I", true)
  | 61 => ("WakeHouseModel", "bestCost", "J", false)
  | 62 => ("WakeHouseModel", "fewestTo", "[I", true)
  | 63 => ("WakeHouseModel", "shakes", "[I", true)
  | 64 => ("WakeHouseModel", "shaking", "[I", true)
  | 65 => ("WakeHouseModel", "far", "[I", true)
  | 66 => ("WakeHouseModel", "from", "[I", true)
  | 67 => ("WakeHouseModel", "shaken", "I", false)
  | 68 => ("WakeHouseModel", "walked", "I", false)
  | 69 => ("WakeHouseModel", "ringAt", "[I", true)
  | 70 => ("WakeHouseModel", "ringBest", "[I", true)
  | 71 => ("WakeHouseModel", "swapIs", "[I", true)
  | 72 => ("WakeHouseModel", "rounded", "I", false)
  | 73 => ("WakeHouseModel", "roundWho", "[I", true)
  | 74 => ("WakeHouseModel", "roundNow", "[I", true)
  | 75 => ("WakeHouseModel", "roundBest", "[I", true)
  | 76 => ("WakeHouseModel", "mornings", "I", false)
  | 77 => ("WakeHouseModel", "of", "[I", true)
  | 78 => ("WakeHouseModel", "who", "[I", true)
  | 79 => ("WakeHouseModel", "weekday", "[I", true)
  | 80 => ("WakeHouseModel", "woke", "[I", true)
  | 81 => ("WakeHouseModel", "cried", "I", false)
  | 82 => ("WakeHouseModel", "slotSounds", "[I", true)
  | 83 => ("WakeHouseModel", "slotSort", "[I", true)
  | 84 => ("WakeHouseModel", "slotMinute", "[I", true)
  | 85 => ("WakeHouseModel", "slotLoud", "[I", true)
  | 86 => ("WakeHouseModel", "slotAt", "[I", true)
  | 87 => ("WakeHouseModel", "slotBed", "[I", true)
  | 88 => ("WakeHouseModel", "slotWool", "[Z", true)
  | _ => ("WakeHouseModel", "slotMornings", "[I", true)
def tyX12 : Nat → FieldType := fun k => match k with
  | 0 => .int
  | 1 => .array .byte
  | 2 => .int
  | 3 => .array .byte
  | 4 => .int
  | 5 => .array .int
  | 6 => .array .int
  | 7 => .array .int
  | 8 => .array .long
  | 9 => .array .long
  | 10 => .int
  | 11 => .int
  | 12 => .int
  | 13 => .int
  | 14 => .int
  | 15 => .int
  | 16 => .int
  | 17 => .int
  | 18 => .int
  | 19 => .int
  | 20 => .int
  | 21 => .array .long
  | 22 => .array .int
  | 23 => .array .int
  | 24 => .array .int
  | 25 => .array .int
  | 26 => .array .int
  | 27 => .array .int
  | 28 => .array .int
  | 29 => .array .int
  | 30 => .array .int
  | 31 => .array .int
  | 32 => .array .int
  | 33 => .array .int
  | 34 => .array .int
  | 35 => .array .int
  | 36 => .array .boolean
  | 37 => .array .int
  | 38 => .array .int
  | 39 => .int
  | 40 => .array .int
  | 41 => .array .int
  | 42 => .array .int
  | 43 => .int
  | 44 => .array .int
  | 45 => .array .int
  | 46 => .array .int
  | 47 => .array .boolean
  | 48 => .int
  | 49 => .array .int
  | 50 => .array .int
  | 51 => .array .int
  | 52 => .array .int
  | 53 => .array .int
  | 54 => .array .int
  | 55 => .array .int
  | 56 => .array .int
  | 57 => .array .int
  | 58 => .int
  | 59 => .array .int
  | 60 => .array .int
  | 61 => .long
  | 62 => .array .int
  | 63 => .array .int
  | 64 => .array .int
  | 65 => .array .int
  | 66 => .array .int
  | 67 => .int
  | 68 => .int
  | 69 => .array .int
  | 70 => .array .int
  | 71 => .array .int
  | 72 => .int
  | 73 => .array .int
  | 74 => .array .int
  | 75 => .array .int
  | 76 => .int
  | 77 => .array .int
  | 78 => .array .int
  | 79 => .array .int
  | 80 => .array .int
  | 81 => .int
  | 82 => .array .int
  | 83 => .array .int
  | 84 => .array .int
  | 85 => .array .int
  | 86 => .array .int
  | 87 => .array .int
  | 88 => .array .boolean
  | _ => .array .int
theorem nmX12 : ∀ a, a < 90 → ∀ b, b < 90 → a ≠ b → (TX12 a).2.1 ≠ (TX12 b).2.1 := by decide +kernel
theorem tyX12_ok : ∀ k, k < 90 → parseFieldDescriptor (TX12 k).2.2.1 = some (tyX12 k) := by decide +kernel
abbrev vwCl : List vw_C := [(RX0, TX0, 17), (RX1, TX1, 6), (RX2, TX2, 6), (RX3, TX3, 19), (RX4, TX4, 3), (RX5, TX5, 12), (RX6, TX6, 15), (RX7, TX7, 8), (RX8, TX8, 13), (RX9, TX9, 14), (RX10, TX10, 8), (RX11, TX11, 12), (RX12, TX12, 90)]
def am_sel : List Nat → List Cond → List Cond
  | [], _ => []
  | g :: gs, l => match l.drop g with
    | [] => []
    | c :: l2 => c :: am_sel gs l2
theorem am_sel_in : ∀ (gs : List Nat) (l : List Cond), ∀ c ∈ am_sel gs l, c ∈ l
  | [], _, c, h => by simp [am_sel] at h
  | g :: gs, l, c, h => by
    simp only [am_sel] at h
    cases hd : l.drop g with
    | nil => rw [hd] at h; simp at h
    | cons c2 l2 =>
      rw [hd] at h
      have hm : ∀ x ∈ c2 :: l2, x ∈ l := fun x hx => List.mem_of_mem_drop (hd ▸ hx)
      rcases List.mem_cons.mp h with rfl | h
      · exact hm _ List.mem_cons_self
      · exact hm _ (List.mem_cons_of_mem _ (am_sel_in gs l2 c h))
theorem am_tab {α : Type} (l : List α) (ps : List Nat) (f : α → Cond) (h : l.map f = am_sel ps lw_tbl) : ∀ q ∈ l, f q ∈ lw_tbl := by
  intro q hq
  have h1 : f q ∈ l.map f := List.mem_map.mpr ⟨q, hq, rfl⟩
  rw [h] at h1
  exact am_sel_in _ _ _ h1
theorem inX0 : ∀ w ∈ u_ws RX0 TX0 17, w ∈ lw_tbl := fun w h => by
  obtain ⟨q, hq, rfl⟩ := List.mem_map.mp h
  exact am_tab [0, 1, 2, 3, 4, 5, 6, 7, 8, 9, 10, 11, 12, 13, 14, 15, 16] [613, 1, 1, 1, 1, 1, 1, 1, 1, 1, 1, 1, 1, 1, 1, 1, 1] (u_lay RX0 TX0) (by decide +kernel) q ((by decide +kernel : ∀ q ∈ List.range 17, q ∈ ([0, 1, 2, 3, 4, 5, 6, 7, 8, 9, 10, 11, 12, 13, 14, 15, 16] : List Nat)) q hq)
theorem inX1 : ∀ w ∈ u_ws RX1 TX1 6, w ∈ lw_tbl := fun w h => by
  obtain ⟨q, hq, rfl⟩ := List.mem_map.mp h
  exact am_tab [0, 1, 2, 3, 4, 5] [767, 1, 1, 1, 1, 1] (u_lay RX1 TX1) (by decide +kernel) q ((by decide +kernel : ∀ q ∈ List.range 6, q ∈ ([0, 1, 2, 3, 4, 5] : List Nat)) q hq)
theorem inX2 : ∀ w ∈ u_ws RX2 TX2 6, w ∈ lw_tbl := fun w h => by
  obtain ⟨q, hq, rfl⟩ := List.mem_map.mp h
  exact am_tab [0, 1, 2, 3, 4, 5] [660, 1, 1, 1, 1, 1] (u_lay RX2 TX2) (by decide +kernel) q ((by decide +kernel : ∀ q ∈ List.range 6, q ∈ ([0, 1, 2, 3, 4, 5] : List Nat)) q hq)
theorem inX3 : ∀ w ∈ u_ws RX3 TX3 19, w ∈ lw_tbl := fun w h => by
  obtain ⟨q, hq, rfl⟩ := List.mem_map.mp h
  exact am_tab [0, 1, 2, 3, 4, 5, 6, 7, 8, 9, 10, 11, 12, 13, 14, 15, 16, 17, 18] [373, 1, 1, 1, 1, 1, 1, 1, 1, 1, 1, 1, 1, 1, 1, 1, 1, 1, 1] (u_lay RX3 TX3) (by decide +kernel) q ((by decide +kernel : ∀ q ∈ List.range 19, q ∈ ([0, 1, 2, 3, 4, 5, 6, 7, 8, 9, 10, 11, 12, 13, 14, 15, 16, 17, 18] : List Nat)) q hq)
theorem inX4 : ∀ w ∈ u_ws RX4 TX4 3, w ∈ lw_tbl := fun w h => by
  obtain ⟨q, hq, rfl⟩ := List.mem_map.mp h
  exact am_tab [0, 1, 2] [293, 1, 1] (u_lay RX4 TX4) (by decide +kernel) q ((by decide +kernel : ∀ q ∈ List.range 3, q ∈ ([0, 1, 2] : List Nat)) q hq)
theorem inX5 : ∀ w ∈ u_ws RX5 TX5 12, w ∈ lw_tbl := fun w h => by
  obtain ⟨q, hq, rfl⟩ := List.mem_map.mp h
  exact am_tab [0, 1, 2, 3, 4, 5, 6, 7, 8, 9, 10, 11] [564, 1, 1, 1, 1, 1, 1, 1, 1, 1, 1, 1] (u_lay RX5 TX5) (by decide +kernel) q ((by decide +kernel : ∀ q ∈ List.range 12, q ∈ ([0, 1, 2, 3, 4, 5, 6, 7, 8, 9, 10, 11] : List Nat)) q hq)
theorem inX6 : ∀ w ∈ u_ws RX6 TX6 15, w ∈ lw_tbl := fun w h => by
  obtain ⟨q, hq, rfl⟩ := List.mem_map.mp h
  exact am_tab [0, 1, 2, 3, 4, 5, 6, 7, 8, 9, 10, 11, 12, 13, 14] [437, 1, 1, 1, 1, 1, 1, 1, 1, 1, 1, 1, 1, 1, 1] (u_lay RX6 TX6) (by decide +kernel) q ((by decide +kernel : ∀ q ∈ List.range 15, q ∈ ([0, 1, 2, 3, 4, 5, 6, 7, 8, 9, 10, 11, 12, 13, 14] : List Nat)) q hq)
theorem inX7 : ∀ w ∈ u_ws RX7 TX7 8, w ∈ lw_tbl := fun w h => by
  obtain ⟨q, hq, rfl⟩ := List.mem_map.mp h
  exact am_tab [0, 1, 2, 3, 4, 5, 6, 7] [737, 1, 1, 1, 1, 1, 1, 1] (u_lay RX7 TX7) (by decide +kernel) q ((by decide +kernel : ∀ q ∈ List.range 8, q ∈ ([0, 1, 2, 3, 4, 5, 6, 7] : List Nat)) q hq)
theorem inX8 : ∀ w ∈ u_ws RX8 TX8 13, w ∈ lw_tbl := fun w h => by
  obtain ⟨q, hq, rfl⟩ := List.mem_map.mp h
  exact am_tab [0, 1, 2, 3, 4, 5, 6, 7, 8, 9, 10, 11, 12] [695, 1, 1, 1, 1, 1, 1, 1, 1, 1, 1, 1, 1] (u_lay RX8 TX8) (by decide +kernel) q ((by decide +kernel : ∀ q ∈ List.range 13, q ∈ ([0, 1, 2, 3, 4, 5, 6, 7, 8, 9, 10, 11, 12] : List Nat)) q hq)
theorem inX9 : ∀ w ∈ u_ws RX9 TX9 14, w ∈ lw_tbl := fun w h => by
  obtain ⟨q, hq, rfl⟩ := List.mem_map.mp h
  exact am_tab [0, 1, 2, 3, 4, 5, 6, 7, 8, 9, 10, 11, 12, 13] [512, 1, 1, 1, 1, 1, 1, 1, 1, 1, 1, 1, 1, 1] (u_lay RX9 TX9) (by decide +kernel) q ((by decide +kernel : ∀ q ∈ List.range 14, q ∈ ([0, 1, 2, 3, 4, 5, 6, 7, 8, 9, 10, 11, 12, 13] : List Nat)) q hq)
theorem inX10 : ∀ w ∈ u_ws RX10 TX10 8, w ∈ lw_tbl := fun w h => by
  obtain ⟨q, hq, rfl⟩ := List.mem_map.mp h
  exact am_tab [0, 1, 2, 3, 4, 5, 6, 7] [256, 1, 1, 1, 1, 1, 1, 1] (u_lay RX10 TX10) (by decide +kernel) q ((by decide +kernel : ∀ q ∈ List.range 8, q ∈ ([0, 1, 2, 3, 4, 5, 6, 7] : List Nat)) q hq)
theorem inX11 : ∀ w ∈ u_ws RX11 TX11 12, w ∈ lw_tbl := fun w h => by
  obtain ⟨q, hq, rfl⟩ := List.mem_map.mp h
  exact am_tab [0, 1, 2, 3, 4, 5, 6, 7, 8, 9, 10, 11] [792, 1, 1, 1, 1, 1, 1, 1, 1, 1, 1, 1] (u_lay RX11 TX11) (by decide +kernel) q ((by decide +kernel : ∀ q ∈ List.range 12, q ∈ ([0, 1, 2, 3, 4, 5, 6, 7, 8, 9, 10, 11] : List Nat)) q hq)
theorem inX12 : ∀ w ∈ u_ws RX12 TX12 90, w ∈ lw_tbl := fun w h => by
  obtain ⟨q, hq, rfl⟩ := List.mem_map.mp h
  exact am_tab [0, 1, 2, 3, 4, 5, 6, 7, 8, 9, 10, 11, 12, 13, 14, 15, 16, 17, 18, 19, 20, 21, 22, 23, 24, 25, 26, 27, 28, 29,
  30, 31, 32, 33, 34, 35, 36, 37, 38, 39, 40, 41, 42, 43, 44, 45, 46, 47, 48, 49, 50, 51, 52, 53, 54, 55, 56, 57, 58, 59,
  60, 61, 62, 63, 64, 65, 66, 67, 68, 69, 70, 71, 72, 73, 74, 75, 76, 77, 78, 79, 80, 81, 82, 83, 84, 85, 86, 87, 88, 89] [1786, 1, 1, 1, 1, 1, 1, 1, 1, 1, 1, 1, 1, 1, 1, 1, 1, 1, 1, 1, 1, 1, 1, 1, 1, 1, 1, 1, 1, 1,
  1, 1, 1, 1, 1, 1, 1, 1, 1, 1, 1, 1, 1, 1, 1, 1, 1, 1, 1, 1, 1, 1, 1, 1, 1, 1, 1, 1, 1, 1,
  1, 1, 1, 1, 1, 1, 1, 1, 1, 1, 1, 1, 1, 1, 1, 1, 1, 1, 1, 1, 1, 1, 1, 1, 1, 1, 1, 1, 1, 1] (u_lay RX12 TX12) (by decide +kernel) q ((by decide +kernel : ∀ q ∈ List.range 90, q ∈ ([0, 1, 2, 3, 4, 5, 6, 7, 8, 9, 10, 11, 12, 13, 14, 15, 16, 17, 18, 19, 20, 21, 22, 23, 24, 25, 26, 27, 28, 29,
  30, 31, 32, 33, 34, 35, 36, 37, 38, 39, 40, 41, 42, 43, 44, 45, 46, 47, 48, 49, 50, 51, 52, 53, 54, 55, 56, 57, 58, 59,
  60, 61, 62, 63, 64, 65, 66, 67, 68, 69, 70, 71, 72, 73, 74, 75, 76, 77, 78, 79, 80, 81, 82, 83, 84, 85, 86, 87, 88, 89] : List Nat)) q hq)
def cN (n : Nat) : String := am_nth "" ["WakeHouse$BestTwo", "WakeHouse$Changes", "WakeHouse$Cover", "WakeHouse$House", "WakeHouse$Law", "WakeHouse$Night", "WakeHouse$Reader", "WakeHouse$Round", "WakeHouse$Shaking", "WakeHouse$State", "WakeHouse$Tape", "WakeHouse", "WakeHouseModel", "WakeHouseLaw", "java/lang/String", "java/lang/StringLatin1", "jdk/internal/util/Preconditions", "java/lang/Math", "java/util/Arrays", "java/lang/Long", "java/lang/Integer"] n
def ftL : List (List Nat) := [[0, 0, 0, 0, 0, 0, 0, 0, 0, 0, 2, 2, 1, 1, 1, 1, 1],
  [0, 0, 0, 0, 0, 0],
  [0, 0, 0, 0, 0, 1],
  [0, 0, 0, 0, 0, 0, 0, 0, 0, 0, 0, 0, 0, 0, 1, 1, 1, 1, 1],
  [0, 0, 1],
  [0, 0, 0, 0, 0, 0, 0, 0, 0, 0, 0, 1],
  [0, 0, 0, 0, 1, 1, 0, 1, 1, 1, 1, 1, 1, 1, 1],
  [0, 0, 0, 0, 0, 0, 1, 1],
  [0, 0, 0, 0, 0, 0, 0, 0, 0, 1, 1, 1, 1],
  [0, 0, 0, 0, 0, 0, 0, 0, 0, 0, 1, 1, 1, 3],
  [0, 0, 0, 0, 0, 1, 1, 1],
  [0, 0, 0, 0, 0, 0, 0, 0, 0, 0, 0, 1],
  [1, 0, 1, 0, 1, 0, 0, 0, 0, 0, 1, 1, 1, 1, 1, 1, 1, 1, 1, 1, 1, 0, 0, 0, 0, 0, 0, 0, 0, 0, 0, 0, 0, 0, 0, 0, 0, 0, 0, 1, 0, 0, 0, 1, 0, 0, 0, 0, 1, 0, 0, 0, 0, 0, 0, 0, 0, 0, 1, 0, 0, 2, 0, 0, 0, 0, 0, 1, 1, 0, 0, 0, 1, 0, 0, 0, 1, 0, 0, 0, 0, 1, 0, 0, 0, 0, 0, 0, 0, 0],
  [],
  [],
  [],
  [],
  [],
  [],
  [],
  [0, 1]]
def ftab (c k : Nat) : Nat := am_nth 9 (am_nth [] ftL c) k
/-- fields: in which class, which entry; of which class, which field -/
def tFl : List (Nat × Nat × Nat × Nat) := [(10, 9, 10, 0), (10, 13, 10, 1), (10, 17, 10, 2), (6, 74, 10, 2), (10, 21, 10, 3), (6, 77, 10, 3), (10, 24, 10, 4), (6, 162, 10, 4),
  (10, 43, 10, 5), (11, 101, 10, 5), (6, 71, 10, 5), (10, 49, 10, 6), (10, 46, 10, 7), (4, 11, 4, 0), (4, 15, 4, 1), (4, 18, 4, 2),
  (3, 77, 4, 2), (6, 173, 4, 2), (3, 9, 3, 0), (6, 117, 3, 0), (3, 15, 3, 1), (7, 44, 3, 1), (6, 123, 3, 1), (3, 18, 3, 2),
  (2, 82, 3, 2), (0, 123, 3, 2), (11, 177, 3, 2), (6, 132, 3, 2), (3, 21, 3, 3), (6, 135, 3, 3), (3, 24, 3, 4), (9, 63, 3, 4),
  (6, 144, 3, 4), (3, 27, 3, 5), (5, 57, 3, 5), (11, 135, 3, 5), (6, 147, 3, 5), (3, 30, 3, 6), (7, 70, 3, 6), (8, 73, 3, 6),
  (2, 67, 3, 6), (11, 138, 3, 6), (5, 118, 3, 6), (9, 72, 3, 6), (6, 150, 3, 6), (3, 33, 3, 7), (11, 141, 3, 7), (5, 136, 3, 7),
  (6, 153, 3, 7), (3, 36, 3, 8), (11, 144, 3, 8), (5, 129, 3, 8), (6, 156, 3, 8), (3, 39, 3, 9), (0, 81, 3, 9), (2, 76, 3, 9),
  (11, 238, 3, 9), (3, 42, 3, 10), (7, 50, 3, 10), (8, 70, 3, 10), (3, 47, 3, 11), (3, 51, 3, 12), (6, 96, 3, 12), (3, 55, 3, 13),
  (5, 64, 3, 13), (6, 104, 3, 13), (3, 58, 3, 14), (1, 81, 3, 14), (2, 70, 3, 14), (0, 117, 3, 14), (6, 107, 3, 14), (11, 366, 3, 14),
  (3, 62, 3, 15), (6, 129, 3, 15), (11, 369, 3, 15), (3, 65, 3, 16), (1, 37, 3, 16), (9, 58, 3, 16), (2, 62, 3, 16), (0, 94, 3, 16),
  (6, 138, 3, 16), (5, 147, 3, 16), (11, 346, 3, 16), (3, 68, 3, 17), (0, 65, 3, 17), (2, 73, 3, 17), (11, 235, 3, 17), (8, 42, 3, 18),
  (7, 32, 3, 18), (3, 71, 3, 18), (11, 310, 3, 18), (6, 35, 6, 0), (6, 12, 6, 1), (11, 108, 6, 1), (6, 18, 6, 2), (6, 22, 6, 3),
  (6, 45, 6, 4), (6, 48, 6, 5), (6, 28, 6, 6), (6, 176, 6, 7), (6, 179, 6, 8), (6, 51, 6, 9), (6, 120, 6, 10), (6, 54, 6, 11),
  (6, 31, 6, 12), (11, 125, 6, 12), (6, 57, 6, 13), (6, 60, 6, 14), (9, 9, 9, 0), (5, 108, 9, 0), (11, 193, 9, 0), (9, 15, 9, 1),
  (5, 85, 9, 1), (11, 196, 9, 1), (9, 18, 9, 2), (5, 111, 9, 2), (11, 199, 9, 2), (9, 21, 9, 3), (5, 105, 9, 3), (9, 24, 9, 4),
  (1, 43, 9, 4), (7, 45, 9, 4), (8, 80, 9, 4), (5, 90, 9, 4), (0, 97, 9, 4), (11, 131, 9, 4), (2, 97, 9, 4), (9, 27, 9, 5),
  (1, 58, 9, 5), (11, 154, 9, 5), (9, 30, 9, 6), (11, 322, 9, 6), (9, 33, 9, 7), (9, 36, 9, 8), (9, 39, 9, 9), (11, 336, 9, 9),
  (9, 42, 9, 10), (1, 55, 9, 10), (5, 80, 9, 10), (0, 102, 9, 10), (11, 190, 9, 10), (9, 46, 9, 11), (11, 203, 9, 11), (9, 49, 9, 12),
  (11, 319, 9, 12), (11, 121, 9, 13), (5, 43, 5, 0), (5, 47, 5, 1), (5, 9, 5, 2), (5, 15, 5, 3), (0, 144, 5, 3), (5, 18, 5, 4),
  (0, 147, 5, 4), (5, 21, 5, 5), (5, 27, 5, 6), (5, 30, 5, 7), (5, 33, 5, 8), (11, 285, 5, 8), (5, 36, 5, 9), (5, 39, 5, 10),
  (5, 76, 5, 11), (0, 134, 5, 11), (0, 38, 0, 0), (0, 42, 0, 1), (0, 46, 0, 2), (0, 11, 0, 3), (0, 15, 0, 4), (0, 18, 0, 5),
  (0, 21, 0, 6), (0, 25, 0, 7), (0, 28, 0, 8), (0, 31, 0, 9), (0, 140, 0, 10), (0, 162, 0, 11), (11, 249, 0, 11), (0, 59, 0, 12),
  (0, 50, 0, 13), (0, 53, 0, 14), (0, 56, 0, 15), (0, 34, 0, 16), (2, 18, 2, 0), (2, 22, 2, 1), (2, 26, 2, 2), (2, 9, 2, 3),
  (2, 15, 2, 4), (2, 38, 2, 5), (8, 34, 8, 0), (8, 38, 8, 1), (8, 11, 8, 2), (11, 274, 8, 2), (8, 15, 8, 3), (8, 19, 8, 4),
  (8, 22, 8, 5), (8, 25, 8, 6), (8, 28, 8, 7), (8, 31, 8, 8), (8, 108, 8, 9), (8, 48, 8, 10), (8, 119, 8, 11), (11, 268, 8, 11),
  (8, 122, 8, 12), (11, 271, 8, 12), (7, 24, 7, 0), (7, 28, 7, 1), (7, 9, 7, 2), (11, 313, 7, 2), (7, 15, 7, 3), (7, 18, 7, 4),
  (7, 21, 7, 5), (7, 41, 7, 6), (7, 38, 7, 7), (1, 22, 1, 0), (1, 26, 1, 1), (1, 30, 1, 2), (1, 9, 1, 3), (1, 15, 1, 4),
  (1, 19, 1, 5), (11, 294, 1, 5), (11, 10, 11, 0), (11, 28, 11, 1), (11, 19, 11, 2), (11, 35, 11, 3), (11, 39, 11, 4), (11, 48, 11, 5),
  (11, 57, 11, 6), (11, 64, 11, 7), (11, 71, 11, 8), (11, 78, 11, 9), (11, 85, 11, 10), (11, 89, 11, 11), (12, 13, 12, 1), (12, 222, 12, 2),
  (12, 17, 12, 3), (12, 229, 12, 4), (12, 20, 12, 5), (12, 24, 12, 6), (12, 27, 12, 7), (12, 30, 12, 8), (12, 34, 12, 9), (12, 238, 12, 10),
  (12, 263, 12, 11), (12, 287, 12, 12), (12, 260, 12, 13), (12, 266, 12, 14), (12, 269, 12, 15), (12, 272, 12, 16), (12, 37, 12, 17), (12, 290, 12, 18),
  (12, 293, 12, 19), (12, 296, 12, 20), (12, 40, 12, 21), (12, 43, 12, 22), (12, 46, 12, 23), (12, 49, 12, 24), (12, 52, 12, 25), (12, 55, 12, 26),
  (12, 58, 12, 27), (12, 61, 12, 28), (12, 64, 12, 29), (12, 67, 12, 30), (12, 70, 12, 31), (12, 73, 12, 32), (12, 76, 12, 33), (12, 79, 12, 34),
  (12, 82, 12, 35), (12, 85, 12, 36), (12, 89, 12, 37), (12, 92, 12, 38), (12, 299, 12, 39), (12, 95, 12, 40), (12, 98, 12, 41), (12, 101, 12, 42),
  (12, 342, 12, 43), (12, 104, 12, 44), (12, 107, 12, 45), (12, 110, 12, 46), (12, 113, 12, 47), (12, 409, 12, 48), (12, 116, 12, 49), (12, 119, 12, 50),
  (12, 122, 12, 51), (12, 125, 12, 52), (12, 128, 12, 53), (12, 131, 12, 54), (12, 134, 12, 55), (12, 137, 12, 56), (12, 140, 12, 57), (12, 470, 12, 58),
  (12, 143, 12, 59), (12, 146, 12, 60), (12, 479, 12, 61), (12, 149, 12, 62), (12, 152, 12, 63), (12, 155, 12, 64), (12, 158, 12, 65), (12, 161, 12, 66),
  (12, 502, 12, 67), (12, 505, 12, 68), (12, 164, 12, 69), (12, 167, 12, 70), (12, 170, 12, 71), (12, 540, 12, 72), (12, 173, 12, 73), (12, 176, 12, 74),
  (12, 179, 12, 75), (12, 552, 12, 76), (12, 182, 12, 77), (12, 185, 12, 78), (12, 188, 12, 79), (12, 191, 12, 80), (12, 571, 12, 81), (12, 194, 12, 82),
  (12, 197, 12, 83), (12, 200, 12, 84), (12, 203, 12, 85), (12, 206, 12, 86), (12, 209, 12, 87), (12, 212, 12, 88), (12, 215, 12, 89)]
def cT (n : Nat) : u_T := match n with
  | 0 => TX0
  | 1 => TX1
  | 2 => TX2
  | 3 => TX3
  | 4 => TX4
  | 5 => TX5
  | 6 => TX6
  | 7 => TX7
  | 8 => TX8
  | 9 => TX9
  | 10 => TX10
  | 11 => TX11
  | _ => TX12
theorem tFl_ok : ∀ q ∈ tFl, Cond.fieldLink (cN q.1) q.2.1 (cN q.2.2.1) (cT q.2.2.1 q.2.2.2).2.1 (cT q.2.2.1 q.2.2.2).2.2.1 ∈ lw_tbl := am_tab tFl [243, 0, 0, 0, 0, 0, 0, 0, 0, 0, 0, 0, 0, 32, 0, 0, 0, 0, 7, 0, 0, 0, 0, 0, 0, 0, 0, 0, 0, 0,
  0, 0, 0, 0, 0, 0, 0, 0, 0, 0, 0, 0, 0, 0, 0, 0, 0, 0, 0, 0, 0, 0, 0, 0, 0, 0, 0, 0, 0, 0,
  0, 0, 0, 0, 0, 0, 0, 0, 0, 0, 0, 0, 0, 0, 0, 0, 0, 0, 0, 0, 0, 0, 0, 0, 0, 0, 0, 0, 0, 0,
  0, 47, 0, 0, 0, 0, 0, 0, 0, 0, 0, 0, 0, 0, 0, 0, 0, 0, 37, 0, 0, 0, 0, 0, 0, 0, 0, 0, 0, 0,
  0, 0, 0, 0, 0, 0, 0, 0, 0, 0, 0, 0, 0, 0, 0, 0, 0, 0, 0, 0, 0, 0, 0, 0, 0, 0, 36, 0, 0, 0,
  0, 0, 0, 0, 0, 0, 0, 0, 0, 0, 0, 0, 31, 0, 0, 0, 0, 0, 0, 0, 0, 0, 0, 0, 0, 0, 0, 0, 0, 0,
  41, 0, 0, 0, 0, 0, 19, 0, 0, 0, 0, 0, 0, 0, 0, 0, 0, 0, 0, 0, 0, 0, 33, 0, 0, 0, 0, 0, 0, 0,
  0, 23, 0, 0, 0, 0, 0, 0, 13, 0, 0, 0, 0, 0, 0, 0, 0, 0, 0, 0, 905, 0, 0, 0, 0, 0, 0, 0, 0, 0,
  0, 0, 0, 0, 0, 0, 0, 0, 0, 0, 0, 0, 0, 0, 0, 0, 0, 0, 0, 0, 0, 0, 0, 0, 0, 0, 0, 0, 0, 0,
  0, 0, 0, 0, 0, 0, 0, 0, 0, 0, 0, 0, 0, 0, 0, 0, 0, 0, 0, 0, 0, 0, 0, 0, 0, 0, 0, 0, 0, 0,
  0, 0, 0, 0, 0, 0, 0, 0, 0, 0, 0, 0, 0, 0, 0, 0, 0, 0, 0] (fun q => Cond.fieldLink (cN q.1) q.2.1 (cN q.2.2.1) (cT q.2.2.1 q.2.2.2).2.1 (cT q.2.2.1 q.2.2.2).2.2.1) (by decide +kernel)
-- statics and texts: [('WakeHouse', 210, 'WakeHouse', 'HUNDREDS', '[J', None, 1201), ('WakeHouse$Changes', 52, 'WakeHouse', 'HUNDREDS', '[J', 'WakeHouse', 1480), ('WakeHouse$Night', 126, 'WakeHouse', 'HUNDREDS', '[J', 'WakeHouse', 1237), ('WakeHouse$Shaking', 93, 'WakeHouse$Shaking', 'NINES', '[I', None, 1396), ('java/lang/String', 9, 'java/lang/String', 'value', '[B', None, 2512), ('java/lang/String', 15, 'java/lang/String', 'coder', 'B', None, 2513), ('java/lang/String', 38, 'java/lang/String', 'COMPACT_STRINGS', 'Z', None, 199), ('java/lang/String', 1053, 'jdk/internal/util/Preconditions', 'SIOOBE_FORMATTER', 'Ljava/util/function/BiFunction;', None, 215)]
def tCn : List (Nat × Nat × Int) := [(7, 56, 100000), (5, 187, 1103515245), (20, 265, 1431655765), (20, 266, 858993459), (20, 267, 252645135), (12, 508, 100000), (12, 578, 1103515245)]
theorem tCn_ok : ∀ q ∈ tCn, Cond.constant (cN q.1) q.2.1 (Int32.ofInt q.2.2) ∈ lw_tbl := am_tab tCn [1535, 106, 38, 0, 0, 656, 150] (fun q => Cond.constant (cN q.1) q.2.1 (Int32.ofInt q.2.2)) (by decide +kernel)
def tCl : List (Nat × Nat × Int) := [(10, 60, 27), (11, 214, (-1)), (11, 216, (-2)), (5, 124, 10), (8, 91, 8), (8, 100, 6586148313000), (8, 102, 6586148313), (8, 104, 43046721),
  (8, 106, 9223372036854775807), (5, 159, (-1)), (11, 296, (-1000000000000000000)), (19, 314, 6148914691236517205), (19, 316, 3689348814741910323), (19, 318, 1085102592571150095), (12, 232, 27), (12, 441, 100),
  (12, 446, (-1)), (12, 448, (-2)), (12, 439, 10), (12, 538, (-1000000000000000000))]
theorem tCl_ok : ∀ q ∈ tCl, Cond.constantLong (cN q.1) q.2.1 (Int64.ofInt q.2.2) ∈ lw_tbl := am_tab tCl [242, 964, 0, 27, 158, 11, 0, 0, 8, 28, 58, 148, 0, 0, 38, 520, 7, 4, 16, 149] (fun q => Cond.constantLong (cN q.1) q.2.1 (Int64.ofInt q.2.2)) (by decide +kernel)
/-- methods by number: names, bytes, locals, answers; how many frames and words of room; how many arguments -/
def mYL : List MethodName := [⟨"WakeHouse", "<init>", "()V"⟩, ⟨"WakeHouse$Tape", "<init>", "()V"⟩,
  ⟨"java/lang/String", "length", "()I"⟩, ⟨"java/lang/String", "coder", "()B"⟩,
  ⟨"java/lang/String", "charAt", "(I)C"⟩, ⟨"java/lang/String", "isLatin1", "()Z"⟩,
  ⟨"java/lang/StringLatin1", "charAt", "([BI)C"⟩, ⟨"java/lang/String", "checkIndex", "(II)V"⟩,
  ⟨"jdk/internal/util/Preconditions", "checkIndex", "(IILjava/util/function/BiFunction;)I"⟩, ⟨"WakeHouse$Tape", "spelled", "(JI)J"⟩,
  ⟨"WakeHouse$House", "<init>", "()V"⟩, ⟨"WakeHouse$Law", "<init>", "()V"⟩,
  ⟨"WakeHouse$Reader", "<init>", "(LWakeHouse$Tape;)V"⟩, ⟨"WakeHouse$State", "<init>", "()V"⟩,
  ⟨"WakeHouse$Night", "<init>", "(LWakeHouse$House;LWakeHouse$State;)V"⟩, ⟨"WakeHouse$BestTwo", "<init>", "(LWakeHouse$House;LWakeHouse$State;LWakeHouse$Night;)V"⟩,
  ⟨"WakeHouse$Cover", "<init>", "(LWakeHouse$House;LWakeHouse$State;LWakeHouse$Night;)V"⟩, ⟨"WakeHouse$Shaking", "<init>", "(LWakeHouse$House;LWakeHouse$State;)V"⟩,
  ⟨"WakeHouse$Round", "<init>", "(LWakeHouse$House;LWakeHouse$State;)V"⟩, ⟨"WakeHouse$Changes", "<init>", "(LWakeHouse$House;LWakeHouse$State;LWakeHouse$Night;)V"⟩,
  ⟨"WakeHouse", "feed", "(IIIII)I"⟩, ⟨"WakeHouse$Tape", "hasRoom", "(I)Z"⟩,
  ⟨"WakeHouse$Tape", "putFour", "(I)V"⟩, ⟨"WakeHouse", "back", "(I)I"⟩,
  ⟨"WakeHouse", "read", "()I"⟩, ⟨"WakeHouse$Reader", "readText", "()I"⟩,
  ⟨"WakeHouse$Tape", "split", "()V"⟩, ⟨"WakeHouse$Tape", "scan", "()Z"⟩,
  ⟨"WakeHouse$Tape", "isBlank", "(I)Z"⟩, ⟨"WakeHouse$Tape", "put", "(IIJ)V"⟩,
  ⟨"WakeHouse$Tape", "isLetter", "(I)Z"⟩, ⟨"WakeHouse$Tape", "scanLetters", "()Z"⟩,
  ⟨"WakeHouse$Tape", "isDigit", "(I)Z"⟩, ⟨"WakeHouse$Tape", "scanDigits", "()Z"⟩,
  ⟨"WakeHouse$Tape", "scanSign", "(I)Z"⟩, ⟨"java/lang/String", "indexOf", "(I)I"⟩,
  ⟨"java/lang/String", "indexOf", "(II)I"⟩, ⟨"java/lang/StringLatin1", "indexOf", "([BIII)I"⟩,
  ⟨"java/lang/StringLatin1", "canEncode", "(I)Z"⟩, ⟨"java/lang/StringLatin1", "indexOfChar", "([BIII)I"⟩,
  ⟨"WakeHouse$House", "clear", "()V"⟩, ⟨"WakeHouse$House", "putUsualHearing", "()V"⟩,
  ⟨"WakeHouse$Law", "put", "(I)V"⟩, ⟨"WakeHouse$Reader", "kind", "()I"⟩,
  ⟨"WakeHouse$Reader", "tell", "()Z"⟩, ⟨"WakeHouse$Reader", "tellBed", "()Z"⟩,
  ⟨"WakeHouse$Reader", "fail", "(I)Z"⟩, ⟨"WakeHouse$Reader", "goOn", "()Z"⟩,
  ⟨"WakeHouse$Reader", "takeNewName", "(I)Z"⟩, ⟨"WakeHouse$Reader", "numberOf", "(J)I"⟩,
  ⟨"WakeHouse$Reader", "doubt", "(I)V"⟩, ⟨"WakeHouse$Reader", "takeInt", "(II)Z"⟩,
  ⟨"WakeHouse$Reader", "take", "(I)Z"⟩, ⟨"WakeHouse$Reader", "tellClock", "()Z"⟩,
  ⟨"WakeHouse$Reader", "tellSleeper", "()Z"⟩, ⟨"WakeHouse$Reader", "takeBedName", "()Z"⟩,
  ⟨"WakeHouse$Reader", "takeDuty", "(I)Z"⟩, ⟨"WakeHouse$Reader", "tellLaw", "(LWakeHouse$Law;)Z"⟩,
  ⟨"WakeHouse$Reader", "open", "(I)Z"⟩, ⟨"WakeHouse$Reader", "pushSign", "(I)V"⟩,
  ⟨"WakeHouse$Reader", "putUnit", "(LWakeHouse$Law;I)Z"⟩, ⟨"WakeHouse$Reader", "putSign", "(LWakeHouse$Law;I)Z"⟩,
  ⟨"WakeHouse$Reader", "putWaiting", "(LWakeHouse$Law;Z)V"⟩, ⟨"WakeHouse$Reader", "closes", "(I)Z"⟩,
  ⟨"WakeHouse$Reader", "close", "(LWakeHouse$Law;I)Z"⟩, ⟨"WakeHouse$House", "takeFrom", "(LWakeHouse$House;)V"⟩,
  ⟨"WakeHouse$Law", "takeFrom", "(LWakeHouse$Law;)V"⟩, ⟨"WakeHouse$House", "listHours", "()V"⟩,
  ⟨"WakeHouse$House", "listHour", "(I)V"⟩, ⟨"WakeHouse$House", "listEight", "()V"⟩,
  ⟨"WakeHouse$State", "begin", "(LWakeHouse$House;)V"⟩, ⟨"java/util/Arrays", "fill", "([II)V"⟩,
  ⟨"WakeHouse$Night", "forget", "()V"⟩, ⟨"java/util/Arrays", "fill", "([BB)V"⟩,
  ⟨"WakeHouse", "place", "()I"⟩, ⟨"WakeHouse", "of", "(II)I"⟩,
  ⟨"WakeHouse", "isSleeper", "(I)Z"⟩, ⟨"WakeHouse$State", "woolOf", "(I)I"⟩,
  ⟨"WakeHouse", "lies", "(I)I"⟩, ⟨"WakeHouse", "isBed", "(I)Z"⟩,
  ⟨"WakeHouse", "hears", "(IIII)I"⟩, ⟨"WakeHouse", "isLoud", "(I)Z"⟩,
  ⟨"WakeHouse", "isMinute", "(I)Z"⟩, ⟨"WakeHouse$House", "hearing", "(IIIIII)I"⟩,
  ⟨"WakeHouse$House", "apart", "(II)I"⟩, ⟨"WakeHouse$Law", "value", "([I)I"⟩,
  ⟨"WakeHouse", "held", "(III)I"⟩, ⟨"WakeHouse", "again", "(II)I"⟩,
  ⟨"WakeHouse$Night", "asleepAgain", "(II)I"⟩, ⟨"WakeHouse", "ring", "(III)I"⟩,
  ⟨"WakeHouse", "isClock", "(I)Z"⟩, ⟨"WakeHouse$House", "soundsAt", "(II)I"⟩,
  ⟨"WakeHouse", "plan", "(IIII)I"⟩, ⟨"WakeHouse$State", "putBehind", "(IIII)I"⟩,
  ⟨"WakeHouse", "string", "(II)I"⟩, ⟨"WakeHouse", "pole", "(II)I"⟩,
  ⟨"WakeHouse", "drop", "(I)I"⟩, ⟨"WakeHouse", "isSound", "(I)Z"⟩,
  ⟨"WakeHouse$State", "takeOut", "(I)V"⟩, ⟨"WakeHouse", "sound", "(II)I"⟩,
  ⟨"WakeHouse$State", "bedOfSound", "(I)I"⟩, ⟨"WakeHouse", "wool", "(IZ)Z"⟩,
  ⟨"WakeHouse", "swap", "(II)Z"⟩, ⟨"WakeHouse$State", "change", "(II)V"⟩,
  ⟨"WakeHouse", "ways", "()J"⟩, ⟨"WakeHouse", "up", "(I)J"⟩,
  ⟨"WakeHouse$Night", "arrange", "(I)V"⟩, ⟨"WakeHouse$Night", "insert", "(II)I"⟩,
  ⟨"WakeHouse$Night", "listen", "(I)V"⟩, ⟨"WakeHouse$Night", "listenFrom", "(III)V"⟩,
  ⟨"WakeHouse$Night", "heardOf", "(IIII)I"⟩, ⟨"WakeHouse$Night", "upWays", "(I)J"⟩,
  ⟨"WakeHouse", "woken", "(I)J"⟩, ⟨"WakeHouse$Night", "wokenWays", "()J"⟩,
  ⟨"WakeHouse", "cost", "()J"⟩, ⟨"WakeHouse$Night", "costWithout", "(I)J"⟩,
  ⟨"WakeHouse$Night", "share", "(I)J"⟩, ⟨"WakeHouse", "worst", "()I"⟩,
  ⟨"WakeHouse", "hours", "(I)I"⟩, ⟨"WakeHouse", "best", "(III)J"⟩,
  ⟨"WakeHouse", "bestRefusal", "(III)I"⟩, ⟨"WakeHouse$BestTwo", "seek", "(IIII)V"⟩,
  ⟨"WakeHouse$BestTwo", "hearAll", "()V"⟩, ⟨"WakeHouse$BestTwo", "hearClock", "(I[I)V"⟩,
  ⟨"WakeHouse$BestTwo", "setTo", "(I)I"⟩, ⟨"WakeHouse$BestTwo", "cell", "(II)I"⟩,
  ⟨"WakeHouse$BestTwo", "weigh", "(II)V"⟩, ⟨"WakeHouse$BestTwo", "compareBeds", "(II)V"⟩,
  ⟨"WakeHouse$BestTwo", "compare", "(JI)V"⟩, ⟨"WakeHouse$BestTwo", "compareSeconds", "(JII)V"⟩,
  ⟨"WakeHouse", "bestAt", "(IIII)I"⟩, ⟨"WakeHouse$BestTwo", "found", "(I)I"⟩,
  ⟨"WakeHouse", "fewest", "(I)I"⟩, ⟨"WakeHouse$Cover", "fewestRings", "(I)I"⟩,
  ⟨"WakeHouse$Cover", "deafOnes", "(I)I"⟩, ⟨"WakeHouse$Cover", "gather", "(I)V"⟩,
  ⟨"WakeHouse$Cover", "wokenBy", "(III)I"⟩, ⟨"WakeHouse$Cover", "keep", "(I)V"⟩,
  ⟨"WakeHouse$Cover", "bound", "()I"⟩, ⟨"WakeHouse$Cover", "goOn", "(II)V"⟩,
  ⟨"WakeHouse", "deaf", "(I)I"⟩, ⟨"WakeHouse", "walk", "(II)I"⟩,
  ⟨"WakeHouse$House", "walking", "(II)I"⟩, ⟨"WakeHouse", "shakes", "(II)I"⟩,
  ⟨"WakeHouse$Shaking", "match", "(I)V"⟩, ⟨"WakeHouse$Shaking", "setPrices", "(I)V"⟩,
  ⟨"WakeHouse$Shaking", "canShake", "(II)Z"⟩, ⟨"WakeHouse$Shaking", "walkOf", "(II)I"⟩,
  ⟨"java/util/Arrays", "fill", "([JJ)V"⟩, ⟨"WakeHouse$Shaking", "seat", "(I)V"⟩,
  ⟨"WakeHouse$Shaking", "nearest", "(I)I"⟩, ⟨"WakeHouse$Shaking", "isDone", "(I)Z"⟩,
  ⟨"WakeHouse$Shaking", "tell", "(I)V"⟩, ⟨"WakeHouse", "shaker", "(II)I"⟩,
  ⟨"WakeHouse", "twice", "(IIII)J"⟩, ⟨"WakeHouse", "mayRingTwice", "(IIII)Z"⟩,
  ⟨"WakeHouse$Night", "ringOften", "(IIII)J"⟩, ⟨"WakeHouse$Night", "pickNext", "(II)Z"⟩,
  ⟨"WakeHouse", "twiceAt", "(IIIII)I"⟩, ⟨"WakeHouse", "swaps", "(I)I"⟩,
  ⟨"WakeHouse", "isLimit", "(I)Z"⟩, ⟨"WakeHouse$Changes", "fewestChanges", "(I)I"⟩,
  ⟨"WakeHouse$Changes", "setPrices", "()V"⟩, ⟨"WakeHouse$Changes", "priceOf", "(II)J"⟩,
  ⟨"WakeHouse$Changes", "seekOne", "(JI)Z"⟩, ⟨"WakeHouse$Changes", "saved", "(II)J"⟩,
  ⟨"WakeHouse$Changes", "seekTwo", "(J)Z"⟩, ⟨"WakeHouse$Changes", "turn", "(II)V"⟩,
  ⟨"WakeHouse", "swapAt", "(II)I"⟩, ⟨"WakeHouse", "worth", "(I)J"⟩,
  ⟨"WakeHouse$Night", "worthOfWool", "(I)J"⟩, ⟨"WakeHouse", "whose", "(I)I"⟩,
  ⟨"WakeHouse$Night", "worthiest", "(I)I"⟩, ⟨"WakeHouse", "round", "(I)I"⟩,
  ⟨"WakeHouse", "isEarly", "(I)Z"⟩, ⟨"WakeHouse$Round", "walkRound", "(I)I"⟩,
  ⟨"WakeHouse$Round", "goForward", "()V"⟩, ⟨"WakeHouse$Round", "knock", "(II)I"⟩,
  ⟨"WakeHouse$Round", "hourOf", "(I)I"⟩, ⟨"WakeHouse$Round", "goBackward", "(I)V"⟩,
  ⟨"WakeHouse$Round", "pickOrder", "()V"⟩, ⟨"WakeHouse", "roundAt", "(II)I"⟩,
  ⟨"WakeHouse", "morning", "(III)I"⟩, ⟨"WakeHouse$State", "note", "(III)I"⟩,
  ⟨"WakeHouse", "annul", "(I)I"⟩, ⟨"WakeHouse", "alone", "(IIII)I"⟩,
  ⟨"WakeHouse", "isKnown", "(I)Z"⟩, ⟨"WakeHouse$State", "countAlone", "(LWakeHouse$House;IIIZ)I"⟩,
  ⟨"WakeHouse$State", "known", "(II)Z"⟩, ⟨"WakeHouse$State", "inTime", "(LWakeHouse$House;I)Z"⟩,
  ⟨"WakeHouse", "mondays", "(II)I"⟩, ⟨"WakeHouse$State", "tallyMondays", "(LWakeHouse$House;I)V"⟩,
  ⟨"WakeHouse", "mondayWays", "(IZ)J"⟩, ⟨"WakeHouse$State", "waysOfSoMany", "()J"⟩,
  ⟨"WakeHouse", "choose", "(II)J"⟩, ⟨"WakeHouse", "fire", "(IIZ)I"⟩,
  ⟨"WakeHouse", "aMinuteLater", "(IIZ)I"⟩, ⟨"WakeHouse", "cryHeard", "(III)I"⟩,
  ⟨"WakeHouse", "reaches", "(IIZ)I"⟩, ⟨"WakeHouse", "day", "(II)I"⟩,
  ⟨"WakeHouse$Night", "upByLots", "(III)Z"⟩, ⟨"WakeHouse$Night", "lotOfTen", "(II)I"⟩,
  ⟨"WakeHouse$Night", "stirred", "(II)I"⟩, ⟨"WakeHouse", "days", "(III)I"⟩,
  ⟨"WakeHouse$Night", "daysAllUp", "(II)I"⟩, ⟨"java/lang/Long", "bitCount", "(J)I"⟩,
  ⟨"WakeHouse", "hold", "(I)Z"⟩, ⟨"WakeHouse", "isSlot", "(I)Z"⟩,
  ⟨"WakeHouse$State", "takeFrom", "(LWakeHouse$State;)V"⟩, ⟨"WakeHouse", "restore", "(I)Z"⟩,
  ⟨"WakeHouse", "count", "(I)I"⟩, ⟨"java/lang/Integer", "bitCount", "(I)I"⟩,
  ⟨"WakeHouseModel", "<init>", "()V"⟩, ⟨"WakeHouseModel", "word", "(IIIIIII)J"⟩,
  ⟨"WakeHouseModel", "appends", "(JI)J"⟩, ⟨"WakeHouseModel", "feed", "(IIIII)I"⟩,
  ⟨"WakeHouseModel", "put", "(I)V"⟩, ⟨"WakeHouseModel", "back", "(I)I"⟩,
  ⟨"WakeHouseModel", "read", "()I"⟩, ⟨"WakeHouseModel", "cut", "()V"⟩,
  ⟨"WakeHouseModel", "byteAt", "(I)I"⟩, ⟨"WakeHouseModel", "token", "(IIIJ)V"⟩,
  ⟨"WakeHouseModel", "isLetter", "(I)Z"⟩, ⟨"WakeHouseModel", "isDigit", "(I)Z"⟩,
  ⟨"WakeHouseModel", "sign", "(III)I"⟩, ⟨"WakeHouseModel", "is", "(I)Z"⟩,
  ⟨"WakeHouseModel", "tell", "()V"⟩, ⟨"WakeHouseModel", "fail", "(I)V"⟩,
  ⟨"WakeHouseModel", "tellBed", "()V"⟩, ⟨"WakeHouseModel", "goesOn", "()V"⟩,
  ⟨"WakeHouseModel", "named", "()I"⟩, ⟨"WakeHouseModel", "must", "(I)V"⟩,
  ⟨"WakeHouseModel", "wrong", "(II)V"⟩, ⟨"WakeHouseModel", "told", "(II)I"⟩,
  ⟨"WakeHouseModel", "knows", "(III)V"⟩, ⟨"WakeHouseModel", "tellClock", "()V"⟩,
  ⟨"WakeHouseModel", "tellSleeper", "()V"⟩, ⟨"WakeHouseModel", "freeBed", "()I"⟩,
  ⟨"WakeHouseModel", "expression", "()V"⟩, ⟨"WakeHouseModel", "waitFor", "(I)V"⟩,
  ⟨"WakeHouseModel", "unit", "()V"⟩, ⟨"WakeHouseModel", "emit", "(II)V"⟩,
  ⟨"WakeHouseModel", "goes", "()Z"⟩, ⟨"WakeHouseModel", "comesOut", "(Z)V"⟩,
  ⟨"WakeHouseModel", "isStrong", "()Z"⟩, ⟨"WakeHouseModel", "waitsOn", "(I)Z"⟩,
  ⟨"WakeHouseModel", "begins", "()V"⟩, ⟨"WakeHouseModel", "place", "()I"⟩,
  ⟨"WakeHouseModel", "of", "(II)I"⟩, ⟨"WakeHouseModel", "isSleeper", "(I)Z"⟩,
  ⟨"WakeHouseModel", "in", "(III)Z"⟩, ⟨"WakeHouseModel", "lies", "(I)I"⟩,
  ⟨"WakeHouseModel", "isBed", "(I)Z"⟩, ⟨"WakeHouseModel", "whoLies", "(I)I"⟩,
  ⟨"WakeHouseModel", "hears", "(IIII)I"⟩, ⟨"WakeHouseModel", "isLoud", "(I)Z"⟩,
  ⟨"WakeHouseModel", "isMinute", "(I)Z"⟩, ⟨"WakeHouseModel", "hearing", "(IIII)I"⟩,
  ⟨"WakeHouseModel", "gapOf", "(II)I"⟩, ⟨"WakeHouseModel", "bare", "(I)I"⟩,
  ⟨"WakeHouseModel", "floorsOf", "(II)I"⟩, ⟨"WakeHouseModel", "valueOf", "(I)I"⟩,
  ⟨"WakeHouseModel", "held", "(II)I"⟩, ⟨"WakeHouseModel", "again", "(II)I"⟩,
  ⟨"WakeHouseModel", "asleepAgain", "(II)I"⟩, ⟨"WakeHouseModel", "ring", "(III)I"⟩,
  ⟨"WakeHouseModel", "isClock", "(I)Z"⟩, ⟨"WakeHouseModel", "rings", "(III)I"⟩,
  ⟨"WakeHouseModel", "soundsAt", "(II)I"⟩, ⟨"WakeHouseModel", "soundComes", "(IIII)I"⟩,
  ⟨"WakeHouseModel", "string", "(II)I"⟩, ⟨"WakeHouseModel", "pole", "(II)I"⟩,
  ⟨"WakeHouseModel", "drop", "(I)I"⟩, ⟨"WakeHouseModel", "goesOut", "(I)V"⟩,
  ⟨"WakeHouseModel", "sound", "(II)I"⟩, ⟨"WakeHouseModel", "wool", "(IZ)Z"⟩,
  ⟨"WakeHouseModel", "swap", "(II)Z"⟩, ⟨"WakeHouseModel", "changes", "(II)V"⟩,
  ⟨"WakeHouseModel", "ways", "()J"⟩, ⟨"WakeHouseModel", "power", "(JI)J"⟩,
  ⟨"WakeHouseModel", "up", "(I)J"⟩, ⟨"WakeHouseModel", "hour", "(I)I"⟩,
  ⟨"WakeHouseModel", "sorts", "()V"⟩, ⟨"WakeHouseModel", "upOf", "(I)J"⟩,
  ⟨"WakeHouseModel", "until", "(I)I"⟩, ⟨"WakeHouseModel", "heard", "(II)I"⟩,
  ⟨"WakeHouseModel", "woken", "(I)J"⟩, ⟨"WakeHouseModel", "wokenOf", "(I)J"⟩,
  ⟨"WakeHouseModel", "cost", "()J"⟩, ⟨"WakeHouseModel", "costNow", "()J"⟩,
  ⟨"WakeHouseModel", "worst", "()I"⟩, ⟨"WakeHouseModel", "keeps", "()V"⟩,
  ⟨"WakeHouseModel", "putsBack", "(I)V"⟩, ⟨"WakeHouseModel", "hours", "(I)I"⟩,
  ⟨"WakeHouseModel", "hoursNow", "()V"⟩, ⟨"WakeHouseModel", "best", "(III)J"⟩,
  ⟨"WakeHouseModel", "bests", "(III)I"⟩, ⟨"WakeHouseModel", "leadOf", "(II)I"⟩,
  ⟨"WakeHouseModel", "bestAt", "(IIII)I"⟩, ⟨"WakeHouseModel", "fewest", "(I)I"⟩,
  ⟨"WakeHouseModel", "withHours", "()I"⟩, ⟨"WakeHouseModel", "wakes", "(III)I"⟩,
  ⟨"WakeHouseModel", "deaf", "(I)I"⟩, ⟨"WakeHouseModel", "walk", "(II)I"⟩,
  ⟨"WakeHouseModel", "walkOf", "(II)I"⟩, ⟨"WakeHouseModel", "shakes", "(II)I"⟩,
  ⟨"WakeHouseModel", "shakesOn", "(II)V"⟩, ⟨"WakeHouseModel", "oneMore", "(II)Z"⟩,
  ⟨"WakeHouseModel", "isFirst", "(I)Z"⟩, ⟨"WakeHouseModel", "canShake", "(II)Z"⟩,
  ⟨"WakeHouseModel", "shaker", "(II)I"⟩, ⟨"WakeHouseModel", "shakesAll", "(I)V"⟩,
  ⟨"WakeHouseModel", "twice", "(IIII)J"⟩, ⟨"WakeHouseModel", "twiceBest", "(IIII)J"⟩,
  ⟨"WakeHouseModel", "upBy", "(III)J"⟩, ⟨"WakeHouseModel", "twiceAt", "(IIIII)I"⟩,
  ⟨"WakeHouseModel", "swaps", "(I)I"⟩, ⟨"WakeHouseModel", "swapsNow", "(I)I"⟩,
  ⟨"WakeHouseModel", "isCheap", "(I)Z"⟩, ⟨"WakeHouseModel", "secondSwap", "(I)Z"⟩,
  ⟨"WakeHouseModel", "swapAt", "(II)I"⟩, ⟨"WakeHouseModel", "worth", "(I)J"⟩,
  ⟨"WakeHouseModel", "worthOf", "(I)J"⟩, ⟨"WakeHouseModel", "whose", "(I)I"⟩,
  ⟨"WakeHouseModel", "round", "(I)I"⟩, ⟨"WakeHouseModel", "roundBy", "(I)I"⟩,
  ⟨"WakeHouseModel", "roundDone", "(I)I"⟩, ⟨"WakeHouseModel", "nextOrder", "()Z"⟩,
  ⟨"WakeHouseModel", "roundAt", "(II)I"⟩, ⟨"WakeHouseModel", "morning", "(III)I"⟩,
  ⟨"WakeHouseModel", "annul", "(I)I"⟩, ⟨"WakeHouseModel", "alone", "(IIII)I"⟩,
  ⟨"WakeHouseModel", "isKnown", "(I)Z"⟩, ⟨"WakeHouseModel", "counts", "(II)Z"⟩,
  ⟨"WakeHouseModel", "isInTime", "(I)Z"⟩, ⟨"WakeHouseModel", "mondays", "(II)I"⟩,
  ⟨"WakeHouseModel", "mondaysOf", "(II)I"⟩, ⟨"WakeHouseModel", "mondayWays", "(IZ)J"⟩,
  ⟨"WakeHouseModel", "picks", "(II)J"⟩, ⟨"WakeHouseModel", "fire", "(IIZ)I"⟩,
  ⟨"WakeHouseModel", "cries", "(IIZ)I"⟩, ⟨"WakeHouseModel", "reaches", "(IIZ)I"⟩,
  ⟨"WakeHouseModel", "day", "(II)I"⟩, ⟨"WakeHouseModel", "upOn", "(II)I"⟩,
  ⟨"WakeHouseModel", "isUpOn", "(III)Z"⟩, ⟨"WakeHouseModel", "lot", "(III)I"⟩,
  ⟨"WakeHouseModel", "mixed", "(II)I"⟩, ⟨"WakeHouseModel", "days", "(III)I"⟩,
  ⟨"WakeHouseModel", "hold", "(I)Z"⟩, ⟨"WakeHouseModel", "copies", "(III)V"⟩,
  ⟨"WakeHouseModel", "restore", "(I)Z"⟩, ⟨"WakeHouseModel", "count", "(I)I"⟩,
  ⟨"WakeHouse$Shaking", "shakerAt", "(II)I"⟩, ⟨"WakeHouseLaw", "law", "([I)Z"⟩]
def mY (n : Nat) : MethodName := am_nth ⟨"", "", ""⟩ mYL n
def mLoL : List Nat := [2, 5, 1, 1, 2, 1, 2, 2, 3, 3, 1, 1, 2, 1, 3, 4, 4, 3, 3, 4, 6, 2, 3, 2, 3, 3, 3, 2, 1, 5,
  1, 6, 1, 4, 5, 2, 3, 4, 1, 6, 1, 1, 2, 1, 1, 2, 2, 1, 4, 4, 2, 3, 2, 3, 2, 2, 2, 6, 2, 2,
  3, 5, 4, 3, 4, 2, 2, 2, 5, 2, 3, 4, 1, 4, 1, 3, 2, 2, 2, 2, 5, 1, 1, 7, 3, 7, 3, 3, 4, 4,
  2, 3, 5, 5, 3, 3, 2, 2, 3, 3, 2, 4, 3, 5, 1, 2, 3, 4, 2, 5, 6, 8, 2, 4, 1, 5, 2, 7, 2, 5,
  5, 8, 4, 7, 2, 2, 14, 9, 4, 10, 6, 2, 2, 4, 4, 5, 8, 3, 3, 7, 2, 3, 3, 3, 4, 8, 5, 3, 5, 4,
  7, 2, 6, 3, 5, 5, 13, 5, 6, 2, 1, 6, 3, 3, 6, 5, 7, 4, 4, 2, 4, 2, 6, 2, 1, 5, 8, 4, 2, 8,
  8, 3, 4, 4, 2, 5, 2, 9, 4, 4, 3, 6, 3, 4, 6, 7, 8, 4, 7, 5, 8, 3, 3, 6, 7, 2, 2, 1, 2, 2,
  2, 1, 1, 7, 3, 6, 3, 2, 2, 8, 2, 6, 1, 1, 6, 2, 2, 2, 3, 1, 3, 2, 4, 4, 4, 5, 3, 4, 2, 2,
  2, 3, 1, 3, 1, 2, 2, 1, 4, 2, 3, 2, 2, 3, 5, 1, 1, 6, 3, 1, 3, 7, 2, 3, 4, 4, 2, 4, 3, 5,
  3, 3, 2, 3, 3, 3, 3, 5, 1, 6, 2, 2, 3, 12, 3, 3, 2, 5, 1, 5, 8, 2, 3, 2, 4, 5, 10, 3, 6, 7,
  3, 7, 5, 3, 3, 3, 6, 10, 4, 3, 3, 9, 5, 14, 12, 6, 2, 7, 2, 6, 4, 2, 7, 10, 2, 6, 7, 5, 3, 4,
  2, 7, 2, 4, 3, 3, 7, 9, 5, 4, 9, 4, 3, 5, 8, 3, 3, 7, 3, 5, 3, 4, 2, 4]
def mLo (n : Nat) : Nat := am_nth 0 mLoL n
def mRL : List (Option FieldType) := [none, none, some .int, some .byte, some .char, some .boolean, some .char, none, some .int, some .long,
  none, none, none, none, none, none, none, none, none, none,
  some .int, some .boolean, none, some .int, some .int, some .int, none, some .boolean, some .boolean, none,
  some .boolean, some .boolean, some .boolean, some .boolean, some .boolean, some .int, some .int, some .int, some .boolean, some .int,
  none, none, none, some .int, some .boolean, some .boolean, some .boolean, some .boolean, some .boolean, some .int,
  none, some .boolean, some .boolean, some .boolean, some .boolean, some .boolean, some .boolean, some .boolean, some .boolean, none,
  some .boolean, some .boolean, none, some .boolean, some .boolean, none, none, none, none, none,
  none, none, none, none, some .int, some .int, some .boolean, some .int, some .int, some .boolean,
  some .int, some .boolean, some .boolean, some .int, some .int, some .int, some .int, some .int, some .int, some .int,
  some .boolean, some .int, some .int, some .int, some .int, some .int, some .int, some .boolean, none, some .int,
  some .int, some .boolean, some .boolean, none, some .long, some .long, none, some .int, none, none,
  some .int, some .long, some .long, some .long, some .long, some .long, some .long, some .int, some .int, some .long,
  some .int, none, none, none, some .int, some .int, none, none, none, none,
  some .int, some .int, some .int, some .int, some .int, none, some .int, none, some .int, none,
  some .int, some .int, some .int, some .int, none, none, some .boolean, some .int, none, none,
  some .int, some .boolean, none, some .int, some .long, some .boolean, some .long, some .boolean, some .int, some .int,
  some .boolean, some .int, none, some .long, some .boolean, some .long, some .boolean, none, some .int, some .long,
  some .long, some .int, some .int, some .int, some .boolean, some .int, none, some .int, some .int, none,
  none, some .int, some .int, some .int, some .int, some .int, some .boolean, some .int, some .boolean, some .boolean,
  some .int, none, some .long, some .long, some .long, some .int, some .int, some .int, some .int, some .int,
  some .boolean, some .int, some .int, some .int, some .int, some .int, some .boolean, some .boolean, none, some .boolean,
  some .int, some .int, none, some .long, some .long, some .int, none, some .int, some .int, none,
  some .int, none, some .boolean, some .boolean, some .int, some .boolean, none, none, none, none,
  some .int, none, none, some .int, none, none, none, some .int, none, none,
  none, none, some .boolean, none, some .boolean, some .boolean, none, some .int, some .int, some .boolean,
  some .boolean, some .int, some .boolean, some .int, some .int, some .boolean, some .boolean, some .int, some .int, some .int,
  some .int, some .int, some .int, some .int, some .int, some .int, some .boolean, some .int, some .int, some .int,
  some .int, some .int, some .int, none, some .int, some .boolean, some .boolean, none, some .long, some .long,
  some .long, some .int, none, some .long, some .int, some .int, some .long, some .long, some .long, some .long,
  some .int, none, none, some .int, none, some .long, some .int, some .int, some .int, some .int,
  some .int, some .int, some .int, some .int, some .int, some .int, none, some .boolean, some .boolean, some .boolean,
  some .int, none, some .long, some .long, some .long, some .int, some .int, some .int, some .boolean, some .boolean,
  some .int, some .long, some .long, some .int, some .int, some .int, some .int, some .boolean, some .int, some .int,
  some .int, some .int, some .boolean, some .boolean, some .boolean, some .int, some .int, some .long, some .long, some .int,
  some .int, some .int, some .int, some .int, some .boolean, some .int, some .int, some .int, some .boolean, none,
  some .boolean, some .int, some .int, some .boolean]
def mR (n : Nat) : Option FieldType := am_nth none mRL n
def mFr (n : Nat) : Nat := am_nth 0 [5, 4, 1, 0, 3, 0, 2, 1, 0, 0, 2, 1, 3, 1, 1, 1, 1, 1, 1, 1, 1, 0, 0, 0, 8, 7, 6, 5, 0, 0,
  0, 1, 0, 1, 4, 3, 2, 1, 0, 0, 2, 1, 0, 0, 5, 3, 0, 1, 2, 0, 0, 2, 2, 3, 4, 2, 3, 3, 1, 0,
  1, 2, 1, 0, 2, 2, 1, 1, 0, 0, 1, 0, 1, 0, 0, 1, 0, 0, 1, 0, 3, 0, 0, 2, 1, 0, 1, 3, 2, 3,
  0, 2, 1, 0, 2, 2, 1, 0, 0, 1, 0, 1, 1, 0, 0, 6, 1, 0, 5, 4, 3, 3, 6, 0, 7, 6, 4, 7, 0, 7,
  1, 6, 4, 3, 1, 0, 5, 2, 0, 1, 7, 2, 7, 6, 5, 4, 3, 0, 0, 1, 6, 3, 2, 7, 6, 5, 4, 3, 0, 2,
  1, 0, 4, 7, 5, 1, 4, 0, 5, 7, 0, 6, 5, 0, 2, 1, 3, 0, 7, 6, 5, 7, 6, 4, 0, 3, 2, 1, 0, 1,
  2, 4, 1, 0, 1, 2, 0, 1, 0, 0, 2, 1, 3, 2, 1, 5, 4, 3, 5, 6, 3, 1, 0, 7, 6, 0, 2, 0, 1, 2,
  1, 0, 2, 1, 0, 1, 0, 0, 6, 2, 0, 0, 0, 0, 1, 0, 5, 0, 4, 1, 3, 2, 0, 2, 0, 4, 4, 3, 4, 2,
  2, 0, 3, 2, 1, 0, 0, 0, 2, 1, 0, 2, 1, 0, 3, 1, 1, 2, 1, 0, 1, 0, 0, 2, 1, 3, 1, 2, 1, 0,
  2, 2, 1, 0, 1, 2, 2, 1, 1, 0, 5, 0, 0, 4, 0, 3, 5, 4, 6, 5, 6, 0, 0, 2, 1, 7, 6, 0, 7, 4,
  1, 3, 4, 3, 2, 6, 5, 4, 1, 3, 7, 6, 5, 4, 3, 5, 9, 8, 6, 7, 9, 7, 6, 7, 3, 2, 1, 0, 3, 2,
  1, 2, 1, 0, 1, 3, 2, 3, 0, 4, 3, 4, 6, 5, 4, 1, 0, 6, 1, 0, 1, 0, 0, 10] n
def mWd (n : Nat) : Nat := am_nth 0 [109, 85, 20, 0, 64, 0, 43, 22, 0, 0, 50, 30, 70, 30, 30, 30, 30, 30, 30, 30, 22, 0, 0, 0, 185, 163, 141, 120, 0, 0,
  0, 24, 0, 24, 96, 75, 53, 30, 0, 0, 41, 21, 0, 0, 105, 64, 0, 21, 41, 0, 0, 41, 41, 64, 84, 41, 63, 68, 21, 0,
  21, 44, 21, 0, 44, 101, 80, 24, 0, 0, 23, 0, 23, 0, 0, 21, 0, 0, 21, 0, 78, 0, 0, 52, 30, 0, 30, 75, 52, 74,
  0, 52, 24, 0, 48, 48, 22, 0, 0, 21, 0, 21, 24, 0, 0, 148, 23, 0, 127, 103, 78, 75, 148, 0, 172, 148, 102, 172, 0, 183,
  21, 156, 104, 78, 30, 0, 123, 52, 0, 23, 183, 51, 175, 152, 129, 105, 78, 0, 0, 30, 152, 74, 52, 170, 147, 120, 96, 74, 0, 47,
  21, 0, 96, 170, 134, 21, 102, 0, 134, 174, 0, 149, 127, 0, 46, 22, 71, 0, 174, 150, 127, 175, 150, 104, 0, 80, 53, 30, 0, 30,
  53, 104, 23, 0, 23, 51, 0, 23, 0, 0, 48, 23, 78, 55, 30, 128, 101, 78, 128, 148, 75, 22, 0, 174, 148, 0, 101, 0, 80, 101,
  20, 0, 48, 22, 0, 22, 0, 0, 129, 50, 0, 0, 0, 0, 25, 0, 108, 0, 84, 21, 62, 41, 0, 41, 0, 84, 85, 62, 83, 41,
  41, 0, 63, 41, 21, 0, 0, 0, 43, 22, 0, 43, 22, 0, 67, 22, 22, 42, 20, 0, 20, 0, 0, 49, 26, 66, 22, 43, 21, 0,
  43, 43, 22, 0, 22, 43, 46, 22, 25, 0, 120, 0, 0, 89, 0, 67, 113, 89, 144, 120, 144, 0, 0, 44, 21, 173, 144, 0, 173, 93,
  21, 67, 93, 64, 42, 140, 115, 86, 21, 64, 168, 140, 131, 98, 67, 131, 216, 190, 144, 165, 216, 170, 144, 170, 72, 47, 21, 0, 72, 43,
  22, 43, 22, 0, 21, 69, 43, 69, 0, 95, 67, 95, 140, 116, 89, 22, 0, 140, 24, 0, 24, 0, 0, 239] n
def mNaL : List Nat := [1, 1, 1, 1, 2, 1, 2, 2, 3, 2, 1, 1, 2, 1, 3, 4, 4, 3, 3, 4, 6, 2, 2, 2, 1, 1, 1, 1, 1, 4,
  1, 1, 1, 1, 2, 2, 3, 4, 1, 4, 1, 1, 2, 1, 1, 1, 2, 1, 2, 2, 2, 3, 2, 1, 1, 1, 2, 2, 2, 2,
  3, 3, 3, 2, 3, 2, 2, 1, 2, 1, 2, 2, 1, 2, 1, 3, 2, 2, 2, 2, 5, 1, 1, 7, 3, 2, 3, 3, 3, 4,
  2, 3, 5, 5, 3, 3, 2, 2, 2, 3, 2, 3, 3, 3, 1, 2, 2, 3, 2, 4, 5, 2, 2, 1, 1, 2, 2, 1, 2, 4,
  4, 5, 1, 3, 2, 2, 3, 3, 3, 4, 5, 2, 2, 2, 2, 2, 4, 2, 1, 3, 2, 3, 3, 3, 2, 2, 3, 3, 2, 2,
  2, 2, 2, 3, 5, 5, 5, 3, 6, 2, 1, 2, 1, 3, 3, 3, 2, 3, 3, 2, 2, 2, 2, 2, 1, 2, 1, 3, 2, 2,
  1, 3, 4, 4, 2, 5, 2, 6, 3, 3, 3, 3, 3, 1, 2, 4, 4, 4, 4, 3, 4, 2, 2, 4, 3, 1, 2, 1, 2, 2,
  2, 1, 1, 7, 2, 6, 2, 2, 1, 1, 2, 5, 1, 1, 4, 2, 1, 2, 1, 1, 1, 2, 3, 3, 4, 1, 1, 1, 1, 2,
  1, 3, 1, 2, 1, 2, 1, 1, 3, 2, 3, 2, 2, 2, 5, 1, 1, 5, 3, 1, 3, 2, 2, 3, 3, 4, 2, 4, 3, 5,
  3, 3, 2, 2, 3, 3, 3, 3, 1, 2, 2, 2, 1, 2, 2, 3, 2, 2, 1, 1, 1, 1, 2, 2, 1, 4, 4, 3, 5, 2,
  1, 4, 2, 3, 3, 3, 3, 3, 2, 3, 3, 2, 5, 5, 4, 6, 2, 2, 2, 2, 3, 2, 2, 2, 2, 2, 2, 1, 3, 4,
  2, 5, 2, 3, 2, 3, 3, 3, 2, 4, 4, 4, 3, 3, 4, 3, 2, 4, 2, 4, 2, 2, 2, 1]
def mNf : List Nat := [17, 6, 6, 19, 3, 12, 15, 8, 13, 14, 8, 12, 90]
def mRk : List Nat := [21, 20, 30, 30, 30, 30, 0, 0, 0, 0, 13, 14, 16, 19, 15, 10, 12, 18, 17, 11, 21, 20, 20, 21, 21, 16, 20, 20, 0, 20,
  0, 20, 0, 20, 20, 30, 30, 0, 0, 0, 13, 13, 14, 16, 16, 16, 16, 16, 16, 16, 16, 16, 16, 16, 16, 16, 16, 16, 16, 16,
  16, 16, 16, 16, 16, 13, 14, 13, 13, 13, 19, 0, 15, 0, 21, 21, 21, 19, 21, 21, 21, 0, 0, 13, 13, 14, 0, 21, 15, 21,
  21, 13, 21, 19, 21, 21, 21, 21, 19, 21, 19, 21, 21, 19, 21, 21, 15, 15, 15, 15, 15, 15, 21, 15, 21, 15, 15, 21, 21, 21,
  21, 10, 10, 10, 10, 0, 10, 10, 10, 10, 21, 10, 21, 12, 12, 12, 12, 12, 12, 12, 21, 21, 13, 21, 18, 18, 18, 18, 0, 18,
  18, 18, 18, 21, 21, 21, 15, 15, 21, 21, 0, 11, 11, 11, 11, 11, 11, 11, 21, 21, 15, 21, 15, 21, 0, 17, 17, 17, 17, 17,
  17, 21, 21, 19, 21, 21, 21, 19, 19, 19, 21, 19, 21, 19, 0, 21, 21, 21, 21, 21, 15, 0, 0, 21, 15, 0, 21, 0, 19, 21,
  21, 0, 22, 0, 0, 22, 22, 22, 22, 22, 22, 22, 0, 0, 22, 22, 22, 22, 22, 22, 22, 22, 22, 22, 22, 22, 22, 22, 22, 22,
  22, 22, 22, 22, 22, 22, 22, 22, 22, 22, 0, 22, 22, 22, 22, 0, 0, 22, 22, 0, 22, 22, 0, 22, 22, 22, 22, 22, 22, 22,
  22, 22, 22, 22, 22, 22, 22, 22, 22, 0, 22, 22, 22, 22, 22, 22, 22, 22, 22, 22, 22, 22, 22, 22, 22, 22, 22, 22, 22, 22,
  22, 22, 22, 22, 22, 22, 22, 22, 22, 22, 22, 22, 22, 22, 22, 22, 22, 22, 22, 22, 22, 22, 22, 22, 22, 22, 22, 22, 22, 22,
  22, 22, 22, 22, 22, 22, 22, 22, 0, 22, 22, 22, 22, 22, 22, 0, 0, 22, 22, 22, 22, 22, 0, 0]
/-- arguments of a method; from 1000 on: fields of a class; from 2000 on: the kind of a method's own object -/
def mNa (n : Nat) : Nat := bif Nat.ble 2000 n then am_nth 0 mRk (n - 2000) else bif Nat.ble 1000 n then am_nth 0 mNf (n - 1000) else am_nth 0 mNaL n
def mCs (n : Nat) : Nat := am_nth 0 [11, 10, 14, 14, 14, 14, 15, 14, 16, 10, 3, 4, 6, 9, 5, 0, 2, 8, 7, 1, 11, 10, 10, 11, 11, 6, 10, 10, 10, 10,
  10, 10, 10, 10, 10, 14, 14, 15, 15, 15, 3, 3, 4, 6, 6, 6, 6, 6, 6, 6, 6, 6, 6, 6, 6, 6, 6, 6, 6, 6,
  6, 6, 6, 6, 6, 3, 4, 3, 3, 3, 9, 18, 5, 18, 11, 11, 11, 9, 11, 11, 11, 11, 11, 3, 3, 4, 11, 11, 5, 11,
  11, 3, 11, 9, 11, 11, 11, 11, 9, 11, 9, 11, 11, 9, 11, 11, 5, 5, 5, 5, 5, 5, 11, 5, 11, 5, 5, 11, 11, 11,
  11, 0, 0, 0, 0, 0, 0, 0, 0, 0, 11, 0, 11, 2, 2, 2, 2, 2, 2, 2, 11, 11, 3, 11, 8, 8, 8, 8, 18, 8,
  8, 8, 8, 11, 11, 11, 5, 5, 11, 11, 11, 1, 1, 1, 1, 1, 1, 1, 11, 11, 5, 11, 5, 11, 11, 7, 7, 7, 7, 7,
  7, 11, 11, 9, 11, 11, 11, 9, 9, 9, 11, 9, 11, 9, 11, 11, 11, 11, 11, 11, 5, 5, 5, 11, 5, 19, 11, 11, 9, 11,
  11, 20, 12, 12, 12, 12, 12, 12, 12, 12, 12, 12, 12, 12, 12, 12, 12, 12, 12, 12, 12, 12, 12, 12, 12, 12, 12, 12, 12, 12,
  12, 12, 12, 12, 12, 12, 12, 12, 12, 12, 12, 12, 12, 12, 12, 12, 12, 12, 12, 12, 12, 12, 12, 12, 12, 12, 12, 12, 12, 12,
  12, 12, 12, 12, 12, 12, 12, 12, 12, 12, 12, 12, 12, 12, 12, 12, 12, 12, 12, 12, 12, 12, 12, 12, 12, 12, 12, 12, 12, 12,
  12, 12, 12, 12, 12, 12, 12, 12, 12, 12, 12, 12, 12, 12, 12, 12, 12, 12, 12, 12, 12, 12, 12, 12, 12, 12, 12, 12, 12, 12,
  12, 12, 12, 12, 12, 12, 12, 12, 12, 12, 12, 12, 12, 12, 12, 12, 12, 12, 12, 12, 12, 12, 8, 13] n
def mN : Nat := 354
def mCA : List Cond := am_sel [180, 7, 5, 3, 5, 3, 2, 2, 4, 21, 38, 5, 129, 55, 73, 46, 58, 24, 48, 31, 61, 3, 3, 3, 3, 3, 3, 3, 2, 3,
  2, 3, 2, 3, 3, 4, 3, 3, 2, 8, 38, 3, 3, 3, 3, 3, 3, 3, 3, 3, 3, 3, 3, 3, 3, 3, 3, 3, 3, 3,
  3, 4, 3, 3, 3, 3, 6, 4, 3, 3, 3, 2, 3, 2, 3, 3, 3, 3, 3, 3, 3, 2, 2, 3, 3, 6, 2, 5, 3, 5,
  3, 3, 3, 3, 3, 3, 3, 3, 3, 3, 3, 3, 3, 3, 3, 5, 5, 3, 3, 4, 3, 4, 6, 3, 3, 3, 5, 5, 3, 3,
  3, 3, 3, 3, 3, 4, 6, 6, 3, 3, 3, 3, 3, 3, 3, 3, 4, 6, 3, 4, 4, 4, 3, 3, 3, 3, 2, 6, 3, 6,
  4, 4, 3, 3, 3, 3, 3, 3, 5, 3, 3, 2, 3, 3, 7, 5, 3, 3, 3, 3, 3, 4, 3, 3, 4, 2, 3, 3, 5, 3,
  6, 3, 3, 3, 3, 3, 3, 3, 3, 3, 3, 3, 3, 3, 3, 2, 4, 3, 3, 3, 3, 3, 2, 2, 4, 3, 3, 6, 2, 3,
  4, 3, 2, 7, 3, 2, 275, 3, 3, 3, 3, 3, 3, 2, 2, 3, 3, 3, 3, 3, 3, 3, 3, 3, 3, 3, 3, 3, 3, 3,
  3, 3, 3, 3, 3, 3, 3, 3, 3, 3, 3, 2, 3, 3, 3, 3, 2, 2, 3, 3, 2, 3, 3, 2, 3, 3, 3, 3, 3, 3,
  3, 3, 3, 3, 3, 3, 3, 3, 3, 3, 3, 3, 4, 4, 3, 3, 3, 4, 3, 3, 3, 3, 3, 3, 3, 3, 3, 3, 3, 3,
  3, 3, 3, 3, 3, 3, 3, 3, 3, 3, 4, 3, 3, 3, 3, 3, 3, 3, 3, 3, 3, 3, 3, 3, 4, 3, 3, 3, 3, 3,
  3, 3, 3, 3, 3, 3, 3, 3, 3, 2, 3, 3, 3, 3, 3, 3, 2, 2, 4, 3, 3, 3, 3] lw_tbl
/-- one stands out of its place -/
def mCL : List Cond := mCA.take 146 ++ (mCA.drop 147 ++ (mCA.drop 146).take 1)
theorem mCL_in {c : Cond} (h : c ∈ mCL) : c ∈ mCA := by
  rcases List.mem_append.mp h with h | h
  · exact List.mem_of_mem_take h
  · rcases List.mem_append.mp h with h | h
    · exact List.mem_of_mem_drop h
    · exact List.mem_of_mem_drop (List.mem_of_mem_take h)
def mBof : Cond → ByteArray
  | .code _ b _ _ => b
  | _ => ⟨#[]⟩
def mIsC (c : Cond) (y : MethodName) (n : Nat) (r : Option FieldType) : Bool := match c with
  | .code y2 _ n2 r2 => decide (y2 = y) && (decide (n2 = n) && decide (r2 = r))
  | _ => false
theorem mIsC_ok {c : Cond} {y : MethodName} {n : Nat} {r : Option FieldType} (h : mIsC c y n r = true) : c = .code y (mBof c) n r := by
  cases c <;> simp [mIsC] at h
  obtain ⟨rfl, rfl, rfl⟩ := h
  rfl
/-- a method's bytes; the law's are its own -/
def mB (n : Nat) : ByteArray := bif Nat.beq n 353 then code else mBof (am_nth (.initialized "") mCL n)
def mZ : List Cond → List MethodName → List Nat → List (Option FieldType) → Bool
  | [], _, _, _ => true
  | c :: cs, y :: ys, n :: ns, r :: rs => mIsC c y n r && mZ cs ys ns rs
  | _, _, _, _ => false
theorem mZ_at : ∀ (cs : List Cond) (ys : List MethodName) (ns : List Nat) (rs : List (Option FieldType)), mZ cs ys ns rs = true → ∀ k, k < cs.length → mIsC (am_nth (.initialized "") cs k) (am_nth ⟨"", "", ""⟩ ys k) (am_nth 0 ns k) (am_nth none rs k) = true
  | [], _, _, _, _, k, hk => absurd hk (Nat.not_lt_zero k)
  | c :: cs, y :: ys, n :: ns, r :: rs, h, 0, _ => (Bool.and_eq_true_iff.mp h).1
  | c :: cs, y :: ys, n :: ns, r :: rs, h, k + 1, hk => mZ_at cs ys ns rs (Bool.and_eq_true_iff.mp h).2 k (Nat.lt_of_succ_lt_succ hk)
theorem mZ_ok : mZ mCL mYL mLoL mRL = true := by decide +kernel
theorem mCL_len : mCL.length = 353 := by decide +kernel
theorem mC_ok {n : Nat} (h : n < 353) : Cond.code (mY n) (mB n) (mLo n) (mR n) ∈ lw_tbl := by
  have h1 := mIsC_ok (mZ_at _ _ _ _ mZ_ok n (by rw [mCL_len]; exact h))
  have h2 : am_nth (.initialized "") mCL n ∈ mCL := List.mem_of_getElem? (am_nth_get _ _ _ (by rw [mCL_len]; exact h))
  have h3 : mB n = mBof (am_nth (.initialized "") mCL n) := by
    unfold mB
    rw [nb_ne (Nat.ne_of_lt h)]
    rfl
  rw [h3]
  have h4 := am_sel_in _ _ _ (mCL_in h2)
  rw [h1] at h4
  exact h4
