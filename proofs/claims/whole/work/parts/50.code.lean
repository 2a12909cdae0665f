/-! the methods as the abstract machine has them -/
/-- WakeHouse.<init>()V -/
def c_0 : List aI := [.aload 0, .invokeinterface 0 0, .aload 0, .new 10, .dup, .invokespecial 1, .putfield 1100, .aload 0, .new 3, .dup, .invokespecial 10, .putfield 1102, .aload 0, .new 6,
  .dup, .aload 0, .getfield 1100, .invokespecial 12, .putfield 1101, .aload 0, .new 9, .dup, .invokespecial 13, .putfield 1103, .aload 0, .iconst 2, .anewarray 0, .putfield 1104,
  .iconst 0, .istore 1, .nop, .iload 1, .iconst 2, .if_icmp .ge 43, .aload 0, .getfield 1104, .iload 1, .new 9, .dup, .invokespecial 13, .aastore, .iinc 1 1,
  .goto 30, .aload 0, .new 5, .dup, .aload 0, .getfield 1102, .aload 0, .getfield 1103, .invokespecial 14, .putfield 1105, .aload 0, .new 0, .dup, .aload 0,
  .getfield 1102, .aload 0, .getfield 1103, .aload 0, .getfield 1105, .invokespecial 15, .putfield 1106, .aload 0, .new 2, .dup, .aload 0, .getfield 1102, .aload 0, .getfield 1103,
  .aload 0, .getfield 1105, .invokespecial 16, .putfield 1107, .aload 0, .new 8, .dup, .aload 0, .getfield 1102, .aload 0, .getfield 1103, .invokespecial 17, .putfield 1108, .aload 0,
  .new 7, .dup, .aload 0, .getfield 1102, .aload 0, .getfield 1103, .invokespecial 18, .putfield 1109, .aload 0, .new 1, .dup, .aload 0, .getfield 1102, .aload 0,
  .getfield 1103, .aload 0, .getfield 1105, .invokespecial 19, .putfield 1110, .aload 0, .iconst 0, .putfield 1111, .return_]
def p_0 : List Nat := [0, 1, 4, 5, 8, 9, 12, 15, 16, 19, 20, 23, 26, 27, 30, 31, 32, 35, 38, 41, 42, 45, 46, 49, 52, 53, 54, 57, 60, 61,
  62, 62, 63, 64, 67, 68, 71, 72, 75, 76, 79, 80, 83, 86, 87, 90, 91, 92, 95, 96, 99, 102, 105, 106, 109, 110, 111, 114, 115, 118,
  119, 122, 125, 128, 129, 132, 133, 134, 137, 138, 141, 142, 145, 148, 151, 152, 155, 156, 157, 160, 161, 164, 167, 170, 171, 174, 175, 176, 179, 180,
  183, 186, 189, 190, 193, 194, 195, 198, 199, 202, 203, 206, 209, 212, 213, 214, 217]
/-- WakeHouse$Tape.<init>()V -/
def c_1 : List aI := [.aload 0, .invokeinterface 0 0, .aload 0, .iconst 2000, .newarray .byte, .putfield 1000, .aload 0, .iconst 18, .newarray .long, .putfield 1001, .aload 0, .iconst 402, .newarray .int, .putfield 1002,
  .aload 0, .iconst 402, .newarray .int, .putfield 1003, .aload 0, .iconst 402, .newarray .long, .putfield 1004, .iconst 0, .istore 1, .bipush 0, .lstore 2, .iconst 0, .istore 4,
  .nop, .iload 4, .getstatic 4, .invokevirtual 2, .if_icmp .ge 58, .iload 1, .iconst 18, .if_icmp .ge 58, .getstatic 4, .iload 4, .invokevirtual 4, .iconst 32, .if_icmp .ne 50, .aload 0,
  .getfield 1001, .iload 1, .lload 2, .lastore, .iinc 1 1, .bipush 0, .lstore 2, .goto 56, .lload 2, .getstatic 4, .iload 4, .invokevirtual 4, .invokestatic 9, .lstore 2,
  .iinc 4 1, .goto 28, .return_]
def p_1 : List Nat := [0, 1, 4, 5, 8, 10, 13, 14, 16, 18, 21, 22, 25, 27, 30, 31, 34, 36, 39, 40, 43, 45, 48, 49, 50, 51, 52, 53, 55, 55,
  57, 59, 62, 65, 66, 68, 71, 73, 75, 78, 80, 83, 84, 87, 88, 89, 90, 93, 94, 95, 98, 99, 101, 103, 106, 109, 110, 113, 116]
/-- java/lang/String.length()I -/
def c_2 : List aI := [.aload 0, .getfield 2000, .arraylength, .aload 0, .invokevirtual 3, .ishr, .ireturn]
def p_2 : List Nat := [0, 1, 4, 5, 6, 9, 10]
/-- java/lang/String.coder()B -/
def c_3 : List aI := [.iconst 1, .ifCond .eq 5, .aload 0, .getfield 2001, .goto 6, .iconst 1, .freturn]
def p_3 : List Nat := [0, 3, 6, 7, 10, 13, 14]
/-- java/lang/String.charAt(I)C -/
def c_4 : List aI := [.aload 0, .invokevirtual 5, .ifCond .eq 8, .aload 0, .getfield 2000, .iload 1, .invokestatic 6, .dreturn, .aload 0, .getfield 2000, .iload 1, .athrow, .dreturn]
def p_4 : List Nat := [0, 1, 4, 7, 8, 11, 12, 15, 16, 17, 20, 21, 24]
/-- java/lang/String.isLatin1()Z -/
def c_5 : List aI := [.iconst 1, .ifCond .eq 7, .aload 0, .getfield 2001, .ifCond .ne 7, .iconst 1, .goto 8, .iconst 0, .freturn]
def p_5 : List Nat := [0, 3, 6, 7, 10, 13, 14, 17, 18]
/-- java/lang/StringLatin1.charAt([BI)C -/
def c_6 : List aI := [.iload 1, .aload 0, .arraylength, .invokestatic 7, .aload 0, .iload 1, .baload, .iconst 255, .iand, .i2c, .dreturn]
def p_6 : List Nat := [0, 1, 2, 3, 6, 7, 8, 9, 12, 13, 14]
/-- java/lang/String.checkIndex(II)V -/
def c_7 : List aI := [.iload 0, .iload 1, .getstatic 8, .invokestatic 8, .pop, .return_]
def p_7 : List Nat := [0, 1, 2, 5, 8, 9]
/-- jdk/internal/util/Preconditions.checkIndex(IILjava/util/function/BiFunction;)I -/
def c_8 : List aI := [.iload 0, .ifCond .lt 5, .iload 0, .iload 1, .if_icmp .lt 10, .aload 2, .iload 0, .iload 1, .athrow, .athrow, .iload 0, .ireturn]
def p_8 : List Nat := [0, 1, 4, 5, 6, 9, 10, 11, 12, 15, 16, 17]
/-- WakeHouse$Tape.spelled(JI)J -/
def c_9 : List aI := [.lload 0, .bipush 27, .dmul, .iload 2, .iconst 97, .fsub, .iconst 1, .fadd, .i2l, .dadd, .lreturn]
def p_9 : List Nat := [0, 1, 4, 5, 6, 8, 9, 10, 11, 12, 13]
/-- WakeHouse$House.<init>()V -/
def c_10 : List aI := [.aload 0, .invokeinterface 0 0, .aload 0, .iconst 12, .newarray .int, .putfield 300, .aload 0, .iconst 12, .newarray .int, .putfield 301, .aload 0, .iconst 9, .newarray .int, .putfield 302,
  .aload 0, .iconst 9, .newarray .int, .putfield 303, .aload 0, .iconst 12, .newarray .int, .putfield 304, .aload 0, .iconst 12, .newarray .int, .putfield 305, .aload 0, .iconst 12,
  .newarray .int, .putfield 306, .aload 0, .iconst 12, .newarray .int, .putfield 307, .aload 0, .iconst 12, .newarray .int, .putfield 308, .aload 0, .iconst 12, .newarray .int, .putfield 309,
  .aload 0, .iconst 8, .newarray .int, .putfield 310, .aload 0, .iconst 7, .newarray .int, .putfield 311, .aload 0, .new 4, .dup, .invokespecial 11, .putfield 312, .aload 0,
  .new 4, .dup, .invokespecial 11, .putfield 313, .return_]
def p_10 : List Nat := [0, 1, 4, 5, 7, 9, 12, 13, 15, 17, 20, 21, 23, 25, 28, 29, 31, 33, 36, 37, 39, 41, 44, 45, 47, 49, 52, 53, 55, 57,
  60, 61, 63, 65, 68, 69, 71, 73, 76, 77, 79, 81, 84, 85, 87, 89, 92, 93, 95, 97, 100, 101, 104, 105, 108, 111, 112, 115, 116, 119,
  122]
/-- WakeHouse$Law.<init>()V -/
def c_11 : List aI := [.aload 0, .invokeinterface 0 0, .aload 0, .iconst 400, .newarray .int, .putfield 400, .aload 0, .iconst 400, .newarray .int, .putfield 401, .return_]
def p_11 : List Nat := [0, 1, 4, 5, 8, 10, 13, 14, 17, 19, 22]
/-- WakeHouse$Reader.<init>(LWakeHouse$Tape;)V -/
def c_12 : List aI := [.aload 0, .invokeinterface 0 0, .aload 0, .new 3, .dup, .invokespecial 10, .putfield 601, .aload 0, .iconst 33, .newarray .long, .putfield 602, .aload 0, .iconst 33, .newarray .int,
  .putfield 603, .aload 0, .iconst 400, .newarray .int, .putfield 606, .aload 0, .iconst (-1), .putfield 612, .aload 0, .aload 1, .putfield 600, .return_]
def p_12 : List Nat := [0, 1, 4, 5, 8, 9, 12, 15, 16, 18, 20, 23, 24, 26, 28, 31, 32, 35, 37, 40, 41, 42, 45, 46, 47, 50]
/-- WakeHouse$State.<init>()V -/
def c_13 : List aI := [.aload 0, .invokeinterface 0 0, .aload 0, .iconst 8, .newarray .int, .putfield 900, .aload 0, .iconst 8, .newarray .int, .putfield 901, .aload 0, .iconst 8, .newarray .int, .putfield 902,
  .aload 0, .iconst 8, .newarray .int, .putfield 903, .aload 0, .iconst 12, .newarray .int, .putfield 904, .aload 0, .iconst 12, .newarray .int, .putfield 905, .aload 0, .iconst 60,
  .newarray .int, .putfield 906, .aload 0, .iconst 60, .newarray .int, .putfield 907, .aload 0, .iconst 60, .newarray .int, .putfield 908, .aload 0, .iconst 4, .newarray .int, .putfield 909,
  .return_]
def p_13 : List Nat := [0, 1, 4, 5, 7, 9, 12, 13, 15, 17, 20, 21, 23, 25, 28, 29, 31, 33, 36, 37, 39, 41, 44, 45, 47, 49, 52, 53, 55, 57,
  60, 61, 63, 65, 68, 69, 71, 73, 76, 77, 78, 80, 83]
/-- WakeHouse$Night.<init>(LWakeHouse$House;LWakeHouse$State;)V -/
def c_14 : List aI := [.aload 0, .invokeinterface 0 0, .aload 0, .iconst 8, .newarray .int, .putfield 502, .aload 0, .iconst 8, .newarray .int, .putfield 503, .aload 0, .iconst 8, .newarray .int, .putfield 504,
  .aload 0, .iconst 4000, .newarray .byte, .putfield 505, .aload 0, .iconst 7, .newarray .int, .putfield 506, .aload 0, .iconst 3, .newarray .int, .putfield 507, .aload 0, .iconst 3,
  .newarray .int, .putfield 508, .aload 0, .iconst 31, .newarray .int, .putfield 509, .aload 0, .iconst 12, .newarray .long, .putfield 510, .aload 0, .aload 1, .putfield 500, .aload 0,
  .aload 2, .putfield 501, .return_]
def p_14 : List Nat := [0, 1, 4, 5, 7, 9, 12, 13, 15, 17, 20, 21, 23, 25, 28, 29, 32, 34, 37, 38, 40, 42, 45, 46, 47, 49, 52, 53, 54, 56,
  59, 60, 62, 64, 67, 68, 70, 72, 75, 76, 77, 80, 81, 82, 85]
/-- WakeHouse$BestTwo.<init>(LWakeHouse$House;LWakeHouse$State;LWakeHouse$Night;)V -/
def c_15 : List aI := [.aload 0, .invokeinterface 0 0, .aload 0, .iconst 1728, .newarray .int, .putfield 3, .aload 0, .iconst 1728, .newarray .int, .putfield 4, .aload 0, .iconst 96, .newarray .int, .putfield 5,
  .aload 0, .iconst 12, .newarray .long, .putfield 6, .aload 0, .iconst 12, .newarray .long, .putfield 7, .aload 0, .iconst 12, .newarray .long, .putfield 8, .aload 0, .iconst 12,
  .newarray .long, .putfield 9, .aload 0, .iconst (-1), .putfield 16, .aload 0, .aload 1, .putfield 0, .aload 0, .aload 2, .putfield 1, .aload 0, .aload 3, .putfield 2,
  .return_]
def p_15 : List Nat := [0, 1, 4, 5, 8, 10, 13, 14, 17, 19, 22, 23, 25, 27, 30, 31, 33, 35, 38, 39, 41, 43, 46, 47, 49, 51, 54, 55, 57, 59,
  62, 63, 64, 67, 68, 69, 72, 73, 74, 77, 78, 79, 82]
/-- WakeHouse$Cover.<init>(LWakeHouse$House;LWakeHouse$State;LWakeHouse$Night;)V -/
def c_16 : List aI := [.aload 0, .invokeinterface 0 0, .aload 0, .iconst 144, .newarray .int, .putfield 203, .aload 0, .iconst 4096, .newarray .int, .putfield 204, .aload 0, .aload 1, .putfield 200, .aload 0,
  .aload 2, .putfield 201, .aload 0, .aload 3, .putfield 202, .return_]
def p_16 : List Nat := [0, 1, 4, 5, 8, 10, 13, 14, 17, 19, 22, 23, 24, 27, 28, 29, 32, 33, 34, 37]
/-- WakeHouse$Shaking.<init>(LWakeHouse$House;LWakeHouse$State;)V -/
def c_17 : List aI := [.aload 0, .invokeinterface 0 0, .aload 0, .iconst 12, .newarray .int, .putfield 802, .aload 0, .iconst 192, .newarray .long, .putfield 803, .aload 0, .iconst 9, .newarray .long, .putfield 804,
  .aload 0, .iconst 25, .newarray .long, .putfield 805, .aload 0, .iconst 25, .newarray .long, .putfield 806, .aload 0, .iconst 25, .newarray .int, .putfield 807, .aload 0, .iconst 25,
  .newarray .int, .putfield 808, .aload 0, .aload 1, .putfield 800, .aload 0, .aload 2, .putfield 801, .return_]
def p_17 : List Nat := [0, 1, 4, 5, 7, 9, 12, 13, 16, 18, 21, 22, 24, 26, 29, 30, 32, 34, 37, 38, 40, 42, 45, 46, 48, 50, 53, 54, 56, 58,
  61, 62, 63, 66, 67, 68, 71]
/-- WakeHouse$Round.<init>(LWakeHouse$House;LWakeHouse$State;)V -/
def c_18 : List aI := [.aload 0, .invokeinterface 0 0, .aload 0, .iconst 8, .newarray .int, .putfield 702, .aload 0, .iconst 8, .newarray .int, .putfield 703, .aload 0, .iconst 2048, .newarray .int, .putfield 704,
  .aload 0, .iconst 2048, .newarray .int, .putfield 705, .aload 0, .aload 1, .putfield 700, .aload 0, .aload 2, .putfield 701, .return_]
def p_18 : List Nat := [0, 1, 4, 5, 7, 9, 12, 13, 15, 17, 20, 21, 24, 26, 29, 30, 33, 35, 38, 39, 40, 43, 44, 45, 48]
/-- WakeHouse$Changes.<init>(LWakeHouse$House;LWakeHouse$State;LWakeHouse$Night;)V -/
def c_19 : List aI := [.aload 0, .invokeinterface 0 0, .aload 0, .iconst 144, .newarray .long, .putfield 103, .aload 0, .iconst 12, .newarray .int, .putfield 104, .aload 0, .iconst 2, .newarray .int, .putfield 105,
  .aload 0, .aload 1, .putfield 100, .aload 0, .aload 2, .putfield 101, .aload 0, .aload 3, .putfield 102, .return_]
def p_19 : List Nat := [0, 1, 4, 5, 8, 10, 13, 14, 16, 18, 21, 22, 23, 25, 28, 29, 30, 33, 34, 35, 38, 39, 40, 43]
/-- WakeHouse.feed(IIIII)I -/
def c_20 : List aI := [.aload 0, .getfield 1100, .iconst 20, .invokevirtual 21, .ifCond .ne 7, .iconst (-1), .ireturn, .aload 0, .getfield 1100, .iload 1, .invokevirtual 22, .aload 0, .getfield 1100, .iload 2,
  .invokevirtual 22, .aload 0, .getfield 1100, .iload 3, .invokevirtual 22, .aload 0, .getfield 1100, .iload 4, .invokevirtual 22, .aload 0, .getfield 1100, .iload 5, .invokevirtual 22, .aload 0,
  .getfield 1100, .getfield 1005, .ireturn]
def p_20 : List Nat := [0, 1, 4, 6, 9, 12, 13, 14, 15, 18, 19, 22, 23, 26, 27, 30, 31, 34, 35, 38, 39, 42, 44, 47, 48, 51, 53, 56, 57, 60,
  63]
/-- WakeHouse$Tape.hasRoom(I)Z -/
def c_21 : List aI := [.aload 0, .getfield 1005, .iload 1, .fadd, .iconst 2000, .if_icmp .gt 8, .iconst 1, .goto 9, .iconst 0, .freturn]
def p_21 : List Nat := [0, 1, 4, 5, 6, 9, 12, 13, 16, 17]
/-- WakeHouse$Tape.putFour(I)V -/
def c_22 : List aI := [.iconst 24, .istore 2, .nop, .iload 2, .ifCond .lt 26, .aload 0, .getfield 1005, .iconst 2000, .if_icmp .ge 26, .aload 0, .getfield 1000, .aload 0, .getfield 1005, .iload 1,
  .iload 2, .ishr, .i2b, .bastore, .aload 0, .dup, .getfield 1005, .iconst 1, .fadd, .putfield 1005, .iinc 2 (-8), .goto 2, .return_]
def p_22 : List Nat := [0, 2, 3, 3, 4, 7, 8, 11, 14, 17, 18, 21, 22, 25, 26, 27, 28, 29, 30, 31, 32, 35, 36, 37, 40, 43, 46]
/-- WakeHouse.back(I)I -/
def c_23 : List aI := [.iload 1, .ifCond .lt 7, .iload 1, .aload 0, .getfield 1100, .getfield 1005, .if_icmp .le 9, .iconst (-1), .ireturn, .aload 0, .getfield 1100, .dup, .getfield 1005, .iload 1,
  .fsub, .putfield 1005, .aload 0, .getfield 1100, .getfield 1005, .ireturn]
def p_23 : List Nat := [0, 1, 4, 5, 6, 9, 12, 15, 16, 17, 18, 21, 22, 25, 26, 27, 30, 31, 34, 37]
/-- WakeHouse.read()I -/
def c_24 : List aI := [.aload 0, .getfield 1101, .invokevirtual 25, .istore 1, .iload 1, .ifCond .ne 40, .aload 0, .getfield 1102, .aload 0, .getfield 1101, .getfield 601, .invokevirtual 65, .aload 0, .getfield 1103,
  .aload 0, .getfield 1102, .invokevirtual 70, .aload 0, .getfield 1105, .invokevirtual 72, .iconst 0, .istore 2, .nop, .iload 2, .iconst 2, .if_icmp .ge 34, .aload 0, .getfield 1104,
  .iload 2, .aaload, .iconst 0, .putfield 913, .iinc 2 1, .goto 22, .aload 0, .dup, .getfield 1111, .iconst 1, .fadd, .putfield 1111, .iload 1, .ireturn]
def p_24 : List Nat := [0, 1, 4, 7, 8, 9, 12, 13, 16, 17, 20, 23, 26, 27, 30, 31, 34, 37, 38, 41, 44, 45, 46, 46, 47, 48, 51, 52, 55, 56,
  57, 58, 61, 64, 67, 68, 69, 72, 73, 74, 77, 78]
/-- WakeHouse$Reader.readText()I -/
def c_25 : List aI := [.aload 0, .getfield 600, .invokevirtual 26, .aload 0, .getfield 601, .invokevirtual 40, .aload 0, .iconst 0, .putfield 604, .aload 0, .iconst 0, .putfield 605, .aload 0, .iconst 0,
  .putfield 609, .aload 0, .iconst 0, .putfield 611, .aload 0, .iconst (-1), .putfield 612, .aload 0, .iconst 0, .putfield 613, .aload 0, .iconst (-1), .putfield 614, .iconst 1,
  .istore 1, .iconst 0, .istore 2, .nop, .iload 2, .iconst 400, .if_icmp .gt 46, .iload 1, .ifCond .eq 46, .aload 0, .invokevirtual 43, .iconst 31, .if_icmp .eq 46, .aload 0,
  .invokevirtual 44, .istore 1, .iinc 2 1, .goto 31, .iload 1, .ifCond .eq 59, .aload 0, .getfield 613, .ifCond .eq 59, .aload 0, .aload 0, .getfield 613, .putfield 611, .aload 0,
  .aload 0, .getfield 614, .putfield 612, .aload 0, .getfield 600, .iconst 0, .putfield 1005, .aload 0, .getfield 611, .ireturn]
def p_25 : List Nat := [0, 1, 4, 7, 8, 11, 14, 15, 16, 19, 20, 21, 24, 25, 26, 29, 30, 31, 34, 35, 36, 39, 40, 41, 44, 45, 46, 49, 50, 51,
  52, 53, 53, 54, 57, 60, 61, 64, 65, 68, 70, 73, 74, 77, 78, 81, 84, 85, 88, 89, 92, 95, 96, 97, 100, 103, 104, 105, 108, 111,
  112, 115, 116, 119, 120, 123]
/-- WakeHouse$Tape.split()V -/
def c_26 : List aI := [.aload 0, .iconst 0, .putfield 1007, .aload 0, .iconst 0, .putfield 1006, .iconst 1, .istore 1, .iconst 0, .istore 2, .nop, .iload 2, .iconst 400, .if_icmp .gt 21,
  .iload 1, .ifCond .eq 21, .aload 0, .invokevirtual 27, .istore 1, .iinc 2 1, .goto 10, .iload 1, .ifCond .eq 29, .aload 0, .iconst 31, .aload 0, .getfield 1005, .bipush 0,
  .invokevirtual 29, .return_]
def p_26 : List Nat := [0, 1, 2, 5, 6, 7, 10, 11, 12, 13, 14, 14, 15, 18, 21, 22, 25, 26, 29, 30, 33, 36, 37, 40, 41, 43, 44, 47, 48, 51]
/-- WakeHouse$Tape.scan()Z -/
def c_27 : List aI := [.nop, .aload 0, .getfield 1006, .aload 0, .getfield 1005, .if_icmp .ge 20, .aload 0, .getfield 1000, .aload 0, .getfield 1006, .baload, .invokestatic 28, .ifCond .eq 20, .aload 0,
  .dup, .getfield 1006, .iconst 1, .fadd, .putfield 1006, .goto 0, .aload 0, .getfield 1006, .aload 0, .getfield 1005, .if_icmp .lt 33, .aload 0, .iconst 31, .aload 0,
  .getfield 1005, .bipush 0, .invokevirtual 29, .iconst 0, .freturn, .aload 0, .getfield 1000, .aload 0, .getfield 1006, .baload, .istore 1, .iload 1, .invokestatic 30, .ifCond .eq 45,
  .aload 0, .invokevirtual 31, .freturn, .iload 1, .invokestatic 32, .ifCond .eq 51, .aload 0, .invokevirtual 33, .goto 54, .aload 0, .iload 1, .invokevirtual 34, .freturn]
def p_27 : List Nat := [0, 0, 1, 4, 5, 8, 11, 12, 15, 16, 19, 20, 23, 26, 27, 28, 31, 32, 33, 36, 39, 40, 43, 44, 47, 50, 51, 53, 54, 57,
  58, 61, 62, 63, 64, 67, 68, 71, 72, 73, 74, 77, 80, 81, 84, 85, 86, 89, 92, 93, 96, 99, 100, 101, 104]
/-- WakeHouse$Tape.isBlank(I)Z -/
def c_28 : List aI := [.iload 0, .iconst 9, .if_icmp .eq 12, .iload 0, .iconst 10, .if_icmp .eq 12, .iload 0, .iconst 13, .if_icmp .eq 12, .iload 0, .iconst 32, .if_icmp .ne 14, .iconst 1, .goto 15,
  .iconst 0, .freturn]
def p_28 : List Nat := [0, 1, 3, 6, 7, 9, 12, 13, 15, 18, 19, 21, 24, 25, 28, 29]
/-- WakeHouse$Tape.put(IIJ)V -/
def c_29 : List aI := [.aload 0, .getfield 1007, .aload 0, .getfield 1002, .arraylength, .if_icmp .ge 30, .aload 0, .getfield 1002, .aload 0, .getfield 1007, .iload 1, .iastore, .aload 0, .getfield 1003,
  .aload 0, .getfield 1007, .iload 2, .iastore, .aload 0, .getfield 1004, .aload 0, .getfield 1007, .lload 3, .lastore, .aload 0, .dup, .getfield 1007, .iconst 1,
  .fadd, .putfield 1007, .return_]
def p_29 : List Nat := [0, 1, 4, 5, 8, 9, 12, 13, 16, 17, 20, 21, 22, 23, 26, 27, 30, 31, 32, 33, 36, 37, 40, 41, 42, 43, 44, 47, 48, 49,
  52]
/-- WakeHouse$Tape.isLetter(I)Z -/
def c_30 : List aI := [.iload 0, .iconst 97, .if_icmp .lt 8, .iload 0, .iconst 122, .if_icmp .gt 8, .iconst 1, .goto 9, .iconst 0, .freturn]
def p_30 : List Nat := [0, 1, 3, 6, 7, 9, 12, 13, 16, 17]
/-- WakeHouse$Tape.scanLetters()Z -/
def c_31 : List aI := [.aload 0, .getfield 1006, .istore 1, .bipush 0, .lstore 2, .nop, .aload 0, .getfield 1006, .aload 0, .getfield 1005, .if_icmp .ge 41, .aload 0, .getfield 1000, .aload 0,
  .getfield 1006, .baload, .invokestatic 30, .ifCond .eq 41, .aload 0, .getfield 1006, .iload 1, .fsub, .iconst 8, .if_icmp .ge 32, .lload 2, .aload 0, .getfield 1000, .aload 0,
  .getfield 1006, .baload, .invokestatic 9, .goto 33, .lload 2, .lstore 2, .aload 0, .dup, .getfield 1006, .iconst 1, .fadd, .putfield 1006, .goto 5, .aload 0,
  .getfield 1006, .iload 1, .fsub, .iconst 8, .if_icmp .le 54, .aload 0, .iconst 32, .iload 1, .bipush 0, .invokevirtual 29, .iconst 0, .freturn, .iconst 18, .istore 4,
  .iconst 0, .istore 5, .nop, .iload 5, .iconst 18, .if_icmp .ge 78, .iload 4, .iconst 18, .if_icmp .ne 78, .aload 0, .getfield 1001, .iload 5, .laload, .lload 2,
  .lcmp, .ifCond .ne 74, .iload 5, .goto 75, .iconst 18, .istore 4, .iinc 5 1, .goto 58, .aload 0, .iload 4, .iload 1, .lload 2, .invokevirtual 29, .iconst 1,
  .freturn]
def p_31 : List Nat := [0, 1, 4, 5, 6, 7, 7, 8, 11, 12, 15, 18, 19, 22, 23, 26, 27, 30, 33, 34, 37, 38, 39, 41, 44, 45, 46, 49, 50, 53,
  54, 57, 60, 61, 62, 63, 64, 67, 68, 69, 72, 75, 76, 79, 80, 81, 83, 86, 87, 89, 90, 91, 94, 95, 96, 98, 100, 101, 103, 103,
  105, 107, 110, 112, 114, 117, 118, 121, 123, 124, 125, 126, 129, 131, 134, 136, 138, 141, 144, 145, 147, 148, 149, 152, 153]
/-- WakeHouse$Tape.isDigit(I)Z -/
def c_32 : List aI := [.iload 0, .iconst 48, .if_icmp .lt 8, .iload 0, .iconst 57, .if_icmp .gt 8, .iconst 1, .goto 9, .iconst 0, .freturn]
def p_32 : List Nat := [0, 1, 3, 6, 7, 9, 12, 13, 16, 17]
/-- WakeHouse$Tape.scanDigits()Z -/
def c_33 : List aI := [.aload 0, .getfield 1006, .istore 1, .iconst 0, .istore 2, .nop, .aload 0, .getfield 1006, .aload 0, .getfield 1005, .if_icmp .ge 46, .aload 0, .getfield 1000, .aload 0,
  .getfield 1006, .baload, .invokestatic 32, .ifCond .eq 46, .aload 0, .getfield 1006, .iload 1, .fsub, .iconst 4, .if_icmp .ge 36, .iload 2, .iconst 10, .fmul, .aload 0,
  .getfield 1000, .aload 0, .getfield 1006, .baload, .iconst 48, .fsub, .fadd, .goto 37, .iload 2, .istore 2, .nop, .aload 0, .dup, .getfield 1006,
  .iconst 1, .fadd, .putfield 1006, .goto 5, .nop, .aload 0, .getfield 1006, .iload 1, .fsub, .iconst 4, .if_icmp .gt 55, .iconst 1, .goto 56, .iconst 0,
  .istore 3, .nop, .aload 0, .iload 3, .ifCond .eq 63, .iconst 19, .goto 64, .iconst 32, .iload 1, .iload 2, .i2l, .invokevirtual 29, .nop, .iload 3,
  .freturn]
def p_33 : List Nat := [0, 1, 4, 5, 6, 7, 7, 8, 11, 12, 15, 18, 19, 22, 23, 26, 27, 30, 33, 34, 37, 38, 39, 40, 43, 44, 46, 47, 48, 51,
  52, 55, 56, 58, 59, 60, 63, 64, 65, 65, 66, 67, 70, 71, 72, 75, 78, 78, 79, 82, 83, 84, 85, 88, 89, 92, 93, 94, 94, 95,
  96, 99, 101, 104, 106, 107, 108, 109, 112, 112, 113]
/-- WakeHouse$Tape.scanSign(I)Z -/
def c_34 : List aI := [.aload 0, .getfield 1006, .istore 2, .iconst 32, .istore 3, .iload 1, .iconst 61, .if_icmp .ne 28, .iload 2, .iconst 1, .fadd, .aload 0, .getfield 1005, .if_icmp .ge 24,
  .aload 0, .getfield 1000, .iload 2, .iconst 1, .fadd, .baload, .iconst 61, .if_icmp .ne 24, .iconst 30, .goto 26, .nop, .iconst 32, .istore 3, .goto 43,
  .iload 1, .ifCond .le 43, .getstatic 6, .iload 1, .i2c, .invokevirtual 35, .istore 4, .iload 4, .ifCond .lt 41, .iconst 20, .iload 4, .fadd, .goto 42, .iconst 32,
  .istore 3, .nop, .aload 0, .iload 3, .iload 2, .bipush 0, .invokevirtual 29, .aload 0, .dup, .getfield 1006, .iload 3, .iconst 30, .if_icmp .ne 57, .iconst 2,
  .goto 58, .iconst 1, .fadd, .putfield 1006, .nop, .iload 3, .iconst 32, .if_icmp .eq 66, .iconst 1, .goto 67, .iconst 0, .freturn]
def p_34 : List Nat := [0, 1, 4, 5, 7, 8, 9, 11, 14, 15, 16, 17, 18, 21, 24, 25, 28, 29, 30, 31, 32, 34, 37, 39, 42, 42, 44, 45, 48, 49,
  52, 54, 55, 56, 59, 61, 63, 66, 68, 70, 71, 74, 76, 77, 77, 78, 79, 80, 81, 84, 85, 86, 89, 90, 92, 95, 96, 99, 100, 101,
  104, 104, 105, 107, 110, 111, 114, 115]
/-- java/lang/String.indexOf(I)I -/
def c_35 : List aI := [.aload 0, .iload 1, .iconst 0, .invokevirtual 36, .ireturn]
def p_35 : List Nat := [0, 1, 2, 3, 6]
/-- java/lang/String.indexOf(II)I -/
def c_36 : List aI := [.aload 0, .invokevirtual 5, .ifCond .eq 11, .aload 0, .getfield 2000, .iload 1, .iload 2, .aload 0, .invokevirtual 2, .invokestatic 37, .goto 18, .aload 0, .getfield 2000, .iload 1,
  .iload 2, .aload 0, .invokevirtual 2, .athrow, .ireturn]
def p_36 : List Nat := [0, 1, 4, 7, 8, 11, 12, 13, 14, 17, 20, 23, 24, 27, 28, 29, 30, 33, 36]
/-- java/lang/StringLatin1.indexOf([BIII)I -/
def c_37 : List aI := [.iload 1, .invokestatic 38, .ifCond .ne 5, .iconst (-1), .ireturn, .iload 2, .iconst 0, .invokeinterface 2 0, .istore 2, .iload 3, .aload 0, .arraylength, .invokeinterface 3 0, .istore 3,
  .iload 2, .iload 3, .if_icmp .lt 19, .iconst (-1), .ireturn, .aload 0, .iload 1, .iload 2, .iload 3, .invokestatic 39, .ireturn]
def p_37 : List Nat := [0, 1, 4, 7, 8, 9, 10, 11, 14, 15, 16, 17, 18, 21, 22, 23, 24, 27, 28, 29, 30, 31, 32, 33, 36]
/-- java/lang/StringLatin1.canEncode(I)Z -/
def c_38 : List aI := [.iload 0, .ifCond .lt 7, .iload 0, .iconst 255, .if_icmp .gt 7, .iconst 1, .goto 8, .iconst 0, .freturn]
def p_38 : List Nat := [0, 1, 4, 5, 8, 11, 12, 15, 16]
/-- java/lang/StringLatin1.indexOfChar([BIII)I -/
def c_39 : List aI := [.iload 1, .i2b, .istore 4, .iload 2, .istore 5, .nop, .iload 5, .iload 3, .if_icmp .ge 18, .aload 0, .iload 5, .baload, .iload 4, .if_icmp .ne 16,
  .iload 5, .ireturn, .iinc 5 1, .goto 5, .iconst (-1), .ireturn]
def p_39 : List Nat := [0, 1, 2, 4, 5, 7, 7, 9, 10, 13, 14, 16, 17, 19, 22, 24, 25, 28, 31, 32]
/-- WakeHouse$House.clear()V -/
def c_40 : List aI := [.aload 0, .iconst 0, .putfield 314, .aload 0, .iconst 0, .putfield 315, .aload 0, .iconst 0, .putfield 316, .aload 0, .iconst 0, .putfield 317, .aload 0, .iconst 0,
  .putfield 318, .aload 0, .invokevirtual 41, .aload 0, .getfield 313, .iconst 0, .putfield 402, .aload 0, .getfield 313, .iconst 0, .invokevirtual 42, .return_]
def p_40 : List Nat := [0, 1, 2, 5, 6, 7, 10, 11, 12, 15, 16, 17, 20, 21, 22, 25, 26, 29, 30, 33, 34, 37, 38, 41, 42, 45]
/-- WakeHouse$House.putUsualHearing()V -/
def c_41 : List aI := [.aload 0, .getfield 312, .iconst 0, .putfield 402, .aload 0, .getfield 312, .iconst (-1), .invokevirtual 42, .aload 0, .getfield 312, .iconst (-2), .invokevirtual 42, .aload 0, .getfield 312,
  .iconst (-22), .invokevirtual 42, .aload 0, .getfield 312, .iconst (-3), .invokevirtual 42, .aload 0, .getfield 312, .iconst 3, .invokevirtual 42, .aload 0, .getfield 312, .iconst (-23), .invokevirtual 42,
  .aload 0, .getfield 312, .iconst (-22), .invokevirtual 42, .aload 0, .getfield 312, .iconst (-6), .invokevirtual 42, .aload 0, .getfield 312, .iconst 4, .invokevirtual 42, .aload 0, .getfield 312,
  .iconst (-23), .invokevirtual 42, .aload 0, .getfield 312, .iconst (-22), .invokevirtual 42, .return_]
def p_41 : List Nat := [0, 1, 4, 5, 8, 9, 12, 13, 16, 17, 20, 22, 25, 26, 29, 31, 34, 35, 38, 40, 43, 44, 47, 48, 51, 52, 55, 57, 60, 61,
  64, 66, 69, 70, 73, 75, 78, 79, 82, 83, 86, 87, 90, 92, 95, 96, 99, 101, 104]
/-- WakeHouse$Law.put(I)V -/
def c_42 : List aI := [.aload 0, .getfield 402, .iconst 400, .if_icmp .ge 16, .aload 0, .getfield 400, .aload 0, .getfield 402, .iload 1, .iastore, .aload 0, .dup, .getfield 402, .iconst 1,
  .fadd, .putfield 402, .return_]
def p_42 : List Nat := [0, 1, 4, 7, 10, 11, 14, 15, 18, 19, 20, 21, 22, 25, 26, 27, 30]
/-- WakeHouse$Reader.kind()I -/
def c_43 : List aI := [.aload 0, .getfield 600, .getfield 1002, .aload 0, .getfield 609, .iaload, .ireturn]
def p_43 : List Nat := [0, 1, 4, 7, 8, 11, 12]
/-- WakeHouse$Reader.tell()Z -/
def c_44 : List aI := [.aload 0, .invokevirtual 43, .tableswitch 24 7 17 #[3, 6, 24, 24, 9, 24, 24, 24, 24, 12, 18], .aload 0, .invokevirtual 45, .freturn, .aload 0, .invokevirtual 53, .freturn, .aload 0, .invokevirtual 54, .freturn, .aload 0, .aload 0,
  .getfield 601, .getfield 312, .invokevirtual 57, .freturn, .aload 0, .aload 0, .getfield 601, .getfield 313, .invokevirtual 57, .freturn, .aload 0, .iconst 1, .invokevirtual 46, .freturn]
def p_44 : List Nat := [0, 1, 4, 64, 65, 68, 69, 70, 73, 74, 75, 78, 79, 80, 81, 84, 87, 90, 91, 92, 93, 96, 99, 102, 103, 104, 105, 108]
/-- WakeHouse$Reader.tellBed()Z -/
def c_45 : List aI := [.aload 0, .getfield 601, .getfield 314, .istore 1, .iload 1, .iconst 12, .if_icmp .lt 11, .aload 0, .iconst 2, .invokevirtual 46, .freturn, .aload 0, .invokevirtual 47, .ifCond .eq 23,
  .aload 0, .iload 1, .invokevirtual 48, .ifCond .eq 23, .aload 0, .iconst 0, .iconst 3, .invokevirtual 51, .ifCond .ne 25, .iconst 0, .freturn, .aload 0, .getfield 601, .getfield 300,
  .iload 1, .aload 0, .getfield 610, .iastore, .aload 0, .iconst 0, .iconst 9, .invokevirtual 51, .ifCond .ne 39, .iconst 0, .freturn, .aload 0, .getfield 601, .getfield 301,
  .iload 1, .aload 0, .getfield 610, .iastore, .aload 0, .getfield 601, .dup, .getfield 314, .iconst 1, .fadd, .putfield 314, .aload 0, .iconst 20, .invokevirtual 52,
  .freturn]
def p_45 : List Nat := [0, 1, 4, 7, 8, 9, 11, 14, 15, 16, 19, 20, 21, 24, 27, 28, 29, 32, 35, 36, 37, 38, 41, 44, 45, 46, 47, 50, 53, 54,
  55, 58, 59, 60, 61, 63, 66, 69, 70, 71, 72, 75, 78, 79, 80, 83, 84, 85, 88, 89, 92, 93, 94, 97, 98, 100, 103]
/-- WakeHouse$Reader.fail(I)Z -/
def c_46 : List aI := [.aload 0, .iload 1, .putfield 611, .aload 0, .aload 0, .getfield 600, .getfield 1003, .aload 0, .getfield 609, .iaload, .putfield 612, .iconst 0, .freturn]
def p_46 : List Nat := [0, 1, 2, 5, 6, 7, 10, 13, 14, 17, 18, 21, 22]
/-- WakeHouse$Reader.goOn()Z -/
def c_47 : List aI := [.aload 0, .getfield 609, .iconst 400, .if_icmp .lt 8, .aload 0, .iconst 2, .invokevirtual 46, .freturn, .aload 0, .dup, .getfield 609, .iconst 1, .fadd, .putfield 609,
  .iconst 1, .freturn]
def p_47 : List Nat := [0, 1, 4, 7, 10, 11, 12, 15, 16, 17, 18, 21, 22, 23, 26, 27]
/-- WakeHouse$Reader.takeNewName(I)Z -/
def c_48 : List aI := [.aload 0, .invokevirtual 43, .iconst 18, .if_icmp .eq 8, .aload 0, .iconst 1, .invokevirtual 46, .freturn, .aload 0, .getfield 600, .getfield 1004, .aload 0, .getfield 609, .laload,
  .lstore 2, .aload 0, .lload 2, .invokevirtual 49, .iconst (-1), .if_icmp .eq 24, .aload 0, .iconst 3, .invokevirtual 50, .goto 48, .aload 0, .getfield 604, .aload 0, .getfield 602,
  .arraylength, .if_icmp .ge 48, .aload 0, .getfield 602, .aload 0, .getfield 604, .lload 2, .lastore, .aload 0, .getfield 603, .aload 0, .getfield 604, .iload 1, .iastore,
  .aload 0, .dup, .getfield 604, .iconst 1, .fadd, .putfield 604, .aload 0, .invokevirtual 47, .freturn]
def p_48 : List Nat := [0, 1, 4, 6, 9, 10, 11, 14, 15, 16, 19, 22, 23, 26, 27, 28, 29, 30, 33, 34, 37, 38, 39, 42, 45, 46, 49, 50, 53, 54,
  57, 58, 61, 62, 65, 66, 67, 68, 71, 72, 75, 76, 77, 78, 79, 82, 83, 84, 87, 88, 91]
/-- WakeHouse$Reader.numberOf(J)I -/
def c_49 : List aI := [.iconst 0, .istore 3, .nop, .iload 3, .aload 0, .getfield 604, .if_icmp .ge 18, .aload 0, .getfield 602, .iload 3, .laload, .lload 1, .lcmp, .ifCond .ne 16,
  .iload 3, .ireturn, .iinc 3 1, .goto 2, .iconst (-1), .ireturn]
def p_49 : List Nat := [0, 1, 2, 2, 3, 4, 7, 10, 11, 14, 15, 16, 17, 18, 21, 22, 23, 26, 29, 30]
/-- WakeHouse$Reader.doubt(I)V -/
def c_50 : List aI := [.aload 0, .getfield 613, .ifCond .ne 14, .aload 0, .iload 1, .putfield 613, .aload 0, .aload 0, .getfield 600, .getfield 1003, .aload 0, .getfield 609, .iaload, .putfield 614,
  .return_]
def p_50 : List Nat := [0, 1, 4, 7, 8, 9, 12, 13, 14, 17, 20, 21, 24, 25, 28]
/-- WakeHouse$Reader.takeInt(II)Z -/
def c_51 : List aI := [.aload 0, .invokevirtual 43, .iconst 19, .if_icmp .eq 8, .aload 0, .iconst 1, .invokevirtual 46, .freturn, .aload 0, .aload 0, .getfield 600, .getfield 1004, .aload 0, .getfield 609,
  .laload, .l2i, .putfield 610, .aload 0, .getfield 610, .iload 1, .if_icmp .lt 25, .aload 0, .getfield 610, .iload 2, .if_icmp .le 28, .aload 0, .iconst 5, .invokevirtual 50,
  .aload 0, .invokevirtual 47, .freturn]
def p_51 : List Nat := [0, 1, 4, 6, 9, 10, 11, 14, 15, 16, 17, 20, 23, 24, 27, 28, 29, 32, 33, 36, 37, 40, 41, 44, 45, 48, 49, 50, 53, 54,
  57]
/-- WakeHouse$Reader.take(I)Z -/
def c_52 : List aI := [.aload 0, .invokevirtual 43, .iload 1, .if_icmp .ne 7, .aload 0, .invokevirtual 47, .goto 10, .aload 0, .iconst 1, .invokevirtual 46, .freturn]
def p_52 : List Nat := [0, 1, 4, 5, 8, 9, 12, 15, 16, 17, 20]
/-- WakeHouse$Reader.tellClock()Z -/
def c_53 : List aI := [.aload 0, .getfield 601, .getfield 315, .istore 1, .iload 1, .iconst 9, .if_icmp .lt 11, .aload 0, .iconst 2, .invokevirtual 46, .freturn, .aload 0, .invokevirtual 47, .ifCond .eq 23,
  .aload 0, .iconst (-1), .invokevirtual 48, .ifCond .eq 23, .aload 0, .iconst 1, .iconst 12, .invokevirtual 51, .ifCond .ne 26, .nop, .iconst 0, .freturn, .aload 0, .getfield 601,
  .getfield 302, .iload 1, .aload 0, .getfield 610, .iastore, .aload 0, .getfield 601, .getfield 303, .iload 1, .iconst 0, .iastore, .aload 0, .invokevirtual 43, .istore 2,
  .iload 2, .iconst 9, .if_icmp .eq 48, .iload 2, .iconst 10, .if_icmp .ne 74, .nop, .aload 0, .invokevirtual 47, .ifCond .eq 57, .aload 0, .iconst 0, .iconst 30, .invokevirtual 51,
  .ifCond .ne 60, .nop, .iconst 0, .freturn, .aload 0, .getfield 601, .getfield 303, .iload 1, .iload 2, .iconst 9, .if_icmp .ne 71, .aload 0, .getfield 610, .ineg,
  .goto 73, .aload 0, .getfield 610, .iastore, .nop, .aload 0, .getfield 601, .dup, .getfield 315, .iconst 1, .fadd, .putfield 315, .aload 0, .iconst 20,
  .invokevirtual 52, .freturn]
def p_53 : List Nat := [0, 1, 4, 7, 8, 9, 11, 14, 15, 16, 19, 20, 21, 24, 27, 28, 29, 32, 35, 36, 37, 39, 42, 45, 45, 46, 47, 48, 51, 54,
  55, 56, 59, 60, 61, 64, 67, 68, 69, 70, 71, 74, 75, 76, 78, 81, 82, 84, 87, 87, 88, 91, 94, 95, 96, 98, 101, 104, 104, 105,
  106, 107, 110, 113, 114, 115, 117, 120, 121, 124, 125, 128, 129, 132, 133, 133, 134, 137, 138, 141, 142, 143, 146, 147, 149, 152]
/-- WakeHouse$Reader.tellSleeper()Z -/
def c_54 : List aI := [.aload 0, .getfield 601, .getfield 316, .istore 1, .iload 1, .iconst 12, .if_icmp .lt 11, .aload 0, .iconst 2, .invokevirtual 46, .freturn, .aload 0, .invokevirtual 47, .ifCond .eq 25,
  .aload 0, .iconst (-1), .invokevirtual 48, .ifCond .eq 25, .aload 0, .iconst 12, .invokevirtual 52, .ifCond .eq 25, .aload 0, .invokevirtual 55, .ifCond .ne 27, .iconst 0, .freturn, .aload 0,
  .getfield 601, .getfield 304, .iload 1, .aload 0, .getfield 610, .iastore, .aload 0, .iconst 4, .invokevirtual 52, .ifCond .eq 43, .aload 0, .iconst 0, .iconst 9, .invokevirtual 51,
  .ifCond .ne 45, .iconst 0, .freturn, .aload 0, .getfield 601, .getfield 305, .iload 1, .aload 0, .getfield 610, .iastore, .aload 0, .getfield 601, .getfield 306, .iload 1,
  .iconst (-2), .iastore, .aload 0, .getfield 601, .getfield 307, .iload 1, .iconst 0, .iastore, .aload 0, .getfield 601, .getfield 308, .iload 1, .iconst 0, .iastore,
  .aload 0, .iload 1, .invokevirtual 56, .ifCond .ne 76, .iconst 0, .freturn, .aload 0, .getfield 601, .dup, .getfield 316, .iconst 1, .fadd, .putfield 316, .aload 0,
  .iconst 20, .invokevirtual 52, .freturn]
def p_54 : List Nat := [0, 1, 4, 7, 8, 9, 11, 14, 15, 16, 19, 20, 21, 24, 27, 28, 29, 32, 35, 36, 38, 41, 44, 45, 48, 51, 52, 53, 54, 57,
  60, 61, 62, 65, 66, 67, 68, 71, 74, 75, 76, 78, 81, 84, 85, 86, 87, 90, 93, 94, 95, 98, 99, 100, 103, 106, 107, 109, 110, 111,
  114, 117, 118, 119, 120, 121, 124, 127, 128, 129, 130, 131, 132, 135, 138, 139, 140, 141, 144, 145, 148, 149, 150, 153, 154, 156, 159]
/-- WakeHouse$Reader.takeBedName()Z -/
def c_55 : List aI := [.aload 0, .invokevirtual 43, .iconst 18, .if_icmp .eq 8, .aload 0, .iconst 1, .invokevirtual 46, .freturn, .aload 0, .aload 0, .getfield 600, .getfield 1004, .aload 0, .getfield 609,
  .laload, .invokevirtual 49, .istore 1, .aload 0, .iload 1, .iconst (-1), .if_icmp .ne 23, .iconst (-1), .goto 27, .aload 0, .getfield 603, .iload 1, .iaload, .putfield 610,
  .aload 0, .getfield 610, .iconst (-1), .if_icmp .ne 36, .aload 0, .iconst 4, .invokevirtual 50, .goto 58, .aload 0, .getfield 605, .aload 0, .getfield 610, .ishr, .iconst 1,
  .iand, .iconst 1, .if_icmp .ne 49, .aload 0, .iconst 3, .invokevirtual 50, .goto 58, .aload 0, .dup, .getfield 605, .iconst 1, .aload 0, .getfield 610, .ishl,
  .ior, .putfield 605, .aload 0, .invokevirtual 47, .freturn]
def p_55 : List Nat := [0, 1, 4, 6, 9, 10, 11, 14, 15, 16, 17, 20, 23, 24, 27, 28, 31, 32, 33, 34, 35, 38, 39, 42, 43, 46, 47, 48, 51, 52,
  55, 56, 59, 60, 61, 64, 67, 68, 71, 72, 75, 76, 77, 78, 79, 82, 83, 84, 87, 90, 91, 92, 95, 96, 97, 100, 101, 102, 105, 106,
  109]
/-- WakeHouse$Reader.takeDuty(I)Z -/
def c_56 : List aI := [.aload 0, .invokevirtual 43, .iconst 13, .if_icmp .ne 40, .aload 0, .invokevirtual 47, .ifCond .eq 12, .aload 0, .iconst 0, .iconst 399, .invokevirtual 51, .ifCond .ne 14, .iconst 0, .freturn,
  .aload 0, .getfield 601, .getfield 306, .iload 1, .aload 0, .getfield 610, .iastore, .aload 0, .iconst 14, .invokevirtual 52, .ifCond .eq 30, .aload 0, .iconst 0, .iconst 9,
  .invokevirtual 51, .ifCond .ne 32, .iconst 0, .freturn, .aload 0, .getfield 601, .getfield 307, .iload 1, .aload 0, .getfield 610, .iastore, .goto 61, .aload 0, .invokevirtual 43,
  .iconst 15, .if_icmp .ne 61, .aload 0, .invokevirtual 47, .ifCond .eq 52, .aload 0, .iconst 0, .iconst 9, .invokevirtual 51, .ifCond .ne 54, .iconst 0, .freturn, .aload 0, .getfield 601,
  .getfield 308, .iload 1, .aload 0, .getfield 610, .iastore, .iconst 1, .freturn]
def p_56 : List Nat := [0, 1, 4, 6, 9, 10, 13, 16, 17, 18, 21, 24, 27, 28, 29, 30, 33, 36, 37, 38, 41, 42, 43, 45, 48, 51, 52, 53, 55, 58,
  61, 62, 63, 64, 67, 70, 71, 72, 75, 76, 79, 80, 83, 85, 88, 89, 92, 95, 96, 97, 99, 102, 105, 106, 107, 108, 111, 114, 115, 116,
  119, 120, 121]
/-- WakeHouse$Reader.tellLaw(LWakeHouse$Law;)Z -/
def c_57 : List aI := [.aload 1, .iconst 0, .putfield 402, .aload 0, .iconst 0, .putfield 607, .aload 0, .iconst 0, .putfield 608, .iconst 1, .istore 2, .aload 0, .invokevirtual 47, .istore 3,
  .iconst 0, .istore 4, .nop, .iload 4, .iconst 400, .if_icmp .gt 97, .iload 3, .ifCond .eq 97, .aload 0, .invokevirtual 43, .istore 5, .iload 2, .ifCond .eq 51, .iload 5,
  .iconst 26, .if_icmp .eq 33, .iload 5, .iconst 28, .if_icmp .ne 36, .nop, .iconst 1, .goto 37, .iconst 0, .istore 2, .nop, .iload 2, .ifCond .eq 45, .aload 0,
  .iload 5, .invokevirtual 58, .goto 49, .aload 0, .aload 1, .iload 5, .invokevirtual 60, .istore 3, .goto 79, .iload 5, .iconst 21, .if_icmp .lt 57, .iload 5, .iconst 25,
  .if_icmp .le 61, .nop, .iload 5, .iconst 30, .if_icmp .ne 64, .nop, .iconst 1, .goto 65, .iconst 0, .istore 2, .nop, .iload 2, .ifCond .eq 74, .aload 0,
  .aload 1, .iload 5, .invokevirtual 61, .goto 78, .aload 0, .aload 1, .iload 5, .invokevirtual 64, .istore 3, .nop, .iload 3, .ifCond .eq 87, .aload 0, .invokevirtual 47,
  .ifCond .eq 87, .iconst 1, .goto 89, .nop, .iconst 0, .istore 3, .nop, .iload 5, .iconst 20, .if_icmp .ne 95, .goto 97, .iinc 4 1, .goto 16, .nop,
  .iload 3, .freturn]
def p_57 : List Nat := [0, 1, 2, 5, 6, 7, 10, 11, 12, 15, 16, 17, 18, 21, 22, 23, 25, 25, 27, 30, 33, 34, 37, 38, 41, 43, 44, 47, 49, 51,
  54, 56, 58, 61, 61, 62, 65, 66, 67, 67, 68, 71, 72, 74, 77, 80, 81, 82, 84, 87, 88, 91, 93, 95, 98, 100, 102, 105, 105, 107,
  109, 112, 112, 113, 116, 117, 118, 118, 119, 122, 123, 124, 126, 129, 132, 133, 134, 136, 139, 140, 140, 141, 144, 145, 148, 151, 152, 155, 155, 156,
  157, 157, 159, 161, 164, 167, 170, 173, 173, 174]
/-- WakeHouse$Reader.open(I)Z -/
def c_58 : List aI := [.aload 0, .getfield 608, .iconst 6, .if_icmp .lt 8, .aload 0, .iconst 2, .invokevirtual 46, .freturn, .aload 0, .dup, .getfield 608, .iconst 1, .fadd, .putfield 608,
  .aload 0, .iload 1, .invokevirtual 59, .iconst 1, .freturn]
def p_58 : List Nat := [0, 1, 4, 6, 9, 10, 11, 14, 15, 16, 17, 20, 21, 22, 25, 26, 27, 30, 31]
/-- WakeHouse$Reader.pushSign(I)V -/
def c_59 : List aI := [.aload 0, .getfield 607, .aload 0, .getfield 606, .arraylength, .if_icmp .ge 18, .aload 0, .getfield 606, .aload 0, .getfield 607, .iload 1, .iastore, .aload 0, .dup,
  .getfield 607, .iconst 1, .fadd, .putfield 607, .return_]
def p_59 : List Nat := [0, 1, 4, 5, 8, 9, 12, 13, 16, 17, 20, 21, 22, 23, 24, 27, 28, 29, 32]
/-- WakeHouse$Reader.putUnit(LWakeHouse$Law;I)Z -/
def c_60 : List aI := [.iload 2, .iconst 19, .if_icmp .ne 14, .aload 1, .aload 0, .getfield 600, .getfield 1004, .aload 0, .getfield 609, .laload, .l2i, .invokevirtual 42, .iconst 1, .freturn,
  .iload 2, .iconst 6, .if_icmp .le 21, .aload 0, .iconst 1, .invokevirtual 46, .freturn, .aload 1, .iconst (-1), .iload 2, .fsub, .invokevirtual 42, .iconst 1, .freturn]
def p_60 : List Nat := [0, 1, 3, 6, 7, 8, 11, 14, 15, 18, 19, 20, 23, 24, 25, 26, 28, 31, 32, 33, 36, 37, 38, 39, 40, 41, 44, 45]
/-- WakeHouse$Reader.putSign(LWakeHouse$Law;I)Z -/
def c_61 : List aI := [.iload 2, .iconst 23, .if_icmp .eq 6, .iload 2, .iconst 24, .if_icmp .ne 9, .nop, .iconst 1, .goto 10, .iconst 0, .istore 3, .nop, .iload 2, .iconst 25,
  .if_icmp .eq 18, .iload 2, .iconst 30, .if_icmp .ne 21, .nop, .iconst 1, .goto 22, .iconst 0, .istore 4, .nop, .aload 0, .aload 1, .iload 3, .invokevirtual 62,
  .iload 4, .ifCond .eq 38, .aload 0, .iconst 28, .invokevirtual 63, .ifCond .ne 38, .aload 0, .iconst 1, .invokevirtual 46, .freturn, .nop, .aload 0, .iload 2, .invokevirtual 59,
  .iconst 1, .freturn]
def p_61 : List Nat := [0, 1, 3, 6, 7, 9, 12, 12, 13, 16, 17, 18, 18, 19, 21, 24, 25, 27, 30, 30, 31, 34, 35, 37, 37, 38, 39, 40, 43, 45,
  48, 49, 51, 54, 57, 58, 59, 62, 63, 63, 64, 65, 68, 69]
/-- WakeHouse$Reader.putWaiting(LWakeHouse$Law;Z)V -/
def c_62 : List aI := [.iload 2, .ifCond .eq 4, .iconst 23, .goto 5, .iconst 21, .istore 3, .nop, .aload 0, .getfield 607, .ifCond .le 43, .aload 0, .getfield 606, .aload 0, .getfield 607,
  .iconst 1, .fsub, .iaload, .iload 3, .if_icmp .lt 43, .aload 0, .getfield 606, .aload 0, .getfield 607, .iconst 1, .fsub, .iaload, .iconst 24, .if_icmp .gt 43,
  .aload 0, .dup, .getfield 607, .iconst 1, .fsub, .putfield 607, .aload 1, .aload 0, .getfield 606, .aload 0, .getfield 607, .iaload, .ineg, .invokevirtual 42,
  .goto 6, .return_]
def p_62 : List Nat := [0, 1, 4, 6, 9, 11, 12, 12, 13, 16, 19, 20, 23, 24, 27, 28, 29, 30, 31, 34, 35, 38, 39, 42, 43, 44, 45, 47, 50, 51,
  52, 55, 56, 57, 60, 61, 62, 65, 66, 69, 70, 71, 74, 77]
/-- WakeHouse$Reader.closes(I)Z -/
def c_63 : List aI := [.aload 0, .getfield 607, .ifCond .le 14, .aload 0, .getfield 606, .aload 0, .getfield 607, .iconst 1, .fsub, .iaload, .iload 1, .if_icmp .ne 14, .iconst 1, .goto 15,
  .iconst 0, .istore 2, .aload 0, .dup, .getfield 607, .iload 2, .ifCond .eq 23, .iconst 1, .goto 24, .iconst 0, .fsub, .putfield 607, .iload 2, .freturn]
def p_63 : List Nat := [0, 1, 4, 7, 8, 11, 12, 15, 16, 17, 18, 19, 22, 23, 26, 27, 28, 29, 30, 33, 34, 37, 38, 41, 42, 43, 46, 47]
/-- WakeHouse$Reader.close(LWakeHouse$Law;I)Z -/
def c_64 : List aI := [.aload 0, .aload 1, .iconst 0, .invokevirtual 62, .iload 2, .iconst 20, .if_icmp .ne 12, .aload 0, .getfield 607, .ifCond .ne 12, .iconst 1, .freturn, .nop, .iload 2,
  .iconst 27, .if_icmp .ne 28, .aload 0, .iconst 26, .invokevirtual 63, .ifCond .eq 28, .aload 0, .dup, .getfield 608, .iconst 1, .fsub, .putfield 608, .iconst 1, .freturn,
  .nop, .iload 2, .iconst 29, .if_icmp .eq 36, .aload 0, .iconst 1, .invokevirtual 46, .freturn, .aload 0, .iconst 25, .invokevirtual 63, .ifCond .eq 42, .iconst 25, .goto 43,
  .iconst 30, .istore 3, .nop, .iload 3, .iconst 30, .if_icmp .ne 56, .aload 0, .iconst 30, .invokevirtual 63, .ifCond .ne 56, .aload 0, .iconst 1, .invokevirtual 46, .freturn,
  .nop, .aload 1, .iload 3, .ineg, .invokevirtual 42, .aload 0, .dup, .getfield 608, .iconst 1, .fsub, .putfield 608, .iconst 1, .freturn]
def p_64 : List Nat := [0, 1, 2, 3, 6, 7, 9, 12, 13, 16, 19, 20, 21, 21, 22, 24, 27, 28, 30, 33, 36, 37, 38, 41, 42, 43, 46, 47, 48, 48,
  49, 51, 54, 55, 56, 59, 60, 61, 63, 66, 69, 71, 74, 76, 77, 77, 78, 80, 83, 84, 86, 89, 92, 93, 94, 97, 98, 98, 99, 100,
  101, 104, 105, 106, 109, 110, 111, 114, 115]
/-- WakeHouse$House.takeFrom(LWakeHouse$House;)V -/
def c_65 : List aI := [.aload 0, .aload 1, .getfield 314, .putfield 314, .aload 0, .aload 1, .getfield 315, .putfield 315, .aload 0, .aload 1, .getfield 316, .putfield 316, .aload 1, .getfield 300,
  .iconst 0, .aload 0, .getfield 300, .iconst 0, .aload 0, .getfield 314, .invokeinterface 1 0, .aload 1, .getfield 301, .iconst 0, .aload 0, .getfield 301, .iconst 0, .aload 0,
  .getfield 314, .invokeinterface 1 0, .aload 1, .getfield 302, .iconst 0, .aload 0, .getfield 302, .iconst 0, .aload 0, .getfield 315, .invokeinterface 1 0, .aload 1, .getfield 303, .iconst 0,
  .aload 0, .getfield 303, .iconst 0, .aload 0, .getfield 315, .invokeinterface 1 0, .aload 1, .getfield 304, .iconst 0, .aload 0, .getfield 304, .iconst 0, .aload 0, .getfield 316,
  .invokeinterface 1 0, .aload 1, .getfield 305, .iconst 0, .aload 0, .getfield 305, .iconst 0, .aload 0, .getfield 316, .invokeinterface 1 0, .aload 1, .getfield 306, .iconst 0, .aload 0,
  .getfield 306, .iconst 0, .aload 0, .getfield 316, .invokeinterface 1 0, .aload 1, .getfield 307, .iconst 0, .aload 0, .getfield 307, .iconst 0, .aload 0, .getfield 316, .invokeinterface 1 0,
  .aload 1, .getfield 308, .iconst 0, .aload 0, .getfield 308, .iconst 0, .aload 0, .getfield 316, .invokeinterface 1 0, .aload 0, .getfield 312, .aload 1, .getfield 312, .invokevirtual 66,
  .aload 0, .getfield 313, .aload 1, .getfield 313, .invokevirtual 66, .aload 0, .invokevirtual 67, .aload 0, .invokevirtual 69, .return_]
def p_65 : List Nat := [0, 1, 2, 5, 8, 9, 10, 13, 16, 17, 18, 21, 24, 25, 28, 29, 30, 33, 34, 35, 38, 41, 42, 45, 46, 47, 50, 51, 52, 55,
  58, 59, 62, 63, 64, 67, 68, 69, 72, 75, 76, 79, 80, 81, 84, 85, 86, 89, 92, 93, 96, 97, 98, 101, 102, 103, 106, 109, 110, 113,
  114, 115, 118, 119, 120, 123, 126, 127, 130, 131, 132, 135, 136, 137, 140, 143, 144, 147, 148, 149, 152, 153, 154, 157, 160, 161, 164, 165, 166, 169,
  170, 171, 174, 177, 178, 181, 182, 185, 188, 189, 192, 193, 196, 199, 200, 203, 204, 207]
/-- WakeHouse$Law.takeFrom(LWakeHouse$Law;)V -/
def c_66 : List aI := [.aload 0, .aload 1, .getfield 402, .putfield 402, .aload 1, .getfield 400, .iconst 0, .aload 0, .getfield 400, .iconst 0, .aload 0, .getfield 402, .invokeinterface 1 0, .return_]
def p_66 : List Nat := [0, 1, 2, 5, 8, 9, 12, 13, 14, 17, 18, 19, 22, 25]
/-- WakeHouse$House.listHours()V -/
def c_67 : List aI := [.aload 0, .iconst 0, .putfield 317, .iconst 0, .istore 1, .nop, .iload 1, .aload 0, .getfield 316, .if_icmp .ge 24, .aload 0, .getfield 306, .iload 1, .iaload,
  .iconst (-2), .if_icmp .eq 22, .aload 0, .aload 0, .getfield 306, .iload 1, .iaload, .invokevirtual 68, .iinc 1 1, .goto 5, .return_]
def p_67 : List Nat := [0, 1, 2, 5, 6, 7, 7, 8, 9, 12, 15, 16, 19, 20, 21, 23, 26, 27, 28, 31, 32, 33, 36, 39, 42]
/-- WakeHouse$House.listHour(I)V -/
def c_68 : List aI := [.iconst 0, .istore 2, .nop, .iload 2, .aload 0, .getfield 317, .if_icmp .ge 15, .aload 0, .getfield 309, .iload 2, .iaload, .iload 1, .if_icmp .ge 15, .iinc 2 1,
  .goto 2, .nop, .iload 2, .aload 0, .getfield 317, .if_icmp .eq 26, .aload 0, .getfield 309, .iload 2, .iaload, .iload 1, .if_icmp .eq 29, .nop, .iconst 1,
  .goto 30, .iconst 0, .istore 3, .nop, .iload 3, .ifCond .eq 70, .aload 0, .getfield 317, .aload 0, .getfield 309, .arraylength, .if_icmp .ge 70, .aload 0, .getfield 317,
  .istore 4, .nop, .iload 4, .iload 2, .if_icmp .le 59, .aload 0, .getfield 309, .iload 4, .aload 0, .getfield 309, .iload 4, .iconst 1, .fsub, .iaload,
  .iastore, .iinc 4 (-1), .goto 43, .aload 0, .getfield 309, .iload 2, .iload 1, .iastore, .aload 0, .dup, .getfield 317, .iconst 1, .fadd, .putfield 317,
  .return_]
def p_68 : List Nat := [0, 1, 2, 2, 3, 4, 7, 10, 11, 14, 15, 16, 17, 20, 23, 26, 26, 27, 28, 31, 34, 35, 38, 39, 40, 41, 44, 44, 45, 48,
  49, 50, 50, 51, 54, 55, 58, 59, 62, 63, 66, 67, 70, 72, 72, 74, 75, 78, 79, 82, 84, 85, 88, 90, 91, 92, 93, 94, 97, 100,
  101, 104, 105, 106, 107, 108, 109, 112, 113, 114, 117]
/-- WakeHouse$House.listEight()V -/
def c_69 : List aI := [.aload 0, .iconst 0, .putfield 318, .iconst 0, .istore 1, .nop, .iload 1, .aload 0, .getfield 316, .if_icmp .ge 34, .aload 0, .getfield 318, .iconst 8, .if_icmp .ge 34,
  .aload 0, .getfield 306, .iload 1, .iaload, .iconst (-2), .if_icmp .eq 32, .aload 0, .getfield 310, .aload 0, .getfield 318, .iload 1, .iastore, .aload 0, .dup,
  .getfield 318, .iconst 1, .fadd, .putfield 318, .iinc 1 1, .goto 5, .return_]
def p_69 : List Nat := [0, 1, 2, 5, 6, 7, 7, 8, 9, 12, 15, 16, 19, 21, 24, 25, 28, 29, 30, 32, 35, 36, 39, 40, 43, 44, 45, 46, 47, 50,
  51, 52, 55, 58, 61]
/-- WakeHouse$State.begin(LWakeHouse$House;)V -/
def c_70 : List aI := [.aload 0, .iconst 0, .putfield 910, .aload 0, .iconst 0, .putfield 911, .aload 0, .iconst 0, .putfield 912, .aload 0, .getfield 905, .iconst (-2), .invokestatic 71, .iconst 0,
  .istore 2, .nop, .iload 2, .aload 1, .getfield 316, .if_icmp .ge 38, .aload 0, .getfield 904, .iload 2, .aload 1, .getfield 304, .iload 2, .iaload, .iastore,
  .aload 0, .getfield 905, .aload 0, .getfield 904, .iload 2, .iaload, .iload 2, .iastore, .iinc 2 1, .goto 15, .return_]
def p_70 : List Nat := [0, 1, 2, 5, 6, 7, 10, 11, 12, 15, 16, 19, 21, 24, 25, 26, 26, 27, 28, 31, 34, 35, 38, 39, 40, 43, 44, 45, 46, 47,
  50, 51, 54, 55, 56, 57, 58, 61, 64]
/-- java/util/Arrays.fill([II)V -/
def c_71 : List aI := [.iconst 0, .istore 2, .aload 0, .arraylength, .istore 3, .nop, .iload 2, .iload 3, .if_icmp .ge 15, .aload 0, .iload 2, .iload 1, .iastore, .iinc 2 1,
  .goto 5, .return_]
def p_71 : List Nat := [0, 1, 2, 3, 4, 5, 5, 6, 7, 10, 11, 12, 13, 14, 17, 20]
/-- WakeHouse$Night.forget()V -/
def c_72 : List aI := [.aload 0, .getfield 505, .iconst (-1), .invokestatic 73, .return_]
def p_72 : List Nat := [0, 1, 4, 5, 8]
/-- java/util/Arrays.fill([BB)V -/
def c_73 : List aI := [.iconst 0, .istore 2, .aload 0, .arraylength, .istore 3, .nop, .iload 2, .iload 3, .if_icmp .ge 15, .aload 0, .iload 2, .iload 1, .bastore, .iinc 2 1,
  .goto 5, .return_]
def p_73 : List Nat := [0, 1, 2, 3, 4, 5, 5, 6, 7, 10, 11, 12, 13, 14, 17, 20]
/-- WakeHouse.place()I -/
def c_74 : List aI := [.aload 0, .getfield 1101, .getfield 612, .ireturn]
def p_74 : List Nat := [0, 1, 4, 7]
/-- WakeHouse.of(II)I -/
def c_75 : List aI := [.aload 0, .iload 1, .invokevirtual 76, .ifCond .ne 6, .iconst (-1), .ireturn, .iload 2, .tableswitch 43 0 5 #[8, 14, 20, 26, 32, 38], .aload 0, .getfield 1103, .getfield 904, .iload 1, .iaload, .ireturn,
  .aload 0, .getfield 1102, .getfield 305, .iload 1, .iaload, .ireturn, .aload 0, .getfield 1102, .getfield 306, .iload 1, .iaload, .ireturn, .aload 0, .getfield 1102,
  .getfield 307, .iload 1, .iaload, .ireturn, .aload 0, .getfield 1102, .getfield 308, .iload 1, .iaload, .ireturn, .aload 0, .getfield 1103, .iload 1, .invokevirtual 77,
  .ireturn, .iconst (-1), .ireturn]
def p_75 : List Nat := [0, 1, 2, 5, 8, 9, 10, 11, 48, 49, 52, 55, 56, 57, 58, 59, 62, 65, 66, 67, 68, 69, 72, 75, 76, 77, 78, 79, 82, 85,
  86, 87, 88, 89, 92, 95, 96, 97, 98, 99, 102, 103, 106, 107, 108]
/-- WakeHouse.isSleeper(I)Z -/
def c_76 : List aI := [.iload 1, .ifCond .lt 9, .iload 1, .aload 0, .getfield 1102, .getfield 316, .if_icmp .ge 9, .iconst 1, .goto 10, .iconst 0, .freturn]
def p_76 : List Nat := [0, 1, 4, 5, 6, 9, 12, 15, 16, 19, 20]
/-- WakeHouse$State.woolOf(I)I -/
def c_77 : List aI := [.aload 0, .getfield 911, .iload 1, .ishr, .iconst 1, .iand, .ireturn]
def p_77 : List Nat := [0, 1, 4, 5, 6, 7, 8]
/-- WakeHouse.lies(I)I -/
def c_78 : List aI := [.aload 0, .iload 1, .invokevirtual 79, .ifCond .eq 10, .aload 0, .getfield 1103, .getfield 905, .iload 1, .iaload, .goto 11, .iconst (-1), .ireturn]
def p_78 : List Nat := [0, 1, 2, 5, 8, 9, 12, 15, 16, 17, 20, 21]
/-- WakeHouse.isBed(I)Z -/
def c_79 : List aI := [.iload 1, .ifCond .lt 9, .iload 1, .aload 0, .getfield 1102, .getfield 314, .if_icmp .ge 9, .iconst 1, .goto 10, .iconst 0, .freturn]
def p_79 : List Nat := [0, 1, 4, 5, 6, 9, 12, 15, 16, 19, 20]
/-- WakeHouse.hears(IIII)I -/
def c_80 : List aI := [.aload 0, .iload 1, .invokevirtual 76, .ifCond .eq 14, .iload 2, .invokestatic 81, .ifCond .eq 14, .aload 0, .iload 3, .invokevirtual 79, .ifCond .eq 14, .iload 4, .invokestatic 82, .ifCond .ne 16,
  .iconst (-1), .ireturn, .aload 0, .getfield 1102, .iload 1, .aload 0, .getfield 1103, .getfield 904, .iload 1, .iaload, .aload 0, .getfield 1103, .iload 1, .invokevirtual 77,
  .iload 2, .iload 3, .iload 4, .invokevirtual 83, .ireturn]
def p_80 : List Nat := [0, 1, 2, 5, 8, 9, 12, 15, 16, 17, 20, 23, 25, 28, 31, 32, 33, 34, 37, 38, 39, 42, 45, 46, 47, 48, 51, 52, 55, 56,
  57, 59, 62]
/-- WakeHouse.isLoud(I)Z -/
def c_81 : List aI := [.iload 0, .iconst 1, .if_icmp .lt 8, .iload 0, .iconst 12, .if_icmp .gt 8, .iconst 1, .goto 9, .iconst 0, .freturn]
def p_81 : List Nat := [0, 1, 2, 5, 6, 8, 11, 12, 15, 16]
/-- WakeHouse.isMinute(I)Z -/
def c_82 : List aI := [.iload 0, .ifCond .lt 7, .iload 0, .iconst 400, .if_icmp .ge 7, .iconst 1, .goto 8, .iconst 0, .freturn]
def p_82 : List Nat := [0, 1, 4, 5, 8, 11, 12, 15, 16]
/-- WakeHouse$House.hearing(IIIIII)I -/
def c_83 : List aI := [.aload 0, .getfield 311, .iconst 0, .iload 4, .iastore, .aload 0, .getfield 311, .iconst 1, .aload 0, .iload 2, .iload 5, .invokevirtual 84, .iastore, .aload 0,
  .getfield 311, .iconst 2, .aload 0, .getfield 300, .iload 2, .iaload, .aload 0, .getfield 300, .iload 5, .iaload, .fsub, .invokeinterface 4 0, .iastore, .aload 0,
  .getfield 311, .iconst 3, .iload 6, .iconst 60, .idiv, .iastore, .aload 0, .getfield 311, .iconst 4, .aload 0, .getfield 305, .iload 1, .iaload, .iastore,
  .aload 0, .getfield 311, .iconst 5, .iload 3, .iastore, .aload 0, .getfield 312, .aload 0, .getfield 311, .invokevirtual 85, .iconst 0, .iconst 10, .invokestatic 86, .ireturn]
def p_83 : List Nat := [0, 1, 4, 5, 7, 8, 9, 12, 13, 14, 15, 17, 20, 21, 22, 25, 26, 27, 30, 31, 32, 33, 36, 38, 39, 40, 43, 44, 45, 48,
  49, 51, 53, 54, 55, 56, 59, 60, 61, 64, 65, 66, 67, 68, 71, 72, 73, 74, 75, 78, 79, 82, 85, 86, 88, 91]
/-- WakeHouse$House.apart(II)I -/
def c_84 : List aI := [.aload 0, .getfield 301, .iload 1, .iaload, .aload 0, .getfield 301, .iload 2, .iaload, .fsub, .invokeinterface 4 0, .ireturn]
def p_84 : List Nat := [0, 1, 4, 5, 6, 7, 10, 11, 12, 13, 16]
/-- WakeHouse$Law.value([I)I -/
def c_85 : List aI := [.iconst 0, .istore 2, .iconst 0, .istore 3, .nop, .iload 3, .aload 0, .getfield 402, .if_icmp .ge 105, .aload 0, .getfield 400, .iload 3, .iaload, .istore 4,
  .iload 4, .iconst (-7), .if_icmp .lt 33, .aload 0, .getfield 401, .iload 2, .iload 4, .ifCond .lt 24, .iload 4, .goto 29, .aload 1, .iconst (-1), .iload 4, .isub,
  .iaload, .iastore, .nop, .iinc 2 1, .goto 102, .iload 2, .iconst 2, .if_icmp .ge 38, .iconst 0, .ireturn, .iinc 2 (-1), .aload 0, .getfield 401, .iload 2,
  .iaload, .istore 5, .aload 0, .getfield 401, .iload 2, .iconst 1, .isub, .iaload, .istore 6, .iload 4, .ineg, .tableswitch 85 21 30 #[54, 59, 64, 85, 69, 85, 85, 85, 85, 77], .iload 6, .iload 5,
  .iadd, .istore 6, .goto 94, .iload 6, .iload 5, .isub, .istore 6, .goto 94, .iload 6, .iload 5, .imul, .istore 6, .goto 94, .iload 6,
  .iload 5, .if_icmp .ge 74, .iconst 1, .goto 75, .iconst 0, .istore 6, .goto 94, .iload 6, .iload 5, .if_icmp .ne 82, .iconst 1, .goto 83, .iconst 0, .istore 6,
  .goto 94, .nop, .iload 5, .ifCond .ne 90, .iconst 0, .ireturn, .iload 6, .iload 5, .idiv, .istore 6, .nop, .aload 0, .getfield 401, .iload 2,
  .iconst 1, .isub, .iload 6, .iastore, .nop, .iinc 3 1, .goto 4, .iload 2, .ifCond .le 112, .aload 0, .getfield 401, .iconst 0, .iaload, .goto 113,
  .iconst 0, .ireturn]
def p_85 : List Nat := [0, 1, 2, 3, 4, 4, 5, 6, 9, 12, 13, 16, 17, 18, 20, 22, 24, 27, 28, 31, 32, 34, 37, 39, 42, 43, 44, 46, 47, 48,
  49, 49, 52, 55, 56, 57, 60, 61, 62, 65, 66, 69, 70, 71, 73, 74, 77, 78, 79, 80, 81, 83, 85, 86, 140, 142, 144, 145, 147, 150,
  152, 154, 155, 157, 160, 162, 164, 165, 167, 170, 172, 174, 177, 178, 181, 182, 184, 187, 189, 191, 194, 195, 198, 199, 201, 204, 204, 206, 209, 210,
  211, 213, 215, 216, 218, 218, 219, 222, 223, 224, 225, 227, 228, 228, 231, 234, 235, 238, 239, 242, 243, 244, 247, 248]
/-- WakeHouse.held(III)I -/
def c_86 : List aI := [.iload 1, .iload 2, .iload 0, .invokeinterface 3 0, .invokeinterface 2 0, .ireturn]
def p_86 : List Nat := [0, 1, 2, 3, 6, 9]
/-- WakeHouse.again(II)I -/
def c_87 : List aI := [.aload 0, .iload 1, .invokevirtual 76, .ifCond .eq 7, .iload 2, .invokestatic 82, .ifCond .ne 9, .iconst (-1), .ireturn, .aload 0, .getfield 1105, .iload 1, .iload 2, .invokevirtual 88,
  .ireturn]
def p_87 : List Nat := [0, 1, 2, 5, 8, 9, 12, 15, 16, 17, 18, 21, 22, 23, 26]
/-- WakeHouse$Night.asleepAgain(II)I -/
def c_88 : List aI := [.aload 0, .getfield 500, .getfield 305, .iload 1, .iaload, .iconst 400, .fmul, .iload 2, .fadd, .istore 3, .aload 0, .getfield 505, .iload 3, .baload,
  .iconst (-1), .if_icmp .ne 44, .aload 0, .getfield 506, .iconst 4, .aload 0, .getfield 500, .getfield 305, .iload 1, .iaload, .iastore, .aload 0, .getfield 506, .iconst 6,
  .iload 2, .iastore, .aload 0, .getfield 505, .iload 3, .aload 0, .getfield 500, .getfield 313, .aload 0, .getfield 506, .invokevirtual 85, .iconst 0, .iconst 10, .invokestatic 86,
  .i2b, .bastore, .aload 0, .getfield 505, .iload 3, .baload, .ireturn]
def p_88 : List Nat := [0, 1, 4, 7, 8, 9, 12, 13, 14, 15, 16, 17, 20, 21, 22, 23, 26, 27, 30, 31, 32, 35, 38, 39, 40, 41, 42, 45, 47, 48,
  49, 50, 53, 54, 55, 58, 61, 62, 65, 68, 69, 71, 74, 75, 76, 77, 80, 81, 82]
/-- WakeHouse.ring(III)I -/
def c_89 : List aI := [.aload 0, .iload 1, .invokevirtual 90, .ifCond .eq 11, .aload 0, .iload 2, .invokevirtual 79, .ifCond .eq 11, .iload 3, .invokestatic 82, .ifCond .ne 13, .iconst (-1), .ireturn, .aload 0,
  .iconst 0, .aload 0, .getfield 1102, .iload 1, .iload 3, .invokevirtual 91, .aload 0, .getfield 1102, .getfield 302, .iload 1, .iaload, .iload 2, .invokevirtual 92, .ireturn]
def p_89 : List Nat := [0, 1, 2, 5, 8, 9, 10, 13, 16, 17, 20, 23, 24, 25, 26, 27, 28, 31, 32, 33, 36, 37, 40, 43, 44, 45, 46, 49]
/-- WakeHouse.isClock(I)Z -/
def c_90 : List aI := [.iload 1, .ifCond .lt 9, .iload 1, .aload 0, .getfield 1102, .getfield 315, .if_icmp .ge 9, .iconst 1, .goto 10, .iconst 0, .freturn]
def p_90 : List Nat := [0, 1, 4, 5, 6, 9, 12, 15, 16, 19, 20]
/-- WakeHouse$House.soundsAt(II)I -/
def c_91 : List aI := [.iload 2, .aload 0, .getfield 303, .iload 1, .iaload, .fadd, .iconst 0, .iconst 399, .invokestatic 86, .ireturn]
def p_91 : List Nat := [0, 1, 2, 5, 6, 7, 8, 9, 12, 15]
/-- WakeHouse.plan(IIII)I -/
def c_92 : List aI := [.aload 0, .dup, .getfield 1111, .iconst 1, .fadd, .putfield 1111, .aload 0, .getfield 1103, .iload 1, .iload 2, .iload 3, .iload 4, .invokevirtual 93, .ireturn]
def p_92 : List Nat := [0, 1, 2, 5, 6, 7, 10, 11, 14, 15, 16, 17, 19, 22]
/-- WakeHouse$State.putBehind(IIII)I -/
def c_93 : List aI := [.aload 0, .getfield 910, .iconst 8, .if_icmp .lt 6, .iconst (-1), .ireturn, .aload 0, .getfield 900, .aload 0, .getfield 910, .iload 1, .iastore, .aload 0, .getfield 901,
  .aload 0, .getfield 910, .iload 2, .iastore, .aload 0, .getfield 902, .aload 0, .getfield 910, .iload 3, .iastore, .aload 0, .getfield 903, .aload 0, .getfield 910,
  .iload 4, .iastore, .aload 0, .dup, .getfield 910, .iconst 1, .fadd, .putfield 910, .aload 0, .getfield 910, .iconst 1, .fsub, .ireturn]
def p_93 : List Nat := [0, 1, 4, 6, 9, 10, 11, 12, 15, 16, 19, 20, 21, 22, 25, 26, 29, 30, 31, 32, 35, 36, 39, 40, 41, 42, 45, 46, 49, 51,
  52, 53, 54, 57, 58, 59, 62, 63, 66, 67, 68]
/-- WakeHouse.string(II)I -/
def c_94 : List aI := [.aload 0, .iload 1, .invokevirtual 76, .ifCond .eq 7, .iload 2, .invokestatic 82, .ifCond .ne 9, .iconst (-1), .ireturn, .aload 0, .iconst 1, .iload 2, .iconst 0, .iload 1,
  .invokevirtual 92, .ireturn]
def p_94 : List Nat := [0, 1, 2, 5, 8, 9, 12, 15, 16, 17, 18, 19, 20, 21, 22, 25]
/-- WakeHouse.pole(II)I -/
def c_95 : List aI := [.aload 0, .iload 1, .invokevirtual 79, .ifCond .eq 7, .iload 2, .invokestatic 82, .ifCond .ne 9, .iconst (-1), .ireturn, .aload 0, .iconst 2, .iload 2, .iconst 7, .iload 1,
  .invokevirtual 92, .ireturn]
def p_95 : List Nat := [0, 1, 2, 5, 8, 9, 12, 15, 16, 17, 18, 19, 20, 22, 23, 26]
/-- WakeHouse.drop(I)I -/
def c_96 : List aI := [.aload 0, .iload 1, .invokevirtual 97, .ifCond .ne 6, .iconst (-1), .ireturn, .aload 0, .dup, .getfield 1111, .iconst 1, .fadd, .putfield 1111, .aload 0, .getfield 1103,
  .iload 1, .invokevirtual 98, .aload 0, .getfield 1103, .getfield 910, .ireturn]
def p_96 : List Nat := [0, 1, 2, 5, 8, 9, 10, 11, 12, 15, 16, 17, 20, 21, 24, 25, 28, 29, 32, 35]
/-- WakeHouse.isSound(I)Z -/
def c_97 : List aI := [.iload 1, .ifCond .lt 9, .iload 1, .aload 0, .getfield 1103, .getfield 910, .if_icmp .ge 9, .iconst 1, .goto 10, .iconst 0, .freturn]
def p_97 : List Nat := [0, 1, 4, 5, 6, 9, 12, 15, 16, 19, 20]
/-- WakeHouse$State.takeOut(I)V -/
def c_98 : List aI := [.aload 0, .dup, .getfield 910, .iconst 1, .fsub, .putfield 910, .iload 1, .istore 2, .nop, .iload 2, .aload 0, .getfield 910, .if_icmp .ge 55, .aload 0,
  .getfield 900, .iload 2, .aload 0, .getfield 900, .iload 2, .iconst 1, .fadd, .iaload, .iastore, .aload 0, .getfield 901, .iload 2, .aload 0, .getfield 901,
  .iload 2, .iconst 1, .fadd, .iaload, .iastore, .aload 0, .getfield 902, .iload 2, .aload 0, .getfield 902, .iload 2, .iconst 1, .fadd, .iaload,
  .iastore, .aload 0, .getfield 903, .iload 2, .aload 0, .getfield 903, .iload 2, .iconst 1, .fadd, .iaload, .iastore, .iinc 2 1, .goto 8, .return_]
def p_98 : List Nat := [0, 1, 2, 5, 6, 7, 10, 11, 12, 12, 13, 14, 17, 20, 21, 24, 25, 26, 29, 30, 31, 32, 33, 34, 35, 38, 39, 40, 43, 44,
  45, 46, 47, 48, 49, 52, 53, 54, 57, 58, 59, 60, 61, 62, 63, 66, 67, 68, 71, 72, 73, 74, 75, 76, 79, 82]
/-- WakeHouse.sound(II)I -/
def c_99 : List aI := [.aload 0, .iload 1, .invokevirtual 97, .ifCond .ne 6, .iconst (-1), .ireturn, .iload 2, .tableswitch 31 0 3 #[8, 14, 20, 26], .aload 0, .getfield 1103, .getfield 900, .iload 1, .iaload, .ireturn,
  .aload 0, .getfield 1103, .getfield 901, .iload 1, .iaload, .ireturn, .aload 0, .getfield 1103, .getfield 902, .iload 1, .iaload, .ireturn, .aload 0, .getfield 1103,
  .iload 1, .invokevirtual 100, .ireturn, .iconst (-1), .ireturn]
def p_99 : List Nat := [0, 1, 2, 5, 8, 9, 10, 11, 40, 41, 44, 47, 48, 49, 50, 51, 54, 57, 58, 59, 60, 61, 64, 67, 68, 69, 70, 71, 74, 75,
  78, 79, 80]
/-- WakeHouse$State.bedOfSound(I)I -/
def c_100 : List aI := [.aload 0, .getfield 900, .iload 1, .iaload, .iconst 1, .if_icmp .ne 14, .aload 0, .getfield 904, .aload 0, .getfield 903, .iload 1, .iaload, .iaload, .goto 18,
  .aload 0, .getfield 903, .iload 1, .iaload, .ireturn]
def p_100 : List Nat := [0, 1, 4, 5, 6, 7, 10, 11, 14, 15, 18, 19, 20, 21, 24, 25, 28, 29, 30]
/-- WakeHouse.wool(IZ)Z -/
def c_101 : List aI := [.aload 0, .iload 1, .invokevirtual 76, .ifCond .ne 6, .iconst 0, .freturn, .aload 0, .dup, .getfield 1111, .iconst 1, .fadd, .putfield 1111, .iconst 1, .iload 1,
  .ishl, .istore 3, .aload 0, .getfield 1103, .iload 2, .ifCond .eq 26, .aload 0, .getfield 1103, .getfield 911, .iload 3, .ior, .goto 33, .aload 0, .getfield 1103,
  .getfield 911, .iload 3, .iconst (-1), .ixor, .iand, .putfield 911, .iconst 1, .freturn]
def p_101 : List Nat := [0, 1, 2, 5, 8, 9, 10, 11, 12, 15, 16, 17, 20, 21, 22, 23, 24, 25, 28, 29, 32, 33, 36, 39, 40, 41, 44, 45, 48, 51,
  52, 53, 54, 55, 58, 59]
/-- WakeHouse.swap(II)Z -/
def c_102 : List aI := [.aload 0, .iload 1, .invokevirtual 79, .ifCond .eq 11, .aload 0, .iload 2, .invokevirtual 79, .ifCond .eq 11, .iload 1, .iload 2, .if_icmp .ne 13, .iconst 0, .freturn, .aload 0,
  .dup, .getfield 1111, .iconst 1, .fadd, .putfield 1111, .aload 0, .getfield 1103, .iload 1, .iload 2, .invokevirtual 103, .iconst 1, .freturn]
def p_102 : List Nat := [0, 1, 2, 5, 8, 9, 10, 13, 16, 17, 18, 21, 22, 23, 24, 25, 28, 29, 30, 33, 34, 37, 38, 39, 42, 43]
/-- WakeHouse$State.change(II)V -/
def c_103 : List aI := [.aload 0, .getfield 905, .iload 1, .iaload, .istore 3, .aload 0, .getfield 905, .iload 2, .iaload, .istore 4, .aload 0, .getfield 905, .iload 1, .iload 4,
  .iastore, .aload 0, .getfield 905, .iload 2, .iload 3, .iastore, .iload 3, .iconst (-2), .if_icmp .eq 28, .aload 0, .getfield 904, .iload 3, .iload 2, .iastore,
  .iload 4, .iconst (-2), .if_icmp .eq 36, .aload 0, .getfield 904, .iload 4, .iload 1, .iastore, .return_]
def p_103 : List Nat := [0, 1, 4, 5, 6, 7, 8, 11, 12, 13, 15, 16, 19, 20, 22, 23, 24, 27, 28, 29, 30, 31, 33, 36, 37, 40, 41, 42, 43, 45,
  47, 50, 51, 54, 56, 57, 58]
/-- WakeHouse.ways()J -/
def c_104 : List aI := [.getstatic 2, .aload 0, .getfield 1103, .getfield 910, .laload, .lreturn]
def p_104 : List Nat := [0, 3, 4, 7, 10, 11]
/-- WakeHouse.up(I)J -/
def c_105 : List aI := [.aload 0, .iload 1, .invokevirtual 76, .ifCond .ne 6, .bipush (-1), .lreturn, .aload 0, .getfield 1102, .getfield 306, .iload 1, .iaload, .iconst (-2), .if_icmp .ne 15, .bipush (-2),
  .lreturn, .aload 0, .getfield 1105, .iconst (-1), .invokevirtual 106, .aload 0, .getfield 1105, .iload 1, .invokevirtual 108, .aload 0, .getfield 1105, .iload 1, .invokevirtual 111, .lreturn]
def p_105 : List Nat := [0, 1, 2, 5, 8, 11, 12, 13, 16, 19, 20, 21, 23, 26, 29, 30, 31, 34, 35, 38, 39, 42, 43, 46, 47, 50, 51, 54]
/-- WakeHouse$Night.arrange(I)V -/
def c_106 : List aI := [.aload 0, .iconst 0, .putfield 511, .iconst 0, .istore 2, .nop, .iload 2, .aload 0, .getfield 501, .getfield 910, .if_icmp .ge 25, .iload 2, .iload 1, .if_icmp .eq 23,
  .aload 0, .iload 2, .aload 0, .getfield 501, .getfield 901, .iload 2, .iaload, .invokevirtual 107, .pop, .iinc 2 1, .goto 5, .return_]
def p_106 : List Nat := [0, 1, 2, 5, 6, 7, 7, 8, 9, 12, 15, 18, 19, 20, 23, 24, 25, 26, 29, 32, 33, 34, 37, 38, 41, 44]
/-- WakeHouse$Night.insert(II)I -/
def c_107 : List aI := [.aload 0, .getfield 511, .iconst 8, .if_icmp .lt 6, .iconst (-1), .ireturn, .aload 0, .getfield 511, .istore 3, .nop, .iload 3, .ifCond .le 42, .aload 0, .getfield 502,
  .iload 3, .iconst 1, .fsub, .iaload, .iload 2, .if_icmp .le 42, .aload 0, .getfield 502, .iload 3, .aload 0, .getfield 502, .iload 3, .iconst 1, .fsub,
  .iaload, .iastore, .aload 0, .getfield 503, .iload 3, .aload 0, .getfield 503, .iload 3, .iconst 1, .fsub, .iaload, .iastore, .iinc 3 (-1), .goto 9,
  .aload 0, .getfield 502, .iload 3, .iload 2, .iastore, .aload 0, .getfield 503, .iload 3, .iload 1, .iastore, .aload 0, .dup, .getfield 511, .iconst 1,
  .fadd, .putfield 511, .iload 3, .ireturn]
def p_107 : List Nat := [0, 1, 4, 6, 9, 10, 11, 12, 15, 16, 16, 17, 20, 21, 24, 25, 26, 27, 28, 29, 32, 33, 36, 37, 38, 41, 42, 43, 44, 45,
  46, 47, 50, 51, 52, 55, 56, 57, 58, 59, 60, 63, 66, 67, 70, 71, 72, 73, 74, 77, 78, 79, 80, 81, 82, 85, 86, 87, 90, 91]
/-- WakeHouse$Night.listen(I)V -/
def c_108 : List aI := [.aload 0, .iload 1, .aload 0, .getfield 501, .getfield 904, .iload 1, .iaload, .aload 0, .getfield 501, .iload 1, .invokevirtual 77, .invokevirtual 109, .return_]
def p_108 : List Nat := [0, 1, 2, 3, 6, 9, 10, 11, 12, 15, 16, 19, 22]
/-- WakeHouse$Night.listenFrom(III)V -/
def c_109 : List aI := [.iconst 0, .istore 4, .nop, .iload 4, .aload 0, .getfield 511, .if_icmp .ge 22, .aload 0, .getfield 504, .iload 4, .aload 0, .aload 0, .getfield 503, .iload 4,
  .iaload, .iload 1, .iload 2, .iload 3, .invokevirtual 110, .iastore, .iinc 4 1, .goto 2, .return_]
def p_109 : List Nat := [0, 1, 3, 3, 5, 6, 9, 12, 13, 16, 18, 19, 20, 23, 25, 26, 27, 28, 29, 32, 33, 36, 39]
/-- WakeHouse$Night.heardOf(IIII)I -/
def c_110 : List aI := [.aload 0, .getfield 501, .getfield 903, .iload 1, .iaload, .istore 5, .aload 0, .getfield 501, .getfield 900, .iload 1, .iaload, .iconst 1, .if_icmp .ne 20, .iload 5,
  .iload 2, .if_icmp .ne 18, .iconst 10, .goto 19, .iconst 0, .ireturn, .aload 0, .getfield 500, .iload 2, .iload 3, .iload 4, .aload 0, .getfield 501, .getfield 902,
  .iload 1, .iaload, .iload 5, .aload 0, .getfield 501, .getfield 901, .iload 1, .iaload, .invokevirtual 83, .ireturn]
def p_110 : List Nat := [0, 1, 4, 7, 8, 9, 11, 12, 15, 18, 19, 20, 21, 24, 26, 27, 30, 32, 35, 36, 37, 38, 41, 42, 43, 45, 46, 49, 52, 53,
  54, 56, 57, 60, 63, 64, 65, 68]
/-- WakeHouse$Night.upWays(I)J -/
def c_111 : List aI := [.aload 0, .getfield 500, .getfield 306, .iload 1, .iaload, .istore 2, .bipush 0, .lstore 3, .bipush 1, .lstore 5, .iconst 0, .istore 7, .nop, .iload 7,
  .aload 0, .getfield 511, .if_icmp .ge 69, .aload 0, .getfield 502, .iload 7, .iaload, .iload 2, .if_icmp .gt 69, .iload 7, .ifCond .le 49, .lload 3, .iconst 10, .aload 0,
  .iload 1, .aload 0, .getfield 502, .iload 7, .iaload, .aload 0, .getfield 502, .iload 7, .iconst 1, .fsub, .iaload, .fsub, .invokevirtual 88, .fsub,
  .i2l, .dmul, .lstore 3, .lload 5, .bipush 10, .dmul, .lstore 5, .lload 3, .bipush 10, .dmul, .lload 5, .lload 3, .dsub, .aload 0,
  .getfield 504, .iload 7, .iaload, .i2l, .dmul, .dadd, .lstore 3, .lload 5, .bipush 10, .dmul, .lstore 5, .iinc 7 1, .goto 12, .iload 7,
  .ifCond .ne 73, .bipush 0, .lreturn, .lload 3, .iconst 10, .aload 0, .iload 1, .iload 2, .aload 0, .getfield 502, .iload 7, .iconst 1, .fsub, .iaload,
  .fsub, .invokevirtual 88, .fsub, .i2l, .dmul, .lstore 3, .lload 3, .getstatic 2, .aload 0, .getfield 511, .iload 7, .fsub, .laload, .dmul,
  .lreturn]
def p_111 : List Nat := [0, 1, 4, 7, 8, 9, 10, 11, 12, 13, 15, 16, 18, 18, 20, 21, 24, 27, 28, 31, 33, 34, 35, 38, 40, 43, 44, 46, 47, 48,
  49, 52, 54, 55, 56, 59, 61, 62, 63, 64, 65, 68, 69, 70, 71, 72, 74, 77, 78, 80, 81, 84, 85, 87, 88, 89, 90, 93, 95, 96,
  97, 98, 99, 100, 102, 105, 106, 108, 111, 114, 116, 119, 120, 121, 122, 124, 125, 126, 127, 128, 131, 133, 134, 135, 136, 137, 140, 141, 142, 143,
  144, 145, 148, 149, 152, 154, 155, 156, 157]
/-- WakeHouse.woken(I)J -/
def c_112 : List aI := [.aload 0, .iload 1, .invokevirtual 76, .ifCond .ne 6, .bipush (-1), .lreturn, .aload 0, .getfield 1105, .iconst (-1), .invokevirtual 106, .aload 0, .getfield 1105, .iload 1, .invokevirtual 108,
  .aload 0, .getfield 1105, .invokevirtual 113, .lreturn]
def p_112 : List Nat := [0, 1, 2, 5, 8, 11, 12, 13, 16, 17, 20, 21, 24, 25, 28, 29, 32, 35]
/-- WakeHouse$Night.wokenWays()J -/
def c_113 : List aI := [.bipush 1, .lstore 1, .iconst 0, .istore 3, .nop, .iload 3, .aload 0, .getfield 511, .if_icmp .ge 23, .lload 1, .iconst 10, .iconst 10, .aload 0, .getfield 504,
  .iload 3, .iaload, .fsub, .fmul, .i2l, .dmul, .lstore 1, .iinc 3 1, .goto 4, .getstatic 2, .aload 0, .getfield 511, .laload, .lload 1,
  .dsub, .lreturn]
def p_113 : List Nat := [0, 1, 2, 3, 4, 4, 5, 6, 9, 12, 13, 15, 17, 18, 21, 22, 23, 24, 25, 26, 27, 28, 31, 34, 37, 38, 41, 42, 43, 44]
/-- WakeHouse.cost()J -/
def c_114 : List aI := [.aload 0, .getfield 1105, .iconst (-1), .invokevirtual 115, .lreturn]
def p_114 : List Nat := [0, 1, 4, 5, 8]
/-- WakeHouse$Night.costWithout(I)J -/
def c_115 : List aI := [.aload 0, .iload 1, .invokevirtual 106, .bipush 0, .lstore 2, .iconst 0, .istore 4, .nop, .iload 4, .aload 0, .getfield 500, .getfield 316, .if_icmp .ge 24, .aload 0,
  .iload 4, .invokevirtual 108, .lload 2, .aload 0, .iload 4, .invokevirtual 116, .dadd, .lstore 2, .iinc 4 1, .goto 7, .lload 2, .lreturn]
def p_115 : List Nat := [0, 1, 2, 5, 6, 7, 8, 10, 10, 12, 13, 16, 19, 22, 23, 25, 28, 29, 30, 32, 35, 36, 37, 40, 43, 44]
/-- WakeHouse$Night.share(I)J -/
def c_116 : List aI := [.aload 0, .getfield 500, .getfield 306, .iload 1, .iaload, .iconst (-2), .if_icmp .ne 17, .aload 0, .getfield 500, .getfield 308, .iload 1, .iaload, .i2l, .aload 0,
  .invokevirtual 113, .dmul, .lreturn, .aload 0, .getfield 500, .getfield 307, .iload 1, .iaload, .i2l, .getstatic 2, .aload 0, .getfield 511, .laload, .aload 0,
  .iload 1, .invokevirtual 111, .dsub, .dmul, .lreturn]
def p_116 : List Nat := [0, 1, 4, 7, 8, 9, 11, 14, 15, 18, 21, 22, 23, 24, 25, 28, 29, 30, 31, 34, 37, 38, 39, 40, 43, 44, 47, 48, 49, 50,
  53, 54, 55]
/-- WakeHouse.worst()I -/
def c_117 : List aI := [.iconst (-2), .istore 1, .bipush 0, .lstore 2, .iconst 0, .istore 4, .nop, .iload 4, .aload 0, .getfield 1103, .getfield 910, .if_icmp .ge 30, .aload 0, .getfield 1105,
  .iload 4, .invokevirtual 115, .lstore 5, .iload 1, .iconst (-2), .if_icmp .eq 24, .lload 5, .lload 2, .lcmp, .ifCond .ge 28, .iload 4, .istore 1, .lload 5, .lstore 2,
  .iinc 4 1, .goto 6, .iload 1, .ireturn]
def p_117 : List Nat := [0, 2, 3, 4, 5, 6, 8, 8, 10, 11, 14, 17, 20, 21, 24, 26, 29, 31, 32, 34, 37, 39, 40, 41, 44, 46, 47, 49, 50, 53,
  56, 57]
/-- WakeHouse.hours(I)I -/
def c_118 : List aI := [.iload 1, .iconst (-1), .if_icmp .ne 7, .aload 0, .getfield 1102, .getfield 317, .ireturn, .iload 1, .ifCond .lt 20, .iload 1, .aload 0, .getfield 1102, .getfield 317, .if_icmp .ge 20,
  .aload 0, .getfield 1102, .getfield 309, .iload 1, .iaload, .goto 21, .iconst (-1), .ireturn]
def p_118 : List Nat := [0, 1, 2, 5, 6, 9, 12, 13, 14, 17, 18, 19, 22, 25, 28, 29, 32, 35, 36, 37, 40, 41]
/-- WakeHouse.best(III)J -/
def c_119 : List aI := [.aload 0, .iload 1, .iload 2, .iload 3, .invokevirtual 120, .istore 4, .iload 4, .ifCond .eq 11, .iload 4, .i2l, .lreturn, .aload 0, .getfield 1106, .iload 1,
  .iload 2, .iload 3, .aload 0, .getfield 1111, .invokevirtual 121, .aload 0, .getfield 1106, .getfield 11, .lreturn]
def p_119 : List Nat := [0, 1, 2, 3, 4, 7, 9, 11, 14, 16, 17, 18, 19, 22, 23, 24, 25, 26, 29, 32, 33, 36, 39]
/-- WakeHouse.bestRefusal(III)I -/
def c_120 : List aI := [.aload 0, .iload 1, .invokevirtual 90, .ifCond .eq 20, .iload 2, .iconst (-1), .if_icmp .eq 11, .aload 0, .iload 2, .invokevirtual 90, .ifCond .eq 20, .nop, .iload 1, .iload 2,
  .if_icmp .eq 20, .iload 3, .ifCond .lt 20, .iload 3, .iconst 60, .if_icmp .le 23, .nop, .iconst (-1), .ireturn, .aload 0, .getfield 1103, .getfield 910, .iload 2, .iconst (-1),
  .if_icmp .ne 31, .iconst 1, .goto 32, .iconst 2, .fadd, .istore 4, .nop, .aload 0, .getfield 1102, .getfield 317, .ifCond .eq 46, .aload 0, .getfield 1102, .getfield 314,
  .ifCond .eq 46, .iload 4, .iconst 8, .if_icmp .le 49, .nop, .iconst (-2), .goto 50, .iconst 0, .ireturn]
def p_120 : List Nat := [0, 1, 2, 5, 8, 9, 10, 13, 14, 15, 18, 21, 21, 22, 23, 26, 27, 30, 31, 33, 36, 36, 37, 38, 39, 42, 45, 46, 47, 50,
  51, 54, 55, 56, 58, 58, 59, 62, 65, 68, 69, 72, 75, 78, 80, 82, 85, 85, 87, 90, 91]
/-- WakeHouse$BestTwo.seek(IIII)V -/
def c_121 : List aI := [.aload 0, .getfield 13, .iload 1, .if_icmp .ne 17, .aload 0, .getfield 14, .iload 2, .if_icmp .ne 17, .aload 0, .getfield 15, .iload 3, .if_icmp .ne 17, .aload 0, .getfield 16,
  .iload 4, .if_icmp .ne 17, .return_, .nop, .aload 0, .iload 1, .putfield 13, .aload 0, .iload 2, .putfield 14, .aload 0, .iload 3, .putfield 15, .aload 0,
  .iload 4, .putfield 16, .aload 0, .iconst (-1), .putfield 12, .aload 0, .invokevirtual 122, .iload 2, .iconst (-1), .if_icmp .ne 40, .iconst 1, .goto 43, .aload 0, .getfield 0,
  .getfield 317, .istore 5, .nop, .iconst 0, .istore 6, .nop, .iload 6, .aload 0, .getfield 0, .getfield 317, .if_icmp .ge 71, .iconst 0, .istore 7, .nop,
  .iload 7, .iload 5, .if_icmp .ge 69, .aload 0, .iload 6, .iload 7, .invokevirtual 126, .aload 0, .iload 6, .iload 7, .invokevirtual 127, .iinc 7 1, .goto 55, .iinc 6 1,
  .goto 47, .return_]
def p_121 : List Nat := [0, 1, 4, 5, 8, 9, 12, 13, 16, 17, 20, 21, 24, 25, 28, 30, 33, 34, 34, 35, 36, 39, 40, 41, 44, 45, 46, 49, 50, 52,
  55, 56, 57, 60, 61, 64, 65, 66, 69, 70, 73, 74, 77, 80, 82, 82, 83, 85, 85, 87, 88, 91, 94, 97, 98, 100, 100, 102, 104, 107,
  108, 110, 112, 115, 116, 118, 120, 123, 126, 129, 132, 135]
/-- WakeHouse$BestTwo.hearAll()V -/
def c_122 : List aI := [.aload 0, .aload 0, .getfield 13, .aload 0, .getfield 3, .invokevirtual 123, .aload 0, .getfield 14, .iconst (-1), .if_icmp .eq 16, .aload 0, .aload 0, .getfield 14, .aload 0,
  .getfield 4, .invokevirtual 123, .iconst 0, .istore 1, .nop, .iload 1, .aload 0, .getfield 0, .getfield 316, .if_icmp .ge 60, .aload 0, .getfield 1, .getfield 904, .iload 1,
  .iaload, .istore 2, .iconst 0, .istore 3, .nop, .iload 3, .aload 0, .getfield 1, .getfield 910, .if_icmp .ge 58, .aload 0, .getfield 5, .iload 1, .iconst 8,
  .fmul, .iload 3, .fadd, .aload 0, .getfield 2, .iload 3, .iload 1, .iload 2, .aload 0, .getfield 1, .iload 1, .invokevirtual 77, .invokevirtual 110, .iastore,
  .iinc 3 1, .goto 32, .iinc 1 1, .goto 18, .return_]
def p_122 : List Nat := [0, 1, 2, 5, 6, 9, 12, 13, 16, 17, 20, 21, 22, 25, 26, 29, 32, 33, 34, 34, 35, 36, 39, 42, 45, 46, 49, 52, 53, 54,
  55, 56, 57, 57, 58, 59, 62, 65, 68, 69, 72, 73, 75, 76, 77, 78, 79, 82, 83, 84, 85, 86, 89, 90, 93, 96, 97, 100, 103, 106,
  109]
/-- WakeHouse$BestTwo.hearClock(I[I)V -/
def c_123 : List aI := [.iconst 0, .istore 3, .nop, .iload 3, .aload 0, .getfield 0, .getfield 317, .if_icmp .ge 65, .aload 0, .getfield 0, .iload 1, .aload 0, .iload 3, .invokevirtual 124,
  .invokevirtual 91, .istore 4, .iconst 0, .istore 5, .nop, .iload 5, .aload 0, .getfield 0, .getfield 314, .if_icmp .ge 63, .iconst 0, .istore 6, .nop, .iload 6,
  .aload 0, .getfield 0, .getfield 316, .if_icmp .ge 61, .aload 2, .iload 3, .iload 5, .invokestatic 125, .iload 6, .fadd, .aload 0, .getfield 0, .iload 6, .aload 0,
  .getfield 1, .getfield 904, .iload 6, .iaload, .aload 0, .getfield 1, .iload 6, .invokevirtual 77, .aload 0, .getfield 0, .getfield 302, .iload 1, .iaload, .iload 5,
  .iload 4, .invokevirtual 83, .iastore, .iinc 6 1, .goto 26, .iinc 5 1, .goto 18, .iinc 3 1, .goto 2, .return_]
def p_123 : List Nat := [0, 1, 2, 2, 3, 4, 7, 10, 13, 14, 17, 18, 19, 20, 23, 26, 28, 29, 31, 31, 33, 34, 37, 40, 43, 44, 46, 46, 48, 49,
  52, 55, 58, 59, 60, 62, 65, 67, 68, 69, 72, 74, 75, 78, 81, 83, 84, 85, 88, 90, 93, 94, 97, 100, 101, 102, 104, 106, 109, 110,
  113, 116, 119, 122, 125, 128]
/-- WakeHouse$BestTwo.setTo(I)I -/
def c_124 : List aI := [.iload 1, .ifCond .lt 18, .iload 1, .aload 0, .getfield 0, .getfield 317, .if_icmp .ge 18, .iconst 0, .aload 0, .getfield 0, .getfield 309, .iload 1, .iaload, .aload 0,
  .getfield 15, .fsub, .invokeinterface 2 0, .goto 19, .iconst (-1), .ireturn]
def p_124 : List Nat := [0, 1, 4, 5, 6, 9, 12, 15, 16, 17, 20, 23, 24, 25, 26, 29, 30, 33, 36, 37]
/-- WakeHouse$BestTwo.cell(II)I -/
def c_125 : List aI := [.iload 0, .iconst 12, .fmul, .iload 1, .fadd, .iconst 12, .fmul, .ireturn]
def p_125 : List Nat := [0, 1, 3, 4, 5, 6, 8, 9]
/-- WakeHouse$BestTwo.weigh(II)V -/
def c_126 : List aI := [.aload 0, .getfield 2, .iconst (-1), .invokevirtual 106, .aload 0, .getfield 2, .getfield 511, .iconst 8, .aload 0, .getfield 14, .iconst (-1), .if_icmp .ne 14, .iconst 1, .goto 15,
  .iconst 2, .fsub, .if_icmp .le 18, .return_, .aload 0, .getfield 2, .iconst 8, .aload 0, .getfield 0, .aload 0, .getfield 13, .aload 0, .iload 1, .invokevirtual 124,
  .invokevirtual 91, .invokevirtual 107, .istore 3, .iconst (-1), .istore 4, .aload 0, .getfield 14, .iconst (-1), .if_icmp .eq 59, .aload 0, .getfield 2, .iconst 9, .aload 0, .getfield 0,
  .aload 0, .getfield 14, .aload 0, .iload 2, .invokevirtual 124, .invokevirtual 91, .invokevirtual 107, .istore 4, .iload 3, .iload 4, .iload 3, .if_icmp .gt 56, .iconst 1, .goto 57,
  .iconst 0, .fadd, .istore 3, .nop, .aload 0, .bipush 0, .putfield 10, .iconst 0, .istore 5, .nop, .iload 5, .aload 0, .getfield 0, .getfield 316,
  .if_icmp .ge 181, .iconst 0, .istore 6, .nop, .iload 6, .aload 0, .getfield 2, .getfield 511, .if_icmp .ge 106, .aload 0, .getfield 2, .getfield 503, .iload 6, .iaload,
  .istore 7, .aload 0, .getfield 2, .getfield 504, .iload 6, .iload 7, .iconst 8, .if_icmp .ge 101, .aload 0, .getfield 5, .iload 5, .iconst 8, .fmul, .iload 7,
  .fadd, .iaload, .goto 102, .iconst 0, .iastore, .nop, .iinc 6 1, .goto 73, .aload 0, .getfield 2, .iload 5, .invokevirtual 116, .lstore 6, .aload 0,
  .getfield 2, .getfield 504, .iload 3, .iconst 1, .iastore, .aload 0, .getfield 2, .iload 5, .invokevirtual 116, .lstore 8, .aload 0, .dup, .getfield 10, .lload 6,
  .dadd, .putfield 10, .aload 0, .getfield 6, .iload 5, .lload 8, .lload 6, .dsub, .lastore, .iload 4, .iconst (-1), .if_icmp .eq 178, .aload 0, .getfield 2,
  .getfield 504, .iload 4, .iconst 1, .iastore, .aload 0, .getfield 2, .iload 5, .invokevirtual 116, .lstore 10, .aload 0, .getfield 2, .getfield 504, .iload 3, .iconst 0,
  .iastore, .aload 0, .getfield 2, .iload 5, .invokevirtual 116, .lstore 12, .aload 0, .getfield 7, .iload 5, .lload 12, .lload 6, .dsub, .lastore, .aload 0,
  .getfield 8, .iload 5, .lload 10, .lload 8, .dsub, .lload 12, .dsub, .lload 6, .dadd, .lastore, .nop, .iinc 5 1, .goto 65, .return_]
def p_126 : List Nat := [0, 1, 4, 5, 8, 9, 12, 15, 17, 18, 21, 22, 25, 26, 29, 30, 31, 34, 35, 36, 39, 41, 42, 45, 46, 49, 50, 51, 54, 57,
  60, 61, 62, 64, 65, 68, 69, 72, 73, 76, 78, 79, 82, 83, 86, 87, 88, 91, 94, 97, 99, 100, 102, 103, 106, 107, 110, 111, 112, 113,
  113, 114, 115, 118, 119, 121, 121, 123, 124, 127, 130, 133, 134, 136, 136, 138, 139, 142, 145, 148, 149, 152, 155, 157, 158, 160, 161, 164, 167, 169,
  171, 173, 176, 177, 180, 182, 184, 185, 187, 188, 189, 192, 193, 194, 194, 197, 200, 201, 204, 206, 209, 211, 212, 215, 218, 219, 220, 221, 222, 225,
  227, 230, 232, 233, 234, 237, 239, 240, 243, 244, 247, 249, 251, 253, 254, 255, 257, 258, 261, 262, 265, 268, 270, 271, 272, 273, 276, 278, 281, 283,
  284, 287, 290, 291, 292, 293, 294, 297, 299, 302, 304, 305, 308, 310, 312, 314, 315, 316, 317, 320, 322, 324, 326, 327, 329, 330, 332, 333, 334, 334,
  337, 340]
/-- WakeHouse$BestTwo.compareBeds(II)V -/
def c_127 : List aI := [.iconst 0, .istore 3, .nop, .iload 3, .aload 0, .getfield 0, .getfield 314, .if_icmp .ge 84, .iload 1, .iload 3, .invokestatic 125, .istore 4, .aload 0, .getfield 10,
  .lstore 5, .iconst 0, .istore 7, .nop, .iload 7, .aload 0, .getfield 0, .getfield 316, .if_icmp .ge 58, .aload 0, .getfield 3, .iload 4, .iload 7, .fadd,
  .iaload, .istore 8, .lload 5, .aload 0, .getfield 6, .iload 7, .laload, .iload 8, .i2l, .dmul, .dadd, .lstore 5, .aload 0, .getfield 9,
  .iload 7, .aload 0, .getfield 7, .iload 7, .laload, .aload 0, .getfield 8, .iload 7, .laload, .iload 8, .i2l, .dmul, .dadd, .lastore,
  .iinc 7 1, .goto 17, .iload 3, .iconst 12, .fmul, .iload 1, .fadd, .iconst 12, .fmul, .iconst 12, .fmul, .istore 7, .aload 0, .getfield 14,
  .iconst (-1), .if_icmp .ne 77, .aload 0, .lload 5, .iload 7, .invokevirtual 128, .goto 82, .aload 0, .lload 5, .iload 7, .iload 2, .invokevirtual 129, .iinc 3 1, .goto 2,
  .return_]
def p_127 : List Nat := [0, 1, 2, 2, 3, 4, 7, 10, 13, 14, 15, 18, 20, 21, 24, 26, 27, 29, 29, 31, 32, 35, 38, 41, 42, 45, 47, 49, 50, 51,
  53, 55, 56, 59, 61, 62, 64, 65, 66, 67, 69, 70, 73, 75, 76, 79, 81, 82, 83, 86, 88, 89, 91, 92, 93, 94, 95, 98, 101, 102,
  104, 105, 106, 107, 109, 110, 112, 113, 115, 116, 119, 120, 123, 124, 126, 128, 131, 134, 135, 137, 139, 140, 143, 146, 149]
/-- WakeHouse$BestTwo.compare(JI)V -/
def c_128 : List aI := [.aload 0, .getfield 12, .iconst (-1), .if_icmp .eq 18, .lload 1, .aload 0, .getfield 11, .lcmp, .ifCond .lt 18, .lload 1, .aload 0, .getfield 11, .lcmp, .ifCond .ne 24,
  .iload 3, .aload 0, .getfield 12, .if_icmp .ge 24, .aload 0, .lload 1, .putfield 11, .aload 0, .iload 3, .putfield 12, .return_]
def p_128 : List Nat := [0, 1, 4, 5, 8, 9, 10, 13, 14, 17, 18, 19, 22, 23, 26, 27, 28, 31, 34, 35, 36, 39, 40, 41, 44]
/-- WakeHouse$BestTwo.compareSeconds(JII)V -/
def c_129 : List aI := [.iconst 0, .istore 5, .nop, .iload 5, .aload 0, .getfield 0, .getfield 314, .if_icmp .ge 51, .iload 4, .iload 5, .invokestatic 125, .istore 6, .lload 1, .lstore 7,
  .iconst 0, .istore 9, .nop, .iload 9, .aload 0, .getfield 0, .getfield 316, .if_icmp .ge 39, .lload 7, .aload 0, .getfield 9, .iload 9, .laload, .aload 0,
  .getfield 4, .iload 6, .iload 9, .fadd, .iaload, .i2l, .dmul, .dadd, .lstore 7, .iinc 9 1, .goto 16, .aload 0, .lload 7, .iload 3,
  .iload 5, .iconst 12, .fmul, .fadd, .iload 4, .fadd, .invokevirtual 128, .iinc 5 1, .goto 2, .return_]
def p_129 : List Nat := [0, 1, 3, 3, 5, 6, 9, 12, 15, 17, 19, 22, 24, 25, 27, 28, 30, 30, 32, 33, 36, 39, 42, 44, 45, 48, 50, 51, 52, 55,
  57, 59, 60, 61, 62, 63, 64, 66, 69, 72, 73, 75, 76, 78, 80, 81, 82, 84, 85, 88, 91, 94]
/-- WakeHouse.bestAt(IIII)I -/
def c_130 : List aI := [.iload 4, .ifCond .lt 5, .iload 4, .iconst 3, .if_icmp .le 7, .iconst (-1), .ireturn, .aload 0, .iload 1, .iload 2, .iload 3, .invokevirtual 120, .istore 5, .iload 5,
  .ifCond .eq 17, .iload 5, .ireturn, .iload 4, .iconst 2, .if_icmp .lt 25, .iload 2, .iconst (-1), .if_icmp .ne 25, .iconst (-1), .ireturn, .aload 0, .getfield 1106, .iload 1,
  .iload 2, .iload 3, .aload 0, .getfield 1111, .invokevirtual 121, .aload 0, .getfield 1106, .iload 4, .invokevirtual 131, .ireturn]
def p_130 : List Nat := [0, 2, 5, 7, 8, 11, 12, 13, 14, 15, 16, 17, 20, 22, 24, 27, 29, 30, 32, 33, 36, 37, 38, 41, 42, 43, 44, 47, 48, 49,
  50, 51, 54, 57, 58, 61, 63, 66]
/-- WakeHouse$BestTwo.found(I)I -/
def c_131 : List aI := [.iload 1, .tableswitch 23 0 2 #[2, 7, 16], .aload 0, .getfield 12, .iconst 1728, .idiv, .ireturn, .aload 0, .aload 0, .getfield 12, .iconst 144, .idiv, .iconst 12, .irem,
  .invokevirtual 124, .ireturn, .aload 0, .getfield 12, .iconst 12, .idiv, .iconst 12, .irem, .ireturn, .aload 0, .aload 0, .getfield 12, .iconst 12, .irem,
  .invokevirtual 124, .ireturn]
def p_131 : List Nat := [0, 1, 28, 29, 32, 35, 36, 37, 38, 39, 42, 45, 46, 48, 49, 52, 53, 54, 57, 59, 60, 62, 63, 64, 65, 66, 69, 71, 72, 75]
/-- WakeHouse.fewest(I)I -/
def c_132 : List aI := [.aload 0, .iload 1, .invokevirtual 90, .ifCond .eq 9, .aload 0, .getfield 1107, .iload 1, .invokevirtual 133, .goto 10, .iconst (-1), .ireturn]
def p_132 : List Nat := [0, 1, 2, 5, 8, 9, 12, 13, 16, 19, 20]
/-- WakeHouse$Cover.fewestRings(I)I -/
def c_133 : List aI := [.aload 0, .iload 1, .invokevirtual 134, .ifCond .eq 6, .iconst (-2), .ireturn, .aload 0, .invokevirtual 138, .istore 2, .aload 0, .getfield 204, .iconst 100, .invokestatic 71, .aload 0,
  .getfield 204, .iconst 0, .iconst 0, .iastore, .iconst 0, .istore 3, .nop, .iload 3, .iload 2, .if_icmp .ge 36, .aload 0, .getfield 204, .iload 3, .iaload,
  .iconst 100, .if_icmp .ge 34, .aload 0, .iload 3, .iload 2, .invokevirtual 139, .iinc 3 1, .goto 20, .aload 0, .getfield 204, .iload 2, .iaload, .ireturn]
def p_133 : List Nat := [0, 1, 2, 5, 8, 10, 11, 12, 15, 16, 17, 20, 22, 25, 26, 29, 30, 31, 32, 33, 34, 34, 35, 36, 39, 40, 43, 44, 45, 47,
  50, 51, 52, 53, 56, 59, 62, 63, 66, 67, 68]
/-- WakeHouse$Cover.deafOnes(I)I -/
def c_134 : List aI := [.aload 0, .iload 1, .invokevirtual 135, .aload 0, .invokevirtual 138, .istore 2, .iconst 0, .istore 3, .nop, .iload 3, .aload 0, .getfield 205, .if_icmp .ge 24, .iload 2,
  .aload 0, .getfield 203, .iload 3, .iaload, .iconst (-1), .ixor, .iand, .istore 2, .iinc 3 1, .goto 8, .iload 2, .ireturn]
def p_134 : List Nat := [0, 1, 2, 5, 6, 9, 10, 11, 12, 12, 13, 14, 17, 20, 21, 22, 25, 26, 27, 28, 29, 30, 31, 34, 37, 38]
/-- WakeHouse$Cover.gather(I)V -/
def c_135 : List aI := [.aload 0, .iconst 0, .putfield 205, .iconst 0, .istore 2, .nop, .iload 2, .aload 0, .getfield 200, .getfield 314, .if_icmp .ge 44, .iconst 0, .istore 3, .nop,
  .iload 3, .aload 0, .getfield 200, .getfield 317, .if_icmp .ge 42, .aload 0, .getfield 200, .iload 1, .aload 0, .getfield 200, .getfield 309, .iload 3, .iaload, .invokevirtual 91,
  .istore 4, .aload 0, .aload 0, .aload 0, .getfield 200, .getfield 302, .iload 1, .iaload, .iload 2, .iload 4, .invokevirtual 136, .invokevirtual 137, .iinc 3 1, .goto 13,
  .iinc 2 1, .goto 5, .return_]
def p_135 : List Nat := [0, 1, 2, 5, 6, 7, 7, 8, 9, 12, 15, 18, 19, 20, 20, 21, 22, 25, 28, 31, 32, 35, 36, 37, 40, 43, 44, 45, 48, 50,
  51, 52, 53, 56, 59, 60, 61, 62, 64, 67, 70, 73, 76, 79, 82]
/-- WakeHouse$Cover.wokenBy(III)I -/
def c_136 : List aI := [.iconst 0, .istore 4, .iconst 0, .istore 5, .nop, .iload 5, .aload 0, .getfield 200, .getfield 316, .if_icmp .ge 65, .aload 0, .getfield 200, .getfield 306, .iload 5,
  .iaload, .istore 6, .iload 6, .iconst (-2), .if_icmp .eq 24, .iload 3, .iload 6, .if_icmp .gt 24, .iconst 1, .goto 26, .nop, .iconst 0, .istore 7, .nop,
  .iload 7, .ifCond .eq 62, .aload 0, .getfield 202, .iload 5, .iload 6, .iload 3, .fsub, .invokevirtual 88, .ifCond .ne 62, .aload 0, .getfield 200, .iload 5, .aload 0,
  .getfield 201, .getfield 904, .iload 5, .iaload, .aload 0, .getfield 201, .iload 5, .invokevirtual 77, .iload 1, .iload 2, .iload 3, .invokevirtual 83, .iconst 10, .if_icmp .ne 62,
  .iload 4, .iconst 1, .iload 5, .ishl, .ior, .istore 4, .nop, .iinc 5 1, .goto 4, .iload 4, .ireturn]
def p_136 : List Nat := [0, 1, 3, 4, 6, 6, 8, 9, 12, 15, 18, 19, 22, 25, 27, 28, 30, 32, 34, 37, 38, 40, 43, 44, 47, 47, 48, 50, 50, 52,
  55, 56, 59, 61, 63, 64, 65, 68, 71, 72, 75, 77, 78, 81, 84, 86, 87, 88, 91, 93, 96, 97, 98, 99, 102, 104, 107, 109, 110, 112,
  113, 114, 116, 116, 119, 122, 124]
/-- WakeHouse$Cover.keep(I)V -/
def c_137 : List aI := [.iconst 0, .istore 2, .nop, .iload 2, .aload 0, .getfield 205, .if_icmp .ge 19, .iload 1, .aload 0, .getfield 203, .iload 2, .iaload, .iconst (-1), .ixor,
  .iand, .ifCond .ne 17, .return_, .iinc 2 1, .goto 2, .iload 1, .ifCond .eq 39, .aload 0, .getfield 205, .aload 0, .getfield 203, .arraylength, .if_icmp .ge 39, .aload 0,
  .getfield 203, .aload 0, .getfield 205, .iload 1, .iastore, .aload 0, .dup, .getfield 205, .iconst 1, .fadd, .putfield 205, .return_]
def p_137 : List Nat := [0, 1, 2, 2, 3, 4, 7, 10, 11, 12, 15, 16, 17, 18, 19, 20, 23, 24, 27, 30, 31, 34, 35, 38, 39, 42, 43, 46, 47, 50,
  51, 54, 55, 56, 57, 58, 61, 62, 63, 66]
/-- WakeHouse$Cover.bound()I -/
def c_138 : List aI := [.iconst 0, .istore 1, .iconst 0, .istore 2, .nop, .iload 2, .aload 0, .getfield 200, .getfield 316, .if_icmp .ge 27, .iload 1, .aload 0, .getfield 200, .getfield 306,
  .iload 2, .iaload, .iconst (-2), .if_icmp .ne 20, .iconst 0, .goto 23, .iconst 1, .iload 2, .ishl, .ior, .istore 1, .iinc 2 1, .goto 4, .iload 1,
  .ireturn]
def p_138 : List Nat := [0, 1, 2, 3, 4, 4, 5, 6, 9, 12, 15, 16, 17, 20, 23, 24, 25, 27, 30, 31, 34, 35, 36, 37, 38, 39, 42, 45, 46]
/-- WakeHouse$Cover.goOn(II)V -/
def c_139 : List aI := [.iload 2, .iload 1, .iconst (-1), .ixor, .iand, .istore 3, .iload 3, .iload 3, .ineg, .iand, .istore 4, .iconst 0, .istore 5, .nop,
  .iload 5, .aload 0, .getfield 205, .if_icmp .ge 49, .aload 0, .getfield 203, .iload 5, .iaload, .iload 4, .iand, .ifCond .eq 47, .iload 1, .aload 0, .getfield 203,
  .iload 5, .iaload, .ior, .istore 6, .aload 0, .getfield 204, .iload 6, .aload 0, .getfield 204, .iload 6, .iaload, .aload 0, .getfield 204, .iload 1,
  .iaload, .iconst 1, .fadd, .invokeinterface 3 0, .iastore, .iinc 5 1, .goto 13, .return_]
def p_139 : List Nat := [0, 1, 2, 3, 4, 5, 6, 7, 8, 9, 10, 12, 13, 15, 15, 17, 18, 21, 24, 25, 28, 30, 31, 33, 34, 37, 38, 39, 42, 44,
  45, 46, 48, 49, 52, 54, 55, 58, 60, 61, 62, 65, 66, 67, 68, 69, 72, 73, 76, 79]
/-- WakeHouse.deaf(I)I -/
def c_140 : List aI := [.aload 0, .iload 1, .invokevirtual 90, .ifCond .eq 9, .aload 0, .getfield 1107, .iload 1, .invokevirtual 134, .goto 10, .iconst (-1), .ireturn]
def p_140 : List Nat := [0, 1, 2, 5, 8, 9, 12, 13, 16, 19, 20]
/-- WakeHouse.walk(II)I -/
def c_141 : List aI := [.aload 0, .iload 1, .invokevirtual 76, .ifCond .eq 8, .aload 0, .iload 2, .invokevirtual 76, .ifCond .ne 10, .iconst (-1), .ireturn, .aload 0, .getfield 1102, .aload 0, .getfield 1103,
  .getfield 904, .iload 1, .iaload, .aload 0, .getfield 1103, .getfield 904, .iload 2, .iaload, .invokevirtual 142, .ireturn]
def p_141 : List Nat := [0, 1, 2, 5, 8, 9, 10, 13, 16, 17, 18, 19, 22, 23, 26, 29, 30, 31, 32, 35, 38, 39, 40, 43]
/-- WakeHouse$House.walking(II)I -/
def c_142 : List aI := [.iconst 1, .aload 0, .iload 1, .iload 2, .invokevirtual 84, .fadd, .iconst 3, .aload 0, .getfield 300, .iload 1, .iaload, .aload 0, .getfield 300, .iload 2,
  .iaload, .fsub, .invokeinterface 4 0, .fmul, .fadd, .ireturn]
def p_142 : List Nat := [0, 1, 2, 3, 4, 7, 8, 9, 10, 13, 14, 15, 16, 19, 20, 21, 22, 25, 26, 27]
/-- WakeHouse.shakes(II)I -/
def c_143 : List aI := [.iload 1, .iconst 1, .if_icmp .lt 11, .iload 1, .iconst 2, .if_icmp .gt 11, .iload 2, .ifCond .lt 11, .iload 2, .iconst 1, .if_icmp .le 13, .iconst (-1), .ireturn, .aload 0,
  .getfield 1108, .iload 1, .invokevirtual 144, .iload 2, .ifCond .ne 23, .aload 0, .getfield 1108, .getfield 811, .goto 26, .aload 0, .getfield 1108, .getfield 812, .ireturn]
def p_143 : List Nat := [0, 1, 2, 5, 6, 7, 10, 11, 14, 15, 16, 19, 20, 21, 22, 25, 26, 29, 30, 33, 34, 37, 40, 43, 44, 47, 50]
/-- WakeHouse$Shaking.match(I)V -/
def c_144 : List aI := [.aload 0, .getfield 800, .getfield 318, .istore 2, .aload 0, .iload 2, .iload 1, .fmul, .iload 2, .fadd, .putfield 810, .aload 0, .iload 1, .invokevirtual 145,
  .aload 0, .getfield 804, .bipush 0, .invokestatic 148, .aload 0, .getfield 805, .bipush 0, .invokestatic 148, .aload 0, .getfield 807, .iconst 0, .invokestatic 71, .iconst 1, .istore 3,
  .nop, .iload 3, .iload 2, .if_icmp .gt 37, .aload 0, .iload 3, .invokevirtual 149, .iinc 3 1, .goto 28, .aload 0, .iload 1, .invokevirtual 152, .return_]
def p_144 : List Nat := [0, 1, 4, 7, 8, 9, 10, 11, 12, 13, 14, 17, 18, 19, 22, 23, 26, 27, 30, 31, 34, 35, 38, 39, 42, 43, 46, 47, 48, 48,
  49, 50, 53, 54, 55, 58, 61, 64, 65, 66, 69]
/-- WakeHouse$Shaking.setPrices(I)V -/
def c_145 : List aI := [.aload 0, .getfield 800, .getfield 318, .istore 2, .iconst 0, .istore 3, .nop, .iload 3, .iload 2, .if_icmp .ge 77, .iconst 0, .istore 4, .nop, .iload 4,
  .aload 0, .getfield 810, .if_icmp .ge 75, .iload 4, .iload 1, .invokestatic 352, .istore 5, .bipush 8, .getstatic 3, .iload 3, .iaload, .i2l, .dmul, .lstore 6,
  .iload 5, .iload 2, .if_icmp .ge 64, .aload 0, .iload 5, .iload 3, .invokevirtual 146, .ifCond .ne 38, .bipush 6586148313000, .goto 63, .iload 5, .i2l, .getstatic 3, .iload 3,
  .iaload, .i2l, .dmul, .bipush 6586148313, .dsub, .bipush 43046721, .aload 0, .aload 0, .getfield 800, .getfield 310, .iload 5, .iaload, .aload 0, .getfield 800,
  .getfield 310, .iload 3, .iaload, .invokevirtual 147, .i2l, .dmul, .dadd, .lstore 6, .aload 0, .getfield 803, .iload 3, .iconst 24, .fmul, .iload 4,
  .fadd, .lload 6, .lastore, .iinc 4 1, .goto 12, .iinc 3 1, .goto 6, .return_]
def p_145 : List Nat := [0, 1, 4, 7, 8, 9, 10, 10, 11, 12, 15, 16, 18, 18, 20, 21, 24, 27, 29, 30, 33, 35, 38, 41, 42, 43, 44, 45, 47, 49,
  50, 53, 54, 56, 57, 60, 63, 66, 69, 71, 72, 75, 76, 77, 78, 79, 82, 83, 86, 87, 88, 91, 94, 96, 97, 98, 101, 104, 105, 106,
  109, 110, 111, 112, 114, 115, 118, 119, 121, 122, 124, 125, 127, 128, 131, 134, 137, 140]
/-- WakeHouse$Shaking.canShake(II)Z -/
def c_146 : List aI := [.aload 0, .getfield 800, .getfield 310, .iload 1, .iaload, .istore 3, .aload 0, .getfield 800, .getfield 310, .iload 2, .iaload, .istore 4, .iload 1, .iload 2,
  .if_icmp .eq 33, .aload 0, .getfield 800, .getfield 306, .iload 3, .iaload, .aload 0, .iload 3, .iload 4, .invokevirtual 147, .fadd, .aload 0, .getfield 800, .getfield 306,
  .iload 4, .iaload, .if_icmp .gt 33, .iconst 1, .goto 34, .iconst 0, .freturn]
def p_146 : List Nat := [0, 1, 4, 7, 8, 9, 10, 11, 14, 17, 18, 19, 21, 22, 23, 26, 27, 30, 33, 34, 35, 36, 37, 39, 42, 43, 44, 47, 50, 52,
  53, 56, 57, 60, 61]
/-- WakeHouse$Shaking.walkOf(II)I -/
def c_147 : List aI := [.aload 0, .getfield 800, .aload 0, .getfield 801, .getfield 904, .iload 1, .iaload, .aload 0, .getfield 801, .getfield 904, .iload 2, .iaload, .invokevirtual 142, .ireturn]
def p_147 : List Nat := [0, 1, 4, 5, 8, 11, 12, 13, 14, 17, 20, 21, 22, 25]
/-- java/util/Arrays.fill([JJ)V -/
def c_148 : List aI := [.iconst 0, .istore 3, .aload 0, .arraylength, .istore 4, .nop, .iload 3, .iload 4, .if_icmp .ge 15, .aload 0, .iload 3, .lload 1, .lastore, .iinc 3 1,
  .goto 5, .return_]
def p_148 : List Nat := [0, 1, 2, 3, 4, 6, 6, 7, 9, 12, 13, 14, 15, 16, 19, 22]
/-- WakeHouse$Shaking.seat(I)V -/
def c_149 : List aI := [.aload 0, .getfield 807, .iconst 0, .iload 1, .iastore, .aload 0, .getfield 806, .bipush 9223372036854775807, .invokestatic 148, .aload 0, .iconst 0, .putfield 809, .iconst 0, .istore 2,
  .iconst 0, .istore 3, .nop, .iload 3, .aload 0, .getfield 810, .if_icmp .gt 40, .aload 0, .getfield 807, .iload 2, .iaload, .ifCond .eq 40, .aload 0, .dup,
  .getfield 809, .iconst 1, .iload 2, .ishl, .ior, .putfield 809, .aload 0, .iload 2, .invokevirtual 150, .istore 2, .iinc 3 1, .goto 16, .iconst 0, .istore 3,
  .nop, .iload 3, .aload 0, .getfield 810, .if_icmp .gt 67, .iload 2, .ifCond .eq 67, .aload 0, .getfield 807, .iload 2, .aload 0, .getfield 807, .aload 0, .getfield 808,
  .iload 2, .iaload, .iaload, .iastore, .aload 0, .getfield 808, .iload 2, .iaload, .istore 2, .iinc 3 1, .goto 42, .return_]
def p_149 : List Nat := [0, 1, 4, 5, 6, 7, 8, 11, 14, 17, 18, 19, 22, 23, 24, 25, 26, 26, 27, 28, 31, 34, 35, 38, 39, 40, 43, 44, 45, 48,
  49, 50, 51, 52, 55, 56, 57, 60, 61, 64, 67, 68, 69, 69, 70, 71, 74, 77, 78, 81, 82, 85, 86, 87, 90, 91, 94, 95, 96, 97,
  98, 99, 102, 103, 104, 105, 108, 111]
/-- WakeHouse$Shaking.nearest(I)I -/
def c_150 : List aI := [.aload 0, .getfield 807, .iload 1, .iaload, .istore 2, .iconst 0, .istore 3, .iconst 1, .istore 4, .nop, .iload 4, .aload 0, .getfield 810, .if_icmp .gt 75,
  .aload 0, .iload 4, .invokevirtual 151, .ifCond .eq 19, .goto 73, .aload 0, .getfield 803, .iload 2, .iconst 1, .fsub, .iconst 24, .fmul, .iload 4, .fadd,
  .iconst 1, .fsub, .laload, .aload 0, .getfield 804, .iload 2, .laload, .dsub, .aload 0, .getfield 805, .iload 4, .laload, .dsub, .lstore 5,
  .lload 5, .aload 0, .getfield 806, .iload 4, .laload, .lcmp, .ifCond .ge 59, .aload 0, .getfield 806, .iload 4, .lload 5, .lastore, .aload 0, .getfield 808,
  .iload 4, .iload 1, .iastore, .iload 3, .ifCond .eq 71, .aload 0, .getfield 806, .iload 4, .laload, .aload 0, .getfield 806, .iload 3, .laload, .lcmp,
  .ifCond .ge 73, .iload 4, .istore 3, .iinc 4 1, .goto 9, .aload 0, .getfield 806, .iload 3, .laload, .lstore 4, .iconst 0, .istore 6, .nop, .iload 6,
  .aload 0, .getfield 810, .if_icmp .gt 121, .aload 0, .iload 6, .invokevirtual 151, .ifCond .eq 111, .aload 0, .getfield 804, .aload 0, .getfield 807, .iload 6, .iaload, .dup2,
  .laload, .lload 4, .dadd, .lastore, .aload 0, .getfield 805, .iload 6, .dup2, .laload, .lload 4, .dsub, .lastore, .goto 119, .aload 0,
  .getfield 806, .iload 6, .dup2, .laload, .lload 4, .dsub, .lastore, .iinc 6 1, .goto 82, .iload 3, .ireturn]
def p_150 : List Nat := [0, 1, 4, 5, 6, 7, 8, 9, 10, 12, 12, 14, 15, 18, 21, 22, 24, 27, 30, 33, 34, 37, 38, 39, 40, 42, 43, 45, 46, 47,
  48, 49, 50, 53, 54, 55, 56, 57, 60, 62, 63, 64, 66, 68, 69, 72, 74, 75, 76, 79, 80, 83, 85, 87, 88, 89, 92, 94, 95, 96,
  97, 100, 101, 104, 106, 107, 108, 111, 112, 113, 114, 117, 119, 120, 123, 126, 127, 130, 131, 132, 134, 135, 137, 137, 139, 140, 143, 146, 147, 149,
  152, 155, 156, 159, 160, 163, 165, 166, 167, 168, 170, 171, 172, 173, 176, 178, 179, 180, 182, 183, 184, 187, 188, 191, 193, 194, 195, 197, 198, 199,
  202, 205, 206]
/-- WakeHouse$Shaking.isDone(I)Z -/
def c_151 : List aI := [.aload 0, .getfield 809, .iload 1, .ishr, .iconst 1, .iand, .iconst 1, .if_icmp .ne 10, .iconst 1, .goto 11, .iconst 0, .freturn]
def p_151 : List Nat := [0, 1, 4, 5, 6, 7, 8, 9, 12, 13, 16, 17]
/-- WakeHouse$Shaking.tell(I)V -/
def c_152 : List aI := [.aload 0, .getfield 800, .getfield 318, .istore 2, .aload 0, .getfield 802, .iconst (-2), .invokestatic 71, .aload 0, .iconst 0, .putfield 811, .aload 0, .iconst 0, .putfield 812,
  .iconst 1, .istore 3, .nop, .iload 3, .iload 2, .iload 1, .fmul, .if_icmp .gt 70, .aload 0, .getfield 807, .iload 3, .iaload, .ifCond .eq 68, .aload 0,
  .getfield 800, .getfield 310, .iload 3, .iconst 1, .fsub, .iload 1, .invokestatic 352, .iaload, .istore 4, .aload 0, .getfield 800, .getfield 310, .aload 0, .getfield 807,
  .iload 3, .iaload, .iconst 1, .fsub, .iaload, .istore 5, .aload 0, .getfield 802, .iload 5, .iload 4, .iastore, .aload 0, .dup, .getfield 811,
  .iconst 1, .fadd, .putfield 811, .aload 0, .dup, .getfield 812, .aload 0, .iload 4, .iload 5, .invokevirtual 147, .fadd, .putfield 812, .iinc 3 1, .goto 16,
  .return_]
def p_152 : List Nat := [0, 1, 4, 7, 8, 9, 12, 14, 17, 18, 19, 22, 23, 24, 27, 28, 29, 29, 30, 31, 32, 33, 36, 37, 40, 41, 42, 45, 46, 49,
  52, 53, 54, 55, 56, 59, 60, 62, 63, 66, 69, 70, 73, 74, 75, 76, 77, 78, 80, 81, 84, 86, 88, 89, 90, 91, 94, 95, 96, 99,
  100, 101, 104, 105, 107, 109, 112, 113, 116, 119, 122]
/-- WakeHouse.shaker(II)I -/
def c_153 : List aI := [.iload 1, .iconst 1, .if_icmp .lt 10, .iload 1, .iconst 2, .if_icmp .gt 10, .aload 0, .iload 2, .invokevirtual 76, .ifCond .ne 12, .iconst (-1), .ireturn, .aload 0, .getfield 1108,
  .iload 1, .invokevirtual 144, .aload 0, .getfield 1108, .getfield 802, .iload 2, .iaload, .ireturn]
def p_153 : List Nat := [0, 1, 2, 5, 6, 7, 10, 11, 12, 15, 18, 19, 20, 21, 24, 25, 28, 29, 32, 35, 36, 37]
/-- WakeHouse.twice(IIII)J -/
def c_154 : List aI := [.aload 0, .iload 1, .iload 2, .iload 3, .iload 4, .invokevirtual 155, .ifCond .eq 15, .aload 0, .getfield 1105, .iload 1, .iload 2, .iload 3, .iload 4, .invokevirtual 156,
  .goto 16, .bipush (-1), .lreturn]
def p_154 : List Nat := [0, 1, 2, 3, 4, 6, 9, 12, 13, 16, 17, 18, 19, 21, 24, 27, 30]
/-- WakeHouse.mayRingTwice(IIII)Z -/
def c_155 : List aI := [.aload 0, .iload 1, .invokevirtual 76, .ifCond .eq 18, .iload 2, .invokestatic 81, .ifCond .eq 18, .iload 3, .iconst 1, .if_icmp .lt 18, .iload 3, .iconst 3, .if_icmp .gt 18, .iload 4,
  .ifCond .lt 18, .iload 4, .iconst 30, .if_icmp .le 20, .iconst 0, .freturn, .aload 0, .getfield 1102, .getfield 306, .iload 1, .iaload, .iconst (-2), .if_icmp .eq 42, .aload 0,
  .getfield 1102, .getfield 306, .iload 1, .iaload, .iload 4, .fsub, .ifCond .lt 42, .iload 4, .iconst 1, .fadd, .iload 3, .if_icmp .lt 42, .iconst 1, .goto 43,
  .iconst 0, .freturn]
def p_155 : List Nat := [0, 1, 2, 5, 8, 9, 12, 15, 16, 17, 20, 21, 22, 25, 27, 30, 32, 34, 37, 38, 39, 40, 43, 46, 47, 48, 50, 53, 54, 57,
  60, 61, 62, 64, 65, 68, 70, 71, 72, 73, 76, 77, 80, 81]
/-- WakeHouse$Night.ringOften(IIII)J -/
def c_156 : List aI := [.aload 0, .getfield 500, .getfield 306, .iload 1, .iaload, .iload 4, .fsub, .istore 5, .aload 0, .getfield 501, .getfield 904, .iload 1, .iaload, .istore 6,
  .iconst 0, .istore 7, .nop, .iload 7, .iload 4, .if_icmp .gt 40, .aload 0, .getfield 509, .iload 7, .aload 0, .getfield 500, .iload 1, .iload 6, .aload 0,
  .getfield 501, .iload 1, .invokevirtual 77, .iload 2, .iload 6, .iload 5, .iload 7, .fadd, .invokevirtual 83, .iastore, .iinc 7 1, .goto 16, .iconst 0, .istore 7,
  .nop, .iload 7, .iload 3, .if_icmp .ge 53, .aload 0, .getfield 507, .iload 7, .iload 7, .iastore, .iinc 7 1, .goto 42, .aload 0, .iload 3, .putfield 511,
  .bipush (-1), .lstore 7, .iconst 1, .istore 9, .iconst 0, .istore 10, .nop, .iload 10, .iconst 5000, .if_icmp .ge 122, .iload 9, .ifCond .eq 122, .iconst 0, .istore 11,
  .nop, .iload 11, .iload 3, .if_icmp .ge 97, .aload 0, .getfield 502, .iload 11, .iload 5, .aload 0, .getfield 507, .iload 11, .iaload, .fadd, .iastore,
  .aload 0, .getfield 504, .iload 11, .aload 0, .getfield 509, .aload 0, .getfield 507, .iload 11, .iaload, .iaload, .iastore, .iinc 11 1, .goto 70, .aload 0,
  .iload 1, .invokevirtual 111, .lstore 11, .lload 11, .lload 7, .lcmp, .ifCond .le 115, .lload 11, .lstore 7, .aload 0, .getfield 502, .iconst 0, .aload 0, .getfield 508,
  .iconst 0, .iload 3, .invokeinterface 1 0, .aload 0, .iload 3, .iload 4, .invokevirtual 157, .istore 9, .iinc 10 1, .goto 62, .lload 7, .lreturn]
def p_156 : List Nat := [0, 1, 4, 7, 8, 9, 11, 12, 14, 15, 18, 21, 22, 23, 25, 26, 28, 28, 30, 32, 35, 36, 39, 41, 42, 45, 46, 48, 49, 52,
  53, 56, 57, 59, 61, 63, 64, 67, 68, 71, 74, 75, 77, 77, 79, 80, 83, 84, 87, 89, 91, 92, 95, 98, 99, 100, 103, 106, 108, 109,
  111, 112, 114, 114, 116, 119, 122, 124, 127, 128, 130, 130, 132, 133, 136, 137, 140, 142, 144, 145, 148, 150, 151, 152, 153, 154, 157, 159, 160, 163,
  164, 167, 169, 170, 171, 172, 175, 178, 179, 180, 183, 185, 187, 189, 190, 193, 195, 197, 198, 201, 202, 203, 206, 207, 208, 211, 212, 213, 215, 218,
  220, 223, 226, 228]
/-- WakeHouse$Night.pickNext(II)Z -/
def c_157 : List aI := [.iload 1, .iconst 1, .fsub, .istore 3, .nop, .iload 3, .ifCond .lt 53, .aload 0, .getfield 507, .iload 3, .iaload, .iload 2, .iload 1, .iconst 1,
  .fsub, .iload 3, .fsub, .fsub, .if_icmp .ge 51, .aload 0, .getfield 507, .iload 3, .dup2, .iaload, .iconst 1, .fadd, .iastore, .iload 3,
  .iconst 1, .fadd, .istore 4, .nop, .iload 4, .iload 1, .if_icmp .ge 49, .aload 0, .getfield 507, .iload 4, .aload 0, .getfield 507, .iload 4, .iconst 1,
  .fsub, .iaload, .iconst 1, .fadd, .iastore, .iinc 4 1, .goto 31, .iconst 1, .freturn, .iinc 3 (-1), .goto 4, .iconst 0, .freturn]
def p_157 : List Nat := [0, 1, 2, 3, 4, 4, 5, 8, 9, 12, 13, 14, 15, 16, 17, 18, 19, 20, 21, 24, 25, 28, 29, 30, 31, 32, 33, 34, 35, 36,
  37, 39, 39, 41, 42, 45, 46, 49, 51, 52, 55, 57, 58, 59, 60, 61, 62, 63, 66, 69, 70, 71, 74, 77, 78]
/-- WakeHouse.twiceAt(IIIII)I -/
def c_158 : List aI := [.aload 0, .iload 1, .iload 2, .iload 3, .iload 4, .invokevirtual 155, .ifCond .eq 12, .iload 5, .ifCond .lt 12, .iload 5, .iload 3, .if_icmp .lt 14, .iconst (-1), .ireturn,
  .aload 0, .getfield 1105, .iload 1, .iload 2, .iload 3, .iload 4, .invokevirtual 156, .pop2, .aload 0, .getfield 1105, .getfield 508, .iload 5, .iaload, .ireturn]
def p_158 : List Nat := [0, 1, 2, 3, 4, 6, 9, 12, 14, 17, 19, 20, 23, 24, 25, 26, 29, 30, 31, 32, 34, 37, 38, 39, 42, 45, 47, 48]
/-- WakeHouse.swaps(I)I -/
def c_159 : List aI := [.iload 1, .invokestatic 160, .ifCond .eq 8, .aload 0, .getfield 1110, .iload 1, .invokevirtual 161, .goto 9, .iconst (-1), .ireturn]
def p_159 : List Nat := [0, 1, 4, 7, 8, 11, 12, 15, 18, 19]
/-- WakeHouse.isLimit(I)Z -/
def c_160 : List aI := [.iload 0, .ifCond .lt 7, .iload 0, .iconst 99, .if_icmp .gt 7, .iconst 1, .goto 8, .iconst 0, .freturn]
def p_160 : List Nat := [0, 1, 4, 5, 7, 10, 11, 14, 15]
/-- WakeHouse$Changes.fewestChanges(I)I -/
def c_161 : List aI := [.aload 0, .invokevirtual 162, .bipush 0, .lstore 2, .iconst 0, .istore 4, .nop, .iload 4, .aload 0, .getfield 100, .getfield 316, .if_icmp .ge 25, .lload 2, .aload 0,
  .iload 4, .aload 0, .getfield 101, .getfield 904, .iload 4, .iaload, .invokevirtual 163, .dadd, .lstore 2, .iinc 4 1, .goto 6, .lload 2, .iload 1, .i2l,
  .getstatic 2, .aload 0, .getfield 101, .getfield 910, .laload, .dmul, .dsub, .lstore 4, .lload 4, .bipush 0, .lcmp, .ifCond .gt 42, .iconst 0, .ireturn,
  .aload 0, .getfield 101, .getfield 905, .iconst 0, .aload 0, .getfield 104, .iconst 0, .iconst 12, .invokeinterface 1 0, .aload 0, .lload 4, .iconst 0, .invokevirtual 164, .ifCond .eq 58,
  .iconst 1, .ireturn, .aload 0, .lload 4, .invokevirtual 166, .ifCond .eq 64, .iconst 2, .goto 65, .iconst (-2), .ireturn]
def p_161 : List Nat := [0, 1, 4, 5, 6, 7, 9, 9, 11, 12, 15, 18, 21, 22, 23, 25, 26, 29, 32, 34, 35, 38, 39, 40, 43, 46, 47, 48, 49, 52,
  53, 56, 59, 60, 61, 62, 64, 66, 67, 68, 71, 72, 73, 74, 77, 80, 81, 82, 85, 86, 88, 91, 92, 94, 95, 98, 101, 102, 103, 104,
  106, 109, 112, 113, 116, 118]
/-- WakeHouse$Changes.setPrices()V -/
def c_162 : List aI := [.aload 0, .getfield 102, .iconst (-1), .invokevirtual 106, .iconst 0, .istore 1, .nop, .iload 1, .aload 0, .getfield 100, .getfield 316, .if_icmp .ge 45, .iconst 0, .istore 2,
  .nop, .iload 2, .aload 0, .getfield 100, .getfield 314, .if_icmp .ge 43, .aload 0, .getfield 102, .iload 1, .iload 2, .aload 0, .getfield 101, .iload 1, .invokevirtual 77,
  .invokevirtual 109, .aload 0, .getfield 103, .iload 1, .iconst 12, .fmul, .iload 2, .fadd, .aload 0, .getfield 102, .iload 1, .invokevirtual 116, .lastore, .iinc 2 1,
  .goto 14, .iinc 1 1, .goto 6, .return_]
def p_162 : List Nat := [0, 1, 4, 5, 8, 9, 10, 10, 11, 12, 15, 18, 21, 22, 23, 23, 24, 25, 28, 31, 34, 35, 38, 39, 40, 41, 44, 45, 48, 51,
  52, 55, 56, 58, 59, 60, 61, 62, 65, 66, 69, 70, 73, 76, 79, 82]
/-- WakeHouse$Changes.priceOf(II)J -/
def c_163 : List aI := [.iload 1, .iconst (-2), .if_icmp .ne 5, .bipush 0, .goto 13, .aload 0, .getfield 103, .iload 1, .iconst 12, .fmul, .iload 2, .fadd, .laload, .lreturn]
def p_163 : List Nat := [0, 1, 3, 6, 7, 10, 11, 14, 15, 17, 18, 19, 20, 21]
/-- WakeHouse$Changes.seekOne(JI)Z -/
def c_164 : List aI := [.iconst 0, .istore 4, .nop, .iload 4, .aload 0, .getfield 100, .getfield 314, .if_icmp .ge 40, .iload 4, .iconst 1, .fadd, .istore 5, .nop, .iload 5,
  .aload 0, .getfield 100, .getfield 314, .if_icmp .ge 38, .aload 0, .iload 4, .iload 5, .invokevirtual 165, .lload 1, .lcmp, .ifCond .lt 36, .aload 0, .getfield 105, .iload 3,
  .iconst 100, .iload 4, .fmul, .iload 5, .fadd, .iastore, .iconst 1, .freturn, .iinc 5 1, .goto 12, .iinc 4 1, .goto 2, .iconst 0, .freturn]
def p_164 : List Nat := [0, 1, 3, 3, 5, 6, 9, 12, 15, 17, 18, 19, 21, 21, 23, 24, 27, 30, 33, 34, 36, 38, 41, 42, 43, 46, 47, 50, 51, 53,
  55, 56, 58, 59, 60, 61, 62, 65, 68, 71, 74, 75]
/-- WakeHouse$Changes.saved(II)J -/
def c_165 : List aI := [.aload 0, .getfield 104, .iload 1, .iaload, .istore 3, .aload 0, .getfield 104, .iload 2, .iaload, .istore 4, .aload 0, .iload 3, .iload 1, .invokevirtual 163,
  .aload 0, .iload 3, .iload 2, .invokevirtual 163, .dsub, .aload 0, .iload 4, .iload 2, .invokevirtual 163, .dadd, .aload 0, .iload 4, .iload 1, .invokevirtual 163,
  .dsub, .lreturn]
def p_165 : List Nat := [0, 1, 4, 5, 6, 7, 8, 11, 12, 13, 15, 16, 17, 18, 21, 22, 23, 24, 27, 28, 29, 31, 32, 35, 36, 37, 39, 40, 43, 44]
/-- WakeHouse$Changes.seekTwo(J)Z -/
def c_166 : List aI := [.iconst 0, .istore 3, .nop, .iload 3, .aload 0, .getfield 100, .getfield 314, .if_icmp .ge 53, .iload 3, .iconst 1, .fadd, .istore 4, .nop, .iload 4,
  .aload 0, .getfield 100, .getfield 314, .if_icmp .ge 51, .lload 1, .aload 0, .iload 3, .iload 4, .invokevirtual 165, .dsub, .lstore 5, .aload 0, .iload 3, .iload 4,
  .invokevirtual 167, .aload 0, .lload 5, .iconst 1, .invokevirtual 164, .ifCond .eq 45, .aload 0, .getfield 105, .iconst 0, .iconst 100, .iload 3, .fmul, .iload 4, .fadd,
  .iastore, .iconst 1, .freturn, .aload 0, .iload 3, .iload 4, .invokevirtual 167, .iinc 4 1, .goto 12, .iinc 3 1, .goto 2, .iconst 0, .freturn]
def p_166 : List Nat := [0, 1, 2, 2, 3, 4, 7, 10, 13, 14, 15, 16, 18, 18, 20, 21, 24, 27, 30, 31, 32, 33, 35, 38, 39, 41, 42, 43, 45, 48,
  49, 51, 52, 55, 58, 59, 62, 63, 65, 66, 67, 69, 70, 71, 72, 73, 74, 75, 77, 80, 83, 86, 89, 92, 93]
/-- WakeHouse$Changes.turn(II)V -/
def c_167 : List aI := [.aload 0, .getfield 104, .iload 1, .iaload, .istore 3, .aload 0, .getfield 104, .iload 1, .aload 0, .getfield 104, .iload 2, .iaload, .iastore, .aload 0,
  .getfield 104, .iload 2, .iload 3, .iastore, .return_]
def p_167 : List Nat := [0, 1, 4, 5, 6, 7, 8, 11, 12, 13, 16, 17, 18, 19, 20, 23, 24, 25, 26]
/-- WakeHouse.swapAt(II)I -/
def c_168 : List aI := [.iload 1, .invokestatic 160, .ifCond .ne 5, .iconst (-1), .ireturn, .aload 0, .getfield 1110, .iload 1, .invokevirtual 161, .istore 3, .iload 2, .ifCond .lt 21, .iload 2, .iload 3,
  .if_icmp .ge 21, .aload 0, .getfield 1110, .getfield 105, .iload 2, .iaload, .goto 22, .iconst (-1), .ireturn]
def p_168 : List Nat := [0, 1, 4, 7, 8, 9, 10, 13, 14, 17, 18, 19, 22, 23, 24, 27, 28, 31, 34, 35, 36, 39, 40]
/-- WakeHouse.worth(I)J -/
def c_169 : List aI := [.aload 0, .iload 1, .invokevirtual 76, .ifCond .ne 6, .bipush (-1000000000000000000), .lreturn, .aload 0, .getfield 1105, .iconst (-1), .invokevirtual 106, .aload 0, .getfield 1105, .iload 1, .invokevirtual 170,
  .lreturn]
def p_169 : List Nat := [0, 1, 2, 5, 8, 11, 12, 13, 16, 17, 20, 21, 24, 25, 28]
/-- WakeHouse$Night.worthOfWool(I)J -/
def c_170 : List aI := [.aload 0, .iload 1, .aload 0, .getfield 501, .getfield 904, .iload 1, .iaload, .iconst 0, .invokevirtual 109, .aload 0, .iload 1, .invokevirtual 116, .lstore 2, .aload 0,
  .iload 1, .aload 0, .getfield 501, .getfield 904, .iload 1, .iaload, .iconst 1, .invokevirtual 109, .lload 2, .aload 0, .iload 1, .invokevirtual 116, .dsub, .lreturn]
def p_170 : List Nat := [0, 1, 2, 3, 6, 9, 10, 11, 12, 15, 16, 17, 20, 21, 22, 23, 24, 27, 30, 31, 32, 33, 36, 37, 38, 39, 42, 43]
/-- WakeHouse.whose(I)I -/
def c_171 : List aI := [.iload 1, .ifCond .lt 10, .iload 1, .iconst 12, .if_icmp .gt 10, .aload 0, .getfield 1105, .iload 1, .invokevirtual 172, .goto 11, .iconst (-1), .ireturn]
def p_171 : List Nat := [0, 1, 4, 5, 7, 10, 11, 14, 15, 18, 21, 22]
/-- WakeHouse$Night.worthiest(I)I -/
def c_172 : List aI := [.aload 0, .iconst (-1), .invokevirtual 106, .iconst 0, .istore 2, .nop, .iload 2, .aload 0, .getfield 500, .getfield 316, .if_icmp .ge 20, .aload 0, .getfield 510, .iload 2,
  .aload 0, .iload 2, .invokevirtual 170, .lastore, .iinc 2 1, .goto 5, .iconst 0, .istore 2, .iconst 0, .istore 3, .nop, .iload 3, .iload 1, .if_icmp .ge 79,
  .iconst (-1), .istore 4, .iconst 0, .istore 5, .nop, .iload 5, .aload 0, .getfield 500, .getfield 316, .if_icmp .ge 62, .aload 0, .getfield 510, .iload 5, .laload,
  .bipush 0, .lcmp, .ifCond .le 60, .iload 4, .iconst (-1), .if_icmp .eq 58, .aload 0, .getfield 510, .iload 5, .laload, .aload 0, .getfield 510, .iload 4, .laload,
  .lcmp, .ifCond .le 60, .iload 5, .istore 4, .iinc 5 1, .goto 32, .iload 4, .iconst (-1), .if_icmp .ne 66, .goto 79, .iload 2, .iconst 1, .iload 4, .ishl,
  .ior, .istore 2, .aload 0, .getfield 510, .iload 4, .bipush 0, .lastore, .iinc 3 1, .goto 24, .iload 2, .ireturn]
def p_172 : List Nat := [0, 1, 2, 5, 6, 7, 7, 8, 9, 12, 15, 18, 19, 22, 23, 24, 25, 28, 29, 32, 35, 36, 37, 38, 39, 39, 40, 41, 44, 45,
  47, 48, 50, 50, 52, 53, 56, 59, 62, 63, 66, 68, 69, 70, 71, 74, 76, 77, 80, 81, 84, 86, 87, 88, 91, 93, 94, 95, 98, 100,
  102, 105, 108, 110, 111, 114, 117, 118, 119, 121, 122, 123, 124, 125, 128, 130, 131, 132, 135, 138, 139]
/-- WakeHouse.round(I)I -/
def c_173 : List aI := [.iload 1, .invokestatic 174, .ifCond .eq 8, .aload 0, .getfield 1109, .iload 1, .invokevirtual 175, .goto 9, .iconst (-1), .ireturn]
def p_173 : List Nat := [0, 1, 4, 7, 8, 11, 12, 15, 18, 19]
/-- WakeHouse.isEarly(I)Z -/
def c_174 : List aI := [.iload 0, .ifCond .lt 7, .iload 0, .iconst 60, .if_icmp .gt 7, .iconst 1, .goto 8, .iconst 0, .freturn]
def p_174 : List Nat := [0, 1, 4, 5, 7, 10, 11, 14, 15]
/-- WakeHouse$Round.walkRound(I)I -/
def c_175 : List aI := [.aload 0, .getfield 700, .getfield 318, .istore 2, .iload 2, .ifCond .ne 8, .iconst 0, .ireturn, .aload 0, .iload 1, .putfield 707, .aload 0, .iconst 1, .iload 2,
  .ishl, .iconst 1, .fsub, .putfield 706, .iconst 0, .istore 3, .nop, .iload 3, .iload 2, .if_icmp .ge 43, .aload 0, .getfield 703, .iload 3, .aload 0,
  .getfield 700, .getfield 301, .aload 0, .getfield 701, .getfield 904, .aload 0, .getfield 700, .getfield 310, .iload 3, .iaload, .iaload, .iaload, .iastore, .iinc 3 1,
  .goto 20, .aload 0, .invokevirtual 176, .iconst 100000, .istore 3, .iconst 0, .istore 4, .nop, .iload 4, .iload 2, .if_icmp .ge 67, .iload 3, .aload 0, .getfield 704,
  .aload 0, .getfield 706, .iconst 8, .fmul, .iload 4, .fadd, .iaload, .invokeinterface 3 0, .istore 3, .iinc 4 1, .goto 49, .iload 3, .iconst 100000, .if_icmp .ne 72,
  .iconst (-2), .ireturn, .aload 0, .iload 3, .invokevirtual 179, .aload 0, .invokevirtual 180, .iload 3, .ireturn]
def p_175 : List Nat := [0, 1, 4, 7, 8, 9, 12, 13, 14, 15, 16, 19, 20, 21, 22, 23, 24, 25, 28, 29, 30, 30, 31, 32, 35, 36, 39, 40, 41, 44,
  47, 48, 51, 54, 55, 58, 61, 62, 63, 64, 65, 66, 69, 72, 73, 76, 78, 79, 80, 82, 82, 84, 85, 88, 89, 90, 93, 94, 97, 99,
  100, 102, 103, 104, 107, 108, 111, 114, 115, 117, 120, 122, 123, 124, 125, 128, 129, 132, 133]
/-- WakeHouse$Round.goForward()V -/
def c_176 : List aI := [.aload 0, .getfield 700, .getfield 318, .istore 1, .aload 0, .getfield 704, .iconst 100000, .invokestatic 71, .iconst 0, .istore 2, .nop, .iload 2, .iload 1, .if_icmp .ge 33,
  .aload 0, .getfield 704, .iconst 1, .iload 2, .ishl, .iconst 8, .fmul, .iload 2, .fadd, .aload 0, .iload 2, .aload 0, .getfield 703, .iload 2,
  .iaload, .invokevirtual 177, .iastore, .iinc 2 1, .goto 10, .iconst 1, .istore 2, .nop, .iload 2, .aload 0, .getfield 706, .if_icmp .ge 112, .iconst 0, .istore 3,
  .nop, .iload 3, .iload 1, .if_icmp .ge 110, .aload 0, .getfield 704, .iload 2, .iconst 8, .fmul, .iload 3, .fadd, .iaload, .istore 4, .iconst 0,
  .istore 5, .nop, .iload 5, .iload 1, .if_icmp .ge 108, .iload 4, .iconst 100000, .if_icmp .ge 108, .iload 2, .iload 5, .ishr, .iconst 1, .iand, .ifCond .ne 106,
  .iload 2, .iconst 1, .iload 5, .ishl, .ior, .iconst 8, .fmul, .iload 5, .fadd, .istore 6, .aload 0, .iload 5, .iload 4, .aload 0,
  .getfield 703, .iload 3, .iaload, .aload 0, .getfield 703, .iload 5, .iaload, .fsub, .invokeinterface 4 0, .fadd, .invokevirtual 177, .istore 7, .aload 0, .getfield 704,
  .iload 6, .aload 0, .getfield 704, .iload 6, .iaload, .iload 7, .invokeinterface 3 0, .iastore, .iinc 5 1, .goto 57, .iinc 3 1, .goto 42, .iinc 2 1, .goto 35,
  .return_]
def p_176 : List Nat := [0, 1, 4, 7, 8, 9, 12, 14, 17, 18, 19, 19, 20, 21, 24, 25, 28, 29, 30, 31, 33, 34, 35, 36, 37, 38, 39, 42, 43, 44,
  47, 48, 51, 54, 55, 56, 56, 57, 58, 61, 64, 65, 66, 66, 67, 68, 71, 72, 75, 76, 78, 79, 80, 81, 82, 84, 85, 87, 87, 89,
  90, 93, 95, 97, 100, 101, 103, 104, 105, 106, 109, 110, 111, 113, 114, 115, 117, 118, 120, 121, 123, 124, 126, 128, 129, 132, 133, 134, 135, 138,
  140, 141, 142, 145, 146, 149, 151, 152, 155, 157, 158, 161, 163, 164, 166, 169, 170, 173, 176, 179, 182, 185, 188]
/-- WakeHouse$Round.knock(II)I -/
def c_177 : List aI := [.iload 2, .aload 0, .iload 1, .invokevirtual 178, .aload 0, .getfield 707, .fsub, .invokeinterface 2 0, .istore 3, .iload 3, .aload 0, .iload 1, .invokevirtual 178, .if_icmp .gt 16,
  .iload 3, .goto 17, .iconst 100000, .ireturn]
def p_177 : List Nat := [0, 1, 2, 3, 6, 7, 10, 11, 14, 15, 16, 17, 18, 21, 24, 25, 28, 30]
/-- WakeHouse$Round.hourOf(I)I -/
def c_178 : List aI := [.aload 0, .getfield 700, .getfield 306, .aload 0, .getfield 700, .getfield 310, .iload 1, .iaload, .iaload, .ireturn]
def p_178 : List Nat := [0, 1, 4, 7, 8, 11, 14, 15, 16, 17]
/-- WakeHouse$Round.goBackward(I)V -/
def c_179 : List aI := [.aload 0, .getfield 700, .getfield 318, .istore 2, .aload 0, .getfield 705, .iconst (-1), .invokestatic 71, .iconst 0, .istore 3, .nop, .iload 3, .iload 2, .if_icmp .ge 26,
  .aload 0, .getfield 705, .aload 0, .getfield 706, .iconst 8, .fmul, .iload 3, .fadd, .iload 1, .iastore, .iinc 3 1, .goto 10, .aload 0, .getfield 706,
  .iconst 1, .fsub, .istore 3, .nop, .iload 3, .ifCond .le 116, .iconst 0, .istore 4, .nop, .iload 4, .iload 2, .if_icmp .ge 114, .iconst 0, .istore 5,
  .nop, .iload 5, .iload 2, .if_icmp .ge 112, .iload 3, .iload 5, .ishr, .iconst 1, .iand, .ifCond .ne 110, .aload 0, .iload 5, .invokevirtual 178, .aload 0,
  .getfield 705, .iload 3, .iconst 1, .iload 5, .ishl, .ior, .iconst 8, .fmul, .iload 5, .fadd, .iaload, .invokeinterface 3 0, .istore 6, .iload 6,
  .aload 0, .iload 5, .invokevirtual 178, .aload 0, .getfield 707, .fsub, .if_icmp .lt 90, .iload 6, .aload 0, .getfield 703, .iload 4, .iaload, .aload 0, .getfield 703,
  .iload 5, .iaload, .fsub, .invokeinterface 4 0, .fsub, .goto 91, .iconst (-1), .istore 7, .aload 0, .getfield 705, .iload 3, .iconst 8, .fmul, .iload 4,
  .fadd, .aload 0, .getfield 705, .iload 3, .iconst 8, .fmul, .iload 4, .fadd, .iaload, .iload 7, .invokeinterface 2 0, .iastore, .iinc 5 1, .goto 42,
  .iinc 4 1, .goto 36, .iinc 3 (-1), .goto 31, .return_]
def p_179 : List Nat := [0, 1, 4, 7, 8, 9, 12, 13, 16, 17, 18, 18, 19, 20, 23, 24, 27, 28, 31, 33, 34, 35, 36, 37, 38, 41, 44, 45, 48, 49,
  50, 51, 51, 52, 55, 56, 58, 58, 60, 61, 64, 65, 67, 67, 69, 70, 73, 74, 76, 77, 78, 79, 82, 83, 85, 88, 89, 92, 93, 94,
  96, 97, 98, 100, 101, 103, 104, 105, 108, 110, 112, 113, 115, 118, 119, 122, 123, 126, 128, 129, 132, 134, 135, 136, 139, 141, 142, 143, 146, 147,
  150, 151, 153, 154, 157, 158, 160, 161, 163, 164, 165, 168, 169, 171, 172, 174, 175, 176, 178, 181, 182, 185, 188, 191, 194, 197, 200]
/-- WakeHouse$Round.pickOrder()V -/
def c_180 : List aI := [.aload 0, .getfield 700, .getfield 318, .istore 1, .iconst 0, .istore 2, .iconst 0, .istore 3, .iconst 0, .istore 4, .iconst 0, .istore 5, .nop, .iload 5,
  .iload 1, .if_icmp .ge 82, .iconst 0, .istore 6, .nop, .iload 6, .iload 1, .if_icmp .ge 80, .aload 0, .iload 6, .iload 3, .aload 0, .getfield 703, .iload 6,
  .iaload, .iload 4, .fsub, .invokeinterface 4 0, .fadd, .invokevirtual 177, .istore 7, .iload 2, .iload 6, .ishr, .iconst 1, .iand, .ifCond .ne 78, .iload 7,
  .aload 0, .getfield 705, .iload 2, .iconst 1, .iload 6, .ishl, .ior, .iconst 8, .fmul, .iload 6, .fadd, .iaload, .if_icmp .gt 78, .aload 0,
  .getfield 702, .iload 5, .aload 0, .getfield 700, .getfield 310, .iload 6, .iaload, .iastore, .iload 2, .iconst 1, .iload 6, .ishl, .ior, .istore 2,
  .iload 7, .istore 3, .aload 0, .getfield 703, .iload 6, .iaload, .istore 4, .goto 80, .iinc 6 1, .goto 18, .iinc 5 1, .goto 12, .return_]
def p_180 : List Nat := [0, 1, 4, 7, 8, 9, 10, 11, 12, 13, 15, 16, 18, 18, 20, 21, 24, 25, 27, 27, 29, 30, 33, 34, 36, 37, 38, 41, 43, 44,
  46, 47, 50, 51, 54, 56, 57, 59, 60, 61, 62, 65, 67, 68, 71, 72, 73, 75, 76, 77, 79, 80, 82, 83, 84, 87, 88, 91, 93, 94,
  97, 100, 102, 103, 104, 105, 106, 108, 109, 110, 111, 113, 114, 115, 118, 120, 121, 123, 126, 129, 132, 135, 138]
/-- WakeHouse.roundAt(II)I -/
def c_181 : List aI := [.iload 1, .invokestatic 174, .ifCond .eq 16, .iload 2, .ifCond .lt 16, .iload 2, .aload 0, .getfield 1102, .getfield 318, .if_icmp .ge 16, .aload 0, .getfield 1109, .iload 1, .invokevirtual 175,
  .iconst (-2), .if_icmp .ne 18, .iconst (-1), .ireturn, .aload 0, .getfield 1109, .getfield 702, .iload 2, .iaload, .ireturn]
def p_181 : List Nat := [0, 1, 4, 7, 8, 11, 12, 13, 16, 19, 22, 23, 26, 27, 30, 32, 35, 36, 37, 38, 41, 44, 45, 46]
/-- WakeHouse.morning(III)I -/
def c_182 : List aI := [.aload 0, .iload 1, .invokevirtual 76, .ifCond .eq 14, .iload 2, .ifCond .lt 14, .iload 2, .iconst 6, .if_icmp .gt 14, .iload 3, .ifCond .lt 14, .iload 3, .iconst 400, .if_icmp .le 16,
  .iconst (-1), .ireturn, .aload 0, .getfield 1103, .iload 1, .iload 2, .iload 3, .invokevirtual 183, .ireturn]
def p_182 : List Nat := [0, 1, 2, 5, 8, 9, 12, 13, 15, 18, 19, 22, 23, 26, 29, 30, 31, 32, 35, 36, 37, 38, 41]
/-- WakeHouse$State.note(III)I -/
def c_183 : List aI := [.aload 0, .getfield 912, .iconst 60, .if_icmp .lt 6, .iconst (-1), .ireturn, .aload 0, .getfield 906, .aload 0, .getfield 912, .iload 1, .iastore, .aload 0, .getfield 907,
  .aload 0, .getfield 912, .iload 2, .iastore, .aload 0, .getfield 908, .aload 0, .getfield 912, .iload 3, .iastore, .aload 0, .dup, .getfield 912, .iconst 1,
  .fadd, .putfield 912, .aload 0, .getfield 912, .iconst 1, .fsub, .ireturn]
def p_183 : List Nat := [0, 1, 4, 6, 9, 10, 11, 12, 15, 16, 19, 20, 21, 22, 25, 26, 29, 30, 31, 32, 35, 36, 39, 40, 41, 42, 43, 46, 47, 48,
  51, 52, 55, 56, 57]
/-- WakeHouse.annul(I)I -/
def c_184 : List aI := [.iload 1, .ifCond .lt 14, .iload 1, .aload 0, .getfield 1103, .getfield 912, .if_icmp .ge 14, .aload 0, .getfield 1103, .getfield 906, .iload 1, .iaload, .iconst (-1), .if_icmp .ne 16,
  .iconst (-1), .ireturn, .aload 0, .getfield 1103, .iconst (-1), .iconst 0, .iload 1, .invokevirtual 183, .ireturn]
def p_184 : List Nat := [0, 1, 4, 5, 6, 9, 12, 15, 16, 19, 22, 23, 24, 25, 28, 29, 30, 31, 34, 35, 36, 37, 40]
/-- WakeHouse.alone(IIII)I -/
def c_185 : List aI := [.aload 0, .iload 1, .invokevirtual 76, .ifCond .eq 18, .iload 2, .ifCond .lt 18, .iload 2, .iconst 7, .if_icmp .gt 18, .aload 0, .iload 3, .invokevirtual 186, .ifCond .eq 18, .iload 4,
  .ifCond .lt 18, .iload 4, .iconst 1, .if_icmp .le 20, .iconst (-1), .ireturn, .aload 0, .getfield 1103, .aload 0, .getfield 1102, .iload 1, .iload 2, .iload 3, .iload 4,
  .iconst 1, .if_icmp .ne 32, .iconst 1, .goto 33, .iconst 0, .invokevirtual 187, .ireturn]
def p_185 : List Nat := [0, 1, 2, 5, 8, 9, 12, 13, 15, 18, 19, 20, 23, 26, 28, 31, 33, 34, 37, 38, 39, 40, 43, 44, 47, 48, 49, 50, 52, 53,
  56, 57, 60, 61, 64]
/-- WakeHouse.isKnown(I)Z -/
def c_186 : List aI := [.iload 1, .ifCond .lt 9, .iload 1, .aload 0, .getfield 1103, .getfield 912, .if_icmp .gt 9, .iconst 1, .goto 10, .iconst 0, .freturn]
def p_186 : List Nat := [0, 1, 4, 5, 6, 9, 12, 15, 16, 19, 20]
/-- WakeHouse$State.countAlone(LWakeHouse$House;IIIZ)I -/
def c_187 : List aI := [.iconst 0, .istore 6, .iconst 0, .istore 7, .nop, .iload 7, .iload 4, .if_icmp .ge 49, .aload 0, .getfield 906, .iload 7, .iaload, .iload 2, .if_icmp .ne 31,
  .iload 3, .iconst 7, .if_icmp .eq 23, .aload 0, .getfield 907, .iload 7, .iaload, .iload 3, .if_icmp .ne 31, .nop, .aload 0, .iload 7, .iload 4, .invokevirtual 188,
  .ifCond .eq 31, .iconst 1, .goto 33, .nop, .iconst 0, .istore 8, .nop, .iload 8, .ifCond .eq 46, .iload 5, .ifCond .eq 44, .aload 0, .aload 1, .iload 7,
  .invokevirtual 189, .ifCond .eq 46, .nop, .iinc 6 1, .nop, .iinc 7 1, .goto 4, .iload 6, .ireturn]
def p_187 : List Nat := [0, 1, 3, 4, 6, 6, 8, 10, 13, 14, 17, 19, 20, 21, 24, 25, 27, 30, 31, 34, 36, 37, 38, 41, 41, 42, 44, 46, 49, 52,
  53, 56, 56, 57, 59, 59, 61, 64, 66, 69, 70, 71, 73, 76, 79, 79, 82, 82, 85, 88, 90]
/-- WakeHouse$State.known(II)Z -/
def c_188 : List aI := [.aload 0, .getfield 906, .iload 1, .iaload, .iconst (-1), .if_icmp .ne 8, .iconst 0, .freturn, .iload 1, .iconst 1, .fadd, .istore 3, .nop, .iload 3,
  .iload 2, .if_icmp .ge 32, .aload 0, .getfield 906, .iload 3, .iaload, .iconst (-1), .if_icmp .ne 30, .aload 0, .getfield 908, .iload 3, .iaload, .iload 1, .if_icmp .ne 30,
  .iconst 0, .freturn, .iinc 3 1, .goto 12, .iconst 1, .freturn]
def p_188 : List Nat := [0, 1, 4, 5, 6, 7, 10, 11, 12, 13, 14, 15, 16, 16, 17, 18, 21, 22, 25, 26, 27, 28, 31, 32, 35, 36, 37, 38, 41, 42,
  43, 46, 49, 50]
/-- WakeHouse$State.inTime(LWakeHouse$House;I)Z -/
def c_189 : List aI := [.aload 1, .getfield 306, .aload 0, .getfield 906, .iload 2, .iaload, .iaload, .istore 3, .iload 3, .iconst (-2), .if_icmp .ne 21, .aload 0, .getfield 908, .iload 2,
  .iaload, .iconst 400, .if_icmp .ge 19, .iconst 1, .goto 30, .iconst 0, .goto 30, .aload 0, .getfield 908, .iload 2, .iaload, .iload 3, .if_icmp .gt 29, .iconst 1,
  .goto 30, .iconst 0, .freturn]
def p_189 : List Nat := [0, 1, 4, 5, 8, 9, 10, 11, 12, 13, 15, 18, 19, 22, 23, 24, 27, 30, 31, 34, 35, 38, 39, 42, 43, 44, 45, 48, 49, 52,
  53]
/-- WakeHouse.mondays(II)I -/
def c_190 : List aI := [.aload 0, .iload 1, .invokevirtual 186, .ifCond .eq 9, .iload 2, .ifCond .lt 9, .iload 2, .iconst 3, .if_icmp .le 11, .iconst (-1), .ireturn, .aload 0, .getfield 1103, .aload 0,
  .getfield 1102, .iload 1, .invokevirtual 191, .aload 0, .getfield 1103, .getfield 909, .iload 2, .iaload, .ireturn]
def p_190 : List Nat := [0, 1, 2, 5, 8, 9, 12, 13, 14, 17, 18, 19, 20, 23, 24, 27, 28, 31, 32, 35, 38, 39, 40]
/-- WakeHouse$State.tallyMondays(LWakeHouse$House;I)V -/
def c_191 : List aI := [.aload 0, .getfield 909, .iconst 0, .invokestatic 71, .iconst 0, .istore 3, .nop, .iload 3, .iload 2, .if_icmp .ge 69, .aload 0, .iload 3, .iload 2, .invokevirtual 188,
  .ifCond .eq 67, .aload 0, .getfield 907, .iload 3, .iaload, .ifCond .ne 22, .iconst 1, .goto 23, .iconst 0, .istore 4, .aload 0, .aload 1, .iload 3, .invokevirtual 189,
  .ifCond .eq 31, .iconst 0, .goto 32, .iconst 1, .istore 5, .aload 0, .getfield 909, .iconst 0, .dup2, .iaload, .iconst 1, .fadd, .iastore, .aload 0,
  .getfield 909, .iconst 1, .dup2, .iaload, .iload 4, .fadd, .iastore, .aload 0, .getfield 909, .iconst 2, .dup2, .iaload, .iload 5, .fadd,
  .iastore, .aload 0, .getfield 909, .iconst 3, .dup2, .iaload, .iload 4, .iload 5, .fmul, .fadd, .iastore, .iinc 3 1, .goto 6, .return_]
def p_191 : List Nat := [0, 1, 4, 5, 8, 9, 10, 10, 11, 12, 15, 16, 17, 18, 21, 24, 25, 28, 29, 30, 33, 34, 37, 38, 40, 41, 42, 43, 46, 49,
  50, 53, 54, 56, 57, 60, 61, 62, 63, 64, 65, 66, 67, 70, 71, 72, 73, 75, 76, 77, 78, 81, 82, 83, 84, 86, 87, 88, 89, 92,
  93, 94, 95, 97, 99, 100, 101, 102, 105, 108]
/-- WakeHouse.mondayWays(IZ)J -/
def c_192 : List aI := [.aload 0, .iload 1, .invokevirtual 186, .ifCond .ne 6, .bipush (-1), .lreturn, .aload 0, .getfield 1103, .aload 0, .getfield 1102, .iload 1, .invokevirtual 191, .iload 2, .ifCond .eq 18,
  .aload 0, .getfield 1103, .invokevirtual 193, .goto 29, .aload 0, .getfield 1103, .getfield 909, .iconst 0, .iaload, .aload 0, .getfield 1103, .getfield 909, .iconst 1, .iaload,
  .invokestatic 194, .lreturn]
def p_192 : List Nat := [0, 1, 2, 5, 8, 11, 12, 13, 16, 17, 20, 21, 24, 25, 28, 29, 32, 35, 38, 39, 42, 45, 46, 47, 48, 51, 54, 55, 56, 59]
/-- WakeHouse$State.waysOfSoMany()J -/
def c_193 : List aI := [.bipush 0, .lstore 1, .aload 0, .getfield 909, .iconst 3, .iaload, .istore 3, .nop, .iload 3, .aload 0, .getfield 909, .iconst 1, .iaload, .if_icmp .gt 42,
  .lload 1, .aload 0, .getfield 909, .iconst 2, .iaload, .iload 3, .invokestatic 194, .aload 0, .getfield 909, .iconst 0, .iaload, .aload 0, .getfield 909, .iconst 2,
  .iaload, .fsub, .aload 0, .getfield 909, .iconst 1, .iaload, .iload 3, .fsub, .invokestatic 194, .dmul, .dadd, .lstore 1, .iinc 3 1, .goto 7,
  .lload 1, .lreturn]
def p_193 : List Nat := [0, 1, 2, 3, 6, 7, 8, 9, 9, 10, 11, 14, 15, 16, 19, 20, 21, 24, 25, 26, 27, 30, 31, 34, 35, 36, 37, 40, 41, 42,
  43, 44, 47, 48, 49, 50, 51, 54, 55, 56, 57, 60, 63, 64]
/-- WakeHouse.choose(II)J -/
def c_194 : List aI := [.iload 1, .ifCond .lt 5, .iload 1, .iload 0, .if_icmp .le 7, .bipush 0, .lreturn, .bipush 1, .lstore 2, .iload 1, .iload 0, .iload 1, .fsub, .invokeinterface 3 0,
  .istore 4, .iconst 1, .istore 5, .nop, .iload 5, .iload 4, .if_icmp .gt 35, .lload 2, .iload 0, .iload 4, .fsub, .iload 5, .fadd, .i2l,
  .dmul, .iload 5, .i2l, .ldiv, .lstore 2, .iinc 5 1, .goto 17, .lload 2, .lreturn]
def p_194 : List Nat := [0, 1, 4, 5, 6, 9, 10, 11, 12, 13, 14, 15, 16, 17, 20, 22, 23, 25, 25, 27, 29, 32, 33, 34, 36, 37, 39, 40, 41, 42,
  44, 45, 46, 47, 50, 53, 54]
/-- WakeHouse.fire(IIZ)I -/
def c_195 : List aI := [.aload 0, .iload 1, .invokevirtual 76, .ifCond .eq 7, .iload 2, .invokestatic 81, .ifCond .ne 9, .iconst (-1), .ireturn, .iconst 1, .aload 0, .getfield 1102, .getfield 316, .ishl,
  .iconst 1, .fsub, .istore 4, .iconst 1, .iload 1, .ishl, .istore 5, .iconst 0, .istore 6, .nop, .iload 6, .iconst 12, .if_icmp .gt 40, .iload 5,
  .iload 4, .if_icmp .ne 32, .iload 6, .ireturn, .aload 0, .iload 5, .iload 2, .iload 3, .invokevirtual 196, .istore 5, .iinc 6 1, .goto 23, .iconst (-2), .ireturn]
def p_195 : List Nat := [0, 1, 2, 5, 8, 9, 12, 15, 16, 17, 18, 19, 22, 25, 26, 27, 28, 30, 31, 32, 33, 35, 36, 38, 38, 40, 42, 45, 47, 49,
  52, 54, 55, 56, 58, 59, 60, 63, 65, 68, 71, 73]
/-- WakeHouse.aMinuteLater(IIZ)I -/
def c_196 : List aI := [.iload 3, .ifCond .eq 4, .iconst 1, .goto 5, .iconst 10, .istore 4, .iload 1, .istore 5, .iconst 0, .istore 6, .nop, .iload 6, .aload 0, .getfield 1102,
  .getfield 316, .if_icmp .ge 54, .iconst 0, .istore 7, .nop, .iload 7, .aload 0, .getfield 1102, .getfield 316, .if_icmp .ge 52, .iload 5, .iload 6, .ishr, .iconst 1,
  .iand, .ifCond .ne 52, .iload 1, .iload 7, .ishr, .iconst 1, .iand, .iconst 1, .if_icmp .ne 50, .aload 0, .iload 6, .iload 7, .iload 2, .invokevirtual 197,
  .iload 4, .if_icmp .lt 50, .iload 5, .iconst 1, .iload 6, .ishl, .ior, .istore 5, .iinc 7 1, .goto 18, .iinc 6 1, .goto 10, .iload 5, .ireturn]
def p_196 : List Nat := [0, 1, 4, 5, 8, 10, 12, 13, 15, 16, 18, 18, 20, 21, 24, 27, 30, 31, 33, 33, 35, 36, 39, 42, 45, 47, 49, 50, 51, 52,
  55, 56, 58, 59, 60, 61, 62, 65, 66, 68, 70, 71, 74, 76, 79, 81, 82, 84, 85, 86, 88, 91, 94, 97, 100, 102]
/-- WakeHouse.cryHeard(III)I -/
def c_197 : List aI := [.aload 0, .getfield 1102, .iload 1, .aload 0, .getfield 1103, .getfield 904, .iload 1, .iaload, .aload 0, .getfield 1103, .iload 1, .invokevirtual 77, .iload 3, .aload 0,
  .getfield 1103, .getfield 904, .iload 2, .iaload, .iconst 0, .invokevirtual 83, .ireturn]
def p_197 : List Nat := [0, 1, 4, 5, 6, 9, 12, 13, 14, 15, 18, 19, 22, 23, 24, 27, 30, 31, 32, 33, 36]
/-- WakeHouse.reaches(IIZ)I -/
def c_198 : List aI := [.aload 0, .iload 1, .invokevirtual 76, .ifCond .eq 7, .iload 2, .invokestatic 81, .ifCond .ne 9, .iconst (-1), .ireturn, .iconst 1, .iload 1, .ishl, .istore 4, .iconst 0,
  .istore 5, .nop, .iload 5, .iconst 12, .if_icmp .ge 33, .aload 0, .iload 4, .iload 2, .iload 3, .invokevirtual 196, .istore 6, .iload 6, .iload 4, .if_icmp .ne 29,
  .goto 33, .iload 6, .istore 4, .iinc 5 1, .goto 15, .iload 4, .ireturn]
def p_198 : List Nat := [0, 1, 2, 5, 8, 9, 12, 15, 16, 17, 18, 19, 20, 22, 23, 25, 25, 27, 29, 32, 33, 35, 36, 37, 40, 42, 44, 46, 49, 52,
  54, 56, 59, 62, 64]
/-- WakeHouse.day(II)I -/
def c_199 : List aI := [.iload 2, .ifCond .lt 5, .iload 2, .iconst 999, .if_icmp .le 7, .iconst (-1), .ireturn, .iconst 0, .istore 3, .aload 0, .getfield 1105, .iconst (-1), .invokevirtual 106, .iconst 0,
  .istore 4, .nop, .iload 4, .aload 0, .getfield 1102, .getfield 316, .if_icmp .ge 49, .aload 0, .getfield 1102, .getfield 306, .iload 4, .iaload, .iconst (-2), .if_icmp .eq 47,
  .aload 0, .getfield 1105, .iload 4, .invokevirtual 108, .iload 3, .aload 0, .getfield 1105, .iload 1, .iload 2, .iload 4, .invokevirtual 200, .ifCond .eq 44, .iconst 1, .iload 4,
  .ishl, .goto 45, .iconst 0, .ior, .istore 3, .iinc 4 1, .goto 15, .iload 3, .ireturn]
def p_199 : List Nat := [0, 1, 4, 5, 8, 11, 12, 13, 14, 15, 16, 19, 20, 23, 24, 26, 26, 28, 29, 32, 35, 38, 39, 42, 45, 47, 48, 50, 53, 54,
  57, 59, 62, 63, 64, 67, 68, 69, 71, 74, 77, 78, 80, 81, 84, 85, 86, 87, 90, 93, 94]
/-- WakeHouse$Night.upByLots(III)Z -/
def c_200 : List aI := [.aload 0, .getfield 500, .getfield 306, .iload 3, .iaload, .istore 4, .iconst 1000, .iload 2, .fmul, .iconst 40, .iload 3, .fmul, .fadd, .istore 5,
  .iconst 0, .istore 6, .iconst 0, .istore 7, .nop, .iload 7, .aload 0, .getfield 511, .if_icmp .ge 84, .aload 0, .getfield 502, .iload 7, .iaload, .iload 4,
  .if_icmp .gt 84, .iload 6, .ifCond .eq 61, .iload 7, .ifCond .le 61, .iload 1, .iload 5, .iconst 2, .iload 7, .fmul, .fadd, .iconst 1, .fadd, .invokestatic 201,
  .aload 0, .iload 3, .aload 0, .getfield 502, .iload 7, .iaload, .aload 0, .getfield 502, .iload 7, .iconst 1, .fsub, .iaload, .fsub, .invokevirtual 88,
  .if_icmp .lt 59, .iconst 1, .goto 60, .iconst 0, .istore 6, .nop, .iload 6, .ifCond .ne 76, .iload 1, .iload 5, .iconst 2, .iload 7, .fmul, .fadd,
  .invokestatic 201, .aload 0, .getfield 504, .iload 7, .iaload, .if_icmp .ge 79, .nop, .iconst 1, .goto 80, .iconst 0, .istore 6, .nop, .iinc 7 1, .goto 18,
  .nop, .iload 6, .ifCond .eq 112, .iload 7, .ifCond .le 112, .iload 1, .iload 5, .iconst 2, .iload 7, .fmul, .fadd, .iconst 1, .fadd, .invokestatic 201,
  .aload 0, .iload 3, .iload 4, .aload 0, .getfield 502, .iload 7, .iconst 1, .fsub, .iaload, .fsub, .invokevirtual 88, .if_icmp .lt 112, .iconst 1, .goto 114,
  .nop, .iconst 0, .freturn]
def p_200 : List Nat := [0, 1, 4, 7, 8, 9, 11, 14, 15, 16, 18, 19, 20, 21, 23, 24, 26, 27, 29, 29, 31, 32, 35, 38, 39, 42, 44, 45, 47, 50,
  52, 55, 57, 60, 61, 63, 64, 66, 67, 68, 69, 70, 73, 74, 75, 76, 79, 81, 82, 83, 86, 88, 89, 90, 91, 92, 95, 98, 99, 102,
  103, 105, 105, 107, 110, 111, 113, 114, 116, 117, 118, 121, 122, 125, 127, 128, 131, 131, 132, 135, 136, 138, 138, 141, 144, 144, 146, 149, 151, 154,
  155, 157, 158, 160, 161, 162, 163, 164, 167, 168, 169, 171, 172, 175, 177, 178, 179, 180, 181, 184, 187, 188, 191, 191, 192]
/-- WakeHouse$Night.lotOfTen(II)I -/
def c_201 : List aI := [.iload 0, .iconst 14, .invokestatic 202, .iload 1, .invokestatic 202, .istore 2, .iload 2, .iconst 1, .iushr, .iconst 10, .irem, .ireturn]
def p_201 : List Nat := [0, 1, 3, 6, 7, 10, 11, 12, 13, 14, 16, 17]
/-- WakeHouse$Night.stirred(II)I -/
def c_202 : List aI := [.iload 0, .iload 1, .ixor, .iconst 1103515245, .imul, .iconst 12345, .iadd, .istore 2, .iload 2, .iload 2, .iconst 15, .iushr, .ixor, .ireturn]
def p_202 : List Nat := [0, 1, 2, 3, 5, 6, 9, 10, 11, 12, 13, 15, 16, 17]
/-- WakeHouse.days(III)I -/
def c_203 : List aI := [.iload 2, .iconst 1, .if_icmp .lt 6, .iload 2, .iconst 50, .if_icmp .le 8, .iconst (-2), .ireturn, .iload 3, .iconst (-1), .if_icmp .ne 17, .aload 0, .getfield 1105, .iload 1,
  .iload 2, .invokevirtual 204, .ireturn, .aload 0, .iload 3, .invokevirtual 76, .ifCond .eq 28, .aload 0, .getfield 1102, .getfield 306, .iload 3, .iaload, .iconst (-2), .if_icmp .ne 30,
  .iconst (-2), .ireturn, .aload 0, .getfield 1105, .iconst (-1), .invokevirtual 106, .aload 0, .getfield 1105, .iload 3, .invokevirtual 108, .iconst 0, .istore 4, .iconst 0, .istore 5,
  .nop, .iload 5, .iload 2, .if_icmp .ge 61, .iload 4, .aload 0, .getfield 1105, .iload 1, .iload 5, .iload 3, .invokevirtual 200, .ifCond .eq 56, .iconst 1, .goto 57,
  .iconst 0, .fadd, .istore 4, .iinc 5 1, .goto 42, .iload 4, .ireturn]
def p_203 : List Nat := [0, 1, 2, 5, 6, 8, 11, 13, 14, 15, 16, 19, 20, 23, 24, 25, 28, 29, 30, 31, 34, 37, 38, 41, 44, 45, 46, 48, 51, 53,
  54, 55, 58, 59, 62, 63, 66, 67, 70, 71, 73, 74, 76, 76, 78, 79, 82, 84, 85, 88, 89, 91, 92, 95, 98, 99, 102, 103, 104, 106,
  109, 112, 114]
/-- WakeHouse$Night.daysAllUp(II)I -/
def c_204 : List aI := [.bipush 1, .iload 2, .lshl, .bipush 1, .dsub, .lstore 3, .aload 0, .iconst (-1), .invokevirtual 106, .iconst 0, .istore 5, .nop, .iload 5, .aload 0,
  .getfield 500, .getfield 316, .if_icmp .ge 60, .aload 0, .getfield 500, .getfield 306, .iload 5, .iaload, .iconst (-2), .if_icmp .ne 25, .goto 58, .aload 0, .iload 5, .invokevirtual 108,
  .iconst 0, .istore 6, .nop, .iload 6, .iload 2, .if_icmp .ge 58, .lload 3, .iload 6, .lshr, .bipush 1, .land, .bipush 1, .lcmp, .ifCond .ne 56,
  .aload 0, .iload 1, .iload 6, .iload 5, .invokevirtual 200, .ifCond .ne 56, .lload 3, .bipush 1, .iload 6, .lshl, .bipush (-1), .lxor, .land, .lstore 3,
  .iinc 6 1, .goto 30, .iinc 5 1, .goto 11, .lload 3, .invokestatic 205, .ireturn]
def p_204 : List Nat := [0, 1, 2, 3, 4, 5, 6, 7, 8, 11, 12, 14, 14, 16, 17, 20, 23, 26, 27, 30, 33, 35, 36, 38, 41, 44, 45, 47, 50, 51,
  53, 53, 55, 56, 59, 60, 62, 63, 64, 65, 66, 67, 70, 71, 72, 74, 76, 79, 82, 83, 84, 86, 87, 90, 91, 92, 93, 96, 99, 102,
  105, 106, 109]
/-- java/lang/Long.bitCount(J)I -/
def c_205 : List aI := [.lload 0, .lload 0, .iconst 1, .lushr, .bipush 6148914691236517205, .land, .lsub, .lstore 0, .lload 0, .bipush 3689348814741910323, .land, .lload 0, .iconst 2, .lushr,
  .bipush 3689348814741910323, .land, .ladd, .lstore 0, .lload 0, .lload 0, .iconst 4, .lushr, .ladd, .bipush 1085102592571150095, .land, .lstore 0, .lload 0, .lload 0,
  .iconst 8, .lushr, .ladd, .lstore 0, .lload 0, .lload 0, .iconst 16, .lushr, .ladd, .lstore 0, .lload 0, .lload 0, .iconst 32, .lushr,
  .ladd, .lstore 0, .lload 0, .l2i, .iconst 127, .iand, .ireturn]
def p_205 : List Nat := [0, 1, 2, 3, 4, 7, 8, 9, 10, 11, 14, 15, 16, 17, 18, 21, 22, 23, 24, 25, 26, 27, 28, 29, 32, 33, 34, 35, 36, 38,
  39, 40, 41, 42, 43, 45, 46, 47, 48, 49, 50, 52, 53, 54, 55, 56, 57, 59, 60]
/-- WakeHouse.hold(I)Z -/
def c_206 : List aI := [.iload 1, .invokestatic 207, .ifCond .ne 5, .iconst 0, .freturn, .aload 0, .getfield 1104, .iload 1, .aaload, .aload 0, .getfield 1103, .invokevirtual 208, .aload 0, .getfield 1104,
  .iload 1, .aaload, .iconst 1, .putfield 913, .iconst 1, .freturn]
def p_206 : List Nat := [0, 1, 4, 7, 8, 9, 10, 13, 14, 15, 16, 19, 22, 23, 26, 27, 28, 29, 32, 33]
/-- WakeHouse.isSlot(I)Z -/
def c_207 : List aI := [.iload 0, .ifCond .lt 7, .iload 0, .iconst 2, .if_icmp .ge 7, .iconst 1, .goto 8, .iconst 0, .freturn]
def p_207 : List Nat := [0, 1, 4, 5, 6, 9, 10, 13, 14]
/-- WakeHouse$State.takeFrom(LWakeHouse$State;)V -/
def c_208 : List aI := [.aload 0, .aload 1, .getfield 910, .putfield 910, .aload 0, .aload 1, .getfield 911, .putfield 911, .aload 0, .aload 1, .getfield 912, .putfield 912, .aload 1, .getfield 900,
  .iconst 0, .aload 0, .getfield 900, .iconst 0, .aload 0, .getfield 910, .invokeinterface 1 0, .aload 1, .getfield 901, .iconst 0, .aload 0, .getfield 901, .iconst 0, .aload 0,
  .getfield 910, .invokeinterface 1 0, .aload 1, .getfield 902, .iconst 0, .aload 0, .getfield 902, .iconst 0, .aload 0, .getfield 910, .invokeinterface 1 0, .aload 1, .getfield 903, .iconst 0,
  .aload 0, .getfield 903, .iconst 0, .aload 0, .getfield 910, .invokeinterface 1 0, .aload 1, .getfield 904, .iconst 0, .aload 0, .getfield 904, .iconst 0, .iconst 12, .invokeinterface 1 0,
  .aload 1, .getfield 905, .iconst 0, .aload 0, .getfield 905, .iconst 0, .iconst 12, .invokeinterface 1 0, .aload 1, .getfield 906, .iconst 0, .aload 0, .getfield 906, .iconst 0,
  .aload 0, .getfield 912, .invokeinterface 1 0, .aload 1, .getfield 907, .iconst 0, .aload 0, .getfield 907, .iconst 0, .aload 0, .getfield 912, .invokeinterface 1 0, .aload 1, .getfield 908,
  .iconst 0, .aload 0, .getfield 908, .iconst 0, .aload 0, .getfield 912, .invokeinterface 1 0, .return_]
def p_208 : List Nat := [0, 1, 2, 5, 8, 9, 10, 13, 16, 17, 18, 21, 24, 25, 28, 29, 30, 33, 34, 35, 38, 41, 42, 45, 46, 47, 50, 51, 52, 55,
  58, 59, 62, 63, 64, 67, 68, 69, 72, 75, 76, 79, 80, 81, 84, 85, 86, 89, 92, 93, 96, 97, 98, 101, 102, 104, 107, 108, 111, 112,
  113, 116, 117, 119, 122, 123, 126, 127, 128, 131, 132, 133, 136, 139, 140, 143, 144, 145, 148, 149, 150, 153, 156, 157, 160, 161, 162, 165, 166, 167,
  170, 173]
/-- WakeHouse.restore(I)Z -/
def c_209 : List aI := [.iload 1, .invokestatic 207, .ifCond .eq 9, .aload 0, .getfield 1104, .iload 1, .aaload, .getfield 913, .ifCond .ne 11, .iconst 0, .freturn, .aload 0, .dup, .getfield 1111,
  .iconst 1, .fadd, .putfield 1111, .aload 0, .getfield 1103, .aload 0, .getfield 1104, .iload 1, .aaload, .invokevirtual 208, .iconst 1, .freturn]
def p_209 : List Nat := [0, 1, 4, 7, 8, 11, 12, 13, 16, 19, 20, 21, 22, 23, 26, 27, 28, 31, 32, 35, 36, 39, 40, 41, 44, 45]
/-- WakeHouse.count(I)I -/
def c_210 : List aI := [.iload 1, .tableswitch 51 0 7 #[2, 6, 10, 14, 18, 22, 27, 31], .aload 0, .getfield 1102, .getfield 314, .ireturn, .aload 0, .getfield 1102, .getfield 315, .ireturn, .aload 0, .getfield 1102, .getfield 316, .ireturn,
  .aload 0, .getfield 1103, .getfield 910, .ireturn, .aload 0, .getfield 1103, .getfield 912, .ireturn, .aload 0, .getfield 1103, .getfield 911, .invokestatic 211, .ireturn, .aload 0,
  .getfield 1100, .getfield 1005, .ireturn, .aload 0, .getfield 1104, .iconst 0, .aaload, .getfield 913, .ifCond .eq 39, .iconst 1, .goto 40, .iconst 0, .aload 0, .getfield 1104,
  .iconst 1, .aaload, .getfield 913, .ifCond .eq 48, .iconst 1, .goto 49, .iconst 0, .fadd, .ireturn, .iconst (-1), .ireturn]
def p_210 : List Nat := [0, 1, 48, 49, 52, 55, 56, 57, 60, 63, 64, 65, 68, 71, 72, 73, 76, 79, 80, 81, 84, 87, 88, 89, 92, 95, 98, 99, 100, 103,
  106, 107, 108, 111, 112, 113, 116, 119, 120, 123, 124, 125, 128, 129, 130, 133, 136, 137, 140, 141, 142, 143, 144]
/-- java/lang/Integer.bitCount(I)I -/
def c_211 : List aI := [.iload 0, .iload 0, .iconst 1, .iushr, .iconst 1431655765, .iand, .isub, .istore 0, .iload 0, .iconst 858993459, .iand, .iload 0, .iconst 2, .iushr,
  .iconst 858993459, .iand, .iadd, .istore 0, .iload 0, .iload 0, .iconst 4, .iushr, .iadd, .iconst 252645135, .iand, .istore 0, .iload 0, .iload 0,
  .iconst 8, .iushr, .iadd, .istore 0, .iload 0, .iload 0, .iconst 16, .iushr, .iadd, .istore 0, .iload 0, .iconst 63, .iand, .ireturn]
def p_211 : List Nat := [0, 1, 2, 3, 4, 7, 8, 9, 10, 11, 14, 15, 16, 17, 18, 21, 22, 23, 24, 25, 26, 27, 28, 29, 32, 33, 34, 35, 36, 38,
  39, 40, 41, 42, 43, 45, 46, 47, 48, 49, 51, 52]
/-- WakeHouseModel.<init>()V -/
def c_212 : List aI := [.aload 0, .invokeinterface 0 0, .aload 0, .iconst 2000, .newarray .byte, .putfield 1201, .aload 0, .iconst 2000, .newarray .byte, .putfield 1203, .aload 0, .iconst 403, .newarray .int, .putfield 1205,
  .aload 0, .iconst 403, .newarray .int, .putfield 1206, .aload 0, .iconst 403, .newarray .int, .putfield 1207, .aload 0, .iconst 403, .newarray .long, .putfield 1208, .aload 0, .iconst 18,
  .newarray .long, .putfield 1209, .aload 0, .iconst (-1), .putfield 1217, .aload 0, .iconst 40, .newarray .long, .putfield 1221, .aload 0, .iconst 40, .newarray .int, .putfield 1222, .aload 0,
  .iconst 40, .newarray .int, .putfield 1223, .aload 0, .iconst 2, .newarray .int, .putfield 1224, .aload 0, .iconst 24, .newarray .int, .putfield 1225, .aload 0, .iconst 24, .newarray .int,
  .putfield 1226, .aload 0, .iconst 2, .newarray .int, .putfield 1227, .aload 0, .iconst 18, .newarray .int, .putfield 1228, .aload 0, .iconst 18, .newarray .int, .putfield 1229, .aload 0,
  .iconst 2, .newarray .int, .putfield 1230, .aload 0, .iconst 24, .newarray .int, .putfield 1231, .aload 0, .iconst 24, .newarray .int, .putfield 1232, .aload 0, .iconst 24, .newarray .int,
  .putfield 1233, .aload 0, .iconst 24, .newarray .int, .putfield 1234, .aload 0, .iconst 24, .newarray .int, .putfield 1235, .aload 0, .iconst 4, .newarray .boolean, .putfield 1236, .aload 0,
  .iconst 4, .newarray .int, .putfield 1237, .aload 0, .iconst 4, .newarray .int, .putfield 1238, .aload 0, .iconst 840, .newarray .int, .putfield 1240, .aload 0, .iconst 840, .newarray .int,
  .putfield 1241, .aload 0, .iconst 420, .newarray .int, .putfield 1242, .aload 0, .iconst 7, .newarray .int, .putfield 1244, .aload 0, .iconst 420, .newarray .int, .putfield 1245, .aload 0,
  .iconst 12, .newarray .int, .putfield 1246, .aload 0, .iconst 12, .newarray .boolean, .putfield 1247, .aload 0, .iconst 10, .newarray .int, .putfield 1249, .aload 0, .iconst 10, .newarray .int,
  .putfield 1250, .aload 0, .iconst 10, .newarray .int, .putfield 1251, .aload 0, .iconst 10, .newarray .int, .putfield 1252, .aload 0, .iconst 10, .newarray .int, .putfield 1253, .aload 0,
  .iconst 10, .newarray .int, .putfield 1254, .aload 0, .iconst 10, .newarray .int, .putfield 1255, .aload 0, .iconst 10, .newarray .int, .putfield 1256, .aload 0, .iconst 10, .newarray .int,
  .putfield 1257, .aload 0, .iconst 12, .newarray .int, .putfield 1259, .aload 0, .iconst 4, .newarray .int, .putfield 1260, .aload 0, .iconst 4096, .newarray .int, .putfield 1262, .aload 0,
  .iconst 12, .newarray .int, .putfield 1263, .aload 0, .iconst 12, .newarray .int, .putfield 1264, .aload 0, .iconst 12, .newarray .int, .putfield 1265, .aload 0, .iconst 12, .newarray .int,
  .putfield 1266, .aload 0, .iconst 3, .newarray .int, .putfield 1269, .aload 0, .iconst 3, .newarray .int, .putfield 1270, .aload 0, .iconst 2, .newarray .int, .putfield 1271, .aload 0,
  .iconst 8, .newarray .int, .putfield 1273, .aload 0, .iconst 8, .newarray .int, .putfield 1274, .aload 0, .iconst 8, .newarray .int, .putfield 1275, .aload 0, .iconst 180, .newarray .int,
  .putfield 1277, .aload 0, .iconst 180, .newarray .int, .putfield 1278, .aload 0, .iconst 180, .newarray .int, .putfield 1279, .aload 0, .iconst 180, .newarray .int, .putfield 1280, .aload 0,
  .iconst 2, .newarray .int, .dup, .iconst 0, .iconst (-1), .iastore, .dup, .iconst 1, .iconst (-1), .iastore, .putfield 1282, .aload 0, .iconst 16, .newarray .int,
  .putfield 1283, .aload 0, .iconst 16, .newarray .int, .putfield 1284, .aload 0, .iconst 16, .newarray .int, .putfield 1285, .aload 0, .iconst 16, .newarray .int, .putfield 1286, .aload 0,
  .iconst 24, .newarray .int, .putfield 1287, .aload 0, .iconst 24, .newarray .boolean, .putfield 1288, .aload 0, .iconst 2, .newarray .int, .putfield 1289, .aload 0, .getfield 1209, .iconst 0,
  .iconst 98, .iconst 101, .iconst 100, .iconst 0, .iconst 0, .iconst 0, .iconst 0, .invokestatic 213, .lastore, .aload 0, .getfield 1209, .iconst 1, .iconst 99, .iconst 108,
  .iconst 111, .iconst 99, .iconst 107, .iconst 0, .iconst 0, .invokestatic 213, .lastore, .aload 0, .getfield 1209, .iconst 2, .iconst 102, .iconst 97, .iconst 115, .iconst 116,
  .iconst 0, .iconst 0, .iconst 0, .invokestatic 213, .lastore, .aload 0, .getfield 1209, .iconst 3, .iconst 115, .iconst 108, .iconst 111, .iconst 119, .iconst 0, .iconst 0,
  .iconst 0, .invokestatic 213, .lastore, .aload 0, .getfield 1209, .iconst 4, .iconst 115, .iconst 108, .iconst 101, .iconst 101, .iconst 112, .iconst 101, .iconst 114, .invokestatic 213,
  .lastore, .aload 0, .getfield 1209, .iconst 5, .iconst 105, .iconst 110, .iconst 0, .iconst 0, .iconst 0, .iconst 0, .iconst 0, .invokestatic 213, .lastore, .aload 0,
  .getfield 1209, .iconst 6, .iconst 100, .iconst 101, .iconst 101, .iconst 112, .iconst 0, .iconst 0, .iconst 0, .invokestatic 213, .lastore, .aload 0, .getfield 1209, .iconst 7,
  .iconst 117, .iconst 112, .iconst 0, .iconst 0, .iconst 0, .iconst 0, .iconst 0, .invokestatic 213, .lastore, .aload 0, .getfield 1209, .iconst 8, .iconst 108, .iconst 97,
  .iconst 116, .iconst 101, .iconst 0, .iconst 0, .iconst 0, .invokestatic 213, .lastore, .aload 0, .getfield 1209, .iconst 9, .iconst 118, .iconst 97, .iconst 105, .iconst 110,
  .iconst 0, .iconst 0, .iconst 0, .invokestatic 213, .lastore, .aload 0, .getfield 1209, .iconst 10, .iconst 104, .iconst 101, .iconst 97, .iconst 114, .iconst 115, .iconst 0,
  .iconst 0, .invokestatic 213, .lastore, .aload 0, .getfield 1209, .iconst 11, .iconst 97, .iconst 103, .iconst 97, .iconst 105, .iconst 110, .iconst 0, .iconst 0, .invokestatic 213,
  .lastore, .aload 0, .getfield 1209, .iconst 12, .iconst 108, .iconst 111, .iconst 117, .iconst 100, .iconst 0, .iconst 0, .iconst 0, .invokestatic 213, .lastore, .aload 0,
  .getfield 1209, .iconst 13, .iconst 103, .iconst 97, .iconst 112, .iconst 0, .iconst 0, .iconst 0, .iconst 0, .invokestatic 213, .lastore, .aload 0, .getfield 1209, .iconst 14,
  .iconst 102, .iconst 108, .iconst 111, .iconst 111, .iconst 114, .iconst 115, .iconst 0, .invokestatic 213, .lastore, .aload 0, .getfield 1209, .iconst 15, .iconst 104, .iconst 111,
  .iconst 117, .iconst 114, .iconst 0, .iconst 0, .iconst 0, .invokestatic 213, .lastore, .aload 0, .getfield 1209, .iconst 16, .iconst 119, .iconst 111, .iconst 111, .iconst 108,
  .iconst 0, .iconst 0, .iconst 0, .invokestatic 213, .lastore, .aload 0, .getfield 1209, .iconst 17, .iconst 97, .iconst 102, .iconst 116, .iconst 101, .iconst 114, .iconst 0,
  .iconst 0, .invokestatic 213, .lastore, .return_]
def p_212 : List Nat := [0, 1, 4, 5, 8, 10, 13, 14, 17, 19, 22, 23, 26, 28, 31, 32, 35, 37, 40, 41, 44, 46, 49, 50, 53, 55, 58, 59, 61, 63,
  66, 67, 68, 71, 72, 74, 76, 79, 80, 82, 84, 87, 88, 90, 92, 95, 96, 97, 99, 102, 103, 105, 107, 110, 111, 113, 115, 118, 119, 120,
  122, 125, 126, 128, 130, 133, 134, 136, 138, 141, 142, 143, 145, 148, 149, 151, 153, 156, 157, 159, 161, 164, 165, 167, 169, 172, 173, 175, 177, 180,
  181, 183, 185, 188, 189, 190, 192, 195, 196, 197, 199, 202, 203, 204, 206, 209, 210, 213, 215, 218, 219, 222, 224, 227, 228, 231, 233, 236, 237, 239,
  241, 244, 245, 248, 250, 253, 254, 256, 258, 261, 262, 264, 266, 269, 270, 272, 274, 277, 278, 280, 282, 285, 286, 288, 290, 293, 294, 296, 298, 301,
  302, 304, 306, 309, 310, 312, 314, 317, 318, 320, 322, 325, 326, 328, 330, 333, 334, 336, 338, 341, 342, 344, 346, 349, 350, 351, 353, 356, 357, 360,
  362, 365, 366, 368, 370, 373, 374, 376, 378, 381, 382, 384, 386, 389, 390, 392, 394, 397, 398, 399, 401, 404, 405, 406, 408, 411, 412, 413, 415, 418,
  419, 421, 423, 426, 427, 429, 431, 434, 435, 437, 439, 442, 443, 446, 448, 451, 452, 455, 457, 460, 461, 464, 466, 469, 470, 473, 475, 478, 479, 480,
  482, 483, 484, 485, 486, 487, 488, 489, 490, 493, 494, 496, 498, 501, 502, 504, 506, 509, 510, 512, 514, 517, 518, 520, 522, 525, 526, 528, 530, 533,
  534, 536, 538, 541, 542, 543, 545, 548, 549, 552, 553, 555, 557, 559, 560, 561, 562, 563, 566, 567, 568, 571, 572, 574, 576, 578, 580, 582, 583, 584,
  587, 588, 589, 592, 593, 595, 597, 599, 601, 602, 603, 604, 607, 608, 609, 612, 613, 615, 617, 619, 621, 622, 623, 624, 627, 628, 629, 632, 633, 635,
  637, 639, 641, 643, 645, 647, 650, 651, 652, 655, 656, 658, 660, 661, 662, 663, 664, 665, 668, 669, 670, 673, 675, 677, 679, 681, 683, 684, 685, 686,
  689, 690, 691, 694, 696, 698, 700, 701, 702, 703, 704, 705, 708, 709, 710, 713, 715, 717, 719, 721, 723, 724, 725, 726, 729, 730, 731, 734, 736, 738,
  740, 742, 744, 745, 746, 747, 750, 751, 752, 755, 757, 759, 761, 763, 765, 767, 768, 769, 772, 773, 774, 777, 779, 781, 783, 785, 787, 789, 790, 791,
  794, 795, 796, 799, 801, 803, 805, 807, 809, 810, 811, 812, 815, 816, 817, 820, 822, 824, 826, 828, 829, 830, 831, 832, 835, 836, 837, 840, 842, 844,
  846, 848, 850, 852, 854, 855, 858, 859, 860, 863, 865, 867, 869, 871, 873, 874, 875, 876, 879, 880, 881, 884, 886, 888, 890, 892, 894, 895, 896, 897,
  900, 901, 902, 905, 907, 909, 911, 913, 915, 917, 918, 919, 922, 923]
/-- WakeHouseModel.word(IIIIIII)J -/
def c_213 : List aI := [.bipush 0, .iload 0, .invokestatic 214, .iload 1, .invokestatic 214, .iload 2, .invokestatic 214, .iload 3, .invokestatic 214, .iload 4, .invokestatic 214, .iload 5, .invokestatic 214, .iload 6,
  .invokestatic 214, .lreturn]
def p_213 : List Nat := [0, 1, 2, 5, 6, 9, 10, 13, 14, 17, 19, 22, 24, 27, 29, 32]
/-- WakeHouseModel.appends(JI)J -/
def c_214 : List aI := [.iload 2, .ifCond .ne 4, .lload 0, .goto 14, .bipush 27, .lload 0, .dmul, .iload 2, .iconst 97, .fsub, .iconst 1, .fadd, .i2l, .dadd,
  .lreturn]
def p_214 : List Nat := [0, 1, 4, 5, 8, 11, 12, 13, 14, 16, 17, 18, 19, 20, 21]
/-- WakeHouseModel.feed(IIIII)I -/
def c_215 : List aI := [.aload 0, .getfield 1202, .iconst 20, .fadd, .iconst 2000, .if_icmp .le 8, .iconst (-1), .ireturn, .aload 0, .iload 1, .invokevirtual 216, .aload 0, .iload 2, .invokevirtual 216,
  .aload 0, .iload 3, .invokevirtual 216, .aload 0, .iload 4, .invokevirtual 216, .aload 0, .iload 5, .invokevirtual 216, .aload 0, .getfield 1202, .ireturn]
def p_215 : List Nat := [0, 1, 4, 6, 7, 10, 13, 14, 15, 16, 17, 20, 21, 22, 25, 26, 27, 30, 31, 33, 36, 37, 39, 42, 43, 46]
/-- WakeHouseModel.put(I)V -/
def c_216 : List aI := [.iconst 24, .istore 2, .nop, .iload 2, .ifCond .lt 22, .aload 0, .getfield 1201, .aload 0, .getfield 1202, .iload 1, .iload 2, .ishr, .i2b, .bastore,
  .aload 0, .dup, .getfield 1202, .iconst 1, .fadd, .putfield 1202, .iinc 2 (-8), .goto 2, .return_]
def p_216 : List Nat := [0, 2, 3, 3, 4, 7, 8, 11, 12, 15, 16, 17, 18, 19, 20, 21, 22, 25, 26, 27, 30, 33, 36]
/-- WakeHouseModel.back(I)I -/
def c_217 : List aI := [.iload 1, .ifCond .lt 6, .iload 1, .aload 0, .getfield 1202, .if_icmp .le 8, .iconst (-1), .ireturn, .aload 0, .dup, .getfield 1202, .iload 1, .fsub, .putfield 1202,
  .aload 0, .getfield 1202, .ireturn]
def p_217 : List Nat := [0, 1, 4, 5, 6, 9, 12, 13, 14, 15, 16, 19, 20, 21, 24, 25, 28]
/-- WakeHouseModel.read()I -/
def c_218 : List aI := [.aload 0, .aload 0, .getfield 1202, .putfield 1204, .iconst 0, .istore 1, .nop, .iload 1, .aload 0, .getfield 1204, .if_icmp .ge 21, .aload 0, .getfield 1203, .iload 1,
  .aload 0, .getfield 1201, .iload 1, .baload, .bastore, .iinc 1 1, .goto 6, .aload 0, .iconst 0, .putfield 1202, .aload 0, .invokevirtual 219, .aload 0, .iconst 0,
  .putfield 1211, .aload 0, .iconst 0, .putfield 1212, .aload 0, .iconst 0, .putfield 1213, .aload 0, .iconst 0, .putfield 1215, .aload 0, .iconst 1, .aload 0, .getfield 1218,
  .fsub, .putfield 1219, .aload 0, .iconst 0, .putfield 1220, .aload 0, .getfield 1224, .aload 0, .getfield 1219, .iconst 0, .iastore, .aload 0, .getfield 1227, .aload 0,
  .getfield 1219, .iconst 0, .iastore, .aload 0, .getfield 1230, .aload 0, .getfield 1219, .iconst 0, .iastore, .aload 0, .getfield 1236, .iconst 2, .aload 0, .getfield 1219,
  .fmul, .iconst 0, .bastore, .aload 0, .getfield 1236, .iconst 2, .aload 0, .getfield 1219, .fmul, .iconst 1, .fadd, .iconst 0, .bastore, .aload 0,
  .iconst 420, .aload 0, .getfield 1219, .fmul, .putfield 1239, .nop, .aload 0, .getfield 1213, .ifCond .ne 100, .aload 0, .iconst 0, .invokevirtual 225, .ifCond .ne 100, .aload 0,
  .invokevirtual 226, .goto 89, .nop, .aload 0, .aload 0, .getfield 1213, .ifCond .le 108, .aload 0, .getfield 1214, .goto 115, .aload 0, .getfield 1215, .ifCond .le 114, .aload 0,
  .getfield 1216, .goto 115, .iconst (-1), .putfield 1217, .nop, .aload 0, .getfield 1213, .ifCond .le 123, .aload 0, .getfield 1213, .ireturn, .aload 0, .getfield 1215, .ifCond .le 129,
  .aload 0, .getfield 1215, .ireturn, .aload 0, .aload 0, .getfield 1219, .putfield 1218, .aload 0, .invokevirtual 246, .iconst 0, .ireturn]
def p_218 : List Nat := [0, 1, 2, 5, 8, 9, 10, 10, 11, 12, 15, 18, 19, 22, 23, 24, 27, 28, 29, 30, 33, 36, 37, 38, 41, 42, 45, 46, 47, 50,
  51, 52, 55, 56, 57, 60, 61, 62, 65, 66, 67, 68, 71, 72, 75, 76, 77, 80, 81, 84, 85, 88, 89, 90, 91, 94, 95, 98, 99, 100,
  101, 104, 105, 108, 109, 110, 111, 114, 115, 116, 119, 120, 121, 122, 123, 126, 127, 128, 131, 132, 133, 134, 135, 136, 137, 140, 141, 144, 145, 148,
  148, 149, 152, 155, 156, 157, 160, 163, 164, 167, 170, 170, 171, 172, 175, 178, 179, 182, 185, 186, 189, 192, 193, 196, 199, 200, 203, 203, 204, 207,
  210, 211, 214, 215, 216, 219, 222, 223, 226, 227, 228, 229, 232, 235, 236, 239, 240]
/-- WakeHouseModel.cut()V -/
def c_219 : List aI := [.aload 0, .iconst 0, .putfield 1210, .iconst 0, .istore 1, .nop, .aload 0, .getfield 1210, .iconst 400, .if_icmp .gt 176, .aload 0, .iload 1, .invokevirtual 220, .istore 2,
  .iload 1, .aload 0, .getfield 1204, .if_icmp .lt 26, .aload 0, .iconst 0, .aload 0, .getfield 1204, .iconst 0, .bipush 0, .invokevirtual 221, .return_, .iload 2, .iconst 9,
  .if_icmp .eq 38, .iload 2, .iconst 10, .if_icmp .eq 38, .iload 2, .iconst 13, .if_icmp .eq 38, .iload 2, .iconst 32, .if_icmp .ne 41, .nop, .iinc 1 1, .goto 175, .iload 2,
  .invokestatic 222, .ifCond .eq 113, .iconst 0, .istore 3, .bipush 0, .lstore 4, .nop, .aload 0, .iload 1, .iload 3, .fadd, .invokevirtual 220, .invokestatic 222, .ifCond .eq 70,
  .iload 3, .iconst 8, .if_icmp .ge 67, .lload 4, .aload 0, .iload 1, .iload 3, .fadd, .invokevirtual 220, .invokestatic 214, .lstore 4, .nop, .iinc 3 1, .goto 48,
  .iload 3, .iconst 8, .if_icmp .le 75, .iconst 3, .goto 76, .iconst 1, .istore 6, .nop, .iload 3, .iconst 7, .if_icmp .gt 101, .iconst 0, .istore 7, .nop,
  .iload 7, .iconst 18, .if_icmp .ge 101, .aload 0, .getfield 1209, .iload 7, .laload, .lload 4, .lcmp, .ifCond .ne 98, .iconst 20, .iload 7, .fadd, .istore 6,
  .nop, .iinc 7 1, .goto 83, .nop, .aload 0, .iload 6, .iload 1, .iconst 0, .lload 4, .invokevirtual 221, .iload 1, .iload 3, .fadd, .istore 1,
  .goto 175, .iload 2, .invokestatic 223, .ifCond .eq 163, .iconst 0, .istore 3, .iconst 0, .istore 4, .nop, .aload 0, .iload 1, .iload 3, .fadd, .invokevirtual 220,
  .invokestatic 223, .ifCond .eq 146, .iload 3, .iconst 4, .if_icmp .ge 143, .iconst 10, .iload 4, .fmul, .aload 0, .iload 1, .iload 3, .fadd, .invokevirtual 220, .fadd,
  .iconst 48, .fsub, .istore 4, .nop, .iinc 3 1, .goto 120, .aload 0, .iload 3, .iconst 4, .if_icmp .le 152, .iconst 3, .goto 153, .iconst 2, .iload 1,
  .iload 4, .bipush 0, .invokevirtual 221, .nop, .iload 1, .iload 3, .fadd, .istore 1, .goto 175, .iload 1, .aload 0, .iload 1, .iload 2, .aload 0,
  .iload 1, .iconst 1, .fadd, .invokevirtual 220, .invokevirtual 224, .fadd, .istore 1, .goto 5, .return_]
def p_219 : List Nat := [0, 1, 2, 5, 6, 7, 7, 8, 11, 14, 17, 18, 19, 22, 23, 24, 25, 28, 31, 32, 33, 34, 37, 38, 39, 42, 43, 44, 46, 49,
  50, 52, 55, 56, 58, 61, 62, 64, 67, 67, 70, 73, 74, 77, 80, 81, 82, 83, 85, 85, 86, 87, 88, 89, 92, 95, 98, 99, 101, 104,
  106, 107, 108, 109, 110, 113, 116, 118, 118, 121, 124, 125, 127, 130, 131, 134, 135, 137, 137, 138, 140, 143, 144, 146, 146, 148, 150, 153, 154, 157,
  159, 160, 162, 163, 166, 168, 170, 171, 173, 173, 176, 179, 179, 180, 182, 183, 184, 186, 189, 190, 191, 192, 193, 196, 197, 200, 203, 204, 205, 206,
  208, 208, 209, 210, 211, 212, 215, 218, 221, 222, 223, 226, 228, 230, 231, 232, 233, 234, 235, 238, 239, 241, 242, 244, 244, 247, 250, 251, 252, 253,
  256, 257, 260, 261, 262, 264, 265, 268, 268, 269, 270, 271, 272, 275, 276, 277, 278, 279, 280, 281, 282, 283, 286, 289, 290, 291, 294]
/-- WakeHouseModel.byteAt(I)I -/
def c_220 : List aI := [.iload 1, .aload 0, .getfield 1204, .if_icmp .ge 11, .aload 0, .getfield 1203, .iload 1, .baload, .iconst 255, .iand, .goto 12, .iconst 0, .ireturn]
def p_220 : List Nat := [0, 1, 2, 5, 8, 9, 12, 13, 14, 17, 18, 21, 22]
/-- WakeHouseModel.token(IIIJ)V -/
def c_221 : List aI := [.aload 0, .getfield 1205, .aload 0, .getfield 1210, .iload 1, .iastore, .aload 0, .getfield 1206, .aload 0, .getfield 1210, .iload 2, .iastore, .aload 0, .getfield 1207,
  .aload 0, .getfield 1210, .iload 3, .iastore, .aload 0, .getfield 1208, .aload 0, .getfield 1210, .lload 4, .lastore, .aload 0, .dup, .getfield 1210, .iconst 1,
  .fadd, .putfield 1210, .return_]
def p_221 : List Nat := [0, 1, 4, 5, 8, 9, 10, 11, 14, 15, 18, 19, 20, 21, 24, 25, 28, 29, 30, 31, 34, 35, 38, 40, 41, 42, 43, 46, 47, 48,
  51]
/-- WakeHouseModel.isLetter(I)Z -/
def c_222 : List aI := [.iload 0, .iconst 97, .if_icmp .lt 8, .iload 0, .iconst 122, .if_icmp .gt 8, .iconst 1, .goto 9, .iconst 0, .freturn]
def p_222 : List Nat := [0, 1, 3, 6, 7, 9, 12, 13, 16, 17]
/-- WakeHouseModel.isDigit(I)Z -/
def c_223 : List aI := [.iload 0, .iconst 48, .if_icmp .lt 8, .iload 0, .iconst 57, .if_icmp .gt 8, .iconst 1, .goto 9, .iconst 0, .freturn]
def p_223 : List Nat := [0, 1, 3, 6, 7, 9, 12, 13, 16, 17]
/-- WakeHouseModel.sign(III)I -/
def c_224 : List aI := [.iload 2, .iconst 61, .if_icmp .ne 8, .iload 3, .iconst 61, .if_icmp .ne 8, .iconst 1, .goto 10, .nop, .iconst 0, .istore 4, .nop, .iload 4, .ifCond .eq 16,
  .iconst 12, .goto 32, .iload 2, .iconst 59, .if_icmp .ne 21, .iconst 4, .goto 32, .iload 2, .iconst 40, .if_icmp .ne 26, .iconst 6, .goto 32, .iload 2, .iconst 41,
  .if_icmp .ne 31, .iconst 7, .goto 32, .iconst 3, .istore 5, .nop, .iload 2, .iconst 43, .if_icmp .ne 39, .iconst 8, .istore 5, .nop, .iload 2, .iconst 45,
  .if_icmp .ne 45, .iconst 9, .istore 5, .nop, .iload 2, .iconst 42, .if_icmp .ne 51, .iconst 10, .istore 5, .nop, .iload 2, .iconst 47, .if_icmp .ne 57, .iconst 11,
  .istore 5, .nop, .iload 2, .iconst 60, .if_icmp .ne 63, .iconst 13, .istore 5, .nop, .iload 2, .iconst 91, .if_icmp .ne 69, .iconst 14, .istore 5, .nop,
  .iload 2, .iconst 93, .if_icmp .ne 75, .iconst 15, .istore 5, .nop, .aload 0, .iload 5, .iload 1, .iconst 0, .bipush 0, .invokevirtual 221, .iload 4, .ifCond .eq 86,
  .iconst 2, .goto 87, .iconst 1, .ireturn]
def p_224 : List Nat := [0, 1, 3, 6, 7, 9, 12, 13, 16, 16, 17, 19, 19, 21, 24, 26, 29, 30, 32, 35, 36, 39, 40, 42, 45, 47, 50, 51, 53, 56,
  58, 61, 62, 64, 64, 65, 67, 70, 72, 74, 74, 75, 77, 80, 82, 84, 84, 85, 87, 90, 92, 94, 94, 95, 97, 100, 102, 104, 104, 105,
  107, 110, 112, 114, 114, 115, 117, 120, 122, 124, 124, 125, 127, 130, 132, 134, 134, 135, 137, 138, 139, 140, 143, 145, 148, 149, 152, 153]
/-- WakeHouseModel.is(I)Z -/
def c_225 : List aI := [.aload 0, .getfield 1213, .ifCond .ne 12, .aload 0, .getfield 1205, .aload 0, .getfield 1211, .iaload, .iload 1, .if_icmp .ne 12, .iconst 1, .goto 13, .iconst 0, .freturn]
def p_225 : List Nat := [0, 1, 4, 7, 8, 11, 12, 15, 16, 17, 20, 21, 24, 25]
/-- WakeHouseModel.tell()V -/
def c_226 : List aI := [.aload 0, .getfield 1205, .aload 0, .getfield 1211, .iaload, .tableswitch 96 20 31 #[6, 23, 96, 96, 40, 96, 96, 96, 96, 96, 57, 57], .aload 0, .getfield 1224, .aload 0, .getfield 1219, .iaload, .iconst 12, .if_icmp .ne 16, .aload 0,
  .iconst 2, .invokevirtual 227, .nop, .aload 0, .getfield 1213, .ifCond .ne 100, .aload 0, .invokevirtual 228, .goto 100, .aload 0, .getfield 1227, .aload 0, .getfield 1219, .iaload,
  .iconst 9, .if_icmp .ne 33, .aload 0, .iconst 2, .invokevirtual 227, .nop, .aload 0, .getfield 1213, .ifCond .ne 100, .aload 0, .invokevirtual 235, .goto 100, .aload 0, .getfield 1230,
  .aload 0, .getfield 1219, .iaload, .iconst 12, .if_icmp .ne 50, .aload 0, .iconst 2, .invokevirtual 227, .nop, .aload 0, .getfield 1213, .ifCond .ne 100, .aload 0, .invokevirtual 236,
  .goto 100, .nop, .iconst 2, .aload 0, .getfield 1219, .fmul, .aload 0, .getfield 1205, .aload 0, .getfield 1211, .iaload, .fadd, .iconst 30, .fsub,
  .istore 1, .aload 0, .invokevirtual 229, .aload 0, .getfield 1236, .iload 1, .iconst 1, .bastore, .aload 0, .getfield 1237, .iload 1, .aload 0, .getfield 1239, .iastore,
  .aload 0, .invokevirtual 238, .aload 0, .getfield 1238, .iload 1, .aload 0, .getfield 1239, .iastore, .aload 0, .iconst 4, .invokevirtual 231, .goto 100, .nop, .aload 0,
  .iconst 1, .invokevirtual 227, .return_]
def p_226 : List Nat := [0, 1, 4, 5, 8, 9, 72, 73, 76, 77, 80, 81, 83, 86, 87, 88, 91, 91, 92, 95, 98, 99, 102, 105, 106, 109, 110, 113, 114, 116,
  119, 120, 121, 124, 124, 125, 128, 131, 132, 135, 138, 139, 142, 143, 146, 147, 149, 152, 153, 154, 157, 157, 158, 161, 164, 165, 168, 171, 171, 172,
  173, 176, 177, 178, 181, 182, 185, 186, 187, 189, 190, 191, 192, 195, 196, 199, 200, 201, 202, 203, 206, 207, 208, 211, 212, 213, 216, 217, 220, 221,
  222, 225, 226, 227, 228, 231, 234, 234, 235, 236, 239]
/-- WakeHouseModel.fail(I)V -/
def c_227 : List aI := [.aload 0, .getfield 1213, .ifCond .le 4, .return_, .aload 0, .iload 1, .putfield 1213, .aload 0, .aload 0, .getfield 1206, .aload 0, .getfield 1211, .iaload, .putfield 1214,
  .return_]
def p_227 : List Nat := [0, 1, 4, 7, 8, 9, 10, 13, 14, 15, 18, 19, 22, 23, 26]
/-- WakeHouseModel.tellBed()V -/
def c_228 : List aI := [.iconst 12, .aload 0, .getfield 1219, .fmul, .aload 0, .getfield 1224, .aload 0, .getfield 1219, .iaload, .fadd, .istore 1, .aload 0, .invokevirtual 229, .aload 0,
  .invokevirtual 230, .istore 2, .aload 0, .getfield 1225, .iload 1, .aload 0, .iconst 0, .iconst 3, .invokevirtual 233, .iastore, .aload 0, .getfield 1226, .iload 1, .aload 0,
  .iconst 0, .iconst 9, .invokevirtual 233, .iastore, .aload 0, .iconst 4, .invokevirtual 231, .aload 0, .getfield 1213, .ifCond .le 39, .return_, .aload 0, .iload 2, .iconst 0,
  .aload 0, .getfield 1224, .aload 0, .getfield 1219, .iaload, .invokevirtual 234, .aload 0, .getfield 1224, .aload 0, .getfield 1219, .dup2, .iaload, .iconst 1, .fadd,
  .iastore, .return_]
def p_228 : List Nat := [0, 2, 3, 6, 7, 8, 11, 12, 15, 16, 17, 18, 19, 22, 23, 26, 27, 28, 31, 32, 33, 34, 35, 38, 39, 40, 43, 44, 45, 46,
  48, 51, 52, 53, 54, 57, 58, 61, 64, 65, 66, 67, 68, 69, 72, 73, 76, 77, 80, 81, 84, 85, 88, 89, 90, 91, 92, 93]
/-- WakeHouseModel.goesOn()V -/
def c_229 : List aI := [.aload 0, .getfield 1211, .iconst 400, .if_icmp .ne 8, .aload 0, .iconst 2, .invokevirtual 227, .goto 14, .aload 0, .dup, .getfield 1211, .iconst 1, .fadd, .putfield 1211,
  .return_]
def p_229 : List Nat := [0, 1, 4, 7, 10, 11, 12, 15, 18, 19, 20, 23, 24, 25, 28]
/-- WakeHouseModel.named()I -/
def c_230 : List aI := [.aload 0, .getfield 1211, .istore 1, .aload 0, .iconst 1, .invokevirtual 231, .iconst 0, .istore 2, .nop, .iload 2, .aload 0, .getfield 1220, .if_icmp .ge 32, .aload 0,
  .getfield 1213, .ifCond .ne 32, .aload 0, .getfield 1221, .iload 2, .laload, .aload 0, .getfield 1208, .iload 1, .laload, .lcmp, .ifCond .ne 30, .aload 0, .iconst 3,
  .iload 1, .invokevirtual 232, .iinc 2 1, .goto 8, .iload 1, .ireturn]
def p_230 : List Nat := [0, 1, 4, 5, 6, 7, 10, 11, 12, 12, 13, 14, 17, 20, 21, 24, 27, 28, 31, 32, 33, 34, 37, 38, 39, 40, 43, 44, 45, 46,
  49, 52, 55, 56]
/-- WakeHouseModel.must(I)V -/
def c_231 : List aI := [.aload 0, .iload 1, .invokevirtual 225, .ifCond .eq 7, .aload 0, .invokevirtual 229, .goto 10, .aload 0, .iconst 1, .invokevirtual 227, .return_]
def p_231 : List Nat := [0, 1, 2, 5, 8, 9, 12, 15, 16, 17, 20]
/-- WakeHouseModel.wrong(II)V -/
def c_232 : List aI := [.aload 0, .getfield 1206, .iload 2, .iaload, .istore 3, .aload 0, .getfield 1213, .ifCond .gt 23, .aload 0, .getfield 1215, .ifCond .eq 24, .iload 3, .aload 0, .getfield 1216,
  .if_icmp .gt 23, .iload 3, .aload 0, .getfield 1216, .if_icmp .ne 24, .iload 1, .aload 0, .getfield 1215, .if_icmp .lt 24, .return_, .aload 0, .iload 1, .putfield 1215, .aload 0,
  .iload 3, .putfield 1216, .return_]
def p_232 : List Nat := [0, 1, 4, 5, 6, 7, 8, 11, 14, 15, 18, 21, 22, 23, 26, 29, 30, 31, 34, 37, 38, 39, 42, 45, 46, 47, 48, 51, 52, 53,
  56]
/-- WakeHouseModel.told(II)I -/
def c_233 : List aI := [.aload 0, .getfield 1213, .ifCond .gt 7, .aload 0, .iconst 2, .invokevirtual 225, .ifCond .ne 12, .aload 0, .iconst 1, .invokevirtual 227, .iload 1, .ireturn, .aload 0, .getfield 1207,
  .aload 0, .getfield 1211, .iaload, .istore 3, .iload 3, .iload 1, .if_icmp .lt 24, .iload 3, .iload 2, .if_icmp .le 29, .aload 0, .iconst 5, .aload 0, .getfield 1211,
  .invokevirtual 232, .aload 0, .invokevirtual 229, .iload 3, .ireturn]
def p_233 : List Nat := [0, 1, 4, 7, 8, 9, 12, 15, 16, 17, 20, 21, 22, 23, 26, 27, 30, 31, 32, 33, 34, 37, 38, 39, 42, 43, 44, 45, 48, 51,
  52, 55, 56]
/-- WakeHouseModel.knows(III)V -/
def c_234 : List aI := [.aload 0, .getfield 1221, .aload 0, .getfield 1220, .aload 0, .getfield 1208, .iload 1, .laload, .lastore, .aload 0, .getfield 1222, .aload 0, .getfield 1220, .iload 2,
  .iastore, .aload 0, .getfield 1223, .aload 0, .getfield 1220, .iload 3, .iastore, .aload 0, .dup, .getfield 1220, .iconst 1, .fadd, .putfield 1220, .return_]
def p_234 : List Nat := [0, 1, 4, 5, 8, 9, 12, 13, 14, 15, 16, 19, 20, 23, 24, 25, 26, 29, 30, 33, 34, 35, 36, 37, 40, 41, 42, 45]
/-- WakeHouseModel.tellClock()V -/
def c_235 : List aI := [.iconst 9, .aload 0, .getfield 1219, .fmul, .aload 0, .getfield 1227, .aload 0, .getfield 1219, .iaload, .fadd, .istore 1, .aload 0, .invokevirtual 229, .aload 0,
  .invokevirtual 230, .istore 2, .aload 0, .getfield 1228, .iload 1, .aload 0, .iconst 1, .iconst 12, .invokevirtual 233, .iastore, .aload 0, .getfield 1229, .iload 1, .iconst 0,
  .iastore, .aload 0, .getfield 1213, .ifCond .ne 62, .aload 0, .iconst 22, .invokevirtual 225, .ifCond .ne 40, .aload 0, .iconst 23, .invokevirtual 225, .ifCond .eq 62, .nop, .aload 0,
  .iconst 22, .invokevirtual 225, .istore 3, .aload 0, .invokevirtual 229, .aload 0, .iconst 0, .iconst 30, .invokevirtual 233, .istore 4, .aload 0, .getfield 1229, .iload 1, .iload 3,
  .ifCond .eq 60, .iload 4, .ineg, .goto 61, .iload 4, .iastore, .nop, .aload 0, .iconst 4, .invokevirtual 231, .aload 0, .getfield 1213, .ifCond .le 70, .return_,
  .aload 0, .iload 2, .iconst 1, .aload 0, .getfield 1227, .aload 0, .getfield 1219, .iaload, .invokevirtual 234, .aload 0, .getfield 1227, .aload 0, .getfield 1219, .dup2,
  .iaload, .iconst 1, .fadd, .iastore, .return_]
def p_235 : List Nat := [0, 2, 3, 6, 7, 8, 11, 12, 15, 16, 17, 18, 19, 22, 23, 26, 27, 28, 31, 32, 33, 34, 36, 39, 40, 41, 44, 45, 46, 47,
  48, 51, 54, 55, 57, 60, 63, 64, 66, 69, 72, 72, 73, 75, 78, 79, 80, 83, 84, 85, 87, 90, 92, 93, 96, 97, 98, 101, 103, 104,
  107, 109, 110, 110, 111, 112, 115, 116, 119, 122, 123, 124, 125, 126, 127, 130, 131, 134, 135, 138, 139, 142, 143, 146, 147, 148, 149, 150, 151]
/-- WakeHouseModel.tellSleeper()V -/
def c_236 : List aI := [.iconst 12, .aload 0, .getfield 1219, .fmul, .aload 0, .getfield 1230, .aload 0, .getfield 1219, .iaload, .fadd, .istore 1, .aload 0, .invokevirtual 229, .aload 0,
  .invokevirtual 230, .istore 2, .aload 0, .iconst 25, .invokevirtual 231, .aload 0, .getfield 1231, .iload 1, .aload 0, .getfield 1213, .ifCond .le 27, .iconst (-1), .goto 29, .aload 0,
  .invokevirtual 237, .iastore, .nop, .aload 0, .iconst 26, .invokevirtual 231, .aload 0, .getfield 1232, .iload 1, .aload 0, .iconst 0, .iconst 9, .invokevirtual 233, .iastore,
  .aload 0, .getfield 1233, .iload 1, .iconst (-2), .iastore, .aload 0, .getfield 1234, .iload 1, .iconst 0, .iastore, .aload 0, .getfield 1235, .iload 1, .iconst 0,
  .iastore, .aload 0, .getfield 1213, .ifCond .ne 86, .aload 0, .iconst 27, .invokevirtual 225, .ifCond .eq 86, .aload 0, .invokevirtual 229, .aload 0, .getfield 1233, .iload 1, .aload 0,
  .iconst 0, .iconst 399, .invokevirtual 233, .iastore, .aload 0, .iconst 28, .invokevirtual 231, .aload 0, .getfield 1234, .iload 1, .aload 0, .iconst 0, .iconst 9, .invokevirtual 233,
  .iastore, .goto 104, .nop, .aload 0, .getfield 1213, .ifCond .ne 104, .aload 0, .iconst 29, .invokevirtual 225, .ifCond .eq 104, .aload 0, .invokevirtual 229, .aload 0, .getfield 1235,
  .iload 1, .aload 0, .iconst 0, .iconst 9, .invokevirtual 233, .iastore, .nop, .aload 0, .iconst 4, .invokevirtual 231, .aload 0, .getfield 1213, .ifCond .le 112, .return_,
  .aload 0, .iload 2, .iconst 1, .aload 0, .getfield 1230, .aload 0, .getfield 1219, .iaload, .invokevirtual 234, .aload 0, .getfield 1230, .aload 0, .getfield 1219, .dup2,
  .iaload, .iconst 1, .fadd, .iastore, .return_]
def p_236 : List Nat := [0, 2, 3, 6, 7, 8, 11, 12, 15, 16, 17, 18, 19, 22, 23, 26, 27, 28, 30, 33, 34, 37, 38, 39, 42, 45, 46, 49, 50, 53,
  54, 54, 55, 57, 60, 61, 64, 65, 66, 67, 69, 72, 73, 74, 77, 78, 80, 81, 82, 85, 86, 87, 88, 89, 92, 93, 94, 95, 96, 99,
  102, 103, 105, 108, 111, 112, 115, 116, 119, 120, 121, 122, 125, 128, 129, 130, 132, 135, 136, 139, 140, 141, 142, 144, 147, 148, 151, 151, 152, 155,
  158, 159, 161, 164, 167, 168, 171, 172, 175, 176, 177, 178, 180, 183, 184, 184, 185, 186, 189, 190, 193, 196, 197, 198, 199, 200, 201, 204, 205, 208,
  209, 212, 213, 216, 217, 220, 221, 222, 223, 224, 225]
/-- WakeHouseModel.freeBed()I -/
def c_237 : List aI := [.aload 0, .getfield 1211, .istore 1, .aload 0, .iconst 1, .invokevirtual 231, .aload 0, .getfield 1213, .ifCond .le 11, .iconst (-1), .ireturn, .iconst (-1), .istore 2, .iconst 0,
  .istore 3, .nop, .iload 3, .aload 0, .getfield 1220, .if_icmp .ge 45, .iload 2, .iconst (-1), .if_icmp .ne 43, .aload 0, .getfield 1221, .iload 3, .laload, .aload 0,
  .getfield 1208, .iload 1, .laload, .lcmp, .ifCond .ne 43, .aload 0, .getfield 1222, .iload 3, .iaload, .ifCond .ne 43, .aload 0, .getfield 1223, .iload 3, .iaload,
  .istore 2, .iinc 3 1, .goto 15, .iload 2, .iconst (-1), .if_icmp .ne 52, .aload 0, .iconst 4, .iload 1, .invokevirtual 232, .iconst 0, .istore 3, .nop, .iload 3,
  .aload 0, .getfield 1230, .aload 0, .getfield 1219, .iaload, .if_icmp .ge 82, .iload 2, .iconst (-1), .if_icmp .eq 82, .aload 0, .getfield 1231, .iconst 12, .aload 0, .getfield 1219,
  .fmul, .iload 3, .fadd, .iaload, .iload 2, .if_icmp .ne 80, .aload 0, .iconst 3, .iload 1, .invokevirtual 232, .iinc 3 1, .goto 54, .iload 2, .ireturn]
def p_237 : List Nat := [0, 1, 4, 5, 6, 7, 10, 11, 14, 17, 18, 19, 20, 21, 22, 23, 23, 24, 25, 28, 31, 32, 33, 36, 37, 40, 41, 42, 43, 46,
  47, 48, 49, 52, 53, 56, 57, 58, 61, 62, 65, 66, 67, 68, 71, 74, 75, 76, 79, 80, 81, 82, 85, 86, 87, 87, 88, 89, 92, 93,
  96, 97, 100, 101, 102, 105, 106, 109, 111, 112, 115, 116, 117, 118, 119, 120, 123, 124, 125, 126, 129, 132, 135, 136]
/-- WakeHouseModel.expression()V -/
def c_238 : List aI := [.aload 0, .iconst 0, .putfield 1243, .aload 0, .getfield 1213, .ifCond .ne 8, .iconst 1, .goto 9, .iconst 0, .istore 1, .nop, .iload 1, .ifCond .eq 65, .aload 0,
  .getfield 1213, .ifCond .ne 65, .aload 0, .iconst 6, .invokevirtual 225, .ifCond .ne 24, .aload 0, .iconst 14, .invokevirtual 225, .ifCond .eq 51, .nop, .aload 0, .getfield 1212, .iconst 6,
  .if_icmp .ne 32, .aload 0, .iconst 2, .invokevirtual 227, .nop, .aload 0, .getfield 1213, .ifCond .le 37, .return_, .aload 0, .dup, .getfield 1212, .iconst 1, .fadd,
  .putfield 1212, .aload 0, .aload 0, .getfield 1205, .aload 0, .getfield 1211, .iaload, .invokevirtual 239, .goto 10, .aload 0, .invokevirtual 240, .aload 0, .getfield 1213, .ifCond .ne 61,
  .aload 0, .invokevirtual 242, .ifCond .eq 61, .iconst 1, .goto 63, .nop, .iconst 0, .istore 1, .goto 10, .return_]
def p_238 : List Nat := [0, 1, 2, 5, 6, 9, 12, 13, 16, 17, 18, 18, 19, 22, 23, 26, 29, 30, 32, 35, 38, 39, 41, 44, 47, 47, 48, 51, 53, 56,
  57, 58, 61, 61, 62, 65, 68, 69, 70, 71, 74, 75, 76, 79, 80, 81, 84, 85, 88, 89, 92, 95, 96, 99, 100, 103, 106, 107, 110, 113,
  114, 117, 117, 118, 119, 122]
/-- WakeHouseModel.waitFor(I)V -/
def c_239 : List aI := [.aload 0, .getfield 1242, .aload 0, .getfield 1243, .iload 1, .iastore, .aload 0, .dup, .getfield 1243, .iconst 1, .fadd, .putfield 1243, .aload 0, .invokevirtual 229,
  .return_]
def p_239 : List Nat := [0, 1, 4, 5, 8, 9, 10, 11, 12, 15, 16, 17, 20, 21, 24]
/-- WakeHouseModel.unit()V -/
def c_240 : List aI := [.aload 0, .getfield 1205, .aload 0, .getfield 1211, .iaload, .istore 1, .iload 1, .iconst 2, .if_icmp .ne 18, .aload 0, .iconst 0, .aload 0, .getfield 1207, .aload 0,
  .getfield 1211, .iaload, .invokevirtual 241, .goto 58, .iload 1, .iconst 32, .if_icmp .lt 31, .iload 1, .iconst 35, .if_icmp .gt 31, .aload 0, .iconst 1, .iload 1, .iconst 32,
  .fsub, .invokevirtual 241, .goto 58, .iload 1, .iconst 26, .if_icmp .ne 39, .aload 0, .iconst 1, .iconst 4, .invokevirtual 241, .goto 58, .iload 1, .iconst 36, .if_icmp .ne 47,
  .aload 0, .iconst 1, .iconst 5, .invokevirtual 241, .goto 58, .iload 1, .iconst 37, .if_icmp .ne 55, .aload 0, .iconst 1, .iconst 6, .invokevirtual 241, .goto 58, .aload 0,
  .iconst 1, .invokevirtual 227, .aload 0, .getfield 1213, .ifCond .ne 63, .aload 0, .invokevirtual 229, .return_]
def p_240 : List Nat := [0, 1, 4, 5, 8, 9, 10, 11, 12, 15, 16, 17, 18, 21, 22, 25, 26, 29, 32, 33, 35, 38, 39, 41, 44, 45, 46, 47, 49, 50,
  53, 56, 57, 59, 62, 63, 64, 65, 68, 71, 72, 74, 77, 78, 79, 80, 83, 86, 87, 89, 92, 93, 94, 96, 99, 102, 103, 104, 107, 108,
  111, 114, 115, 118]
/-- WakeHouseModel.emit(II)V -/
def c_241 : List aI := [.aload 0, .getfield 1213, .ifCond .le 4, .return_, .aload 0, .getfield 1240, .aload 0, .getfield 1239, .iload 1, .iastore, .aload 0, .getfield 1241, .aload 0, .getfield 1239,
  .iload 2, .iastore, .aload 0, .dup, .getfield 1239, .iconst 1, .fadd, .putfield 1239, .return_]
def p_241 : List Nat := [0, 1, 4, 7, 8, 9, 12, 13, 16, 17, 18, 19, 22, 23, 26, 27, 28, 29, 30, 33, 34, 35, 38]
/-- WakeHouseModel.goes()Z -/
def c_242 : List aI := [.nop, .aload 0, .getfield 1213, .ifCond .ne 136, .aload 0, .iconst 10, .invokevirtual 225, .ifCond .ne 12, .aload 0, .iconst 11, .invokevirtual 225, .ifCond .eq 25, .nop, .aload 0,
  .iconst 1, .invokevirtual 243, .aload 0, .aload 0, .getfield 1205, .aload 0, .getfield 1211, .iaload, .invokevirtual 239, .iconst 1, .freturn, .aload 0, .iconst 0, .invokevirtual 243,
  .aload 0, .iconst 8, .invokevirtual 225, .ifCond .ne 36, .aload 0, .iconst 9, .invokevirtual 225, .ifCond .eq 46, .nop, .aload 0, .aload 0, .getfield 1205, .aload 0, .getfield 1211,
  .iaload, .invokevirtual 239, .iconst 1, .freturn, .aload 0, .iconst 13, .invokevirtual 225, .ifCond .ne 54, .aload 0, .iconst 12, .invokevirtual 225, .ifCond .eq 68, .nop, .aload 0,
  .iconst 14, .invokevirtual 245, .ifCond .eq 68, .aload 0, .aload 0, .getfield 1205, .aload 0, .getfield 1211, .iaload, .invokevirtual 239, .iconst 1, .freturn, .nop, .aload 0,
  .iconst 7, .invokevirtual 225, .ifCond .eq 84, .aload 0, .iconst 6, .invokevirtual 245, .ifCond .eq 84, .aload 0, .dup, .getfield 1243, .iconst 1, .fsub, .putfield 1243, .goto 126,
  .nop, .aload 0, .iconst 15, .invokevirtual 225, .ifCond .eq 116, .aload 0, .iconst 13, .invokevirtual 245, .ifCond .ne 97, .aload 0, .iconst 12, .invokevirtual 245, .ifCond .eq 116, .nop,
  .aload 0, .aload 0, .iconst 13, .invokevirtual 245, .ifCond .eq 105, .iconst 6, .goto 106, .iconst 7, .iconst 0, .invokevirtual 241, .nop, .aload 0, .dup, .getfield 1243,
  .iconst 2, .fsub, .putfield 1243, .goto 126, .nop, .aload 0, .getfield 1243, .ifCond .le 123, .aload 0, .iconst 1, .invokevirtual 227, .nop, .iconst 0, .freturn,
  .nop, .aload 0, .dup, .getfield 1212, .iconst 1, .fsub, .putfield 1212, .aload 0, .invokevirtual 229, .goto 0, .iconst 0, .freturn]
def p_242 : List Nat := [0, 0, 1, 4, 7, 8, 10, 13, 16, 17, 19, 22, 25, 25, 26, 27, 30, 31, 32, 35, 36, 39, 40, 43, 44, 45, 46, 47, 50, 51,
  53, 56, 59, 60, 62, 65, 68, 68, 69, 70, 73, 74, 77, 78, 81, 82, 83, 84, 86, 89, 92, 93, 95, 98, 101, 101, 102, 104, 107, 110,
  111, 112, 115, 116, 119, 120, 123, 124, 125, 125, 126, 128, 131, 134, 135, 137, 140, 143, 144, 145, 148, 149, 150, 153, 156, 156, 157, 159, 162, 165,
  166, 168, 171, 174, 175, 177, 180, 183, 183, 184, 185, 187, 190, 193, 195, 198, 200, 201, 204, 204, 205, 206, 209, 210, 211, 214, 217, 217, 218, 221,
  224, 225, 226, 229, 229, 230, 231, 231, 232, 233, 236, 237, 238, 241, 242, 245, 248, 249]
/-- WakeHouseModel.comesOut(Z)V -/
def c_243 : List aI := [.nop, .aload 0, .invokevirtual 244, .ifCond .ne 14, .iload 1, .ifCond .ne 49, .aload 0, .iconst 8, .invokevirtual 245, .ifCond .ne 14, .aload 0, .iconst 9, .invokevirtual 245, .ifCond .eq 49,
  .nop, .aload 0, .getfield 1242, .aload 0, .getfield 1243, .iconst 1, .fsub, .iaload, .istore 2, .aload 0, .dup, .getfield 1243, .iconst 1, .fsub,
  .putfield 1243, .aload 0, .iload 2, .iconst 8, .if_icmp .ne 35, .iconst 2, .goto 46, .iload 2, .iconst 9, .if_icmp .ne 40, .iconst 3, .goto 46, .iload 2, .iconst 10,
  .if_icmp .ne 45, .iconst 4, .goto 46, .iconst 5, .iconst 0, .invokevirtual 241, .goto 0, .return_]
def p_243 : List Nat := [0, 0, 1, 4, 7, 8, 11, 12, 14, 17, 20, 21, 23, 26, 29, 29, 30, 33, 34, 37, 38, 39, 40, 41, 42, 43, 46, 47, 48, 51,
  52, 53, 55, 58, 59, 62, 63, 65, 68, 69, 72, 73, 75, 78, 79, 82, 83, 84, 87, 90]
/-- WakeHouseModel.isStrong()Z -/
def c_244 : List aI := [.aload 0, .iconst 10, .invokevirtual 245, .ifCond .ne 8, .aload 0, .iconst 11, .invokevirtual 245, .ifCond .eq 10, .iconst 1, .goto 11, .iconst 0, .freturn]
def p_244 : List Nat := [0, 1, 3, 6, 9, 10, 12, 15, 18, 19, 22, 23]
/-- WakeHouseModel.waitsOn(I)Z -/
def c_245 : List aI := [.aload 0, .getfield 1243, .ifCond .le 14, .aload 0, .getfield 1242, .aload 0, .getfield 1243, .iconst 1, .fsub, .iaload, .iload 1, .if_icmp .ne 14, .iconst 1, .goto 15,
  .iconst 0, .freturn]
def p_245 : List Nat := [0, 1, 4, 7, 8, 11, 12, 15, 16, 17, 18, 19, 22, 23, 26, 27]
/-- WakeHouseModel.begins()V -/
def c_246 : List aI := [.aload 0, .iconst 0, .putfield 1248, .aload 0, .iconst 0, .putfield 1276, .iconst 0, .istore 1, .nop, .iload 1, .iconst 12, .if_icmp .ge 41, .aload 0, .getfield 1246,
  .iload 1, .iload 1, .aload 0, .getfield 1230, .aload 0, .getfield 1218, .iaload, .if_icmp .ge 32, .aload 0, .getfield 1231, .iconst 12, .aload 0, .getfield 1218, .fmul,
  .iload 1, .fadd, .iaload, .goto 33, .iconst (-1), .iastore, .aload 0, .getfield 1247, .iload 1, .iconst 0, .bastore, .iinc 1 1, .goto 8, .aload 0,
  .getfield 1282, .iconst 0, .iconst (-1), .iastore, .aload 0, .getfield 1282, .iconst 1, .iconst (-1), .iastore, .return_]
def p_246 : List Nat := [0, 1, 2, 5, 6, 7, 10, 11, 12, 12, 13, 15, 18, 19, 22, 23, 24, 25, 28, 29, 32, 33, 36, 37, 40, 42, 43, 46, 47, 48,
  49, 50, 53, 54, 55, 56, 59, 60, 61, 62, 65, 68, 69, 72, 73, 74, 75, 76, 79, 80, 81, 82]
/-- WakeHouseModel.place()I -/
def c_247 : List aI := [.aload 0, .getfield 1217, .ireturn]
def p_247 : List Nat := [0, 1, 4]
/-- WakeHouseModel.of(II)I -/
def c_248 : List aI := [.aload 0, .iload 1, .invokevirtual 249, .ifCond .ne 6, .iconst (-1), .ireturn, .iconst 12, .aload 0, .getfield 1218, .fmul, .iload 1, .fadd, .istore 3, .iload 2,
  .tableswitch 49 0 5 #[15, 20, 25, 30, 35, 40], .aload 0, .getfield 1246, .iload 1, .iaload, .ireturn, .aload 0, .getfield 1232, .iload 3, .iaload, .ireturn, .aload 0, .getfield 1233, .iload 3,
  .iaload, .ireturn, .aload 0, .getfield 1234, .iload 3, .iaload, .ireturn, .aload 0, .getfield 1235, .iload 3, .iaload, .ireturn, .aload 0, .getfield 1247,
  .iload 1, .baload, .ifCond .eq 47, .iconst 1, .goto 48, .iconst 0, .ireturn, .iconst (-1), .ireturn]
def p_248 : List Nat := [0, 1, 2, 5, 8, 9, 10, 12, 13, 16, 17, 18, 19, 20, 21, 60, 61, 64, 65, 66, 67, 68, 71, 72, 73, 74, 75, 78, 79, 80,
  81, 82, 85, 86, 87, 88, 89, 92, 93, 94, 95, 96, 99, 100, 101, 104, 105, 108, 109, 110, 111]
/-- WakeHouseModel.isSleeper(I)Z -/
def c_249 : List aI := [.iload 1, .iconst 0, .aload 0, .getfield 1230, .aload 0, .getfield 1218, .iaload, .iconst 1, .fsub, .invokestatic 250, .freturn]
def p_249 : List Nat := [0, 1, 2, 3, 6, 7, 10, 11, 12, 13, 16]
/-- WakeHouseModel.in(III)Z -/
def c_250 : List aI := [.iload 0, .iload 1, .if_icmp .lt 8, .iload 0, .iload 2, .if_icmp .gt 8, .iconst 1, .goto 9, .iconst 0, .freturn]
def p_250 : List Nat := [0, 1, 2, 5, 6, 7, 10, 11, 14, 15]
/-- WakeHouseModel.lies(I)I -/
def c_251 : List aI := [.aload 0, .iload 1, .invokevirtual 252, .ifCond .eq 8, .aload 0, .iload 1, .invokevirtual 253, .goto 9, .iconst (-1), .ireturn]
def p_251 : List Nat := [0, 1, 2, 5, 8, 9, 10, 13, 16, 17]
/-- WakeHouseModel.isBed(I)Z -/
def c_252 : List aI := [.iload 1, .iconst 0, .aload 0, .getfield 1224, .aload 0, .getfield 1218, .iaload, .iconst 1, .fsub, .invokestatic 250, .freturn]
def p_252 : List Nat := [0, 1, 2, 3, 6, 7, 10, 11, 12, 13, 16]
/-- WakeHouseModel.whoLies(I)I -/
def c_253 : List aI := [.iconst 0, .istore 2, .nop, .iload 2, .aload 0, .getfield 1230, .aload 0, .getfield 1218, .iaload, .if_icmp .ge 20, .aload 0, .getfield 1246, .iload 2, .iaload,
  .iload 1, .if_icmp .ne 18, .iload 2, .ireturn, .iinc 2 1, .goto 2, .iconst (-2), .ireturn]
def p_253 : List Nat := [0, 1, 2, 2, 3, 4, 7, 8, 11, 12, 15, 16, 19, 20, 21, 22, 25, 26, 27, 30, 33, 35]
/-- WakeHouseModel.hears(IIII)I -/
def c_254 : List aI := [.aload 0, .iload 1, .invokevirtual 249, .ifCond .eq 21, .iload 2, .invokestatic 255, .ifCond .eq 21, .aload 0, .iload 3, .invokevirtual 252, .ifCond .eq 21, .iload 4, .invokestatic 256, .ifCond .eq 21,
  .aload 0, .iload 1, .iload 2, .iload 3, .iload 4, .invokevirtual 257, .goto 22, .iconst (-1), .ireturn]
def p_254 : List Nat := [0, 1, 2, 5, 8, 9, 12, 15, 16, 17, 20, 23, 25, 28, 31, 32, 33, 34, 35, 37, 40, 43, 44]
/-- WakeHouseModel.isLoud(I)Z -/
def c_255 : List aI := [.iload 0, .iconst 1, .iconst 12, .invokestatic 250, .freturn]
def p_255 : List Nat := [0, 1, 2, 4, 7]
/-- WakeHouseModel.isMinute(I)Z -/
def c_256 : List aI := [.iload 0, .iconst 0, .iconst 399, .invokestatic 250, .freturn]
def p_256 : List Nat := [0, 1, 2, 5, 8]
/-- WakeHouseModel.hearing(IIII)I -/
def c_257 : List aI := [.aload 0, .getfield 1244, .iconst 0, .iload 2, .iastore, .aload 0, .getfield 1244, .iconst 1, .aload 0, .iload 3, .aload 0, .getfield 1246, .iload 1, .iaload,
  .invokevirtual 258, .iastore, .aload 0, .getfield 1244, .iconst 2, .aload 0, .iload 3, .aload 0, .getfield 1246, .iload 1, .iaload, .invokevirtual 260, .iastore, .aload 0,
  .getfield 1244, .iconst 3, .iload 4, .iconst 60, .idiv, .iastore, .aload 0, .getfield 1244, .iconst 4, .aload 0, .getfield 1232, .iconst 12, .aload 0, .getfield 1218,
  .fmul, .iload 1, .fadd, .iaload, .iastore, .aload 0, .getfield 1244, .iconst 5, .aload 0, .getfield 1247, .iload 1, .baload, .ifCond .eq 57, .iconst 1,
  .goto 58, .iconst 0, .iastore, .aload 0, .getfield 1244, .iconst 6, .iconst 0, .iastore, .aload 0, .getfield 1236, .iconst 2, .aload 0, .getfield 1218, .fmul,
  .baload, .ifCond .eq 79, .aload 0, .iconst 2, .aload 0, .getfield 1218, .fmul, .invokevirtual 261, .goto 99, .iload 2, .aload 0, .getfield 1244, .iconst 1, .iaload,
  .fsub, .aload 0, .getfield 1244, .iconst 2, .iaload, .iconst 3, .fmul, .fsub, .aload 0, .getfield 1244, .iconst 5, .iaload, .iconst 4, .fmul,
  .fsub, .istore 5, .iload 5, .iconst 10, .invokestatic 262, .ireturn]
def p_257 : List Nat := [0, 1, 4, 5, 6, 7, 8, 11, 12, 13, 14, 15, 18, 19, 20, 23, 24, 25, 28, 29, 30, 31, 32, 35, 36, 37, 40, 41, 42, 45,
  46, 48, 50, 51, 52, 53, 56, 57, 58, 61, 63, 64, 67, 68, 69, 70, 71, 72, 73, 76, 77, 78, 81, 82, 83, 86, 87, 90, 91, 92,
  93, 96, 98, 99, 100, 101, 104, 105, 106, 109, 110, 111, 114, 115, 116, 117, 120, 121, 124, 127, 128, 129, 132, 133, 134, 135, 136, 139, 140, 141,
  142, 143, 144, 145, 148, 149, 150, 151, 152, 153, 155, 157, 159, 162]
/-- WakeHouseModel.gapOf(II)I -/
def c_258 : List aI := [.aload 0, .getfield 1226, .iconst 12, .aload 0, .getfield 1218, .fmul, .iload 1, .fadd, .iaload, .aload 0, .getfield 1226, .iconst 12, .aload 0, .getfield 1218,
  .fmul, .iload 2, .fadd, .iaload, .fsub, .invokestatic 259, .ireturn]
def p_258 : List Nat := [0, 1, 4, 6, 7, 10, 11, 12, 13, 14, 15, 18, 20, 21, 24, 25, 26, 27, 28, 29, 32]
/-- WakeHouseModel.bare(I)I -/
def c_259 : List aI := [.iload 0, .ifCond .ge 5, .iload 0, .ineg, .goto 6, .iload 0, .ireturn]
def p_259 : List Nat := [0, 1, 4, 5, 6, 9, 10]
/-- WakeHouseModel.floorsOf(II)I -/
def c_260 : List aI := [.aload 0, .getfield 1225, .iconst 12, .aload 0, .getfield 1218, .fmul, .iload 1, .fadd, .iaload, .aload 0, .getfield 1225, .iconst 12, .aload 0, .getfield 1218,
  .fmul, .iload 2, .fadd, .iaload, .fsub, .invokestatic 259, .ireturn]
def p_260 : List Nat := [0, 1, 4, 6, 7, 10, 11, 12, 13, 14, 15, 18, 20, 21, 24, 25, 26, 27, 28, 29, 32]
/-- WakeHouseModel.valueOf(I)I -/
def c_261 : List aI := [.iconst 0, .istore 2, .aload 0, .getfield 1237, .iload 1, .iaload, .istore 3, .nop, .iload 3, .aload 0, .getfield 1238, .iload 1, .iaload, .if_icmp .ge 114,
  .aload 0, .getfield 1240, .iload 3, .iaload, .istore 4, .iload 4, .iconst 2, .if_icmp .ge 43, .aload 0, .getfield 1245, .iload 2, .iload 4, .ifCond .ne 32, .aload 0,
  .getfield 1241, .iload 3, .iaload, .goto 39, .aload 0, .getfield 1244, .aload 0, .getfield 1241, .iload 3, .iaload, .iaload, .iastore, .nop, .iinc 2 1,
  .goto 111, .iinc 2 (-1), .aload 0, .getfield 1245, .iload 2, .iconst 1, .isub, .iaload, .istore 5, .aload 0, .getfield 1245, .iload 2, .iaload, .istore 6,
  .iload 4, .iconst 5, .if_icmp .ne 63, .iload 6, .ifCond .ne 63, .iconst 0, .ireturn, .nop, .aload 0, .getfield 1245, .iload 2, .iconst 1, .isub, .iload 4,
  .iconst 2, .if_icmp .ne 76, .iload 5, .iload 6, .iadd, .goto 110, .iload 4, .iconst 3, .if_icmp .ne 83, .iload 5, .iload 6, .isub, .goto 110, .iload 4,
  .iconst 4, .if_icmp .ne 90, .iload 5, .iload 6, .imul, .goto 110, .iload 4, .iconst 5, .if_icmp .ne 97, .iload 5, .iload 6, .idiv, .goto 110, .iload 4,
  .iconst 6, .if_icmp .ne 104, .iload 5, .iload 6, .if_icmp .ge 109, .goto 107, .iload 5, .iload 6, .if_icmp .ne 109, .iconst 1, .goto 110, .iconst 0, .iastore, .nop,
  .iinc 3 1, .goto 7, .aload 0, .getfield 1245, .iconst 0, .iaload, .ireturn]
def p_261 : List Nat := [0, 1, 2, 3, 6, 7, 8, 9, 9, 10, 11, 14, 15, 16, 19, 20, 23, 24, 25, 27, 29, 30, 33, 34, 37, 38, 40, 43, 44, 47,
  48, 49, 52, 53, 56, 57, 60, 61, 62, 63, 64, 64, 67, 70, 73, 74, 77, 78, 79, 80, 81, 83, 84, 87, 88, 89, 91, 93, 94, 97,
  99, 102, 103, 104, 104, 105, 108, 109, 110, 111, 113, 114, 117, 119, 121, 122, 125, 127, 128, 131, 133, 135, 136, 139, 141, 142, 145, 147, 149, 150,
  153, 155, 156, 159, 161, 163, 164, 167, 169, 171, 174, 176, 178, 181, 184, 186, 188, 191, 192, 195, 196, 197, 197, 200, 203, 204, 207, 208, 209]
/-- WakeHouseModel.held(II)I -/
def c_262 : List aI := [.iload 0, .ifCond .ge 4, .iconst 0, .goto 10, .iload 0, .iload 1, .if_icmp .le 9, .iload 1, .goto 10, .iload 0, .ireturn]
def p_262 : List Nat := [0, 1, 4, 5, 8, 9, 10, 13, 14, 17, 18]
/-- WakeHouseModel.again(II)I -/
def c_263 : List aI := [.aload 0, .iload 1, .invokevirtual 249, .ifCond .eq 12, .iload 2, .invokestatic 256, .ifCond .eq 12, .aload 0, .iload 1, .iload 2, .invokevirtual 264, .goto 13, .iconst (-1), .ireturn]
def p_263 : List Nat := [0, 1, 2, 5, 8, 9, 12, 15, 16, 17, 18, 21, 24, 25]
/-- WakeHouseModel.asleepAgain(II)I -/
def c_264 : List aI := [.iconst 0, .istore 3, .nop, .iload 3, .iconst 7, .if_icmp .ge 13, .aload 0, .getfield 1244, .iload 3, .iconst 0, .iastore, .iinc 3 1, .goto 2, .aload 0,
  .getfield 1244, .iconst 4, .aload 0, .getfield 1232, .iconst 12, .aload 0, .getfield 1218, .fmul, .iload 1, .fadd, .iaload, .iastore, .aload 0, .getfield 1244,
  .iconst 6, .iload 2, .iastore, .aload 0, .getfield 1236, .iconst 2, .aload 0, .getfield 1218, .fmul, .iconst 1, .fadd, .baload, .ifCond .eq 52, .aload 0,
  .iconst 2, .aload 0, .getfield 1218, .fmul, .iconst 1, .fadd, .invokevirtual 261, .iconst 10, .invokestatic 262, .goto 53, .iconst 0, .ireturn]
def p_264 : List Nat := [0, 1, 2, 2, 3, 5, 8, 9, 12, 13, 14, 15, 18, 21, 22, 25, 26, 27, 30, 32, 33, 36, 37, 38, 39, 40, 41, 42, 45, 47,
  48, 49, 50, 53, 54, 55, 58, 59, 60, 61, 62, 65, 66, 67, 68, 71, 72, 73, 74, 77, 79, 82, 85, 86]
/-- WakeHouseModel.ring(III)I -/
def c_265 : List aI := [.aload 0, .getfield 1248, .iconst 8, .if_icmp .eq 15, .aload 0, .iload 1, .invokevirtual 266, .ifCond .eq 15, .aload 0, .iload 2, .invokevirtual 252, .ifCond .eq 15, .iload 3, .invokestatic 256,
  .ifCond .ne 17, .iconst (-1), .goto 22, .aload 0, .iload 1, .iload 2, .iload 3, .invokevirtual 267, .ireturn]
def p_265 : List Nat := [0, 1, 4, 6, 9, 10, 11, 14, 17, 18, 19, 22, 25, 26, 29, 32, 33, 36, 37, 38, 39, 40, 43]
/-- WakeHouseModel.isClock(I)Z -/
def c_266 : List aI := [.iload 1, .iconst 0, .aload 0, .getfield 1227, .aload 0, .getfield 1218, .iaload, .iconst 1, .fsub, .invokestatic 250, .freturn]
def p_266 : List Nat := [0, 1, 2, 3, 6, 7, 10, 11, 12, 13, 16]
/-- WakeHouseModel.rings(III)I -/
def c_267 : List aI := [.aload 0, .iconst 0, .aload 0, .iload 1, .iload 3, .invokevirtual 268, .aload 0, .getfield 1228, .iconst 9, .aload 0, .getfield 1218, .fmul, .iload 1, .fadd,
  .iaload, .iload 2, .invokevirtual 269, .ireturn]
def p_267 : List Nat := [0, 1, 2, 3, 4, 5, 8, 9, 12, 14, 15, 18, 19, 20, 21, 22, 23, 26]
/-- WakeHouseModel.soundsAt(II)I -/
def c_268 : List aI := [.iload 2, .aload 0, .getfield 1229, .iconst 9, .aload 0, .getfield 1218, .fmul, .iload 1, .fadd, .iaload, .fadd, .iconst 399, .invokestatic 262, .ireturn]
def p_268 : List Nat := [0, 1, 2, 5, 7, 8, 11, 12, 13, 14, 15, 16, 19, 22]
/-- WakeHouseModel.soundComes(IIII)I -/
def c_269 : List aI := [.aload 0, .getfield 1249, .aload 0, .getfield 1248, .iload 1, .iastore, .aload 0, .getfield 1250, .aload 0, .getfield 1248, .iload 2, .iastore, .aload 0, .getfield 1251,
  .aload 0, .getfield 1248, .iload 3, .iastore, .aload 0, .getfield 1252, .aload 0, .getfield 1248, .iload 4, .iastore, .aload 0, .dup, .getfield 1248, .iconst 1,
  .fadd, .putfield 1248, .aload 0, .getfield 1248, .iconst 1, .fsub, .ireturn]
def p_269 : List Nat := [0, 1, 4, 5, 8, 9, 10, 11, 14, 15, 18, 19, 20, 21, 24, 25, 28, 29, 30, 31, 34, 35, 38, 40, 41, 42, 43, 46, 47, 48,
  51, 52, 55, 56, 57]
/-- WakeHouseModel.string(II)I -/
def c_270 : List aI := [.aload 0, .getfield 1248, .iconst 8, .if_icmp .eq 11, .aload 0, .iload 1, .invokevirtual 249, .ifCond .eq 11, .iload 2, .invokestatic 256, .ifCond .ne 13, .iconst (-1), .goto 19, .aload 0,
  .iconst 1, .iload 2, .iconst 0, .iload 1, .invokevirtual 269, .ireturn]
def p_270 : List Nat := [0, 1, 4, 6, 9, 10, 11, 14, 17, 18, 21, 24, 25, 28, 29, 30, 31, 32, 33, 36]
/-- WakeHouseModel.pole(II)I -/
def c_271 : List aI := [.aload 0, .getfield 1248, .iconst 8, .if_icmp .eq 11, .aload 0, .iload 1, .invokevirtual 252, .ifCond .eq 11, .iload 2, .invokestatic 256, .ifCond .ne 13, .iconst (-1), .goto 19, .aload 0,
  .iconst 2, .iload 2, .iconst 7, .iload 1, .invokevirtual 269, .ireturn]
def p_271 : List Nat := [0, 1, 4, 6, 9, 10, 11, 14, 17, 18, 21, 24, 25, 28, 29, 30, 31, 33, 34, 37]
/-- WakeHouseModel.drop(I)I -/
def c_272 : List aI := [.iload 1, .iconst 0, .aload 0, .getfield 1248, .iconst 1, .fsub, .invokestatic 250, .ifCond .ne 10, .iconst (-1), .ireturn, .aload 0, .iload 1, .invokevirtual 273, .aload 0,
  .getfield 1248, .ireturn]
def p_272 : List Nat := [0, 1, 2, 3, 6, 7, 8, 11, 14, 15, 16, 17, 18, 21, 22, 25]
/-- WakeHouseModel.goesOut(I)V -/
def c_273 : List aI := [.aload 0, .dup, .getfield 1248, .iconst 1, .fsub, .putfield 1248, .iload 1, .istore 2, .nop, .iload 2, .aload 0, .getfield 1248, .if_icmp .ge 55, .aload 0,
  .getfield 1249, .iload 2, .aload 0, .getfield 1249, .iload 2, .iconst 1, .fadd, .iaload, .iastore, .aload 0, .getfield 1250, .iload 2, .aload 0, .getfield 1250,
  .iload 2, .iconst 1, .fadd, .iaload, .iastore, .aload 0, .getfield 1251, .iload 2, .aload 0, .getfield 1251, .iload 2, .iconst 1, .fadd, .iaload,
  .iastore, .aload 0, .getfield 1252, .iload 2, .aload 0, .getfield 1252, .iload 2, .iconst 1, .fadd, .iaload, .iastore, .iinc 2 1, .goto 8, .return_]
def p_273 : List Nat := [0, 1, 2, 5, 6, 7, 10, 11, 12, 12, 13, 14, 17, 20, 21, 24, 25, 26, 29, 30, 31, 32, 33, 34, 35, 38, 39, 40, 43, 44,
  45, 46, 47, 48, 49, 52, 53, 54, 57, 58, 59, 60, 61, 62, 63, 66, 67, 68, 71, 72, 73, 74, 75, 76, 79, 82]
/-- WakeHouseModel.sound(II)I -/
def c_274 : List aI := [.iload 1, .iconst 0, .aload 0, .getfield 1248, .iconst 1, .fsub, .invokestatic 250, .ifCond .ne 10, .iconst (-1), .ireturn, .iload 2, .tableswitch 46 0 3 #[12, 17, 22, 27], .aload 0, .getfield 1249,
  .iload 1, .iaload, .ireturn, .aload 0, .getfield 1250, .iload 1, .iaload, .ireturn, .aload 0, .getfield 1251, .iload 1, .iaload, .ireturn, .aload 0,
  .getfield 1249, .iload 1, .iaload, .iconst 1, .if_icmp .ne 41, .aload 0, .getfield 1246, .aload 0, .getfield 1252, .iload 1, .iaload, .iaload, .goto 45, .aload 0,
  .getfield 1252, .iload 1, .iaload, .ireturn, .iconst (-1), .ireturn]
def p_274 : List Nat := [0, 1, 2, 3, 6, 7, 8, 11, 14, 15, 16, 17, 48, 49, 52, 53, 54, 55, 56, 59, 60, 61, 62, 63, 66, 67, 68, 69, 70, 73,
  74, 75, 76, 79, 80, 83, 84, 87, 88, 89, 90, 93, 94, 97, 98, 99, 100, 101]
/-- WakeHouseModel.wool(IZ)Z -/
def c_275 : List aI := [.aload 0, .iload 1, .invokevirtual 249, .ifCond .ne 6, .iconst 0, .freturn, .aload 0, .getfield 1247, .iload 1, .iload 2, .bastore, .iconst 1, .freturn]
def p_275 : List Nat := [0, 1, 2, 5, 8, 9, 10, 11, 14, 15, 16, 17, 18]
/-- WakeHouseModel.swap(II)Z -/
def c_276 : List aI := [.aload 0, .iload 1, .invokevirtual 252, .ifCond .eq 11, .aload 0, .iload 2, .invokevirtual 252, .ifCond .eq 11, .iload 1, .iload 2, .if_icmp .ne 13, .iconst 0, .freturn, .aload 0,
  .iload 1, .iload 2, .invokevirtual 277, .iconst 1, .freturn]
def p_276 : List Nat := [0, 1, 2, 5, 8, 9, 10, 13, 16, 17, 18, 21, 22, 23, 24, 25, 26, 29, 30]
/-- WakeHouseModel.changes(II)V -/
def c_277 : List aI := [.aload 0, .iload 1, .invokevirtual 253, .istore 3, .aload 0, .iload 2, .invokevirtual 253, .istore 4, .iload 3, .ifCond .lt 15, .aload 0, .getfield 1246, .iload 3, .iload 2,
  .iastore, .iload 4, .ifCond .lt 22, .aload 0, .getfield 1246, .iload 4, .iload 1, .iastore, .return_]
def p_277 : List Nat := [0, 1, 2, 5, 6, 7, 8, 11, 13, 14, 17, 18, 21, 22, 23, 24, 26, 29, 30, 33, 35, 36, 37]
/-- WakeHouseModel.ways()J -/
def c_278 : List aI := [.bipush 100, .aload 0, .getfield 1248, .invokestatic 279, .lreturn]
def p_278 : List Nat := [0, 3, 4, 7, 10]
/-- WakeHouseModel.power(JI)J -/
def c_279 : List aI := [.bipush 1, .lstore 3, .iconst 0, .istore 5, .nop, .iload 5, .iload 2, .if_icmp .ge 14, .lload 3, .lload 0, .dmul, .lstore 3, .iinc 5 1, .goto 4,
  .lload 3, .lreturn]
def p_279 : List Nat := [0, 1, 2, 3, 5, 5, 7, 8, 11, 12, 13, 14, 15, 18, 21, 22]
/-- WakeHouseModel.up(I)J -/
def c_280 : List aI := [.aload 0, .iload 1, .invokevirtual 249, .ifCond .ne 6, .bipush (-1), .lreturn, .aload 0, .iload 1, .invokevirtual 281, .ifCond .ge 12, .bipush (-2), .lreturn, .aload 0, .invokevirtual 282,
  .aload 0, .iload 1, .invokevirtual 283, .lreturn]
def p_280 : List Nat := [0, 1, 2, 5, 8, 11, 12, 13, 14, 17, 20, 23, 24, 25, 28, 29, 30, 33]
/-- WakeHouseModel.hour(I)I -/
def c_281 : List aI := [.aload 0, .getfield 1233, .iconst 12, .aload 0, .getfield 1218, .fmul, .iload 1, .fadd, .iaload, .ireturn]
def p_281 : List Nat := [0, 1, 4, 6, 7, 10, 11, 12, 13, 14]
/-- WakeHouseModel.sorts()V -/
def c_282 : List aI := [.iconst 0, .istore 1, .nop, .iload 1, .aload 0, .getfield 1248, .if_icmp .ge 45, .iload 1, .istore 2, .nop, .iload 2, .ifCond .le 38, .aload 0, .getfield 1250,
  .aload 0, .getfield 1253, .iload 2, .iconst 1, .fsub, .iaload, .iaload, .aload 0, .getfield 1250, .iload 1, .iaload, .if_icmp .le 38, .aload 0, .getfield 1253,
  .iload 2, .aload 0, .getfield 1253, .iload 2, .iconst 1, .fsub, .iaload, .iastore, .iinc 2 (-1), .goto 9, .aload 0, .getfield 1253, .iload 2, .iload 1,
  .iastore, .iinc 1 1, .goto 2, .return_]
def p_282 : List Nat := [0, 1, 2, 2, 3, 4, 7, 10, 11, 12, 12, 13, 16, 17, 20, 21, 24, 25, 26, 27, 28, 29, 30, 33, 34, 35, 38, 39, 42, 43,
  44, 47, 48, 49, 50, 51, 52, 55, 58, 59, 62, 63, 64, 65, 68, 71]
/-- WakeHouseModel.upOf(I)J -/
def c_283 : List aI := [.aload 0, .iload 1, .invokevirtual 281, .istore 2, .aload 0, .iload 2, .invokevirtual 284, .istore 3, .bipush 1, .lstore 4, .bipush 0, .lstore 6, .iconst 0, .istore 8,
  .nop, .iload 8, .iload 3, .if_icmp .ge 90, .aload 0, .iload 1, .aload 0, .getfield 1253, .iload 8, .iaload, .invokevirtual 285, .istore 9, .bipush 10, .lload 6,
  .dmul, .iload 9, .i2l, .lload 4, .dmul, .dadd, .lstore 6, .iconst 10, .iload 9, .fsub, .i2l, .lload 4, .dmul, .lstore 4,
  .iload 8, .iconst 1, .fadd, .iload 3, .if_icmp .ge 57, .aload 0, .getfield 1250, .aload 0, .getfield 1253, .iload 8, .iconst 1, .fadd, .iaload, .iaload,
  .goto 58, .iload 2, .istore 10, .aload 0, .iload 1, .iload 10, .aload 0, .getfield 1250, .aload 0, .getfield 1253, .iload 8, .iaload, .iaload, .fsub,
  .invokevirtual 264, .istore 11, .bipush 10, .lload 4, .dmul, .iload 11, .i2l, .lload 6, .dmul, .dadd, .lstore 4, .iconst 10, .iload 11, .fsub,
  .i2l, .lload 6, .dmul, .lstore 6, .iinc 8 1, .goto 14, .lload 6, .bipush 100, .aload 0, .getfield 1248, .iload 3, .fsub, .invokestatic 279, .dmul,
  .lreturn]
def p_283 : List Nat := [0, 1, 2, 5, 6, 7, 8, 11, 12, 13, 15, 16, 18, 19, 21, 21, 23, 24, 27, 28, 29, 30, 33, 35, 36, 39, 41, 44, 46, 47,
  49, 50, 52, 53, 54, 56, 58, 60, 61, 62, 64, 65, 67, 69, 70, 71, 72, 75, 76, 79, 80, 83, 85, 86, 87, 88, 89, 92, 93, 95,
  96, 97, 99, 100, 103, 104, 107, 109, 110, 111, 112, 115, 117, 120, 122, 123, 125, 126, 128, 129, 130, 132, 134, 136, 137, 138, 140, 141, 143, 146,
  149, 151, 154, 155, 158, 159, 160, 163, 164]
/-- WakeHouseModel.until(I)I -/
def c_284 : List aI := [.iconst 0, .istore 2, .nop, .iload 2, .aload 0, .getfield 1248, .if_icmp .ge 18, .aload 0, .getfield 1250, .aload 0, .getfield 1253, .iload 2, .iaload, .iaload,
  .iload 1, .if_icmp .gt 18, .iinc 2 1, .goto 2, .iload 2, .ireturn]
def p_284 : List Nat := [0, 1, 2, 2, 3, 4, 7, 10, 11, 14, 15, 18, 19, 20, 21, 22, 25, 28, 31, 32]
/-- WakeHouseModel.heard(II)I -/
def c_285 : List aI := [.aload 0, .getfield 1249, .iload 2, .iaload, .iconst 1, .if_icmp .ne 16, .aload 0, .getfield 1252, .iload 2, .iaload, .iload 1, .if_icmp .ne 14, .iconst 10, .goto 31,
  .iconst 0, .goto 31, .aload 0, .iload 1, .aload 0, .getfield 1251, .iload 2, .iaload, .aload 0, .getfield 1252, .iload 2, .iaload, .aload 0, .getfield 1250,
  .iload 2, .iaload, .invokevirtual 257, .ireturn]
def p_285 : List Nat := [0, 1, 4, 5, 6, 7, 10, 11, 14, 15, 16, 17, 20, 22, 25, 26, 29, 30, 31, 32, 35, 36, 37, 38, 41, 42, 43, 44, 47, 48,
  49, 52]
/-- WakeHouseModel.woken(I)J -/
def c_286 : List aI := [.aload 0, .iload 1, .invokevirtual 249, .ifCond .eq 8, .aload 0, .iload 1, .invokevirtual 287, .goto 9, .bipush (-1), .lreturn]
def p_286 : List Nat := [0, 1, 2, 5, 8, 9, 10, 13, 16, 19]
/-- WakeHouseModel.wokenOf(I)J -/
def c_287 : List aI := [.bipush 1, .lstore 2, .iconst 0, .istore 4, .nop, .iload 4, .aload 0, .getfield 1248, .if_icmp .ge 23, .lload 2, .bipush 10, .dmul, .iconst 10, .aload 0,
  .iload 1, .iload 4, .invokevirtual 285, .fsub, .i2l, .dmul, .lstore 2, .iinc 4 1, .goto 4, .bipush 100, .aload 0, .getfield 1248, .invokestatic 279, .lload 2,
  .dsub, .lreturn]
def p_287 : List Nat := [0, 1, 2, 3, 5, 5, 7, 8, 11, 14, 15, 18, 19, 21, 22, 23, 25, 28, 29, 30, 31, 32, 35, 38, 41, 42, 45, 48, 49, 50]
/-- WakeHouseModel.cost()J -/
def c_288 : List aI := [.aload 0, .invokevirtual 289, .lreturn]
def p_288 : List Nat := [0, 1, 4]
/-- WakeHouseModel.costNow()J -/
def c_289 : List aI := [.aload 0, .invokevirtual 282, .bipush 0, .lstore 1, .iconst 0, .istore 3, .nop, .iload 3, .aload 0, .getfield 1230, .aload 0, .getfield 1218, .iaload, .if_icmp .ge 61,
  .iconst 12, .aload 0, .getfield 1218, .fmul, .iload 3, .fadd, .istore 4, .lload 1, .aload 0, .iload 3, .invokevirtual 281, .ifCond .lt 41, .aload 0, .getfield 1234,
  .iload 4, .iaload, .i2l, .bipush 100, .aload 0, .getfield 1248, .invokestatic 279, .aload 0, .iload 3, .invokevirtual 283, .dsub, .dmul, .goto 57, .aload 0,
  .getfield 1235, .iload 4, .iaload, .ifCond .ne 48, .bipush 0, .goto 57, .aload 0, .getfield 1235, .iload 4, .iaload, .i2l, .aload 0, .iload 3, .invokevirtual 287,
  .dmul, .dadd, .lstore 1, .iinc 3 1, .goto 6, .lload 1, .lreturn]
def p_289 : List Nat := [0, 1, 4, 5, 6, 7, 8, 8, 9, 10, 13, 14, 17, 18, 21, 23, 24, 27, 28, 29, 30, 32, 33, 34, 35, 38, 41, 42, 45, 47,
  48, 49, 52, 53, 56, 59, 60, 61, 64, 65, 66, 69, 70, 73, 75, 76, 79, 80, 83, 84, 87, 89, 90, 91, 92, 93, 96, 97, 98, 99,
  102, 105, 106]
/-- WakeHouseModel.worst()I -/
def c_290 : List aI := [.aload 0, .getfield 1248, .istore 1, .iconst (-2), .istore 2, .bipush 0, .lstore 3, .aload 0, .invokevirtual 291, .iconst 0, .istore 5, .nop, .iload 5, .iload 1,
  .if_icmp .ge 37, .aload 0, .iload 5, .invokevirtual 273, .aload 0, .invokevirtual 289, .lstore 6, .aload 0, .iload 1, .invokevirtual 292, .iload 2, .ifCond .lt 31, .lload 6, .lload 3,
  .lcmp, .ifCond .lt 31, .goto 35, .iload 5, .istore 2, .lload 6, .lstore 3, .iinc 5 1, .goto 11, .iload 2, .ireturn]
def p_290 : List Nat := [0, 1, 4, 5, 7, 8, 9, 10, 11, 14, 15, 17, 17, 19, 20, 23, 24, 26, 29, 30, 33, 35, 36, 37, 40, 41, 44, 46, 47, 48,
  51, 54, 56, 57, 59, 60, 63, 66, 67]
/-- WakeHouseModel.keeps()V -/
def c_291 : List aI := [.iconst 0, .istore 1, .nop, .iload 1, .aload 0, .getfield 1248, .if_icmp .ge 41, .aload 0, .getfield 1254, .iload 1, .aload 0, .getfield 1249, .iload 1, .iaload,
  .iastore, .aload 0, .getfield 1255, .iload 1, .aload 0, .getfield 1250, .iload 1, .iaload, .iastore, .aload 0, .getfield 1256, .iload 1, .aload 0, .getfield 1251,
  .iload 1, .iaload, .iastore, .aload 0, .getfield 1257, .iload 1, .aload 0, .getfield 1252, .iload 1, .iaload, .iastore, .iinc 1 1, .goto 2, .return_]
def p_291 : List Nat := [0, 1, 2, 2, 3, 4, 7, 10, 11, 14, 15, 16, 19, 20, 21, 22, 23, 26, 27, 28, 31, 32, 33, 34, 35, 38, 39, 40, 43, 44,
  45, 46, 47, 50, 51, 52, 55, 56, 57, 58, 61, 64]
/-- WakeHouseModel.putsBack(I)V -/
def c_292 : List aI := [.aload 0, .iload 1, .putfield 1248, .iconst 0, .istore 2, .nop, .iload 2, .aload 0, .getfield 1248, .if_icmp .ge 44, .aload 0, .getfield 1249, .iload 2, .aload 0,
  .getfield 1254, .iload 2, .iaload, .iastore, .aload 0, .getfield 1250, .iload 2, .aload 0, .getfield 1255, .iload 2, .iaload, .iastore, .aload 0, .getfield 1251,
  .iload 2, .aload 0, .getfield 1256, .iload 2, .iaload, .iastore, .aload 0, .getfield 1252, .iload 2, .aload 0, .getfield 1257, .iload 2, .iaload, .iastore,
  .iinc 2 1, .goto 5, .return_]
def p_292 : List Nat := [0, 1, 2, 5, 6, 7, 7, 8, 9, 12, 15, 16, 19, 20, 21, 24, 25, 26, 27, 28, 31, 32, 33, 36, 37, 38, 39, 40, 43, 44,
  45, 48, 49, 50, 51, 52, 55, 56, 57, 60, 61, 62, 63, 66, 69]
/-- WakeHouseModel.hours(I)I -/
def c_293 : List aI := [.aload 0, .invokevirtual 294, .iload 1, .iconst (-1), .if_icmp .ne 8, .aload 0, .getfield 1258, .goto 22, .iload 1, .iconst 0, .aload 0, .getfield 1258, .iconst 1, .fsub,
  .invokestatic 250, .ifCond .eq 21, .aload 0, .getfield 1259, .iload 1, .iaload, .goto 22, .iconst (-1), .ireturn]
def p_293 : List Nat := [0, 1, 4, 5, 6, 9, 10, 13, 16, 17, 18, 19, 22, 23, 24, 27, 30, 31, 34, 35, 36, 39, 40]
/-- WakeHouseModel.hoursNow()V -/
def c_294 : List aI := [.aload 0, .iconst 0, .putfield 1258, .iconst 0, .istore 1, .nop, .iload 1, .aload 0, .getfield 1230, .aload 0, .getfield 1218, .iaload, .if_icmp .ge 85, .aload 0,
  .iload 1, .invokevirtual 281, .ifCond .ge 18, .goto 82, .iconst 0, .istore 2, .nop, .iload 2, .aload 0, .getfield 1258, .if_icmp .ge 35, .aload 0, .getfield 1259, .iload 2,
  .iaload, .aload 0, .iload 1, .invokevirtual 281, .if_icmp .ge 35, .iinc 2 1, .goto 20, .nop, .iload 2, .aload 0, .getfield 1258, .if_icmp .ge 49, .aload 0, .getfield 1259,
  .iload 2, .iaload, .aload 0, .iload 1, .invokevirtual 281, .if_icmp .ne 49, .goto 82, .nop, .aload 0, .getfield 1258, .istore 3, .nop, .iload 3, .iload 2,
  .if_icmp .le 69, .aload 0, .getfield 1259, .iload 3, .aload 0, .getfield 1259, .iload 3, .iconst 1, .fsub, .iaload, .iastore, .iinc 3 (-1), .goto 53, .aload 0,
  .getfield 1259, .iload 2, .aload 0, .iload 1, .invokevirtual 281, .iastore, .aload 0, .dup, .getfield 1258, .iconst 1, .fadd, .putfield 1258, .nop, .iinc 1 1,
  .goto 5, .return_]
def p_294 : List Nat := [0, 1, 2, 5, 6, 7, 7, 8, 9, 12, 13, 16, 17, 20, 21, 22, 25, 28, 31, 32, 33, 33, 34, 35, 38, 41, 42, 45, 46, 47,
  48, 49, 52, 55, 58, 61, 61, 62, 63, 66, 69, 70, 73, 74, 75, 76, 77, 80, 83, 86, 86, 87, 90, 91, 91, 92, 93, 96, 97, 100,
  101, 102, 105, 106, 107, 108, 109, 110, 113, 116, 117, 120, 121, 122, 123, 126, 127, 128, 129, 132, 133, 134, 137, 137, 140, 143]
/-- WakeHouseModel.best(III)J -/
def c_295 : List aI := [.aload 0, .iload 1, .iload 2, .iload 3, .invokevirtual 296, .istore 4, .iload 4, .ifCond .ge 11, .iload 4, .i2l, .goto 13, .aload 0, .getfield 1261, .lreturn]
def p_295 : List Nat := [0, 1, 2, 3, 4, 7, 9, 11, 14, 16, 17, 20, 21, 24]
/-- WakeHouseModel.bests(III)I -/
def c_296 : List aI := [.aload 0, .iload 1, .invokevirtual 266, .ifCond .eq 20, .iload 2, .iconst (-1), .if_icmp .eq 11, .aload 0, .iload 2, .invokevirtual 266, .ifCond .eq 20, .nop, .iload 1, .iload 2,
  .if_icmp .eq 20, .iload 3, .iconst 0, .iconst 60, .invokestatic 250, .ifCond .ne 23, .nop, .iconst (-1), .ireturn, .aload 0, .invokevirtual 294, .aload 0, .getfield 1258, .ifCond .eq 45,
  .aload 0, .getfield 1224, .aload 0, .getfield 1218, .iaload, .ifCond .eq 45, .aload 0, .getfield 1248, .iload 2, .iconst (-1), .if_icmp .ne 41, .iconst 1, .goto 42, .iconst 2,
  .fadd, .iconst 8, .if_icmp .le 48, .nop, .iconst (-2), .ireturn, .iconst 0, .istore 4, .aload 0, .getfield 1248, .istore 5, .iconst 0, .istore 6, .nop,
  .iload 6, .aload 0, .getfield 1224, .aload 0, .getfield 1218, .iaload, .aload 0, .getfield 1258, .fmul, .if_icmp .ge 186, .aload 0, .iload 1, .iload 6, .aload 0,
  .getfield 1258, .idiv, .aload 0, .iload 6, .aload 0, .getfield 1258, .irem, .iload 3, .invokevirtual 297, .invokevirtual 267, .pop, .iconst 0, .istore 7, .nop,
  .iload 7, .iload 2, .iconst (-1), .if_icmp .ne 90, .iconst 1, .goto 98, .aload 0, .getfield 1224, .aload 0, .getfield 1218, .iaload, .aload 0, .getfield 1258, .fmul,
  .if_icmp .ge 181, .iload 2, .iconst (-1), .if_icmp .eq 117, .aload 0, .iload 2, .iload 7, .aload 0, .getfield 1258, .idiv, .aload 0, .iload 7, .aload 0, .getfield 1258,
  .irem, .iload 3, .invokevirtual 297, .invokevirtual 267, .pop, .nop, .aload 0, .invokevirtual 289, .lstore 8, .aload 0, .iload 5, .iconst 1, .fadd, .putfield 1248,
  .iload 4, .ifCond .eq 134, .lload 8, .aload 0, .getfield 1261, .lcmp, .ifCond .lt 134, .goto 178, .nop, .iconst 1, .istore 4, .aload 0, .lload 8, .putfield 1261,
  .aload 0, .getfield 1260, .iconst 0, .iload 6, .aload 0, .getfield 1258, .idiv, .iastore, .aload 0, .getfield 1260, .iconst 1, .aload 0, .iload 6, .aload 0,
  .getfield 1258, .irem, .iload 3, .invokevirtual 297, .iastore, .aload 0, .getfield 1260, .iconst 2, .iload 7, .aload 0, .getfield 1258, .idiv, .iastore, .aload 0,
  .getfield 1260, .iconst 3, .aload 0, .iload 7, .aload 0, .getfield 1258, .irem, .iload 3, .invokevirtual 297, .iastore, .nop, .iinc 7 1, .goto 83, .aload 0,
  .iload 5, .putfield 1248, .iinc 6 1, .goto 55, .iconst 0, .ireturn]
def p_296 : List Nat := [0, 1, 2, 5, 8, 9, 10, 13, 14, 15, 18, 21, 21, 22, 23, 26, 27, 28, 30, 33, 36, 36, 37, 38, 39, 42, 43, 46, 49, 50,
  53, 54, 57, 58, 61, 62, 65, 66, 67, 70, 71, 74, 75, 76, 78, 81, 81, 83, 84, 85, 87, 88, 91, 93, 94, 96, 96, 98, 99, 102,
  103, 106, 107, 108, 111, 112, 115, 116, 117, 119, 120, 123, 124, 125, 127, 128, 131, 132, 133, 136, 139, 140, 141, 143, 143, 145, 146, 147, 150, 151,
  154, 155, 158, 159, 162, 163, 164, 167, 168, 171, 172, 173, 176, 177, 178, 180, 181, 184, 185, 186, 188, 189, 192, 193, 194, 197, 200, 201, 201, 202,
  205, 207, 208, 210, 211, 212, 215, 217, 220, 222, 223, 226, 227, 230, 233, 233, 234, 236, 237, 239, 242, 243, 246, 247, 249, 250, 253, 254, 255, 256,
  259, 260, 261, 263, 264, 267, 268, 269, 272, 273, 274, 277, 278, 280, 281, 284, 285, 286, 287, 290, 291, 292, 294, 295, 298, 299, 300, 303, 304, 304,
  307, 310, 311, 313, 316, 319, 322, 323]
/-- WakeHouseModel.leadOf(II)I -/
def c_297 : List aI := [.aload 0, .getfield 1259, .iload 1, .iaload, .iload 2, .if_icmp .ge 8, .iconst 0, .goto 14, .aload 0, .getfield 1259, .iload 1, .iaload, .iload 2, .fsub,
  .ireturn]
def p_297 : List Nat := [0, 1, 4, 5, 6, 7, 10, 11, 14, 15, 18, 19, 20, 21, 22]
/-- WakeHouseModel.bestAt(IIII)I -/
def c_298 : List aI := [.iload 4, .iconst 0, .iconst 3, .invokestatic 250, .ifCond .ne 7, .iconst (-1), .ireturn, .aload 0, .iload 1, .iload 2, .iload 3, .invokevirtual 296, .istore 5, .iload 5,
  .ifCond .ge 17, .iload 5, .ireturn, .iload 4, .iconst 1, .if_icmp .le 25, .iload 2, .iconst (-1), .if_icmp .ne 25, .iconst (-1), .goto 29, .aload 0, .getfield 1260, .iload 4,
  .iaload, .ireturn]
def p_298 : List Nat := [0, 2, 3, 4, 7, 10, 11, 12, 13, 14, 15, 16, 19, 21, 23, 26, 28, 29, 31, 32, 35, 36, 37, 40, 41, 44, 45, 48, 50, 51]
/-- WakeHouseModel.fewest(I)I -/
def c_299 : List aI := [.aload 0, .iload 1, .invokevirtual 266, .ifCond .ne 6, .iconst (-1), .ireturn, .aload 0, .invokevirtual 294, .aload 0, .invokevirtual 300, .istore 2, .iconst 0, .istore 3, .nop,
  .iload 3, .iconst 4096, .if_icmp .ge 28, .aload 0, .getfield 1262, .iload 3, .iload 3, .ifCond .ne 24, .iconst 0, .goto 25, .iconst 100, .iastore, .iinc 3 1, .goto 13,
  .iconst 0, .istore 3, .nop, .iload 3, .aload 0, .getfield 1224, .aload 0, .getfield 1218, .iaload, .if_icmp .ge 100, .iconst 0, .istore 4, .nop, .iload 4,
  .aload 0, .getfield 1258, .if_icmp .ge 98, .aload 0, .iload 1, .iload 3, .aload 0, .getfield 1259, .iload 4, .iaload, .invokevirtual 301, .istore 5, .iload 5, .ifCond .ne 57,
  .goto 96, .iconst 0, .istore 6, .nop, .iload 6, .iconst 4096, .if_icmp .ge 96, .iload 6, .iload 2, .iconst (-1), .ixor, .iand, .ifCond .ne 94, .aload 0,
  .getfield 1262, .iload 6, .iaload, .iconst 1, .fadd, .aload 0, .getfield 1262, .iload 6, .iload 5, .ior, .iaload, .if_icmp .ge 94, .aload 0, .getfield 1262,
  .iload 6, .iload 5, .ior, .aload 0, .getfield 1262, .iload 6, .iaload, .iconst 1, .fadd, .iastore, .iinc 6 1, .goto 59, .iinc 4 1, .goto 40,
  .iinc 3 1, .goto 30, .aload 0, .getfield 1262, .iload 2, .iaload, .iconst 12, .if_icmp .le 108, .iconst (-2), .goto 112, .aload 0, .getfield 1262, .iload 2, .iaload,
  .ireturn]
def p_299 : List Nat := [0, 1, 2, 5, 8, 9, 10, 11, 14, 15, 18, 19, 20, 21, 21, 22, 25, 28, 29, 32, 33, 34, 37, 38, 41, 43, 44, 47, 50, 51,
  52, 52, 53, 54, 57, 58, 61, 62, 65, 66, 68, 68, 70, 71, 74, 77, 78, 79, 80, 81, 84, 86, 87, 90, 92, 94, 97, 100, 101, 103,
  103, 105, 108, 111, 113, 114, 115, 116, 117, 120, 121, 124, 126, 127, 128, 129, 130, 133, 135, 137, 138, 139, 142, 143, 146, 148, 150, 151, 152, 155,
  157, 158, 159, 160, 161, 164, 167, 170, 173, 176, 179, 180, 183, 184, 185, 187, 190, 192, 195, 196, 199, 200, 201]
/-- WakeHouseModel.withHours()I -/
def c_300 : List aI := [.iconst 0, .istore 1, .iconst 0, .istore 2, .nop, .iload 2, .aload 0, .getfield 1230, .aload 0, .getfield 1218, .iaload, .if_icmp .ge 24, .aload 0, .iload 2,
  .invokevirtual 281, .ifCond .lt 22, .iload 1, .iconst 1, .iload 2, .ishl, .ior, .istore 1, .iinc 2 1, .goto 4, .iload 1, .ireturn]
def p_300 : List Nat := [0, 1, 2, 3, 4, 4, 5, 6, 9, 10, 13, 14, 17, 18, 19, 22, 25, 26, 27, 28, 29, 30, 31, 34, 37, 38]
/-- WakeHouseModel.wakes(III)I -/
def c_301 : List aI := [.aload 0, .iload 1, .iload 3, .invokevirtual 268, .istore 4, .iconst 0, .istore 5, .iconst 0, .istore 6, .nop, .iload 6, .aload 0, .getfield 1230, .aload 0,
  .getfield 1218, .iaload, .if_icmp .ge 55, .aload 0, .iload 6, .invokevirtual 281, .iload 4, .if_icmp .lt 53, .aload 0, .iload 6, .aload 0, .getfield 1228, .iconst 9, .aload 0,
  .getfield 1218, .fmul, .iload 1, .fadd, .iaload, .iload 2, .iload 4, .invokevirtual 257, .iconst 10, .if_icmp .ne 53, .aload 0, .iload 6, .aload 0, .iload 6,
  .invokevirtual 281, .iload 4, .fsub, .invokevirtual 264, .ifCond .ne 53, .iload 5, .iconst 1, .iload 6, .ishl, .ior, .istore 5, .iinc 6 1, .goto 9, .iload 5,
  .ireturn]
def p_301 : List Nat := [0, 1, 2, 3, 6, 8, 9, 11, 12, 14, 14, 16, 17, 20, 21, 24, 25, 28, 29, 31, 34, 36, 39, 40, 42, 43, 46, 48, 49, 52,
  53, 54, 55, 56, 57, 59, 62, 64, 67, 68, 70, 71, 73, 76, 78, 79, 82, 85, 87, 88, 90, 91, 92, 94, 97, 100, 102]
/-- WakeHouseModel.deaf(I)I -/
def c_302 : List aI := [.aload 0, .iload 1, .invokevirtual 266, .ifCond .ne 6, .iconst (-1), .ireturn, .aload 0, .invokevirtual 294, .aload 0, .invokevirtual 300, .istore 2, .iconst 0, .istore 3, .nop,
  .iload 3, .aload 0, .getfield 1224, .aload 0, .getfield 1218, .iaload, .if_icmp .ge 45, .iconst 0, .istore 4, .nop, .iload 4, .aload 0, .getfield 1258, .if_icmp .ge 43,
  .iload 2, .aload 0, .iload 1, .iload 3, .aload 0, .getfield 1259, .iload 4, .iaload, .invokevirtual 301, .iconst (-1), .ixor, .iand, .istore 2, .iinc 4 1,
  .goto 23, .iinc 3 1, .goto 13, .iload 2, .ireturn]
def p_302 : List Nat := [0, 1, 2, 5, 8, 9, 10, 11, 14, 15, 18, 19, 20, 21, 21, 22, 23, 26, 27, 30, 31, 34, 35, 37, 37, 39, 40, 43, 46, 47,
  48, 49, 50, 51, 54, 56, 57, 60, 61, 62, 63, 64, 67, 70, 73, 76, 77]
/-- WakeHouseModel.walk(II)I -/
def c_303 : List aI := [.aload 0, .iload 1, .invokevirtual 249, .ifCond .eq 13, .aload 0, .iload 2, .invokevirtual 249, .ifCond .eq 13, .aload 0, .iload 1, .iload 2, .invokevirtual 304, .goto 14, .iconst (-1),
  .ireturn]
def p_303 : List Nat := [0, 1, 2, 5, 8, 9, 10, 13, 16, 17, 18, 19, 22, 25, 26]
/-- WakeHouseModel.walkOf(II)I -/
def c_304 : List aI := [.iconst 1, .aload 0, .aload 0, .getfield 1246, .iload 1, .iaload, .aload 0, .getfield 1246, .iload 2, .iaload, .invokevirtual 258, .fadd, .iconst 3, .aload 0,
  .aload 0, .getfield 1246, .iload 1, .iaload, .aload 0, .getfield 1246, .iload 2, .iaload, .invokevirtual 260, .fmul, .fadd, .ireturn]
def p_304 : List Nat := [0, 1, 2, 3, 6, 7, 8, 9, 12, 13, 14, 17, 18, 19, 20, 21, 24, 25, 26, 27, 30, 31, 32, 35, 36, 37]
/-- WakeHouseModel.shakes(II)I -/
def c_305 : List aI := [.iload 1, .iconst 1, .iconst 2, .invokestatic 250, .ifCond .eq 10, .iload 2, .iconst 0, .iconst 1, .invokestatic 250, .ifCond .ne 12, .iconst (-1), .ireturn, .aload 0, .iconst 0,
  .iload 1, .invokevirtual 306, .iload 2, .ifCond .ne 21, .aload 0, .getfield 1267, .goto 23, .aload 0, .getfield 1268, .ireturn]
def p_305 : List Nat := [0, 1, 2, 3, 6, 9, 10, 11, 12, 15, 18, 19, 20, 21, 22, 23, 26, 27, 30, 31, 34, 37, 38, 41]
/-- WakeHouseModel.shakesOn(II)V -/
def c_306 : List aI := [.aload 0, .getfield 1230, .aload 0, .getfield 1218, .iaload, .istore 3, .iload 1, .istore 4, .nop, .iload 4, .iload 3, .if_icmp .ge 19, .aload 0, .getfield 1263,
  .iload 4, .iconst (-1), .iastore, .iinc 4 1, .goto 8, .iconst 0, .istore 4, .nop, .iload 4, .iload 3, .if_icmp .ge 54, .aload 0, .getfield 1264, .iload 4,
  .iconst 0, .iastore, .iconst 0, .istore 5, .nop, .iload 5, .iload 1, .if_icmp .ge 52, .aload 0, .getfield 1263, .iload 5, .iaload, .iload 4, .if_icmp .ne 50,
  .aload 0, .getfield 1264, .iload 4, .dup2, .iaload, .iconst 1, .fadd, .iastore, .iinc 5 1, .goto 32, .iinc 4 1, .goto 21, .iconst 1, .istore 4,
  .nop, .iload 4, .ifCond .eq 65, .aload 0, .iload 1, .iload 2, .invokevirtual 307, .istore 4, .goto 56, .aload 0, .iconst 0, .putfield 1267, .aload 0, .iconst 0,
  .putfield 1268, .iconst 0, .istore 5, .nop, .iload 5, .iload 3, .if_icmp .ge 104, .aload 0, .getfield 1263, .iload 5, .iaload, .iconst (-1), .if_icmp .ne 84, .goto 102,
  .aload 0, .dup, .getfield 1267, .iconst 1, .fadd, .putfield 1267, .aload 0, .dup, .getfield 1268, .aload 0, .aload 0, .getfield 1263, .iload 5, .iaload,
  .iload 5, .invokevirtual 304, .fadd, .putfield 1268, .iinc 5 1, .goto 73, .return_]
def p_306 : List Nat := [0, 1, 4, 5, 8, 9, 10, 11, 13, 13, 15, 16, 19, 20, 23, 25, 26, 27, 30, 33, 34, 36, 36, 38, 39, 42, 43, 46, 48, 49,
  50, 51, 53, 53, 55, 56, 59, 60, 63, 65, 66, 68, 71, 72, 75, 77, 78, 79, 80, 81, 82, 85, 88, 91, 94, 95, 97, 97, 99, 102,
  103, 104, 105, 108, 110, 113, 114, 115, 118, 119, 120, 123, 124, 126, 126, 128, 129, 132, 133, 136, 138, 139, 140, 143, 146, 147, 148, 151, 152, 153,
  156, 157, 158, 161, 162, 163, 166, 168, 169, 171, 174, 175, 178, 181, 184]
/-- WakeHouseModel.oneMore(II)Z -/
def c_307 : List aI := [.aload 0, .getfield 1230, .aload 0, .getfield 1218, .iaload, .istore 3, .iconst 0, .istore 4, .nop, .iload 4, .iload 3, .if_icmp .ge 40, .aload 0, .getfield 1265,
  .iload 4, .iload 4, .iload 1, .if_icmp .lt 30, .aload 0, .getfield 1263, .iload 4, .iaload, .iconst (-1), .if_icmp .ne 30, .aload 0, .iload 4, .invokevirtual 308, .ifCond .eq 30,
  .iconst 0, .goto 31, .iconst 100000, .iastore, .nop, .aload 0, .getfield 1266, .iload 4, .iconst (-1), .iastore, .iinc 4 1, .goto 8, .iconst 0, .istore 4,
  .nop, .iload 4, .iload 3, .if_icmp .ge 129, .iload 1, .istore 5, .nop, .iload 5, .iload 3, .if_icmp .ge 127, .aload 0, .getfield 1265, .iload 5, .iaload,
  .iconst 100000, .if_icmp .ne 59, .goto 124, .iload 1, .istore 6, .nop, .iload 6, .iload 3, .if_icmp .ge 124, .iload 6, .iload 5, .if_icmp .eq 121, .aload 0, .getfield 1263,
  .iload 6, .iaload, .iconst (-1), .if_icmp .eq 121, .aload 0, .aload 0, .getfield 1263, .iload 6, .iaload, .iload 5, .invokevirtual 309, .ifCond .ne 83, .goto 121, .aload 0,
  .getfield 1265, .iload 5, .iaload, .aload 0, .aload 0, .getfield 1263, .iload 6, .iaload, .iload 5, .invokevirtual 304, .fadd, .aload 0, .aload 0, .getfield 1263,
  .iload 6, .iaload, .iload 6, .invokevirtual 304, .fsub, .istore 7, .iload 7, .aload 0, .getfield 1265, .iload 6, .iaload, .if_icmp .lt 111, .goto 121, .aload 0,
  .getfield 1265, .iload 6, .iload 7, .iastore, .aload 0, .getfield 1266, .iload 6, .iload 5, .iastore, .nop, .iinc 6 1, .goto 61, .nop, .iinc 5 1,
  .goto 48, .iinc 4 1, .goto 42, .iconst 100000, .istore 4, .iconst (-1), .istore 5, .iconst (-1), .istore 6, .iload 1, .istore 7, .nop, .iload 7, .iload 3,
  .if_icmp .ge 197, .aload 0, .getfield 1265, .iload 7, .iaload, .iconst 100000, .if_icmp .ne 148, .goto 194, .iconst 0, .istore 8, .nop, .iload 8, .iload 3, .if_icmp .ge 194,
  .aload 0, .getfield 1264, .iload 8, .iaload, .iload 2, .if_icmp .eq 191, .aload 0, .iload 8, .iload 7, .invokevirtual 309, .ifCond .eq 191, .aload 0, .getfield 1265, .iload 7,
  .iaload, .aload 0, .iload 8, .iload 7, .invokevirtual 304, .fadd, .iload 4, .if_icmp .lt 177, .goto 191, .aload 0, .getfield 1265, .iload 7, .iaload, .aload 0,
  .iload 8, .iload 7, .invokevirtual 304, .fadd, .istore 4, .iload 8, .istore 5, .iload 7, .istore 6, .nop, .iinc 8 1, .goto 150, .nop, .iinc 7 1,
  .goto 137, .iload 5, .iconst (-1), .if_icmp .ne 202, .iconst 0, .freturn, .aload 0, .getfield 1264, .iload 5, .dup2, .iaload, .iconst 1, .fadd, .iastore,
  .iload 5, .istore 7, .iload 6, .istore 8, .nop, .iload 8, .iconst (-1), .if_icmp .eq 236, .aload 0, .getfield 1263, .iload 8, .iaload, .istore 9, .aload 0,
  .getfield 1263, .iload 8, .iload 7, .iastore, .iload 9, .istore 7, .aload 0, .getfield 1266, .iload 8, .iaload, .istore 8, .goto 214, .iconst 1, .freturn]
def p_307 : List Nat := [0, 1, 4, 5, 8, 9, 10, 11, 13, 13, 15, 16, 19, 20, 23, 25, 27, 28, 31, 32, 35, 37, 38, 39, 42, 43, 45, 48, 51, 52,
  55, 58, 59, 59, 60, 63, 65, 66, 67, 70, 73, 74, 76, 76, 78, 79, 82, 83, 85, 85, 87, 88, 91, 92, 95, 97, 98, 101, 104, 107,
  108, 110, 110, 112, 113, 116, 118, 120, 123, 124, 127, 129, 130, 131, 134, 135, 136, 139, 141, 142, 144, 147, 150, 153, 154, 157, 159, 160, 161, 162,
  165, 167, 168, 170, 173, 174, 175, 176, 179, 181, 182, 184, 187, 188, 190, 192, 193, 196, 198, 199, 202, 205, 206, 209, 211, 213, 214, 215, 218, 220,
  222, 223, 223, 226, 229, 229, 232, 235, 238, 241, 244, 246, 247, 249, 250, 252, 253, 255, 255, 257, 258, 261, 262, 265, 267, 268, 271, 274, 277, 278,
  280, 280, 282, 283, 286, 287, 290, 292, 293, 294, 297, 298, 300, 302, 305, 308, 309, 312, 314, 315, 316, 318, 320, 323, 324, 326, 329, 332, 333, 336,
  338, 339, 340, 342, 344, 347, 348, 350, 352, 354, 356, 358, 358, 361, 364, 364, 367, 370, 372, 373, 376, 377, 378, 379, 382, 384, 385, 386, 387, 388,
  389, 391, 393, 395, 397, 397, 399, 400, 403, 404, 407, 409, 410, 412, 413, 416, 418, 420, 421, 423, 425, 426, 429, 431, 432, 434, 437, 438]
/-- WakeHouseModel.isFirst(I)Z -/
def c_308 : List aI := [.iconst 0, .istore 2, .iconst 0, .istore 3, .nop, .iload 3, .iload 1, .if_icmp .ge 15, .aload 0, .iload 3, .invokevirtual 281, .ifCond .lt 13, .iinc 2 1, .iinc 3 1,
  .goto 4, .aload 0, .iload 1, .invokevirtual 281, .ifCond .lt 24, .iload 2, .iconst 8, .if_icmp .ge 24, .iconst 1, .goto 25, .iconst 0, .freturn]
def p_308 : List Nat := [0, 1, 2, 3, 4, 4, 5, 6, 9, 10, 11, 14, 17, 20, 23, 26, 27, 28, 31, 34, 35, 37, 40, 41, 44, 45]
/-- WakeHouseModel.canShake(II)Z -/
def c_309 : List aI := [.iload 1, .iload 2, .if_icmp .eq 25, .aload 0, .iload 1, .invokevirtual 308, .ifCond .eq 25, .aload 0, .iload 2, .invokevirtual 308, .ifCond .eq 25, .aload 0, .iload 1, .invokevirtual 281,
  .aload 0, .iload 1, .iload 2, .invokevirtual 304, .fadd, .aload 0, .iload 2, .invokevirtual 281, .if_icmp .gt 25, .iconst 1, .goto 26, .iconst 0, .freturn]
def p_309 : List Nat := [0, 1, 2, 5, 6, 7, 10, 13, 14, 15, 18, 21, 22, 23, 26, 27, 28, 29, 32, 33, 34, 35, 38, 41, 42, 45, 46]
/-- WakeHouseModel.shaker(II)I -/
def c_310 : List aI := [.iload 1, .iconst 1, .iconst 2, .invokestatic 250, .ifCond .eq 9, .aload 0, .iload 2, .invokevirtual 249, .ifCond .ne 11, .iconst (-1), .ireturn, .aload 0, .iload 1, .invokevirtual 311,
  .aload 0, .getfield 1263, .iload 2, .iaload, .iconst (-1), .if_icmp .ne 22, .iconst (-2), .goto 26, .aload 0, .getfield 1263, .iload 2, .iaload, .ireturn]
def p_310 : List Nat := [0, 1, 2, 3, 6, 9, 10, 11, 14, 17, 18, 19, 20, 21, 24, 25, 28, 29, 30, 31, 34, 36, 39, 40, 43, 44, 45]
/-- WakeHouseModel.shakesAll(I)V -/
def c_311 : List aI := [.aload 0, .iconst 0, .iload 1, .invokevirtual 306, .aload 0, .getfield 1267, .istore 2, .aload 0, .getfield 1268, .istore 3, .iconst 0, .istore 4, .nop, .iload 4,
  .aload 0, .getfield 1230, .aload 0, .getfield 1218, .iaload, .if_icmp .ge 94, .iconst 0, .istore 5, .iconst 0, .istore 6, .nop, .iload 6, .aload 0, .getfield 1230,
  .aload 0, .getfield 1218, .iaload, .if_icmp .ge 85, .iload 5, .ifCond .ne 85, .iconst 0, .istore 7, .iconst 0, .istore 8, .nop, .iload 8, .iload 4, .if_icmp .ge 51,
  .aload 0, .getfield 1263, .iload 8, .iaload, .iload 6, .if_icmp .ne 49, .iinc 7 1, .iinc 8 1, .goto 38, .iload 7, .iload 1, .if_icmp .eq 83, .aload 0, .iload 6,
  .iload 4, .invokevirtual 309, .ifCond .ne 60, .goto 83, .aload 0, .getfield 1263, .iload 4, .iload 6, .iastore, .aload 0, .iload 4, .iconst 1, .fadd, .iload 1,
  .invokevirtual 306, .aload 0, .getfield 1267, .iload 2, .if_icmp .ne 81, .aload 0, .getfield 1268, .iload 3, .if_icmp .ne 81, .iconst 1, .goto 82, .iconst 0, .istore 5, .iinc 6 1,
  .goto 24, .iload 5, .ifCond .ne 92, .aload 0, .getfield 1263, .iload 4, .iconst (-1), .iastore, .iinc 4 1, .goto 12, .aload 0, .aload 0, .getfield 1230, .aload 0,
  .getfield 1218, .iaload, .iload 1, .invokevirtual 306, .return_]
def p_311 : List Nat := [0, 1, 2, 3, 6, 7, 10, 11, 12, 15, 16, 17, 19, 19, 21, 22, 25, 26, 29, 30, 33, 34, 36, 37, 39, 39, 41, 42, 45, 46,
  49, 50, 53, 55, 58, 59, 61, 62, 64, 64, 66, 68, 71, 72, 75, 77, 78, 80, 83, 86, 89, 92, 94, 95, 98, 99, 101, 103, 106, 109,
  112, 113, 116, 118, 120, 121, 122, 124, 125, 126, 127, 130, 131, 134, 135, 138, 139, 142, 143, 146, 147, 150, 151, 153, 156, 159, 161, 164, 165, 168,
  170, 171, 172, 175, 178, 179, 180, 183, 184, 187, 188, 189, 192]
/-- WakeHouseModel.twice(IIII)J -/
def c_312 : List aI := [.aload 0, .iload 1, .iload 2, .iload 3, .iload 4, .invokevirtual 313, .lreturn]
def p_312 : List Nat := [0, 1, 2, 3, 4, 6, 9]
/-- WakeHouseModel.twiceBest(IIII)J -/
def c_313 : List aI := [.aload 0, .iload 1, .invokevirtual 249, .ifCond .eq 32, .iload 2, .invokestatic 255, .ifCond .eq 32, .iload 3, .iconst 1, .iconst 3, .invokestatic 250, .ifCond .eq 32, .iload 4, .iconst 0,
  .iconst 30, .invokestatic 250, .ifCond .eq 32, .aload 0, .iload 1, .invokevirtual 281, .ifCond .lt 32, .aload 0, .iload 1, .invokevirtual 281, .iload 4, .fsub, .ifCond .lt 32, .iload 4,
  .iconst 1, .fadd, .iload 3, .if_icmp .ge 35, .nop, .bipush (-1), .lreturn, .aload 0, .iload 1, .invokevirtual 281, .iload 4, .fsub, .istore 5, .bipush (-1),
  .lstore 6, .iconst 0, .istore 8, .nop, .iload 8, .iload 4, .if_icmp .gt 132, .iload 3, .iconst 1, .if_icmp .le 56, .iload 8, .iconst 1, .fadd, .goto 57,
  .iload 4, .istore 9, .nop, .iload 9, .iload 4, .if_icmp .gt 130, .iload 3, .iconst 2, .if_icmp .le 69, .iload 9, .iconst 1, .fadd, .goto 70, .iload 4,
  .istore 10, .nop, .iload 10, .iload 4, .if_icmp .gt 128, .aload 0, .getfield 1269, .iconst 0, .iload 5, .iload 8, .fadd, .iastore, .aload 0, .getfield 1269,
  .iconst 1, .iload 5, .iload 9, .fadd, .iastore, .aload 0, .getfield 1269, .iconst 2, .iload 5, .iload 10, .fadd, .iastore, .aload 0, .iload 1,
  .iload 2, .iload 3, .invokevirtual 314, .lstore 11, .lload 11, .lload 6, .lcmp, .ifCond .gt 107, .goto 125, .lload 11, .lstore 6, .iconst 0, .istore 13, .nop,
  .iload 13, .iconst 3, .if_icmp .ge 125, .aload 0, .getfield 1270, .iload 13, .aload 0, .getfield 1269, .iload 13, .iaload, .iastore, .iinc 13 1, .goto 111, .nop,
  .iinc 10 1, .goto 71, .iinc 9 1, .goto 58, .iinc 8 1, .goto 45, .lload 6, .lreturn]
def p_313 : List Nat := [0, 1, 2, 5, 8, 9, 12, 15, 16, 17, 18, 21, 24, 26, 27, 29, 32, 35, 36, 37, 40, 43, 44, 45, 48, 50, 51, 54, 56, 57,
  58, 59, 62, 62, 65, 66, 67, 68, 71, 73, 74, 76, 79, 81, 82, 84, 84, 86, 88, 91, 92, 93, 96, 98, 99, 100, 103, 105, 107, 107,
  109, 111, 114, 115, 116, 119, 121, 122, 123, 126, 128, 130, 130, 132, 134, 137, 138, 141, 142, 144, 146, 147, 148, 149, 152, 153, 155, 157, 158, 159,
  160, 163, 164, 166, 168, 169, 170, 171, 172, 173, 174, 177, 179, 181, 183, 184, 187, 190, 192, 194, 195, 197, 197, 199, 200, 203, 204, 207, 209, 210,
  213, 215, 216, 217, 220, 223, 223, 226, 229, 232, 235, 238, 241, 243]
/-- WakeHouseModel.upBy(III)J -/
def c_314 : List aI := [.bipush 1, .lstore 4, .bipush 0, .lstore 6, .iconst 0, .istore 8, .nop, .iload 8, .iload 3, .if_icmp .ge 83, .aload 0, .iload 1, .iload 2, .aload 0,
  .getfield 1246, .iload 1, .iaload, .aload 0, .getfield 1269, .iload 8, .iaload, .invokevirtual 257, .istore 9, .bipush 10, .lload 6, .dmul, .iload 9, .i2l,
  .lload 4, .dmul, .dadd, .lstore 6, .iconst 10, .iload 9, .fsub, .i2l, .lload 4, .dmul, .lstore 4, .iload 8, .iconst 1, .fadd,
  .iload 3, .if_icmp .ge 51, .aload 0, .getfield 1269, .iload 8, .iconst 1, .fadd, .iaload, .goto 54, .aload 0, .iload 1, .invokevirtual 281, .istore 10, .aload 0,
  .iload 1, .iload 10, .aload 0, .getfield 1269, .iload 8, .iaload, .fsub, .invokevirtual 264, .istore 11, .bipush 10, .lload 4, .dmul, .iload 11, .i2l,
  .lload 6, .dmul, .dadd, .lstore 4, .iconst 10, .iload 11, .fsub, .i2l, .lload 6, .dmul, .lstore 6, .iinc 8 1, .goto 6, .lload 6,
  .lreturn]
def p_314 : List Nat := [0, 1, 3, 4, 6, 7, 9, 9, 11, 12, 15, 16, 17, 18, 19, 22, 23, 24, 25, 28, 30, 31, 34, 36, 39, 41, 42, 44, 45, 47,
  48, 49, 51, 53, 55, 56, 57, 59, 60, 62, 64, 65, 66, 67, 70, 71, 74, 76, 77, 78, 79, 82, 83, 84, 87, 89, 90, 91, 93, 94,
  97, 99, 100, 101, 104, 106, 109, 111, 112, 114, 115, 117, 118, 119, 121, 123, 125, 126, 127, 129, 130, 132, 135, 138, 140]
/-- WakeHouseModel.twiceAt(IIIII)I -/
def c_315 : List aI := [.aload 0, .iload 1, .iload 2, .iload 3, .iload 4, .invokevirtual 313, .bipush 0, .lcmp, .ifCond .lt 16, .iload 5, .iconst 0, .iload 3, .iconst 1, .fsub,
  .invokestatic 250, .ifCond .ne 18, .iconst (-1), .goto 22, .aload 0, .getfield 1270, .iload 5, .iaload, .ireturn]
def p_315 : List Nat := [0, 1, 2, 3, 4, 6, 9, 10, 11, 14, 16, 17, 18, 19, 20, 23, 26, 27, 30, 31, 34, 36, 37]
/-- WakeHouseModel.swaps(I)I -/
def c_316 : List aI := [.iload 1, .iconst 0, .iconst 99, .invokestatic 250, .ifCond .eq 9, .aload 0, .iload 1, .invokevirtual 317, .goto 10, .iconst (-1), .ireturn]
def p_316 : List Nat := [0, 1, 2, 4, 7, 10, 11, 12, 15, 18, 19]
/-- WakeHouseModel.swapsNow(I)I -/
def c_317 : List aI := [.aload 0, .iload 1, .invokevirtual 318, .ifCond .eq 6, .iconst 0, .ireturn, .aload 0, .getfield 1224, .aload 0, .getfield 1218, .iaload, .istore 2, .iconst 1, .istore 3,
  .nop, .iload 3, .iconst 3, .if_icmp .ge 71, .iconst 0, .istore 4, .nop, .iload 4, .iload 2, .if_icmp .ge 69, .iload 4, .iconst 1, .fadd, .istore 5,
  .nop, .iload 5, .iload 2, .if_icmp .ge 67, .aload 0, .iload 4, .iload 5, .invokevirtual 277, .iload 3, .iconst 1, .if_icmp .ne 43, .aload 0, .iload 1, .invokevirtual 318,
  .goto 46, .aload 0, .iload 1, .invokevirtual 319, .istore 6, .aload 0, .iload 4, .iload 5, .invokevirtual 277, .iload 6, .ifCond .ne 54, .goto 65, .aload 0, .getfield 1271,
  .iconst 0, .iconst 100, .iload 4, .fmul, .iload 5, .fadd, .iastore, .iload 3, .ireturn, .iinc 5 1, .goto 28, .iinc 4 1, .goto 20, .iinc 3 1,
  .goto 14, .iconst (-2), .ireturn]
def p_317 : List Nat := [0, 1, 2, 5, 8, 9, 10, 11, 14, 15, 18, 19, 20, 21, 22, 22, 23, 24, 27, 28, 30, 30, 32, 33, 36, 38, 39, 40, 42, 42,
  44, 45, 48, 49, 51, 53, 56, 57, 58, 61, 62, 63, 66, 69, 70, 71, 74, 76, 77, 79, 81, 84, 86, 89, 92, 93, 96, 97, 99, 101,
  102, 104, 105, 106, 107, 108, 111, 114, 117, 120, 123, 126, 128]
/-- WakeHouseModel.isCheap(I)Z -/
def c_318 : List aI := [.aload 0, .invokevirtual 289, .iload 1, .i2l, .bipush 100, .aload 0, .getfield 1248, .invokestatic 279, .dmul, .lcmp, .ifCond .gt 13, .iconst 1, .goto 14, .iconst 0,
  .freturn]
def p_318 : List Nat := [0, 1, 4, 5, 6, 9, 10, 13, 16, 17, 18, 21, 22, 25, 26]
/-- WakeHouseModel.secondSwap(I)Z -/
def c_319 : List aI := [.aload 0, .getfield 1224, .aload 0, .getfield 1218, .iaload, .istore 2, .iconst 0, .istore 3, .nop, .iload 3, .iload 2, .if_icmp .ge 50, .iload 3, .iconst 1,
  .fadd, .istore 4, .nop, .iload 4, .iload 2, .if_icmp .ge 48, .aload 0, .iload 3, .iload 4, .invokevirtual 277, .aload 0, .iload 1, .invokevirtual 318, .istore 5,
  .aload 0, .iload 3, .iload 4, .invokevirtual 277, .iload 5, .ifCond .ne 35, .goto 46, .aload 0, .getfield 1271, .iconst 1, .iconst 100, .iload 3, .fmul, .iload 4,
  .fadd, .iastore, .iconst 1, .freturn, .iinc 4 1, .goto 16, .iinc 3 1, .goto 8, .iconst 0, .freturn]
def p_319 : List Nat := [0, 1, 4, 5, 8, 9, 10, 11, 12, 12, 13, 14, 17, 18, 19, 20, 22, 22, 24, 25, 28, 29, 30, 32, 35, 36, 37, 40, 42, 43,
  44, 46, 49, 51, 54, 57, 58, 61, 62, 64, 65, 66, 68, 69, 70, 71, 72, 75, 78, 81, 84, 85]
/-- WakeHouseModel.swapAt(II)I -/
def c_320 : List aI := [.iload 1, .iconst 0, .iconst 99, .invokestatic 250, .ifCond .ne 7, .iconst (-1), .ireturn, .aload 0, .iload 1, .invokevirtual 317, .istore 3, .iload 2, .iconst 0, .iload 3,
  .iconst 1, .fsub, .invokestatic 250, .ifCond .eq 23, .aload 0, .getfield 1271, .iload 2, .iaload, .goto 24, .iconst (-1), .ireturn]
def p_320 : List Nat := [0, 1, 2, 4, 7, 10, 11, 12, 13, 14, 17, 18, 19, 20, 21, 22, 23, 26, 29, 30, 33, 34, 35, 38, 39]
/-- WakeHouseModel.worth(I)J -/
def c_321 : List aI := [.aload 0, .iload 1, .invokevirtual 249, .ifCond .eq 8, .aload 0, .iload 1, .invokevirtual 322, .goto 9, .bipush (-1000000000000000000), .lreturn]
def p_321 : List Nat := [0, 1, 2, 5, 8, 9, 10, 13, 16, 19]
/-- WakeHouseModel.worthOf(I)J -/
def c_322 : List aI := [.aload 0, .getfield 1247, .iload 1, .baload, .istore 2, .aload 0, .getfield 1247, .iload 1, .iconst 0, .bastore, .aload 0, .invokevirtual 289, .lstore 3, .aload 0,
  .getfield 1247, .iload 1, .iconst 1, .bastore, .aload 0, .invokevirtual 289, .lstore 5, .aload 0, .getfield 1247, .iload 1, .iload 2, .bastore, .lload 3, .lload 5,
  .dsub, .lreturn]
def p_322 : List Nat := [0, 1, 4, 5, 6, 7, 8, 11, 12, 13, 14, 15, 18, 19, 20, 23, 24, 25, 26, 27, 30, 32, 33, 36, 37, 38, 39, 40, 42, 43]
/-- WakeHouseModel.whose(I)I -/
def c_323 : List aI := [.iload 1, .iconst 0, .iconst 12, .invokestatic 250, .ifCond .ne 7, .iconst (-1), .ireturn, .iconst 0, .istore 2, .iconst 0, .istore 3, .nop, .iload 3, .iload 1,
  .if_icmp .ge 63, .iconst (-1), .istore 4, .bipush 0, .lstore 5, .iconst 0, .istore 7, .nop, .iload 7, .aload 0, .getfield 1230, .aload 0, .getfield 1218, .iaload,
  .if_icmp .ge 52, .iload 2, .iload 7, .ishr, .iconst 1, .iand, .iconst 1, .if_icmp .ne 37, .goto 50, .aload 0, .iload 7, .invokevirtual 322, .lstore 8, .lload 8,
  .lload 5, .lcmp, .ifCond .gt 46, .goto 50, .iload 7, .istore 4, .lload 8, .lstore 5, .iinc 7 1, .goto 21, .iload 4, .iconst (-1), .if_icmp .eq 61, .iload 2,
  .iconst 1, .iload 4, .ishl, .ior, .istore 2, .iinc 3 1, .goto 11, .iload 2, .ireturn]
def p_323 : List Nat := [0, 1, 2, 4, 7, 10, 11, 12, 13, 14, 15, 16, 16, 17, 18, 21, 22, 24, 25, 27, 28, 30, 30, 32, 33, 36, 37, 40, 41, 44,
  45, 47, 48, 49, 50, 51, 54, 57, 58, 60, 63, 65, 67, 69, 70, 73, 76, 78, 80, 82, 84, 87, 90, 92, 93, 96, 97, 98, 100, 101,
  102, 103, 106, 109, 110]
/-- WakeHouseModel.round(I)I -/
def c_324 : List aI := [.iload 1, .iconst 0, .iconst 60, .invokestatic 250, .ifCond .eq 9, .aload 0, .iload 1, .invokevirtual 325, .goto 10, .iconst (-1), .ireturn]
def p_324 : List Nat := [0, 1, 2, 4, 7, 10, 11, 12, 15, 18, 19]
/-- WakeHouseModel.roundBy(I)I -/
def c_325 : List aI := [.aload 0, .iconst 0, .putfield 1272, .iconst 0, .istore 2, .nop, .iload 2, .aload 0, .getfield 1230, .aload 0, .getfield 1218, .iaload, .if_icmp .ge 44, .aload 0,
  .getfield 1272, .iconst 8, .if_icmp .ge 44, .aload 0, .iload 2, .invokevirtual 281, .ifCond .ge 22, .goto 41, .aload 0, .getfield 1273, .aload 0, .getfield 1272, .iload 2, .iastore,
  .aload 0, .getfield 1274, .aload 0, .getfield 1272, .aload 0, .getfield 1272, .iastore, .aload 0, .dup, .getfield 1272, .iconst 1, .fadd, .putfield 1272, .nop,
  .iinc 2 1, .goto 5, .nop, .iconst (-2), .istore 2, .iconst 1, .istore 3, .nop, .iload 3, .ifCond .eq 91, .aload 0, .iload 1, .invokevirtual 326, .istore 4,
  .iload 4, .ifCond .lt 86, .iload 2, .ifCond .lt 63, .iload 4, .iload 2, .if_icmp .ge 86, .nop, .iload 4, .istore 2, .iconst 0, .istore 5, .nop, .iload 5,
  .aload 0, .getfield 1272, .if_icmp .ge 86, .aload 0, .getfield 1275, .iload 5, .aload 0, .getfield 1273, .aload 0, .getfield 1274, .iload 5, .iaload, .iaload, .iastore,
  .iinc 5 1, .goto 68, .nop, .aload 0, .invokevirtual 327, .istore 3, .goto 49, .iload 2, .ireturn]
def p_325 : List Nat := [0, 1, 2, 5, 6, 7, 7, 8, 9, 12, 13, 16, 17, 20, 21, 24, 26, 29, 30, 31, 34, 37, 40, 41, 44, 45, 48, 49, 50, 51,
  54, 55, 58, 59, 62, 63, 64, 65, 68, 69, 70, 73, 73, 76, 79, 79, 81, 82, 83, 84, 84, 85, 88, 89, 90, 93, 95, 97, 100, 101,
  104, 106, 107, 110, 110, 112, 113, 114, 116, 116, 118, 119, 122, 125, 126, 129, 131, 132, 135, 136, 139, 141, 142, 143, 144, 147, 150, 150, 151, 154,
  155, 158, 159]
/-- WakeHouseModel.roundDone(I)I -/
def c_326 : List aI := [.iconst 0, .istore 2, .iconst 0, .istore 3, .iconst 0, .istore 4, .nop, .iload 4, .aload 0, .getfield 1272, .if_icmp .ge 63, .aload 0, .getfield 1273, .aload 0,
  .getfield 1274, .iload 4, .iaload, .iaload, .istore 5, .aload 0, .getfield 1226, .iconst 12, .aload 0, .getfield 1218, .fmul, .aload 0, .getfield 1246, .iload 5,
  .iaload, .fadd, .iaload, .istore 6, .iload 2, .iload 6, .iload 3, .fsub, .invokestatic 259, .fadd, .istore 2, .iload 6, .istore 3, .iload 2,
  .aload 0, .iload 5, .invokevirtual 281, .iload 1, .fsub, .if_icmp .ge 54, .aload 0, .iload 5, .invokevirtual 281, .iload 1, .fsub, .istore 2, .iload 2, .aload 0,
  .iload 5, .invokevirtual 281, .if_icmp .le 61, .iconst (-2), .ireturn, .iinc 4 1, .goto 6, .iload 2, .ireturn]
def p_326 : List Nat := [0, 1, 2, 3, 4, 5, 7, 7, 9, 10, 13, 16, 17, 20, 21, 24, 26, 27, 28, 30, 31, 34, 36, 37, 40, 41, 42, 45, 47, 48,
  49, 50, 52, 53, 55, 56, 57, 60, 61, 62, 64, 65, 66, 67, 69, 72, 73, 74, 77, 78, 80, 83, 84, 85, 86, 87, 88, 90, 93, 96,
  98, 99, 102, 105, 106]
/-- WakeHouseModel.nextOrder()Z -/
def c_327 : List aI := [.aload 0, .getfield 1272, .iconst 2, .fsub, .istore 1, .nop, .iload 1, .ifCond .lt 21, .aload 0, .getfield 1274, .iload 1, .iaload, .aload 0, .getfield 1274,
  .iload 1, .iconst 1, .fadd, .iaload, .if_icmp .le 21, .iinc 1 (-1), .goto 5, .iload 1, .ifCond .ge 25, .iconst 0, .freturn, .aload 0, .getfield 1272, .iconst 1,
  .fsub, .istore 2, .nop, .aload 0, .getfield 1274, .iload 2, .iaload, .aload 0, .getfield 1274, .iload 1, .iaload, .if_icmp .ge 42, .iinc 2 (-1), .goto 30,
  .aload 0, .getfield 1274, .iload 1, .iaload, .istore 3, .aload 0, .getfield 1274, .iload 1, .aload 0, .getfield 1274, .iload 2, .iaload, .iastore, .aload 0,
  .getfield 1274, .iload 2, .iload 3, .iastore, .iload 1, .iconst 1, .fadd, .istore 4, .nop, .iload 4, .aload 0, .getfield 1272, .iload 1, .fadd,
  .iload 4, .fsub, .if_icmp .ge 103, .aload 0, .getfield 1274, .iload 4, .iaload, .istore 3, .aload 0, .getfield 1274, .iload 4, .aload 0, .getfield 1274, .aload 0,
  .getfield 1272, .iload 1, .fadd, .iload 4, .fsub, .iaload, .iastore, .aload 0, .getfield 1274, .aload 0, .getfield 1272, .iload 1, .fadd, .iload 4,
  .fsub, .iload 3, .iastore, .iinc 4 1, .goto 64, .iconst 1, .freturn]
def p_327 : List Nat := [0, 1, 4, 5, 6, 7, 7, 8, 11, 12, 15, 16, 17, 18, 21, 22, 23, 24, 25, 28, 31, 34, 35, 38, 39, 40, 41, 44, 45, 46,
  47, 47, 48, 51, 52, 53, 54, 57, 58, 59, 62, 65, 68, 69, 72, 73, 74, 75, 76, 79, 80, 81, 84, 85, 86, 87, 88, 91, 92, 93,
  94, 95, 96, 97, 99, 99, 101, 102, 105, 106, 107, 109, 110, 113, 114, 117, 119, 120, 121, 122, 125, 127, 128, 131, 132, 135, 136, 137, 139, 140,
  141, 142, 143, 146, 147, 150, 151, 152, 154, 155, 156, 157, 160, 163, 164]
/-- WakeHouseModel.roundAt(II)I -/
def c_328 : List aI := [.iload 1, .iconst 0, .iconst 60, .invokestatic 250, .ifCond .eq 17, .aload 0, .iload 1, .invokevirtual 325, .ifCond .lt 17, .iload 2, .iconst 0, .aload 0, .getfield 1272, .iconst 1,
  .fsub, .invokestatic 250, .ifCond .ne 19, .iconst (-1), .ireturn, .aload 0, .getfield 1275, .iload 2, .iaload, .ireturn]
def p_328 : List Nat := [0, 1, 2, 4, 7, 10, 11, 12, 15, 18, 19, 20, 21, 24, 25, 26, 29, 32, 33, 34, 35, 38, 39, 40]
/-- WakeHouseModel.morning(III)I -/
def c_329 : List aI := [.aload 0, .getfield 1276, .iconst 60, .if_icmp .eq 18, .aload 0, .iload 1, .invokevirtual 249, .ifCond .eq 18, .iload 2, .iconst 0, .iconst 6, .invokestatic 250, .ifCond .eq 18, .iload 3,
  .iconst 0, .iconst 400, .invokestatic 250, .ifCond .ne 20, .iconst (-1), .ireturn, .aload 0, .getfield 1277, .iconst 120, .aload 0, .getfield 1276, .fadd, .iconst (-1), .iastore,
  .aload 0, .getfield 1278, .iconst 120, .aload 0, .getfield 1276, .fadd, .iload 1, .iastore, .aload 0, .getfield 1279, .iconst 120, .aload 0, .getfield 1276, .fadd,
  .iload 2, .iastore, .aload 0, .getfield 1280, .iconst 120, .aload 0, .getfield 1276, .fadd, .iload 3, .iastore, .aload 0, .dup, .getfield 1276, .iconst 1,
  .fadd, .putfield 1276, .aload 0, .getfield 1276, .iconst 1, .fsub, .ireturn]
def p_329 : List Nat := [0, 1, 4, 6, 9, 10, 11, 14, 17, 18, 19, 21, 24, 27, 28, 29, 32, 35, 38, 39, 40, 41, 44, 46, 47, 50, 51, 52, 53, 54,
  57, 59, 60, 63, 64, 65, 66, 67, 70, 72, 73, 76, 77, 78, 79, 80, 83, 85, 86, 89, 90, 91, 92, 93, 94, 97, 98, 99, 102, 103,
  106, 107, 108]
/-- WakeHouseModel.annul(I)I -/
def c_330 : List aI := [.aload 0, .getfield 1276, .iconst 60, .if_icmp .eq 20, .iload 1, .iconst 0, .aload 0, .getfield 1276, .iconst 1, .fsub, .invokestatic 250, .ifCond .eq 20, .aload 0, .getfield 1277,
  .iconst 120, .iload 1, .fadd, .iaload, .iconst (-1), .if_icmp .eq 22, .iconst (-1), .ireturn, .aload 0, .getfield 1277, .iconst 120, .aload 0, .getfield 1276, .fadd,
  .iload 1, .iastore, .aload 0, .dup, .getfield 1276, .iconst 1, .fadd, .putfield 1276, .aload 0, .getfield 1276, .iconst 1, .fsub, .ireturn]
def p_330 : List Nat := [0, 1, 4, 6, 9, 10, 11, 12, 15, 16, 17, 20, 23, 24, 27, 29, 30, 31, 32, 33, 36, 37, 38, 39, 42, 44, 45, 48, 49, 50,
  51, 52, 53, 56, 57, 58, 61, 62, 65, 66, 67]
/-- WakeHouseModel.alone(IIII)I -/
def c_331 : List aI := [.aload 0, .iload 1, .invokevirtual 249, .ifCond .eq 18, .iload 2, .iconst 0, .iconst 7, .invokestatic 250, .ifCond .eq 18, .aload 0, .iload 3, .invokevirtual 332, .ifCond .eq 18, .iload 4,
  .iconst 0, .iconst 1, .invokestatic 250, .ifCond .ne 20, .iconst (-1), .ireturn, .iconst 0, .istore 5, .iconst 0, .istore 6, .nop, .iload 6, .iload 3, .if_icmp .ge 61,
  .aload 0, .iload 6, .iload 3, .invokevirtual 333, .ifCond .eq 59, .aload 0, .getfield 1278, .iconst 120, .iload 6, .fadd, .iaload, .iload 1, .if_icmp .ne 59, .iload 2,
  .iconst 7, .if_icmp .eq 52, .aload 0, .getfield 1279, .iconst 120, .iload 6, .fadd, .iaload, .iload 2, .if_icmp .ne 59, .iload 4, .ifCond .eq 58, .aload 0, .iload 6,
  .invokevirtual 334, .ifCond .eq 59, .iinc 5 1, .iinc 6 1, .goto 24, .iload 5, .ireturn]
def p_331 : List Nat := [0, 1, 2, 5, 8, 9, 10, 12, 15, 18, 19, 20, 23, 26, 28, 29, 30, 33, 36, 37, 38, 39, 41, 42, 44, 44, 46, 47, 50, 51,
  53, 54, 57, 60, 61, 64, 66, 68, 69, 70, 71, 74, 75, 77, 80, 81, 84, 86, 88, 89, 90, 91, 94, 96, 99, 100, 102, 105, 108, 111,
  114, 117, 119]
/-- WakeHouseModel.isKnown(I)Z -/
def c_332 : List aI := [.iload 1, .iconst 0, .aload 0, .getfield 1276, .invokestatic 250, .freturn]
def p_332 : List Nat := [0, 1, 2, 3, 6, 9]
/-- WakeHouseModel.counts(II)Z -/
def c_333 : List aI := [.aload 0, .getfield 1277, .iconst 120, .iload 1, .fadd, .iaload, .iconst (-1), .if_icmp .eq 10, .iconst 0, .freturn, .iload 1, .iconst 1, .fadd, .istore 3,
  .nop, .iload 3, .iload 2, .if_icmp .ge 30, .aload 0, .getfield 1277, .iconst 120, .iload 3, .fadd, .iaload, .iload 1, .if_icmp .ne 28, .iconst 0, .freturn,
  .iinc 3 1, .goto 14, .iconst 1, .freturn]
def p_333 : List Nat := [0, 1, 4, 6, 7, 8, 9, 10, 13, 14, 15, 16, 17, 18, 19, 19, 20, 21, 24, 25, 28, 30, 31, 32, 33, 34, 37, 38, 39, 42,
  45, 46]
/-- WakeHouseModel.isInTime(I)Z -/
def c_334 : List aI := [.aload 0, .aload 0, .getfield 1278, .iconst 120, .iload 1, .fadd, .iaload, .invokevirtual 281, .istore 2, .aload 0, .getfield 1280, .iconst 120, .iload 1, .fadd,
  .iaload, .iload 2, .ifCond .ge 19, .iconst 399, .goto 20, .iload 2, .if_icmp .gt 23, .iconst 1, .goto 24, .iconst 0, .freturn]
def p_334 : List Nat := [0, 1, 2, 5, 7, 8, 9, 10, 13, 14, 15, 18, 20, 21, 22, 23, 24, 27, 30, 33, 34, 37, 38, 41, 42]
/-- WakeHouseModel.mondays(II)I -/
def c_335 : List aI := [.aload 0, .iload 1, .invokevirtual 332, .ifCond .eq 14, .iload 2, .iconst 0, .iconst 3, .invokestatic 250, .ifCond .eq 14, .aload 0, .iload 1, .iload 2, .invokevirtual 336, .goto 15,
  .iconst (-1), .ireturn]
def p_335 : List Nat := [0, 1, 2, 5, 8, 9, 10, 11, 14, 17, 18, 19, 20, 23, 26, 27]
/-- WakeHouseModel.mondaysOf(II)I -/
def c_336 : List aI := [.iconst 0, .istore 3, .iconst 0, .istore 4, .nop, .iload 4, .iload 1, .if_icmp .ge 61, .aload 0, .iload 4, .iload 1, .invokevirtual 333, .ifCond .ne 14, .goto 58,
  .aload 0, .getfield 1279, .iconst 120, .iload 4, .fadd, .iaload, .ifCond .ne 23, .iconst 1, .goto 24, .iconst 0, .istore 5, .nop, .aload 0, .iload 4,
  .invokevirtual 334, .ifCond .ne 32, .iconst 1, .goto 33, .iconst 0, .istore 6, .nop, .iload 2, .ifCond .eq 56, .iload 2, .iconst 1, .if_icmp .ne 42, .iload 5, .ifCond .ne 56,
  .nop, .iload 2, .iconst 2, .if_icmp .ne 48, .iload 6, .ifCond .ne 56, .nop, .iload 2, .iconst 3, .if_icmp .ne 58, .iload 5, .ifCond .eq 58, .iload 6, .ifCond .eq 58,
  .nop, .iinc 3 1, .nop, .iinc 4 1, .goto 4, .iload 3, .ireturn]
def p_336 : List Nat := [0, 1, 2, 3, 5, 5, 7, 8, 11, 12, 14, 15, 18, 21, 24, 25, 28, 30, 32, 33, 34, 37, 38, 41, 42, 44, 44, 45, 47, 50,
  53, 54, 57, 58, 60, 60, 61, 64, 65, 66, 69, 71, 74, 74, 75, 76, 79, 81, 84, 84, 85, 86, 89, 91, 94, 96, 99, 99, 102, 102,
  105, 108, 109]
/-- WakeHouseModel.mondayWays(IZ)J -/
def c_337 : List aI := [.aload 0, .iload 1, .invokevirtual 332, .ifCond .ne 6, .bipush (-1), .lreturn, .aload 0, .iload 1, .iconst 0, .invokevirtual 336, .istore 3, .aload 0, .iload 1, .iconst 1,
  .invokevirtual 336, .istore 4, .aload 0, .iload 1, .iconst 2, .invokevirtual 336, .istore 5, .iload 2, .ifCond .ne 27, .iload 3, .iload 4, .invokestatic 338, .lreturn, .bipush 0,
  .lstore 6, .aload 0, .iload 1, .iconst 3, .invokevirtual 336, .istore 8, .nop, .iload 8, .iload 5, .if_icmp .gt 54, .lload 6, .iload 5, .iload 8, .invokestatic 338,
  .iload 3, .iload 5, .fsub, .iload 4, .iload 8, .fsub, .invokestatic 338, .dmul, .dadd, .lstore 6, .iinc 8 1, .goto 34, .lload 6, .lreturn]
def p_337 : List Nat := [0, 1, 2, 5, 8, 11, 12, 13, 14, 15, 18, 19, 20, 21, 22, 25, 27, 28, 29, 30, 33, 35, 36, 39, 40, 42, 45, 46, 47, 49,
  50, 51, 52, 55, 57, 57, 59, 61, 64, 66, 68, 70, 73, 74, 76, 77, 79, 81, 82, 85, 86, 87, 89, 92, 95, 97]
/-- WakeHouseModel.picks(II)J -/
def c_338 : List aI := [.iload 1, .ifCond .lt 5, .iload 1, .iload 0, .if_icmp .le 7, .bipush 0, .lreturn, .bipush 1, .lstore 2, .iconst 1, .istore 4, .nop, .iload 4, .iload 1,
  .if_icmp .gt 29, .lload 2, .iload 0, .iload 1, .fsub, .iload 4, .fadd, .i2l, .dmul, .iload 4, .i2l, .ldiv, .lstore 2, .iinc 4 1,
  .goto 11, .lload 2, .lreturn]
def p_338 : List Nat := [0, 1, 4, 5, 6, 9, 10, 11, 12, 13, 14, 16, 16, 18, 19, 22, 23, 24, 25, 26, 28, 29, 30, 31, 33, 34, 35, 36, 39, 42,
  43]
/-- WakeHouseModel.fire(IIZ)I -/
def c_339 : List aI := [.aload 0, .iload 1, .invokevirtual 249, .ifCond .eq 7, .iload 2, .invokestatic 255, .ifCond .ne 9, .iconst (-1), .ireturn, .aload 0, .iload 1, .iload 2, .iload 3, .invokevirtual 340,
  .iconst 1, .aload 0, .getfield 1230, .aload 0, .getfield 1218, .iaload, .ishl, .iconst 1, .fsub, .if_icmp .ne 27, .aload 0, .getfield 1281, .goto 28, .iconst (-2),
  .ireturn]
def p_339 : List Nat := [0, 1, 2, 5, 8, 9, 12, 15, 16, 17, 18, 19, 20, 21, 24, 25, 26, 29, 30, 33, 34, 35, 36, 37, 40, 41, 44, 47, 49]
/-- WakeHouseModel.cries(IIZ)I -/
def c_340 : List aI := [.iconst 1, .iload 1, .ishl, .istore 4, .aload 0, .iconst 0, .putfield 1281, .iconst 1, .istore 5, .nop, .iload 5, .ifCond .eq 91, .iload 4, .istore 6,
  .iconst 0, .istore 7, .nop, .iload 7, .aload 0, .getfield 1230, .aload 0, .getfield 1218, .iaload, .if_icmp .ge 73, .iconst 0, .istore 8, .nop, .iload 8,
  .aload 0, .getfield 1230, .aload 0, .getfield 1218, .iaload, .if_icmp .ge 71, .iload 4, .iload 8, .ishr, .iconst 1, .iand, .ifCond .eq 69, .iload 6, .iload 7,
  .ishr, .iconst 1, .iand, .iconst 1, .if_icmp .ne 48, .goto 69, .aload 0, .iload 7, .iload 2, .aload 0, .getfield 1246, .iload 8, .iaload, .iconst 0,
  .invokevirtual 257, .iload 3, .ifCond .eq 61, .iconst 1, .goto 62, .iconst 10, .if_icmp .lt 69, .iload 6, .iconst 1, .iload 7, .ishl, .ior, .istore 6, .iinc 8 1,
  .goto 26, .iinc 7 1, .goto 16, .iload 6, .iload 4, .if_icmp .eq 78, .iconst 1, .goto 79, .iconst 0, .istore 5, .iload 6, .istore 4, .iload 5, .ifCond .eq 90,
  .aload 0, .dup, .getfield 1281, .iconst 1, .fadd, .putfield 1281, .goto 9, .iload 4, .ireturn]
def p_340 : List Nat := [0, 1, 2, 3, 5, 6, 7, 10, 11, 13, 13, 15, 18, 20, 22, 23, 25, 25, 27, 28, 31, 32, 35, 36, 39, 40, 42, 42, 44, 45,
  48, 49, 52, 53, 56, 58, 60, 61, 62, 63, 66, 68, 70, 71, 72, 73, 74, 77, 80, 81, 83, 84, 85, 88, 90, 91, 92, 95, 96, 99,
  100, 103, 105, 108, 110, 111, 113, 114, 115, 117, 120, 123, 126, 129, 131, 133, 136, 137, 140, 141, 143, 145, 147, 149, 152, 153, 154, 157, 158, 159,
  162, 165, 167]
/-- WakeHouseModel.reaches(IIZ)I -/
def c_341 : List aI := [.aload 0, .iload 1, .invokevirtual 249, .ifCond .eq 13, .iload 2, .invokestatic 255, .ifCond .eq 13, .aload 0, .iload 1, .iload 2, .iload 3, .invokevirtual 340, .goto 14, .iconst (-1),
  .ireturn]
def p_341 : List Nat := [0, 1, 2, 5, 8, 9, 12, 15, 16, 17, 18, 19, 22, 25, 26]
/-- WakeHouseModel.day(II)I -/
def c_342 : List aI := [.iload 2, .iconst 0, .iconst 999, .invokestatic 250, .ifCond .eq 10, .aload 0, .iload 1, .iload 2, .invokevirtual 343, .goto 11, .iconst (-1), .ireturn]
def p_342 : List Nat := [0, 1, 2, 5, 8, 11, 12, 13, 14, 17, 20, 21]
/-- WakeHouseModel.upOn(II)I -/
def c_343 : List aI := [.aload 0, .invokevirtual 282, .iconst 0, .istore 3, .iconst 0, .istore 4, .nop, .iload 4, .aload 0, .getfield 1230, .aload 0, .getfield 1218, .iaload, .if_icmp .ge 32,
  .aload 0, .iload 4, .invokevirtual 281, .ifCond .lt 30, .aload 0, .iload 1, .iload 2, .iload 4, .invokevirtual 344, .ifCond .eq 30, .iload 3, .iconst 1, .iload 4, .ishl,
  .ior, .istore 3, .iinc 4 1, .goto 6, .iload 3, .ireturn]
def p_343 : List Nat := [0, 1, 4, 5, 6, 7, 9, 9, 11, 12, 15, 16, 19, 20, 23, 24, 26, 29, 32, 33, 34, 35, 37, 40, 43, 44, 45, 47, 48, 49,
  50, 53, 56, 57]
/-- WakeHouseModel.isUpOn(III)Z -/
def c_344 : List aI := [.aload 0, .aload 0, .iload 3, .invokevirtual 281, .invokevirtual 284, .istore 4, .iconst 0, .istore 5, .iconst 1000, .iload 2, .fmul, .iconst 40, .iload 3, .fmul,
  .fadd, .istore 6, .iconst 0, .istore 7, .nop, .iload 7, .iload 4, .if_icmp .ge 81, .iload 5, .ifCond .eq 57, .iload 1, .iload 6, .iconst 2, .iload 7,
  .fmul, .fadd, .iconst 1, .fadd, .iconst 10, .invokestatic 345, .aload 0, .iload 3, .aload 0, .getfield 1250, .aload 0, .getfield 1253, .iload 7, .iaload,
  .iaload, .aload 0, .getfield 1250, .aload 0, .getfield 1253, .iload 7, .iconst 1, .fsub, .iaload, .iaload, .fsub, .invokevirtual 264, .if_icmp .ge 57, .iconst 0,
  .istore 5, .nop, .iload 5, .ifCond .ne 78, .iload 1, .iload 6, .iconst 2, .iload 7, .fmul, .fadd, .iconst 10, .invokestatic 345, .aload 0, .iload 3,
  .aload 0, .getfield 1253, .iload 7, .iaload, .invokevirtual 285, .if_icmp .ge 78, .iconst 1, .istore 5, .nop, .iinc 7 1, .goto 18, .iload 5, .ifCond .eq 112, .iload 1,
  .iload 6, .iconst 2, .iload 4, .fmul, .fadd, .iconst 1, .fadd, .iconst 10, .invokestatic 345, .aload 0, .iload 3, .aload 0, .iload 3, .invokevirtual 281,
  .aload 0, .getfield 1250, .aload 0, .getfield 1253, .iload 4, .iconst 1, .fsub, .iaload, .iaload, .fsub, .invokevirtual 264, .if_icmp .ge 112, .iconst 0, .istore 5,
  .nop, .iload 5, .freturn]
def p_344 : List Nat := [0, 1, 2, 3, 6, 9, 11, 12, 14, 17, 18, 19, 21, 22, 23, 24, 26, 27, 29, 29, 31, 33, 36, 38, 41, 42, 44, 45, 47, 48,
  49, 50, 51, 53, 56, 57, 58, 59, 62, 63, 66, 68, 69, 70, 71, 74, 75, 78, 80, 81, 82, 83, 84, 85, 88, 91, 92, 94, 94, 96,
  99, 100, 102, 103, 105, 106, 107, 109, 112, 113, 114, 115, 118, 120, 121, 124, 127, 128, 130, 130, 133, 136, 138, 141, 142, 144, 145, 147, 148, 149,
  150, 151, 153, 156, 157, 158, 159, 160, 163, 164, 167, 168, 171, 173, 174, 175, 176, 177, 178, 181, 184, 185, 187, 187, 189]
/-- WakeHouseModel.lot(III)I -/
def c_345 : List aI := [.iload 0, .iconst 14, .invokestatic 346, .iload 1, .invokestatic 346, .iconst 1, .iushr, .iload 2, .irem, .ireturn]
def p_345 : List Nat := [0, 1, 3, 6, 7, 10, 11, 12, 13, 14]
/-- WakeHouseModel.mixed(II)I -/
def c_346 : List aI := [.iload 0, .iload 1, .ixor, .iconst 1103515245, .imul, .iconst 12345, .iadd, .istore 2, .iload 2, .iload 2, .iconst 15, .iushr, .ixor, .ireturn]
def p_346 : List Nat := [0, 1, 2, 3, 6, 7, 10, 11, 12, 13, 14, 16, 17, 18]
/-- WakeHouseModel.days(III)I -/
def c_347 : List aI := [.iload 2, .iconst 1, .iconst 50, .invokestatic 250, .ifCond .eq 16, .iload 3, .iconst (-1), .if_icmp .eq 18, .aload 0, .iload 3, .invokevirtual 249, .ifCond .eq 16, .aload 0, .iload 3,
  .invokevirtual 281, .ifCond .ge 18, .iconst (-2), .ireturn, .iconst 0, .istore 4, .iconst 0, .istore 5, .nop, .iload 5, .iload 2, .if_icmp .ge 49, .aload 0, .iload 1,
  .iload 5, .invokevirtual 343, .istore 6, .iload 3, .iconst (-1), .if_icmp .ne 39, .iload 6, .aload 0, .invokevirtual 300, .if_icmp .ne 47, .goto 46, .iload 6, .iload 3, .ishr,
  .iconst 1, .iand, .iconst 1, .if_icmp .ne 47, .iinc 4 1, .iinc 5 1, .goto 22, .iload 4, .ireturn]
def p_347 : List Nat := [0, 1, 2, 4, 7, 10, 11, 12, 15, 16, 17, 20, 23, 24, 25, 28, 31, 33, 34, 35, 37, 38, 40, 40, 42, 43, 46, 47, 48, 50,
  53, 55, 56, 57, 60, 62, 63, 66, 69, 72, 74, 75, 76, 77, 78, 79, 82, 85, 88, 91, 93]
/-- WakeHouseModel.hold(I)Z -/
def c_348 : List aI := [.iload 1, .iconst 0, .iconst 1, .invokestatic 250, .ifCond .ne 7, .iconst 0, .freturn, .aload 0, .getfield 1282, .iload 1, .aload 0, .getfield 1248, .iastore, .iconst 0,
  .istore 2, .nop, .iload 2, .aload 0, .getfield 1248, .if_icmp .ge 70, .aload 0, .getfield 1283, .iconst 8, .iload 1, .fmul, .iload 2, .fadd, .aload 0,
  .getfield 1249, .iload 2, .iaload, .iastore, .aload 0, .getfield 1284, .iconst 8, .iload 1, .fmul, .iload 2, .fadd, .aload 0, .getfield 1250, .iload 2,
  .iaload, .iastore, .aload 0, .getfield 1285, .iconst 8, .iload 1, .fmul, .iload 2, .fadd, .aload 0, .getfield 1251, .iload 2, .iaload, .iastore,
  .aload 0, .getfield 1286, .iconst 8, .iload 1, .fmul, .iload 2, .fadd, .aload 0, .getfield 1252, .iload 2, .iaload, .iastore, .iinc 2 1, .goto 15,
  .iconst 0, .istore 2, .nop, .iload 2, .iconst 12, .if_icmp .ge 102, .aload 0, .getfield 1287, .iconst 12, .iload 1, .fmul, .iload 2, .fadd, .aload 0,
  .getfield 1246, .iload 2, .iaload, .iastore, .aload 0, .getfield 1288, .iconst 12, .iload 1, .fmul, .iload 2, .fadd, .aload 0, .getfield 1247, .iload 2,
  .baload, .bastore, .iinc 2 1, .goto 72, .aload 0, .getfield 1289, .iload 1, .aload 0, .getfield 1276, .iastore, .aload 0, .iconst 120, .iconst 60, .iload 1,
  .fmul, .aload 0, .getfield 1276, .invokevirtual 349, .iconst 1, .freturn]
def p_348 : List Nat := [0, 1, 2, 3, 6, 9, 10, 11, 12, 15, 16, 17, 20, 21, 22, 23, 23, 24, 25, 28, 31, 32, 35, 37, 38, 39, 40, 41, 42, 45,
  46, 47, 48, 49, 52, 54, 55, 56, 57, 58, 59, 62, 63, 64, 65, 66, 69, 71, 72, 73, 74, 75, 76, 79, 80, 81, 82, 83, 86, 88,
  89, 90, 91, 92, 93, 96, 97, 98, 99, 102, 105, 106, 107, 107, 108, 110, 113, 114, 117, 119, 120, 121, 122, 123, 124, 127, 128, 129, 130, 131,
  134, 136, 137, 138, 139, 140, 141, 144, 145, 146, 147, 150, 153, 154, 157, 158, 159, 162, 163, 164, 166, 168, 169, 170, 171, 174, 177, 178]
/-- WakeHouseModel.copies(III)V -/
def c_349 : List aI := [.iconst 0, .istore 4, .nop, .iload 4, .iload 3, .if_icmp .ge 56, .aload 0, .getfield 1277, .iload 2, .iload 4, .fadd, .aload 0, .getfield 1277, .iload 1,
  .iload 4, .fadd, .iaload, .iastore, .aload 0, .getfield 1278, .iload 2, .iload 4, .fadd, .aload 0, .getfield 1278, .iload 1, .iload 4, .fadd,
  .iaload, .iastore, .aload 0, .getfield 1279, .iload 2, .iload 4, .fadd, .aload 0, .getfield 1279, .iload 1, .iload 4, .fadd, .iaload, .iastore,
  .aload 0, .getfield 1280, .iload 2, .iload 4, .fadd, .aload 0, .getfield 1280, .iload 1, .iload 4, .fadd, .iaload, .iastore, .iinc 4 1, .goto 2,
  .return_]
def p_349 : List Nat := [0, 1, 3, 3, 5, 6, 9, 10, 13, 14, 16, 17, 18, 21, 22, 24, 25, 26, 27, 28, 31, 32, 34, 35, 36, 39, 40, 42, 43, 44,
  45, 46, 49, 50, 52, 53, 54, 57, 58, 60, 61, 62, 63, 64, 67, 68, 70, 71, 72, 75, 76, 78, 79, 80, 81, 84, 87]
/-- WakeHouseModel.restore(I)Z -/
def c_350 : List aI := [.iload 1, .iconst 0, .iconst 1, .invokestatic 250, .ifCond .eq 10, .aload 0, .getfield 1282, .iload 1, .iaload, .ifCond .ge 12, .iconst 0, .freturn, .aload 0, .aload 0,
  .getfield 1282, .iload 1, .iaload, .putfield 1248, .iconst 0, .istore 2, .nop, .iload 2, .aload 0, .getfield 1248, .if_icmp .ge 75, .aload 0, .getfield 1249, .iload 2,
  .aload 0, .getfield 1283, .iconst 8, .iload 1, .fmul, .iload 2, .fadd, .iaload, .iastore, .aload 0, .getfield 1250, .iload 2, .aload 0, .getfield 1284,
  .iconst 8, .iload 1, .fmul, .iload 2, .fadd, .iaload, .iastore, .aload 0, .getfield 1251, .iload 2, .aload 0, .getfield 1285, .iconst 8, .iload 1,
  .fmul, .iload 2, .fadd, .iaload, .iastore, .aload 0, .getfield 1252, .iload 2, .aload 0, .getfield 1286, .iconst 8, .iload 1, .fmul, .iload 2,
  .fadd, .iaload, .iastore, .iinc 2 1, .goto 20, .iconst 0, .istore 2, .nop, .iload 2, .iconst 12, .if_icmp .ge 107, .aload 0, .getfield 1246, .iload 2,
  .aload 0, .getfield 1287, .iconst 12, .iload 1, .fmul, .iload 2, .fadd, .iaload, .iastore, .aload 0, .getfield 1247, .iload 2, .aload 0, .getfield 1288,
  .iconst 12, .iload 1, .fmul, .iload 2, .fadd, .baload, .bastore, .iinc 2 1, .goto 77, .aload 0, .aload 0, .getfield 1289, .iload 1, .iaload,
  .putfield 1276, .aload 0, .iconst 60, .iload 1, .fmul, .iconst 120, .aload 0, .getfield 1276, .invokevirtual 349, .iconst 1, .freturn]
def p_350 : List Nat := [0, 1, 2, 3, 6, 9, 10, 13, 14, 15, 18, 19, 20, 21, 22, 25, 26, 27, 30, 31, 32, 32, 33, 34, 37, 40, 41, 44, 45, 46,
  49, 51, 52, 53, 54, 55, 56, 57, 58, 61, 62, 63, 66, 68, 69, 70, 71, 72, 73, 74, 75, 78, 79, 80, 83, 85, 86, 87, 88, 89,
  90, 91, 92, 95, 96, 97, 100, 102, 103, 104, 105, 106, 107, 108, 111, 114, 115, 116, 116, 117, 119, 122, 123, 126, 127, 128, 131, 133, 134, 135,
  136, 137, 138, 139, 140, 143, 144, 145, 148, 150, 151, 152, 153, 154, 155, 156, 159, 162, 163, 164, 167, 168, 169, 172, 173, 175, 176, 177, 179, 180,
  183, 186, 187]
/-- WakeHouseModel.count(I)I -/
def c_351 : List aI := [.iconst 0, .istore 2, .iload 1, .tableswitch 74 0 7 #[4, 10, 16, 22, 25, 28, 53, 56], .aload 0, .getfield 1224, .aload 0, .getfield 1218, .iaload, .ireturn, .aload 0, .getfield 1227, .aload 0, .getfield 1218,
  .iaload, .ireturn, .aload 0, .getfield 1230, .aload 0, .getfield 1218, .iaload, .ireturn, .aload 0, .getfield 1248, .ireturn, .aload 0, .getfield 1276, .ireturn,
  .iconst 0, .istore 3, .nop, .iload 3, .aload 0, .getfield 1230, .aload 0, .getfield 1218, .iaload, .if_icmp .ge 51, .iload 2, .aload 0, .getfield 1247, .iload 3,
  .baload, .ifCond .eq 46, .iconst 1, .goto 47, .iconst 0, .fadd, .istore 2, .iinc 3 1, .goto 30, .iload 2, .ireturn, .aload 0, .getfield 1202, .ireturn,
  .aload 0, .getfield 1282, .iconst 0, .iaload, .ifCond .ge 63, .iconst 0, .goto 64, .iconst 1, .aload 0, .getfield 1282, .iconst 1, .iaload, .ifCond .ge 71, .iconst 0,
  .goto 72, .iconst 1, .fadd, .ireturn, .iconst (-1), .ireturn]
def p_351 : List Nat := [0, 1, 2, 3, 48, 49, 52, 53, 56, 57, 58, 59, 62, 63, 66, 67, 68, 69, 72, 73, 76, 77, 78, 79, 82, 83, 84, 87, 88, 89,
  90, 90, 91, 92, 95, 96, 99, 100, 103, 104, 105, 108, 109, 110, 113, 114, 117, 118, 119, 120, 123, 126, 127, 128, 129, 132, 133, 134, 137, 138,
  139, 142, 143, 146, 147, 148, 151, 152, 153, 156, 157, 160, 161, 162, 163, 164]
/-- WakeHouse$Shaking.shakerAt(II)I -/
def c_352 : List aI := [.iload 1, .iconst 2, .if_icmp .ne 7, .iload 0, .iconst 2, .idiv, .goto 8, .iload 0, .ireturn]
def p_352 : List Nat := [0, 1, 2, 5, 6, 7, 8, 11, 12]
/-- WakeHouseLaw.law([I)Z -/
def c_353 : List aI := [.new 11, .dup, .invokespecial 0, .astore 1, .new 12, .dup, .invokespecial 212, .astore 2, .iconst 0, .istore 3, .nop, .iload 3, .aload 0, .arraylength,
  .iconst 6, .fsub, .if_icmp .gt 1301, .aload 0, .iload 3, .iaload, .iconst 63, .iand, .tableswitch 1299 0 47 #[23, 80, 97, 104, 111, 138, 155, 202, 229, 266, 293, 320, 337, 364, 399, 426, 434, 452, 470, 478, 485, 502, 540, 587, 604, 621, 648, 675, 702, 750, 807, 824, 851, 869, 886, 903, 930, 967, 984, 1031, 1058, 1094, 1139, 1184, 1211, 1248, 1265, 1282], .aload 1, .aload 0, .iload 3, .iconst 1, .fadd,
  .iaload, .aload 0, .iload 3, .iconst 2, .fadd, .iaload, .aload 0, .iload 3, .iconst 3, .fadd, .iaload, .aload 0, .iload 3, .iconst 4,
  .fadd, .iaload, .aload 0, .iload 3, .iconst 5, .fadd, .iaload, .invokevirtual 20, .aload 2, .aload 0, .iload 3, .iconst 1, .fadd, .iaload,
  .aload 0, .iload 3, .iconst 2, .fadd, .iaload, .aload 0, .iload 3, .iconst 3, .fadd, .iaload, .aload 0, .iload 3, .iconst 4, .fadd,
  .iaload, .aload 0, .iload 3, .iconst 5, .fadd, .iaload, .invokevirtual 215, .if_icmp .eq 1299, .iconst 0, .freturn, .aload 1, .aload 0, .iload 3, .iconst 1,
  .fadd, .iaload, .invokevirtual 23, .aload 2, .aload 0, .iload 3, .iconst 1, .fadd, .iaload, .invokevirtual 217, .if_icmp .eq 1299, .iconst 0, .freturn, .aload 1,
  .invokevirtual 24, .aload 2, .invokevirtual 218, .if_icmp .eq 1299, .iconst 0, .freturn, .aload 1, .invokevirtual 74, .aload 2, .invokevirtual 247, .if_icmp .eq 1299, .iconst 0, .freturn, .aload 1,
  .aload 0, .iload 3, .iconst 1, .fadd, .iaload, .aload 0, .iload 3, .iconst 2, .fadd, .iaload, .invokevirtual 75, .aload 2, .aload 0, .iload 3,
  .iconst 1, .fadd, .iaload, .aload 0, .iload 3, .iconst 2, .fadd, .iaload, .invokevirtual 248, .if_icmp .eq 1299, .iconst 0, .freturn, .aload 1, .aload 0,
  .iload 3, .iconst 1, .fadd, .iaload, .invokevirtual 78, .aload 2, .aload 0, .iload 3, .iconst 1, .fadd, .iaload, .invokevirtual 251, .if_icmp .eq 1299, .iconst 0,
  .freturn, .aload 1, .aload 0, .iload 3, .iconst 1, .fadd, .iaload, .aload 0, .iload 3, .iconst 2, .fadd, .iaload, .aload 0, .iload 3,
  .iconst 3, .fadd, .iaload, .aload 0, .iload 3, .iconst 4, .fadd, .iaload, .invokevirtual 80, .aload 2, .aload 0, .iload 3, .iconst 1, .fadd,
  .iaload, .aload 0, .iload 3, .iconst 2, .fadd, .iaload, .aload 0, .iload 3, .iconst 3, .fadd, .iaload, .aload 0, .iload 3, .iconst 4,
  .fadd, .iaload, .invokevirtual 254, .if_icmp .eq 1299, .iconst 0, .freturn, .aload 1, .aload 0, .iload 3, .iconst 1, .fadd, .iaload, .aload 0, .iload 3,
  .iconst 2, .fadd, .iaload, .invokevirtual 87, .aload 2, .aload 0, .iload 3, .iconst 1, .fadd, .iaload, .aload 0, .iload 3, .iconst 2, .fadd,
  .iaload, .invokevirtual 263, .if_icmp .eq 1299, .iconst 0, .freturn, .aload 1, .aload 0, .iload 3, .iconst 1, .fadd, .iaload, .aload 0, .iload 3, .iconst 2,
  .fadd, .iaload, .aload 0, .iload 3, .iconst 3, .fadd, .iaload, .invokevirtual 89, .aload 2, .aload 0, .iload 3, .iconst 1, .fadd, .iaload,
  .aload 0, .iload 3, .iconst 2, .fadd, .iaload, .aload 0, .iload 3, .iconst 3, .fadd, .iaload, .invokevirtual 265, .if_icmp .eq 1299, .iconst 0, .freturn,
  .aload 1, .aload 0, .iload 3, .iconst 1, .fadd, .iaload, .aload 0, .iload 3, .iconst 2, .fadd, .iaload, .invokevirtual 94, .aload 2, .aload 0,
  .iload 3, .iconst 1, .fadd, .iaload, .aload 0, .iload 3, .iconst 2, .fadd, .iaload, .invokevirtual 270, .if_icmp .eq 1299, .iconst 0, .freturn, .aload 1,
  .aload 0, .iload 3, .iconst 1, .fadd, .iaload, .aload 0, .iload 3, .iconst 2, .fadd, .iaload, .invokevirtual 95, .aload 2, .aload 0, .iload 3,
  .iconst 1, .fadd, .iaload, .aload 0, .iload 3, .iconst 2, .fadd, .iaload, .invokevirtual 271, .if_icmp .eq 1299, .iconst 0, .freturn, .aload 1, .aload 0,
  .iload 3, .iconst 1, .fadd, .iaload, .invokevirtual 96, .aload 2, .aload 0, .iload 3, .iconst 1, .fadd, .iaload, .invokevirtual 272, .if_icmp .eq 1299, .iconst 0,
  .freturn, .aload 1, .aload 0, .iload 3, .iconst 1, .fadd, .iaload, .aload 0, .iload 3, .iconst 2, .fadd, .iaload, .invokevirtual 99, .aload 2,
  .aload 0, .iload 3, .iconst 1, .fadd, .iaload, .aload 0, .iload 3, .iconst 2, .fadd, .iaload, .invokevirtual 274, .if_icmp .eq 1299, .iconst 0, .freturn,
  .aload 1, .aload 0, .iload 3, .iconst 1, .fadd, .iaload, .aload 0, .iload 3, .iconst 2, .fadd, .iaload, .ifCond .eq 378, .iconst 1, .goto 379,
  .iconst 0, .invokevirtual 101, .aload 2, .aload 0, .iload 3, .iconst 1, .fadd, .iaload, .aload 0, .iload 3, .iconst 2, .fadd, .iaload, .ifCond .eq 394,
  .iconst 1, .goto 395, .iconst 0, .invokevirtual 275, .if_icmp .eq 1299, .iconst 0, .freturn, .aload 1, .aload 0, .iload 3, .iconst 1, .fadd, .iaload, .aload 0,
  .iload 3, .iconst 2, .fadd, .iaload, .invokevirtual 102, .aload 2, .aload 0, .iload 3, .iconst 1, .fadd, .iaload, .aload 0, .iload 3, .iconst 2,
  .fadd, .iaload, .invokevirtual 276, .if_icmp .eq 1299, .iconst 0, .freturn, .aload 1, .invokevirtual 104, .aload 2, .invokevirtual 278, .lcmp, .ifCond .eq 1299, .iconst 0, .freturn,
  .aload 1, .aload 0, .iload 3, .iconst 1, .fadd, .iaload, .invokevirtual 105, .aload 2, .aload 0, .iload 3, .iconst 1, .fadd, .iaload, .invokevirtual 280,
  .lcmp, .ifCond .eq 1299, .iconst 0, .freturn, .aload 1, .aload 0, .iload 3, .iconst 1, .fadd, .iaload, .invokevirtual 112, .aload 2, .aload 0, .iload 3,
  .iconst 1, .fadd, .iaload, .invokevirtual 286, .lcmp, .ifCond .eq 1299, .iconst 0, .freturn, .aload 1, .invokevirtual 114, .aload 2, .invokevirtual 288, .lcmp, .ifCond .eq 1299,
  .iconst 0, .freturn, .aload 1, .invokevirtual 117, .aload 2, .invokevirtual 290, .if_icmp .eq 1299, .iconst 0, .freturn, .aload 1, .aload 0, .iload 3, .iconst 1, .fadd,
  .iaload, .invokevirtual 118, .aload 2, .aload 0, .iload 3, .iconst 1, .fadd, .iaload, .invokevirtual 293, .if_icmp .eq 1299, .iconst 0, .freturn, .aload 1, .aload 0,
  .iload 3, .iconst 1, .fadd, .iaload, .aload 0, .iload 3, .iconst 2, .fadd, .iaload, .aload 0, .iload 3, .iconst 3, .fadd, .iaload,
  .invokevirtual 119, .aload 2, .aload 0, .iload 3, .iconst 1, .fadd, .iaload, .aload 0, .iload 3, .iconst 2, .fadd, .iaload, .aload 0, .iload 3,
  .iconst 3, .fadd, .iaload, .invokevirtual 295, .lcmp, .ifCond .eq 1299, .iconst 0, .freturn, .aload 1, .aload 0, .iload 3, .iconst 1, .fadd, .iaload,
  .aload 0, .iload 3, .iconst 2, .fadd, .iaload, .aload 0, .iload 3, .iconst 3, .fadd, .iaload, .aload 0, .iload 3, .iconst 4, .fadd,
  .iaload, .invokevirtual 130, .aload 2, .aload 0, .iload 3, .iconst 1, .fadd, .iaload, .aload 0, .iload 3, .iconst 2, .fadd, .iaload, .aload 0,
  .iload 3, .iconst 3, .fadd, .iaload, .aload 0, .iload 3, .iconst 4, .fadd, .iaload, .invokevirtual 298, .if_icmp .eq 1299, .iconst 0, .freturn, .aload 1,
  .aload 0, .iload 3, .iconst 1, .fadd, .iaload, .invokevirtual 132, .aload 2, .aload 0, .iload 3, .iconst 1, .fadd, .iaload, .invokevirtual 299, .if_icmp .eq 1299,
  .iconst 0, .freturn, .aload 1, .aload 0, .iload 3, .iconst 1, .fadd, .iaload, .invokevirtual 140, .aload 2, .aload 0, .iload 3, .iconst 1, .fadd,
  .iaload, .invokevirtual 302, .if_icmp .eq 1299, .iconst 0, .freturn, .aload 1, .aload 0, .iload 3, .iconst 1, .fadd, .iaload, .aload 0, .iload 3, .iconst 2,
  .fadd, .iaload, .invokevirtual 141, .aload 2, .aload 0, .iload 3, .iconst 1, .fadd, .iaload, .aload 0, .iload 3, .iconst 2, .fadd, .iaload,
  .invokevirtual 303, .if_icmp .eq 1299, .iconst 0, .freturn, .aload 1, .aload 0, .iload 3, .iconst 1, .fadd, .iaload, .aload 0, .iload 3, .iconst 2, .fadd,
  .iaload, .invokevirtual 143, .aload 2, .aload 0, .iload 3, .iconst 1, .fadd, .iaload, .aload 0, .iload 3, .iconst 2, .fadd, .iaload, .invokevirtual 305,
  .if_icmp .eq 1299, .iconst 0, .freturn, .aload 1, .aload 0, .iload 3, .iconst 1, .fadd, .iaload, .aload 0, .iload 3, .iconst 2, .fadd, .iaload,
  .invokevirtual 153, .aload 2, .aload 0, .iload 3, .iconst 1, .fadd, .iaload, .aload 0, .iload 3, .iconst 2, .fadd, .iaload, .invokevirtual 310, .if_icmp .eq 1299,
  .iconst 0, .freturn, .aload 1, .aload 0, .iload 3, .iconst 1, .fadd, .iaload, .aload 0, .iload 3, .iconst 2, .fadd, .iaload, .aload 0,
  .iload 3, .iconst 3, .fadd, .iaload, .aload 0, .iload 3, .iconst 4, .fadd, .iaload, .invokevirtual 154, .aload 2, .aload 0, .iload 3, .iconst 1,
  .fadd, .iaload, .aload 0, .iload 3, .iconst 2, .fadd, .iaload, .aload 0, .iload 3, .iconst 3, .fadd, .iaload, .aload 0, .iload 3,
  .iconst 4, .fadd, .iaload, .invokevirtual 312, .lcmp, .ifCond .eq 1299, .iconst 0, .freturn, .aload 1, .aload 0, .iload 3, .iconst 1, .fadd, .iaload,
  .aload 0, .iload 3, .iconst 2, .fadd, .iaload, .aload 0, .iload 3, .iconst 3, .fadd, .iaload, .aload 0, .iload 3, .iconst 4, .fadd,
  .iaload, .aload 0, .iload 3, .iconst 5, .fadd, .iaload, .invokevirtual 158, .aload 2, .aload 0, .iload 3, .iconst 1, .fadd, .iaload, .aload 0,
  .iload 3, .iconst 2, .fadd, .iaload, .aload 0, .iload 3, .iconst 3, .fadd, .iaload, .aload 0, .iload 3, .iconst 4, .fadd, .iaload,
  .aload 0, .iload 3, .iconst 5, .fadd, .iaload, .invokevirtual 315, .if_icmp .eq 1299, .iconst 0, .freturn, .aload 1, .aload 0, .iload 3, .iconst 1, .fadd,
  .iaload, .invokevirtual 159, .aload 2, .aload 0, .iload 3, .iconst 1, .fadd, .iaload, .invokevirtual 316, .if_icmp .eq 1299, .iconst 0, .freturn, .aload 1, .aload 0,
  .iload 3, .iconst 1, .fadd, .iaload, .aload 0, .iload 3, .iconst 2, .fadd, .iaload, .invokevirtual 168, .aload 2, .aload 0, .iload 3, .iconst 1,
  .fadd, .iaload, .aload 0, .iload 3, .iconst 2, .fadd, .iaload, .invokevirtual 320, .if_icmp .eq 1299, .iconst 0, .freturn, .aload 1, .aload 0, .iload 3,
  .iconst 1, .fadd, .iaload, .invokevirtual 169, .aload 2, .aload 0, .iload 3, .iconst 1, .fadd, .iaload, .invokevirtual 321, .lcmp, .ifCond .eq 1299, .iconst 0,
  .freturn, .aload 1, .aload 0, .iload 3, .iconst 1, .fadd, .iaload, .invokevirtual 171, .aload 2, .aload 0, .iload 3, .iconst 1, .fadd, .iaload,
  .invokevirtual 323, .if_icmp .eq 1299, .iconst 0, .freturn, .aload 1, .aload 0, .iload 3, .iconst 1, .fadd, .iaload, .invokevirtual 173, .aload 2, .aload 0, .iload 3,
  .iconst 1, .fadd, .iaload, .invokevirtual 324, .if_icmp .eq 1299, .iconst 0, .freturn, .aload 1, .aload 0, .iload 3, .iconst 1, .fadd, .iaload, .aload 0,
  .iload 3, .iconst 2, .fadd, .iaload, .invokevirtual 181, .aload 2, .aload 0, .iload 3, .iconst 1, .fadd, .iaload, .aload 0, .iload 3, .iconst 2,
  .fadd, .iaload, .invokevirtual 328, .if_icmp .eq 1299, .iconst 0, .freturn, .aload 1, .aload 0, .iload 3, .iconst 1, .fadd, .iaload, .aload 0, .iload 3,
  .iconst 2, .fadd, .iaload, .aload 0, .iload 3, .iconst 3, .fadd, .iaload, .invokevirtual 182, .aload 2, .aload 0, .iload 3, .iconst 1, .fadd,
  .iaload, .aload 0, .iload 3, .iconst 2, .fadd, .iaload, .aload 0, .iload 3, .iconst 3, .fadd, .iaload, .invokevirtual 329, .if_icmp .eq 1299, .iconst 0,
  .freturn, .aload 1, .aload 0, .iload 3, .iconst 1, .fadd, .iaload, .invokevirtual 184, .aload 2, .aload 0, .iload 3, .iconst 1, .fadd, .iaload,
  .invokevirtual 330, .if_icmp .eq 1299, .iconst 0, .freturn, .aload 1, .aload 0, .iload 3, .iconst 1, .fadd, .iaload, .aload 0, .iload 3, .iconst 2, .fadd,
  .iaload, .aload 0, .iload 3, .iconst 3, .fadd, .iaload, .aload 0, .iload 3, .iconst 4, .fadd, .iaload, .invokevirtual 185, .aload 2, .aload 0,
  .iload 3, .iconst 1, .fadd, .iaload, .aload 0, .iload 3, .iconst 2, .fadd, .iaload, .aload 0, .iload 3, .iconst 3, .fadd, .iaload,
  .aload 0, .iload 3, .iconst 4, .fadd, .iaload, .invokevirtual 331, .if_icmp .eq 1299, .iconst 0, .freturn, .aload 1, .aload 0, .iload 3, .iconst 1, .fadd,
  .iaload, .aload 0, .iload 3, .iconst 2, .fadd, .iaload, .invokevirtual 190, .aload 2, .aload 0, .iload 3, .iconst 1, .fadd, .iaload, .aload 0,
  .iload 3, .iconst 2, .fadd, .iaload, .invokevirtual 335, .if_icmp .eq 1299, .iconst 0, .freturn, .aload 1, .aload 0, .iload 3, .iconst 1, .fadd, .iaload,
  .aload 0, .iload 3, .iconst 2, .fadd, .iaload, .ifCond .eq 1072, .iconst 1, .goto 1073, .iconst 0, .invokevirtual 192, .aload 2, .aload 0, .iload 3, .iconst 1,
  .fadd, .iaload, .aload 0, .iload 3, .iconst 2, .fadd, .iaload, .ifCond .eq 1088, .iconst 1, .goto 1089, .iconst 0, .invokevirtual 337, .lcmp, .ifCond .eq 1299,
  .iconst 0, .freturn, .aload 1, .aload 0, .iload 3, .iconst 1, .fadd, .iaload, .aload 0, .iload 3, .iconst 2, .fadd, .iaload, .aload 0,
  .iload 3, .iconst 3, .fadd, .iaload, .ifCond .eq 1113, .iconst 1, .goto 1114, .iconst 0, .invokevirtual 195, .aload 2, .aload 0, .iload 3, .iconst 1, .fadd,
  .iaload, .aload 0, .iload 3, .iconst 2, .fadd, .iaload, .aload 0, .iload 3, .iconst 3, .fadd, .iaload, .ifCond .eq 1134, .iconst 1, .goto 1135,
  .iconst 0, .invokevirtual 339, .if_icmp .eq 1299, .iconst 0, .freturn, .aload 1, .aload 0, .iload 3, .iconst 1, .fadd, .iaload, .aload 0, .iload 3, .iconst 2,
  .fadd, .iaload, .aload 0, .iload 3, .iconst 3, .fadd, .iaload, .ifCond .eq 1158, .iconst 1, .goto 1159, .iconst 0, .invokevirtual 198, .aload 2, .aload 0,
  .iload 3, .iconst 1, .fadd, .iaload, .aload 0, .iload 3, .iconst 2, .fadd, .iaload, .aload 0, .iload 3, .iconst 3, .fadd, .iaload,
  .ifCond .eq 1179, .iconst 1, .goto 1180, .iconst 0, .invokevirtual 341, .if_icmp .eq 1299, .iconst 0, .freturn, .aload 1, .aload 0, .iload 3, .iconst 1, .fadd, .iaload,
  .aload 0, .iload 3, .iconst 2, .fadd, .iaload, .invokevirtual 199, .aload 2, .aload 0, .iload 3, .iconst 1, .fadd, .iaload, .aload 0, .iload 3,
  .iconst 2, .fadd, .iaload, .invokevirtual 342, .if_icmp .eq 1299, .iconst 0, .freturn, .aload 1, .aload 0, .iload 3, .iconst 1, .fadd, .iaload, .aload 0,
  .iload 3, .iconst 2, .fadd, .iaload, .aload 0, .iload 3, .iconst 3, .fadd, .iaload, .invokevirtual 203, .aload 2, .aload 0, .iload 3, .iconst 1,
  .fadd, .iaload, .aload 0, .iload 3, .iconst 2, .fadd, .iaload, .aload 0, .iload 3, .iconst 3, .fadd, .iaload, .invokevirtual 347, .if_icmp .eq 1299,
  .iconst 0, .freturn, .aload 1, .aload 0, .iload 3, .iconst 1, .fadd, .iaload, .invokevirtual 206, .aload 2, .aload 0, .iload 3, .iconst 1, .fadd,
  .iaload, .invokevirtual 348, .if_icmp .eq 1299, .iconst 0, .freturn, .aload 1, .aload 0, .iload 3, .iconst 1, .fadd, .iaload, .invokevirtual 209, .aload 2, .aload 0,
  .iload 3, .iconst 1, .fadd, .iaload, .invokevirtual 350, .if_icmp .eq 1299, .iconst 0, .freturn, .aload 1, .aload 0, .iload 3, .iconst 1, .fadd, .iaload,
  .invokevirtual 210, .aload 2, .aload 0, .iload 3, .iconst 1, .fadd, .iaload, .invokevirtual 351, .if_icmp .eq 1299, .iconst 0, .freturn, .iinc 3 6, .goto 10, .iconst 1,
  .freturn]
def p_353 : List Nat := [0, 3, 4, 7, 8, 11, 12, 15, 16, 17, 18, 18, 19, 20, 21, 23, 24, 27, 28, 29, 30, 32, 33, 240, 241, 242, 243, 244, 245, 246,
  247, 248, 249, 250, 251, 252, 253, 254, 255, 256, 257, 258, 259, 260, 261, 262, 263, 264, 265, 266, 269, 270, 271, 272, 273, 274, 275, 276, 277, 278,
  279, 280, 281, 282, 283, 284, 285, 286, 287, 288, 289, 290, 291, 292, 293, 294, 295, 298, 301, 302, 303, 304, 305, 306, 307, 308, 309, 312, 313, 314,
  315, 316, 317, 318, 321, 324, 325, 326, 327, 330, 331, 334, 337, 338, 339, 340, 343, 344, 347, 350, 351, 352, 353, 354, 355, 356, 357, 358, 359, 360,
  361, 362, 363, 366, 367, 368, 369, 370, 371, 372, 373, 374, 375, 376, 377, 380, 383, 384, 385, 386, 387, 388, 389, 390, 391, 394, 395, 396, 397, 398,
  399, 400, 403, 406, 407, 408, 409, 410, 411, 412, 413, 414, 415, 416, 417, 418, 419, 420, 421, 422, 423, 424, 425, 426, 427, 428, 429, 432, 433, 434,
  435, 436, 437, 438, 439, 440, 441, 442, 443, 444, 445, 446, 447, 448, 449, 450, 451, 452, 453, 456, 459, 460, 461, 462, 463, 464, 465, 466, 467, 468,
  469, 470, 471, 472, 475, 476, 477, 478, 479, 480, 481, 482, 483, 484, 485, 486, 489, 492, 493, 494, 495, 496, 497, 498, 499, 500, 501, 502, 503, 504,
  505, 506, 507, 508, 509, 510, 513, 514, 515, 516, 517, 518, 519, 520, 521, 522, 523, 524, 525, 526, 527, 528, 529, 532, 535, 536, 537, 538, 539, 540,
  541, 542, 543, 544, 545, 546, 547, 548, 551, 552, 553, 554, 555, 556, 557, 558, 559, 560, 561, 562, 565, 568, 569, 570, 571, 572, 573, 574, 575, 576,
  577, 578, 579, 580, 581, 584, 585, 586, 587, 588, 589, 590, 591, 592, 593, 594, 595, 598, 601, 602, 603, 604, 605, 606, 607, 608, 609, 612, 613, 614,
  615, 616, 617, 618, 621, 624, 625, 626, 627, 628, 629, 630, 631, 632, 633, 634, 635, 636, 637, 640, 641, 642, 643, 644, 645, 646, 647, 648, 649, 650,
  651, 654, 657, 658, 659, 660, 661, 662, 663, 664, 665, 666, 667, 668, 669, 670, 673, 674, 677, 678, 681, 682, 683, 684, 685, 686, 687, 688, 689, 690,
  691, 692, 695, 696, 699, 700, 703, 706, 707, 708, 709, 710, 711, 712, 713, 714, 715, 716, 717, 718, 719, 722, 723, 724, 725, 726, 727, 728, 729, 730,
  731, 732, 733, 736, 739, 740, 741, 742, 745, 746, 749, 750, 753, 754, 755, 756, 757, 758, 759, 760, 761, 764, 765, 766, 767, 768, 769, 770, 773, 774,
  777, 778, 779, 780, 781, 782, 783, 784, 785, 788, 789, 790, 791, 792, 793, 794, 797, 798, 801, 802, 803, 804, 807, 808, 811, 812, 815, 816, 817, 818,
  821, 822, 825, 828, 829, 830, 831, 832, 833, 834, 835, 836, 839, 840, 841, 842, 843, 844, 845, 848, 851, 852, 853, 854, 855, 856, 857, 858, 859, 860,
  861, 862, 863, 864, 865, 866, 867, 868, 869, 872, 873, 874, 875, 876, 877, 878, 879, 880, 881, 882, 883, 884, 885, 886, 887, 888, 891, 892, 895, 896,
  897, 898, 899, 900, 901, 902, 903, 904, 905, 906, 907, 908, 909, 910, 911, 912, 913, 914, 915, 916, 917, 918, 921, 922, 923, 924, 925, 926, 927, 928,
  929, 930, 931, 932, 933, 934, 935, 936, 937, 938, 939, 940, 941, 942, 945, 948, 949, 950, 951, 952, 953, 954, 955, 956, 959, 960, 961, 962, 963, 964,
  965, 968, 971, 972, 973, 974, 975, 976, 977, 978, 979, 982, 983, 984, 985, 986, 987, 988, 991, 994, 995, 996, 997, 998, 999, 1000, 1001, 1002, 1003, 1004,
  1005, 1006, 1007, 1010, 1011, 1012, 1013, 1014, 1015, 1016, 1017, 1018, 1019, 1020, 1021, 1024, 1027, 1028, 1029, 1030, 1031, 1032, 1033, 1034, 1035, 1036, 1037, 1038, 1039, 1040,
  1043, 1044, 1045, 1046, 1047, 1048, 1049, 1050, 1051, 1052, 1053, 1054, 1057, 1060, 1061, 1062, 1063, 1064, 1065, 1066, 1067, 1068, 1069, 1070, 1071, 1072, 1073, 1076, 1077, 1078,
  1079, 1080, 1081, 1082, 1083, 1084, 1085, 1086, 1087, 1090, 1093, 1094, 1095, 1096, 1097, 1098, 1099, 1100, 1101, 1102, 1103, 1104, 1105, 1106, 1107, 1108, 1109, 1110, 1111, 1112,
  1113, 1114, 1115, 1116, 1119, 1120, 1121, 1122, 1123, 1124, 1125, 1126, 1127, 1128, 1129, 1130, 1131, 1132, 1133, 1134, 1135, 1136, 1137, 1138, 1139, 1140, 1143, 1144, 1147, 1148,
  1149, 1150, 1151, 1152, 1153, 1154, 1155, 1156, 1157, 1158, 1159, 1160, 1161, 1162, 1163, 1164, 1165, 1166, 1167, 1168, 1169, 1170, 1171, 1172, 1173, 1174, 1175, 1178, 1179, 1180,
  1181, 1182, 1183, 1184, 1185, 1186, 1187, 1188, 1189, 1190, 1191, 1192, 1193, 1194, 1195, 1196, 1197, 1198, 1199, 1200, 1201, 1202, 1203, 1204, 1207, 1210, 1211, 1212, 1213, 1214,
  1215, 1216, 1217, 1218, 1221, 1222, 1223, 1224, 1225, 1226, 1227, 1230, 1233, 1234, 1235, 1236, 1237, 1238, 1239, 1240, 1241, 1242, 1243, 1244, 1245, 1246, 1249, 1250, 1251, 1252,
  1253, 1254, 1255, 1256, 1257, 1258, 1259, 1260, 1263, 1266, 1267, 1268, 1269, 1270, 1271, 1272, 1273, 1274, 1277, 1278, 1279, 1280, 1281, 1282, 1283, 1286, 1287, 1290, 1291, 1292,
  1293, 1294, 1295, 1296, 1297, 1298, 1301, 1302, 1303, 1304, 1305, 1306, 1307, 1310, 1313, 1314, 1315, 1316, 1317, 1318, 1319, 1320, 1321, 1324, 1325, 1326, 1327, 1328, 1329, 1330,
  1333, 1336, 1337, 1338, 1339, 1340, 1341, 1342, 1343, 1344, 1345, 1346, 1347, 1348, 1349, 1352, 1353, 1354, 1355, 1356, 1357, 1358, 1359, 1360, 1361, 1362, 1363, 1366, 1369, 1370,
  1371, 1372, 1373, 1374, 1375, 1376, 1377, 1378, 1379, 1380, 1381, 1382, 1383, 1384, 1385, 1386, 1387, 1390, 1391, 1392, 1393, 1394, 1395, 1396, 1397, 1398, 1399, 1400, 1401, 1402,
  1403, 1404, 1405, 1406, 1409, 1412, 1413, 1414, 1415, 1416, 1417, 1418, 1419, 1420, 1423, 1424, 1425, 1426, 1427, 1428, 1429, 1432, 1435, 1436, 1437, 1438, 1439, 1440, 1441, 1442,
  1443, 1444, 1445, 1446, 1447, 1448, 1449, 1450, 1451, 1452, 1453, 1454, 1455, 1456, 1457, 1458, 1461, 1462, 1463, 1464, 1465, 1466, 1467, 1468, 1469, 1470, 1471, 1472, 1473, 1474,
  1475, 1476, 1477, 1478, 1479, 1480, 1481, 1482, 1485, 1488, 1489, 1490, 1491, 1492, 1493, 1494, 1495, 1496, 1497, 1498, 1499, 1500, 1501, 1504, 1505, 1506, 1507, 1508, 1509, 1510,
  1511, 1512, 1513, 1514, 1515, 1518, 1521, 1522, 1523, 1524, 1525, 1526, 1527, 1528, 1529, 1530, 1531, 1532, 1533, 1534, 1537, 1538, 1541, 1542, 1545, 1546, 1547, 1548, 1549, 1550,
  1551, 1552, 1553, 1554, 1555, 1556, 1559, 1560, 1563, 1564, 1567, 1568, 1571, 1572, 1573, 1574, 1575, 1576, 1577, 1578, 1579, 1580, 1581, 1582, 1583, 1584, 1585, 1586, 1587, 1588,
  1589, 1592, 1593, 1596, 1597, 1600, 1601, 1602, 1603, 1604, 1605, 1606, 1607, 1608, 1609, 1610, 1611, 1612, 1613, 1614, 1615, 1616, 1619, 1620, 1623, 1624, 1627, 1630, 1631, 1632,
  1633, 1634, 1635, 1636, 1637, 1638, 1639, 1640, 1641, 1642, 1643, 1644, 1645, 1646, 1647, 1648, 1651, 1652, 1655, 1656, 1659, 1660, 1661, 1662, 1663, 1664, 1665, 1666, 1667, 1668,
  1669, 1670, 1671, 1672, 1673, 1674, 1675, 1678, 1679, 1682, 1683, 1686, 1689, 1690, 1691, 1692, 1693, 1694, 1695, 1696, 1697, 1698, 1699, 1700, 1701, 1702, 1705, 1706, 1707, 1708,
  1709, 1710, 1711, 1712, 1713, 1714, 1715, 1716, 1719, 1722, 1723, 1724, 1725, 1726, 1727, 1728, 1729, 1730, 1731, 1732, 1733, 1734, 1735, 1736, 1737, 1738, 1739, 1740, 1743, 1744,
  1745, 1746, 1747, 1748, 1749, 1750, 1751, 1752, 1753, 1754, 1755, 1756, 1757, 1758, 1759, 1762, 1765, 1766, 1767, 1768, 1769, 1770, 1771, 1772, 1773, 1776, 1777, 1778, 1779, 1780,
  1781, 1782, 1785, 1788, 1789, 1790, 1791, 1792, 1793, 1794, 1795, 1796, 1799, 1800, 1801, 1802, 1803, 1804, 1805, 1808, 1811, 1812, 1813, 1814, 1815, 1816, 1817, 1818, 1819, 1822,
  1823, 1824, 1825, 1826, 1827, 1828, 1831, 1834, 1835, 1836, 1839, 1842, 1843]
def mML : List (List aI) := [c_0, c_1, c_2, c_3, c_4, c_5, c_6, c_7, c_8, c_9, c_10, c_11, c_12, c_13, c_14, c_15, c_16, c_17, c_18, c_19, c_20, c_21, c_22, c_23,
  c_24, c_25, c_26, c_27, c_28, c_29, c_30, c_31, c_32, c_33, c_34, c_35, c_36, c_37, c_38, c_39, c_40, c_41, c_42, c_43, c_44, c_45, c_46, c_47,
  c_48, c_49, c_50, c_51, c_52, c_53, c_54, c_55, c_56, c_57, c_58, c_59, c_60, c_61, c_62, c_63, c_64, c_65, c_66, c_67, c_68, c_69, c_70, c_71,
  c_72, c_73, c_74, c_75, c_76, c_77, c_78, c_79, c_80, c_81, c_82, c_83, c_84, c_85, c_86, c_87, c_88, c_89, c_90, c_91, c_92, c_93, c_94, c_95,
  c_96, c_97, c_98, c_99, c_100, c_101, c_102, c_103, c_104, c_105, c_106, c_107, c_108, c_109, c_110, c_111, c_112, c_113, c_114, c_115, c_116, c_117, c_118, c_119,
  c_120, c_121, c_122, c_123, c_124, c_125, c_126, c_127, c_128, c_129, c_130, c_131, c_132, c_133, c_134, c_135, c_136, c_137, c_138, c_139, c_140, c_141, c_142, c_143,
  c_144, c_145, c_146, c_147, c_148, c_149, c_150, c_151, c_152, c_153, c_154, c_155, c_156, c_157, c_158, c_159, c_160, c_161, c_162, c_163, c_164, c_165, c_166, c_167,
  c_168, c_169, c_170, c_171, c_172, c_173, c_174, c_175, c_176, c_177, c_178, c_179, c_180, c_181, c_182, c_183, c_184, c_185, c_186, c_187, c_188, c_189, c_190, c_191,
  c_192, c_193, c_194, c_195, c_196, c_197, c_198, c_199, c_200, c_201, c_202, c_203, c_204, c_205, c_206, c_207, c_208, c_209, c_210, c_211, c_212, c_213, c_214, c_215,
  c_216, c_217, c_218, c_219, c_220, c_221, c_222, c_223, c_224, c_225, c_226, c_227, c_228, c_229, c_230, c_231, c_232, c_233, c_234, c_235, c_236, c_237, c_238, c_239,
  c_240, c_241, c_242, c_243, c_244, c_245, c_246, c_247, c_248, c_249, c_250, c_251, c_252, c_253, c_254, c_255, c_256, c_257, c_258, c_259, c_260, c_261, c_262, c_263,
  c_264, c_265, c_266, c_267, c_268, c_269, c_270, c_271, c_272, c_273, c_274, c_275, c_276, c_277, c_278, c_279, c_280, c_281, c_282, c_283, c_284, c_285, c_286, c_287,
  c_288, c_289, c_290, c_291, c_292, c_293, c_294, c_295, c_296, c_297, c_298, c_299, c_300, c_301, c_302, c_303, c_304, c_305, c_306, c_307, c_308, c_309, c_310, c_311,
  c_312, c_313, c_314, c_315, c_316, c_317, c_318, c_319, c_320, c_321, c_322, c_323, c_324, c_325, c_326, c_327, c_328, c_329, c_330, c_331, c_332, c_333, c_334, c_335,
  c_336, c_337, c_338, c_339, c_340, c_341, c_342, c_343, c_344, c_345, c_346, c_347, c_348, c_349, c_350, c_351, c_352, c_353]
def mPL : List (List Nat) := [p_0, p_1, p_2, p_3, p_4, p_5, p_6, p_7, p_8, p_9, p_10, p_11, p_12, p_13, p_14, p_15, p_16, p_17, p_18, p_19, p_20, p_21, p_22, p_23,
  p_24, p_25, p_26, p_27, p_28, p_29, p_30, p_31, p_32, p_33, p_34, p_35, p_36, p_37, p_38, p_39, p_40, p_41, p_42, p_43, p_44, p_45, p_46, p_47,
  p_48, p_49, p_50, p_51, p_52, p_53, p_54, p_55, p_56, p_57, p_58, p_59, p_60, p_61, p_62, p_63, p_64, p_65, p_66, p_67, p_68, p_69, p_70, p_71,
  p_72, p_73, p_74, p_75, p_76, p_77, p_78, p_79, p_80, p_81, p_82, p_83, p_84, p_85, p_86, p_87, p_88, p_89, p_90, p_91, p_92, p_93, p_94, p_95,
  p_96, p_97, p_98, p_99, p_100, p_101, p_102, p_103, p_104, p_105, p_106, p_107, p_108, p_109, p_110, p_111, p_112, p_113, p_114, p_115, p_116, p_117, p_118, p_119,
  p_120, p_121, p_122, p_123, p_124, p_125, p_126, p_127, p_128, p_129, p_130, p_131, p_132, p_133, p_134, p_135, p_136, p_137, p_138, p_139, p_140, p_141, p_142, p_143,
  p_144, p_145, p_146, p_147, p_148, p_149, p_150, p_151, p_152, p_153, p_154, p_155, p_156, p_157, p_158, p_159, p_160, p_161, p_162, p_163, p_164, p_165, p_166, p_167,
  p_168, p_169, p_170, p_171, p_172, p_173, p_174, p_175, p_176, p_177, p_178, p_179, p_180, p_181, p_182, p_183, p_184, p_185, p_186, p_187, p_188, p_189, p_190, p_191,
  p_192, p_193, p_194, p_195, p_196, p_197, p_198, p_199, p_200, p_201, p_202, p_203, p_204, p_205, p_206, p_207, p_208, p_209, p_210, p_211, p_212, p_213, p_214, p_215,
  p_216, p_217, p_218, p_219, p_220, p_221, p_222, p_223, p_224, p_225, p_226, p_227, p_228, p_229, p_230, p_231, p_232, p_233, p_234, p_235, p_236, p_237, p_238, p_239,
  p_240, p_241, p_242, p_243, p_244, p_245, p_246, p_247, p_248, p_249, p_250, p_251, p_252, p_253, p_254, p_255, p_256, p_257, p_258, p_259, p_260, p_261, p_262, p_263,
  p_264, p_265, p_266, p_267, p_268, p_269, p_270, p_271, p_272, p_273, p_274, p_275, p_276, p_277, p_278, p_279, p_280, p_281, p_282, p_283, p_284, p_285, p_286, p_287,
  p_288, p_289, p_290, p_291, p_292, p_293, p_294, p_295, p_296, p_297, p_298, p_299, p_300, p_301, p_302, p_303, p_304, p_305, p_306, p_307, p_308, p_309, p_310, p_311,
  p_312, p_313, p_314, p_315, p_316, p_317, p_318, p_319, p_320, p_321, p_322, p_323, p_324, p_325, p_326, p_327, p_328, p_329, p_330, p_331, p_332, p_333, p_334, p_335,
  p_336, p_337, p_338, p_339, p_340, p_341, p_342, p_343, p_344, p_345, p_346, p_347, p_348, p_349, p_350, p_351, p_352, p_353]
def mM (n : Nat) : List aI := am_nth [] mML n
def mPc (n : Nat) : List Nat := am_nth [] mPL n
def mWr (n : Nat) : Bool := Nat.beq n 85 || Nat.beq n 202 || Nat.beq n 205 || Nat.beq n 211 || Nat.beq n 261 || Nat.beq n 346
def mChk (k : Nat) : Bool := am_chkL (mB k) (mCs k) k (mLo k) (mWr k) (mPc k) (mM k) (mPc k)
