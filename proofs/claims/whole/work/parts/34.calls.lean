/-! rows of calls -/
/-- how many cells, with how many places, a method makes -/
def mCe (n : Nat) : Nat := am_nth 0 [120, 5, 0, 0, 0, 0, 0, 0, 0, 0, 18, 2, 22, 10, 9, 7, 2, 7, 4, 3, 0, 0, 0, 0, 0, 0, 0, 0, 0, 0, 0, 0, 0, 0, 0, 0, 0, 0, 0, 0,
  0, 0, 0, 0, 0, 0, 0, 0, 0, 0, 0, 0, 0, 0, 0, 0, 0, 0, 0, 0, 0, 0, 0, 0, 0, 0, 0, 0, 0, 0, 0, 0, 0, 0, 0, 0, 0, 0, 0, 0,
  0, 0, 0, 0, 0, 0, 0, 0, 0, 0, 0, 0, 0, 0, 0, 0, 0, 0, 0, 0, 0, 0, 0, 0, 0, 0, 0, 0, 0, 0, 0, 0, 0, 0, 0, 0, 0, 0, 0, 0,
  0, 0, 0, 0, 0, 0, 0, 0, 0, 0, 0, 0, 0, 0, 0, 0, 0, 0, 0, 0, 0, 0, 0, 0, 0, 0, 0, 0, 0, 0, 0, 0, 0, 0, 0, 0, 0, 0, 0, 0,
  0, 0, 0, 0, 0, 0, 0, 0, 0, 0, 0, 0, 0, 0, 0, 0, 0, 0, 0, 0, 0, 0, 0, 0, 0, 0, 0, 0, 0, 0, 0, 0, 0, 0, 0, 0, 0, 0, 0, 0,
  0, 0, 0, 0, 0, 0, 0, 0, 0, 0, 0, 0, 66, 0, 0, 0, 0, 0, 0, 0, 0, 0, 0, 0, 0, 0, 0, 0, 0, 0, 0, 0, 0, 0, 0, 0, 0, 0, 0, 0,
  0, 0, 0, 0, 0, 0, 0, 0, 0, 0, 0, 0, 0, 0, 0, 0, 0, 0, 0, 0, 0, 0, 0, 0, 0, 0, 0, 0, 0, 0, 0, 0, 0, 0, 0, 0, 0, 0, 0, 0,
  0, 0, 0, 0, 0, 0, 0, 0, 0, 0, 0, 0, 0, 0, 0, 0, 0, 0, 0, 0, 0, 0, 0, 0, 0, 0, 0, 0, 0, 0, 0, 0, 0, 0, 0, 0, 0, 0, 0, 0,
  0, 0, 0, 0, 0, 0, 0, 0, 0, 0, 0, 0, 0, 0, 0, 0, 0, 0, 0, 0, 0, 0, 0, 0, 0, 0, 0, 0, 0, 0, 0, 0, 0] n
def mSl (n : Nat) : Nat := am_nth 0 [24550, 3224, 0, 0, 0, 0, 0, 0, 0, 0, 1735, 800, 2220, 240, 4080, 3600, 4240, 313, 4112, 158, 0, 0, 0, 0, 0, 0, 0, 0, 0, 0, 0, 0, 0, 0, 0, 0, 0, 0, 0, 0,
  0, 0, 0, 0, 0, 0, 0, 0, 0, 0, 0, 0, 0, 0, 0, 0, 0, 0, 0, 0, 0, 0, 0, 0, 0, 0, 0, 0, 0, 0, 0, 0, 0, 0, 0, 0, 0, 0, 0, 0,
  0, 0, 0, 0, 0, 0, 0, 0, 0, 0, 0, 0, 0, 0, 0, 0, 0, 0, 0, 0, 0, 0, 0, 0, 0, 0, 0, 0, 0, 0, 0, 0, 0, 0, 0, 0, 0, 0, 0, 0,
  0, 0, 0, 0, 0, 0, 0, 0, 0, 0, 0, 0, 0, 0, 0, 0, 0, 0, 0, 0, 0, 0, 0, 0, 0, 0, 0, 0, 0, 0, 0, 0, 0, 0, 0, 0, 0, 0, 0, 0,
  0, 0, 0, 0, 0, 0, 0, 0, 0, 0, 0, 0, 0, 0, 0, 0, 0, 0, 0, 0, 0, 0, 0, 0, 0, 0, 0, 0, 0, 0, 0, 0, 0, 0, 0, 0, 0, 0, 0, 0,
  0, 0, 0, 0, 0, 0, 0, 0, 0, 0, 0, 0, 13641, 0, 0, 0, 0, 0, 0, 0, 0, 0, 0, 0, 0, 0, 0, 0, 0, 0, 0, 0, 0, 0, 0, 0, 0, 0, 0, 0,
  0, 0, 0, 0, 0, 0, 0, 0, 0, 0, 0, 0, 0, 0, 0, 0, 0, 0, 0, 0, 0, 0, 0, 0, 0, 0, 0, 0, 0, 0, 0, 0, 0, 0, 0, 0, 0, 0, 0, 0,
  0, 0, 0, 0, 0, 0, 0, 0, 0, 0, 0, 0, 0, 0, 0, 0, 0, 0, 0, 0, 0, 0, 0, 0, 0, 0, 0, 0, 0, 0, 0, 0, 0, 0, 0, 0, 0, 0, 0, 0,
  0, 0, 0, 0, 0, 0, 0, 0, 0, 0, 0, 0, 0, 0, 0, 0, 0, 0, 0, 0, 0, 0, 0, 0, 0, 0, 0, 0, 0, 0, 0, 0, 0] n
theorem mcl : ∀ n, n < 352 → (mY n).cls = cN (mCs n) ∧ mCs n < 21 := by decide +kernel
theorem mmh : ∀ n, n < 352 → (mY n).cls ≠ "java/lang/invoke/MethodHandle" ∧ (mY n).cls ≠ "java/lang/invoke/VarHandle" := by decide +kernel
theorem mpl : ∀ n, n < 352 → Jvm.plainName (mY n).cls = true := by decide +kernel
theorem goodSub {ws : List Cond} (h : ∀ w ∈ ws, w ∈ lw_g) : GoodIn lw_g ws := fun w hw => ⟨h w hw, good_of_word (List.mem_filter.mp (h w hw)).2⟩
/-- calls by their entries: virtual; static; constructors; static and constructors of a nest mate's private ones -/
def tMV : List (Nat × Nat × Nat) := [(10, 29, 2), (14, 335, 3), (10, 35, 4), (14, 492, 5), (13, 13, 20), (11, 93, 21), (11, 97, 22), (13, 18, 23),
  (13, 23, 24), (11, 104, 25), (6, 39, 26), (10, 52, 27), (10, 56, 29), (10, 69, 31), (10, 75, 33), (10, 78, 34),
  (10, 83, 35), (14, 633, 36), (14, 505, 2), (6, 42, 40), (3, 74, 41), (3, 80, 42), (6, 63, 43), (6, 67, 44),
  (6, 87, 45), (6, 80, 46), (6, 84, 47), (6, 110, 48), (6, 169, 49), (6, 165, 50), (6, 113, 51), (6, 126, 52),
  (6, 90, 53), (6, 93, 54), (6, 141, 55), (6, 159, 56), (6, 100, 57), (6, 182, 58), (6, 198, 59), (6, 185, 60),
  (6, 195, 42), (6, 189, 61), (6, 201, 62), (6, 205, 63), (6, 192, 64), (11, 111, 65), (3, 92, 66), (3, 96, 67),
  (3, 102, 68), (3, 99, 69), (11, 115, 70), (11, 118, 72), (13, 28, 74), (13, 32, 75), (11, 128, 76), (11, 147, 77),
  (13, 37, 78), (11, 151, 79), (13, 41, 80), (11, 163, 83), (3, 115, 84), (3, 119, 85), (13, 46, 87), (11, 167, 88),
  (5, 68, 85), (13, 50, 89), (11, 171, 90), (11, 174, 91), (11, 180, 92), (11, 377, 93), (13, 55, 94), (13, 59, 95),
  (13, 63, 96), (11, 184, 97), (11, 187, 98), (13, 67, 99), (11, 200, 100), (13, 71, 101), (13, 76, 102), (11, 206, 103),
  (13, 81, 104), (13, 86, 105), (11, 218, 106), (5, 86, 107), (11, 221, 108), (5, 93, 77), (5, 97, 109), (5, 101, 110),
  (5, 114, 83), (11, 224, 111), (5, 121, 88), (13, 91, 112), (11, 228, 113), (13, 95, 114), (11, 232, 115), (5, 143, 106),
  (5, 150, 108), (5, 153, 116), (5, 132, 113), (5, 139, 111), (13, 99, 117), (13, 103, 118), (13, 107, 119), (11, 241, 120),
  (11, 245, 121), (0, 62, 122), (0, 90, 123), (0, 77, 124), (0, 114, 91), (0, 105, 77), (0, 126, 83), (0, 108, 110),
  (0, 70, 126), (0, 130, 106), (0, 137, 107), (0, 150, 116), (0, 74, 127), (0, 154, 128), (0, 158, 129), (13, 112, 130),
  (11, 253, 131), (13, 116, 132), (11, 256, 133), (2, 42, 134), (2, 30, 135), (2, 79, 91), (2, 85, 136), (2, 92, 88),
  (2, 102, 77), (2, 105, 83), (2, 89, 137), (2, 34, 138), (2, 52, 139), (13, 120, 140), (11, 259, 134), (13, 124, 141),
  (11, 262, 142), (13, 128, 143), (11, 265, 144), (8, 51, 145), (8, 93, 146), (8, 76, 147), (8, 85, 142), (8, 64, 149),
  (8, 110, 150), (8, 114, 151), (8, 67, 152), (13, 132, 153), (13, 136, 154), (11, 277, 155), (11, 281, 156), (5, 167, 157),
  (13, 141, 158), (13, 145, 159), (11, 291, 161), (1, 34, 162), (1, 75, 106), (1, 84, 77), (1, 88, 109), (1, 92, 116),
  (1, 48, 163), (1, 67, 164), (1, 96, 165), (1, 71, 166), (1, 99, 167), (13, 149, 168), (13, 153, 169), (11, 298, 170),
  (13, 157, 171), (11, 301, 172), (5, 156, 170), (13, 161, 173), (11, 307, 175), (7, 53, 176), (7, 86, 177), (7, 73, 178),
  (7, 63, 179), (7, 67, 180), (13, 165, 181), (13, 169, 182), (11, 316, 183), (13, 173, 184), (13, 177, 185), (11, 325, 186),
  (11, 328, 187), (9, 75, 188), (9, 79, 189), (13, 181, 190), (11, 332, 191), (13, 185, 192), (11, 339, 193), (13, 190, 195),
  (11, 349, 196), (11, 380, 197), (13, 195, 198), (13, 199, 199), (11, 353, 200), (13, 203, 203), (11, 357, 204), (5, 174, 200),
  (13, 207, 206), (11, 363, 208), (13, 212, 209), (13, 216, 210), (13, 17, 215), (12, 225, 216), (13, 22, 217), (13, 27, 218),
  (12, 284, 219), (12, 241, 220), (12, 245, 221), (12, 256, 224), (12, 278, 225), (12, 302, 226), (12, 275, 227), (12, 308, 228),
  (12, 281, 229), (12, 327, 230), (12, 320, 231), (12, 323, 232), (12, 331, 233), (12, 335, 234), (12, 311, 235), (12, 314, 236),
  (12, 339, 237), (12, 317, 238), (12, 355, 239), (12, 358, 240), (12, 352, 241), (12, 361, 242), (12, 364, 243), (12, 348, 244),
  (12, 345, 245), (12, 305, 246), (13, 31, 247), (13, 36, 248), (12, 387, 249), (13, 40, 251), (12, 390, 252), (12, 393, 253),
  (13, 45, 254), (12, 402, 257), (12, 375, 258), (12, 378, 260), (12, 381, 261), (13, 49, 263), (12, 406, 264), (13, 54, 265),
  (12, 418, 266), (12, 421, 267), (12, 412, 268), (12, 415, 269), (13, 58, 270), (13, 62, 271), (13, 66, 272), (12, 424, 273),
  (13, 70, 274), (13, 75, 275), (13, 80, 276), (12, 427, 277), (13, 85, 278), (13, 90, 280), (12, 430, 281), (12, 450, 282),
  (12, 453, 283), (12, 433, 284), (12, 436, 285), (13, 94, 286), (12, 457, 287), (13, 98, 288), (12, 460, 289), (13, 102, 290),
  (12, 464, 291), (12, 467, 292), (13, 106, 293), (12, 473, 294), (13, 111, 295), (12, 483, 296), (12, 476, 297), (13, 115, 298),
  (13, 119, 299), (12, 486, 300), (12, 489, 301), (13, 123, 302), (13, 127, 303), (12, 492, 304), (13, 131, 305), (12, 512, 306),
  (12, 498, 307), (12, 495, 308), (12, 509, 309), (13, 135, 310), (12, 515, 311), (13, 140, 312), (12, 522, 313), (12, 518, 314),
  (13, 144, 315), (13, 148, 316), (12, 532, 317), (12, 526, 318), (12, 529, 319), (13, 152, 320), (13, 156, 321), (12, 535, 322),
  (13, 160, 323), (13, 164, 324), (12, 549, 325), (12, 543, 326), (12, 546, 327), (13, 168, 328), (13, 172, 329), (13, 176, 330),
  (13, 180, 331), (12, 555, 332), (12, 558, 333), (12, 561, 334), (13, 184, 335), (12, 564, 336), (13, 189, 337), (13, 194, 339),
  (12, 574, 340), (13, 198, 341), (13, 202, 342), (12, 588, 343), (12, 585, 344), (13, 206, 347), (13, 211, 348), (12, 591, 349),
  (13, 215, 350), (13, 219, 351)]
def tMS : List (Nat × Nat × Nat) := [(14, 495, 6), (15, 9, 7), (14, 1059, 8), (10, 39, 9), (10, 62, 28), (10, 66, 30), (10, 72, 32), (14, 637, 37),
  (15, 88, 38), (15, 95, 39), (9, 52, 71), (5, 51, 73), (11, 157, 81), (11, 160, 82), (0, 120, 125), (2, 46, 71),
  (8, 55, 148), (8, 61, 71), (11, 288, 160), (11, 304, 174), (7, 80, 71), (11, 342, 194), (5, 171, 201), (5, 184, 202),
  (5, 178, 205), (11, 360, 207), (11, 372, 211), (12, 218, 213), (12, 234, 214), (12, 249, 222), (12, 253, 223), (12, 368, 250),
  (12, 396, 255), (12, 399, 256), (12, 372, 259), (12, 384, 262), (12, 443, 279), (12, 567, 338), (12, 582, 345), (12, 579, 346)]
def tMI : List (Nat × Nat × Nat) := [(13, 9, 0), (11, 9, 1), (11, 25, 12), (11, 45, 14), (11, 54, 15), (11, 63, 16), (11, 70, 17), (11, 77, 18),
  (11, 84, 19), (13, 12, 212)]
def tMT : List (Nat × Nat × Nat) := [(3, 105, 86), (5, 72, 86), (9, 83, 194)]
def tMJ : List (Nat × Nat × Nat) := [(11, 18, 10), (3, 50, 11), (6, 11, 10), (11, 34, 13)]
theorem tMV_ok : ∀ q ∈ tMV, Cond.methodLink (cN q.1) q.2.1 (mY q.2.2) ∈ lw_tbl := am_tab tMV [191, 3, 5, 3, 611, 3, 3, 3, 3, 3, 3, 3, 6, 6, 6, 3, 4, 3, 3, 50, 3, 3, 3, 3, 3, 3, 3, 3, 3, 3,
  3, 3, 3, 3, 3, 3, 3, 3, 3, 3, 3, 0, 3, 3, 3, 3, 6, 4, 3, 3, 3, 6, 6, 3, 3, 3, 3, 3, 3, 9,
  3, 6, 8, 3, 3, 1, 3, 3, 3, 3, 3, 3, 3, 3, 3, 3, 3, 3, 3, 3, 3, 5, 5, 3, 3, 3, 0, 3, 3, 0,
  3, 2, 3, 3, 3, 3, 0, 0, 3, 0, 0, 3, 3, 3, 3, 3, 3, 3, 4, 3, 0, 0, 0, 3, 0, 0, 0, 3, 3, 3,
  3, 3, 3, 3, 3, 3, 0, 3, 0, 0, 0, 3, 4, 4, 3, 0, 3, 3, 3, 3, 6, 3, 3, 7, 4, 3, 3, 3, 3, 3,
  3, 5, 3, 3, 6, 3, 3, 0, 0, 0, 0, 5, 3, 3, 3, 3, 3, 4, 3, 3, 3, 0, 6, 3, 5, 3, 6, 3, 3, 3,
  3, 3, 3, 3, 3, 3, 3, 3, 3, 3, 3, 7, 3, 3, 3, 3, 3, 10, 3, 3, 6, 6, 4, 3, 293, 3, 3, 3, 3, 3,
  3, 9, 3, 3, 3, 3, 3, 3, 3, 3, 3, 3, 3, 3, 3, 3, 3, 3, 3, 3, 3, 3, 3, 3, 3, 3, 3, 6, 3, 3,
  3, 9, 3, 6, 3, 6, 3, 3, 3, 3, 3, 3, 3, 3, 3, 3, 3, 3, 3, 3, 3, 7, 4, 4, 3, 3, 3, 4, 3, 3,
  3, 3, 3, 3, 3, 3, 3, 3, 3, 3, 3, 3, 3, 3, 3, 3, 3, 3, 3, 3, 4, 3, 3, 3, 3, 3, 3, 3, 3, 3,
  3, 3, 3, 3, 4, 3, 3, 3, 3, 3, 3, 3, 3, 3, 3, 3, 3, 3, 3, 6, 3, 3, 3, 3, 3, 10, 3, 3, 3, 3] (fun q => Cond.methodLink (cN q.1) q.2.1 (mY q.2.2)) (by decide +kernel)
theorem tMS_ok : ∀ q ∈ tMS, Cond.methodLink (cN q.1) q.2.1 (mY q.2.2) ∈ lw_tbl := am_tab tMS [209, 2, 4, 21, 609, 6, 6, 20, 2, 8, 166, 6, 30, 2, 191, 64, 45, 2, 47, 62, 11, 74, 24, 2, 12, 9, 15, 11, 2, 302,
  2, 106, 18, 2, 10, 10, 67, 239, 26, 2] (fun q => Cond.methodLink (cN q.1) q.2.1 (mY q.2.2)) (by decide +kernel)
theorem tMI_ok : ∀ q ∈ tMI, Cond.methodLink (cN q.1) q.2.1 (mY q.2.2) ∈ lw_tbl := am_tab tMI [178, 7, 227, 129, 46, 58, 24, 48, 31, 926] (fun q => Cond.methodLink (cN q.1) q.2.1 (mY q.2.2)) (by decide +kernel)
theorem tMT_ok : ∀ q ∈ tMT, Cond.methodLinkNest (cN q.1) q.2.1 (mY q.2.2) "WakeHouse" ∈ lw_tbl := am_tab tMT [1122, 13, 468] (fun q => Cond.methodLinkNest (cN q.1) q.2.1 (mY q.2.2) "WakeHouse") (by decide +kernel)
theorem tMJ_ok : ∀ q ∈ tMJ, Cond.methodLinkNest (cN q.1) q.2.1 (mY q.2.2) "WakeHouse" ∈ lw_tbl := am_tab tMJ [278, 5, 134, 50] (fun q => Cond.methodLinkNest (cN q.1) q.2.1 (mY q.2.2) "WakeHouse") (by decide +kernel)
def mIm : List Nat := [0, 1, 2, 3, 4, 5, 10, 11, 12, 13, 14, 15, 16, 17, 18, 19, 20, 21, 22, 23, 24, 25, 26, 27, 29, 31, 33, 34, 35, 36,
  40, 41, 42, 43, 44, 45, 46, 47, 48, 49, 50, 51, 52, 53, 54, 55, 56, 57, 58, 59, 60, 61, 62, 63, 64, 65, 66, 67, 68, 69,
  70, 72, 74, 75, 76, 77, 78, 79, 80, 83, 84, 85, 87, 88, 89, 90, 91, 92, 93, 94, 95, 96, 97, 98, 99, 100, 101, 102, 103, 104,
  105, 106, 107, 108, 109, 110, 111, 112, 113, 114, 115, 116, 117, 118, 119, 120, 121, 122, 123, 124, 126, 127, 128, 129, 130, 131, 132, 133, 134, 135,
  136, 137, 138, 139, 140, 141, 142, 143, 144, 145, 146, 147, 149, 150, 151, 152, 153, 154, 155, 156, 157, 158, 159, 161, 162, 163, 164, 165, 166, 167,
  168, 169, 170, 171, 172, 173, 175, 176, 177, 178, 179, 180, 181, 182, 183, 184, 185, 186, 187, 188, 189, 190, 191, 192, 193, 195, 196, 197, 198, 199,
  200, 203, 204, 206, 208, 209, 210, 212, 215, 216, 217, 218, 219, 220, 221, 224, 225, 226, 227, 228, 229, 230, 231, 232, 233, 234, 235, 236, 237, 238,
  239, 240, 241, 242, 243, 244, 245, 246, 247, 248, 249, 251, 252, 253, 254, 257, 258, 260, 261, 263, 264, 265, 266, 267, 268, 269, 270, 271, 272, 273,
  274, 275, 276, 277, 278, 280, 281, 282, 283, 284, 285, 286, 287, 288, 289, 290, 291, 292, 293, 294, 295, 296, 297, 298, 299, 300, 301, 302, 303, 304,
  305, 306, 307, 308, 309, 310, 311, 312, 313, 314, 315, 316, 317, 318, 319, 320, 321, 322, 323, 324, 325, 326, 327, 328, 329, 330, 331, 332, 333, 334,
  335, 336, 337, 339, 340, 341, 342, 343, 344, 347, 348, 349, 350, 351]
theorem mIm_ok : ∀ q ∈ mIm, Cond.instanceMethod (mY q) ∈ lw_tbl := am_tab mIm [179, 7, 4, 3, 5, 3, 72, 5, 129, 55, 73, 46, 58, 24, 48, 31, 60, 3, 3, 3, 3, 3, 3, 4, 6, 6, 6, 3, 3, 3,
  54, 4, 2, 4, 3, 3, 3, 3, 3, 3, 3, 3, 3, 3, 3, 3, 3, 3, 3, 3, 3, 4, 3, 3, 3, 2, 6, 5, 3, 3,
  2, 6, 6, 3, 4, 2, 3, 4, 2, 9, 3, 6, 8, 3, 5, 4, 2, 4, 2, 3, 3, 3, 4, 2, 3, 3, 3, 3, 3, 3,
  5, 5, 3, 3, 4, 3, 4, 6, 3, 3, 3, 5, 5, 3, 3, 4, 2, 4, 3, 3, 11, 6, 3, 3, 2, 3, 3, 3, 3, 4,
  4, 6, 3, 4, 3, 4, 3, 3, 3, 4, 6, 3, 11, 4, 3, 3, 2, 3, 4, 2, 6, 2, 3, 6, 4, 7, 5, 3, 3, 3,
  2, 3, 4, 3, 3, 4, 6, 4, 5, 3, 6, 3, 2, 3, 3, 3, 3, 4, 2, 4, 3, 2, 3, 3, 3, 7, 4, 3, 2, 3,
  3, 10, 3, 10, 6, 4, 3, 11, 281, 4, 2, 3, 4, 3, 3, 9, 3, 3, 3, 3, 3, 3, 3, 3, 3, 3, 3, 3, 3, 3,
  3, 3, 3, 3, 3, 3, 3, 3, 2, 3, 4, 5, 4, 3, 2, 10, 3, 6, 3, 5, 4, 2, 4, 3, 3, 3, 2, 3, 3, 4,
  2, 3, 3, 4, 2, 7, 5, 4, 3, 3, 3, 3, 4, 2, 4, 2, 4, 3, 2, 4, 2, 4, 3, 2, 3, 4, 3, 2, 3, 4,
  2, 4, 3, 3, 4, 2, 4, 2, 4, 3, 2, 3, 4, 3, 3, 2, 3, 4, 3, 3, 4, 3, 3, 2, 3, 3, 3, 4, 3, 3,
  2, 4, 2, 6, 4, 2, 3, 4, 3, 9, 3, 4, 2, 3] (fun q => Cond.instanceMethod (mY q)) (by decide +kernel)
def mSe : List Nat := [27, 29, 31, 33, 34, 41, 43, 44, 45, 46, 47, 48, 49, 50, 51, 52, 53, 54, 55, 56, 57, 58, 59, 60, 61, 62, 63, 64, 67, 68,
  69, 76, 79, 90, 92, 97, 120, 122, 123, 124, 126, 127, 128, 129, 135, 136, 137, 138, 139, 145, 146, 147, 149, 150, 151, 152, 155, 157, 162, 163,
  164, 165, 166, 167, 176, 177, 178, 179, 180, 186, 188, 189, 196, 197, 216, 219, 220, 221, 224, 225, 226, 227, 228, 229, 230, 231, 232, 233, 234, 235,
  236, 237, 238, 239, 240, 241, 242, 243, 244, 245, 246, 249, 252, 253, 257, 258, 260, 261, 264, 266, 267, 268, 269, 273, 277, 281, 282, 283, 284, 285,
  287, 289, 291, 292, 294, 296, 297, 300, 301, 304, 306, 307, 308, 309, 311, 313, 314, 317, 318, 319, 322, 325, 326, 327, 332, 333, 334, 336, 340, 343,
  344, 349, 2, 3, 4, 5, 20, 21, 22, 23, 24, 25, 26, 35, 36, 40, 42, 65, 66, 70, 72, 74, 75, 77, 78, 80, 83, 84, 85, 87,
  88, 89, 91, 93, 94, 95, 96, 98, 99, 100, 101, 102, 103, 104, 105, 106, 107, 108, 109, 110, 111, 112, 113, 114, 115, 116, 117, 118, 119, 121,
  130, 131, 132, 133, 134, 140, 141, 142, 143, 144, 153, 154, 156, 158, 159, 161, 168, 169, 170, 171, 172, 173, 175, 181, 182, 183, 184, 185, 187, 190,
  191, 192, 193, 195, 198, 199, 200, 203, 204, 206, 208, 209, 210, 215, 217, 218, 247, 248, 251, 254, 263, 265, 270, 271, 272, 274, 275, 276, 278, 280,
  286, 288, 290, 293, 295, 298, 299, 302, 303, 305, 310, 312, 315, 316, 320, 321, 323, 324, 328, 329, 330, 331, 335, 337, 339, 341, 342, 347, 348, 350,
  351]
theorem mSe_ok : ∀ q ∈ mSe, Cond.selects (cN (mCs q)) (mY q) (mY q) ∈ lw_tbl := am_tab mSe [0, 0, 0, 0, 0, 0, 0, 0, 0, 0, 0, 0, 0, 0, 0, 0, 0, 0, 0, 0, 0, 0, 0, 0, 0, 0, 0, 0, 0, 0,
  0, 0, 0, 0, 0, 0, 0, 0, 0, 0, 0, 0, 0, 0, 0, 0, 0, 0, 0, 0, 0, 0, 0, 0, 0, 0, 0, 0, 0, 0,
  0, 0, 0, 0, 0, 0, 0, 0, 0, 0, 0, 0, 0, 0, 0, 0, 0, 0, 0, 0, 0, 0, 0, 0, 0, 0, 0, 0, 0, 0,
  0, 0, 0, 0, 0, 0, 0, 0, 0, 0, 0, 0, 0, 0, 0, 0, 0, 0, 0, 0, 0, 0, 0, 0, 0, 0, 0, 0, 0, 0,
  0, 0, 0, 0, 0, 0, 0, 0, 0, 0, 0, 0, 0, 0, 0, 0, 0, 0, 0, 0, 0, 0, 0, 0, 0, 0, 0, 0, 0, 0,
  0, 0, 41, 3, 5, 3, 611, 3, 3, 3, 3, 3, 3, 33, 3, 54, 7, 92, 6, 16, 6, 6, 3, 7, 3, 7, 9, 3, 6, 8,
  3, 5, 7, 7, 3, 3, 3, 7, 3, 3, 3, 3, 3, 3, 5, 5, 3, 3, 4, 3, 4, 6, 3, 3, 3, 5, 5, 3, 3, 7,
  42, 3, 3, 3, 3, 29, 4, 3, 3, 3, 43, 3, 7, 9, 3, 6, 33, 3, 4, 3, 3, 4, 6, 28, 3, 3, 3, 3, 7, 11,
  3, 3, 3, 7, 11, 3, 3, 10, 3, 10, 6, 4, 3, 293, 7, 3, 113, 3, 10, 11, 31, 7, 19, 3, 3, 7, 3, 3, 7, 7,
  26, 7, 7, 11, 7, 11, 3, 11, 3, 7, 20, 7, 11, 3, 15, 3, 8, 3, 15, 3, 3, 3, 15, 7, 6, 7, 3, 18, 3, 7,
  3] (fun q => Cond.selects (cN (mCs q)) (mY q) (mY q)) (by decide +kernel)
def mSt : List Nat := [6, 7, 8, 9, 28, 30, 32, 37, 38, 39, 71, 73, 81, 82, 86, 125, 148, 160, 174, 194, 201, 202, 205, 207, 211, 213, 214, 222, 223, 250,
  255, 256, 259, 262, 279, 338, 345, 346]
theorem mSt_ok : ∀ q ∈ mSt, Cond.static (mY q) ∈ lw_tbl := am_tab mSt [210, 2, 4, 21, 609, 6, 6, 20, 2, 8, 166, 6, 30, 2, 17, 173, 110, 50, 62, 83, 27, 2, 12, 9, 15, 11, 2, 302, 2, 106,
  18, 2, 10, 10, 67, 239, 26, 2] (fun q => Cond.static (mY q)) (by decide +kernel)
theorem tMV_id : ∀ q ∈ tMV, q.2.2 < 352 ∧ q.2.2 ∈ mIm ∧ q.2.2 ∈ mSe ∧ (parseMethodDescriptor (mY q.2.2).desc).map (fun d => d.parameters.length) = some (mNa q.2.2 - 1) ∧ mCe q.2.2 = 0 ∧ mSl q.2.2 = 0 := by decide +kernel
theorem tMS_id : ∀ q ∈ tMS, q.2.2 < 352 ∧ q.2.2 ∈ mSt ∧ (parseMethodDescriptor (mY q.2.2).desc).map (fun d => d.parameters.length) = some (mNa q.2.2) ∧ mCe q.2.2 = 0 ∧ mSl q.2.2 = 0 := by decide +kernel
theorem tMT_id : ∀ q ∈ tMT, q.2.2 < 352 ∧ q.2.2 ∈ mSt ∧ (parseMethodDescriptor (mY q.2.2).desc).map (fun d => d.parameters.length) = some (mNa q.2.2) ∧ mCe q.2.2 = 0 ∧ mSl q.2.2 = 0 := by decide +kernel
theorem tMI_id : ∀ q ∈ tMI, q.2.2 < 352 ∧ q.2.2 ∈ mIm ∧ (mY q.2.2).name = "<init>" ∧ (parseMethodDescriptor (mY q.2.2).desc).map (fun d => d.parameters.length) = some (mNa q.2.2 - 1) ∧ mR q.2.2 = none := by decide +kernel
theorem tMJ_id : ∀ q ∈ tMJ, q.2.2 < 352 ∧ q.2.2 ∈ mIm ∧ (mY q.2.2).name = "<init>" ∧ (parseMethodDescriptor (mY q.2.2).desc).map (fun d => d.parameters.length) = some (mNa q.2.2 - 1) ∧ mR q.2.2 = none := by decide +kernel
/-- a method's start -/
def aRU (dC : Nat → ClassId) (dI : Nat → Nat → Nat) (ct : Nat → ClassId) (ad : Nat → Nat) (S : aS) (U : State) : Prop :=
  U.heap.size = ad 9 + (S.1.length - 9) ∧ va_P (dC, dI) vwCl (am_w ftab ct ad S) U.heap ∧ va_K (dC, dI) vwCl (am_ts ct) U ∧ XF ad S U U.heap ∧ XN U
/-- a method's end -/
def aQc (dC : Nat → ClassId) (dI : Nat → Nat → Nat) (ct : Nat → ClassId) (ad : Nat → Nat) (S : aS) (v : Option aV) (S2 : aS) : Array Value → State → Outcome → State → Prop := fun _ st oc t =>
  oc = .returned (v.map (cv ad)) ∧ va_P (dC, dI) vwCl (am_w ftab ct ad S2) t.heap ∧ va_F (am_A ad) st t ∧ ok_h ftab S2 ∧ (∀ x, v = some x → ok_v x) ∧ ∀ r, r < 9 → am_nth am_o0 S2.1 r = am_nth am_o0 S.1 r ∧ S2.2 r = S.2 r
def aWs (k : Nat) : List Cond := Cond.code (mY k) (mB k) (mLo k) (mR k) :: lw_g
def aRm (k : Nat) : Room := { frames := mFr k, cells := mCe k, slots := mSl k, locals := mWd k }
/-- a method's contract -/
def aM (l : Launch) (dC : Nat → ClassId) (dI : Nat → Nat → Nat) (ct : Nat → ClassId) (ad : Nat → Nat) (k : Nat) (as : List aV) (S : aS) (v : Option aV) (S2 : aS) : Prop :=
  Met l (mY k) (aWs k) (aRm k) (va_Pc (as.map (cv ad)) (aRU dC dI ct ad S)) (aQc dC dI ct ad S v S2) (mCe k) (mSl k) (am_A ad)
theorem aWs_in {k : Nat} (h : k < 352) : ∀ w ∈ aWs k, w ∈ lw_g := by
  intro w hw
  rcases List.mem_cons.mp hw with rfl | hw
  · exact List.mem_filter.mpr ⟨mC_ok h, rfl⟩
  · exact hw
theorem aRU_blind {dC : Nat → ClassId} {dI : Nat → Nat → Nat} {ct : Nat → ClassId} {ad : Nat → Nat} {S : aS} {av : List Value} : FrameBlind (va_Pc av (aRU dC dI ct ad S)) := by
  intro a U g mk h
  obtain ⟨h1, h2, h3, h4, h5, h6⟩ := h
  exact ⟨h1, h2, h3, va_K.moved (u := U) (U := U.calling g mk a) (Vm.Alike.refl U.vm) h4, XF.warm (s := U) (U := U.calling g mk a) (State.WarmedH.refl U) h5, XN.warm (s := U) (U := U.calling g mk a) (State.WarmedH.refl U) h6⟩
theorem am_cat_ok (ad : Nat → Nat) : ∀ st : List aV, ((st.map (cv ad)).map fun v => v.category).sum = am_cat st
  | [] => rfl
  | v :: st => by
    have h := am_cat_ok ad st
    show (cv ad v).category + ((st.map (cv ad)).map fun v => v.category).sum = (bif am_is2 v then 2 else 1) + am_cat st
    rw [h]
    have hc := cat2 (ad := ad) v
    cases hv : am_is2 v with
    | true =>
      rw [hv] at hc
      have : (cv ad v).category = 2 := by simpa using hc
      rw [this]; rfl
    | false => rw [cat1 hv]; rfl
section S34
variable {p : Program} {l : Launch} {e : Env} {R : Room} {s : State} {m : MethodId} {args : Array Value} {below : List Frame} {meth : Method} {c : Code} {Q : State → Prop} {nL : Nat} {dC : Nat → ClassId} {dI : Nat → Nat → Nat} {ct : Nat → ClassId} {ad : Nat → Nat} {n0 z0 : Nat} {x0 : Nat → aC × (Nat → Int)}
variable {cc : ByteArray} {own pc : Nat} {ls : aL} {st : List aV} {S : aS}
theorem RR.size {H : Heap} {locs : List Loc} {cells : Nat} (hR : RR (p, l, e, R, s, m, args, below, meth, c, Q, nL, dC, dI, ct, ad, n0, z0, x0) S H locs) (hrow : am_row ad) (hsz : s.heap.size = ad 9 + (n0 - 9)) (h9 : 9 ≤ n0) (hc : cells = S.1.length - n0) (hs : H.size ≤ s.heap.size + cells) : H.size = ad 9 + (S.1.length - 9) := by
  have hn := hR.2.2.2.1.1
  have h0 := hR.2.1.1
  rcases Nat.lt_or_ge n0 S.1.length with hl | hl
  · have hw := am_w_get (ft := ftab) (ct := ct) (ad := ad) (S := S) (r := S.1.length - 1) (by omega) (by omega)
    have h1 : ad (S.1.length - 1) < H.size := (hR.1 _ _ hw).lt
    rw [hrow _ (by omega)] at h1
    omega
  · omega
/-- behind a call -/
theorem am_after {H : Heap} {locs : List Loc} {lsC : Array Slot} {stv : List Value} {v : Option aV} {S2 : aS} {a : Array Value} {mc ms : Nat} (hr : va_Run p l e R s m args below meth c H locs (S.1.length - n0) (am_sz S.1 - z0) mc ms (F0 m pc lsC stv) (st.map (cv ad)) (aQc dC dI ct ad S v S2 a) (am_A ad))
    (hR : RR (p, l, e, R, s, m, args, below, meth, c, Q, nL, dC, dI, ct, ad, n0, z0, x0) S H locs) (hl : S2.1.length = S.1.length + mc) (hz : am_sz S2.1 = am_sz S.1 + ms) (hl2 : S2.1.length ≤ n0 + R.cells) (hz2 : am_sz S2.1 ≤ z0 + R.slots)
    (k : (∀ x, v = some x → ok_v x) → ∀ (H1 : Heap) (locs1 : List Loc), RR (p, l, e, R, s, m, args, below, meth, c, Q, nL, dC, dI, ct, ad, n0, z0, x0) S2 H1 locs1 → W p l e R s m args below meth c H1 locs1 (S2.1.length - n0) (am_sz S2.1 - z0) Q (F0 m (pc + 3) lsC ((am_psh v st).map (cv ad)))) :
    W p l e R s m args below meth c H locs (S.1.length - n0) (am_sz S.1 - z0) Q (F0 m pc lsC stv) := by
  intro T hT X
  obtain ⟨v2, st₀, t, T', L, h0, X', hL, e1, e2, ⟨hv, hP2, hF2, hok2, hov, hxa⟩, stp⟩ := hr T hT X
  have hv : v2 = v.map (cv ad) := by cases hv; rfl
  subst hv
  have hn := hR.2.2.2.1.1
  have hzz := hR.2.2.2.2.1.1.1
  have hS1 : va_S (am_A ad) s.heap T'.heap (locs ++ L) := by
    obtain ⟨q1, q2⟩ := hF2
    rw [h0] at q1 q2
    refine ⟨Nat.le_trans hR.2.1.1 (by rw [e1]; exact q1), fun q w1 w2 => ?_, fun q hq => ?_⟩
    · rw [e1, q2 q (Nat.lt_of_lt_of_le w1 hR.2.1.1) w2]
      exact hR.2.1.2.1 q w1 w2
    · rcases List.mem_append.mp hq with hq | hq
      · exact hR.2.1.2.2 q hq
      · exact hL q hq
  have hR2 : RR (p, l, e, R, s, m, args, below, meth, c, Q, nL, dC, dI, ct, ad, n0, z0, x0) S2 T'.heap (locs ++ L) := by
    refine ⟨by rw [e1]; exact hP2, hS1, hok2, ⟨by omega, hl2⟩, ⟨⟨by omega, hz2⟩, fun r hr => ?_⟩, hR.2.2.2.2.2.same (fun r hr => (hxa r hr).1) (fun r hr => (hxa r hr).2)⟩
    rw [(hxa r hr).1, (hxa r hr).2]
    exact hR.2.2.2.2.1.2 r hr
  have X2 : Stand p l e R s m args below meth c T' (locs ++ L) (S2.1.length - n0) (am_sz S2.1 - z0) := by
    rw [show S2.1.length - n0 = S.1.length - n0 + mc by omega, show am_sz S2.1 - z0 = am_sz S.1 - z0 + ms by omega]
    exact X'
  obtain ⟨t2, a1, b1⟩ := k hov T'.heap (locs ++ L) hR2 T' rfl X2
  refine ⟨t2, stp t2 ?_, b1⟩
  have e3 : (am_psh v st).map (cv ad) = (v.map (cv ad)).toList ++ st.map (cv ad) := by cases v <;> rfl
  rw [e3] at a1
  exact a1
theorem ok_psh {v : Option aV} (h1 : ∀ x, v = some x → ok_v x) (h2 : ∀ x ∈ st, ok_v x) : ∀ x ∈ am_psh v st, ok_v x := by
  cases v with
  | none => exact h2
  | some x => exact ok_c.mpr ⟨h1 x rfl, h2⟩
theorem map_rev (ad : Nat → Nat) (as : List aV) : (as.map (cv ad)).reverse = as.reverse.map (cv ad) := by rw [List.map_reverse]
theorem ok_app {as : List aV} (h : ∀ x ∈ as.reverse ++ st, ok_v x) : (∀ x ∈ as, ok_v x) ∧ ∀ x ∈ st, ok_v x := ⟨fun x hx => h x (List.mem_append_left _ (List.mem_reverse.mpr hx)), fun x hx => h x (List.mem_append_right _ hx)⟩
/-- what a call leaves -/
def aLeft (G : aG) (S S2 : aS) (id : Nat) : Prop := S2.1.length = S.1.length + mCe id ∧ am_sz S2.1 = am_sz S.1 + mSl id ∧ S2.1.length ≤ an0 G + (aR G).cells ∧ am_sz S2.1 ≤ az0 G + (aR G).slots
theorem s_callV {ix id r : Nat} {as : List aV} {v : Option aV} {S2 : aS} (hF : FX (p, l, e, R, s, m, args, below, meth, c, Q, nL, dC, dI, ct, ad, n0, z0, x0) cc own) (hd : decode cc pc = .ok (.invokevirtual ix, 3)) (ht : (own, ix, id) ∈ tMV)
    (hM : ok_h ftab S → (∀ x ∈ (Sum.inr (Sum.inr r) :: as : List aV), ok_v x) → aM l dC dI ct ad id (.inr (.inr r) :: as) S v S2) (hna : as.length + 1 = mNa id) (hk : am_kd S.1 r = mNa (2000 + id)) (hkd : (mNa (2000 + id) = 10 + mCs id ∧ mCs id < 13) ∨ (mNa (2000 + id) = 30 ∧ mCs id = 14))
    (hrm : mFr id + 1 ≤ R.frames ∧ 8 + (mLo id + 11) + mWd id ≤ R.locals) (hst : am_cat st ≤ 8) (hlf : aLeft (p, l, e, R, s, m, args, below, meth, c, Q, nL, dC, dI, ct, ad, n0, z0, x0) S S2 id)
    (k : WA (p, l, e, R, s, m, args, below, meth, c, Q, nL, dC, dI, ct, ad, n0, z0, x0) (pc + 3) ls (am_psh v st) S2) : WA (p, l, e, R, s, m, args, below, meth, c, Q, nL, dC, dI, ct, ad, n0, z0, x0) pc ls (as.reverse ++ .inr (.inr r) :: st) S := by
  obtain ⟨hid, him, hse, hpd, hce, hsl⟩ := tMV_id _ ht
  obtain ⟨g1, g2, g3, g4⟩ := hlf
  intro H locs lsC hR hlv h1 h2
  obtain ⟨hx, hb, hml, hown, hts, hK, hrow, hsz, h9⟩ := hF
  obtain ⟨hoa, h2⟩ := ok_app h2
  obtain ⟨-, h2⟩ := ok_c.mp h2
  have hrc : ∃ cell : Cell, H[ad r]? = some cell ∧ cell.vm.isStatics = false ∧ s.vm.findClass (cN (mCs id)) = some cell.cls := by
    rcases hkd with ⟨e1, e2⟩ | ⟨e1, e2⟩
    · obtain ⟨r9, rc, rl⟩ := kd_w (hk.trans e1) (by omega) (by
        have : ∀ c, c < 13 → am_xk (10 + c) = false := by decide
        exact this _ e2)
      have hw := am_w_get (ft := ftab) (ct := ct) (ad := ad) (S := S) r9 rl
      rw [am_e_o rc] at hw
      exact va_recv hK hR.1 (cls_at _ e2) hw
    · obtain ⟨r9, -, -⟩ := kd_x (hk.trans e1) (by decide)
      obtain ⟨cell, c1, c2, c3, c4⟩ := (((hR.2.2.2.2.2.1 r r9).2.2.2 (hk.trans e1)).1).kept hR.2.1.2.1
      refine ⟨cell, c1, c2, ?_⟩
      rw [e2]
      exact c3
  have hr0 : r ≠ 0 ∧ r ≠ 8 := by
    rcases hkd with ⟨e1, e2⟩ | ⟨e1, e2⟩
    · obtain ⟨r9, rc, rl⟩ := kd_w (hk.trans e1) (by omega) (by
        have : ∀ c, c < 13 → am_xk (10 + c) = false := by decide
        exact this _ e2)
      exact ⟨by omega, by omega⟩
    · obtain ⟨r9, a, b⟩ := kd_x (hk.trans e1) (by decide)
      exact ⟨a, b⟩
  show W p l e R s m args below meth c H locs (S.1.length - n0) (am_sz S.1 - z0) Q (F0 m pc lsC ((as.reverse ++ .inr (.inr r) :: st).map (cv ad)))
  refine W_sz (fun hs => ?_)
  have hHs := RR.size hR hrow hsz h9 rfl hs
  rw [List.map_append, List.map_cons, ← map_rev, cv_ref hr0.1 hr0.2]
  have hMM := hM hR.2.2.1 (ok_c.mpr ⟨trivial, hoa⟩)
  unfold aM at hMM
  rw [List.map_cons, cv_ref hr0.1 hr0.2] at hMM
  have cw : CallW R s args (cN own) (cN (mCs id)) ix (mY id) (mB id) (mLo id) (mR id) (aWs id) (aRm id) (mCe id) (mSl id) (mNa id - 1) := by
    refine ⟨callB_of (ws' := lw_g) _ (use_g hts) (goodSub (aWs_in hid)) rfl rfl rfl (hts _ (by rw [(mcl id hid).1]; exact ini_ok _ (ini_all _ (mcl id hid).2)) rfl) (hts _ (tMV_ok _ ht) rfl) ⟨(mmh id hid).1, (mmh id hid).2, hpd⟩ hrm, hts _ (mIm_ok _ him) rfl, hts _ (mSe_ok _ hse) rfl⟩
  refine am_after (va_runV (As := as.map (cv ad)) (rest := st.map (cv ad)) ⟨hx, hb, hml, hown, use_g hts⟩ hMM cw ⟨aRU_blind, hrc, fun U hU hW => ⟨rfl, by rw [hU]; exact hHs, by rw [hU]; exact hR.1, va_K.moved hW.alike hK, ?_, (XN.ofU hts).warm hW⟩⟩ rfl (by rw [List.length_map]; show as.length = mNa id - 1; omega) hlv.1 rfl (lv_room (by rw [am_cat_ok]; exact hst)) hd ⟨?_, ?_⟩) hR g1 g2 g3 g4 (fun hov H1 locs1 hR1 => k H1 locs1 lsC hR1 hlv h1 (ok_psh hov h2))
  · rw [hU]
    exact (hR.2.2.2.2.2.kept hR.2.1.2.1).warm hW
  · have : S2.1.length ≤ n0 + R.cells := g3
    have := hR.2.2.2.1.1
    omega
  · have : am_sz S2.1 ≤ z0 + R.slots := g4
    have := hR.2.2.2.2.1.1.1
    omega
theorem s_callS {ix id : Nat} {as : List aV} {v : Option aV} {S2 : aS} (hF : FX (p, l, e, R, s, m, args, below, meth, c, Q, nL, dC, dI, ct, ad, n0, z0, x0) cc own) (hd : decode cc pc = .ok (.invokestatic ix, 3)) (ht : (own, ix, id) ∈ tMS ∨ (own, ix, id) ∈ tMT)
    (hM : ok_h ftab S → (∀ x ∈ as, ok_v x) → aM l dC dI ct ad id as S v S2) (hna : as.length = mNa id)
    (hrm : mFr id + 1 ≤ R.frames ∧ 8 + (mLo id + 11) + mWd id ≤ R.locals) (hst : am_cat st ≤ 8) (hlf : aLeft (p, l, e, R, s, m, args, below, meth, c, Q, nL, dC, dI, ct, ad, n0, z0, x0) S S2 id)
    (k : WA (p, l, e, R, s, m, args, below, meth, c, Q, nL, dC, dI, ct, ad, n0, z0, x0) (pc + 3) ls (am_psh v st) S2) : WA (p, l, e, R, s, m, args, below, meth, c, Q, nL, dC, dI, ct, ad, n0, z0, x0) pc ls (as.reverse ++ st) S := by
  obtain ⟨g1, g2, g3, g4⟩ := hlf
  intro H locs lsC hR hlv h1 h2
  obtain ⟨hx, hb, hml, hown, hts, hK, hrow, hsz, h9⟩ := hF
  obtain ⟨hoa, h2⟩ := ok_app h2
  show W p l e R s m args below meth c H locs (S.1.length - n0) (am_sz S.1 - z0) Q (F0 m pc lsC ((as.reverse ++ st).map (cv ad)))
  refine W_sz (fun hs => ?_)
  have hHs := RR.size hR hrow hsz h9 rfl hs
  rw [List.map_append, ← map_rev]
  have hMM := hM hR.2.2.1 hoa
  unfold aM at hMM
  have pre : PreS s H (va_Pc (as.map (cv ad)) (aRU dC dI ct ad S)) (as.map (cv ad)) := ⟨aRU_blind, fun U hU hW => ⟨rfl, by rw [hU]; exact hHs, by rw [hU]; exact hR.1, va_K.moved hW.alike hK, by
    rw [hU]
    exact (hR.2.2.2.2.2.kept hR.2.1.2.1).warm hW, (XN.ofU hts).warm hW⟩⟩
  have room : S.1.length - n0 + mCe id ≤ R.cells ∧ am_sz S.1 - z0 + mSl id ≤ R.slots := by
    have q1 : S2.1.length ≤ n0 + R.cells := g3
    have q2 := hR.2.2.2.1.1
    have q3 : am_sz S2.1 ≤ z0 + R.slots := g4
    have q4 := hR.2.2.2.2.1.1.1
    constructor <;> omega
  rcases ht with ht | ht
  · obtain ⟨hid, hst2, hpd, hce, hsl⟩ := tMS_id _ ht
    exact am_after (va_runS (As := as.map (cv ad)) (rest := st.map (cv ad)) ⟨hx, hb, hml, hown, use_g hts⟩ hMM ⟨callB_of (ws' := lw_g) _ (use_g hts) (goodSub (aWs_in hid)) rfl rfl rfl (hts _ (by rw [(mcl id hid).1]; exact ini_ok _ (ini_all _ (mcl id hid).2)) rfl) (hts _ (tMS_ok _ ht) rfl) ⟨(mmh id hid).1, (mmh id hid).2, hpd⟩ hrm, hts _ (mSt_ok _ hst2) rfl⟩ pre rfl (by rw [List.length_map]; exact hna) hlv.1 rfl (lv_room (by rw [am_cat_ok]; exact hst)) hd room) hR g1 g2 g3 g4 (fun hov H1 locs1 hR1 => k H1 locs1 lsC hR1 hlv h1 (ok_psh hov h2))
  · obtain ⟨hid, hst2, hpd, hce, hsl⟩ := tMT_id _ ht
    exact am_after (va_runSN (As := as.map (cv ad)) (rest := st.map (cv ad)) ⟨hx, hb, hml, hown, use_g hts⟩ hMM ⟨va_cnB (ws' := lw_g) _ (use_g hts) (goodSub (aWs_in hid)) rfl rfl rfl (va_Nw.of rfl (hts _ (tMT_ok _ ht) rfl)) (hts _ (by rw [(mcl id hid).1]; exact ini_ok _ (ini_all _ (mcl id hid).2)) rfl) ⟨(mmh id hid).1, (mmh id hid).2, hpd⟩ hrm, hts _ (mSt_ok _ hst2) rfl, trivial⟩ pre rfl (by rw [List.length_map]; exact hna) hlv.1 rfl (lv_room (by rw [am_cat_ok]; exact hst)) hd room) hR g1 g2 g3 g4 (fun hov H1 locs1 hR1 => k H1 locs1 lsC hR1 hlv h1 (ok_psh hov h2))
theorem s_callI {ix id r : Nat} {as : List aV} {S2 : aS} (hF : FX (p, l, e, R, s, m, args, below, meth, c, Q, nL, dC, dI, ct, ad, n0, z0, x0) cc own) (hd : decode cc pc = .ok (.invokespecial ix, 3)) (ht : (own, ix, id) ∈ tMI ∨ (own, ix, id) ∈ tMJ)
    (hM : ok_h ftab S → (∀ x ∈ (Sum.inr (Sum.inr r) :: as : List aV), ok_v x) → aM l dC dI ct ad id (.inr (.inr r) :: as) S none S2) (hna : as.length + 1 = mNa id) (h0 : r ≠ 0) (h8 : r ≠ 8)
    (hrm : mFr id + 1 ≤ R.frames ∧ 8 + (mLo id + 11) + mWd id ≤ R.locals) (hst : am_cat st ≤ 8) (hlf : aLeft (p, l, e, R, s, m, args, below, meth, c, Q, nL, dC, dI, ct, ad, n0, z0, x0) S S2 id)
    (k : WA (p, l, e, R, s, m, args, below, meth, c, Q, nL, dC, dI, ct, ad, n0, z0, x0) (pc + 3) ls st S2) : WA (p, l, e, R, s, m, args, below, meth, c, Q, nL, dC, dI, ct, ad, n0, z0, x0) pc ls (as.reverse ++ .inr (.inr r) :: st) S := by
  obtain ⟨g1, g2, g3, g4⟩ := hlf
  intro H locs lsC hR hlv h1 h2
  obtain ⟨hx, hb, hml, hown, hts, hK, hrow, hsz, h9⟩ := hF
  obtain ⟨hoa, h2⟩ := ok_app h2
  obtain ⟨-, h2⟩ := ok_c.mp h2
  show W p l e R s m args below meth c H locs (S.1.length - n0) (am_sz S.1 - z0) Q (F0 m pc lsC ((as.reverse ++ .inr (.inr r) :: st).map (cv ad)))
  refine W_sz (fun hs => ?_)
  have hHs := RR.size hR hrow hsz h9 rfl hs
  rw [List.map_append, List.map_cons, ← map_rev, cv_ref h0 h8]
  have hMM := hM hR.2.2.1 (ok_c.mpr ⟨trivial, hoa⟩)
  unfold aM at hMM
  rw [List.map_cons, cv_ref h0 h8] at hMM
  have pre : PreS s H (va_Pc (.ref (ad r) :: as.map (cv ad)) (aRU dC dI ct ad S)) (.ref (ad r) :: as.map (cv ad)) := ⟨aRU_blind, fun U hU hW => ⟨rfl, by rw [hU]; exact hHs, by rw [hU]; exact hR.1, va_K.moved hW.alike hK, by
    rw [hU]
    exact (hR.2.2.2.2.2.kept hR.2.1.2.1).warm hW, (XN.ofU hts).warm hW⟩⟩
  have room : S.1.length - n0 + mCe id ≤ R.cells ∧ am_sz S.1 - z0 + mSl id ≤ R.slots := by
    have q1 : S2.1.length ≤ n0 + R.cells := g3
    have q2 := hR.2.2.2.1.1
    have q3 : am_sz S2.1 ≤ z0 + R.slots := g4
    have q4 := hR.2.2.2.2.1.1.1
    constructor <;> omega
  rcases ht with ht | ht
  · obtain ⟨hid, him, hnm, hpd, hret⟩ := tMI_id _ ht
    have hws : aWs id = Cond.code (mY id) (mB id) (mLo id) none :: lw_g := by unfold aWs; rw [show mR id = none from hret]
    exact am_after (va_runI (As := as.map (cv ad)) (rest := st.map (cv ad)) ⟨hx, hb, hml, hown, use_g hts⟩ hMM ⟨callB_of (ws' := lw_g) (bytes := mB id) (maxL := mLo id) (ret := none) _ (use_g hts) (goodSub (aWs_in hid)) hws rfl rfl (hts _ (by rw [(mcl id hid).1]; exact ini_ok _ (ini_all _ (mcl id hid).2)) rfl) (hts _ (tMI_ok _ ht) rfl) ⟨(mmh id hid).1, (mmh id hid).2, hpd⟩ hrm, hnm, hts _ (mIm_ok _ him) rfl⟩ pre rfl (by rw [List.length_map]; show as.length = mNa id - 1; omega) hlv.1 rfl (lv_room (by rw [am_cat_ok]; exact hst)) hd room) hR g1 g2 g3 g4 (fun hov H1 locs1 hR1 => k H1 locs1 lsC hR1 hlv h1 h2)
  · obtain ⟨hid, him, hnm, hpd, hret⟩ := tMJ_id _ ht
    have hws : aWs id = Cond.code (mY id) (mB id) (mLo id) none :: lw_g := by unfold aWs; rw [show mR id = none from hret]
    exact am_after (va_runIN (As := as.map (cv ad)) (rest := st.map (cv ad)) ⟨hx, hb, hml, hown, use_g hts⟩ hMM ⟨va_cnB (ws' := lw_g) (bytes := mB id) (maxL := mLo id) (ret := none) _ (use_g hts) (goodSub (aWs_in hid)) hws rfl rfl (va_Nw.of rfl (hts _ (tMJ_ok _ ht) rfl)) (hts _ (by rw [(mcl id hid).1]; exact ini_ok _ (ini_all _ (mcl id hid).2)) rfl) ⟨(mmh id hid).1, (mmh id hid).2, hpd⟩ hrm, hnm, hts _ (mIm_ok _ him) rfl⟩ pre rfl (by rw [List.length_map]; show as.length = mNa id - 1; omega) hlv.1 rfl (lv_room (by rw [am_cat_ok]; exact hst)) hd room) hR g1 g2 g3 g4 (fun hov H1 locs1 hR1 => k H1 locs1 lsC hR1 hlv h1 h2)
end S34
