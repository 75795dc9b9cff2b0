/-! ===== what the Statement gives of the start ===== -/
def fl : Jvm.Cond → List Jvm.Cond → List Jvm.Cond
  | .and a b, r => fl a (fl b r)
  | c, r => c :: r
theorem fl_ok {args : Array Value} {s : State} : ∀ (c : Jvm.Cond) (r : List Jvm.Cond), c.before args s = true → (∀ x ∈ r, x.before args s = true) → ∀ x ∈ fl c r, x.before args s = true := by
  intro c
  induction c with
  | and a b iha ihb =>
    intro r h hr
    rw [Cond.before_and, Bool.and_eq_true] at h
    exact iha _ h.1 (ihb r h.2 hr)
  | _ => exact fun r h hr x hx => (List.mem_cons.mp hx).elim (fun e => by rw [e]; exact h) (hr x)
def nl : List Jvm.Cond := fl (Jvm.Cond.and given_1 narrow_1) []
def wN : List String := ["UNKNOWN", "PERSON", "KNOWS", "WAY", "UNTIL", "DUE", "TIMES", "BELL", "SHUT", "BOW", "LAPSE", "WORTH", "MUST", "OR", "AND", "NOT", "AGE", "LOAD", "ERRAND", "OLDER", "HEAVIER", "LONGER", "HOUR"]
def wE : List Nat := [109, 115, 118, 121, 124, 127, 130, 133, 136, 139, 142, 145, 148, 151, 154, 157, 160, 163, 166, 169, 172, 175, 178]
def tmN (k : Nat) : Term := if k ≤ 23 then .static "BowingRow$Word" (wN.getD (k - 1) "") "LBowingRow$Word;" else if k = 24 then .static "BowingRow$Word" "ALL" "[LBowingRow$Word;" else if k = 25 then .static "BowingRow" "LEAST_FACT" "[I" else if k = 26 then .static "BowingRow" "MOST_FACT" "[I" else if k ≤ 53 then .string "BowingRow$Word" (wE.getD (k - 31) 0) else .field (.string "BowingRow$Word" (wE.getD (k - 61) 0)) "java/lang/String" "value" "[B"
def tmV : Value → Term
  | .int z => .int z
  | .ref k => tmN k
  | _ => .int 0
def iZ : List (Nat × Nat × Nat) := [(858, 109, 0), (876, 109, 0), (878, 109, 0), (880, 109, 0), (882, 109, 0), (1856, 109, 0), (1857, 109, 0), (1858, 109, 0), (1859, 109, 0), (1860, 109, 0), (1861, 109, 0), (990, 109, 0), (953, 109, 0), (955, 109, 0), (961, 109, 0), (967, 109, 0), (1862, 109, 0), (1863, 109, 0), (1864, 109, 0), (1865, 109, 0), (1866, 109, 0), (1867, 109, 0), (1868, 109, 0), (808, 109, 0), (896, 91, 0), (898, 91, 0), (818, 110, 34)]
def iO : List Nat := [41, 42, 43, 44, 0, 664, 47, 48, 49, 50, 0, 668, 54, 55, 56, 57, 0, 678, 62, 63, 64, 65, 0, 687, 71, 72, 73, 74, 0, 694, 162, 163, 164, 165, 0, 740, 178, 179, 180, 181, 0, 747, 195, 196, 197, 198, 0, 756, 213, 214, 215, 216, 0, 764, 232, 233, 234, 235, 0, 772, 252, 253, 254, 255, 0, 779, 147, 148, 149, 150, 0, 731, 97, 98, 99, 100, 0, 703, 108, 109, 110, 111, 0, 711, 120, 121, 122, 123, 0, 717, 133, 134, 135, 136, 0, 724, 273, 274, 275, 276, 0, 788, 295, 296, 297, 298, 0, 795, 318, 319, 320, 321, 0, 803, 342, 343, 344, 345, 0, 813, 367, 368, 369, 370, 0, 822, 393, 394, 395, 396, 0, 833, 420, 421, 422, 423, 0, 843]
def iT : List (Nat × Nat × List Nat) := [(665, 666, []), (669, 670, [671, 672, 673, 674, 675, 676]), (679, 680, [681, 682, 683, 684, 685]), (688, 689, [690, 691, 692]), (695, 696, [697, 698, 699, 700, 701]), (741, 742, [743, 744, 745]), (748, 749, [750, 751, 752, 753, 754]), (757, 758, [759, 760, 761, 762]), (765, 766, [767, 768, 769, 770]), (773, 774, [775, 776, 777]), (780, 781, [782, 783, 784, 785, 786]), (732, 733, [734, 735, 736, 737, 738]), (704, 705, [706, 707, 708, 709]), (712, 713, [714, 715]), (718, 719, [720, 721, 722]), (725, 726, [727, 728, 729]), (789, 790, [791, 792, 793]), (796, 797, [798, 799, 800, 801]), (804, 805, [806, 807, 808, 809, 810, 811]), (814, 815, [816, 817, 818, 819, 820]), (823, 824, [825, 826, 827, 828, 829, 830, 831]), (834, 835, [836, 837, 838, 839, 840, 841]), (844, 845, [846, 847, 848, 849]), (8, 9, [11, 12, 13, 14, 15, 16, 17, 18, 19, 20, 21, 22, 23, 24, 25, 26, 27, 28, 29, 30, 31, 32, 33]), (80, 81, [82, 83, 84, 85, 86]), (88, 89, [90, 91, 92, 93, 94])]
def iX : List (Nat × String × Nat) := [(1, "BowingRow$Word", 39), (2, "BowingRow$Word", 45), (3, "BowingRow$Word", 52), (4, "BowingRow$Word", 60), (5, "BowingRow$Word", 69), (6, "BowingRow$Word", 160), (7, "BowingRow$Word", 176), (8, "BowingRow$Word", 193), (9, "BowingRow$Word", 211), (10, "BowingRow$Word", 230), (11, "BowingRow$Word", 250), (12, "BowingRow$Word", 145), (13, "BowingRow$Word", 95), (14, "BowingRow$Word", 106), (15, "BowingRow$Word", 118), (16, "BowingRow$Word", 131), (17, "BowingRow$Word", 271), (18, "BowingRow$Word", 293), (19, "BowingRow$Word", 316), (20, "BowingRow$Word", 340), (21, "BowingRow$Word", 365), (22, "BowingRow$Word", 391), (23, "BowingRow$Word", 418), (24, "[LBowingRow$Word;", 7), (31, "java/lang/String", 663), (32, "java/lang/String", 667), (33, "java/lang/String", 677), (34, "java/lang/String", 686), (35, "java/lang/String", 693), (36, "java/lang/String", 739), (37, "java/lang/String", 746), (38, "java/lang/String", 755), (39, "java/lang/String", 763), (40, "java/lang/String", 771), (41, "java/lang/String", 778), (42, "java/lang/String", 730), (43, "java/lang/String", 702), (44, "java/lang/String", 710), (45, "java/lang/String", 716), (46, "java/lang/String", 723), (47, "java/lang/String", 787), (48, "java/lang/String", 794), (49, "java/lang/String", 802), (50, "java/lang/String", 812), (51, "java/lang/String", 821), (52, "java/lang/String", 832), (53, "java/lang/String", 842)]
def iP : List (Nat × Nat × Nat) := [(1, 2, 51), (1, 3, 58), (1, 4, 66), (1, 5, 75), (1, 6, 166), (1, 7, 182), (1, 8, 199), (1, 9, 217), (1, 10, 236), (1, 11, 256), (1, 12, 151), (1, 13, 101), (1, 14, 112), (1, 15, 124), (1, 16, 137), (1, 17, 277), (1, 18, 299), (1, 19, 322), (1, 20, 346), (1, 21, 371), (1, 22, 397), (1, 23, 424), (2, 3, 59), (2, 4, 67), (2, 5, 76), (2, 6, 167), (2, 7, 183), (2, 8, 200), (2, 9, 218), (2, 10, 237), (2, 11, 257), (2, 12, 152), (2, 13, 102), (2, 14, 113), (2, 15, 125), (2, 16, 138), (2, 17, 278), (2, 18, 300), (2, 19, 323), (2, 20, 347), (2, 21, 372), (2, 22, 398), (2, 23, 425), (3, 4, 68), (3, 5, 77), (3, 6, 168), (3, 7, 184), (3, 8, 201), (3, 9, 219), (3, 10, 238), (3, 11, 258), (3, 12, 153), (3, 13, 103), (3, 14, 114), (3, 15, 126), (3, 16, 139), (3, 17, 279), (3, 18, 301), (3, 19, 324), (3, 20, 348), (3, 21, 373), (3, 22, 399), (3, 23, 426), (4, 5, 78), (4, 6, 169), (4, 7, 185), (4, 8, 202), (4, 9, 220), (4, 10, 239), (4, 11, 259), (4, 12, 154), (4, 13, 104), (4, 14, 115), (4, 15, 127), (4, 16, 140), (4, 17, 280), (4, 18, 302), (4, 19, 325), (4, 20, 349), (4, 21, 374), (4, 22, 400), (4, 23, 427), (5, 6, 170), (5, 7, 186), (5, 8, 203), (5, 9, 221), (5, 10, 240), (5, 11, 260), (5, 12, 155), (5, 13, 105), (5, 14, 116), (5, 15, 128), (5, 16, 141), (5, 17, 281), (5, 18, 303), (5, 19, 326), (5, 20, 350), (5, 21, 375), (5, 22, 401), (5, 23, 428), (6, 7, 192), (6, 8, 209), (6, 9, 227), (6, 10, 246), (6, 11, 266), (12, 6, 175), (13, 6, 171), (14, 6, 172), (15, 6, 173), (16, 6, 174), (6, 17, 287), (6, 18, 309), (6, 19, 332), (6, 20, 356), (6, 21, 381), (6, 22, 407), (6, 23, 434), (7, 8, 210), (7, 9, 228), (7, 10, 247), (7, 11, 267), (12, 7, 191), (13, 7, 187), (14, 7, 188), (15, 7, 189), (16, 7, 190), (7, 17, 288), (7, 18, 310), (7, 19, 333), (7, 20, 357), (7, 21, 382), (7, 22, 408), (7, 23, 435), (8, 9, 229), (8, 10, 248), (8, 11, 268), (12, 8, 208), (13, 8, 204), (14, 8, 205), (15, 8, 206), (16, 8, 207), (8, 17, 289), (8, 18, 311), (8, 19, 334), (8, 20, 358), (8, 21, 383), (8, 22, 409), (8, 23, 436), (9, 10, 249), (9, 11, 269), (12, 9, 226), (13, 9, 222), (14, 9, 223), (15, 9, 224), (16, 9, 225), (9, 17, 290), (9, 18, 312), (9, 19, 335), (9, 20, 359), (9, 21, 384), (9, 22, 410), (9, 23, 437), (10, 11, 270), (12, 10, 245), (13, 10, 241), (14, 10, 242), (15, 10, 243), (16, 10, 244), (10, 17, 291), (10, 18, 313), (10, 19, 336), (10, 20, 360), (10, 21, 385), (10, 22, 411), (10, 23, 438), (12, 11, 265), (13, 11, 261), (14, 11, 262), (15, 11, 263), (16, 11, 264), (11, 17, 292), (11, 18, 314), (11, 19, 337), (11, 20, 361), (11, 21, 386), (11, 22, 412), (11, 23, 439), (13, 12, 156), (14, 12, 157), (15, 12, 158), (16, 12, 159), (12, 17, 286), (12, 18, 308), (12, 19, 331), (12, 20, 355), (12, 21, 380), (12, 22, 406), (12, 23, 433), (13, 14, 117), (13, 15, 129), (13, 16, 142), (13, 17, 282), (13, 18, 304), (13, 19, 327), (13, 20, 351), (13, 21, 376), (13, 22, 402), (13, 23, 429), (14, 15, 130), (14, 16, 143), (14, 17, 283), (14, 18, 305), (14, 19, 328), (14, 20, 352), (14, 21, 377), (14, 22, 403), (14, 23, 430), (15, 16, 144), (15, 17, 284), (15, 18, 306), (15, 19, 329), (15, 20, 353), (15, 21, 378), (15, 22, 404), (15, 23, 431), (16, 17, 285), (16, 18, 307), (16, 19, 330), (16, 20, 354), (16, 21, 379), (16, 22, 405), (16, 23, 432), (17, 18, 315), (17, 19, 338), (17, 20, 362), (17, 21, 387), (17, 22, 413), (17, 23, 440), (18, 19, 339), (18, 20, 363), (18, 21, 388), (18, 22, 414), (18, 23, 441), (19, 20, 364), (19, 21, 389), (19, 22, 415), (19, 23, 442), (20, 21, 390), (20, 22, 416), (20, 23, 443), (21, 22, 417), (21, 23, 444), (22, 23, 445)]
def iR : List (Nat × Nat) := [(1104, 627), (1019, 582), (764, 564), (1053, 600), (1232, 643)]
def isRV : Value → Bool
  | .int _ => true
  | .ref k => decide ((1 ≤ k ∧ k ≤ 26) ∨ (31 ≤ k ∧ k ≤ 53) ∨ (61 ≤ k ∧ k ≤ 83))
  | _ => false
def ckZ (q : String × String × String × Value) (i : Nat × Nat × Nat) : Bool := decide (lw_tbl[i.1]? = some (.laysStatic q.1 q.2.1 q.2.2.1)) && decide (lw_tbl[i.2.1]? = some (.initialized q.1)) && isRV q.2.2.2 && (match q.2.2.2 with
  | .ref k => decide (tmN k = .static q.1 q.2.1 q.2.2.1)
  | v => decide (nl[i.2.2]? = some (.eq (.static q.1 q.2.1 q.2.2.1) (tmV v))))
def ckO (q : String × String × String × Nat × Value) (i : Nat) : Bool := isRV q.2.2.2.2 && isRV (.ref q.2.2.2.1) && (match q.2.2.2.2 with
  | .ref k => decide (tmN k = .field (tmN q.2.2.2.1) q.1 q.2.1 q.2.2.1) || decide (nl[i]? = some (.eq (.field (tmN q.2.2.2.1) q.1 q.2.1 q.2.2.1) (tmN k)))
  | v => decide (nl[i]? = some (.eq (.field (tmN q.2.2.2.1) q.1 q.2.1 q.2.2.1) (tmV v))))
def ckT (q : FieldType × Nat × Nat × List Value) (i : Nat × Nat × List Nat) : Bool := isRV (.ref q.2.1) && decide (q.2.2.1 < 100) && decide (nl[i.1]? = some (.arrayOf (tmN q.2.1) q.1)) && decide (nl[i.2.1]? = some (.eq (.length (tmN q.2.1)) (.int (Int32.ofNat q.2.2.1)))) && (List.range q.2.2.1).all (fun j => isRV (q.2.2.2.getD j .null) && decide (nl[i.2.2.getD j 0]? = some (.eq (.elem (tmN q.2.1) (.int (Int32.ofNat j))) (tmV (q.2.2.2.getD j .null)))))
def ckX (q : Nat × String × Nat) : Bool := decide (nl[q.2.2]? = some (.exactly (tmN q.1) q.2.1))
def ckP (q : Nat × Nat × Nat) : Bool := decide (nl[q.2.2]? = some (.not (.eq (tmN q.1) (tmN q.2.1))))
def ckR (q : String × Nat × String) (i : Nat × Nat) : Bool := decide (lw_tbl[i.1]? = some (.stringRef q.1 q.2.1 q.2.2)) && decide (nl[i.2]? = some (.exactly (.string q.1 q.2.1) "java/lang/String"))
theorem all2 {α β : Type} {c : α → β → Bool} : ∀ (L : List α) (I : List β), L.length ≤ I.length → (L.zip I).all (fun x => c x.1 x.2) = true → ∀ q ∈ L, ∃ i, c q i = true
  | [], _, _, _, q, hq => absurd hq List.not_mem_nil
  | a :: L, [], h, _, _, _ => absurd h (by simp)
  | a :: L, b :: I, h, hc, q, hq => by
    rw [List.zip_cons_cons, List.all_cons, Bool.and_eq_true] at hc
    rcases List.mem_cons.mp hq with e | e
    · rw [e]; exact ⟨b, hc.1⟩
    · exact all2 L I (Nat.le_of_succ_le_succ h) hc.2 q e
theorem okZ : ∀ q ∈ f_Z, ∃ i, ckZ q i = true := all2 f_Z iZ (by decide +kernel) (by decide +kernel)
theorem okO : ∀ q ∈ f_O, ∃ i, ckO q i = true := all2 f_O iO (by decide +kernel) (by decide +kernel)
theorem okT2 : ∀ q ∈ f_T, ∃ i, ckT q i = true := all2 f_T iT (by decide +kernel) (by decide +kernel)
theorem okX2 : ∀ q ∈ iX, ckX q = true := List.all_eq_true.mp (by decide +kernel)
theorem okP2 : ∀ q ∈ iP, ckP q = true := List.all_eq_true.mp (by decide +kernel)
theorem okR : ∀ q ∈ f_R, ∃ i, ckR q i = true := all2 f_R iR (by decide +kernel) (by decide +kernel)
theorem covC : ∀ q ∈ f_C, (iX.any fun x => decide (x.1 = q.1) && decide (x.2.1 = q.2)) = true := List.all_eq_true.mp (by decide +kernel)
theorem covP : ∀ i, i < 24 → ∀ j, j < 24 → 1 ≤ i → i < j → (iP.any fun x => (decide (x.1 = i) && decide (x.2.1 = j)) || (decide (x.1 = j) && decide (x.2.1 = i))) = true := by decide +kernel
theorem covN : ∀ k, k < 84 → (1 ≤ k ∧ k ≤ 26) ∨ (31 ≤ k ∧ k ≤ 53) ∨ (61 ≤ k ∧ k ≤ 83) → ((iX.any fun x => decide (x.1 = k)) || (f_T.any fun x => decide (x.2.1 = k))) = true := by decide +kernel
theorem nN1 : nl[474]? = some (.not (.castable nIA nNS)) := by decide +kernel
theorem nN2 : nl[490]? = some (.not (.castable nIA nIO)) := by decide +kernel
theorem nN3 : nl[461]? = some (.not (.castable nIS nIA)) := by decide +kernel
theorem nS1 : nl[35]? = some (.isRef (.static "jdk/internal/util/Preconditions" "SIOOBE_FORMATTER" "Ljava/util/function/BiFunction;")) := by decide +kernel
theorem nS2 : nl[4]? = some (.isRef (.static "java/lang/Throwable" "UNASSIGNED_STACK" "[Ljava/lang/StackTraceElement;")) := by decide +kernel
theorem nS3 : nl[5]? = some (.isRef (.static "java/lang/Throwable" "SUPPRESSED_SENTINEL" "Ljava/util/List;")) := by decide +kernel
theorem lS1 : lw_tbl[834]? = some (.laysStatic "jdk/internal/util/Preconditions" "SIOOBE_FORMATTER" "Ljava/util/function/BiFunction;") := by decide +kernel
theorem jS1 : lw_tbl[112]? = some (.initialized "jdk/internal/util/Preconditions") := by decide +kernel
theorem lS2 : lw_tbl[749]? = some (.laysStatic "java/lang/Throwable" "UNASSIGNED_STACK" "[Ljava/lang/StackTraceElement;") := by decide +kernel
theorem jS2 : lw_tbl[104]? = some (.initialized "java/lang/Throwable") := by decide +kernel
theorem lS3 : lw_tbl[751]? = some (.laysStatic "java/lang/Throwable" "SUPPRESSED_SENTINEL" "Ljava/util/List;") := by decide +kernel
theorem jS3 : lw_tbl[104]? = some (.initialized "java/lang/Throwable") := by decide +kernel
