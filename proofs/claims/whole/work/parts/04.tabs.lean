/-! the names behind the numbers: classes, fields, links, constants, methods; checked against the words of the tables -/
def qowns : List String := ["JealousByCalendar", "JealousByCalendar$Cause", "JealousByCalendar$Affair", "JealousByCalendar$Person", "JealousByCalendar$Plan", "JealousByCalendar$Choice", "JealousByCalendar$Course", "JealousByCalendarModel", "JealousByCalendarLaw", "java/lang/Integer"]
def qownS (o : Nat) : String := qowns.getD o ""
def qTl : List (List (String × String × String × Bool)) := [[("JealousByCalendar", "now", "LJealousByCalendar$Affair;", true), ("JealousByCalendar", "mind", "LJealousByCalendar$Affair;", true), ("JealousByCalendar", "picture", "LJealousByCalendar$Affair;", true), ("JealousByCalendar", "hasPicture", "Z", false), ("JealousByCalendar", "past", "[LJealousByCalendar$Affair;", true), ("JealousByCalendar", "pastCount", "I", false), ("JealousByCalendar", "letters", "[I", true), ("JealousByCalendar", "letterCount", "I", false), ("JealousByCalendar", "numbers", "[I", true), ("JealousByCalendar", "numberCount", "I", false), ("JealousByCalendar", "refusals", "[I", true), ("JealousByCalendar", "his", "LJealousByCalendar$Plan;", true), ("JealousByCalendar", "hers", "LJealousByCalendar$Plan;", true), ("JealousByCalendar", "hisSettled", "[I", true), ("JealousByCalendar", "hersSettled", "[I", true), ("JealousByCalendar", "ways", "[J", true), ("JealousByCalendar", "course", "LJealousByCalendar$Course;", true)], [("JealousByCalendar$Cause", "kind", "I", false), ("JealousByCalendar$Cause", "figure", "I", false), ("JealousByCalendar$Cause", "whose", "I", false), ("JealousByCalendar$Cause", "found", "I", false), ("JealousByCalendar$Cause", "used", "Z", false), ("JealousByCalendar$Cause", "lasting", "I", false), ("JealousByCalendar$Cause", "weight", "I", false)], [("JealousByCalendar$Affair", "day", "I", false), ("JealousByCalendar$Affair", "he", "LJealousByCalendar$Person;", true), ("JealousByCalendar$Affair", "she", "LJealousByCalendar$Person;", true), ("JealousByCalendar$Affair", "causes", "[LJealousByCalendar$Cause;", true), ("JealousByCalendar$Affair", "count", "I", false)], [("JealousByCalendar$Person", "weekday", "I", false), ("JealousByCalendar$Person", "purse", "I", false), ("JealousByCalendar$Person", "borrowed", "I", false), ("JealousByCalendar$Person", "owed", "I", false), ("JealousByCalendar$Person", "jealous", "Z", false)], [("JealousByCalendar$Plan", "dayOf", "[I", true), ("JealousByCalendar$Plan", "days", "I", false), ("JealousByCalendar$Plan", "byNumber", "[LJealousByCalendar$Choice;", true), ("JealousByCalendar$Plan", "byWeight", "[LJealousByCalendar$Choice;", true), ("JealousByCalendar$Plan", "size", "I", false), ("JealousByCalendar$Plan", "all", "I", false), ("JealousByCalendar$Plan", "taker", "[LJealousByCalendar$Choice;", true), ("JealousByCalendar$Plan", "seen", "I", false), ("JealousByCalendar$Plan", "kept", "I", false), ("JealousByCalendar$Plan", "hand", "[I", true), ("JealousByCalendar$Plan", "goodOn", "[I", true)], [("JealousByCalendar$Choice", "number", "I", false), ("JealousByCalendar$Choice", "weight", "I", false), ("JealousByCalendar$Choice", "lastDay", "I", false), ("JealousByCalendar$Choice", "goodDays", "I", false)], [("JealousByCalendar$Course", "payer", "[I", true), ("JealousByCalendar$Course", "weight", "[I", true), ("JealousByCalendar$Course", "isFine", "[Z", true), ("JealousByCalendar$Course", "steps", "I", false)], [("JealousByCalendarModel", "refused", "[I", true), ("JealousByCalendarModel", "weekday", "[I", true), ("JealousByCalendarModel", "purse", "[I", true), ("JealousByCalendarModel", "borrowed", "[I", true), ("JealousByCalendarModel", "owed", "[I", true), ("JealousByCalendarModel", "jealous", "[I", true), ("JealousByCalendarModel", "kind", "[I", true), ("JealousByCalendarModel", "figure", "[I", true), ("JealousByCalendarModel", "whose", "[I", true), ("JealousByCalendarModel", "found", "[I", true), ("JealousByCalendarModel", "used", "[I", true), ("JealousByCalendarModel", "causes", "I", false), ("JealousByCalendarModel", "day", "I", false), ("JealousByCalendarModel", "tape", "[I", true), ("JealousByCalendarModel", "letter", "[I", true), ("JealousByCalendarModel", "letterAt", "[I", true), ("JealousByCalendarModel", "told", "[I", true), ("JealousByCalendarModel", "taped", "I", false), ("JealousByCalendarModel", "at", "I", false), ("JealousByCalendarModel", "statements", "I", false), ("JealousByCalendarModel", "kept", "[I", true), ("JealousByCalendarModel", "hasImage", "Z", false), ("JealousByCalendarModel", "isKeeping", "Z", false), ("JealousByCalendarModel", "cursor", "I", false), ("JealousByCalendarModel", "backs", "I", false), ("JealousByCalendarModel", "need", "[I", true), ("JealousByCalendarModel", "hand", "[I", true), ("JealousByCalendarModel", "needs", "I", false), ("JealousByCalendarModel", "best", "[I", true), ("JealousByCalendarModel", "own", "I", false), ("JealousByCalendarModel", "ownHis", "I", false), ("JealousByCalendarModel", "settles", "[I", true), ("JealousByCalendarModel", "row", "[I", true), ("JealousByCalendarModel", "rowMany", "I", false), ("JealousByCalendarModel", "ways", "[J", true), ("JealousByCalendarModel", "couples", "[I", true), ("JealousByCalendarModel", "laidHis", "[I", true), ("JealousByCalendarModel", "hasBoth", "[I", true)]]
def qT (ci : Nat) : u_T := fun k => (qTl.getD ci []).getD k ("", "", "", false)
def qtyl : List (List FieldType) := [[.object "JealousByCalendar$Affair", .object "JealousByCalendar$Affair", .object "JealousByCalendar$Affair", .boolean, .array (.object "JealousByCalendar$Affair"), .int, .array .int, .int, .array .int, .int, .array .int, .object "JealousByCalendar$Plan", .object "JealousByCalendar$Plan", .array .int, .array .int, .array .long, .object "JealousByCalendar$Course"], [.int, .int, .int, .int, .boolean, .int, .int], [.int, .object "JealousByCalendar$Person", .object "JealousByCalendar$Person", .array (.object "JealousByCalendar$Cause"), .int], [.int, .int, .int, .int, .boolean], [.array .int, .int, .array (.object "JealousByCalendar$Choice"), .array (.object "JealousByCalendar$Choice"), .int, .int, .array (.object "JealousByCalendar$Choice"), .int, .int, .array .int, .array .int], [.int, .int, .int, .int], [.array .int, .array .int, .array .boolean, .int], [.array .int, .array .int, .array .int, .array .int, .array .int, .array .int, .array .int, .array .int, .array .int, .array .int, .array .int, .int, .int, .array .int, .array .int, .array .int, .array .int, .int, .int, .int, .array .int, .boolean, .boolean, .int, .int, .array .int, .array .int, .int, .array .int, .int, .int, .array .int, .array .int, .int, .array .long, .array .int, .array .int, .array .int]]
def qty (ci : Nat) : Nat → FieldType := fun k => (qtyl.getD ci []).getD k .int
def qNl : List Nat := [17, 7, 5, 5, 11, 4, 4, 38]
def qN (ci : Nat) : Nat := qNl.getD ci 0
def qcl : List vw_C := (List.range 8).map fun ci => (qownS ci, qT ci, qN ci)
/-- a kind's class, where it is one of objects -/
def qcis : List (Option Nat) := [some 0, some 1, some 2, some 3, none, some 4, some 5, none, none, none, none, none, none, some 6, none, none, none, none, none, none, none, none, none, none, some 7, none, none, none, none, none, none, none, none, none, none, none, none, none, none, none, none, none, none, none, none, none, none, none, none, none]
def qci (t : Nat) : Option Nat := qcis.getD t none
def qft : List (Nat × Nat × Nat × Bool × Nat) := [(0, 10, 0, false, 356), (0, 16, 1, false, 357), (0, 19, 2, false, 358), (0, 22, 4, false, 360), (0, 26, 6, false, 362), (0, 30, 8, false, 364), (0, 33, 10, false, 366), (0, 39, 11, false, 367), (0, 43, 12, false, 368), (0, 46, 13, false, 369), (0, 49, 14, false, 370), (0, 52, 15, false, 371), (0, 59, 16, false, 372), (0, 67, 7, false, 363), (0, 82, 5, false, 361), (0, 93, 192, true, 179), (0, 98, 193, true, 182), (0, 101, 194, true, 185), (0, 104, 195, true, 187), (0, 107, 196, true, 191), (0, 115, 64, true, 212), (0, 120, 65, true, 215), (0, 123, 66, true, 217), (0, 126, 67, true, 220), (0, 129, 68, true, 223), (0, 132, 69, true, 226), (0, 135, 70, true, 230), (0, 141, 128, true, 250), (0, 151, 132, true, 257), (0, 172, 3, false, 359), (0, 180, 9, false, 365), (0, 208, 325, true, 305), (0, 240, 321, true, 299), (0, 288, 322, true, 301), (0, 311, 129, true, 252), (0, 315, 130, true, 254), (0, 343, 328, true, 309), (2, 14, 129, false, 251), (2, 20, 130, false, 253), (2, 25, 131, false, 255), (2, 30, 128, false, 247), (2, 38, 132, false, 256), (2, 48, 68, true, 224), (2, 55, 66, true, 218), (2, 58, 70, true, 231), (2, 61, 64, true, 213), (2, 68, 192, true, 180), (2, 79, 196, true, 192), (2, 86, 193, true, 183), (2, 93, 195, true, 188), (2, 99, 67, true, 221), (1, 9, 64, false, 211), (1, 15, 65, false, 214), (1, 18, 66, false, 216), (1, 21, 67, false, 219), (1, 24, 68, false, 222), (1, 28, 69, false, 225), (1, 31, 70, false, 227), (6, 11, 832, false, 341), (6, 15, 833, false, 342), (6, 18, 834, false, 343), (6, 22, 835, false, 344), (6, 26, 128, true, 248), (6, 52, 70, true, 228), (3, 9, 193, false, 181), (3, 15, 192, false, 178), (3, 18, 194, false, 184), (3, 21, 195, false, 186), (3, 24, 196, false, 190), (4, 9, 320, false, 297), (4, 17, 322, false, 300), (4, 21, 323, false, 302), (4, 24, 326, false, 306), (4, 27, 329, false, 310), (4, 30, 330, false, 311), (4, 34, 384, true, 283), (4, 44, 196, true, 189), (4, 50, 321, false, 298), (4, 53, 128, true, 249), (4, 60, 325, false, 304), (4, 63, 324, false, 303), (4, 70, 70, true, 229), (4, 75, 385, true, 284), (4, 80, 386, true, 285), (4, 86, 387, true, 286), (4, 104, 328, false, 308), (4, 107, 327, false, 307), (7, 7, 1536, false, 1058), (7, 13, 1537, false, 1059), (7, 16, 1538, false, 1060), (7, 19, 1539, false, 1061), (7, 22, 1540, false, 1062), (7, 25, 1541, false, 1063), (7, 28, 1542, false, 1064), (7, 31, 1543, false, 1065), (7, 34, 1544, false, 1066), (7, 37, 1545, false, 1067), (7, 40, 1546, false, 1068), (7, 43, 1549, false, 1071), (7, 46, 1550, false, 1072), (7, 49, 1551, false, 1073), (7, 52, 1552, false, 1074), (7, 55, 1556, false, 1078), (7, 58, 1561, false, 1083), (7, 61, 1562, false, 1084), (7, 65, 1564, false, 1086), (7, 68, 1567, false, 1089), (7, 71, 1568, false, 1090), (7, 74, 1570, false, 1092), (7, 78, 1571, false, 1093), (7, 81, 1572, false, 1094), (7, 84, 1573, false, 1095), (7, 90, 1547, false, 1069), (7, 98, 1553, false, 1075), (7, 105, 1554, false, 1076), (7, 120, 1555, false, 1077), (7, 143, 1548, false, 1070), (7, 160, 1560, false, 1082), (7, 163, 1558, false, 1080), (7, 167, 1559, false, 1081), (7, 177, 1557, false, 1079), (7, 202, 1563, false, 1085), (7, 221, 1565, false, 1087), (7, 268, 1569, false, 1091), (7, 324, 1566, false, 1088)]
def qfw (o cp r : Nat) (nest : Bool) : Cond := match qci (r / 64) with
  | none => .declares ⟨"", "", ""⟩
  | some ci => if nest = true then .fieldLinkNest (qownS o) cp (qownS ci) (qT ci (r % 64)).2.1 (qT ci (r % 64)).2.2.1 "JealousByCalendar" else .fieldLink (qownS o) cp (qownS ci) (qT ci (r % 64)).2.1 (qT ci (r % 64)).2.2.1
set_option maxRecDepth 20000 in
theorem qft_ok : ∀ e ∈ qft, lw_tbl[e.2.2.2.2]? = some (qfw e.1 e.2.1 e.2.2.1 e.2.2.2.1) ∧ (qci (e.2.2.1 / 64)).isSome = true ∧ e.2.2.1 % 64 < qN ((qci (e.2.2.1 / 64)).getD 0) := by decide +kernel
def qct : List (Nat × Nat × Int × Nat) := [(0, 309, 1103515245, 907), (0, 310, 2147483647, 908), (0, 384, 1000000000, 848), (7, 64, 53248, 1057), (7, 87, 1000000000, 1383), (7, 258, -100000, 1416), (7, 348, 1103515245, 1612), (7, 349, 2147483647, 1613), (7, 350, 65536, 1614), (9, 265, 1431655765, 833), (9, 266, 858993459, 834), (9, 267, 252645135, 835)]
def qclt : List (Nat × Nat × Int × Nat) := [(0, 303, 2, 898), (0, 385, 4000000000000000000, 650), (7, 88, 4000000000000000000, 1440), (7, 302, 2, 1483)]
theorem qct_ok : ∀ e ∈ qct, lw_tbl[e.2.2.2]? = some (.constant (qownS e.1) e.2.1 (Int32.ofInt e.2.2.1)) := by decide +kernel
theorem qclt_ok : ∀ e ∈ qclt, lw_tbl[e.2.2.2]? = some (.constantLong (qownS e.1) e.2.1 (Int64.ofInt e.2.2.1)) := by decide +kernel
/-- a method: name, code, locals, return type, static, words (initialized, code, static or instance, selects), how many arguments (its own object counted) -/
abbrev QMI : Type := MethodName × ByteArray × Nat × Option FieldType × Bool × Nat × Nat × Nat × Nat × Nat
def qmi0 : List QMI := [(⟨"JealousByCalendar$Cause", "copyFrom", "(LJealousByCalendar$Cause;)V"⟩, prog_3_method_2_code, 2, none, false, 151, 449, 448, 6, 2),
  (⟨"JealousByCalendar$Cause", "become", "(IIII)V"⟩, prog_3_method_3_code, 5, none, false, 151, 490, 489, 14, 5),
  (⟨"JealousByCalendar$Cause", "lastDay", "()I"⟩, prog_3_method_4_code, 1, some .int, false, 151, 559, 558, 25, 1),
  (⟨"JealousByCalendar$Cause", "isFreshOn", "(I)Z"⟩, prog_3_method_5_code, 2, some .boolean, false, 151, 517, 516, 19, 2),
  (⟨"JealousByCalendar$Cause", "lastingOf", "(II)I"⟩, prog_3_method_6_code, 3, some .int, true, 151, 493, 492, 0, 2),
  (⟨"JealousByCalendar$Cause", "weightOf", "(II)I"⟩, prog_3_method_7_code, 3, some .int, true, 151, 496, 495, 0, 2),
  (⟨"JealousByCalendar$Person", "copyFrom", "(LJealousByCalendar$Person;)V"⟩, prog_6_method_2_code, 2, none, false, 150, 445, 444, 5, 2),
  (⟨"JealousByCalendar$Person", "isDueOn", "(I)Z"⟩, prog_6_method_3_code, 2, some .boolean, false, 150, 546, 545, 24, 2),
  (⟨"JealousByCalendar$Person", "endDay", "(I)V"⟩, prog_6_method_4_code, 2, none, false, 150, 542, 541, 23, 2),
  (⟨"JealousByCalendar$Affair", "copyFrom", "(LJealousByCalendar$Affair;)V"⟩, prog_2_method_2_code, 3, none, false, 149, 441, 440, 4, 2),
  (⟨"JealousByCalendar$Affair", "person", "(I)LJealousByCalendar$Person;"⟩, prog_2_method_3_code, 2, some (.object "JealousByCalendar$Person"), false, 149, 471, 470, 10, 2),
  (⟨"JealousByCalendar$Affair", "causeAt", "(I)LJealousByCalendar$Cause;"⟩, prog_2_method_4_code, 2, some (.object "JealousByCalendar$Cause"), false, 149, 504, 503, 16, 2),
  (⟨"JealousByCalendar$Affair", "bring", "(IIII)V"⟩, prog_2_method_5_code, 5, none, false, 149, 486, 485, 13, 5),
  (⟨"JealousByCalendar$Affair", "used", "()I"⟩, prog_2_method_6_code, 3, some .int, false, 149, 600, 599, 27, 1),
  (⟨"JealousByCalendar$Affair", "unused", "()I"⟩, prog_2_method_7_code, 1, some .int, false, 149, 874, 873, 71, 1),
  (⟨"JealousByCalendar$Affair", "unusedFor", "(I)I"⟩, prog_2_method_8_code, 4, some .int, false, 149, 670, 669, 39, 2),
  (⟨"JealousByCalendar$Affair", "weightUnused", "()I"⟩, prog_2_method_9_code, 3, some .int, false, 149, 604, 603, 28, 1),
  (⟨"JealousByCalendar$Affair", "isGood", "(LJealousByCalendar$Cause;I)Z"⟩, prog_2_method_10_code, 4, some .boolean, false, 149, 513, 512, 18, 3),
  (⟨"JealousByCalendar$Affair", "hasGoodOn", "(I)Z"⟩, prog_2_method_11_code, 3, some .boolean, false, 149, 961, 960, 78, 2),
  (⟨"JealousByCalendar$Affair", "isUsable", "(LJealousByCalendar$Cause;)Z"⟩, prog_2_method_12_code, 2, some .boolean, false, 149, 508, 507, 17, 2),
  (⟨"JealousByCalendar$Affair", "spend", "(LJealousByCalendar$Cause;)I"⟩, prog_2_method_13_code, 6, some .int, false, 149, 521, 520, 20, 2),
  (⟨"JealousByCalendar$Affair", "endDay", "()V"⟩, prog_2_method_14_code, 1, none, false, 149, 538, 537, 22, 1),
  (⟨"JealousByCalendar$Affair", "findLater", "(II)V"⟩, prog_2_method_15_code, 4, none, false, 149, 995, 994, 81, 3),
  (⟨"JealousByCalendar$Affair", "atHand", "(I)I"⟩, prog_2_method_16_code, 6, some .int, false, 149, 632, 631, 32, 2),
  (⟨"JealousByCalendar$Affair", "liveDay", "(I)I"⟩, prog_2_method_17_code, 3, some .int, false, 149, 628, 627, 31, 2),
  (⟨"JealousByCalendar$Affair", "liveTo", "(I)V"⟩, prog_2_method_18_code, 3, none, false, 149, 624, 623, 30, 2),
  (⟨"JealousByCalendar$Plan", "takeNeeded", "(LJealousByCalendar$Affair;III)V"⟩, prog_7_method_2_code, 8, none, false, 152, 756, 755, 55, 5),
  (⟨"JealousByCalendar$Plan", "takeDays", "([II)V"⟩, prog_7_method_3_code, 4, none, false, 152, 662, 661, 37, 3),
  (⟨"JealousByCalendar$Plan", "takeDay", "(I)V"⟩, prog_7_method_4_code, 2, none, false, 152, 666, 665, 38, 2),
  (⟨"JealousByCalendar$Plan", "takeCauses", "(LJealousByCalendar$Affair;I)V"⟩, prog_7_method_5_code, 6, none, false, 152, 674, 673, 40, 3),
  (⟨"JealousByCalendar$Plan", "freshDaysOf", "(LJealousByCalendar$Cause;)I"⟩, prog_7_method_6_code, 4, some .int, false, 152, 680, 679, 41, 2),
  (⟨"JealousByCalendar$Plan", "sortIn", "(LJealousByCalendar$Choice;)V"⟩, prog_7_method_7_code, 3, none, false, 152, 685, 684, 42, 2),
  (⟨"JealousByCalendar$Plan", "allDays", "()I"⟩, prog_7_method_8_code, 1, some .int, false, 152, 693, 692, 44, 1),
  (⟨"JealousByCalendar$Plan", "value", "()I"⟩, prog_7_method_9_code, 1, some .int, false, 152, 789, 788, 61, 1),
  (⟨"JealousByCalendar$Plan", "valueWithout", "(I)I"⟩, prog_7_method_10_code, 2, some .int, false, 152, 813, 812, 65, 2),
  (⟨"JealousByCalendar$Plan", "bestOf", "(II)I"⟩, prog_7_method_11_code, 6, some .int, false, 152, 793, 792, 62, 3),
  (⟨"JealousByCalendar$Plan", "findDay", "(LJealousByCalendar$Plan;LJealousByCalendar$Choice;I)Z"⟩, prog_7_method_12_code, 6, some .boolean, true, 152, 796, 795, 0, 3),
  (⟨"JealousByCalendar$Plan", "firstWay", "(I)I"⟩, prog_7_method_13_code, 6, some .int, false, 152, 800, 799, 63, 2),
  (⟨"JealousByCalendar$Plan", "firstOn", "(III)LJealousByCalendar$Choice;"⟩, prog_7_method_14_code, 8, some (.object "JealousByCalendar$Choice"), false, 152, 805, 804, 64, 4),
  (⟨"JealousByCalendar$Plan", "causesGoodOn", "(I)I"⟩, prog_7_method_15_code, 4, some .int, false, 152, 829, 828, 67, 2)]
def qmi1 : List QMI := [(⟨"JealousByCalendar$Plan", "shortDays", "()I"⟩, prog_7_method_16_code, 6, some .int, false, 152, 825, 824, 66, 1),
  (⟨"JealousByCalendar$Plan", "causesOfDays", "(II)I"⟩, prog_7_method_17_code, 5, some .int, false, 152, 839, 838, 68, 3),
  (⟨"JealousByCalendar$Plan", "layByHand", "()V"⟩, prog_7_method_18_code, 4, none, false, 152, 769, 768, 57, 1),
  (⟨"JealousByCalendar$Plan", "soonestOn", "(II)I"⟩, prog_7_method_19_code, 7, some .int, false, 152, 773, 772, 58, 3),
  (⟨"JealousByCalendar$Plan", "withoutByHand", "()I"⟩, prog_7_method_20_code, 3, some .int, false, 152, 777, 776, 59, 1),
  (⟨"JealousByCalendar$Plan", "firstWithoutByHand", "()I"⟩, prog_7_method_21_code, 2, some .int, false, 152, 781, 780, 60, 1),
  (⟨"JealousByCalendar$Plan", "longestByHand", "(Z)I"⟩, prog_7_method_22_code, 5, some .int, false, 152, 969, 968, 79, 2),
  (⟨"JealousByCalendar$Plan", "hasByHandOn", "(I)Z"⟩, prog_7_method_23_code, 3, some .boolean, false, 152, 978, 977, 80, 2),
  (⟨"JealousByCalendar$Plan", "weightOf", "(I)I"⟩, prog_7_method_24_code, 4, some .int, false, 152, 937, 936, 75, 2),
  (⟨"JealousByCalendar$Plan", "leadByTaking", "(LJealousByCalendar$Choice;)I"⟩, prog_7_method_25_code, 5, some .int, false, 152, 879, 878, 72, 2),
  (⟨"JealousByCalendar$Plan", "waysOf", "(I[J)J"⟩, prog_7_method_26_code, 5, some .long, false, 152, 689, 688, 43, 3),
  (⟨"JealousByCalendar$Plan", "spread", "(II[J)V"⟩, prog_7_method_27_code, 7, none, true, 152, 697, 696, 0, 3),
  (⟨"JealousByCalendar$Course", "follow", "(LJealousByCalendar$Affair;I)V"⟩, prog_5_method_2_code, 4, none, false, 154, 1004, 1003, 82, 3),
  (⟨"JealousByCalendar$Course", "followUse", "(LJealousByCalendar$Affair;I)V"⟩, prog_5_method_3_code, 4, none, false, 154, 1008, 1007, 83, 3),
  (⟨"JealousByCalendar$Course", "followEnd", "(LJealousByCalendar$Affair;I)V"⟩, prog_5_method_4_code, 3, none, false, 154, 1020, 1019, 85, 3),
  (⟨"JealousByCalendar$Course", "note", "(IIZ)V"⟩, prog_5_method_5_code, 4, none, false, 154, 1015, 1014, 84, 4),
  (⟨"JealousByCalendar$Course", "isCoveredBy", "(III)Z"⟩, prog_5_method_6_code, 9, some .boolean, false, 154, 1027, 1026, 86, 4),
  (⟨"JealousByCalendar", "feed", "(I)I"⟩, prog_1_method_2_code, 2, some .int, false, 148, 411, 409, 410, 2),
  (⟨"JealousByCalendar", "marriage", "()I"⟩, prog_1_method_3_code, 3, some .int, false, 148, 419, 417, 418, 1),
  (⟨"JealousByCalendar", "one", "(II)I"⟩, prog_1_method_4_code, 4, some .int, false, 148, 551, 549, 550, 3),
  (⟨"JealousByCalendar", "cause", "(II)I"⟩, prog_1_method_5_code, 4, some .int, false, 148, 555, 553, 554, 3),
  (⟨"JealousByCalendar", "set", "(III)I"⟩, prog_1_method_6_code, 6, some .int, false, 148, 564, 562, 563, 4),
  (⟨"JealousByCalendar", "add", "(IIII)I"⟩, prog_1_method_7_code, 5, some .int, false, 148, 568, 566, 567, 5),
  (⟨"JealousByCalendar", "use", "(I)I"⟩, prog_1_method_8_code, 3, some .int, false, 148, 572, 570, 571, 2),
  (⟨"JealousByCalendar", "end", "()I"⟩, prog_1_method_9_code, 1, some .int, false, 148, 580, 578, 579, 1),
  (⟨"JealousByCalendar", "back", "()I"⟩, prog_1_method_10_code, 2, some .int, false, 148, 584, 582, 583, 1),
  (⟨"JealousByCalendar", "image", "()I"⟩, prog_1_method_11_code, 1, some .int, false, 148, 588, 586, 587, 1),
  (⟨"JealousByCalendar", "restore", "()I"⟩, prog_1_method_12_code, 1, some .int, false, 148, 592, 590, 591, 1),
  (⟨"JealousByCalendar", "count", "(I)I"⟩, prog_1_method_13_code, 3, some .int, false, 148, 596, 594, 595, 2),
  (⟨"JealousByCalendar", "row", "(I)I"⟩, prog_1_method_14_code, 2, some .int, false, 148, 608, 606, 607, 2),
  (⟨"JealousByCalendar", "clear", "()I"⟩, prog_1_method_15_code, 2, some .int, false, 148, 612, 610, 611, 1),
  (⟨"JealousByCalendar", "judge", "(I)I"⟩, prog_1_method_16_code, 3, some .int, false, 148, 616, 614, 615, 2),
  (⟨"JealousByCalendar", "meant", "(II)J"⟩, prog_1_method_17_code, 6, some .long, false, 148, 645, 643, 644, 3),
  (⟨"JealousByCalendar", "law", "(I)I"⟩, prog_1_method_18_code, 6, some .int, false, 148, 705, 703, 704, 2),
  (⟨"JealousByCalendar", "friends", "(I)I"⟩, prog_1_method_19_code, 2, some .int, false, 148, 720, 718, 719, 2),
  (⟨"JealousByCalendar", "needed", "(II)I"⟩, prog_1_method_20_code, 4, some .int, false, 148, 736, 734, 735, 3),
  (⟨"JealousByCalendar", "byHand", "(III)I"⟩, prog_1_method_21_code, 6, some .int, false, 148, 761, 759, 760, 4),
  (⟨"JealousByCalendar", "laid", "(III)I"⟩, prog_1_method_22_code, 5, some .int, false, 148, 785, 783, 784, 4),
  (⟨"JealousByCalendar", "wasted", "(II)I"⟩, prog_1_method_23_code, 9, some .int, false, 148, 809, 807, 808, 3),
  (⟨"JealousByCalendar", "worth", "(II)I"⟩, prog_1_method_24_code, 6, some .int, false, 148, 817, 815, 816, 3)]
def qmi2 : List QMI := [(⟨"JealousByCalendar", "notAll", "(II)I"⟩, prog_1_method_25_code, 4, some .int, false, 148, 821, 819, 820, 3),
  (⟨"JealousByCalendar", "settled", "(III)I"⟩, prog_1_method_26_code, 5, some .int, false, 148, 843, 841, 842, 4),
  (⟨"JealousByCalendar", "bestWeekday", "(II)I"⟩, prog_1_method_27_code, 8, some .int, false, 148, 856, 854, 855, 3),
  (⟨"JealousByCalendar", "neither", "(I)I"⟩, prog_1_method_28_code, 5, some .int, false, 148, 860, 858, 859, 2),
  (⟨"JealousByCalendar", "turns", "(I)I"⟩, prog_1_method_29_code, 6, some .int, false, 148, 870, 868, 869, 2),
  (⟨"JealousByCalendar", "months", "(III)I"⟩, prog_1_method_30_code, 9, some .int, false, 148, 883, 881, 882, 4),
  (⟨"JealousByCalendar", "chance", "(III)J"⟩, prog_1_method_31_code, 6, some .long, false, 148, 890, 888, 889, 4),
  (⟨"JealousByCalendar", "keep", "(I)I"⟩, prog_1_method_32_code, 3, some .int, false, 148, 897, 895, 896, 2),
  (⟨"JealousByCalendar", "run", "(III)I"⟩, prog_1_method_33_code, 6, some .int, false, 148, 902, 900, 901, 4),
  (⟨"JealousByCalendar", "lots", "(II)I"⟩, prog_1_method_34_code, 8, some .int, false, 148, 906, 904, 905, 3),
  (⟨"JealousByCalendar", "gift", "(III)I"⟩, prog_1_method_35_code, 8, some .int, false, 148, 912, 910, 911, 4),
  (⟨"JealousByCalendar", "when", "(IIII)I"⟩, prog_1_method_36_code, 9, some .int, false, 148, 920, 918, 919, 5),
  (⟨"JealousByCalendar", "changed", "(I)I"⟩, prog_1_method_37_code, 9, some .int, false, 148, 924, 922, 923, 2),
  (⟨"JealousByCalendar", "alike", "(I)I"⟩, prog_1_method_38_code, 4, some .int, false, 148, 933, 931, 932, 2),
  (⟨"JealousByCalendar", "spare", "(II)I"⟩, prog_1_method_39_code, 5, some .int, false, 148, 948, 946, 947, 3),
  (⟨"JealousByCalendar", "over", "(I)I"⟩, prog_1_method_40_code, 3, some .int, false, 148, 957, 955, 956, 2),
  (⟨"JealousByCalendar", "streak", "(III)I"⟩, prog_1_method_41_code, 6, some .int, false, 148, 965, 963, 964, 4),
  (⟨"JealousByCalendar", "quarrel", "(II)I"⟩, prog_1_method_42_code, 7, some .int, false, 148, 974, 972, 973, 3),
  (⟨"JealousByCalendar", "swapped", "(I)I"⟩, prog_1_method_43_code, 3, some .int, false, 148, 982, 980, 981, 2),
  (⟨"JealousByCalendar", "usedOn", "(II)I"⟩, prog_1_method_44_code, 5, some .int, false, 148, 986, 984, 985, 3),
  (⟨"JealousByCalendar", "delay", "(II)I"⟩, prog_1_method_45_code, 6, some .int, false, 148, 991, 989, 990, 3),
  (⟨"JealousByCalendar", "need", "(II)I"⟩, prog_1_method_46_code, 6, some .int, false, 148, 1000, 998, 999, 3),
  (⟨"JealousByCalendar", "loss", "(II)I"⟩, prog_1_method_47_code, 4, some .int, false, 148, 1033, 1031, 1032, 3),
  (⟨"JealousByCalendar", "heavyDay", "(II)I"⟩, prog_1_method_48_code, 8, some .int, false, 148, 1049, 1047, 1048, 3),
  (⟨"JealousByCalendar", "refuse", "(I)I"⟩, prog_1_method_49_code, 3, some .int, false, 148, 415, 414, 0, 2),
  (⟨"JealousByCalendar", "refuseFar", "(I)I"⟩, prog_1_method_50_code, 2, some .int, false, 148, 847, 846, 69, 2),
  (⟨"JealousByCalendar", "refuseLong", "(I)J"⟩, prog_1_method_51_code, 2, some .long, false, 148, 649, 648, 34, 2),
  (⟨"JealousByCalendar", "faultOfDay", "(I)I"⟩, prog_1_method_52_code, 2, some .int, false, 148, 744, 743, 52, 2),
  (⟨"JealousByCalendar", "faultOfOneAndDay", "(II)I"⟩, prog_1_method_53_code, 3, some .int, false, 148, 740, 739, 51, 3),
  (⟨"JealousByCalendar", "faultOfDayWhat", "(II)I"⟩, prog_1_method_54_code, 4, some .int, false, 148, 952, 951, 77, 3),
  (⟨"JealousByCalendar", "faultOfOneDayWhat", "(IIII)I"⟩, prog_1_method_55_code, 6, some .int, false, 148, 765, 764, 56, 5),
  (⟨"JealousByCalendar", "isNobody", "(I)Z"⟩, prog_1_method_56_code, 1, some .boolean, true, 148, 464, 463, 0, 1),
  (⟨"JealousByCalendar", "isNoKind", "(I)Z"⟩, prog_1_method_57_code, 1, some .boolean, true, 148, 482, 481, 0, 1),
  (⟨"JealousByCalendar", "isNoWeekday", "(I)Z"⟩, prog_1_method_58_code, 1, some .boolean, true, 148, 467, 466, 0, 1),
  (⟨"JealousByCalendar", "otherThan", "(I)I"⟩, prog_1_method_59_code, 1, some .int, true, 148, 524, 523, 0, 1),
  (⟨"JealousByCalendar", "remember", "()V"⟩, prog_1_method_60_code, 3, none, false, 148, 576, 575, 26, 1),
  (⟨"JealousByCalendar", "firstMisplaced", "()I"⟩, prog_1_method_61_code, 5, some .int, false, 148, 423, 422, 1, 1),
  (⟨"JealousByCalendar", "tellStatements", "()I"⟩, prog_1_method_62_code, 3, some .int, false, 148, 437, 436, 3, 1),
  (⟨"JealousByCalendar", "tellStatement", "(I)Z"⟩, prog_1_method_63_code, 3, some .boolean, false, 148, 453, 452, 7, 2),
  (⟨"JealousByCalendar", "tellWeekday", "(II)Z"⟩, prog_1_method_64_code, 3, some .boolean, false, 148, 461, 460, 9, 3)]
def qmi3 : List QMI := [(⟨"JealousByCalendar", "tellPurse", "(II)Z"⟩, prog_1_method_65_code, 3, some .boolean, false, 148, 475, 474, 11, 3),
  (⟨"JealousByCalendar", "tellCause", "(IIII)Z"⟩, prog_1_method_66_code, 5, some .boolean, false, 148, 479, 478, 12, 5),
  (⟨"JealousByCalendar", "tellUse", "(I)Z"⟩, prog_1_method_67_code, 3, some .boolean, false, 148, 500, 499, 15, 2),
  (⟨"JealousByCalendar", "tellDays", "(I)Z"⟩, prog_1_method_68_code, 3, some .boolean, false, 148, 534, 533, 21, 2),
  (⟨"JealousByCalendar", "digitsBehind", "(I)I"⟩, prog_1_method_69_code, 1, some .int, true, 148, 430, 429, 0, 1),
  (⟨"JealousByCalendar", "letterAt", "(I)I"⟩, prog_1_method_70_code, 2, some .int, false, 148, 427, 426, 2, 2),
  (⟨"JealousByCalendar", "isDigit", "(I)Z"⟩, prog_1_method_71_code, 1, some .boolean, true, 148, 433, 432, 0, 1),
  (⟨"JealousByCalendar", "figureAt", "(II)I"⟩, prog_1_method_72_code, 5, some .int, false, 148, 457, 456, 8, 3),
  (⟨"JealousByCalendar", "planOf", "(I)LJealousByCalendar$Plan;"⟩, prog_1_method_73_code, 2, some (.object "JealousByCalendar$Plan"), false, 148, 658, 657, 36, 2),
  (⟨"JealousByCalendar", "prepared", "(LJealousByCalendar$Affair;II)LJealousByCalendar$Plan;"⟩, prog_1_method_74_code, 4, some (.object "JealousByCalendar$Plan"), false, 148, 748, 747, 53, 4),
  (⟨"JealousByCalendar", "preparedOn", "(LJealousByCalendar$Affair;III)LJealousByCalendar$Plan;"⟩, prog_1_method_75_code, 6, some (.object "JealousByCalendar$Plan"), false, 148, 752, 751, 54, 5),
  (⟨"JealousByCalendar", "valueOfBoth", "(LJealousByCalendar$Affair;I)I"⟩, prog_1_method_76_code, 4, some .int, false, 148, 928, 927, 74, 3),
  (⟨"JealousByCalendar", "settledOn", "(III)I"⟩, prog_1_method_77_code, 7, some .int, false, 148, 852, 851, 70, 4),
  (⟨"JealousByCalendar", "isBestChoice", "([III)Z"⟩, prog_1_method_78_code, 5, some .boolean, true, 148, 863, 862, 0, 3),
  (⟨"JealousByCalendar", "settledBeside", "([III)I"⟩, prog_1_method_79_code, 3, some .int, true, 148, 866, 865, 0, 3),
  (⟨"JealousByCalendar", "valueWithOneMore", "(IIIII)I"⟩, prog_1_method_80_code, 6, some .int, false, 148, 916, 915, 73, 6),
  (⟨"JealousByCalendar", "valueOfBothWithout", "(I)I"⟩, prog_1_method_81_code, 2, some .int, false, 148, 1041, 1040, 88, 2),
  (⟨"JealousByCalendar", "worstLoss", "()I"⟩, prog_1_method_82_code, 6, some .int, false, 148, 1037, 1036, 87, 1),
  (⟨"JealousByCalendar", "worstLossOfTwo", "()I"⟩, prog_1_method_83_code, 8, some .int, false, 148, 1045, 1044, 89, 1),
  (⟨"JealousByCalendar", "evenHeap", "(I)I"⟩, prog_1_method_84_code, 7, some .int, false, 148, 941, 940, 76, 2),
  (⟨"JealousByCalendar", "numberAt", "(I)I"⟩, prog_1_method_85_code, 2, some .int, false, 148, 641, 640, 33, 2),
  (⟨"JealousByCalendar", "mostInRow", "()I"⟩, prog_1_method_86_code, 3, some .int, false, 148, 709, 708, 46, 1),
  (⟨"JealousByCalendar", "isRowOfDays", "(I)Z"⟩, prog_1_method_87_code, 5, some .boolean, false, 148, 654, 653, 35, 2),
  (⟨"JealousByCalendar", "meantCauses", "(LJealousByCalendar$Plan;JZ)J"⟩, prog_1_method_88_code, 11, some .long, false, 148, 701, 700, 45, 4),
  (⟨"JealousByCalendar", "isRowByLaw", "(II)Z"⟩, prog_1_method_89_code, 5, some .boolean, false, 148, 716, 715, 47, 3),
  (⟨"JealousByCalendar", "couplesOn", "(I)I"⟩, prog_1_method_90_code, 4, some .int, false, 148, 728, 727, 49, 2),
  (⟨"JealousByCalendar", "fewestFriends", "()I"⟩, prog_1_method_91_code, 3, some .int, false, 148, 724, 723, 48, 1),
  (⟨"JealousByCalendar", "busiestWeekday", "()I"⟩, prog_1_method_92_code, 5, some .int, false, 148, 732, 731, 50, 1),
  (⟨"JealousByCalendar", "firstMistold", "(I)I"⟩, prog_1_method_93_code, 4, some .int, false, 148, 620, 619, 29, 2),
  (⟨"JealousByCalendar", "weekdaysIn", "(III)I"⟩, prog_1_method_94_code, 5, some .int, true, 148, 886, 885, 0, 3),
  (⟨"JealousByCalendar", "power", "(II)J"⟩, prog_1_method_95_code, 5, some .long, true, 148, 893, 892, 0, 2),
  (⟨"JealousByCalendar", "paidOf", "(III)I"⟩, prog_1_method_96_code, 3, some .int, true, 148, 527, 526, 0, 3),
  (⟨"JealousByCalendarModel", "no", "(I)I"⟩, prog_9_method_2_code, 2, some .int, false, 155, 1183, 1182, 90, 2),
  (⟨"JealousByCalendarModel", "lower", "(I)I"⟩, prog_9_method_3_code, 2, some .int, false, 155, 1382, 1381, 119, 2),
  (⟨"JealousByCalendarModel", "lowest", "(I)J"⟩, prog_9_method_4_code, 2, some .long, false, 155, 1439, 1438, 127, 2),
  (⟨"JealousByCalendarModel", "isIn", "(III)Z"⟩, prog_9_method_5_code, 3, some .boolean, true, 155, 1206, 1205, 0, 3),
  (⟨"JealousByCalendarModel", "bound", "(III)I"⟩, prog_9_method_6_code, 3, some .int, true, 155, 1179, 1178, 0, 3),
  (⟨"JealousByCalendarModel", "has", "(II)Z"⟩, prog_9_method_7_code, 2, some .boolean, true, 155, 1335, 1334, 0, 2),
  (⟨"JealousByCalendarModel", "bits", "(I)I"⟩, prog_9_method_8_code, 3, some .int, true, 155, 1370, 1369, 0, 1),
  (⟨"JealousByCalendarModel", "isOne", "(I)Z"⟩, prog_9_method_9_code, 1, some .boolean, true, 155, 1225, 1224, 0, 1)]
def qmi4 : List QMI := [(⟨"JealousByCalendarModel", "isCause", "(I)Z"⟩, prog_9_method_10_code, 2, some .boolean, false, 155, 1233, 1232, 100, 2),
  (⟨"JealousByCalendarModel", "feed", "(I)I"⟩, prog_9_method_11_code, 3, some .int, false, 155, 1176, 1174, 1175, 2),
  (⟨"JealousByCalendarModel", "next", "()I"⟩, prog_9_method_12_code, 1, some .int, false, 155, 1195, 1194, 92, 1),
  (⟨"JealousByCalendarModel", "readsDigits", "(II)Z"⟩, prog_9_method_13_code, 5, some .boolean, false, 155, 1203, 1202, 94, 3),
  (⟨"JealousByCalendarModel", "readsAll", "(II)Z"⟩, prog_9_method_14_code, 3, some .boolean, false, 155, 1199, 1198, 93, 3),
  (⟨"JealousByCalendarModel", "statement", "()Z"⟩, prog_9_method_15_code, 2, some .boolean, false, 155, 1191, 1190, 91, 1),
  (⟨"JealousByCalendarModel", "comes", "(I)Z"⟩, prog_9_method_16_code, 5, some .boolean, false, 155, 1222, 1221, 98, 2),
  (⟨"JealousByCalendarModel", "marriage", "()I"⟩, prog_9_method_17_code, 3, some .int, false, 155, 1187, 1185, 1186, 1),
  (⟨"JealousByCalendarModel", "passes", "([I)V"⟩, prog_9_method_18_code, 3, none, false, 155, 1214, 1213, 96, 2),
  (⟨"JealousByCalendarModel", "passOne", "(I)I"⟩, prog_9_method_19_code, 3, some .int, false, 155, 1218, 1217, 97, 2),
  (⟨"JealousByCalendarModel", "passesAll", "(IZ)V"⟩, prog_9_method_20_code, 3, none, false, 155, 1210, 1209, 95, 3),
  (⟨"JealousByCalendarModel", "keepsBack", "()V"⟩, prog_9_method_21_code, 2, none, false, 155, 1304, 1303, 109, 1),
  (⟨"JealousByCalendarModel", "back", "()I"⟩, prog_9_method_22_code, 1, some .int, false, 155, 1268, 1266, 1267, 1),
  (⟨"JealousByCalendarModel", "image", "()I"⟩, prog_9_method_23_code, 1, some .int, false, 155, 1272, 1270, 1271, 1),
  (⟨"JealousByCalendarModel", "restore", "()I"⟩, prog_9_method_24_code, 1, some .int, false, 155, 1276, 1274, 1275, 1),
  (⟨"JealousByCalendarModel", "keepsOf", "(I)I"⟩, prog_9_method_25_code, 3, some .int, false, 155, 1249, 1248, 104, 2),
  (⟨"JealousByCalendarModel", "weightOf", "(I)I"⟩, prog_9_method_26_code, 3, some .int, false, 155, 1257, 1256, 106, 2),
  (⟨"JealousByCalendarModel", "goodTill", "(I)I"⟩, prog_9_method_27_code, 2, some .int, false, 155, 1245, 1244, 103, 2),
  (⟨"JealousByCalendarModel", "isGood", "(II)Z"⟩, prog_9_method_28_code, 3, some .boolean, false, 155, 1241, 1240, 102, 3),
  (⟨"JealousByCalendarModel", "isSour", "(I)Z"⟩, prog_9_method_29_code, 2, some .boolean, false, 155, 1288, 1287, 108, 2),
  (⟨"JealousByCalendarModel", "adds", "(IIII)V"⟩, prog_9_method_30_code, 5, none, false, 155, 1229, 1228, 99, 5),
  (⟨"JealousByCalendarModel", "canUse", "(I)Z"⟩, prog_9_method_31_code, 2, some .boolean, false, 155, 1237, 1236, 101, 2),
  (⟨"JealousByCalendarModel", "lesser", "(II)I"⟩, prog_9_method_32_code, 2, some .int, true, 155, 1260, 1259, 0, 2),
  (⟨"JealousByCalendarModel", "uses", "(I)I"⟩, prog_9_method_33_code, 4, some .int, false, 155, 1253, 1252, 105, 2),
  (⟨"JealousByCalendarModel", "ends", "()V"⟩, prog_9_method_34_code, 2, none, false, 155, 1264, 1263, 107, 1),
  (⟨"JealousByCalendarModel", "one", "(II)I"⟩, prog_9_method_35_code, 3, some .int, false, 155, 1280, 1278, 1279, 3),
  (⟨"JealousByCalendarModel", "cause", "(II)I"⟩, prog_9_method_36_code, 3, some .int, false, 155, 1284, 1282, 1283, 3),
  (⟨"JealousByCalendarModel", "set", "(III)I"⟩, prog_9_method_37_code, 6, some .int, false, 155, 1292, 1290, 1291, 4),
  (⟨"JealousByCalendarModel", "add", "(IIII)I"⟩, prog_9_method_38_code, 6, some .int, false, 155, 1296, 1294, 1295, 5),
  (⟨"JealousByCalendarModel", "use", "(I)I"⟩, prog_9_method_39_code, 3, some .int, false, 155, 1300, 1298, 1299, 2),
  (⟨"JealousByCalendarModel", "end", "()I"⟩, prog_9_method_40_code, 1, some .int, false, 155, 1308, 1306, 1307, 1),
  (⟨"JealousByCalendarModel", "findNeeds", "(II)V"⟩, prog_9_method_41_code, 4, none, false, 155, 1320, 1319, 111, 3),
  (⟨"JealousByCalendarModel", "soonestSour", "(III)I"⟩, prog_9_method_42_code, 6, some .int, false, 155, 1332, 1331, 113, 4),
  (⟨"JealousByCalendarModel", "findHand", "(II)V"⟩, prog_9_method_43_code, 5, none, false, 155, 1328, 1327, 112, 3),
  (⟨"JealousByCalendarModel", "notWho", "(II)I"⟩, prog_9_method_44_code, 3, some .int, false, 155, 1316, 1315, 110, 3),
  (⟨"JealousByCalendarModel", "needed", "(II)I"⟩, prog_9_method_45_code, 4, some .int, false, 155, 1312, 1310, 1311, 3),
  (⟨"JealousByCalendarModel", "byHand", "(III)I"⟩, prog_9_method_46_code, 8, some .int, false, 155, 1324, 1322, 1323, 4),
  (⟨"JealousByCalendarModel", "valueWith", "(III)I"⟩, prog_9_method_47_code, 4, some .int, false, 155, 1355, 1354, 117, 4),
  (⟨"JealousByCalendarModel", "findOwn", "(I)V"⟩, prog_9_method_48_code, 5, none, false, 155, 1347, 1346, 115, 2),
  (⟨"JealousByCalendarModel", "laysDay", "(I)V"⟩, prog_9_method_49_code, 7, none, false, 155, 1351, 1350, 116, 2)]
def qmi5 : List QMI := [(⟨"JealousByCalendarModel", "findLaid", "(II)V"⟩, prog_9_method_50_code, 4, none, false, 155, 1343, 1342, 114, 3),
  (⟨"JealousByCalendarModel", "allCauses", "()I"⟩, prog_9_method_51_code, 1, some .int, false, 155, 1622, 1621, 146, 1),
  (⟨"JealousByCalendarModel", "laidValue", "(II)I"⟩, prog_9_method_52_code, 3, some .int, false, 155, 1391, 1390, 121, 3),
  (⟨"JealousByCalendarModel", "laid", "(III)I"⟩, prog_9_method_53_code, 9, some .int, false, 155, 1339, 1337, 1338, 4),
  (⟨"JealousByCalendarModel", "wasted", "(II)I"⟩, prog_9_method_54_code, 6, some .int, false, 155, 1359, 1357, 1358, 3),
  (⟨"JealousByCalendarModel", "worth", "(II)I"⟩, prog_9_method_55_code, 4, some .int, false, 155, 1363, 1361, 1362, 3),
  (⟨"JealousByCalendarModel", "goodFor", "(II)I"⟩, prog_9_method_56_code, 7, some .int, false, 155, 1374, 1373, 118, 3),
  (⟨"JealousByCalendarModel", "notAll", "(II)I"⟩, prog_9_method_57_code, 7, some .int, false, 155, 1367, 1365, 1366, 3),
  (⟨"JealousByCalendarModel", "settledBy", "(III)I"⟩, prog_9_method_58_code, 6, some .int, false, 155, 1387, 1386, 120, 4),
  (⟨"JealousByCalendarModel", "settled", "(III)I"⟩, prog_9_method_59_code, 5, some .int, false, 155, 1378, 1376, 1377, 4),
  (⟨"JealousByCalendarModel", "bestWeekday", "(II)I"⟩, prog_9_method_60_code, 6, some .int, false, 155, 1395, 1393, 1394, 3),
  (⟨"JealousByCalendarModel", "hasAt", "(III)I"⟩, prog_9_method_61_code, 4, some .int, false, 155, 1407, 1406, 123, 4),
  (⟨"JealousByCalendarModel", "rests", "(II)Z"⟩, prog_9_method_62_code, 4, some .boolean, false, 155, 1403, 1402, 122, 3),
  (⟨"JealousByCalendarModel", "neither", "(I)I"⟩, prog_9_method_63_code, 4, some .int, false, 155, 1399, 1397, 1398, 2),
  (⟨"JealousByCalendarModel", "unused", "()I"⟩, prog_9_method_64_code, 3, some .int, false, 155, 1420, 1419, 125, 1),
  (⟨"JealousByCalendarModel", "findTurns", "()V"⟩, prog_9_method_65_code, 4, none, false, 155, 1415, 1414, 124, 1),
  (⟨"JealousByCalendarModel", "turns", "(I)I"⟩, prog_9_method_66_code, 4, some .int, false, 155, 1411, 1409, 1410, 2),
  (⟨"JealousByCalendarModel", "weekdaysIn", "(III)I"⟩, prog_9_method_67_code, 5, some .int, true, 155, 1427, 1426, 0, 3),
  (⟨"JealousByCalendarModel", "months", "(III)I"⟩, prog_9_method_68_code, 10, some .int, false, 155, 1424, 1422, 1423, 4),
  (⟨"JealousByCalendarModel", "areDaysOf", "(I)Z"⟩, prog_9_method_69_code, 3, some .boolean, false, 155, 1435, 1434, 126, 2),
  (⟨"JealousByCalendarModel", "isMeant", "(III)Z"⟩, prog_9_method_70_code, 4, some .boolean, false, 155, 1448, 1447, 129, 4),
  (⟨"JealousByCalendarModel", "waysWithout", "(II)J"⟩, prog_9_method_71_code, 6, some .long, false, 155, 1444, 1443, 128, 3),
  (⟨"JealousByCalendarModel", "meant", "(II)J"⟩, prog_9_method_72_code, 13, some .long, false, 155, 1431, 1429, 1430, 3),
  (⟨"JealousByCalendarModel", "areUpTo", "(I)Z"⟩, prog_9_method_73_code, 3, some .boolean, false, 155, 1456, 1455, 130, 2),
  (⟨"JealousByCalendarModel", "isLaw", "(II)Z"⟩, prog_9_method_74_code, 4, some .boolean, false, 155, 1460, 1459, 131, 3),
  (⟨"JealousByCalendarModel", "law", "(I)I"⟩, prog_9_method_75_code, 7, some .int, false, 155, 1452, 1450, 1451, 2),
  (⟨"JealousByCalendarModel", "fewestFriends", "()I"⟩, prog_9_method_76_code, 4, some .int, false, 155, 1468, 1467, 132, 1),
  (⟨"JealousByCalendarModel", "friends", "(I)I"⟩, prog_9_method_77_code, 5, some .int, false, 155, 1464, 1462, 1463, 2),
  (⟨"JealousByCalendarModel", "divisor", "(JJ)J"⟩, prog_9_method_78_code, 10, some .long, true, 155, 1478, 1477, 0, 2),
  (⟨"JealousByCalendarModel", "power", "(JI)J"⟩, prog_9_method_79_code, 6, some .long, true, 155, 1475, 1474, 0, 2),
  (⟨"JealousByCalendarModel", "chance", "(III)J"⟩, prog_9_method_80_code, 9, some .long, false, 155, 1472, 1470, 1471, 4),
  (⟨"JealousByCalendarModel", "keep", "(I)I"⟩, prog_9_method_81_code, 4, some .int, false, 155, 1482, 1480, 1481, 2),
  (⟨"JealousByCalendarModel", "goesOne", "()V"⟩, prog_9_method_82_code, 3, none, false, 155, 1495, 1494, 134, 1),
  (⟨"JealousByCalendarModel", "goesTo", "(I)V"⟩, prog_9_method_83_code, 2, none, false, 155, 1491, 1490, 133, 2),
  (⟨"JealousByCalendarModel", "run", "(III)I"⟩, prog_9_method_84_code, 6, some .int, false, 155, 1487, 1485, 1486, 4),
  (⟨"JealousByCalendarModel", "notGift", "(IIII)I"⟩, prog_9_method_85_code, 5, some .int, false, 155, 1503, 1502, 135, 5),
  (⟨"JealousByCalendarModel", "laidWith", "(IIIII)I"⟩, prog_9_method_86_code, 7, some .int, false, 155, 1507, 1506, 136, 6),
  (⟨"JealousByCalendarModel", "gift", "(III)I"⟩, prog_9_method_87_code, 9, some .int, false, 155, 1499, 1497, 1498, 4),
  (⟨"JealousByCalendarModel", "when", "(IIII)I"⟩, prog_9_method_88_code, 10, some .int, false, 155, 1511, 1509, 1510, 5),
  (⟨"JealousByCalendarModel", "laidOfBoth", "(I)I"⟩, prog_9_method_89_code, 2, some .int, false, 155, 1519, 1518, 137, 2)]
def qmi6 : List QMI := [(⟨"JealousByCalendarModel", "changed", "(I)I"⟩, prog_9_method_90_code, 7, some .int, false, 155, 1515, 1513, 1514, 2),
  (⟨"JealousByCalendarModel", "apartBy", "(II)I"⟩, prog_9_method_91_code, 5, some .int, false, 155, 1527, 1526, 138, 3),
  (⟨"JealousByCalendarModel", "alike", "(I)I"⟩, prog_9_method_92_code, 6, some .int, false, 155, 1523, 1521, 1522, 2),
  (⟨"JealousByCalendarModel", "findBoth", "(I)V"⟩, prog_9_method_93_code, 3, none, false, 155, 1535, 1534, 139, 2),
  (⟨"JealousByCalendarModel", "spare", "(II)I"⟩, prog_9_method_94_code, 6, some .int, false, 155, 1531, 1529, 1530, 3),
  (⟨"JealousByCalendarModel", "lastGood", "()I"⟩, prog_9_method_95_code, 4, some .int, false, 155, 1543, 1542, 140, 1),
  (⟨"JealousByCalendarModel", "over", "(I)I"⟩, prog_9_method_96_code, 3, some .int, false, 155, 1539, 1537, 1538, 2),
  (⟨"JealousByCalendarModel", "streak", "(III)I"⟩, prog_9_method_97_code, 8, some .int, false, 155, 1547, 1545, 1546, 4),
  (⟨"JealousByCalendarModel", "quarrel", "(II)I"⟩, prog_9_method_98_code, 7, some .int, false, 155, 1551, 1549, 1550, 3),
  (⟨"JealousByCalendarModel", "swaps", "()V"⟩, prog_9_method_99_code, 2, none, false, 155, 1559, 1558, 141, 1),
  (⟨"JealousByCalendarModel", "swapped", "(I)I"⟩, prog_9_method_100_code, 5, some .int, false, 155, 1555, 1553, 1554, 2),
  (⟨"JealousByCalendarModel", "usesNow", "(I)I"⟩, prog_9_method_101_code, 2, some .int, false, 155, 1567, 1566, 142, 2),
  (⟨"JealousByCalendarModel", "usedOn", "(II)I"⟩, prog_9_method_102_code, 5, some .int, false, 155, 1563, 1561, 1562, 3),
  (⟨"JealousByCalendarModel", "laidLater", "(III)I"⟩, prog_9_method_103_code, 5, some .int, false, 155, 1575, 1574, 143, 4),
  (⟨"JealousByCalendarModel", "delay", "(II)I"⟩, prog_9_method_104_code, 7, some .int, false, 155, 1571, 1569, 1570, 3),
  (⟨"JealousByCalendarModel", "owedWith", "(III)I"⟩, prog_9_method_105_code, 5, some .int, false, 155, 1583, 1582, 144, 4),
  (⟨"JealousByCalendarModel", "need", "(II)I"⟩, prog_9_method_106_code, 5, some .int, false, 155, 1579, 1577, 1578, 3),
  (⟨"JealousByCalendarModel", "leftBoth", "(I)I"⟩, prog_9_method_107_code, 2, some .int, false, 155, 1591, 1590, 145, 2),
  (⟨"JealousByCalendarModel", "loss", "(II)I"⟩, prog_9_method_108_code, 8, some .int, false, 155, 1587, 1585, 1586, 3),
  (⟨"JealousByCalendarModel", "heavyDay", "(II)I"⟩, prog_9_method_109_code, 8, some .int, false, 155, 1595, 1593, 1594, 3),
  (⟨"JealousByCalendarModel", "row", "(I)I"⟩, prog_9_method_110_code, 3, some .int, false, 155, 1599, 1597, 1598, 2),
  (⟨"JealousByCalendarModel", "judge", "(I)I"⟩, prog_9_method_111_code, 6, some .int, false, 155, 1603, 1601, 1602, 2),
  (⟨"JealousByCalendarModel", "clear", "()I"⟩, prog_9_method_112_code, 2, some .int, false, 155, 1607, 1605, 1606, 1),
  (⟨"JealousByCalendarModel", "lots", "(II)I"⟩, prog_9_method_113_code, 8, some .int, false, 155, 1611, 1609, 1610, 3),
  (⟨"JealousByCalendarModel", "count", "(I)I"⟩, prog_9_method_114_code, 4, some .int, false, 155, 1618, 1616, 1617, 2),
  (⟨"java/lang/Integer", "bitCount", "(I)I"⟩, prog_10_method_49_code, 1, some .int, true, 157, 832, 831, 0, 1)]
def qmiOk (q : QMI) : Bool := match q with
  | (y, bytes, maxL, ret, st, i0, i1, i2, i3, n) =>
    decide (lw_tbl[i0]? = some (.initialized y.cls)) && decide (lw_tbl[i2]? = some (if st = true then .static y else .instanceMethod y)) &&
    (st || decide (lw_tbl[i3]? = some (.selects y.cls y y))) && plainFor y && decide (y.cls ≠ "java/lang/invoke/MethodHandle") && decide (y.cls ≠ "java/lang/invoke/VarHandle") && decide (y.name ≠ "<init>") &&
    decide ((parseMethodDescriptor y.desc).map (fun d => d.parameters.length + (if st = true then 0 else 1)) = some n) && decide (maxL ≤ 40)
set_option maxRecDepth 20000 in
theorem qmi0_ok : ∀ q ∈ qmi0, qmiOk q = true := by decide +kernel
set_option maxRecDepth 20000 in
theorem qmi1_ok : ∀ q ∈ qmi1, qmiOk q = true := by decide +kernel
set_option maxRecDepth 20000 in
theorem qmi2_ok : ∀ q ∈ qmi2, qmiOk q = true := by decide +kernel
set_option maxRecDepth 20000 in
theorem qmi3_ok : ∀ q ∈ qmi3, qmiOk q = true := by decide +kernel
set_option maxRecDepth 20000 in
theorem qmi4_ok : ∀ q ∈ qmi4, qmiOk q = true := by decide +kernel
set_option maxRecDepth 20000 in
theorem qmi5_ok : ∀ q ∈ qmi5, qmiOk q = true := by decide +kernel
set_option maxRecDepth 20000 in
theorem qmi6_ok : ∀ q ∈ qmi6, qmiOk q = true := by decide +kernel
set_option maxRecDepth 100000 in
theorem qmi0_cd : ∀ q ∈ qmi0, Cond.code q.1 q.2.1 q.2.2.1 q.2.2.2.1 ∈ lw_tbl := by
  unfold qmi0
  refine List.forall_mem_cons.mpr ⟨List.mem_of_getElem? (i := 449) rfl, ?_⟩
  refine List.forall_mem_cons.mpr ⟨List.mem_of_getElem? (i := 490) rfl, ?_⟩
  refine List.forall_mem_cons.mpr ⟨List.mem_of_getElem? (i := 559) rfl, ?_⟩
  refine List.forall_mem_cons.mpr ⟨List.mem_of_getElem? (i := 517) rfl, ?_⟩
  refine List.forall_mem_cons.mpr ⟨List.mem_of_getElem? (i := 493) rfl, ?_⟩
  refine List.forall_mem_cons.mpr ⟨List.mem_of_getElem? (i := 496) rfl, ?_⟩
  refine List.forall_mem_cons.mpr ⟨List.mem_of_getElem? (i := 445) rfl, ?_⟩
  refine List.forall_mem_cons.mpr ⟨List.mem_of_getElem? (i := 546) rfl, ?_⟩
  refine List.forall_mem_cons.mpr ⟨List.mem_of_getElem? (i := 542) rfl, ?_⟩
  refine List.forall_mem_cons.mpr ⟨List.mem_of_getElem? (i := 441) rfl, ?_⟩
  refine List.forall_mem_cons.mpr ⟨List.mem_of_getElem? (i := 471) rfl, ?_⟩
  refine List.forall_mem_cons.mpr ⟨List.mem_of_getElem? (i := 504) rfl, ?_⟩
  refine List.forall_mem_cons.mpr ⟨List.mem_of_getElem? (i := 486) rfl, ?_⟩
  refine List.forall_mem_cons.mpr ⟨List.mem_of_getElem? (i := 600) rfl, ?_⟩
  refine List.forall_mem_cons.mpr ⟨List.mem_of_getElem? (i := 874) rfl, ?_⟩
  refine List.forall_mem_cons.mpr ⟨List.mem_of_getElem? (i := 670) rfl, ?_⟩
  refine List.forall_mem_cons.mpr ⟨List.mem_of_getElem? (i := 604) rfl, ?_⟩
  refine List.forall_mem_cons.mpr ⟨List.mem_of_getElem? (i := 513) rfl, ?_⟩
  refine List.forall_mem_cons.mpr ⟨List.mem_of_getElem? (i := 961) rfl, ?_⟩
  refine List.forall_mem_cons.mpr ⟨List.mem_of_getElem? (i := 508) rfl, ?_⟩
  refine List.forall_mem_cons.mpr ⟨List.mem_of_getElem? (i := 521) rfl, ?_⟩
  refine List.forall_mem_cons.mpr ⟨List.mem_of_getElem? (i := 538) rfl, ?_⟩
  refine List.forall_mem_cons.mpr ⟨List.mem_of_getElem? (i := 995) rfl, ?_⟩
  refine List.forall_mem_cons.mpr ⟨List.mem_of_getElem? (i := 632) rfl, ?_⟩
  refine List.forall_mem_cons.mpr ⟨List.mem_of_getElem? (i := 628) rfl, ?_⟩
  refine List.forall_mem_cons.mpr ⟨List.mem_of_getElem? (i := 624) rfl, ?_⟩
  refine List.forall_mem_cons.mpr ⟨List.mem_of_getElem? (i := 756) rfl, ?_⟩
  refine List.forall_mem_cons.mpr ⟨List.mem_of_getElem? (i := 662) rfl, ?_⟩
  refine List.forall_mem_cons.mpr ⟨List.mem_of_getElem? (i := 666) rfl, ?_⟩
  refine List.forall_mem_cons.mpr ⟨List.mem_of_getElem? (i := 674) rfl, ?_⟩
  refine List.forall_mem_cons.mpr ⟨List.mem_of_getElem? (i := 680) rfl, ?_⟩
  refine List.forall_mem_cons.mpr ⟨List.mem_of_getElem? (i := 685) rfl, ?_⟩
  refine List.forall_mem_cons.mpr ⟨List.mem_of_getElem? (i := 693) rfl, ?_⟩
  refine List.forall_mem_cons.mpr ⟨List.mem_of_getElem? (i := 789) rfl, ?_⟩
  refine List.forall_mem_cons.mpr ⟨List.mem_of_getElem? (i := 813) rfl, ?_⟩
  refine List.forall_mem_cons.mpr ⟨List.mem_of_getElem? (i := 793) rfl, ?_⟩
  refine List.forall_mem_cons.mpr ⟨List.mem_of_getElem? (i := 796) rfl, ?_⟩
  refine List.forall_mem_cons.mpr ⟨List.mem_of_getElem? (i := 800) rfl, ?_⟩
  refine List.forall_mem_cons.mpr ⟨List.mem_of_getElem? (i := 805) rfl, ?_⟩
  refine List.forall_mem_cons.mpr ⟨List.mem_of_getElem? (i := 829) rfl, ?_⟩
  exact fun _ h => absurd h List.not_mem_nil
set_option maxRecDepth 100000 in
theorem qmi1_cd : ∀ q ∈ qmi1, Cond.code q.1 q.2.1 q.2.2.1 q.2.2.2.1 ∈ lw_tbl := by
  unfold qmi1
  refine List.forall_mem_cons.mpr ⟨List.mem_of_getElem? (i := 825) rfl, ?_⟩
  refine List.forall_mem_cons.mpr ⟨List.mem_of_getElem? (i := 839) rfl, ?_⟩
  refine List.forall_mem_cons.mpr ⟨List.mem_of_getElem? (i := 769) rfl, ?_⟩
  refine List.forall_mem_cons.mpr ⟨List.mem_of_getElem? (i := 773) rfl, ?_⟩
  refine List.forall_mem_cons.mpr ⟨List.mem_of_getElem? (i := 777) rfl, ?_⟩
  refine List.forall_mem_cons.mpr ⟨List.mem_of_getElem? (i := 781) rfl, ?_⟩
  refine List.forall_mem_cons.mpr ⟨List.mem_of_getElem? (i := 969) rfl, ?_⟩
  refine List.forall_mem_cons.mpr ⟨List.mem_of_getElem? (i := 978) rfl, ?_⟩
  refine List.forall_mem_cons.mpr ⟨List.mem_of_getElem? (i := 937) rfl, ?_⟩
  refine List.forall_mem_cons.mpr ⟨List.mem_of_getElem? (i := 879) rfl, ?_⟩
  refine List.forall_mem_cons.mpr ⟨List.mem_of_getElem? (i := 689) rfl, ?_⟩
  refine List.forall_mem_cons.mpr ⟨List.mem_of_getElem? (i := 697) rfl, ?_⟩
  refine List.forall_mem_cons.mpr ⟨List.mem_of_getElem? (i := 1004) rfl, ?_⟩
  refine List.forall_mem_cons.mpr ⟨List.mem_of_getElem? (i := 1008) rfl, ?_⟩
  refine List.forall_mem_cons.mpr ⟨List.mem_of_getElem? (i := 1020) rfl, ?_⟩
  refine List.forall_mem_cons.mpr ⟨List.mem_of_getElem? (i := 1015) rfl, ?_⟩
  refine List.forall_mem_cons.mpr ⟨List.mem_of_getElem? (i := 1027) rfl, ?_⟩
  refine List.forall_mem_cons.mpr ⟨List.mem_of_getElem? (i := 411) rfl, ?_⟩
  refine List.forall_mem_cons.mpr ⟨List.mem_of_getElem? (i := 419) rfl, ?_⟩
  refine List.forall_mem_cons.mpr ⟨List.mem_of_getElem? (i := 551) rfl, ?_⟩
  refine List.forall_mem_cons.mpr ⟨List.mem_of_getElem? (i := 555) rfl, ?_⟩
  refine List.forall_mem_cons.mpr ⟨List.mem_of_getElem? (i := 564) rfl, ?_⟩
  refine List.forall_mem_cons.mpr ⟨List.mem_of_getElem? (i := 568) rfl, ?_⟩
  refine List.forall_mem_cons.mpr ⟨List.mem_of_getElem? (i := 572) rfl, ?_⟩
  refine List.forall_mem_cons.mpr ⟨List.mem_of_getElem? (i := 580) rfl, ?_⟩
  refine List.forall_mem_cons.mpr ⟨List.mem_of_getElem? (i := 584) rfl, ?_⟩
  refine List.forall_mem_cons.mpr ⟨List.mem_of_getElem? (i := 588) rfl, ?_⟩
  refine List.forall_mem_cons.mpr ⟨List.mem_of_getElem? (i := 592) rfl, ?_⟩
  refine List.forall_mem_cons.mpr ⟨List.mem_of_getElem? (i := 596) rfl, ?_⟩
  refine List.forall_mem_cons.mpr ⟨List.mem_of_getElem? (i := 608) rfl, ?_⟩
  refine List.forall_mem_cons.mpr ⟨List.mem_of_getElem? (i := 612) rfl, ?_⟩
  refine List.forall_mem_cons.mpr ⟨List.mem_of_getElem? (i := 616) rfl, ?_⟩
  refine List.forall_mem_cons.mpr ⟨List.mem_of_getElem? (i := 645) rfl, ?_⟩
  refine List.forall_mem_cons.mpr ⟨List.mem_of_getElem? (i := 705) rfl, ?_⟩
  refine List.forall_mem_cons.mpr ⟨List.mem_of_getElem? (i := 720) rfl, ?_⟩
  refine List.forall_mem_cons.mpr ⟨List.mem_of_getElem? (i := 736) rfl, ?_⟩
  refine List.forall_mem_cons.mpr ⟨List.mem_of_getElem? (i := 761) rfl, ?_⟩
  refine List.forall_mem_cons.mpr ⟨List.mem_of_getElem? (i := 785) rfl, ?_⟩
  refine List.forall_mem_cons.mpr ⟨List.mem_of_getElem? (i := 809) rfl, ?_⟩
  refine List.forall_mem_cons.mpr ⟨List.mem_of_getElem? (i := 817) rfl, ?_⟩
  exact fun _ h => absurd h List.not_mem_nil
set_option maxRecDepth 100000 in
theorem qmi2_cd : ∀ q ∈ qmi2, Cond.code q.1 q.2.1 q.2.2.1 q.2.2.2.1 ∈ lw_tbl := by
  unfold qmi2
  refine List.forall_mem_cons.mpr ⟨List.mem_of_getElem? (i := 821) rfl, ?_⟩
  refine List.forall_mem_cons.mpr ⟨List.mem_of_getElem? (i := 843) rfl, ?_⟩
  refine List.forall_mem_cons.mpr ⟨List.mem_of_getElem? (i := 856) rfl, ?_⟩
  refine List.forall_mem_cons.mpr ⟨List.mem_of_getElem? (i := 860) rfl, ?_⟩
  refine List.forall_mem_cons.mpr ⟨List.mem_of_getElem? (i := 870) rfl, ?_⟩
  refine List.forall_mem_cons.mpr ⟨List.mem_of_getElem? (i := 883) rfl, ?_⟩
  refine List.forall_mem_cons.mpr ⟨List.mem_of_getElem? (i := 890) rfl, ?_⟩
  refine List.forall_mem_cons.mpr ⟨List.mem_of_getElem? (i := 897) rfl, ?_⟩
  refine List.forall_mem_cons.mpr ⟨List.mem_of_getElem? (i := 902) rfl, ?_⟩
  refine List.forall_mem_cons.mpr ⟨List.mem_of_getElem? (i := 906) rfl, ?_⟩
  refine List.forall_mem_cons.mpr ⟨List.mem_of_getElem? (i := 912) rfl, ?_⟩
  refine List.forall_mem_cons.mpr ⟨List.mem_of_getElem? (i := 920) rfl, ?_⟩
  refine List.forall_mem_cons.mpr ⟨List.mem_of_getElem? (i := 924) rfl, ?_⟩
  refine List.forall_mem_cons.mpr ⟨List.mem_of_getElem? (i := 933) rfl, ?_⟩
  refine List.forall_mem_cons.mpr ⟨List.mem_of_getElem? (i := 948) rfl, ?_⟩
  refine List.forall_mem_cons.mpr ⟨List.mem_of_getElem? (i := 957) rfl, ?_⟩
  refine List.forall_mem_cons.mpr ⟨List.mem_of_getElem? (i := 965) rfl, ?_⟩
  refine List.forall_mem_cons.mpr ⟨List.mem_of_getElem? (i := 974) rfl, ?_⟩
  refine List.forall_mem_cons.mpr ⟨List.mem_of_getElem? (i := 982) rfl, ?_⟩
  refine List.forall_mem_cons.mpr ⟨List.mem_of_getElem? (i := 986) rfl, ?_⟩
  refine List.forall_mem_cons.mpr ⟨List.mem_of_getElem? (i := 991) rfl, ?_⟩
  refine List.forall_mem_cons.mpr ⟨List.mem_of_getElem? (i := 1000) rfl, ?_⟩
  refine List.forall_mem_cons.mpr ⟨List.mem_of_getElem? (i := 1033) rfl, ?_⟩
  refine List.forall_mem_cons.mpr ⟨List.mem_of_getElem? (i := 1049) rfl, ?_⟩
  refine List.forall_mem_cons.mpr ⟨List.mem_of_getElem? (i := 415) rfl, ?_⟩
  refine List.forall_mem_cons.mpr ⟨List.mem_of_getElem? (i := 847) rfl, ?_⟩
  refine List.forall_mem_cons.mpr ⟨List.mem_of_getElem? (i := 649) rfl, ?_⟩
  refine List.forall_mem_cons.mpr ⟨List.mem_of_getElem? (i := 744) rfl, ?_⟩
  refine List.forall_mem_cons.mpr ⟨List.mem_of_getElem? (i := 740) rfl, ?_⟩
  refine List.forall_mem_cons.mpr ⟨List.mem_of_getElem? (i := 952) rfl, ?_⟩
  refine List.forall_mem_cons.mpr ⟨List.mem_of_getElem? (i := 765) rfl, ?_⟩
  refine List.forall_mem_cons.mpr ⟨List.mem_of_getElem? (i := 464) rfl, ?_⟩
  refine List.forall_mem_cons.mpr ⟨List.mem_of_getElem? (i := 482) rfl, ?_⟩
  refine List.forall_mem_cons.mpr ⟨List.mem_of_getElem? (i := 467) rfl, ?_⟩
  refine List.forall_mem_cons.mpr ⟨List.mem_of_getElem? (i := 524) rfl, ?_⟩
  refine List.forall_mem_cons.mpr ⟨List.mem_of_getElem? (i := 576) rfl, ?_⟩
  refine List.forall_mem_cons.mpr ⟨List.mem_of_getElem? (i := 423) rfl, ?_⟩
  refine List.forall_mem_cons.mpr ⟨List.mem_of_getElem? (i := 437) rfl, ?_⟩
  refine List.forall_mem_cons.mpr ⟨List.mem_of_getElem? (i := 453) rfl, ?_⟩
  refine List.forall_mem_cons.mpr ⟨List.mem_of_getElem? (i := 461) rfl, ?_⟩
  exact fun _ h => absurd h List.not_mem_nil
set_option maxRecDepth 100000 in
theorem qmi3_cd : ∀ q ∈ qmi3, Cond.code q.1 q.2.1 q.2.2.1 q.2.2.2.1 ∈ lw_tbl := by
  unfold qmi3
  refine List.forall_mem_cons.mpr ⟨List.mem_of_getElem? (i := 475) rfl, ?_⟩
  refine List.forall_mem_cons.mpr ⟨List.mem_of_getElem? (i := 479) rfl, ?_⟩
  refine List.forall_mem_cons.mpr ⟨List.mem_of_getElem? (i := 500) rfl, ?_⟩
  refine List.forall_mem_cons.mpr ⟨List.mem_of_getElem? (i := 534) rfl, ?_⟩
  refine List.forall_mem_cons.mpr ⟨List.mem_of_getElem? (i := 430) rfl, ?_⟩
  refine List.forall_mem_cons.mpr ⟨List.mem_of_getElem? (i := 427) rfl, ?_⟩
  refine List.forall_mem_cons.mpr ⟨List.mem_of_getElem? (i := 433) rfl, ?_⟩
  refine List.forall_mem_cons.mpr ⟨List.mem_of_getElem? (i := 457) rfl, ?_⟩
  refine List.forall_mem_cons.mpr ⟨List.mem_of_getElem? (i := 658) rfl, ?_⟩
  refine List.forall_mem_cons.mpr ⟨List.mem_of_getElem? (i := 748) rfl, ?_⟩
  refine List.forall_mem_cons.mpr ⟨List.mem_of_getElem? (i := 752) rfl, ?_⟩
  refine List.forall_mem_cons.mpr ⟨List.mem_of_getElem? (i := 928) rfl, ?_⟩
  refine List.forall_mem_cons.mpr ⟨List.mem_of_getElem? (i := 852) rfl, ?_⟩
  refine List.forall_mem_cons.mpr ⟨List.mem_of_getElem? (i := 863) rfl, ?_⟩
  refine List.forall_mem_cons.mpr ⟨List.mem_of_getElem? (i := 866) rfl, ?_⟩
  refine List.forall_mem_cons.mpr ⟨List.mem_of_getElem? (i := 916) rfl, ?_⟩
  refine List.forall_mem_cons.mpr ⟨List.mem_of_getElem? (i := 1041) rfl, ?_⟩
  refine List.forall_mem_cons.mpr ⟨List.mem_of_getElem? (i := 1037) rfl, ?_⟩
  refine List.forall_mem_cons.mpr ⟨List.mem_of_getElem? (i := 1045) rfl, ?_⟩
  refine List.forall_mem_cons.mpr ⟨List.mem_of_getElem? (i := 941) rfl, ?_⟩
  refine List.forall_mem_cons.mpr ⟨List.mem_of_getElem? (i := 641) rfl, ?_⟩
  refine List.forall_mem_cons.mpr ⟨List.mem_of_getElem? (i := 709) rfl, ?_⟩
  refine List.forall_mem_cons.mpr ⟨List.mem_of_getElem? (i := 654) rfl, ?_⟩
  refine List.forall_mem_cons.mpr ⟨List.mem_of_getElem? (i := 701) rfl, ?_⟩
  refine List.forall_mem_cons.mpr ⟨List.mem_of_getElem? (i := 716) rfl, ?_⟩
  refine List.forall_mem_cons.mpr ⟨List.mem_of_getElem? (i := 728) rfl, ?_⟩
  refine List.forall_mem_cons.mpr ⟨List.mem_of_getElem? (i := 724) rfl, ?_⟩
  refine List.forall_mem_cons.mpr ⟨List.mem_of_getElem? (i := 732) rfl, ?_⟩
  refine List.forall_mem_cons.mpr ⟨List.mem_of_getElem? (i := 620) rfl, ?_⟩
  refine List.forall_mem_cons.mpr ⟨List.mem_of_getElem? (i := 886) rfl, ?_⟩
  refine List.forall_mem_cons.mpr ⟨List.mem_of_getElem? (i := 893) rfl, ?_⟩
  refine List.forall_mem_cons.mpr ⟨List.mem_of_getElem? (i := 527) rfl, ?_⟩
  refine List.forall_mem_cons.mpr ⟨List.mem_of_getElem? (i := 1183) rfl, ?_⟩
  refine List.forall_mem_cons.mpr ⟨List.mem_of_getElem? (i := 1382) rfl, ?_⟩
  refine List.forall_mem_cons.mpr ⟨List.mem_of_getElem? (i := 1439) rfl, ?_⟩
  refine List.forall_mem_cons.mpr ⟨List.mem_of_getElem? (i := 1206) rfl, ?_⟩
  refine List.forall_mem_cons.mpr ⟨List.mem_of_getElem? (i := 1179) rfl, ?_⟩
  refine List.forall_mem_cons.mpr ⟨List.mem_of_getElem? (i := 1335) rfl, ?_⟩
  refine List.forall_mem_cons.mpr ⟨List.mem_of_getElem? (i := 1370) rfl, ?_⟩
  refine List.forall_mem_cons.mpr ⟨List.mem_of_getElem? (i := 1225) rfl, ?_⟩
  exact fun _ h => absurd h List.not_mem_nil
set_option maxRecDepth 100000 in
theorem qmi4_cd : ∀ q ∈ qmi4, Cond.code q.1 q.2.1 q.2.2.1 q.2.2.2.1 ∈ lw_tbl := by
  unfold qmi4
  refine List.forall_mem_cons.mpr ⟨List.mem_of_getElem? (i := 1233) rfl, ?_⟩
  refine List.forall_mem_cons.mpr ⟨List.mem_of_getElem? (i := 1176) rfl, ?_⟩
  refine List.forall_mem_cons.mpr ⟨List.mem_of_getElem? (i := 1195) rfl, ?_⟩
  refine List.forall_mem_cons.mpr ⟨List.mem_of_getElem? (i := 1203) rfl, ?_⟩
  refine List.forall_mem_cons.mpr ⟨List.mem_of_getElem? (i := 1199) rfl, ?_⟩
  refine List.forall_mem_cons.mpr ⟨List.mem_of_getElem? (i := 1191) rfl, ?_⟩
  refine List.forall_mem_cons.mpr ⟨List.mem_of_getElem? (i := 1222) rfl, ?_⟩
  refine List.forall_mem_cons.mpr ⟨List.mem_of_getElem? (i := 1187) rfl, ?_⟩
  refine List.forall_mem_cons.mpr ⟨List.mem_of_getElem? (i := 1214) rfl, ?_⟩
  refine List.forall_mem_cons.mpr ⟨List.mem_of_getElem? (i := 1218) rfl, ?_⟩
  refine List.forall_mem_cons.mpr ⟨List.mem_of_getElem? (i := 1210) rfl, ?_⟩
  refine List.forall_mem_cons.mpr ⟨List.mem_of_getElem? (i := 1304) rfl, ?_⟩
  refine List.forall_mem_cons.mpr ⟨List.mem_of_getElem? (i := 1268) rfl, ?_⟩
  refine List.forall_mem_cons.mpr ⟨List.mem_of_getElem? (i := 1272) rfl, ?_⟩
  refine List.forall_mem_cons.mpr ⟨List.mem_of_getElem? (i := 1276) rfl, ?_⟩
  refine List.forall_mem_cons.mpr ⟨List.mem_of_getElem? (i := 1249) rfl, ?_⟩
  refine List.forall_mem_cons.mpr ⟨List.mem_of_getElem? (i := 1257) rfl, ?_⟩
  refine List.forall_mem_cons.mpr ⟨List.mem_of_getElem? (i := 1245) rfl, ?_⟩
  refine List.forall_mem_cons.mpr ⟨List.mem_of_getElem? (i := 1241) rfl, ?_⟩
  refine List.forall_mem_cons.mpr ⟨List.mem_of_getElem? (i := 1288) rfl, ?_⟩
  refine List.forall_mem_cons.mpr ⟨List.mem_of_getElem? (i := 1229) rfl, ?_⟩
  refine List.forall_mem_cons.mpr ⟨List.mem_of_getElem? (i := 1237) rfl, ?_⟩
  refine List.forall_mem_cons.mpr ⟨List.mem_of_getElem? (i := 1260) rfl, ?_⟩
  refine List.forall_mem_cons.mpr ⟨List.mem_of_getElem? (i := 1253) rfl, ?_⟩
  refine List.forall_mem_cons.mpr ⟨List.mem_of_getElem? (i := 1264) rfl, ?_⟩
  refine List.forall_mem_cons.mpr ⟨List.mem_of_getElem? (i := 1280) rfl, ?_⟩
  refine List.forall_mem_cons.mpr ⟨List.mem_of_getElem? (i := 1284) rfl, ?_⟩
  refine List.forall_mem_cons.mpr ⟨List.mem_of_getElem? (i := 1292) rfl, ?_⟩
  refine List.forall_mem_cons.mpr ⟨List.mem_of_getElem? (i := 1296) rfl, ?_⟩
  refine List.forall_mem_cons.mpr ⟨List.mem_of_getElem? (i := 1300) rfl, ?_⟩
  refine List.forall_mem_cons.mpr ⟨List.mem_of_getElem? (i := 1308) rfl, ?_⟩
  refine List.forall_mem_cons.mpr ⟨List.mem_of_getElem? (i := 1320) rfl, ?_⟩
  refine List.forall_mem_cons.mpr ⟨List.mem_of_getElem? (i := 1332) rfl, ?_⟩
  refine List.forall_mem_cons.mpr ⟨List.mem_of_getElem? (i := 1328) rfl, ?_⟩
  refine List.forall_mem_cons.mpr ⟨List.mem_of_getElem? (i := 1316) rfl, ?_⟩
  refine List.forall_mem_cons.mpr ⟨List.mem_of_getElem? (i := 1312) rfl, ?_⟩
  refine List.forall_mem_cons.mpr ⟨List.mem_of_getElem? (i := 1324) rfl, ?_⟩
  refine List.forall_mem_cons.mpr ⟨List.mem_of_getElem? (i := 1355) rfl, ?_⟩
  refine List.forall_mem_cons.mpr ⟨List.mem_of_getElem? (i := 1347) rfl, ?_⟩
  refine List.forall_mem_cons.mpr ⟨List.mem_of_getElem? (i := 1351) rfl, ?_⟩
  exact fun _ h => absurd h List.not_mem_nil
set_option maxRecDepth 100000 in
theorem qmi5_cd : ∀ q ∈ qmi5, Cond.code q.1 q.2.1 q.2.2.1 q.2.2.2.1 ∈ lw_tbl := by
  unfold qmi5
  refine List.forall_mem_cons.mpr ⟨List.mem_of_getElem? (i := 1343) rfl, ?_⟩
  refine List.forall_mem_cons.mpr ⟨List.mem_of_getElem? (i := 1622) rfl, ?_⟩
  refine List.forall_mem_cons.mpr ⟨List.mem_of_getElem? (i := 1391) rfl, ?_⟩
  refine List.forall_mem_cons.mpr ⟨List.mem_of_getElem? (i := 1339) rfl, ?_⟩
  refine List.forall_mem_cons.mpr ⟨List.mem_of_getElem? (i := 1359) rfl, ?_⟩
  refine List.forall_mem_cons.mpr ⟨List.mem_of_getElem? (i := 1363) rfl, ?_⟩
  refine List.forall_mem_cons.mpr ⟨List.mem_of_getElem? (i := 1374) rfl, ?_⟩
  refine List.forall_mem_cons.mpr ⟨List.mem_of_getElem? (i := 1367) rfl, ?_⟩
  refine List.forall_mem_cons.mpr ⟨List.mem_of_getElem? (i := 1387) rfl, ?_⟩
  refine List.forall_mem_cons.mpr ⟨List.mem_of_getElem? (i := 1378) rfl, ?_⟩
  refine List.forall_mem_cons.mpr ⟨List.mem_of_getElem? (i := 1395) rfl, ?_⟩
  refine List.forall_mem_cons.mpr ⟨List.mem_of_getElem? (i := 1407) rfl, ?_⟩
  refine List.forall_mem_cons.mpr ⟨List.mem_of_getElem? (i := 1403) rfl, ?_⟩
  refine List.forall_mem_cons.mpr ⟨List.mem_of_getElem? (i := 1399) rfl, ?_⟩
  refine List.forall_mem_cons.mpr ⟨List.mem_of_getElem? (i := 1420) rfl, ?_⟩
  refine List.forall_mem_cons.mpr ⟨List.mem_of_getElem? (i := 1415) rfl, ?_⟩
  refine List.forall_mem_cons.mpr ⟨List.mem_of_getElem? (i := 1411) rfl, ?_⟩
  refine List.forall_mem_cons.mpr ⟨List.mem_of_getElem? (i := 1427) rfl, ?_⟩
  refine List.forall_mem_cons.mpr ⟨List.mem_of_getElem? (i := 1424) rfl, ?_⟩
  refine List.forall_mem_cons.mpr ⟨List.mem_of_getElem? (i := 1435) rfl, ?_⟩
  refine List.forall_mem_cons.mpr ⟨List.mem_of_getElem? (i := 1448) rfl, ?_⟩
  refine List.forall_mem_cons.mpr ⟨List.mem_of_getElem? (i := 1444) rfl, ?_⟩
  refine List.forall_mem_cons.mpr ⟨List.mem_of_getElem? (i := 1431) rfl, ?_⟩
  refine List.forall_mem_cons.mpr ⟨List.mem_of_getElem? (i := 1456) rfl, ?_⟩
  refine List.forall_mem_cons.mpr ⟨List.mem_of_getElem? (i := 1460) rfl, ?_⟩
  refine List.forall_mem_cons.mpr ⟨List.mem_of_getElem? (i := 1452) rfl, ?_⟩
  refine List.forall_mem_cons.mpr ⟨List.mem_of_getElem? (i := 1468) rfl, ?_⟩
  refine List.forall_mem_cons.mpr ⟨List.mem_of_getElem? (i := 1464) rfl, ?_⟩
  refine List.forall_mem_cons.mpr ⟨List.mem_of_getElem? (i := 1478) rfl, ?_⟩
  refine List.forall_mem_cons.mpr ⟨List.mem_of_getElem? (i := 1475) rfl, ?_⟩
  refine List.forall_mem_cons.mpr ⟨List.mem_of_getElem? (i := 1472) rfl, ?_⟩
  refine List.forall_mem_cons.mpr ⟨List.mem_of_getElem? (i := 1482) rfl, ?_⟩
  refine List.forall_mem_cons.mpr ⟨List.mem_of_getElem? (i := 1495) rfl, ?_⟩
  refine List.forall_mem_cons.mpr ⟨List.mem_of_getElem? (i := 1491) rfl, ?_⟩
  refine List.forall_mem_cons.mpr ⟨List.mem_of_getElem? (i := 1487) rfl, ?_⟩
  refine List.forall_mem_cons.mpr ⟨List.mem_of_getElem? (i := 1503) rfl, ?_⟩
  refine List.forall_mem_cons.mpr ⟨List.mem_of_getElem? (i := 1507) rfl, ?_⟩
  refine List.forall_mem_cons.mpr ⟨List.mem_of_getElem? (i := 1499) rfl, ?_⟩
  refine List.forall_mem_cons.mpr ⟨List.mem_of_getElem? (i := 1511) rfl, ?_⟩
  refine List.forall_mem_cons.mpr ⟨List.mem_of_getElem? (i := 1519) rfl, ?_⟩
  exact fun _ h => absurd h List.not_mem_nil
set_option maxRecDepth 100000 in
theorem qmi6_cd : ∀ q ∈ qmi6, Cond.code q.1 q.2.1 q.2.2.1 q.2.2.2.1 ∈ lw_tbl := by
  unfold qmi6
  refine List.forall_mem_cons.mpr ⟨List.mem_of_getElem? (i := 1515) rfl, ?_⟩
  refine List.forall_mem_cons.mpr ⟨List.mem_of_getElem? (i := 1527) rfl, ?_⟩
  refine List.forall_mem_cons.mpr ⟨List.mem_of_getElem? (i := 1523) rfl, ?_⟩
  refine List.forall_mem_cons.mpr ⟨List.mem_of_getElem? (i := 1535) rfl, ?_⟩
  refine List.forall_mem_cons.mpr ⟨List.mem_of_getElem? (i := 1531) rfl, ?_⟩
  refine List.forall_mem_cons.mpr ⟨List.mem_of_getElem? (i := 1543) rfl, ?_⟩
  refine List.forall_mem_cons.mpr ⟨List.mem_of_getElem? (i := 1539) rfl, ?_⟩
  refine List.forall_mem_cons.mpr ⟨List.mem_of_getElem? (i := 1547) rfl, ?_⟩
  refine List.forall_mem_cons.mpr ⟨List.mem_of_getElem? (i := 1551) rfl, ?_⟩
  refine List.forall_mem_cons.mpr ⟨List.mem_of_getElem? (i := 1559) rfl, ?_⟩
  refine List.forall_mem_cons.mpr ⟨List.mem_of_getElem? (i := 1555) rfl, ?_⟩
  refine List.forall_mem_cons.mpr ⟨List.mem_of_getElem? (i := 1567) rfl, ?_⟩
  refine List.forall_mem_cons.mpr ⟨List.mem_of_getElem? (i := 1563) rfl, ?_⟩
  refine List.forall_mem_cons.mpr ⟨List.mem_of_getElem? (i := 1575) rfl, ?_⟩
  refine List.forall_mem_cons.mpr ⟨List.mem_of_getElem? (i := 1571) rfl, ?_⟩
  refine List.forall_mem_cons.mpr ⟨List.mem_of_getElem? (i := 1583) rfl, ?_⟩
  refine List.forall_mem_cons.mpr ⟨List.mem_of_getElem? (i := 1579) rfl, ?_⟩
  refine List.forall_mem_cons.mpr ⟨List.mem_of_getElem? (i := 1591) rfl, ?_⟩
  refine List.forall_mem_cons.mpr ⟨List.mem_of_getElem? (i := 1587) rfl, ?_⟩
  refine List.forall_mem_cons.mpr ⟨List.mem_of_getElem? (i := 1595) rfl, ?_⟩
  refine List.forall_mem_cons.mpr ⟨List.mem_of_getElem? (i := 1599) rfl, ?_⟩
  refine List.forall_mem_cons.mpr ⟨List.mem_of_getElem? (i := 1603) rfl, ?_⟩
  refine List.forall_mem_cons.mpr ⟨List.mem_of_getElem? (i := 1607) rfl, ?_⟩
  refine List.forall_mem_cons.mpr ⟨List.mem_of_getElem? (i := 1611) rfl, ?_⟩
  refine List.forall_mem_cons.mpr ⟨List.mem_of_getElem? (i := 1618) rfl, ?_⟩
  refine List.forall_mem_cons.mpr ⟨List.mem_of_getElem? (i := 832) rfl, ?_⟩
  exact fun _ h => absurd h List.not_mem_nil
def qmis : List QMI := qmi0 ++ (qmi1 ++ (qmi2 ++ (qmi3 ++ (qmi4 ++ (qmi5 ++ (qmi6))))))
theorem qmis_ok : ∀ q ∈ qmis, qmiOk q = true ∧ Cond.code q.1 q.2.1 q.2.2.1 q.2.2.2.1 ∈ lw_tbl := by
  intro q h
  simp only [qmis, List.mem_append] at h
  rcases h with h | h | h | h | h | h | h
  · exact ⟨qmi0_ok q h, qmi0_cd q h⟩
  · exact ⟨qmi1_ok q h, qmi1_cd q h⟩
  · exact ⟨qmi2_ok q h, qmi2_cd q h⟩
  · exact ⟨qmi3_ok q h, qmi3_cd q h⟩
  · exact ⟨qmi4_ok q h, qmi4_cd q h⟩
  · exact ⟨qmi5_ok q h, qmi5_cd q h⟩
  · exact ⟨qmi6_ok q h, qmi6_cd q h⟩
def qmt : List (Nat × Nat × Nat × Bool × Nat) := [(0, 63, 104, false, 412), (0, 71, 116, false, 420), (0, 75, 117, false, 434), (0, 78, 9, true, 438), (0, 85, 111, false, 462), (0, 89, 10, true, 468), (0, 111, 11, true, 501), (0, 138, 2, true, 556), (0, 144, 17, true, 560), (0, 148, 112, false, 480), (0, 154, 12, true, 483), (0, 158, 19, true, 505), (0, 162, 115, false, 573), (0, 165, 20, true, 518), (0, 169, 21, true, 535), (0, 175, 13, true, 597), (0, 177, 16, true, 601), (0, 183, 148, false, 617), (0, 186, 106, false, 646), (0, 190, 142, false, 651), (0, 193, 128, false, 655), (0, 197, 27, true, 659), (0, 201, 15, true, 667), (0, 204, 29, true, 671), (0, 211, 50, true, 686), (0, 215, 143, false, 698), (0, 219, 141, false, 706), (0, 222, 144, false, 713), (0, 226, 146, false, 721), (0, 229, 147, false, 729), (0, 232, 108, false, 737), (0, 236, 129, false, 745), (0, 243, 110, false, 762), (0, 247, 42, true, 766), (0, 250, 44, true, 774), (0, 253, 45, true, 778), (0, 256, 33, true, 786), (0, 259, 37, true, 797), (0, 262, 34, true, 810), (0, 265, 107, false, 741), (0, 268, 40, true, 822), (0, 271, 113, false, 465), (0, 274, 105, false, 844), (0, 277, 132, false, 849), (0, 281, 133, false, 861), (0, 285, 14, true, 871), (0, 292, 49, true, 876), (0, 296, 149, false, 884), (0, 299, 150, false, 891), (0, 305, 25, true, 621), (0, 318, 135, false, 913), (0, 322, 131, false, 925), (0, 326, 114, false, 929), (0, 329, 48, true, 934), (0, 332, 139, false, 938), (0, 340, 109, false, 949), (0, 346, 265, false, 953), (0, 351, 18, true, 958), (0, 354, 46, true, 966), (0, 358, 47, true, 975), (0, 361, 23, true, 987), (0, 364, 22, true, 992), (0, 368, 52, true, 1001), (0, 371, 56, true, 1024), (0, 375, 137, false, 1034), (0, 378, 138, false, 1042), (0, 381, 24, true, 1050), (0, 387, 125, false, 424), (0, 390, 124, false, 428), (0, 393, 126, false, 431), (0, 396, 118, false, 450), (0, 399, 127, false, 454), (0, 402, 119, false, 458), (0, 405, 120, false, 472), (0, 408, 121, false, 476), (0, 412, 122, false, 497), (0, 415, 123, false, 531), (0, 418, 130, false, 749), (0, 422, 26, true, 753), (0, 426, 134, false, 864), (0, 430, 136, false, 1038), (0, 433, 140, false, 638), (0, 439, 145, false, 725), (2, 34, 6, true, 442), (2, 41, 0, true, 446), (2, 44, 1, true, 487), (2, 52, 13, false, 875), (2, 64, 10, false, 509), (2, 71, 3, true, 514), (2, 75, 17, false, 510), (2, 82, 114, true, 522), (2, 89, 151, true, 525), (2, 96, 8, true, 539), (2, 108, 7, true, 633), (2, 111, 2, true, 634), (2, 114, 23, false, 629), (2, 117, 11, false, 635), (2, 121, 20, false, 636), (2, 125, 24, false, 625), (2, 128, 21, false, 637), (1, 34, 4, false, 491), (1, 38, 5, false, 494), (6, 31, 53, false, 1005), (6, 35, 54, false, 1017), (6, 38, 21, true, 1023), (6, 41, 23, true, 1009), (6, 45, 11, true, 1010), (6, 49, 114, true, 1011), (6, 56, 55, false, 1012), (6, 60, 20, true, 1016), (6, 64, 10, true, 1021), (6, 68, 7, true, 1022), (6, 80, 151, true, 1029), (3, 28, 7, false, 543), (4, 38, 10, true, 757), (4, 56, 28, false, 663), (4, 66, 11, true, 675), (4, 76, 2, true, 676), (4, 82, 30, false, 677), (4, 89, 31, false, 682), (4, 93, 3, true, 681), (4, 97, 32, false, 690), (4, 100, 35, false, 790), (4, 110, 36, false, 794), (4, 114, 33, false, 801), (4, 117, 38, false, 802), (4, 126, 39, false, 826), (4, 130, 265, false, 830), (4, 135, 41, false, 836), (4, 138, 43, false, 770), (4, 144, 51, false, 695), (8, 13, 57, false, 408), (8, 17, 161, false, 1173), (8, 18, 58, false, 416), (8, 22, 167, false, 1184), (8, 23, 59, false, 548), (8, 27, 185, false, 1277), (8, 28, 60, false, 552), (8, 31, 186, false, 1281), (8, 32, 61, false, 561), (8, 36, 187, false, 1289), (8, 37, 62, false, 565), (8, 41, 188, false, 1293), (8, 42, 63, false, 569), (8, 45, 189, false, 1297), (8, 46, 64, false, 577), (8, 49, 190, false, 1305), (8, 50, 65, false, 581), (8, 53, 172, false, 1265), (8, 54, 75, false, 733), (8, 57, 195, false, 1309), (8, 58, 76, false, 758), (8, 61, 196, false, 1321), (8, 62, 77, false, 782), (8, 65, 203, false, 1336), (8, 66, 78, false, 806), (8, 69, 204, false, 1356), (8, 70, 79, false, 814), (8, 73, 205, false, 1360), (8, 74, 80, false, 818), (8, 77, 207, false, 1364), (8, 78, 81, false, 840), (8, 81, 209, false, 1375), (8, 82, 82, false, 853), (8, 85, 210, false, 1392), (8, 86, 83, false, 857), (8, 89, 213, false, 1396), (8, 90, 84, false, 867), (8, 93, 216, false, 1408), (8, 94, 85, false, 880), (8, 97, 218, false, 1421), (8, 98, 72, false, 642), (8, 102, 222, false, 1428), (8, 103, 73, false, 702), (8, 106, 225, false, 1449), (8, 107, 74, false, 717), (8, 110, 227, false, 1461), (8, 111, 86, false, 887), (8, 115, 230, false, 1469), (8, 116, 87, false, 894), (8, 119, 231, false, 1479), (8, 120, 88, false, 899), (8, 123, 234, false, 1484), (8, 124, 90, false, 909), (8, 127, 237, false, 1496), (8, 128, 91, false, 917), (8, 131, 238, false, 1508), (8, 132, 92, false, 921), (8, 135, 240, false, 1512), (8, 136, 93, false, 930), (8, 139, 242, false, 1520), (8, 140, 94, false, 945), (8, 143, 244, false, 1528), (8, 144, 95, false, 954), (8, 147, 246, false, 1536), (8, 148, 96, false, 962), (8, 151, 247, false, 1544), (8, 152, 97, false, 971), (8, 155, 248, false, 1548), (8, 156, 98, false, 979), (8, 159, 250, false, 1552), (8, 160, 99, false, 983), (8, 163, 252, false, 1560), (8, 164, 100, false, 988), (8, 167, 254, false, 1568), (8, 168, 101, false, 997), (8, 171, 256, false, 1576), (8, 172, 102, false, 1030), (8, 175, 258, false, 1584), (8, 176, 103, false, 1046), (8, 179, 259, false, 1592), (8, 180, 69, false, 605), (8, 183, 260, false, 1596), (8, 184, 71, false, 613), (8, 187, 261, false, 1600), (8, 188, 70, false, 609), (8, 191, 262, false, 1604), (8, 192, 89, false, 903), (8, 195, 263, false, 1608), (8, 196, 66, false, 585), (8, 199, 173, false, 1269), (8, 200, 67, false, 589), (8, 203, 174, false, 1273), (8, 204, 68, false, 593), (8, 207, 264, false, 1615), (7, 94, 156, false, 1177), (7, 101, 152, false, 1180), (7, 108, 162, false, 1192), (7, 112, 155, false, 1204), (7, 116, 163, false, 1200), (7, 123, 164, false, 1196), (7, 126, 159, false, 1223), (7, 130, 180, false, 1226), (7, 134, 160, false, 1230), (7, 137, 181, false, 1234), (7, 140, 183, false, 1250), (7, 146, 184, false, 1261), (7, 149, 165, false, 1188), (7, 153, 170, false, 1207), (7, 157, 166, false, 1219), (7, 170, 168, false, 1211), (7, 174, 169, false, 1215), (7, 180, 175, false, 1246), (7, 183, 177, false, 1242), (7, 186, 178, false, 1238), (7, 189, 176, false, 1254), (7, 192, 182, false, 1258), (7, 196, 179, false, 1285), (7, 199, 171, false, 1301), (7, 205, 157, false, 1333), (7, 208, 191, false, 1317), (7, 212, 192, false, 1329), (7, 215, 194, false, 1313), (7, 218, 193, false, 1325), (7, 224, 197, false, 1352), (7, 227, 198, false, 1344), (7, 231, 199, false, 1348), (7, 234, 200, false, 1340), (7, 237, 158, false, 1368), (7, 240, 206, false, 1371), (7, 243, 202, false, 1388), (7, 246, 153, false, 1379), (7, 249, 208, false, 1384), (7, 252, 211, false, 1404), (7, 255, 212, false, 1400), (7, 259, 215, false, 1412), (7, 262, 214, false, 1417), (7, 265, 217, false, 1425), (7, 271, 220, false, 1445), (7, 274, 219, false, 1432), (7, 277, 154, false, 1436), (7, 281, 221, false, 1441), (7, 285, 223, false, 1453), (7, 288, 224, false, 1457), (7, 291, 226, false, 1465), (7, 294, 229, false, 1473), (7, 298, 228, false, 1476), (7, 304, 232, false, 1492), (7, 307, 233, false, 1488), (7, 310, 235, false, 1500), (7, 314, 236, false, 1504), (7, 318, 239, false, 1516), (7, 321, 241, false, 1524), (7, 327, 243, false, 1532), (7, 330, 245, false, 1540), (7, 333, 249, false, 1556), (7, 336, 251, false, 1564), (7, 339, 253, false, 1572), (7, 342, 255, false, 1580), (7, 345, 257, false, 1588), (7, 351, 201, false, 1619)]
def qname (y : Nat) : MethodName := ((qmis[y]?).map (fun q => q.1)).getD ⟨"", "", ""⟩
def qmw (o cp y : Nat) (nest : Bool) : Cond := if nest = true then .methodLinkNest (qownS o) cp (qname y) "JealousByCalendar" else .methodLink (qownS o) cp (qname y)
set_option maxRecDepth 20000 in
theorem qmt_ok : ∀ e ∈ qmt, lw_tbl[e.2.2.2.2]? = some (qmw e.1 e.2.1 e.2.2.1 e.2.2.2.1) := by decide +kernel
def qxt : List (Nat × Nat × Nat × Nat) := [(0, 335, 2, 942), (0, 436, 0, 710), (0, 442, 1, 528), (2, 102, 1, 996), (6, 74, 1, 1028), (3, 32, 1, 547), (4, 121, 1, 694), (4, 141, 0, 970)]
def qxn (x : Nat) : MethodName := if x = 0 then Lib.Math.max.name else if x = 1 then Lib.Math.min.name else Lib.Math.abs.name
theorem qxt_ok : ∀ e ∈ qxt, e.2.2.1 < 3 ∧ lw_tbl[e.2.2.2]? = some (.methodLink (qownS e.1) e.2.1 (qxn e.2.2.1)) := by decide +kernel
theorem qx_max_st : Cond.static Lib.Math.max.name ∈ lw_tbl := List.mem_of_getElem? (i := 711) (by decide +kernel)
theorem qx_max_cd : Cond.code Lib.Math.max.name Lib.Math.max.code 2 (some .int) ∈ lw_tbl := List.mem_of_getElem? (i := 712) (by decide +kernel)
theorem qx_min_st : Cond.static Lib.Math.min.name ∈ lw_tbl := List.mem_of_getElem? (i := 529) (by decide +kernel)
theorem qx_min_cd : Cond.code Lib.Math.min.name Lib.Math.min.code 2 (some .int) ∈ lw_tbl := List.mem_of_getElem? (i := 530) (by decide +kernel)
theorem qx_abs_st : Cond.static Lib.Math.abs.name ∈ lw_tbl := List.mem_of_getElem? (i := 943) (by decide +kernel)
theorem qx_abs_cd : Cond.code Lib.Math.abs.name Lib.Math.abs.code 1 (some .int) ∈ lw_tbl := List.mem_of_getElem? (i := 944) (by decide +kernel)
theorem qx_ini : Cond.initialized "java/lang/Math" ∈ lw_tbl := List.mem_of_getElem? (i := 156) (by decide +kernel)
def gtb : List Cond := lw_tbl.filter goodWord
theorem gtb_of {w : Cond} (h : w ∈ lw_tbl) (hg : goodWord w = true) : w ∈ gtb := List.mem_filter.mpr ⟨h, hg⟩
theorem gtb_at {w : Cond} {i : Nat} (h : lw_tbl[i]? = some w) (hg : goodWord w = true) : w ∈ gtb := gtb_of (List.mem_of_getElem? h) hg
theorem gtb_good {big : List Cond} (h : ∀ w ∈ gtb, w ∈ big) : GoodIn big gtb := fun w hw => ⟨h w hw, good_of_word (List.mem_filter.mp hw).2⟩
theorem qcl_get {ci : Nat} (h : ci < 8) : qcl[ci]? = some (qownS ci, qT ci, qN ci) := by
  unfold qcl
  rw [List.getElem?_map, List.getElem?_range h]
  rfl
set_option maxRecDepth 20000 in
theorem qin : ∀ ci, ci < 8 → ∀ w ∈ u_ws (qownS ci) (qT ci) (qN ci), w ∈ lw_tbl ∧ goodWord w = true := by decide +kernel
theorem qnm : ∀ ci, ci < 8 → ∀ a, a < qN ci → ∀ b, b < qN ci → a ≠ b → (qT ci a).2.1 ≠ (qT ci b).2.1 := by decide +kernel
theorem qtyok : ∀ ci, ci < 8 → ∀ k, k < qN ci → parseFieldDescriptor (qT ci k).2.2.1 = some (qty ci k) := by decide +kernel
/-- the kinds of fields, told of the classes' tables: an int, a boolean that isn't final, or a final reference -/
def qfKc (t ci k : Nat) : Bool := decide ((qT ci k).1 = qownS ci) && ((decide (qfK t k = 0) && decide (qty ci k = .int) && !(qT ci k).2.2.2) || (decide (qfK t k = 1) && decide (qty ci k = .boolean) && !(qT ci k).2.2.2) || (decide (qfK t k = 2) && (qT ci k).2.2.2))
theorem qfK_all : ∀ t, t < 50 → ((qci t).map fun ci => decide (ci < 8) && (List.range (qN ci)).all (qfKc t ci)).getD true = true := by decide +kernel
