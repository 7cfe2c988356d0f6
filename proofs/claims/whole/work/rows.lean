section
-- ===== PART A: goes FIRST, ahead of the names: the tables' words, and 'selects' of the private methods out of them =====
/-- a private method of a class that the tables say can be made, by its rows of tables_1 -/
def lw_okq (q : MethodName × Nat) : Prop := (q.1.cls ≠ "java/lang/invoke/MethodHandle" ∧ q.1.cls ≠ "java/lang/invoke/VarHandle") ∧ Cond.instantiable q.1.cls q.2 ∈ tables_1 ∧ Cond.privateMethod q.1 ∈ tables_1 ∧ Cond.instanceMethod q.1 ∈ tables_1
theorem lw_p0 : lw_okq (⟨"JealousByCalendar", "refuse", "(I)I"⟩, 17) := ⟨⟨by decide +kernel, by decide +kernel⟩, List.mem_of_getElem? (i := 12) (by decide +kernel), List.mem_of_getElem? (i := 266) (by decide +kernel), List.mem_of_getElem? (i := 267) (by decide +kernel)⟩
theorem lw_p1 : lw_okq (⟨"JealousByCalendar", "firstMisplaced", "()I"⟩, 17) := ⟨⟨by decide +kernel, by decide +kernel⟩, List.mem_of_getElem? (i := 12) (by decide +kernel), List.mem_of_getElem? (i := 274) (by decide +kernel), List.mem_of_getElem? (i := 275) (by decide +kernel)⟩
theorem lw_p2 : lw_okq (⟨"JealousByCalendar", "letterAt", "(I)I"⟩, 17) := ⟨⟨by decide +kernel, by decide +kernel⟩, List.mem_of_getElem? (i := 12) (by decide +kernel), List.mem_of_getElem? (i := 278) (by decide +kernel), List.mem_of_getElem? (i := 279) (by decide +kernel)⟩
theorem lw_p3 : lw_okq (⟨"JealousByCalendar", "tellStatements", "()I"⟩, 17) := ⟨⟨by decide +kernel, by decide +kernel⟩, List.mem_of_getElem? (i := 12) (by decide +kernel), List.mem_of_getElem? (i := 288) (by decide +kernel), List.mem_of_getElem? (i := 289) (by decide +kernel)⟩
theorem lw_p4 : lw_okq (⟨"JealousByCalendar$Affair", "copyFrom", "(LJealousByCalendar$Affair;)V"⟩, 5) := ⟨⟨by decide +kernel, by decide +kernel⟩, List.mem_of_getElem? (i := 20) (by decide +kernel), List.mem_of_getElem? (i := 292) (by decide +kernel), List.mem_of_getElem? (i := 293) (by decide +kernel)⟩
theorem lw_p5 : lw_okq (⟨"JealousByCalendar$Person", "copyFrom", "(LJealousByCalendar$Person;)V"⟩, 5) := ⟨⟨by decide +kernel, by decide +kernel⟩, List.mem_of_getElem? (i := 26) (by decide +kernel), List.mem_of_getElem? (i := 296) (by decide +kernel), List.mem_of_getElem? (i := 297) (by decide +kernel)⟩
theorem lw_p6 : lw_okq (⟨"JealousByCalendar$Cause", "copyFrom", "(LJealousByCalendar$Cause;)V"⟩, 7) := ⟨⟨by decide +kernel, by decide +kernel⟩, List.mem_of_getElem? (i := 59) (by decide +kernel), List.mem_of_getElem? (i := 300) (by decide +kernel), List.mem_of_getElem? (i := 301) (by decide +kernel)⟩
theorem lw_p7 : lw_okq (⟨"JealousByCalendar", "tellStatement", "(I)Z"⟩, 17) := ⟨⟨by decide +kernel, by decide +kernel⟩, List.mem_of_getElem? (i := 12) (by decide +kernel), List.mem_of_getElem? (i := 304) (by decide +kernel), List.mem_of_getElem? (i := 305) (by decide +kernel)⟩
theorem lw_p8 : lw_okq (⟨"JealousByCalendar", "figureAt", "(II)I"⟩, 17) := ⟨⟨by decide +kernel, by decide +kernel⟩, List.mem_of_getElem? (i := 12) (by decide +kernel), List.mem_of_getElem? (i := 308) (by decide +kernel), List.mem_of_getElem? (i := 309) (by decide +kernel)⟩
theorem lw_p9 : lw_okq (⟨"JealousByCalendar", "tellWeekday", "(II)Z"⟩, 17) := ⟨⟨by decide +kernel, by decide +kernel⟩, List.mem_of_getElem? (i := 12) (by decide +kernel), List.mem_of_getElem? (i := 312) (by decide +kernel), List.mem_of_getElem? (i := 313) (by decide +kernel)⟩
theorem lw_p10 : lw_okq (⟨"JealousByCalendar$Affair", "person", "(I)LJealousByCalendar$Person;"⟩, 5) := ⟨⟨by decide +kernel, by decide +kernel⟩, List.mem_of_getElem? (i := 20) (by decide +kernel), List.mem_of_getElem? (i := 322) (by decide +kernel), List.mem_of_getElem? (i := 323) (by decide +kernel)⟩
theorem lw_p11 : lw_okq (⟨"JealousByCalendar", "tellPurse", "(II)Z"⟩, 17) := ⟨⟨by decide +kernel, by decide +kernel⟩, List.mem_of_getElem? (i := 12) (by decide +kernel), List.mem_of_getElem? (i := 326) (by decide +kernel), List.mem_of_getElem? (i := 327) (by decide +kernel)⟩
theorem lw_p12 : lw_okq (⟨"JealousByCalendar", "tellCause", "(IIII)Z"⟩, 17) := ⟨⟨by decide +kernel, by decide +kernel⟩, List.mem_of_getElem? (i := 12) (by decide +kernel), List.mem_of_getElem? (i := 330) (by decide +kernel), List.mem_of_getElem? (i := 331) (by decide +kernel)⟩
theorem lw_p13 : lw_okq (⟨"JealousByCalendar$Affair", "bring", "(IIII)V"⟩, 5) := ⟨⟨by decide +kernel, by decide +kernel⟩, List.mem_of_getElem? (i := 20) (by decide +kernel), List.mem_of_getElem? (i := 337) (by decide +kernel), List.mem_of_getElem? (i := 338) (by decide +kernel)⟩
theorem lw_p14 : lw_okq (⟨"JealousByCalendar$Cause", "become", "(IIII)V"⟩, 7) := ⟨⟨by decide +kernel, by decide +kernel⟩, List.mem_of_getElem? (i := 59) (by decide +kernel), List.mem_of_getElem? (i := 341) (by decide +kernel), List.mem_of_getElem? (i := 342) (by decide +kernel)⟩
theorem lw_p15 : lw_okq (⟨"JealousByCalendar", "tellUse", "(I)Z"⟩, 17) := ⟨⟨by decide +kernel, by decide +kernel⟩, List.mem_of_getElem? (i := 12) (by decide +kernel), List.mem_of_getElem? (i := 351) (by decide +kernel), List.mem_of_getElem? (i := 352) (by decide +kernel)⟩
def lw_privs_1 : List (MethodName × Nat) := [(⟨"JealousByCalendar", "refuse", "(I)I"⟩, 17), (⟨"JealousByCalendar", "firstMisplaced", "()I"⟩, 17), (⟨"JealousByCalendar", "letterAt", "(I)I"⟩, 17), (⟨"JealousByCalendar", "tellStatements", "()I"⟩, 17), (⟨"JealousByCalendar$Affair", "copyFrom", "(LJealousByCalendar$Affair;)V"⟩, 5), (⟨"JealousByCalendar$Person", "copyFrom", "(LJealousByCalendar$Person;)V"⟩, 5), (⟨"JealousByCalendar$Cause", "copyFrom", "(LJealousByCalendar$Cause;)V"⟩, 7), (⟨"JealousByCalendar", "tellStatement", "(I)Z"⟩, 17), (⟨"JealousByCalendar", "figureAt", "(II)I"⟩, 17), (⟨"JealousByCalendar", "tellWeekday", "(II)Z"⟩, 17), (⟨"JealousByCalendar$Affair", "person", "(I)LJealousByCalendar$Person;"⟩, 5), (⟨"JealousByCalendar", "tellPurse", "(II)Z"⟩, 17), (⟨"JealousByCalendar", "tellCause", "(IIII)Z"⟩, 17), (⟨"JealousByCalendar$Affair", "bring", "(IIII)V"⟩, 5), (⟨"JealousByCalendar$Cause", "become", "(IIII)V"⟩, 7), (⟨"JealousByCalendar", "tellUse", "(I)Z"⟩, 17)]
theorem lw_r1 : ∀ q ∈ lw_privs_1, lw_okq q := List.forall_mem_cons.mpr ⟨lw_p0, List.forall_mem_cons.mpr ⟨lw_p1, List.forall_mem_cons.mpr ⟨lw_p2, List.forall_mem_cons.mpr ⟨lw_p3, List.forall_mem_cons.mpr ⟨lw_p4, List.forall_mem_cons.mpr ⟨lw_p5, List.forall_mem_cons.mpr ⟨lw_p6, List.forall_mem_cons.mpr ⟨lw_p7, List.forall_mem_cons.mpr ⟨lw_p8, List.forall_mem_cons.mpr ⟨lw_p9, List.forall_mem_cons.mpr ⟨lw_p10, List.forall_mem_cons.mpr ⟨lw_p11, List.forall_mem_cons.mpr ⟨lw_p12, List.forall_mem_cons.mpr ⟨lw_p13, List.forall_mem_cons.mpr ⟨lw_p14, List.forall_mem_cons.mpr ⟨lw_p15, fun _ h => absurd h List.not_mem_nil⟩⟩⟩⟩⟩⟩⟩⟩⟩⟩⟩⟩⟩⟩⟩⟩
theorem lw_p16 : lw_okq (⟨"JealousByCalendar$Affair", "causeAt", "(I)LJealousByCalendar$Cause;"⟩, 5) := ⟨⟨by decide +kernel, by decide +kernel⟩, List.mem_of_getElem? (i := 20) (by decide +kernel), List.mem_of_getElem? (i := 355) (by decide +kernel), List.mem_of_getElem? (i := 356) (by decide +kernel)⟩
theorem lw_p17 : lw_okq (⟨"JealousByCalendar$Affair", "isUsable", "(LJealousByCalendar$Cause;)Z"⟩, 5) := ⟨⟨by decide +kernel, by decide +kernel⟩, List.mem_of_getElem? (i := 20) (by decide +kernel), List.mem_of_getElem? (i := 359) (by decide +kernel), List.mem_of_getElem? (i := 360) (by decide +kernel)⟩
theorem lw_p18 : lw_okq (⟨"JealousByCalendar$Affair", "isGood", "(LJealousByCalendar$Cause;I)Z"⟩, 5) := ⟨⟨by decide +kernel, by decide +kernel⟩, List.mem_of_getElem? (i := 20) (by decide +kernel), List.mem_of_getElem? (i := 364) (by decide +kernel), List.mem_of_getElem? (i := 365) (by decide +kernel)⟩
theorem lw_p19 : lw_okq (⟨"JealousByCalendar$Cause", "isFreshOn", "(I)Z"⟩, 7) := ⟨⟨by decide +kernel, by decide +kernel⟩, List.mem_of_getElem? (i := 59) (by decide +kernel), List.mem_of_getElem? (i := 368) (by decide +kernel), List.mem_of_getElem? (i := 369) (by decide +kernel)⟩
theorem lw_p20 : lw_okq (⟨"JealousByCalendar$Affair", "spend", "(LJealousByCalendar$Cause;)I"⟩, 5) := ⟨⟨by decide +kernel, by decide +kernel⟩, List.mem_of_getElem? (i := 20) (by decide +kernel), List.mem_of_getElem? (i := 372) (by decide +kernel), List.mem_of_getElem? (i := 373) (by decide +kernel)⟩
theorem lw_p21 : lw_okq (⟨"JealousByCalendar", "tellDays", "(I)Z"⟩, 17) := ⟨⟨by decide +kernel, by decide +kernel⟩, List.mem_of_getElem? (i := 12) (by decide +kernel), List.mem_of_getElem? (i := 385) (by decide +kernel), List.mem_of_getElem? (i := 386) (by decide +kernel)⟩
theorem lw_p22 : lw_okq (⟨"JealousByCalendar$Affair", "endDay", "()V"⟩, 5) := ⟨⟨by decide +kernel, by decide +kernel⟩, List.mem_of_getElem? (i := 20) (by decide +kernel), List.mem_of_getElem? (i := 389) (by decide +kernel), List.mem_of_getElem? (i := 390) (by decide +kernel)⟩
theorem lw_p23 : lw_okq (⟨"JealousByCalendar$Person", "endDay", "(I)V"⟩, 5) := ⟨⟨by decide +kernel, by decide +kernel⟩, List.mem_of_getElem? (i := 26) (by decide +kernel), List.mem_of_getElem? (i := 393) (by decide +kernel), List.mem_of_getElem? (i := 394) (by decide +kernel)⟩
theorem lw_p24 : lw_okq (⟨"JealousByCalendar$Person", "isDueOn", "(I)Z"⟩, 5) := ⟨⟨by decide +kernel, by decide +kernel⟩, List.mem_of_getElem? (i := 26) (by decide +kernel), List.mem_of_getElem? (i := 397) (by decide +kernel), List.mem_of_getElem? (i := 398) (by decide +kernel)⟩
theorem lw_p25 : lw_okq (⟨"JealousByCalendar$Cause", "lastDay", "()I"⟩, 7) := ⟨⟨by decide +kernel, by decide +kernel⟩, List.mem_of_getElem? (i := 59) (by decide +kernel), List.mem_of_getElem? (i := 410) (by decide +kernel), List.mem_of_getElem? (i := 411) (by decide +kernel)⟩
theorem lw_p26 : lw_okq (⟨"JealousByCalendar", "remember", "()V"⟩, 17) := ⟨⟨by decide +kernel, by decide +kernel⟩, List.mem_of_getElem? (i := 12) (by decide +kernel), List.mem_of_getElem? (i := 427) (by decide +kernel), List.mem_of_getElem? (i := 428) (by decide +kernel)⟩
theorem lw_p27 : lw_okq (⟨"JealousByCalendar$Affair", "used", "()I"⟩, 5) := ⟨⟨by decide +kernel, by decide +kernel⟩, List.mem_of_getElem? (i := 20) (by decide +kernel), List.mem_of_getElem? (i := 451) (by decide +kernel), List.mem_of_getElem? (i := 452) (by decide +kernel)⟩
theorem lw_p28 : lw_okq (⟨"JealousByCalendar$Affair", "weightUnused", "()I"⟩, 5) := ⟨⟨by decide +kernel, by decide +kernel⟩, List.mem_of_getElem? (i := 20) (by decide +kernel), List.mem_of_getElem? (i := 455) (by decide +kernel), List.mem_of_getElem? (i := 456) (by decide +kernel)⟩
theorem lw_p29 : lw_okq (⟨"JealousByCalendar", "firstMistold", "(I)I"⟩, 17) := ⟨⟨by decide +kernel, by decide +kernel⟩, List.mem_of_getElem? (i := 12) (by decide +kernel), List.mem_of_getElem? (i := 471) (by decide +kernel), List.mem_of_getElem? (i := 472) (by decide +kernel)⟩
theorem lw_p30 : lw_okq (⟨"JealousByCalendar$Affair", "liveTo", "(I)V"⟩, 5) := ⟨⟨by decide +kernel, by decide +kernel⟩, List.mem_of_getElem? (i := 20) (by decide +kernel), List.mem_of_getElem? (i := 475) (by decide +kernel), List.mem_of_getElem? (i := 476) (by decide +kernel)⟩
theorem lw_p31 : lw_okq (⟨"JealousByCalendar$Affair", "liveDay", "(I)I"⟩, 5) := ⟨⟨by decide +kernel, by decide +kernel⟩, List.mem_of_getElem? (i := 20) (by decide +kernel), List.mem_of_getElem? (i := 479) (by decide +kernel), List.mem_of_getElem? (i := 480) (by decide +kernel)⟩
def lw_privs_2 : List (MethodName × Nat) := [(⟨"JealousByCalendar$Affair", "causeAt", "(I)LJealousByCalendar$Cause;"⟩, 5), (⟨"JealousByCalendar$Affair", "isUsable", "(LJealousByCalendar$Cause;)Z"⟩, 5), (⟨"JealousByCalendar$Affair", "isGood", "(LJealousByCalendar$Cause;I)Z"⟩, 5), (⟨"JealousByCalendar$Cause", "isFreshOn", "(I)Z"⟩, 7), (⟨"JealousByCalendar$Affair", "spend", "(LJealousByCalendar$Cause;)I"⟩, 5), (⟨"JealousByCalendar", "tellDays", "(I)Z"⟩, 17), (⟨"JealousByCalendar$Affair", "endDay", "()V"⟩, 5), (⟨"JealousByCalendar$Person", "endDay", "(I)V"⟩, 5), (⟨"JealousByCalendar$Person", "isDueOn", "(I)Z"⟩, 5), (⟨"JealousByCalendar$Cause", "lastDay", "()I"⟩, 7), (⟨"JealousByCalendar", "remember", "()V"⟩, 17), (⟨"JealousByCalendar$Affair", "used", "()I"⟩, 5), (⟨"JealousByCalendar$Affair", "weightUnused", "()I"⟩, 5), (⟨"JealousByCalendar", "firstMistold", "(I)I"⟩, 17), (⟨"JealousByCalendar$Affair", "liveTo", "(I)V"⟩, 5), (⟨"JealousByCalendar$Affair", "liveDay", "(I)I"⟩, 5)]
theorem lw_r2 : ∀ q ∈ lw_privs_2, lw_okq q := List.forall_mem_cons.mpr ⟨lw_p16, List.forall_mem_cons.mpr ⟨lw_p17, List.forall_mem_cons.mpr ⟨lw_p18, List.forall_mem_cons.mpr ⟨lw_p19, List.forall_mem_cons.mpr ⟨lw_p20, List.forall_mem_cons.mpr ⟨lw_p21, List.forall_mem_cons.mpr ⟨lw_p22, List.forall_mem_cons.mpr ⟨lw_p23, List.forall_mem_cons.mpr ⟨lw_p24, List.forall_mem_cons.mpr ⟨lw_p25, List.forall_mem_cons.mpr ⟨lw_p26, List.forall_mem_cons.mpr ⟨lw_p27, List.forall_mem_cons.mpr ⟨lw_p28, List.forall_mem_cons.mpr ⟨lw_p29, List.forall_mem_cons.mpr ⟨lw_p30, List.forall_mem_cons.mpr ⟨lw_p31, fun _ h => absurd h List.not_mem_nil⟩⟩⟩⟩⟩⟩⟩⟩⟩⟩⟩⟩⟩⟩⟩⟩
theorem lw_p32 : lw_okq (⟨"JealousByCalendar$Affair", "atHand", "(I)I"⟩, 5) := ⟨⟨by decide +kernel, by decide +kernel⟩, List.mem_of_getElem? (i := 20) (by decide +kernel), List.mem_of_getElem? (i := 483) (by decide +kernel), List.mem_of_getElem? (i := 484) (by decide +kernel)⟩
theorem lw_p33 : lw_okq (⟨"JealousByCalendar", "numberAt", "(I)I"⟩, 17) := ⟨⟨by decide +kernel, by decide +kernel⟩, List.mem_of_getElem? (i := 12) (by decide +kernel), List.mem_of_getElem? (i := 492) (by decide +kernel), List.mem_of_getElem? (i := 493) (by decide +kernel)⟩
theorem lw_p34 : lw_okq (⟨"JealousByCalendar", "refuseLong", "(I)J"⟩, 17) := ⟨⟨by decide +kernel, by decide +kernel⟩, List.mem_of_getElem? (i := 12) (by decide +kernel), List.mem_of_getElem? (i := 500) (by decide +kernel), List.mem_of_getElem? (i := 501) (by decide +kernel)⟩
theorem lw_p35 : lw_okq (⟨"JealousByCalendar", "isRowOfDays", "(I)Z"⟩, 17) := ⟨⟨by decide +kernel, by decide +kernel⟩, List.mem_of_getElem? (i := 12) (by decide +kernel), List.mem_of_getElem? (i := 505) (by decide +kernel), List.mem_of_getElem? (i := 506) (by decide +kernel)⟩
theorem lw_p36 : lw_okq (⟨"JealousByCalendar", "planOf", "(I)LJealousByCalendar$Plan;"⟩, 17) := ⟨⟨by decide +kernel, by decide +kernel⟩, List.mem_of_getElem? (i := 12) (by decide +kernel), List.mem_of_getElem? (i := 509) (by decide +kernel), List.mem_of_getElem? (i := 510) (by decide +kernel)⟩
theorem lw_p37 : lw_okq (⟨"JealousByCalendar$Plan", "takeDays", "([II)V"⟩, 11) := ⟨⟨by decide +kernel, by decide +kernel⟩, List.mem_of_getElem? (i := 124) (by decide +kernel), List.mem_of_getElem? (i := 513) (by decide +kernel), List.mem_of_getElem? (i := 514) (by decide +kernel)⟩
theorem lw_p38 : lw_okq (⟨"JealousByCalendar$Plan", "takeDay", "(I)V"⟩, 11) := ⟨⟨by decide +kernel, by decide +kernel⟩, List.mem_of_getElem? (i := 124) (by decide +kernel), List.mem_of_getElem? (i := 517) (by decide +kernel), List.mem_of_getElem? (i := 518) (by decide +kernel)⟩
theorem lw_p39 : lw_okq (⟨"JealousByCalendar$Affair", "unusedFor", "(I)I"⟩, 5) := ⟨⟨by decide +kernel, by decide +kernel⟩, List.mem_of_getElem? (i := 20) (by decide +kernel), List.mem_of_getElem? (i := 521) (by decide +kernel), List.mem_of_getElem? (i := 522) (by decide +kernel)⟩
theorem lw_p40 : lw_okq (⟨"JealousByCalendar$Plan", "takeCauses", "(LJealousByCalendar$Affair;I)V"⟩, 11) := ⟨⟨by decide +kernel, by decide +kernel⟩, List.mem_of_getElem? (i := 124) (by decide +kernel), List.mem_of_getElem? (i := 525) (by decide +kernel), List.mem_of_getElem? (i := 526) (by decide +kernel)⟩
theorem lw_p41 : lw_okq (⟨"JealousByCalendar$Plan", "freshDaysOf", "(LJealousByCalendar$Cause;)I"⟩, 11) := ⟨⟨by decide +kernel, by decide +kernel⟩, List.mem_of_getElem? (i := 124) (by decide +kernel), List.mem_of_getElem? (i := 531) (by decide +kernel), List.mem_of_getElem? (i := 532) (by decide +kernel)⟩
theorem lw_p42 : lw_okq (⟨"JealousByCalendar$Plan", "sortIn", "(LJealousByCalendar$Choice;)V"⟩, 11) := ⟨⟨by decide +kernel, by decide +kernel⟩, List.mem_of_getElem? (i := 124) (by decide +kernel), List.mem_of_getElem? (i := 536) (by decide +kernel), List.mem_of_getElem? (i := 537) (by decide +kernel)⟩
theorem lw_p43 : lw_okq (⟨"JealousByCalendar$Plan", "waysOf", "(I[J)J"⟩, 11) := ⟨⟨by decide +kernel, by decide +kernel⟩, List.mem_of_getElem? (i := 124) (by decide +kernel), List.mem_of_getElem? (i := 540) (by decide +kernel), List.mem_of_getElem? (i := 541) (by decide +kernel)⟩
theorem lw_p44 : lw_okq (⟨"JealousByCalendar$Plan", "allDays", "()I"⟩, 11) := ⟨⟨by decide +kernel, by decide +kernel⟩, List.mem_of_getElem? (i := 124) (by decide +kernel), List.mem_of_getElem? (i := 544) (by decide +kernel), List.mem_of_getElem? (i := 545) (by decide +kernel)⟩
theorem lw_p45 : lw_okq (⟨"JealousByCalendar", "meantCauses", "(LJealousByCalendar$Plan;JZ)J"⟩, 17) := ⟨⟨by decide +kernel, by decide +kernel⟩, List.mem_of_getElem? (i := 12) (by decide +kernel), List.mem_of_getElem? (i := 552) (by decide +kernel), List.mem_of_getElem? (i := 553) (by decide +kernel)⟩
theorem lw_p46 : lw_okq (⟨"JealousByCalendar", "mostInRow", "()I"⟩, 17) := ⟨⟨by decide +kernel, by decide +kernel⟩, List.mem_of_getElem? (i := 12) (by decide +kernel), List.mem_of_getElem? (i := 560) (by decide +kernel), List.mem_of_getElem? (i := 561) (by decide +kernel)⟩
theorem lw_p47 : lw_okq (⟨"JealousByCalendar", "isRowByLaw", "(II)Z"⟩, 17) := ⟨⟨by decide +kernel, by decide +kernel⟩, List.mem_of_getElem? (i := 12) (by decide +kernel), List.mem_of_getElem? (i := 567) (by decide +kernel), List.mem_of_getElem? (i := 568) (by decide +kernel)⟩
def lw_privs_3 : List (MethodName × Nat) := [(⟨"JealousByCalendar$Affair", "atHand", "(I)I"⟩, 5), (⟨"JealousByCalendar", "numberAt", "(I)I"⟩, 17), (⟨"JealousByCalendar", "refuseLong", "(I)J"⟩, 17), (⟨"JealousByCalendar", "isRowOfDays", "(I)Z"⟩, 17), (⟨"JealousByCalendar", "planOf", "(I)LJealousByCalendar$Plan;"⟩, 17), (⟨"JealousByCalendar$Plan", "takeDays", "([II)V"⟩, 11), (⟨"JealousByCalendar$Plan", "takeDay", "(I)V"⟩, 11), (⟨"JealousByCalendar$Affair", "unusedFor", "(I)I"⟩, 5), (⟨"JealousByCalendar$Plan", "takeCauses", "(LJealousByCalendar$Affair;I)V"⟩, 11), (⟨"JealousByCalendar$Plan", "freshDaysOf", "(LJealousByCalendar$Cause;)I"⟩, 11), (⟨"JealousByCalendar$Plan", "sortIn", "(LJealousByCalendar$Choice;)V"⟩, 11), (⟨"JealousByCalendar$Plan", "waysOf", "(I[J)J"⟩, 11), (⟨"JealousByCalendar$Plan", "allDays", "()I"⟩, 11), (⟨"JealousByCalendar", "meantCauses", "(LJealousByCalendar$Plan;JZ)J"⟩, 17), (⟨"JealousByCalendar", "mostInRow", "()I"⟩, 17), (⟨"JealousByCalendar", "isRowByLaw", "(II)Z"⟩, 17)]
theorem lw_r3 : ∀ q ∈ lw_privs_3, lw_okq q := List.forall_mem_cons.mpr ⟨lw_p32, List.forall_mem_cons.mpr ⟨lw_p33, List.forall_mem_cons.mpr ⟨lw_p34, List.forall_mem_cons.mpr ⟨lw_p35, List.forall_mem_cons.mpr ⟨lw_p36, List.forall_mem_cons.mpr ⟨lw_p37, List.forall_mem_cons.mpr ⟨lw_p38, List.forall_mem_cons.mpr ⟨lw_p39, List.forall_mem_cons.mpr ⟨lw_p40, List.forall_mem_cons.mpr ⟨lw_p41, List.forall_mem_cons.mpr ⟨lw_p42, List.forall_mem_cons.mpr ⟨lw_p43, List.forall_mem_cons.mpr ⟨lw_p44, List.forall_mem_cons.mpr ⟨lw_p45, List.forall_mem_cons.mpr ⟨lw_p46, List.forall_mem_cons.mpr ⟨lw_p47, fun _ h => absurd h List.not_mem_nil⟩⟩⟩⟩⟩⟩⟩⟩⟩⟩⟩⟩⟩⟩⟩⟩
theorem lw_p48 : lw_okq (⟨"JealousByCalendar", "fewestFriends", "()I"⟩, 17) := ⟨⟨by decide +kernel, by decide +kernel⟩, List.mem_of_getElem? (i := 12) (by decide +kernel), List.mem_of_getElem? (i := 575) (by decide +kernel), List.mem_of_getElem? (i := 576) (by decide +kernel)⟩
theorem lw_p49 : lw_okq (⟨"JealousByCalendar", "couplesOn", "(I)I"⟩, 17) := ⟨⟨by decide +kernel, by decide +kernel⟩, List.mem_of_getElem? (i := 12) (by decide +kernel), List.mem_of_getElem? (i := 579) (by decide +kernel), List.mem_of_getElem? (i := 580) (by decide +kernel)⟩
theorem lw_p50 : lw_okq (⟨"JealousByCalendar", "busiestWeekday", "()I"⟩, 17) := ⟨⟨by decide +kernel, by decide +kernel⟩, List.mem_of_getElem? (i := 12) (by decide +kernel), List.mem_of_getElem? (i := 583) (by decide +kernel), List.mem_of_getElem? (i := 584) (by decide +kernel)⟩
theorem lw_p51 : lw_okq (⟨"JealousByCalendar", "faultOfOneAndDay", "(II)I"⟩, 17) := ⟨⟨by decide +kernel, by decide +kernel⟩, List.mem_of_getElem? (i := 12) (by decide +kernel), List.mem_of_getElem? (i := 591) (by decide +kernel), List.mem_of_getElem? (i := 592) (by decide +kernel)⟩
theorem lw_p52 : lw_okq (⟨"JealousByCalendar", "faultOfDay", "(I)I"⟩, 17) := ⟨⟨by decide +kernel, by decide +kernel⟩, List.mem_of_getElem? (i := 12) (by decide +kernel), List.mem_of_getElem? (i := 595) (by decide +kernel), List.mem_of_getElem? (i := 596) (by decide +kernel)⟩
theorem lw_p53 : lw_okq (⟨"JealousByCalendar", "prepared", "(LJealousByCalendar$Affair;II)LJealousByCalendar$Plan;"⟩, 17) := ⟨⟨by decide +kernel, by decide +kernel⟩, List.mem_of_getElem? (i := 12) (by decide +kernel), List.mem_of_getElem? (i := 599) (by decide +kernel), List.mem_of_getElem? (i := 600) (by decide +kernel)⟩
theorem lw_p54 : lw_okq (⟨"JealousByCalendar", "preparedOn", "(LJealousByCalendar$Affair;III)LJealousByCalendar$Plan;"⟩, 17) := ⟨⟨by decide +kernel, by decide +kernel⟩, List.mem_of_getElem? (i := 12) (by decide +kernel), List.mem_of_getElem? (i := 603) (by decide +kernel), List.mem_of_getElem? (i := 604) (by decide +kernel)⟩
theorem lw_p55 : lw_okq (⟨"JealousByCalendar$Plan", "takeNeeded", "(LJealousByCalendar$Affair;III)V"⟩, 11) := ⟨⟨by decide +kernel, by decide +kernel⟩, List.mem_of_getElem? (i := 124) (by decide +kernel), List.mem_of_getElem? (i := 607) (by decide +kernel), List.mem_of_getElem? (i := 608) (by decide +kernel)⟩
theorem lw_p56 : lw_okq (⟨"JealousByCalendar", "faultOfOneDayWhat", "(IIII)I"⟩, 17) := ⟨⟨by decide +kernel, by decide +kernel⟩, List.mem_of_getElem? (i := 12) (by decide +kernel), List.mem_of_getElem? (i := 616) (by decide +kernel), List.mem_of_getElem? (i := 617) (by decide +kernel)⟩
theorem lw_p57 : lw_okq (⟨"JealousByCalendar$Plan", "layByHand", "()V"⟩, 11) := ⟨⟨by decide +kernel, by decide +kernel⟩, List.mem_of_getElem? (i := 124) (by decide +kernel), List.mem_of_getElem? (i := 620) (by decide +kernel), List.mem_of_getElem? (i := 621) (by decide +kernel)⟩
theorem lw_p58 : lw_okq (⟨"JealousByCalendar$Plan", "soonestOn", "(II)I"⟩, 11) := ⟨⟨by decide +kernel, by decide +kernel⟩, List.mem_of_getElem? (i := 124) (by decide +kernel), List.mem_of_getElem? (i := 624) (by decide +kernel), List.mem_of_getElem? (i := 625) (by decide +kernel)⟩
theorem lw_p59 : lw_okq (⟨"JealousByCalendar$Plan", "withoutByHand", "()I"⟩, 11) := ⟨⟨by decide +kernel, by decide +kernel⟩, List.mem_of_getElem? (i := 124) (by decide +kernel), List.mem_of_getElem? (i := 628) (by decide +kernel), List.mem_of_getElem? (i := 629) (by decide +kernel)⟩
theorem lw_p60 : lw_okq (⟨"JealousByCalendar$Plan", "firstWithoutByHand", "()I"⟩, 11) := ⟨⟨by decide +kernel, by decide +kernel⟩, List.mem_of_getElem? (i := 124) (by decide +kernel), List.mem_of_getElem? (i := 632) (by decide +kernel), List.mem_of_getElem? (i := 633) (by decide +kernel)⟩
theorem lw_p61 : lw_okq (⟨"JealousByCalendar$Plan", "value", "()I"⟩, 11) := ⟨⟨by decide +kernel, by decide +kernel⟩, List.mem_of_getElem? (i := 124) (by decide +kernel), List.mem_of_getElem? (i := 640) (by decide +kernel), List.mem_of_getElem? (i := 641) (by decide +kernel)⟩
theorem lw_p62 : lw_okq (⟨"JealousByCalendar$Plan", "bestOf", "(II)I"⟩, 11) := ⟨⟨by decide +kernel, by decide +kernel⟩, List.mem_of_getElem? (i := 124) (by decide +kernel), List.mem_of_getElem? (i := 644) (by decide +kernel), List.mem_of_getElem? (i := 645) (by decide +kernel)⟩
theorem lw_p63 : lw_okq (⟨"JealousByCalendar$Plan", "firstWay", "(I)I"⟩, 11) := ⟨⟨by decide +kernel, by decide +kernel⟩, List.mem_of_getElem? (i := 124) (by decide +kernel), List.mem_of_getElem? (i := 651) (by decide +kernel), List.mem_of_getElem? (i := 652) (by decide +kernel)⟩
def lw_privs_4 : List (MethodName × Nat) := [(⟨"JealousByCalendar", "fewestFriends", "()I"⟩, 17), (⟨"JealousByCalendar", "couplesOn", "(I)I"⟩, 17), (⟨"JealousByCalendar", "busiestWeekday", "()I"⟩, 17), (⟨"JealousByCalendar", "faultOfOneAndDay", "(II)I"⟩, 17), (⟨"JealousByCalendar", "faultOfDay", "(I)I"⟩, 17), (⟨"JealousByCalendar", "prepared", "(LJealousByCalendar$Affair;II)LJealousByCalendar$Plan;"⟩, 17), (⟨"JealousByCalendar", "preparedOn", "(LJealousByCalendar$Affair;III)LJealousByCalendar$Plan;"⟩, 17), (⟨"JealousByCalendar$Plan", "takeNeeded", "(LJealousByCalendar$Affair;III)V"⟩, 11), (⟨"JealousByCalendar", "faultOfOneDayWhat", "(IIII)I"⟩, 17), (⟨"JealousByCalendar$Plan", "layByHand", "()V"⟩, 11), (⟨"JealousByCalendar$Plan", "soonestOn", "(II)I"⟩, 11), (⟨"JealousByCalendar$Plan", "withoutByHand", "()I"⟩, 11), (⟨"JealousByCalendar$Plan", "firstWithoutByHand", "()I"⟩, 11), (⟨"JealousByCalendar$Plan", "value", "()I"⟩, 11), (⟨"JealousByCalendar$Plan", "bestOf", "(II)I"⟩, 11), (⟨"JealousByCalendar$Plan", "firstWay", "(I)I"⟩, 11)]
theorem lw_r4 : ∀ q ∈ lw_privs_4, lw_okq q := List.forall_mem_cons.mpr ⟨lw_p48, List.forall_mem_cons.mpr ⟨lw_p49, List.forall_mem_cons.mpr ⟨lw_p50, List.forall_mem_cons.mpr ⟨lw_p51, List.forall_mem_cons.mpr ⟨lw_p52, List.forall_mem_cons.mpr ⟨lw_p53, List.forall_mem_cons.mpr ⟨lw_p54, List.forall_mem_cons.mpr ⟨lw_p55, List.forall_mem_cons.mpr ⟨lw_p56, List.forall_mem_cons.mpr ⟨lw_p57, List.forall_mem_cons.mpr ⟨lw_p58, List.forall_mem_cons.mpr ⟨lw_p59, List.forall_mem_cons.mpr ⟨lw_p60, List.forall_mem_cons.mpr ⟨lw_p61, List.forall_mem_cons.mpr ⟨lw_p62, List.forall_mem_cons.mpr ⟨lw_p63, fun _ h => absurd h List.not_mem_nil⟩⟩⟩⟩⟩⟩⟩⟩⟩⟩⟩⟩⟩⟩⟩⟩
theorem lw_p64 : lw_okq (⟨"JealousByCalendar$Plan", "firstOn", "(III)LJealousByCalendar$Choice;"⟩, 11) := ⟨⟨by decide +kernel, by decide +kernel⟩, List.mem_of_getElem? (i := 124) (by decide +kernel), List.mem_of_getElem? (i := 656) (by decide +kernel), List.mem_of_getElem? (i := 657) (by decide +kernel)⟩
theorem lw_p65 : lw_okq (⟨"JealousByCalendar$Plan", "valueWithout", "(I)I"⟩, 11) := ⟨⟨by decide +kernel, by decide +kernel⟩, List.mem_of_getElem? (i := 124) (by decide +kernel), List.mem_of_getElem? (i := 664) (by decide +kernel), List.mem_of_getElem? (i := 665) (by decide +kernel)⟩
theorem lw_p66 : lw_okq (⟨"JealousByCalendar$Plan", "shortDays", "()I"⟩, 11) := ⟨⟨by decide +kernel, by decide +kernel⟩, List.mem_of_getElem? (i := 124) (by decide +kernel), List.mem_of_getElem? (i := 676) (by decide +kernel), List.mem_of_getElem? (i := 677) (by decide +kernel)⟩
theorem lw_p67 : lw_okq (⟨"JealousByCalendar$Plan", "causesGoodOn", "(I)I"⟩, 11) := ⟨⟨by decide +kernel, by decide +kernel⟩, List.mem_of_getElem? (i := 124) (by decide +kernel), List.mem_of_getElem? (i := 680) (by decide +kernel), List.mem_of_getElem? (i := 681) (by decide +kernel)⟩
theorem lw_p68 : lw_okq (⟨"JealousByCalendar$Plan", "causesOfDays", "(II)I"⟩, 11) := ⟨⟨by decide +kernel, by decide +kernel⟩, List.mem_of_getElem? (i := 124) (by decide +kernel), List.mem_of_getElem? (i := 690) (by decide +kernel), List.mem_of_getElem? (i := 691) (by decide +kernel)⟩
theorem lw_p69 : lw_okq (⟨"JealousByCalendar", "refuseFar", "(I)I"⟩, 17) := ⟨⟨by decide +kernel, by decide +kernel⟩, List.mem_of_getElem? (i := 12) (by decide +kernel), List.mem_of_getElem? (i := 698) (by decide +kernel), List.mem_of_getElem? (i := 699) (by decide +kernel)⟩
theorem lw_p70 : lw_okq (⟨"JealousByCalendar", "settledOn", "(III)I"⟩, 17) := ⟨⟨by decide +kernel, by decide +kernel⟩, List.mem_of_getElem? (i := 12) (by decide +kernel), List.mem_of_getElem? (i := 703) (by decide +kernel), List.mem_of_getElem? (i := 704) (by decide +kernel)⟩
theorem lw_p71 : lw_okq (⟨"JealousByCalendar$Affair", "unused", "()I"⟩, 5) := ⟨⟨by decide +kernel, by decide +kernel⟩, List.mem_of_getElem? (i := 20) (by decide +kernel), List.mem_of_getElem? (i := 725) (by decide +kernel), List.mem_of_getElem? (i := 726) (by decide +kernel)⟩
theorem lw_p72 : lw_okq (⟨"JealousByCalendar$Plan", "leadByTaking", "(LJealousByCalendar$Choice;)I"⟩, 11) := ⟨⟨by decide +kernel, by decide +kernel⟩, List.mem_of_getElem? (i := 124) (by decide +kernel), List.mem_of_getElem? (i := 730) (by decide +kernel), List.mem_of_getElem? (i := 731) (by decide +kernel)⟩
theorem lw_p73 : lw_okq (⟨"JealousByCalendar", "valueWithOneMore", "(IIIII)I"⟩, 17) := ⟨⟨by decide +kernel, by decide +kernel⟩, List.mem_of_getElem? (i := 12) (by decide +kernel), List.mem_of_getElem? (i := 767) (by decide +kernel), List.mem_of_getElem? (i := 768) (by decide +kernel)⟩
theorem lw_p74 : lw_okq (⟨"JealousByCalendar", "valueOfBoth", "(LJealousByCalendar$Affair;I)I"⟩, 17) := ⟨⟨by decide +kernel, by decide +kernel⟩, List.mem_of_getElem? (i := 12) (by decide +kernel), List.mem_of_getElem? (i := 779) (by decide +kernel), List.mem_of_getElem? (i := 780) (by decide +kernel)⟩
theorem lw_p75 : lw_okq (⟨"JealousByCalendar$Plan", "weightOf", "(I)I"⟩, 11) := ⟨⟨by decide +kernel, by decide +kernel⟩, List.mem_of_getElem? (i := 124) (by decide +kernel), List.mem_of_getElem? (i := 788) (by decide +kernel), List.mem_of_getElem? (i := 789) (by decide +kernel)⟩
theorem lw_p76 : lw_okq (⟨"JealousByCalendar", "evenHeap", "(I)I"⟩, 17) := ⟨⟨by decide +kernel, by decide +kernel⟩, List.mem_of_getElem? (i := 12) (by decide +kernel), List.mem_of_getElem? (i := 792) (by decide +kernel), List.mem_of_getElem? (i := 793) (by decide +kernel)⟩
theorem lw_p77 : lw_okq (⟨"JealousByCalendar", "faultOfDayWhat", "(II)I"⟩, 17) := ⟨⟨by decide +kernel, by decide +kernel⟩, List.mem_of_getElem? (i := 12) (by decide +kernel), List.mem_of_getElem? (i := 803) (by decide +kernel), List.mem_of_getElem? (i := 804) (by decide +kernel)⟩
theorem lw_p78 : lw_okq (⟨"JealousByCalendar$Affair", "hasGoodOn", "(I)Z"⟩, 5) := ⟨⟨by decide +kernel, by decide +kernel⟩, List.mem_of_getElem? (i := 20) (by decide +kernel), List.mem_of_getElem? (i := 812) (by decide +kernel), List.mem_of_getElem? (i := 813) (by decide +kernel)⟩
theorem lw_p79 : lw_okq (⟨"JealousByCalendar$Plan", "longestByHand", "(Z)I"⟩, 11) := ⟨⟨by decide +kernel, by decide +kernel⟩, List.mem_of_getElem? (i := 124) (by decide +kernel), List.mem_of_getElem? (i := 820) (by decide +kernel), List.mem_of_getElem? (i := 821) (by decide +kernel)⟩
def lw_privs_5 : List (MethodName × Nat) := [(⟨"JealousByCalendar$Plan", "firstOn", "(III)LJealousByCalendar$Choice;"⟩, 11), (⟨"JealousByCalendar$Plan", "valueWithout", "(I)I"⟩, 11), (⟨"JealousByCalendar$Plan", "shortDays", "()I"⟩, 11), (⟨"JealousByCalendar$Plan", "causesGoodOn", "(I)I"⟩, 11), (⟨"JealousByCalendar$Plan", "causesOfDays", "(II)I"⟩, 11), (⟨"JealousByCalendar", "refuseFar", "(I)I"⟩, 17), (⟨"JealousByCalendar", "settledOn", "(III)I"⟩, 17), (⟨"JealousByCalendar$Affair", "unused", "()I"⟩, 5), (⟨"JealousByCalendar$Plan", "leadByTaking", "(LJealousByCalendar$Choice;)I"⟩, 11), (⟨"JealousByCalendar", "valueWithOneMore", "(IIIII)I"⟩, 17), (⟨"JealousByCalendar", "valueOfBoth", "(LJealousByCalendar$Affair;I)I"⟩, 17), (⟨"JealousByCalendar$Plan", "weightOf", "(I)I"⟩, 11), (⟨"JealousByCalendar", "evenHeap", "(I)I"⟩, 17), (⟨"JealousByCalendar", "faultOfDayWhat", "(II)I"⟩, 17), (⟨"JealousByCalendar$Affair", "hasGoodOn", "(I)Z"⟩, 5), (⟨"JealousByCalendar$Plan", "longestByHand", "(Z)I"⟩, 11)]
theorem lw_r5 : ∀ q ∈ lw_privs_5, lw_okq q := List.forall_mem_cons.mpr ⟨lw_p64, List.forall_mem_cons.mpr ⟨lw_p65, List.forall_mem_cons.mpr ⟨lw_p66, List.forall_mem_cons.mpr ⟨lw_p67, List.forall_mem_cons.mpr ⟨lw_p68, List.forall_mem_cons.mpr ⟨lw_p69, List.forall_mem_cons.mpr ⟨lw_p70, List.forall_mem_cons.mpr ⟨lw_p71, List.forall_mem_cons.mpr ⟨lw_p72, List.forall_mem_cons.mpr ⟨lw_p73, List.forall_mem_cons.mpr ⟨lw_p74, List.forall_mem_cons.mpr ⟨lw_p75, List.forall_mem_cons.mpr ⟨lw_p76, List.forall_mem_cons.mpr ⟨lw_p77, List.forall_mem_cons.mpr ⟨lw_p78, List.forall_mem_cons.mpr ⟨lw_p79, fun _ h => absurd h List.not_mem_nil⟩⟩⟩⟩⟩⟩⟩⟩⟩⟩⟩⟩⟩⟩⟩⟩
theorem lw_p80 : lw_okq (⟨"JealousByCalendar$Plan", "hasByHandOn", "(I)Z"⟩, 11) := ⟨⟨by decide +kernel, by decide +kernel⟩, List.mem_of_getElem? (i := 124) (by decide +kernel), List.mem_of_getElem? (i := 829) (by decide +kernel), List.mem_of_getElem? (i := 830) (by decide +kernel)⟩
theorem lw_p81 : lw_okq (⟨"JealousByCalendar$Affair", "findLater", "(II)V"⟩, 5) := ⟨⟨by decide +kernel, by decide +kernel⟩, List.mem_of_getElem? (i := 20) (by decide +kernel), List.mem_of_getElem? (i := 846) (by decide +kernel), List.mem_of_getElem? (i := 847) (by decide +kernel)⟩
theorem lw_p82 : lw_okq (⟨"JealousByCalendar$Course", "follow", "(LJealousByCalendar$Affair;I)V"⟩, 4) := ⟨⟨by decide +kernel, by decide +kernel⟩, List.mem_of_getElem? (i := 189) (by decide +kernel), List.mem_of_getElem? (i := 855) (by decide +kernel), List.mem_of_getElem? (i := 856) (by decide +kernel)⟩
theorem lw_p83 : lw_okq (⟨"JealousByCalendar$Course", "followUse", "(LJealousByCalendar$Affair;I)V"⟩, 4) := ⟨⟨by decide +kernel, by decide +kernel⟩, List.mem_of_getElem? (i := 189) (by decide +kernel), List.mem_of_getElem? (i := 859) (by decide +kernel), List.mem_of_getElem? (i := 860) (by decide +kernel)⟩
theorem lw_p84 : lw_okq (⟨"JealousByCalendar$Course", "note", "(IIZ)V"⟩, 4) := ⟨⟨by decide +kernel, by decide +kernel⟩, List.mem_of_getElem? (i := 189) (by decide +kernel), List.mem_of_getElem? (i := 866) (by decide +kernel), List.mem_of_getElem? (i := 867) (by decide +kernel)⟩
theorem lw_p85 : lw_okq (⟨"JealousByCalendar$Course", "followEnd", "(LJealousByCalendar$Affair;I)V"⟩, 4) := ⟨⟨by decide +kernel, by decide +kernel⟩, List.mem_of_getElem? (i := 189) (by decide +kernel), List.mem_of_getElem? (i := 871) (by decide +kernel), List.mem_of_getElem? (i := 872) (by decide +kernel)⟩
theorem lw_p86 : lw_okq (⟨"JealousByCalendar$Course", "isCoveredBy", "(III)Z"⟩, 4) := ⟨⟨by decide +kernel, by decide +kernel⟩, List.mem_of_getElem? (i := 189) (by decide +kernel), List.mem_of_getElem? (i := 878) (by decide +kernel), List.mem_of_getElem? (i := 879) (by decide +kernel)⟩
theorem lw_p87 : lw_okq (⟨"JealousByCalendar", "worstLoss", "()I"⟩, 17) := ⟨⟨by decide +kernel, by decide +kernel⟩, List.mem_of_getElem? (i := 12) (by decide +kernel), List.mem_of_getElem? (i := 888) (by decide +kernel), List.mem_of_getElem? (i := 889) (by decide +kernel)⟩
theorem lw_p88 : lw_okq (⟨"JealousByCalendar", "valueOfBothWithout", "(I)I"⟩, 17) := ⟨⟨by decide +kernel, by decide +kernel⟩, List.mem_of_getElem? (i := 12) (by decide +kernel), List.mem_of_getElem? (i := 892) (by decide +kernel), List.mem_of_getElem? (i := 893) (by decide +kernel)⟩
theorem lw_p89 : lw_okq (⟨"JealousByCalendar", "worstLossOfTwo", "()I"⟩, 17) := ⟨⟨by decide +kernel, by decide +kernel⟩, List.mem_of_getElem? (i := 12) (by decide +kernel), List.mem_of_getElem? (i := 896) (by decide +kernel), List.mem_of_getElem? (i := 897) (by decide +kernel)⟩
theorem lw_p90 : lw_okq (⟨"JealousByCalendarModel", "no", "(I)I"⟩, 38) := ⟨⟨by decide +kernel, by decide +kernel⟩, List.mem_of_getElem? (i := 905) (by decide +kernel), List.mem_of_getElem? (i := 1034) (by decide +kernel), List.mem_of_getElem? (i := 1035) (by decide +kernel)⟩
theorem lw_p91 : lw_okq (⟨"JealousByCalendarModel", "statement", "()Z"⟩, 38) := ⟨⟨by decide +kernel, by decide +kernel⟩, List.mem_of_getElem? (i := 905) (by decide +kernel), List.mem_of_getElem? (i := 1042) (by decide +kernel), List.mem_of_getElem? (i := 1043) (by decide +kernel)⟩
theorem lw_p92 : lw_okq (⟨"JealousByCalendarModel", "next", "()I"⟩, 38) := ⟨⟨by decide +kernel, by decide +kernel⟩, List.mem_of_getElem? (i := 905) (by decide +kernel), List.mem_of_getElem? (i := 1046) (by decide +kernel), List.mem_of_getElem? (i := 1047) (by decide +kernel)⟩
theorem lw_p93 : lw_okq (⟨"JealousByCalendarModel", "readsAll", "(II)Z"⟩, 38) := ⟨⟨by decide +kernel, by decide +kernel⟩, List.mem_of_getElem? (i := 905) (by decide +kernel), List.mem_of_getElem? (i := 1050) (by decide +kernel), List.mem_of_getElem? (i := 1051) (by decide +kernel)⟩
theorem lw_p94 : lw_okq (⟨"JealousByCalendarModel", "readsDigits", "(II)Z"⟩, 38) := ⟨⟨by decide +kernel, by decide +kernel⟩, List.mem_of_getElem? (i := 905) (by decide +kernel), List.mem_of_getElem? (i := 1054) (by decide +kernel), List.mem_of_getElem? (i := 1055) (by decide +kernel)⟩
theorem lw_p95 : lw_okq (⟨"JealousByCalendarModel", "passesAll", "(IZ)V"⟩, 38) := ⟨⟨by decide +kernel, by decide +kernel⟩, List.mem_of_getElem? (i := 905) (by decide +kernel), List.mem_of_getElem? (i := 1061) (by decide +kernel), List.mem_of_getElem? (i := 1062) (by decide +kernel)⟩
def lw_privs_6 : List (MethodName × Nat) := [(⟨"JealousByCalendar$Plan", "hasByHandOn", "(I)Z"⟩, 11), (⟨"JealousByCalendar$Affair", "findLater", "(II)V"⟩, 5), (⟨"JealousByCalendar$Course", "follow", "(LJealousByCalendar$Affair;I)V"⟩, 4), (⟨"JealousByCalendar$Course", "followUse", "(LJealousByCalendar$Affair;I)V"⟩, 4), (⟨"JealousByCalendar$Course", "note", "(IIZ)V"⟩, 4), (⟨"JealousByCalendar$Course", "followEnd", "(LJealousByCalendar$Affair;I)V"⟩, 4), (⟨"JealousByCalendar$Course", "isCoveredBy", "(III)Z"⟩, 4), (⟨"JealousByCalendar", "worstLoss", "()I"⟩, 17), (⟨"JealousByCalendar", "valueOfBothWithout", "(I)I"⟩, 17), (⟨"JealousByCalendar", "worstLossOfTwo", "()I"⟩, 17), (⟨"JealousByCalendarModel", "no", "(I)I"⟩, 38), (⟨"JealousByCalendarModel", "statement", "()Z"⟩, 38), (⟨"JealousByCalendarModel", "next", "()I"⟩, 38), (⟨"JealousByCalendarModel", "readsAll", "(II)Z"⟩, 38), (⟨"JealousByCalendarModel", "readsDigits", "(II)Z"⟩, 38), (⟨"JealousByCalendarModel", "passesAll", "(IZ)V"⟩, 38)]
theorem lw_r6 : ∀ q ∈ lw_privs_6, lw_okq q := List.forall_mem_cons.mpr ⟨lw_p80, List.forall_mem_cons.mpr ⟨lw_p81, List.forall_mem_cons.mpr ⟨lw_p82, List.forall_mem_cons.mpr ⟨lw_p83, List.forall_mem_cons.mpr ⟨lw_p84, List.forall_mem_cons.mpr ⟨lw_p85, List.forall_mem_cons.mpr ⟨lw_p86, List.forall_mem_cons.mpr ⟨lw_p87, List.forall_mem_cons.mpr ⟨lw_p88, List.forall_mem_cons.mpr ⟨lw_p89, List.forall_mem_cons.mpr ⟨lw_p90, List.forall_mem_cons.mpr ⟨lw_p91, List.forall_mem_cons.mpr ⟨lw_p92, List.forall_mem_cons.mpr ⟨lw_p93, List.forall_mem_cons.mpr ⟨lw_p94, List.forall_mem_cons.mpr ⟨lw_p95, fun _ h => absurd h List.not_mem_nil⟩⟩⟩⟩⟩⟩⟩⟩⟩⟩⟩⟩⟩⟩⟩⟩
theorem lw_p96 : lw_okq (⟨"JealousByCalendarModel", "passes", "([I)V"⟩, 38) := ⟨⟨by decide +kernel, by decide +kernel⟩, List.mem_of_getElem? (i := 905) (by decide +kernel), List.mem_of_getElem? (i := 1065) (by decide +kernel), List.mem_of_getElem? (i := 1066) (by decide +kernel)⟩
theorem lw_p97 : lw_okq (⟨"JealousByCalendarModel", "passOne", "(I)I"⟩, 38) := ⟨⟨by decide +kernel, by decide +kernel⟩, List.mem_of_getElem? (i := 905) (by decide +kernel), List.mem_of_getElem? (i := 1069) (by decide +kernel), List.mem_of_getElem? (i := 1070) (by decide +kernel)⟩
theorem lw_p98 : lw_okq (⟨"JealousByCalendarModel", "comes", "(I)Z"⟩, 38) := ⟨⟨by decide +kernel, by decide +kernel⟩, List.mem_of_getElem? (i := 905) (by decide +kernel), List.mem_of_getElem? (i := 1073) (by decide +kernel), List.mem_of_getElem? (i := 1074) (by decide +kernel)⟩
theorem lw_p99 : lw_okq (⟨"JealousByCalendarModel", "adds", "(IIII)V"⟩, 38) := ⟨⟨by decide +kernel, by decide +kernel⟩, List.mem_of_getElem? (i := 905) (by decide +kernel), List.mem_of_getElem? (i := 1080) (by decide +kernel), List.mem_of_getElem? (i := 1081) (by decide +kernel)⟩
theorem lw_p100 : lw_okq (⟨"JealousByCalendarModel", "isCause", "(I)Z"⟩, 38) := ⟨⟨by decide +kernel, by decide +kernel⟩, List.mem_of_getElem? (i := 905) (by decide +kernel), List.mem_of_getElem? (i := 1084) (by decide +kernel), List.mem_of_getElem? (i := 1085) (by decide +kernel)⟩
theorem lw_p101 : lw_okq (⟨"JealousByCalendarModel", "canUse", "(I)Z"⟩, 38) := ⟨⟨by decide +kernel, by decide +kernel⟩, List.mem_of_getElem? (i := 905) (by decide +kernel), List.mem_of_getElem? (i := 1088) (by decide +kernel), List.mem_of_getElem? (i := 1089) (by decide +kernel)⟩
theorem lw_p102 : lw_okq (⟨"JealousByCalendarModel", "isGood", "(II)Z"⟩, 38) := ⟨⟨by decide +kernel, by decide +kernel⟩, List.mem_of_getElem? (i := 905) (by decide +kernel), List.mem_of_getElem? (i := 1092) (by decide +kernel), List.mem_of_getElem? (i := 1093) (by decide +kernel)⟩
theorem lw_p103 : lw_okq (⟨"JealousByCalendarModel", "goodTill", "(I)I"⟩, 38) := ⟨⟨by decide +kernel, by decide +kernel⟩, List.mem_of_getElem? (i := 905) (by decide +kernel), List.mem_of_getElem? (i := 1096) (by decide +kernel), List.mem_of_getElem? (i := 1097) (by decide +kernel)⟩
theorem lw_p104 : lw_okq (⟨"JealousByCalendarModel", "keepsOf", "(I)I"⟩, 38) := ⟨⟨by decide +kernel, by decide +kernel⟩, List.mem_of_getElem? (i := 905) (by decide +kernel), List.mem_of_getElem? (i := 1100) (by decide +kernel), List.mem_of_getElem? (i := 1101) (by decide +kernel)⟩
theorem lw_p105 : lw_okq (⟨"JealousByCalendarModel", "uses", "(I)I"⟩, 38) := ⟨⟨by decide +kernel, by decide +kernel⟩, List.mem_of_getElem? (i := 905) (by decide +kernel), List.mem_of_getElem? (i := 1104) (by decide +kernel), List.mem_of_getElem? (i := 1105) (by decide +kernel)⟩
theorem lw_p106 : lw_okq (⟨"JealousByCalendarModel", "weightOf", "(I)I"⟩, 38) := ⟨⟨by decide +kernel, by decide +kernel⟩, List.mem_of_getElem? (i := 905) (by decide +kernel), List.mem_of_getElem? (i := 1108) (by decide +kernel), List.mem_of_getElem? (i := 1109) (by decide +kernel)⟩
theorem lw_p107 : lw_okq (⟨"JealousByCalendarModel", "ends", "()V"⟩, 38) := ⟨⟨by decide +kernel, by decide +kernel⟩, List.mem_of_getElem? (i := 905) (by decide +kernel), List.mem_of_getElem? (i := 1115) (by decide +kernel), List.mem_of_getElem? (i := 1116) (by decide +kernel)⟩
theorem lw_p108 : lw_okq (⟨"JealousByCalendarModel", "isSour", "(I)Z"⟩, 38) := ⟨⟨by decide +kernel, by decide +kernel⟩, List.mem_of_getElem? (i := 905) (by decide +kernel), List.mem_of_getElem? (i := 1139) (by decide +kernel), List.mem_of_getElem? (i := 1140) (by decide +kernel)⟩
theorem lw_p109 : lw_okq (⟨"JealousByCalendarModel", "keepsBack", "()V"⟩, 38) := ⟨⟨by decide +kernel, by decide +kernel⟩, List.mem_of_getElem? (i := 905) (by decide +kernel), List.mem_of_getElem? (i := 1155) (by decide +kernel), List.mem_of_getElem? (i := 1156) (by decide +kernel)⟩
theorem lw_p110 : lw_okq (⟨"JealousByCalendarModel", "notWho", "(II)I"⟩, 38) := ⟨⟨by decide +kernel, by decide +kernel⟩, List.mem_of_getElem? (i := 905) (by decide +kernel), List.mem_of_getElem? (i := 1167) (by decide +kernel), List.mem_of_getElem? (i := 1168) (by decide +kernel)⟩
theorem lw_p111 : lw_okq (⟨"JealousByCalendarModel", "findNeeds", "(II)V"⟩, 38) := ⟨⟨by decide +kernel, by decide +kernel⟩, List.mem_of_getElem? (i := 905) (by decide +kernel), List.mem_of_getElem? (i := 1171) (by decide +kernel), List.mem_of_getElem? (i := 1172) (by decide +kernel)⟩
def lw_privs_7 : List (MethodName × Nat) := [(⟨"JealousByCalendarModel", "passes", "([I)V"⟩, 38), (⟨"JealousByCalendarModel", "passOne", "(I)I"⟩, 38), (⟨"JealousByCalendarModel", "comes", "(I)Z"⟩, 38), (⟨"JealousByCalendarModel", "adds", "(IIII)V"⟩, 38), (⟨"JealousByCalendarModel", "isCause", "(I)Z"⟩, 38), (⟨"JealousByCalendarModel", "canUse", "(I)Z"⟩, 38), (⟨"JealousByCalendarModel", "isGood", "(II)Z"⟩, 38), (⟨"JealousByCalendarModel", "goodTill", "(I)I"⟩, 38), (⟨"JealousByCalendarModel", "keepsOf", "(I)I"⟩, 38), (⟨"JealousByCalendarModel", "uses", "(I)I"⟩, 38), (⟨"JealousByCalendarModel", "weightOf", "(I)I"⟩, 38), (⟨"JealousByCalendarModel", "ends", "()V"⟩, 38), (⟨"JealousByCalendarModel", "isSour", "(I)Z"⟩, 38), (⟨"JealousByCalendarModel", "keepsBack", "()V"⟩, 38), (⟨"JealousByCalendarModel", "notWho", "(II)I"⟩, 38), (⟨"JealousByCalendarModel", "findNeeds", "(II)V"⟩, 38)]
theorem lw_r7 : ∀ q ∈ lw_privs_7, lw_okq q := List.forall_mem_cons.mpr ⟨lw_p96, List.forall_mem_cons.mpr ⟨lw_p97, List.forall_mem_cons.mpr ⟨lw_p98, List.forall_mem_cons.mpr ⟨lw_p99, List.forall_mem_cons.mpr ⟨lw_p100, List.forall_mem_cons.mpr ⟨lw_p101, List.forall_mem_cons.mpr ⟨lw_p102, List.forall_mem_cons.mpr ⟨lw_p103, List.forall_mem_cons.mpr ⟨lw_p104, List.forall_mem_cons.mpr ⟨lw_p105, List.forall_mem_cons.mpr ⟨lw_p106, List.forall_mem_cons.mpr ⟨lw_p107, List.forall_mem_cons.mpr ⟨lw_p108, List.forall_mem_cons.mpr ⟨lw_p109, List.forall_mem_cons.mpr ⟨lw_p110, List.forall_mem_cons.mpr ⟨lw_p111, fun _ h => absurd h List.not_mem_nil⟩⟩⟩⟩⟩⟩⟩⟩⟩⟩⟩⟩⟩⟩⟩⟩
theorem lw_p112 : lw_okq (⟨"JealousByCalendarModel", "findHand", "(II)V"⟩, 38) := ⟨⟨by decide +kernel, by decide +kernel⟩, List.mem_of_getElem? (i := 905) (by decide +kernel), List.mem_of_getElem? (i := 1179) (by decide +kernel), List.mem_of_getElem? (i := 1180) (by decide +kernel)⟩
theorem lw_p113 : lw_okq (⟨"JealousByCalendarModel", "soonestSour", "(III)I"⟩, 38) := ⟨⟨by decide +kernel, by decide +kernel⟩, List.mem_of_getElem? (i := 905) (by decide +kernel), List.mem_of_getElem? (i := 1183) (by decide +kernel), List.mem_of_getElem? (i := 1184) (by decide +kernel)⟩
theorem lw_p114 : lw_okq (⟨"JealousByCalendarModel", "findLaid", "(II)V"⟩, 38) := ⟨⟨by decide +kernel, by decide +kernel⟩, List.mem_of_getElem? (i := 905) (by decide +kernel), List.mem_of_getElem? (i := 1194) (by decide +kernel), List.mem_of_getElem? (i := 1195) (by decide +kernel)⟩
theorem lw_p115 : lw_okq (⟨"JealousByCalendarModel", "findOwn", "(I)V"⟩, 38) := ⟨⟨by decide +kernel, by decide +kernel⟩, List.mem_of_getElem? (i := 905) (by decide +kernel), List.mem_of_getElem? (i := 1198) (by decide +kernel), List.mem_of_getElem? (i := 1199) (by decide +kernel)⟩
theorem lw_p116 : lw_okq (⟨"JealousByCalendarModel", "laysDay", "(I)V"⟩, 38) := ⟨⟨by decide +kernel, by decide +kernel⟩, List.mem_of_getElem? (i := 905) (by decide +kernel), List.mem_of_getElem? (i := 1202) (by decide +kernel), List.mem_of_getElem? (i := 1203) (by decide +kernel)⟩
theorem lw_p117 : lw_okq (⟨"JealousByCalendarModel", "valueWith", "(III)I"⟩, 38) := ⟨⟨by decide +kernel, by decide +kernel⟩, List.mem_of_getElem? (i := 905) (by decide +kernel), List.mem_of_getElem? (i := 1206) (by decide +kernel), List.mem_of_getElem? (i := 1207) (by decide +kernel)⟩
theorem lw_p118 : lw_okq (⟨"JealousByCalendarModel", "goodFor", "(II)I"⟩, 38) := ⟨⟨by decide +kernel, by decide +kernel⟩, List.mem_of_getElem? (i := 905) (by decide +kernel), List.mem_of_getElem? (i := 1225) (by decide +kernel), List.mem_of_getElem? (i := 1226) (by decide +kernel)⟩
theorem lw_p119 : lw_okq (⟨"JealousByCalendarModel", "lower", "(I)I"⟩, 38) := ⟨⟨by decide +kernel, by decide +kernel⟩, List.mem_of_getElem? (i := 905) (by decide +kernel), List.mem_of_getElem? (i := 1233) (by decide +kernel), List.mem_of_getElem? (i := 1234) (by decide +kernel)⟩
theorem lw_p120 : lw_okq (⟨"JealousByCalendarModel", "settledBy", "(III)I"⟩, 38) := ⟨⟨by decide +kernel, by decide +kernel⟩, List.mem_of_getElem? (i := 905) (by decide +kernel), List.mem_of_getElem? (i := 1238) (by decide +kernel), List.mem_of_getElem? (i := 1239) (by decide +kernel)⟩
theorem lw_p121 : lw_okq (⟨"JealousByCalendarModel", "laidValue", "(II)I"⟩, 38) := ⟨⟨by decide +kernel, by decide +kernel⟩, List.mem_of_getElem? (i := 905) (by decide +kernel), List.mem_of_getElem? (i := 1242) (by decide +kernel), List.mem_of_getElem? (i := 1243) (by decide +kernel)⟩
theorem lw_p122 : lw_okq (⟨"JealousByCalendarModel", "rests", "(II)Z"⟩, 38) := ⟨⟨by decide +kernel, by decide +kernel⟩, List.mem_of_getElem? (i := 905) (by decide +kernel), List.mem_of_getElem? (i := 1254) (by decide +kernel), List.mem_of_getElem? (i := 1255) (by decide +kernel)⟩
theorem lw_p123 : lw_okq (⟨"JealousByCalendarModel", "hasAt", "(III)I"⟩, 38) := ⟨⟨by decide +kernel, by decide +kernel⟩, List.mem_of_getElem? (i := 905) (by decide +kernel), List.mem_of_getElem? (i := 1258) (by decide +kernel), List.mem_of_getElem? (i := 1259) (by decide +kernel)⟩
theorem lw_p124 : lw_okq (⟨"JealousByCalendarModel", "findTurns", "()V"⟩, 38) := ⟨⟨by decide +kernel, by decide +kernel⟩, List.mem_of_getElem? (i := 905) (by decide +kernel), List.mem_of_getElem? (i := 1266) (by decide +kernel), List.mem_of_getElem? (i := 1267) (by decide +kernel)⟩
theorem lw_p125 : lw_okq (⟨"JealousByCalendarModel", "unused", "()I"⟩, 38) := ⟨⟨by decide +kernel, by decide +kernel⟩, List.mem_of_getElem? (i := 905) (by decide +kernel), List.mem_of_getElem? (i := 1271) (by decide +kernel), List.mem_of_getElem? (i := 1272) (by decide +kernel)⟩
theorem lw_p126 : lw_okq (⟨"JealousByCalendarModel", "areDaysOf", "(I)Z"⟩, 38) := ⟨⟨by decide +kernel, by decide +kernel⟩, List.mem_of_getElem? (i := 905) (by decide +kernel), List.mem_of_getElem? (i := 1286) (by decide +kernel), List.mem_of_getElem? (i := 1287) (by decide +kernel)⟩
theorem lw_p127 : lw_okq (⟨"JealousByCalendarModel", "lowest", "(I)J"⟩, 38) := ⟨⟨by decide +kernel, by decide +kernel⟩, List.mem_of_getElem? (i := 905) (by decide +kernel), List.mem_of_getElem? (i := 1290) (by decide +kernel), List.mem_of_getElem? (i := 1291) (by decide +kernel)⟩
def lw_privs_8 : List (MethodName × Nat) := [(⟨"JealousByCalendarModel", "findHand", "(II)V"⟩, 38), (⟨"JealousByCalendarModel", "soonestSour", "(III)I"⟩, 38), (⟨"JealousByCalendarModel", "findLaid", "(II)V"⟩, 38), (⟨"JealousByCalendarModel", "findOwn", "(I)V"⟩, 38), (⟨"JealousByCalendarModel", "laysDay", "(I)V"⟩, 38), (⟨"JealousByCalendarModel", "valueWith", "(III)I"⟩, 38), (⟨"JealousByCalendarModel", "goodFor", "(II)I"⟩, 38), (⟨"JealousByCalendarModel", "lower", "(I)I"⟩, 38), (⟨"JealousByCalendarModel", "settledBy", "(III)I"⟩, 38), (⟨"JealousByCalendarModel", "laidValue", "(II)I"⟩, 38), (⟨"JealousByCalendarModel", "rests", "(II)Z"⟩, 38), (⟨"JealousByCalendarModel", "hasAt", "(III)I"⟩, 38), (⟨"JealousByCalendarModel", "findTurns", "()V"⟩, 38), (⟨"JealousByCalendarModel", "unused", "()I"⟩, 38), (⟨"JealousByCalendarModel", "areDaysOf", "(I)Z"⟩, 38), (⟨"JealousByCalendarModel", "lowest", "(I)J"⟩, 38)]
theorem lw_r8 : ∀ q ∈ lw_privs_8, lw_okq q := List.forall_mem_cons.mpr ⟨lw_p112, List.forall_mem_cons.mpr ⟨lw_p113, List.forall_mem_cons.mpr ⟨lw_p114, List.forall_mem_cons.mpr ⟨lw_p115, List.forall_mem_cons.mpr ⟨lw_p116, List.forall_mem_cons.mpr ⟨lw_p117, List.forall_mem_cons.mpr ⟨lw_p118, List.forall_mem_cons.mpr ⟨lw_p119, List.forall_mem_cons.mpr ⟨lw_p120, List.forall_mem_cons.mpr ⟨lw_p121, List.forall_mem_cons.mpr ⟨lw_p122, List.forall_mem_cons.mpr ⟨lw_p123, List.forall_mem_cons.mpr ⟨lw_p124, List.forall_mem_cons.mpr ⟨lw_p125, List.forall_mem_cons.mpr ⟨lw_p126, List.forall_mem_cons.mpr ⟨lw_p127, fun _ h => absurd h List.not_mem_nil⟩⟩⟩⟩⟩⟩⟩⟩⟩⟩⟩⟩⟩⟩⟩⟩
theorem lw_p128 : lw_okq (⟨"JealousByCalendarModel", "waysWithout", "(II)J"⟩, 38) := ⟨⟨by decide +kernel, by decide +kernel⟩, List.mem_of_getElem? (i := 905) (by decide +kernel), List.mem_of_getElem? (i := 1295) (by decide +kernel), List.mem_of_getElem? (i := 1296) (by decide +kernel)⟩
theorem lw_p129 : lw_okq (⟨"JealousByCalendarModel", "isMeant", "(III)Z"⟩, 38) := ⟨⟨by decide +kernel, by decide +kernel⟩, List.mem_of_getElem? (i := 905) (by decide +kernel), List.mem_of_getElem? (i := 1299) (by decide +kernel), List.mem_of_getElem? (i := 1300) (by decide +kernel)⟩
theorem lw_p130 : lw_okq (⟨"JealousByCalendarModel", "areUpTo", "(I)Z"⟩, 38) := ⟨⟨by decide +kernel, by decide +kernel⟩, List.mem_of_getElem? (i := 905) (by decide +kernel), List.mem_of_getElem? (i := 1307) (by decide +kernel), List.mem_of_getElem? (i := 1308) (by decide +kernel)⟩
theorem lw_p131 : lw_okq (⟨"JealousByCalendarModel", "isLaw", "(II)Z"⟩, 38) := ⟨⟨by decide +kernel, by decide +kernel⟩, List.mem_of_getElem? (i := 905) (by decide +kernel), List.mem_of_getElem? (i := 1311) (by decide +kernel), List.mem_of_getElem? (i := 1312) (by decide +kernel)⟩
theorem lw_p132 : lw_okq (⟨"JealousByCalendarModel", "fewestFriends", "()I"⟩, 38) := ⟨⟨by decide +kernel, by decide +kernel⟩, List.mem_of_getElem? (i := 905) (by decide +kernel), List.mem_of_getElem? (i := 1319) (by decide +kernel), List.mem_of_getElem? (i := 1320) (by decide +kernel)⟩
theorem lw_p133 : lw_okq (⟨"JealousByCalendarModel", "goesTo", "(I)V"⟩, 38) := ⟨⟨by decide +kernel, by decide +kernel⟩, List.mem_of_getElem? (i := 905) (by decide +kernel), List.mem_of_getElem? (i := 1342) (by decide +kernel), List.mem_of_getElem? (i := 1343) (by decide +kernel)⟩
theorem lw_p134 : lw_okq (⟨"JealousByCalendarModel", "goesOne", "()V"⟩, 38) := ⟨⟨by decide +kernel, by decide +kernel⟩, List.mem_of_getElem? (i := 905) (by decide +kernel), List.mem_of_getElem? (i := 1346) (by decide +kernel), List.mem_of_getElem? (i := 1347) (by decide +kernel)⟩
theorem lw_p135 : lw_okq (⟨"JealousByCalendarModel", "notGift", "(IIII)I"⟩, 38) := ⟨⟨by decide +kernel, by decide +kernel⟩, List.mem_of_getElem? (i := 905) (by decide +kernel), List.mem_of_getElem? (i := 1354) (by decide +kernel), List.mem_of_getElem? (i := 1355) (by decide +kernel)⟩
theorem lw_p136 : lw_okq (⟨"JealousByCalendarModel", "laidWith", "(IIIII)I"⟩, 38) := ⟨⟨by decide +kernel, by decide +kernel⟩, List.mem_of_getElem? (i := 905) (by decide +kernel), List.mem_of_getElem? (i := 1358) (by decide +kernel), List.mem_of_getElem? (i := 1359) (by decide +kernel)⟩
theorem lw_p137 : lw_okq (⟨"JealousByCalendarModel", "laidOfBoth", "(I)I"⟩, 38) := ⟨⟨by decide +kernel, by decide +kernel⟩, List.mem_of_getElem? (i := 905) (by decide +kernel), List.mem_of_getElem? (i := 1370) (by decide +kernel), List.mem_of_getElem? (i := 1371) (by decide +kernel)⟩
theorem lw_p138 : lw_okq (⟨"JealousByCalendarModel", "apartBy", "(II)I"⟩, 38) := ⟨⟨by decide +kernel, by decide +kernel⟩, List.mem_of_getElem? (i := 905) (by decide +kernel), List.mem_of_getElem? (i := 1378) (by decide +kernel), List.mem_of_getElem? (i := 1379) (by decide +kernel)⟩
theorem lw_p139 : lw_okq (⟨"JealousByCalendarModel", "findBoth", "(I)V"⟩, 38) := ⟨⟨by decide +kernel, by decide +kernel⟩, List.mem_of_getElem? (i := 905) (by decide +kernel), List.mem_of_getElem? (i := 1386) (by decide +kernel), List.mem_of_getElem? (i := 1387) (by decide +kernel)⟩
theorem lw_p140 : lw_okq (⟨"JealousByCalendarModel", "lastGood", "()I"⟩, 38) := ⟨⟨by decide +kernel, by decide +kernel⟩, List.mem_of_getElem? (i := 905) (by decide +kernel), List.mem_of_getElem? (i := 1394) (by decide +kernel), List.mem_of_getElem? (i := 1395) (by decide +kernel)⟩
theorem lw_p141 : lw_okq (⟨"JealousByCalendarModel", "swaps", "()V"⟩, 38) := ⟨⟨by decide +kernel, by decide +kernel⟩, List.mem_of_getElem? (i := 905) (by decide +kernel), List.mem_of_getElem? (i := 1410) (by decide +kernel), List.mem_of_getElem? (i := 1411) (by decide +kernel)⟩
theorem lw_p142 : lw_okq (⟨"JealousByCalendarModel", "usesNow", "(I)I"⟩, 38) := ⟨⟨by decide +kernel, by decide +kernel⟩, List.mem_of_getElem? (i := 905) (by decide +kernel), List.mem_of_getElem? (i := 1418) (by decide +kernel), List.mem_of_getElem? (i := 1419) (by decide +kernel)⟩
theorem lw_p143 : lw_okq (⟨"JealousByCalendarModel", "laidLater", "(III)I"⟩, 38) := ⟨⟨by decide +kernel, by decide +kernel⟩, List.mem_of_getElem? (i := 905) (by decide +kernel), List.mem_of_getElem? (i := 1426) (by decide +kernel), List.mem_of_getElem? (i := 1427) (by decide +kernel)⟩
def lw_privs_9 : List (MethodName × Nat) := [(⟨"JealousByCalendarModel", "waysWithout", "(II)J"⟩, 38), (⟨"JealousByCalendarModel", "isMeant", "(III)Z"⟩, 38), (⟨"JealousByCalendarModel", "areUpTo", "(I)Z"⟩, 38), (⟨"JealousByCalendarModel", "isLaw", "(II)Z"⟩, 38), (⟨"JealousByCalendarModel", "fewestFriends", "()I"⟩, 38), (⟨"JealousByCalendarModel", "goesTo", "(I)V"⟩, 38), (⟨"JealousByCalendarModel", "goesOne", "()V"⟩, 38), (⟨"JealousByCalendarModel", "notGift", "(IIII)I"⟩, 38), (⟨"JealousByCalendarModel", "laidWith", "(IIIII)I"⟩, 38), (⟨"JealousByCalendarModel", "laidOfBoth", "(I)I"⟩, 38), (⟨"JealousByCalendarModel", "apartBy", "(II)I"⟩, 38), (⟨"JealousByCalendarModel", "findBoth", "(I)V"⟩, 38), (⟨"JealousByCalendarModel", "lastGood", "()I"⟩, 38), (⟨"JealousByCalendarModel", "swaps", "()V"⟩, 38), (⟨"JealousByCalendarModel", "usesNow", "(I)I"⟩, 38), (⟨"JealousByCalendarModel", "laidLater", "(III)I"⟩, 38)]
theorem lw_r9 : ∀ q ∈ lw_privs_9, lw_okq q := List.forall_mem_cons.mpr ⟨lw_p128, List.forall_mem_cons.mpr ⟨lw_p129, List.forall_mem_cons.mpr ⟨lw_p130, List.forall_mem_cons.mpr ⟨lw_p131, List.forall_mem_cons.mpr ⟨lw_p132, List.forall_mem_cons.mpr ⟨lw_p133, List.forall_mem_cons.mpr ⟨lw_p134, List.forall_mem_cons.mpr ⟨lw_p135, List.forall_mem_cons.mpr ⟨lw_p136, List.forall_mem_cons.mpr ⟨lw_p137, List.forall_mem_cons.mpr ⟨lw_p138, List.forall_mem_cons.mpr ⟨lw_p139, List.forall_mem_cons.mpr ⟨lw_p140, List.forall_mem_cons.mpr ⟨lw_p141, List.forall_mem_cons.mpr ⟨lw_p142, List.forall_mem_cons.mpr ⟨lw_p143, fun _ h => absurd h List.not_mem_nil⟩⟩⟩⟩⟩⟩⟩⟩⟩⟩⟩⟩⟩⟩⟩⟩
theorem lw_p144 : lw_okq (⟨"JealousByCalendarModel", "owedWith", "(III)I"⟩, 38) := ⟨⟨by decide +kernel, by decide +kernel⟩, List.mem_of_getElem? (i := 905) (by decide +kernel), List.mem_of_getElem? (i := 1434) (by decide +kernel), List.mem_of_getElem? (i := 1435) (by decide +kernel)⟩
theorem lw_p145 : lw_okq (⟨"JealousByCalendarModel", "leftBoth", "(I)I"⟩, 38) := ⟨⟨by decide +kernel, by decide +kernel⟩, List.mem_of_getElem? (i := 905) (by decide +kernel), List.mem_of_getElem? (i := 1442) (by decide +kernel), List.mem_of_getElem? (i := 1443) (by decide +kernel)⟩
theorem lw_p146 : lw_okq (⟨"JealousByCalendarModel", "allCauses", "()I"⟩, 38) := ⟨⟨by decide +kernel, by decide +kernel⟩, List.mem_of_getElem? (i := 905) (by decide +kernel), List.mem_of_getElem? (i := 1473) (by decide +kernel), List.mem_of_getElem? (i := 1474) (by decide +kernel)⟩
def lw_privs_10 : List (MethodName × Nat) := [(⟨"JealousByCalendarModel", "owedWith", "(III)I"⟩, 38), (⟨"JealousByCalendarModel", "leftBoth", "(I)I"⟩, 38), (⟨"JealousByCalendarModel", "allCauses", "()I"⟩, 38)]
theorem lw_r10 : ∀ q ∈ lw_privs_10, lw_okq q := List.forall_mem_cons.mpr ⟨lw_p144, List.forall_mem_cons.mpr ⟨lw_p145, List.forall_mem_cons.mpr ⟨lw_p146, fun _ h => absurd h List.not_mem_nil⟩⟩⟩
def lw_privs : List (MethodName × Nat) := lw_privs_1 ++ (lw_privs_2 ++ (lw_privs_3 ++ (lw_privs_4 ++ (lw_privs_5 ++ (lw_privs_6 ++ (lw_privs_7 ++ (lw_privs_8 ++ (lw_privs_9 ++ (lw_privs_10)))))))))
def lw_tbl : List Cond := k2_sels lw_privs ++ tables_1
theorem lw_privs_ok : ∀ q ∈ lw_privs, lw_okq q := by
  show ∀ q ∈ lw_privs_1 ++ (lw_privs_2 ++ (lw_privs_3 ++ (lw_privs_4 ++ (lw_privs_5 ++ (lw_privs_6 ++ (lw_privs_7 ++ (lw_privs_8 ++ (lw_privs_9 ++ (lw_privs_10))))))))), lw_okq q
  exact List.forall_mem_append.mpr ⟨lw_r1, List.forall_mem_append.mpr ⟨lw_r2, List.forall_mem_append.mpr ⟨lw_r3, List.forall_mem_append.mpr ⟨lw_r4, List.forall_mem_append.mpr ⟨lw_r5, List.forall_mem_append.mpr ⟨lw_r6, List.forall_mem_append.mpr ⟨lw_r7, List.forall_mem_append.mpr ⟨lw_r8, List.forall_mem_append.mpr ⟨lw_r9, lw_r10⟩⟩⟩⟩⟩⟩⟩⟩⟩
end
section
/-! A pure machine for the claim's methods: addresses are triples (kind, which, place), memory is three functions; its programs are the methods' instructions with their references resolved. -/
abbrev QA : Type := Nat × Nat × Nat
abbrev QV : Type := Int32 ⊕ Int64 ⊕ Option QA
abbrev QM : Type := (QA → Nat → Int32) × (QA → Nat → Int64) × (QA → Nat → Option QA)
abbrev QL : Type := List (Option QV)
abbrev QR : Type := Option (Option QV × QM)
abbrev QC : Type := Nat → List QV → QM → QR
abbrev QE : Type := Nat × Option (List Bool) × Instr
abbrev qI (x : Int32) : QV := .inl x
abbrev qL (x : Int64) : QV := .inr (.inl x)
abbrev qO (x : Option QA) : QV := .inr (.inr x)
abbrev qR (a : QA) : QV := .inr (.inr (some a))
def qsi (μ : QM) (a : QA) (k : Nat) (v : Int32) : QM := (fun b j => if b = a ∧ j = k then v else μ.1 b j, μ.2.1, μ.2.2)
def qsl (μ : QM) (a : QA) (k : Nat) (v : Int64) : QM := (μ.1, fun b j => if b = a ∧ j = k then v else μ.2.1 b j, μ.2.2)
def qsr (μ : QM) (a : QA) (k : Nat) (v : Option QA) : QM := (μ.1, μ.2.1, fun b j => if b = a ∧ j = k then v else μ.2.2 b j)
def qbz (x : Int32) : Int32 := if x = 0 then 0 else 1
/-- an index that is no place of a row of n -/
def qoob (x : Int32) (n : Nat) : Bool := decide (x < 0) || decide (n ≤ x.toNatClampNeg)
abbrev qix (x : Int32) : Nat := x.toNatClampNeg
/-! the kinds of addresses: how many of each; fields (0 int, 1 boolean, 2 a final reference); arrays (1 int, 2 long, 3 boolean, 4 references that stay, 5 references that change) -/
def qbnds : List (Nat × Nat) := [(1, 1), (11, 12), (11, 1), (11, 2), (11, 1), (2, 1), (2, 12), (2, 1), (2, 1), (2, 1), (2, 1), (2, 1), (2, 1), (1, 1), (1, 1), (1, 1), (1, 1), (1, 1), (1, 1), (1, 1), (1, 1), (1, 1), (1, 1), (1, 1), (1, 1), (1, 1), (1, 1), (1, 1), (1, 1), (1, 1), (1, 1), (1, 1), (1, 1), (1, 1), (1, 1), (1, 1), (1, 1), (1, 1), (1, 1), (1, 1), (1, 1), (1, 1), (1, 1), (1, 1), (1, 1), (1, 1), (1, 1), (1, 1), (1, 1), (1, 1)]
def qbnd (t : Nat) : Nat × Nat := qbnds.getD t (0, 0)
def qdom (a : QA) : Bool := decide (a.2.1 < (qbnd a.1).1) && decide (a.2.2 < (qbnd a.1).2)
def qfks : List (List Nat) := [[2, 2, 2, 1, 2, 0, 2, 0, 2, 0, 2, 2, 2, 2, 2, 2, 2], [0, 0, 0, 0, 1, 0, 0], [0, 2, 2, 2, 0], [0, 0, 0, 0, 1], [], [2, 0, 2, 2, 0, 0, 2, 0, 0, 2, 2], [0, 0, 0, 0], [], [], [], [], [], [], [2, 2, 2, 0], [], [], [], [], [], [], [], [], [], [], [2, 2, 2, 2, 2, 2, 2, 2, 2, 2, 2, 0, 0, 2, 2, 2, 2, 0, 0, 0, 2, 1, 1, 0, 0, 2, 2, 0, 2, 0, 0, 2, 2, 0, 2, 2, 2, 2], [], [], [], [], [], [], [], [], [], [], [], [], [], [], [], [], [], [], [], [], [], [], [], [], []]
def qfK (t k : Nat) : Nat := (qfks.getD t []).getD k 9
def qfrs : List (List (Option (Nat × Bool × Nat × Nat))) := [[some (2, false, 0, 0), some (2, false, 1, 0), some (2, false, 2, 0), none, some (17, false, 0, 0), none, some (18, false, 0, 0), none, some (19, false, 0, 0), none, some (20, false, 0, 0), some (5, false, 0, 0), some (5, false, 1, 0), some (21, false, 0, 0), some (22, false, 0, 0), some (23, false, 0, 0), some (13, false, 0, 0)], [none, none, none, none, none, none, none], [none, some (3, true, 0, 0), some (3, true, 0, 1), some (4, true, 0, 0), none], [none, none, none, none, none], [], [some (7, true, 0, 0), none, some (8, true, 0, 0), some (9, true, 0, 0), none, none, some (10, true, 0, 0), none, none, some (11, true, 0, 0), some (12, true, 0, 0)], [none, none, none, none], [], [], [], [], [], [], [some (14, false, 0, 0), some (15, false, 0, 0), some (16, false, 0, 0), none], [], [], [], [], [], [], [], [], [], [], [some (25, false, 0, 0), some (26, false, 0, 0), some (27, false, 0, 0), some (28, false, 0, 0), some (29, false, 0, 0), some (30, false, 0, 0), some (31, false, 0, 0), some (32, false, 0, 0), some (33, false, 0, 0), some (34, false, 0, 0), some (35, false, 0, 0), none, none, some (36, false, 0, 0), some (37, false, 0, 0), some (38, false, 0, 0), some (39, false, 0, 0), none, none, none, some (40, false, 0, 0), none, none, none, none, some (41, false, 0, 0), some (42, false, 0, 0), none, some (43, false, 0, 0), none, none, some (44, false, 0, 0), some (45, false, 0, 0), none, some (46, false, 0, 0), some (47, false, 0, 0), some (48, false, 0, 0), some (49, false, 0, 0)], [], [], [], [], [], [], [], [], [], [], [], [], [], [], [], [], [], [], [], [], [], [], [], [], []]
def qfR (a : QA) (k : Nat) : Option QA := match (qfrs.getD a.1 []).getD k none with
  | none => none
  | some (t, b, j, c) => some (t, bif b then a.2.1 else j, c)
def qarrs : List (Nat × Nat × Nat) := [(0, 0, 0), (0, 0, 0), (0, 0, 0), (0, 0, 0), (4, 12, 1), (0, 0, 0), (0, 0, 0), (1, 12, 0), (4, 12, 6), (5, 12, 6), (5, 12, 6), (1, 12, 0), (1, 12, 0), (0, 0, 0), (1, 26, 0), (1, 26, 0), (3, 26, 0), (5, 8, 2), (1, 96, 0), (1, 12, 0), (1, 7, 0), (1, 7, 0), (1, 7, 0), (2, 256, 0), (0, 0, 0), (1, 7, 0), (1, 2, 0), (1, 2, 0), (1, 2, 0), (1, 2, 0), (1, 2, 0), (1, 12, 0), (1, 12, 0), (1, 12, 0), (1, 12, 0), (1, 12, 0), (1, 96, 0), (1, 48, 0), (1, 48, 0), (1, 192, 0), (1, 800, 0), (1, 12, 0), (1, 12, 0), (1, 53248, 0), (1, 14, 0), (1, 12, 0), (2, 4096, 0), (1, 7, 0), (1, 4096, 0), (1, 84, 0)]
def qarr (t : Nat) : Nat × Nat × Nat := qarrs.getD t (0, 0, 0)
abbrev qeK (t : Nat) : Nat := (qarr t).1
abbrev qeL (t : Nat) : Nat := (qarr t).2.1
abbrev qeT (t : Nat) : Nat := (qarr t).2.2
def qcat : QV → Nat
  | .inr (.inl _) => 2
  | _ => 1
def qwd (st : List QV) : Nat := st.foldr (fun v n => qcat v + n) 0
def qput (ls : QL) (i : Nat) (v : QV) : QL := match i with
  | 0 => ls.set 0 (some v)
  | j + 1 => match ls[j]? with
    | some (some (.inr (.inl _))) => (ls.set j none).set (j + 1) (some v)
    | _ => ls.set (j + 1) (some v)
def qpop : Nat → List QV → List QV → Option (List QV × List QV)
  | 0, st, acc => some (acc, st)
  | _ + 1, [], _ => none
  | n + 1, v :: st, acc => qpop n st (v :: acc)
def qmask : List Bool → QL → QL
  | b :: bs, v :: vs => (bif b then v else none) :: qmask bs vs
  | [], vs => vs
  | _ :: _, [] => []
def qmskOf (code : List QE) (t : Nat) : List Bool := match code.find? (fun e => e.1 == t) with
  | some (_, some m, _) => m
  | _ => []
def qsw (jp : Int → QR) (x : Int32) (d : Int) : List (Int × Int) → QR
  | [] => jp d
  | (a, o) :: r => if x = Int32.ofInt a then jp o else qsw jp x d r
def qtab (lo : Int) : List Int → List (Int × Int)
  | [] => []
  | o :: r => (lo, o) :: qtab (lo + 1) r
/-- behind a call: kinds 0 nothing, 1 an int, 2 a long, 3 a reference of a kind, 4 such a one or null -/
def qbV (c : QR) (f : QM → QR) : QR := match c with
  | some (none, μ) => f μ
  | _ => none
def qbI (c : QR) (f : Int32 → QM → QR) : QR := match c with
  | some (some (.inl x), μ) => f x μ
  | _ => none
def qbL (c : QR) (f : Int64 → QM → QR) : QR := match c with
  | some (some (.inr (.inl x)), μ) => f x μ
  | _ => none
def qbR (t : Nat) (c : QR) (f : Nat → Nat → QM → QR) : QR := match c with
  | some (some (.inr (.inr (some a))), μ) => if a.1 = t ∧ qdom a = true then f a.2.1 a.2.2 μ else none
  | _ => none
def qbN (t : Nat) (c : QR) (f : Nat → Nat → QM → QR) (g : QM → QR) : QR := match c with
  | some (some (.inr (.inr (some a))), μ) => if a.1 = t ∧ qdom a = true then f a.2.1 a.2.2 μ else none
  | some (some (.inr (.inr none)), μ) => g μ
  | _ => none
def qcond (c : ClassFile.Cond) (x y : Int32) (A B : QR) : QR := match c with
  | .eq => if x = y then A else B
  | .ne => if x = y then B else A
  | .lt => if x < y then A else B
  | .ge => if y ≤ x then A else B
  | .gt => if y < x then A else B
  | .le => if x ≤ y then A else B
/-- one instruction: on to the next (nx), or a jump (jp) -/
def qop (call : QC) (nx : QL → List QV → QM → QR) (jp : Int → QL → List QV → QM → QR) (o : Instr) (ls : QL) (st : List QV) (μ : QM) : QR :=
  match o with
  | .sipush n => nx ls (qI (Int32.ofInt n) :: st) μ
  | .goto_w n => nx ls (qL (Int64.ofInt n) :: st) μ
  | .aconst_null => nx ls (qO none :: st) μ
  | .iload i => match ls[i]? with
    | some (some (.inl x)) => nx ls (qI x :: st) μ
    | _ => none
  | .lload i => match ls[i]? with
    | some (some (.inr (.inl x))) => nx ls (qL x :: st) μ
    | _ => none
  | .aload i => match ls[i]? with
    | some (some (.inr (.inr x))) => nx ls (qO x :: st) μ
    | _ => none
  | .istore i => match st with
    | .inl x :: st => if i < ls.length then nx (qput ls i (qI x)) st μ else none
    | _ => none
  | .astore i => match st with
    | .inr (.inr x) :: st => if i < ls.length then nx (qput ls i (qO x)) st μ else none
    | _ => none
  | .lstore i => match st with
    | .inr (.inl x) :: st => if i + 1 < ls.length then nx ((qput ls i (qL x)).set (i + 1) none) st μ else none
    | _ => none
  | .iinc i n => match ls[i]? with
    | some (some (.inl x)) => nx (qput ls i (qI (x + Int32.ofInt n))) st μ
    | _ => none
  | .dup => match st with
    | .inl x :: st => nx ls (qI x :: qI x :: st) μ
    | .inr (.inr x) :: st => nx ls (qO x :: qO x :: st) μ
    | _ => none
  | .dup2 => match st with
    | .inl x :: .inr (.inr y) :: st => nx ls (qI x :: qO y :: qI x :: qO y :: st) μ
    | _ => none
  | .pop => match st with
    | .inl _ :: st => nx ls st μ
    | .inr (.inr _) :: st => nx ls st μ
    | _ => none
  | .iadd => match st with
    | .inl y :: .inl x :: st => nx ls (qI (x + y) :: st) μ
    | _ => none
  | .isub => match st with
    | .inl y :: .inl x :: st => nx ls (qI (x - y) :: st) μ
    | _ => none
  | .imul => match st with
    | .inl y :: .inl x :: st => nx ls (qI (x * y) :: st) μ
    | _ => none
  | .iand => match st with
    | .inl y :: .inl x :: st => nx ls (qI (x &&& y) :: st) μ
    | _ => none
  | .ior => match st with
    | .inl y :: .inl x :: st => nx ls (qI (x ||| y) :: st) μ
    | _ => none
  | .ixor => match st with
    | .inl y :: .inl x :: st => nx ls (qI (x ^^^ y) :: st) μ
    | _ => none
  | .ishl => match st with
    | .inl y :: .inl x :: st => nx ls (qI (x <<< (y &&& 31)) :: st) μ
    | _ => none
  | .ishr => match st with
    | .inl y :: .inl x :: st => nx ls (qI (x >>> (y &&& 31)) :: st) μ
    | _ => none
  | .iushr => match st with
    | .inl y :: .inl x :: st => nx ls (qI (x.toUInt32 >>> (y.toUInt32 &&& Int32.toUInt32 31)).toInt32 :: st) μ
    | _ => none
  | .idiv => match st with
    | .inl y :: .inl x :: st => if y = 0 then none else nx ls (qI (x / y) :: st) μ
    | _ => none
  | .irem => match st with
    | .inl y :: .inl x :: st => if y = 0 then none else nx ls (qI (x - x / y * y) :: st) μ
    | _ => none
  | .ineg => match st with
    | .inl x :: st => nx ls (qI (-x) :: st) μ
    | _ => none
  | .ladd => match st with
    | .inr (.inl y) :: .inr (.inl x) :: st => nx ls (qL (x + y) :: st) μ
    | _ => none
  | .lsub => match st with
    | .inr (.inl y) :: .inr (.inl x) :: st => nx ls (qL (x - y) :: st) μ
    | _ => none
  | .lmul => match st with
    | .inr (.inl y) :: .inr (.inl x) :: st => nx ls (qL (x * y) :: st) μ
    | _ => none
  | .lor => match st with
    | .inr (.inl y) :: .inr (.inl x) :: st => nx ls (qL (x ||| y) :: st) μ
    | _ => none
  | .ldiv => match st with
    | .inr (.inl y) :: .inr (.inl x) :: st => if y = 0 then none else nx ls (qL (x / y) :: st) μ
    | _ => none
  | .lrem => match st with
    | .inr (.inl y) :: .inr (.inl x) :: st => if y = 0 then none else nx ls (qL (x - x / y * y) :: st) μ
    | _ => none
  | .lshl => match st with
    | .inl y :: .inr (.inl x) :: st => nx ls (qL (x <<< (y.toInt64 &&& 63)) :: st) μ
    | _ => none
  | .i2l => match st with
    | .inl x :: st => nx ls (qL x.toInt64 :: st) μ
    | _ => none
  | .lcmp => match st with
    | .inr (.inl y) :: .inr (.inl x) :: st => nx ls (qI (lg_cmp x y) :: st) μ
    | _ => none
  | .fadd => match st with
    | .inl y :: .inl x :: st => if qwd st ≤ 8 then nx ls (qI (if x < y then y else x) :: st) μ else none
    | _ => none
  | .fsub => match st with
    | .inl y :: .inl x :: st => if qwd st ≤ 8 then nx ls (qI (if y < x then y else x) :: st) μ else none
    | _ => none
  | .fneg => match st with
    | .inl x :: st => if qwd st ≤ 8 then nx ls (qI (if 0 ≤ x then x else 0 - x) :: st) μ else none
    | _ => none
  | .ifCond c off => match st with
    | .inl x :: st => qcond c x 0 (jp off ls st μ) (nx ls st μ)
    | _ => none
  | .if_icmp c off => match st with
    | .inl y :: .inl x :: st => qcond c x y (jp off ls st μ) (nx ls st μ)
    | _ => none
  | .if_acmp c off => match st with
    | .inr (.inr y) :: .inr (.inr x) :: st => (match c with
      | .eq => if x = y then jp off ls st μ else nx ls st μ
      | .ne => if x = y then nx ls st μ else jp off ls st μ)
    | _ => none
  | .ifnull off => match st with
    | .inr (.inr none) :: st => jp off ls st μ
    | .inr (.inr (some _)) :: st => nx ls st μ
    | _ => none
  | .ifnonnull off => match st with
    | .inr (.inr none) :: st => nx ls st μ
    | .inr (.inr (some _)) :: st => jp off ls st μ
    | _ => none
  | .goto off => jp off ls st μ
  | .tableswitch d lo _ offs => match st with
    | .inl x :: st => qsw (fun off => jp off ls st μ) x d (qtab lo offs.toList)
    | _ => none
  | .lookupswitch d ps => match st with
    | .inl x :: st => qsw (fun off => jp off ls st μ) x d ps.toList
    | _ => none
  | .getfield r => match st with
    | .inr (.inr (some a)) :: st => if a.1 = r / 64 then
        (match qfK (r / 64) (r % 64) with
        | 0 => nx ls (qI (μ.1 a (r % 64)) :: st) μ
        | 1 => nx ls (qI (qbz (μ.1 a (r % 64))) :: st) μ
        | 2 => nx ls (qO (qfR a (r % 64)) :: st) μ
        | _ => none) else none
    | _ => none
  | .putfield r => match st with
    | .inl x :: .inr (.inr (some a)) :: st => if a.1 = r / 64 then
        (match qfK (r / 64) (r % 64) with
        | 0 => nx ls st (qsi μ a (r % 64) x)
        | 1 => if x = 0 ∨ x = 1 then nx ls st (qsi μ a (r % 64) x) else none
        | _ => none) else none
    | _ => none
  | .arraylength => match st with
    | .inr (.inr (some a)) :: st => if qeK a.1 = 0 then none else nx ls (qI (Int32.ofInt (qeL a.1 : Nat)) :: st) μ
    | _ => none
  | .iaload => match st with
    | .inl i :: .inr (.inr (some a)) :: st => if qeK a.1 = 1 then (bif qoob i (qeL a.1) then none else nx ls (qI (μ.1 a (qix i)) :: st) μ) else none
    | _ => none
  | .baload => match st with
    | .inl i :: .inr (.inr (some a)) :: st => if qeK a.1 = 3 then (bif qoob i (qeL a.1) then none else nx ls (qI (μ.1 a (qix i)) :: st) μ) else none
    | _ => none
  | .laload => match st with
    | .inl i :: .inr (.inr (some a)) :: st => if qeK a.1 = 2 then (bif qoob i (qeL a.1) then none else nx ls (qL (μ.2.1 a (qix i)) :: st) μ) else none
    | _ => none
  | .aaload => match st with
    | .inl i :: .inr (.inr (some a)) :: st => bif qoob i (qeL a.1) then none else
        if qeK a.1 = 4 then nx ls (qR (qeT a.1, a.2.1, qix i) :: st) μ
        else if qeK a.1 = 5 then (match μ.2.2 a (qix i) with
          | none => nx ls (qO none :: st) μ
          | some b => if b.1 = qeT a.1 ∧ qdom b = true then nx ls (qR (qeT a.1, b.2.1, b.2.2) :: st) μ else none)
        else none
    | _ => none
  | .iastore => match st with
    | .inl x :: .inl i :: .inr (.inr (some a)) :: st => if qeK a.1 = 1 then (bif qoob i (qeL a.1) then none else nx ls st (qsi μ a (qix i) x)) else none
    | _ => none
  | .bastore => match st with
    | .inl x :: .inl i :: .inr (.inr (some a)) :: st => if qeK a.1 = 3 ∧ (x = 0 ∨ x = 1) then (bif qoob i (qeL a.1) then none else nx ls st (qsi μ a (qix i) x)) else none
    | _ => none
  | .lastore => match st with
    | .inr (.inl x) :: .inl i :: .inr (.inr (some a)) :: st => if qeK a.1 = 2 then (bif qoob i (qeL a.1) then none else nx ls st (qsl μ a (qix i) x)) else none
    | _ => none
  | .aastore => match st with
    | .inr (.inr none) :: .inl i :: .inr (.inr (some a)) :: st => if qeK a.1 = 5 then (bif qoob i (qeL a.1) then none else nx ls st (qsr μ a (qix i) none)) else none
    | .inr (.inr (some b)) :: .inl i :: .inr (.inr (some a)) :: st => if qeK a.1 = 5 ∧ b.1 = qeT a.1 then (bif qoob i (qeL a.1) then none else nx ls st (qsr μ a (qix i) (some b))) else none
    | _ => none
  | .faload => match st with
    | .inl i :: .inr (.inr (some a)) :: st => if a = (99, 0, 0) then (bif qoob i (qix (μ.1 (99, 1, 0) 0)) then none else nx ls (qI (μ.1 (99, 0, 0) (qix i)) :: st) μ) else none
    | _ => none
  | .fload _ => match st with
    | .inr (.inr (some a)) :: st => if a = (99, 0, 0) then nx ls (qI (μ.1 (99, 1, 0) 0) :: st) μ else none
    | _ => none
  | .invokeinterface y c => match qpop (c / 8 % 8) st [] with
    | some (av, st) => if qwd st ≤ 8 then
        (match c % 8 with
        | 0 => qbV (call y av μ) (fun μ => nx ls st μ)
        | 1 => qbI (call y av μ) (fun x μ => nx ls (qI x :: st) μ)
        | 2 => qbL (call y av μ) (fun x μ => nx ls (qL x :: st) μ)
        | 3 => qbR (c / 64) (call y av μ) (fun j k μ => nx ls (qR (c / 64, j, k) :: st) μ)
        | 4 => qbN (c / 64) (call y av μ) (fun j k μ => nx ls (qR (c / 64, j, k) :: st) μ) (fun μ => nx ls (qO none :: st) μ)
        | _ => none) else none
    | none => none
  | .ireturn => match st with
    | [.inl x] => some (some (qI x), μ)
    | _ => none
  | .freturn => match st with
    | [.inl x] => if x = 0 ∨ x = 1 then some (some (qI x), μ) else none
    | _ => none
  | .lreturn => match st with
    | [.inr (.inl x)] => some (some (qL x), μ)
    | _ => none
  | .areturn => match st with
    | [.inr (.inr x)] => some (some (qO x), μ)
    | _ => none
  | .return_ => match st with
    | [] => some (none, μ)
    | _ => none
  | _ => none
def qjmp (k : Nat → QL → List QV → QM → QR) (code : List QE) (pc : Nat) (off : Int) (ls : QL) (st : List QV) (μ : QM) : QR :=
  k ((pc : Int) + off).toNat (qmask (qmskOf code ((pc : Int) + off).toNat) ls) st μ
def qsem (call : QC) (k : Nat → QL → List QV → QM → QR) (code : List QE) : List QE → Bool → QL → List QV → QM → QR
  | [] => fun _ _ _ _ => none
  | e :: rest => fun b ls st μ => match b, e.2.1 with
    | true, some m => k e.1 (qmask m ls) st μ
    | _, _ => qop call (qsem call k code rest true) (qjmp k code e.1) e.2.2 ls st μ
def qfrom (code : List QE) (pc : Nat) : List QE := code.dropWhile (fun e => !(e.1 == pc))
def qrunF (call : QC) (code : List QE) : Nat → Nat → QL → List QV → QM → QR
  | 0 => fun _ _ _ _ => none
  | n + 1 => fun pc ls st μ => qsem call (qrunF call code n) code (qfrom code pc) false ls st μ
noncomputable def qsup (f : Nat → QR) : QR := @dite _ (∃ n, (f n).isSome = true) (Classical.propDecidable _) (fun h => f h.choose) (fun _ => none)
noncomputable def qrun (call : QC) (code : List QE) (pc : Nat) (ls : QL) (st : List QV) (μ : QM) : QR := qsup (fun n => qrunF call code n pc ls st μ)
end
section
/-! a run's equation: each step hands on to one successor at most -/
theorem qcond_or (c : ClassFile.Cond) (x y : Int32) : (∀ A B : QR, qcond c x y A B = A) ∨ (∀ A B : QR, qcond c x y A B = B) := by
  cases c <;> simp only [qcond]
  · by_cases h : x = y <;> simp [h]
  · by_cases h : x = y <;> simp [h]
  · by_cases h : x < y <;> simp [h]
  · by_cases h : y ≤ x <;> simp [h]
  · by_cases h : y < x <;> simp [h]
  · by_cases h : x ≤ y <;> simp [h]
theorem qsw_jp (x : Int32) (d : Int) : ∀ l : List (Int × Int), ∃ off : Int, ∀ jp : Int → QR, qsw jp x d l = jp off
  | [] => ⟨d, fun _ => rfl⟩
  | (a, o) :: l => by
    by_cases h : x = Int32.ofInt a
    · exact ⟨o, fun jp => by simp only [qsw, if_pos h]⟩
    · obtain ⟨off, k⟩ := qsw_jp x d l
      exact ⟨off, fun jp => by simp only [qsw, if_neg h]; exact k jp⟩
def QT (f : (QL → List QV → QM → QR) → (Int → QL → List QV → QM → QR) → QR) : Prop :=
  (∃ r, ∀ nx jp, f nx jp = r) ∨ (∃ l s m, ∀ nx jp, f nx jp = nx l s m) ∨ (∃ o l s m, ∀ nx jp, f nx jp = jp o l s m)
theorem QT.c {r : QR} : QT (fun _ _ => r) := Or.inl ⟨r, fun _ _ => rfl⟩
theorem QT.n {l : QL} {s : List QV} {m : QM} : QT (fun nx _ => nx l s m) := Or.inr (Or.inl ⟨l, s, m, fun _ _ => rfl⟩)
theorem QT.j {o : Int} {l : QL} {s : List QV} {m : QM} : QT (fun _ jp => jp o l s m) := Or.inr (Or.inr ⟨o, l, s, m, fun _ _ => rfl⟩)
theorem QT.ite {c : Prop} [i : Decidable c] {f g : (QL → List QV → QM → QR) → (Int → QL → List QV → QM → QR) → QR} (hf : QT f) (hg : QT g) : QT (fun nx jp => if c then f nx jp else g nx jp) := by
  by_cases h : c
  · simpa only [if_pos h] using hf
  · simpa only [if_neg h] using hg
theorem QT.cond {b : Bool} {f g : (QL → List QV → QM → QR) → (Int → QL → List QV → QM → QR) → QR} (hf : QT f) (hg : QT g) : QT (fun nx jp => bif b then f nx jp else g nx jp) := by
  cases b
  · exact hg
  · exact hf
theorem QT.qc {c : ClassFile.Cond} {x y : Int32} {f g : (QL → List QV → QM → QR) → (Int → QL → List QV → QM → QR) → QR} (hf : QT f) (hg : QT g) : QT (fun nx jp => qcond c x y (f nx jp) (g nx jp)) := by
  rcases qcond_or c x y with h | h
  · simpa only [h] using hf
  · simpa only [h] using hg
theorem QT.sw {x : Int32} {d : Int} {ps : List (Int × Int)} {l : QL} {s : List QV} {m : QM} : QT (fun _ jp => qsw (fun off => jp off l s m) x d ps) := by
  obtain ⟨off, h⟩ := qsw_jp x d ps
  exact Or.inr (Or.inr ⟨off, l, s, m, fun _ jp => h _⟩)
theorem QT.bV {c : QR} {f : QM → (QL → List QV → QM → QR) → (Int → QL → List QV → QM → QR) → QR} (hf : ∀ μ, QT (f μ)) : QT (fun nx jp => qbV c (fun μ => f μ nx jp)) := by
  rcases c with _ | ⟨_ | v, μ⟩
  · exact QT.c
  · exact hf μ
  · exact QT.c
theorem QT.bI {c : QR} {f : Int32 → QM → (QL → List QV → QM → QR) → (Int → QL → List QV → QM → QR) → QR} (hf : ∀ x μ, QT (f x μ)) : QT (fun nx jp => qbI c (fun x μ => f x μ nx jp)) := by
  rcases c with _ | ⟨_ | v | v | v, μ⟩
  · exact QT.c
  · exact QT.c
  · exact hf v μ
  · exact QT.c
  · exact QT.c
theorem QT.bL {c : QR} {f : Int64 → QM → (QL → List QV → QM → QR) → (Int → QL → List QV → QM → QR) → QR} (hf : ∀ x μ, QT (f x μ)) : QT (fun nx jp => qbL c (fun x μ => f x μ nx jp)) := by
  rcases c with _ | ⟨_ | v | v | v, μ⟩
  · exact QT.c
  · exact QT.c
  · exact QT.c
  · exact hf v μ
  · exact QT.c
theorem QT.bR {t : Nat} {c : QR} {f : Nat → Nat → QM → (QL → List QV → QM → QR) → (Int → QL → List QV → QM → QR) → QR} (hf : ∀ x y μ, QT (f x y μ)) : QT (fun nx jp => qbR t c (fun x y μ => f x y μ nx jp)) := by
  rcases c with _ | ⟨_ | v | v | _ | a, μ⟩
  · exact QT.c
  · exact QT.c
  · exact QT.c
  · exact QT.c
  · exact QT.c
  · exact QT.ite (hf _ _ μ) QT.c
theorem QT.bN {t : Nat} {c : QR} {f : Nat → Nat → QM → (QL → List QV → QM → QR) → (Int → QL → List QV → QM → QR) → QR} {g : QM → (QL → List QV → QM → QR) → (Int → QL → List QV → QM → QR) → QR} (hf : ∀ x y μ, QT (f x y μ)) (hg : ∀ μ, QT (g μ)) : QT (fun nx jp => qbN t c (fun x y μ => f x y μ nx jp) (fun μ => g μ nx jp)) := by
  rcases c with _ | ⟨_ | v | v | _ | a, μ⟩
  · exact QT.c
  · exact QT.c
  · exact QT.c
  · exact QT.c
  · exact hg μ
  · exact QT.ite (hf _ _ μ) QT.c
set_option maxHeartbeats 4000000 in
theorem qop_tail (call : QC) (o : Instr) (ls : QL) (st : List QV) (μ : QM) : QT (fun nx jp => qop call nx jp o ls st μ) := by
  cases o
  case sipush n =>
    exact QT.n
  case goto_w n =>
    exact QT.n
  case aconst_null =>
    exact QT.n
  case iload i =>
    show QT (fun nx jp => match ls[i]? with | some (some (.inl x)) => nx ls (qI x :: st) μ | _ => none)
    rcases ls[i]? with _ | _ | x | x | x <;> first | exact QT.n | exact QT.c
  case lload i =>
    show QT (fun nx jp => match ls[i]? with | some (some (.inr (.inl x))) => nx ls (qL x :: st) μ | _ => none)
    rcases ls[i]? with _ | _ | x | x | x <;> first | exact QT.n | exact QT.c
  case aload i =>
    show QT (fun nx jp => match ls[i]? with | some (some (.inr (.inr x))) => nx ls (qO x :: st) μ | _ => none)
    rcases ls[i]? with _ | _ | x | x | x <;> first | exact QT.n | exact QT.c
  case iinc i n =>
    show QT (fun nx jp => match ls[i]? with | some (some (.inl x)) => nx (qput ls i (qI (x + Int32.ofInt n))) st μ | _ => none)
    rcases ls[i]? with _ | _ | x | x | x <;> first | exact QT.n | exact QT.c
  case istore i =>
    rcases st with _ | ⟨v0, t0⟩
    · exact QT.c
    rcases v0 with x0 | x0
    · exact QT.ite QT.n QT.c
    · exact QT.c
  case astore i =>
    rcases st with _ | ⟨v0, t0⟩
    · exact QT.c
    rcases v0 with x0 | x0 | x0
    · exact QT.c
    · exact QT.c
    exact QT.ite QT.n QT.c
  case lstore i =>
    rcases st with _ | ⟨v0, t0⟩
    · exact QT.c
    rcases v0 with x0 | x0 | x0
    · exact QT.c
    · exact QT.ite QT.n QT.c
    · exact QT.c
  case dup =>
    rcases st with _ | ⟨x | x | x, st⟩ <;> first | exact QT.n | exact QT.c
  case pop =>
    rcases st with _ | ⟨x | x | x, st⟩ <;> first | exact QT.n | exact QT.c
  case dup2 =>
    rcases st with _ | ⟨v0, t0⟩
    · exact QT.c
    rcases v0 with x0 | x0
    · rcases t0 with _ | ⟨v1, t1⟩
      · exact QT.c
      rcases v1 with x1 | x1 | x1
      · exact QT.c
      · exact QT.c
      exact QT.n
    · exact QT.c
  case iadd =>
    rcases st with _ | ⟨v0, t0⟩
    · exact QT.c
    rcases v0 with x0 | x0
    · rcases t0 with _ | ⟨v1, t1⟩
      · exact QT.c
      rcases v1 with x1 | x1
      · exact QT.n
      · exact QT.c
    · exact QT.c
  case isub =>
    rcases st with _ | ⟨v0, t0⟩
    · exact QT.c
    rcases v0 with x0 | x0
    · rcases t0 with _ | ⟨v1, t1⟩
      · exact QT.c
      rcases v1 with x1 | x1
      · exact QT.n
      · exact QT.c
    · exact QT.c
  case imul =>
    rcases st with _ | ⟨v0, t0⟩
    · exact QT.c
    rcases v0 with x0 | x0
    · rcases t0 with _ | ⟨v1, t1⟩
      · exact QT.c
      rcases v1 with x1 | x1
      · exact QT.n
      · exact QT.c
    · exact QT.c
  case iand =>
    rcases st with _ | ⟨v0, t0⟩
    · exact QT.c
    rcases v0 with x0 | x0
    · rcases t0 with _ | ⟨v1, t1⟩
      · exact QT.c
      rcases v1 with x1 | x1
      · exact QT.n
      · exact QT.c
    · exact QT.c
  case ior =>
    rcases st with _ | ⟨v0, t0⟩
    · exact QT.c
    rcases v0 with x0 | x0
    · rcases t0 with _ | ⟨v1, t1⟩
      · exact QT.c
      rcases v1 with x1 | x1
      · exact QT.n
      · exact QT.c
    · exact QT.c
  case ixor =>
    rcases st with _ | ⟨v0, t0⟩
    · exact QT.c
    rcases v0 with x0 | x0
    · rcases t0 with _ | ⟨v1, t1⟩
      · exact QT.c
      rcases v1 with x1 | x1
      · exact QT.n
      · exact QT.c
    · exact QT.c
  case ishl =>
    rcases st with _ | ⟨v0, t0⟩
    · exact QT.c
    rcases v0 with x0 | x0
    · rcases t0 with _ | ⟨v1, t1⟩
      · exact QT.c
      rcases v1 with x1 | x1
      · exact QT.n
      · exact QT.c
    · exact QT.c
  case ishr =>
    rcases st with _ | ⟨v0, t0⟩
    · exact QT.c
    rcases v0 with x0 | x0
    · rcases t0 with _ | ⟨v1, t1⟩
      · exact QT.c
      rcases v1 with x1 | x1
      · exact QT.n
      · exact QT.c
    · exact QT.c
  case iushr =>
    rcases st with _ | ⟨v0, t0⟩
    · exact QT.c
    rcases v0 with x0 | x0
    · rcases t0 with _ | ⟨v1, t1⟩
      · exact QT.c
      rcases v1 with x1 | x1
      · exact QT.n
      · exact QT.c
    · exact QT.c
  case idiv =>
    rcases st with _ | ⟨v0, t0⟩
    · exact QT.c
    rcases v0 with x0 | x0
    · rcases t0 with _ | ⟨v1, t1⟩
      · exact QT.c
      rcases v1 with x1 | x1
      · exact QT.ite QT.c QT.n
      · exact QT.c
    · exact QT.c
  case irem =>
    rcases st with _ | ⟨v0, t0⟩
    · exact QT.c
    rcases v0 with x0 | x0
    · rcases t0 with _ | ⟨v1, t1⟩
      · exact QT.c
      rcases v1 with x1 | x1
      · exact QT.ite QT.c QT.n
      · exact QT.c
    · exact QT.c
  case ineg =>
    rcases st with _ | ⟨v0, t0⟩
    · exact QT.c
    rcases v0 with x0 | x0
    · exact QT.n
    · exact QT.c
  case ladd =>
    rcases st with _ | ⟨v0, t0⟩
    · exact QT.c
    rcases v0 with x0 | x0 | x0
    · exact QT.c
    · rcases t0 with _ | ⟨v1, t1⟩
      · exact QT.c
      rcases v1 with x1 | x1 | x1
      · exact QT.c
      · exact QT.n
      · exact QT.c
    · exact QT.c
  case lsub =>
    rcases st with _ | ⟨v0, t0⟩
    · exact QT.c
    rcases v0 with x0 | x0 | x0
    · exact QT.c
    · rcases t0 with _ | ⟨v1, t1⟩
      · exact QT.c
      rcases v1 with x1 | x1 | x1
      · exact QT.c
      · exact QT.n
      · exact QT.c
    · exact QT.c
  case lmul =>
    rcases st with _ | ⟨v0, t0⟩
    · exact QT.c
    rcases v0 with x0 | x0 | x0
    · exact QT.c
    · rcases t0 with _ | ⟨v1, t1⟩
      · exact QT.c
      rcases v1 with x1 | x1 | x1
      · exact QT.c
      · exact QT.n
      · exact QT.c
    · exact QT.c
  case lor =>
    rcases st with _ | ⟨v0, t0⟩
    · exact QT.c
    rcases v0 with x0 | x0 | x0
    · exact QT.c
    · rcases t0 with _ | ⟨v1, t1⟩
      · exact QT.c
      rcases v1 with x1 | x1 | x1
      · exact QT.c
      · exact QT.n
      · exact QT.c
    · exact QT.c
  case lcmp =>
    rcases st with _ | ⟨v0, t0⟩
    · exact QT.c
    rcases v0 with x0 | x0 | x0
    · exact QT.c
    · rcases t0 with _ | ⟨v1, t1⟩
      · exact QT.c
      rcases v1 with x1 | x1 | x1
      · exact QT.c
      · exact QT.n
      · exact QT.c
    · exact QT.c
  case ldiv =>
    rcases st with _ | ⟨v0, t0⟩
    · exact QT.c
    rcases v0 with x0 | x0 | x0
    · exact QT.c
    · rcases t0 with _ | ⟨v1, t1⟩
      · exact QT.c
      rcases v1 with x1 | x1 | x1
      · exact QT.c
      · exact QT.ite QT.c QT.n
      · exact QT.c
    · exact QT.c
  case lrem =>
    rcases st with _ | ⟨v0, t0⟩
    · exact QT.c
    rcases v0 with x0 | x0 | x0
    · exact QT.c
    · rcases t0 with _ | ⟨v1, t1⟩
      · exact QT.c
      rcases v1 with x1 | x1 | x1
      · exact QT.c
      · exact QT.ite QT.c QT.n
      · exact QT.c
    · exact QT.c
  case lshl =>
    rcases st with _ | ⟨v0, t0⟩
    · exact QT.c
    rcases v0 with x0 | x0
    · rcases t0 with _ | ⟨v1, t1⟩
      · exact QT.c
      rcases v1 with x1 | x1 | x1
      · exact QT.c
      · exact QT.n
      · exact QT.c
    · exact QT.c
  case i2l =>
    rcases st with _ | ⟨v0, t0⟩
    · exact QT.c
    rcases v0 with x0 | x0
    · exact QT.n
    · exact QT.c
  case fadd =>
    rcases st with _ | ⟨v0, t0⟩
    · exact QT.c
    rcases v0 with x0 | x0
    · rcases t0 with _ | ⟨v1, t1⟩
      · exact QT.c
      rcases v1 with x1 | x1
      · exact QT.ite QT.n QT.c
      · exact QT.c
    · exact QT.c
  case fsub =>
    rcases st with _ | ⟨v0, t0⟩
    · exact QT.c
    rcases v0 with x0 | x0
    · rcases t0 with _ | ⟨v1, t1⟩
      · exact QT.c
      rcases v1 with x1 | x1
      · exact QT.ite QT.n QT.c
      · exact QT.c
    · exact QT.c
  case fneg =>
    rcases st with _ | ⟨v0, t0⟩
    · exact QT.c
    rcases v0 with x0 | x0
    · exact QT.ite QT.n QT.c
    · exact QT.c
  case ifCond c off =>
    rcases st with _ | ⟨v0, t0⟩
    · exact QT.c
    rcases v0 with x0 | x0
    · exact QT.qc QT.j QT.n
    · exact QT.c
  case if_icmp c off =>
    rcases st with _ | ⟨v0, t0⟩
    · exact QT.c
    rcases v0 with x0 | x0
    · rcases t0 with _ | ⟨v1, t1⟩
      · exact QT.c
      rcases v1 with x1 | x1
      · exact QT.qc QT.j QT.n
      · exact QT.c
    · exact QT.c
  case if_acmp c off =>
    cases c
    · rcases st with _ | ⟨v0, t0⟩
      · exact QT.c
      rcases v0 with x0 | x0 | x0
      · exact QT.c
      · exact QT.c
      rcases t0 with _ | ⟨v1, t1⟩
      · exact QT.c
      rcases v1 with x1 | x1 | x1
      · exact QT.c
      · exact QT.c
      exact QT.ite QT.j QT.n
    · rcases st with _ | ⟨v0, t0⟩
      · exact QT.c
      rcases v0 with x0 | x0 | x0
      · exact QT.c
      · exact QT.c
      rcases t0 with _ | ⟨v1, t1⟩
      · exact QT.c
      rcases v1 with x1 | x1 | x1
      · exact QT.c
      · exact QT.c
      exact QT.ite QT.n QT.j
  case ifnull off =>
    rcases st with _ | ⟨x | x | _ | x, st⟩ <;> first | exact QT.n | exact QT.j | exact QT.c
  case ifnonnull off =>
    rcases st with _ | ⟨x | x | _ | x, st⟩ <;> first | exact QT.n | exact QT.j | exact QT.c
  case goto off =>
    exact QT.j
  case tableswitch d lo hi offs =>
    rcases st with _ | ⟨v0, t0⟩
    · exact QT.c
    rcases v0 with x0 | x0
    · exact QT.sw
    · exact QT.c
  case lookupswitch d ps =>
    rcases st with _ | ⟨v0, t0⟩
    · exact QT.c
    rcases v0 with x0 | x0
    · exact QT.sw
    · exact QT.c
  case getfield r =>
    rcases st with _ | ⟨v0, t0⟩
    · exact QT.c
    rcases v0 with x0 | x0 | _ | x0
    · exact QT.c
    · exact QT.c
    · exact QT.c
    refine QT.ite ?_ QT.c
    generalize qfK (r / 64) (r % 64) = q
    match q with
    | 0 => exact QT.n
    | 1 => exact QT.n
    | 2 => exact QT.n
    | _ + 3 => exact QT.c
  case putfield r =>
    rcases st with _ | ⟨v0, t0⟩
    · exact QT.c
    rcases v0 with x0 | x0
    · rcases t0 with _ | ⟨v1, t1⟩
      · exact QT.c
      rcases v1 with x1 | x1 | _ | x1
      · exact QT.c
      · exact QT.c
      · exact QT.c
      refine QT.ite ?_ QT.c
      generalize qfK (r / 64) (r % 64) = q
      match q with
      | 0 => exact QT.n
      | 1 => exact QT.ite QT.n QT.c
      | _ + 2 => exact QT.c
    · exact QT.c
  case arraylength =>
    rcases st with _ | ⟨v0, t0⟩
    · exact QT.c
    rcases v0 with x0 | x0 | _ | x0
    · exact QT.c
    · exact QT.c
    · exact QT.c
    exact QT.ite QT.c QT.n
  case iaload =>
    rcases st with _ | ⟨v0, t0⟩
    · exact QT.c
    rcases v0 with x0 | x0
    · rcases t0 with _ | ⟨v1, t1⟩
      · exact QT.c
      rcases v1 with x1 | x1 | _ | x1
      · exact QT.c
      · exact QT.c
      · exact QT.c
      exact QT.ite (QT.cond QT.c QT.n) QT.c
    · exact QT.c
  case baload =>
    rcases st with _ | ⟨v0, t0⟩
    · exact QT.c
    rcases v0 with x0 | x0
    · rcases t0 with _ | ⟨v1, t1⟩
      · exact QT.c
      rcases v1 with x1 | x1 | _ | x1
      · exact QT.c
      · exact QT.c
      · exact QT.c
      exact QT.ite (QT.cond QT.c QT.n) QT.c
    · exact QT.c
  case laload =>
    rcases st with _ | ⟨v0, t0⟩
    · exact QT.c
    rcases v0 with x0 | x0
    · rcases t0 with _ | ⟨v1, t1⟩
      · exact QT.c
      rcases v1 with x1 | x1 | _ | x1
      · exact QT.c
      · exact QT.c
      · exact QT.c
      exact QT.ite (QT.cond QT.c QT.n) QT.c
    · exact QT.c
  case aaload =>
    rcases st with _ | ⟨v0, t0⟩
    · exact QT.c
    rcases v0 with x0 | x0
    · rcases t0 with _ | ⟨v1, t1⟩
      · exact QT.c
      rcases v1 with x1 | x1 | _ | x1
      · exact QT.c
      · exact QT.c
      · exact QT.c
      refine QT.cond QT.c (QT.ite QT.n (QT.ite ?_ QT.c))
      rcases μ.2.2 x1 (qix x0) with _ | b
      · exact QT.n
      · exact QT.ite QT.n QT.c
    · exact QT.c
  case iastore =>
    rcases st with _ | ⟨v0, t0⟩
    · exact QT.c
    rcases v0 with x0 | x0
    · rcases t0 with _ | ⟨v1, t1⟩
      · exact QT.c
      rcases v1 with x1 | x1
      · rcases t1 with _ | ⟨v2, t2⟩
        · exact QT.c
        rcases v2 with x2 | x2 | _ | x2
        · exact QT.c
        · exact QT.c
        · exact QT.c
        exact QT.ite (QT.cond QT.c QT.n) QT.c
      · exact QT.c
    · exact QT.c
  case bastore =>
    rcases st with _ | ⟨v0, t0⟩
    · exact QT.c
    rcases v0 with x0 | x0
    · rcases t0 with _ | ⟨v1, t1⟩
      · exact QT.c
      rcases v1 with x1 | x1
      · rcases t1 with _ | ⟨v2, t2⟩
        · exact QT.c
        rcases v2 with x2 | x2 | _ | x2
        · exact QT.c
        · exact QT.c
        · exact QT.c
        exact QT.ite (QT.cond QT.c QT.n) QT.c
      · exact QT.c
    · exact QT.c
  case lastore =>
    rcases st with _ | ⟨v0, t0⟩
    · exact QT.c
    rcases v0 with x0 | x0 | x0
    · exact QT.c
    · rcases t0 with _ | ⟨v1, t1⟩
      · exact QT.c
      rcases v1 with x1 | x1
      · rcases t1 with _ | ⟨v2, t2⟩
        · exact QT.c
        rcases v2 with x2 | x2 | _ | x2
        · exact QT.c
        · exact QT.c
        · exact QT.c
        exact QT.ite (QT.cond QT.c QT.n) QT.c
      · exact QT.c
    · exact QT.c
  case aastore =>
    rcases st with _ | ⟨x | x | _ | b, st⟩
    · exact QT.c
    · exact QT.c
    · exact QT.c
    · rcases st with _ | ⟨v0, t0⟩
      · exact QT.c
      rcases v0 with x0 | x0
      · rcases t0 with _ | ⟨v1, t1⟩
        · exact QT.c
        rcases v1 with x1 | x1 | _ | x1
        · exact QT.c
        · exact QT.c
        · exact QT.c
        exact QT.ite (QT.cond QT.c QT.n) QT.c
      · exact QT.c
    · rcases st with _ | ⟨v0, t0⟩
      · exact QT.c
      rcases v0 with x0 | x0
      · rcases t0 with _ | ⟨v1, t1⟩
        · exact QT.c
        rcases v1 with x1 | x1 | _ | x1
        · exact QT.c
        · exact QT.c
        · exact QT.c
        exact QT.ite (QT.cond QT.c QT.n) QT.c
      · exact QT.c
  case faload =>
    rcases st with _ | ⟨v0, t0⟩
    · exact QT.c
    rcases v0 with x0 | x0
    · rcases t0 with _ | ⟨v1, t1⟩
      · exact QT.c
      rcases v1 with x1 | x1 | _ | x1
      · exact QT.c
      · exact QT.c
      · exact QT.c
      exact QT.ite (QT.cond QT.c QT.n) QT.c
    · exact QT.c
  case fload i =>
    rcases st with _ | ⟨v0, t0⟩
    · exact QT.c
    rcases v0 with x0 | x0 | _ | x0
    · exact QT.c
    · exact QT.c
    · exact QT.c
    exact QT.ite QT.n QT.c
  case invokeinterface y c =>
    show QT (fun nx jp => match qpop (c / 8 % 8) st [] with | some (av, st) => _ | none => none)
    rcases qpop (c / 8 % 8) st [] with _ | ⟨av, st⟩
    · exact QT.c
    refine QT.ite ?_ QT.c
    generalize c % 8 = q
    match q with
    | 0 => exact QT.bV fun _ => QT.n
    | 1 => exact QT.bI fun _ _ => QT.n
    | 2 => exact QT.bL fun _ _ => QT.n
    | 3 => exact QT.bR fun _ _ _ => QT.n
    | 4 => exact QT.bN (fun _ _ _ => QT.n) fun _ => QT.n
    | _ + 5 => exact QT.c
  case ireturn =>
    exact QT.c
  case freturn =>
    exact QT.c
  case lreturn =>
    exact QT.c
  case areturn =>
    exact QT.c
  case return_ =>
    exact QT.c
  all_goals exact QT.c
theorem qsem_tail (call : QC) (code : List QE) : ∀ (l : List QE) (b : Bool) (ls : QL) (st : List QV) (μ : QM),
    (∃ r, ∀ k, qsem call k code l b ls st μ = r) ∨ (∃ pc l' s' m', ∀ k, qsem call k code l b ls st μ = k pc l' s' m')
  | [], b, ls, st, μ => Or.inl ⟨none, fun _ => rfl⟩
  | e :: rest, b, ls, st, μ => by
    have main : (∃ r, ∀ k, qop call (qsem call k code rest true) (qjmp k code e.1) e.2.2 ls st μ = r) ∨ (∃ pc l' s' m', ∀ k, qop call (qsem call k code rest true) (qjmp k code e.1) e.2.2 ls st μ = k pc l' s' m') := by
      rcases qop_tail call e.2.2 ls st μ with ⟨r, h⟩ | ⟨l, s, m, h⟩ | ⟨o, l, s, m, h⟩
      · exact Or.inl ⟨r, fun k => h _ _⟩
      · rcases qsem_tail call code rest true l s m with ⟨r, h2⟩ | ⟨pc, l', s', m', h2⟩
        · exact Or.inl ⟨r, fun k => (h _ _).trans (h2 k)⟩
        · exact Or.inr ⟨pc, l', s', m', fun k => (h _ _).trans (h2 k)⟩
      · exact Or.inr ⟨_, _, _, _, fun k => h _ _⟩
    obtain ⟨pc, lv, o⟩ := e
    cases b
    · exact main
    · cases lv with
      | none => exact main
      | some m => exact Or.inr ⟨pc, qmask m ls, st, μ, fun _ => rfl⟩
theorem qrunF_mono (call : QC) (code : List QE) : ∀ (n m : Nat) (pc : Nat) (ls : QL) (st : List QV) (μ : QM) (r : Option QV × QM), n ≤ m → qrunF call code n pc ls st μ = some r → qrunF call code m pc ls st μ = some r
  | 0, m, pc, ls, st, μ, r, _, h => by cases h
  | n + 1, 0, pc, ls, st, μ, r, hl, h => absurd hl (by omega)
  | n + 1, m + 1, pc, ls, st, μ, r, hl, h => by
    have h : qsem call (qrunF call code n) code (qfrom code pc) false ls st μ = some r := h
    show qsem call (qrunF call code m) code (qfrom code pc) false ls st μ = some r
    rcases qsem_tail call code (qfrom code pc) false ls st μ with ⟨x, h2⟩ | ⟨pc', l', s', m', h2⟩
    · rw [h2] at h ⊢
      exact h
    · rw [h2] at h ⊢
      exact qrunF_mono call code n m pc' l' s' m' r (by omega) h
theorem qsup_eq {f : Nat → QR} (hm : ∀ n m r, n ≤ m → f n = some r → f m = some r) {n : Nat} {r : Option QV × QM} (h : f n = some r) : qsup f = some r := by
  have hex : ∃ n, (f n).isSome = true := ⟨n, by rw [h]; rfl⟩
  unfold qsup
  rw [dif_pos hex]
  have hc := hex.choose_spec
  generalize hex.choose = m at hc ⊢
  obtain ⟨r', hr'⟩ := Option.isSome_iff_exists.mp hc
  rcases Nat.le_total n m with hl | hl
  · exact hm _ _ _ hl h
  · rw [hr', ← hm _ _ _ hl hr', h]
theorem qsup_some {f : Nat → QR} {r : Option QV × QM} (h : qsup f = some r) : ∃ n, f n = some r := by
  unfold qsup at h
  by_cases hex : ∃ n, (f n).isSome = true
  · rw [dif_pos hex] at h
    exact ⟨_, h⟩
  · rw [dif_neg hex] at h
    cases h
theorem qsup_none {f : Nat → QR} (h : ∀ n, f n = none) : qsup f = none := by
  unfold qsup
  rw [dif_neg]
  rintro ⟨n, hn⟩
  rw [h n] at hn
  cases hn
/-- a run, one stretch on -/
theorem qrun_eq (call : QC) (code : List QE) (pc : Nat) (ls : QL) (st : List QV) (μ : QM) : qrun call code pc ls st μ = qsem call (qrun call code) code (qfrom code pc) false ls st μ := by
  have hm : ∀ pc ls st μ n m r, n ≤ m → qrunF call code n pc ls st μ = some r → qrunF call code m pc ls st μ = some r := fun pc ls st μ n m r => qrunF_mono call code n m pc ls st μ r
  rcases qsem_tail call code (qfrom code pc) false ls st μ with ⟨x, h⟩ | ⟨pc', l', s', m', h⟩
  · rw [h]
    cases x with
    | none =>
      refine qsup_none fun n => ?_
      cases n with
      | zero => rfl
      | succ n => exact h _
    | some r => exact qsup_eq (hm pc ls st μ) (n := 1) (h _)
  · rw [h]
    cases hx : qrun call code pc' l' s' m' with
    | none =>
      refine qsup_none fun n => ?_
      cases n with
      | zero => rfl
      | succ n =>
        have e : qrunF call code (n + 1) pc ls st μ = qrunF call code n pc' l' s' m' := h _
        rw [e]
        cases hy : qrunF call code n pc' l' s' m' with
        | none => rfl
        | some r =>
          have := qsup_eq (hm pc' l' s' m') hy
          unfold qrun at hx
          rw [this] at hx
          cases hx
    | some r =>
      obtain ⟨n, hn⟩ := qsup_some hx
      exact qsup_eq (hm pc ls st μ) (n := n + 1) ((h _).trans hn)
end
