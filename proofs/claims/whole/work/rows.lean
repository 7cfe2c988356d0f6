section
-- ===== PART A: goes FIRST, ahead of the names: the tables' words, and 'selects' of the private methods out of them =====
/-- a private method of a class that the tables say can be made, by its rows of tables_1 -/
def lw_okq (q : MethodName × Nat) : Prop := (q.1.cls ≠ "java/lang/invoke/MethodHandle" ∧ q.1.cls ≠ "java/lang/invoke/VarHandle") ∧ Cond.instantiable q.1.cls q.2 ∈ tables_1 ∧ Cond.privateMethod q.1 ∈ tables_1 ∧ Cond.instanceMethod q.1 ∈ tables_1
theorem lw_p0 : lw_okq (⟨"JealousByCalendar", "refuse", "(I)I"⟩, 17) := ⟨⟨by decide +kernel, by decide +kernel⟩, List.mem_of_getElem? (i := 12) (by decide +kernel), List.mem_of_getElem? (i := 266) (by decide +kernel), List.mem_of_getElem? (i := 267) (by decide +kernel)⟩
theorem lw_p1 : lw_okq (⟨"JealousByCalendar", "firstMisplaced", "()I"⟩, 17) := ⟨⟨by decide +kernel, by decide +kernel⟩, List.mem_of_getElem? (i := 12) (by decide +kernel), List.mem_of_getElem? (i := 274) (by decide +kernel), List.mem_of_getElem? (i := 275) (by decide +kernel)⟩
theorem lw_p2 : lw_okq (⟨"JealousByCalendar", "letterAt", "(I)I"⟩, 17) := ⟨⟨by decide +kernel, by decide +kernel⟩, List.mem_of_getElem? (i := 12) (by decide +kernel), List.mem_of_getElem? (i := 278) (by decide +kernel), List.mem_of_getElem? (i := 279) (by decide +kernel)⟩
theorem lw_p3 : lw_okq (⟨"JealousByCalendar", "tellStatements", "()I"⟩, 17) := ⟨⟨by decide +kernel, by decide +kernel⟩, List.mem_of_getElem? (i := 12) (by decide +kernel), List.mem_of_getElem? (i := 288) (by decide +kernel), List.mem_of_getElem? (i := 289) (by decide +kernel)⟩
theorem lw_p4 : lw_okq (⟨"JealousByCalendar$Affair", "copyFrom", "(LJealousByCalendar$Affair;)V"⟩, 5) := ⟨⟨by decide +kernel, by decide +kernel⟩, List.mem_of_getElem? (i := 20) (by decide +kernel), List.mem_of_getElem? (i := 292) (by decide +kernel), List.mem_of_getElem? (i := 293) (by decide +kernel)⟩
theorem lw_p5 : lw_okq (⟨"JealousByCalendar$Person", "copyFrom", "(LJealousByCalendar$Person;)V"⟩, 5) := ⟨⟨by decide +kernel, by decide +kernel⟩, List.mem_of_getElem? (i := 26) (by decide +kernel), List.mem_of_getElem? (i := 296) (by decide +kernel), List.mem_of_getElem? (i := 297) (by decide +kernel)⟩
theorem lw_p6 : lw_okq (⟨"JealousByCalendar$Cause", "copyFrom", "(LJealousByCalendar$Cause;)V"⟩, 7) := ⟨⟨by decide +kernel, by decide +kernel⟩, List.mem_of_getElem? (i := 59) (by decide +kernel), List.mem_of_getElem? (i := 300) (by decide +kernel), List.mem_of_getElem? (i := 301) (by decide +kernel)⟩
theorem lw_p7 : lw_okq (⟨"JealousByCalendar", "tellStatement", "(I)Z"⟩, 17) := ⟨⟨by decide +kernel, by decide +kernel⟩, List.mem_of_getElem? (i := 12) (by decide +kernel), List.mem_of_getElem? (i := 304) (by decide +kernel), List.mem_of_getElem? (i := 305) (by decide +kernel)⟩
theorem lw_p8 : lw_okq (⟨"JealousByCalendar", "figureAt", "(II)I"⟩, 17) := ⟨⟨by decide +kernel, by decide +kernel⟩, List.mem_of_getElem? (i := 12) (by decide +kernel), List.mem_of_getElem? (i := 308) (by decide +kernel), List.mem_of_getElem? (i := 309) (by decide +kernel)⟩
theorem lw_p9 : lw_okq (⟨"JealousByCalendar", "tellWeekday", "(II)Z"⟩, 17) := ⟨⟨by decide +kernel, by decide +kernel⟩, List.mem_of_getElem? (i := 12) (by decide +kernel), List.mem_of_getElem? (i := 312) (by decide +kernel), List.mem_of_getElem? (i := 313) (by decide +kernel)⟩
theorem lw_p10 : lw_okq (⟨"JealousByCalendar$Affair", "person", "(I)LJealousByCalendar$Person;"⟩, 5) := ⟨⟨by decide +kernel, by decide +kernel⟩, List.mem_of_getElem? (i := 20) (by decide +kernel), List.mem_of_getElem? (i := 322) (by decide +kernel), List.mem_of_getElem? (i := 323) (by decide +kernel)⟩
theorem lw_p11 : lw_okq (⟨"JealousByCalendar", "tellPurse", "(II)Z"⟩, 17) := ⟨⟨by decide +kernel, by decide +kernel⟩, List.mem_of_getElem? (i := 12) (by decide +kernel), List.mem_of_getElem? (i := 326) (by decide +kernel), List.mem_of_getElem? (i := 327) (by decide +kernel)⟩
theorem lw_p12 : lw_okq (⟨"JealousByCalendar", "tellCause", "(IIII)Z"⟩, 17) := ⟨⟨by decide +kernel, by decide +kernel⟩, List.mem_of_getElem? (i := 12) (by decide +kernel), List.mem_of_getElem? (i := 330) (by decide +kernel), List.mem_of_getElem? (i := 331) (by decide +kernel)⟩
theorem lw_p13 : lw_okq (⟨"JealousByCalendar$Affair", "bring", "(IIII)V"⟩, 5) := ⟨⟨by decide +kernel, by decide +kernel⟩, List.mem_of_getElem? (i := 20) (by decide +kernel), List.mem_of_getElem? (i := 337) (by decide +kernel), List.mem_of_getElem? (i := 338) (by decide +kernel)⟩
theorem lw_p14 : lw_okq (⟨"JealousByCalendar$Cause", "become", "(IIII)V"⟩, 7) := ⟨⟨by decide +kernel, by decide +kernel⟩, List.mem_of_getElem? (i := 59) (by decide +kernel), List.mem_of_getElem? (i := 341) (by decide +kernel), List.mem_of_getElem? (i := 342) (by decide +kernel)⟩
theorem lw_p15 : lw_okq (⟨"JealousByCalendar", "tellUse", "(I)Z"⟩, 17) := ⟨⟨by decide +kernel, by decide +kernel⟩, List.mem_of_getElem? (i := 12) (by decide +kernel), List.mem_of_getElem? (i := 351) (by decide +kernel), List.mem_of_getElem? (i := 352) (by decide +kernel)⟩
def lw_privs_1 : List (MethodName × Nat) := [(⟨"JealousByCalendar", "refuse", "(I)I"⟩, 17), (⟨"JealousByCalendar", "firstMisplaced", "()I"⟩, 17), (⟨"JealousByCalendar", "letterAt", "(I)I"⟩, 17), (⟨"JealousByCalendar", "tellStatements", "()I"⟩, 17), (⟨"JealousByCalendar$Affair", "copyFrom", "(LJealousByCalendar$Affair;)V"⟩, 5), (⟨"JealousByCalendar$Person", "copyFrom", "(LJealousByCalendar$Person;)V"⟩, 5), (⟨"JealousByCalendar$Cause", "copyFrom", "(LJealousByCalendar$Cause;)V"⟩, 7), (⟨"JealousByCalendar", "tellStatement", "(I)Z"⟩, 17), (⟨"JealousByCalendar", "figureAt", "(II)I"⟩, 17), (⟨"JealousByCalendar", "tellWeekday", "(II)Z"⟩, 17), (⟨"JealousByCalendar$Affair", "person", "(I)LJealousByCalendar$Person;"⟩, 5), (⟨"JealousByCalendar", "tellPurse", "(II)Z"⟩, 17), (⟨"JealousByCalendar", "tellCause", "(IIII)Z"⟩, 17), (⟨"JealousByCalendar$Affair", "bring", "(IIII)V"⟩, 5), (⟨"JealousByCalendar$Cause", "become", "(IIII)V"⟩, 7), (⟨"JealousByCalendar", "tellUse", "(I)Z"⟩, 17)]
theorem lw_r1 : ∀ q ∈ lw_privs_1, lw_okq q := List.forall_mem_cons.mpr ⟨lw_p0, List.forall_mem_cons.mpr ⟨lw_p1, List.forall_mem_cons.mpr ⟨lw_p2, List.forall_mem_cons.mpr ⟨lw_p3, List.forall_mem_cons.mpr ⟨lw_p4, List.forall_mem_cons.mpr ⟨lw_p5, List.forall_mem_cons.mpr ⟨lw_p6, List.forall_mem_cons.mpr ⟨lw_p7, List.forall_mem_cons.mpr ⟨lw_p8, List.forall_mem_cons.mpr ⟨lw_p9, List.forall_mem_cons.mpr ⟨lw_p10, List.forall_mem_cons.mpr ⟨lw_p11, List.forall_mem_cons.mpr ⟨lw_p12, List.forall_mem_cons.mpr ⟨lw_p13, List.forall_mem_cons.mpr ⟨lw_p14, List.forall_mem_cons.mpr ⟨lw_p15, fun _ h => absurd h List.not_mem_nil⟩⟩⟩⟩⟩⟩⟩⟩⟩⟩⟩⟩⟩⟩⟩⟩
theorem lw_p16 : lw_okq (⟨"JealousByCalendar$Affair", "causeAt", "(I)LJealousByCalendar$Cause;"⟩, 5) := ⟨⟨by decide +kernel, by decide +kernel⟩, List.mem_of_getElem? (i := 20) (by decide +kernel), List.mem_of_getElem? (i := 355) (by decide +kernel), List.mem_of_getElem? (i := 356) (by decide +kernel)⟩
theorem lw_p17 : lw_okq (⟨"JealousByCalendar$Affair", "isUsable", "(LJealousByCalendar$Cause;)Z"⟩, 5) := ⟨⟨by decide +kernel, by decide +kernel⟩, List.mem_of_getElem? (i := 20) (by decide +kernel), List.mem_of_getElem? (i := 359) (by decide +kernel), List.mem_of_getElem? (i := 360) (by decide +kernel)⟩
theorem lw_p18 : lw_okq (⟨"JealousByCalendar$Affair", "isGood", "(LJealousByCalendar$Cause;I)Z"⟩, 5) := ⟨⟨by decide +kernel, by decide +kernel⟩, List.mem_of_getElem? (i := 20) (by decide +kernel), List.mem_of_getElem? (i := 364) (by decide +kernel), List.mem_of_getElem? (i := 365) (by decide +kernel)⟩
theorem lw_p19 : lw_okq (⟨"JealousByCalendar$Cause", "isFreshOn", "(I)Z"⟩, 7) := ⟨⟨by decide +kernel, by decide +kernel⟩, List.mem_of_getElem? (i := 59) (by decide +kernel), List.mem_of_getElem? (i := 368) (by decide +kernel), List.mem_of_getElem? (i := 369) (by decide +kernel)⟩
theorem lw_p20 : lw_okq (⟨"JealousByCalendar$Affair", "spend", "(LJealousByCalendar$Cause;)I"⟩, 5) := ⟨⟨by decide +kernel, by decide +kernel⟩, List.mem_of_getElem? (i := 20) (by decide +kernel), List.mem_of_getElem? (i := 372) (by decide +kernel), List.mem_of_getElem? (i := 373) (by decide +kernel)⟩
theorem lw_p21 : lw_okq (⟨"JealousByCalendar", "tellDays", "(I)Z"⟩, 17) := ⟨⟨by decide +kernel, by decide +kernel⟩, List.mem_of_getElem? (i := 12) (by decide +kernel), List.mem_of_getElem? (i := 385) (by decide +kernel), List.mem_of_getElem? (i := 386) (by decide +kernel)⟩
theorem lw_p22 : lw_okq (⟨"JealousByCalendar$Affair", "endDay", "()V"⟩, 5) := ⟨⟨by decide +kernel, by decide +kernel⟩, List.mem_of_getElem? (i := 20) (by decide +kernel), List.mem_of_getElem? (i := 389) (by decide +kernel), List.mem_of_getElem? (i := 390) (by decide +kernel)⟩
theorem lw_p23 : lw_okq (⟨"JealousByCalendar$Person", "endDay", "(I)V"⟩, 5) := ⟨⟨by decide +kernel, by decide +kernel⟩, List.mem_of_getElem? (i := 26) (by decide +kernel), List.mem_of_getElem? (i := 393) (by decide +kernel), List.mem_of_getElem? (i := 394) (by decide +kernel)⟩
theorem lw_p24 : lw_okq (⟨"JealousByCalendar$Person", "isDueOn", "(I)Z"⟩, 5) := ⟨⟨by decide +kernel, by decide +kernel⟩, List.mem_of_getElem? (i := 26) (by decide +kernel), List.mem_of_getElem? (i := 397) (by decide +kernel), List.mem_of_getElem? (i := 398) (by decide +kernel)⟩
theorem lw_p25 : lw_okq (⟨"JealousByCalendar$Cause", "lastDay", "()I"⟩, 7) := ⟨⟨by decide +kernel, by decide +kernel⟩, List.mem_of_getElem? (i := 59) (by decide +kernel), List.mem_of_getElem? (i := 410) (by decide +kernel), List.mem_of_getElem? (i := 411) (by decide +kernel)⟩
theorem lw_p26 : lw_okq (⟨"JealousByCalendar", "remember", "()V"⟩, 17) := ⟨⟨by decide +kernel, by decide +kernel⟩, List.mem_of_getElem? (i := 12) (by decide +kernel), List.mem_of_getElem? (i := 427) (by decide +kernel), List.mem_of_getElem? (i := 428) (by decide +kernel)⟩
theorem lw_p27 : lw_okq (⟨"JealousByCalendar$Affair", "used", "()I"⟩, 5) := ⟨⟨by decide +kernel, by decide +kernel⟩, List.mem_of_getElem? (i := 20) (by decide +kernel), List.mem_of_getElem? (i := 451) (by decide +kernel), List.mem_of_getElem? (i := 452) (by decide +kernel)⟩
theorem lw_p28 : lw_okq (⟨"JealousByCalendar$Affair", "weightUnused", "()I"⟩, 5) := ⟨⟨by decide +kernel, by decide +kernel⟩, List.mem_of_getElem? (i := 20) (by decide +kernel), List.mem_of_getElem? (i := 455) (by decide +kernel), List.mem_of_getElem? (i := 456) (by decide +kernel)⟩
theorem lw_p29 : lw_okq (⟨"JealousByCalendar", "firstMistold", "(I)I"⟩, 17) := ⟨⟨by decide +kernel, by decide +kernel⟩, List.mem_of_getElem? (i := 12) (by decide +kernel), List.mem_of_getElem? (i := 471) (by decide +kernel), List.mem_of_getElem? (i := 472) (by decide +kernel)⟩
theorem lw_p30 : lw_okq (⟨"JealousByCalendar$Affair", "liveTo", "(I)V"⟩, 5) := ⟨⟨by decide +kernel, by decide +kernel⟩, List.mem_of_getElem? (i := 20) (by decide +kernel), List.mem_of_getElem? (i := 475) (by decide +kernel), List.mem_of_getElem? (i := 476) (by decide +kernel)⟩
theorem lw_p31 : lw_okq (⟨"JealousByCalendar$Affair", "liveDay", "(I)I"⟩, 5) := ⟨⟨by decide +kernel, by decide +kernel⟩, List.mem_of_getElem? (i := 20) (by decide +kernel), List.mem_of_getElem? (i := 479) (by decide +kernel), List.mem_of_getElem? (i := 480) (by decide +kernel)⟩
def lw_privs_2 : List (MethodName × Nat) := [(⟨"JealousByCalendar$Affair", "causeAt", "(I)LJealousByCalendar$Cause;"⟩, 5), (⟨"JealousByCalendar$Affair", "isUsable", "(LJealousByCalendar$Cause;)Z"⟩, 5), (⟨"JealousByCalendar$Affair", "isGood", "(LJealousByCalendar$Cause;I)Z"⟩, 5), (⟨"JealousByCalendar$Cause", "isFreshOn", "(I)Z"⟩, 7), (⟨"JealousByCalendar$Affair", "spend", "(LJealousByCalendar$Cause;)I"⟩, 5), (⟨"JealousByCalendar", "tellDays", "(I)Z"⟩, 17), (⟨"JealousByCalendar$Affair", "endDay", "()V"⟩, 5), (⟨"JealousByCalendar$Person", "endDay", "(I)V"⟩, 5), (⟨"JealousByCalendar$Person", "isDueOn", "(I)Z"⟩, 5), (⟨"JealousByCalendar$Cause", "lastDay", "()I"⟩, 7), (⟨"JealousByCalendar", "remember", "()V"⟩, 17), (⟨"JealousByCalendar$Affair", "used", "()I"⟩, 5), (⟨"JealousByCalendar$Affair", "weightUnused", "()I"⟩, 5), (⟨"JealousByCalendar", "firstMistold", "(I)I"⟩, 17), (⟨"JealousByCalendar$Affair", "liveTo", "(I)V"⟩, 5), (⟨"JealousByCalendar$Affair", "liveDay", "(I)I"⟩, 5)]
theorem lw_r2 : ∀ q ∈ lw_privs_2, lw_okq q := List.forall_mem_cons.mpr ⟨lw_p16, List.forall_mem_cons.mpr ⟨lw_p17, List.forall_mem_cons.mpr ⟨lw_p18, List.forall_mem_cons.mpr ⟨lw_p19, List.forall_mem_cons.mpr ⟨lw_p20, List.forall_mem_cons.mpr ⟨lw_p21, List.forall_mem_cons.mpr ⟨lw_p22, List.forall_mem_cons.mpr ⟨lw_p23, List.forall_mem_cons.mpr ⟨lw_p24, List.forall_mem_cons.mpr ⟨lw_p25, List.forall_mem_cons.mpr ⟨lw_p26, List.forall_mem_cons.mpr ⟨lw_p27, List.forall_mem_cons.mpr ⟨lw_p28, List.forall_mem_cons.mpr ⟨lw_p29, List.forall_mem_cons.mpr ⟨lw_p30, List.forall_mem_cons.mpr ⟨lw_p31, fun _ h => absurd h List.not_mem_nil⟩⟩⟩⟩⟩⟩⟩⟩⟩⟩⟩⟩⟩⟩⟩⟩
theorem lw_p32 : lw_okq (⟨"JealousByCalendar$Affair", "atHand", "(I)I"⟩, 5) := ⟨⟨by decide +kernel, by decide +kernel⟩, List.mem_of_getElem? (i := 20) (by decide +kernel), List.mem_of_getElem? (i := 483) (by decide +kernel), List.mem_of_getElem? (i := 484) (by decide +kernel)⟩
theorem lw_p33 : lw_okq (⟨"JealousByCalendar", "numberAt", "(I)I"⟩, 17) := ⟨⟨by decide +kernel, by decide +kernel⟩, List.mem_of_getElem? (i := 12) (by decide +kernel), List.mem_of_getElem? (i := 492) (by decide +kernel), List.mem_of_getElem? (i := 493) (by decide +kernel)⟩
theorem lw_p34 : lw_okq (⟨"JealousByCalendar", "refuseLong", "(I)J"⟩, 17) := ⟨⟨by decide +kernel, by decide +kernel⟩, List.mem_of_getElem? (i := 12) (by decide +kernel), List.mem_of_getElem? (i := 500) (by decide +kernel), List.mem_of_getElem? (i := 501) (by decide +kernel)⟩
theorem lw_p35 : lw_okq (⟨"JealousByCalendar", "isRowOfDays", "(I)Z"⟩, 17) := ⟨⟨by decide +kernel, by decide +kernel⟩, List.mem_of_getElem? (i := 12) (by decide +kernel), List.mem_of_getElem? (i := 505) (by decide +kernel), List.mem_of_getElem? (i := 506) (by decide +kernel)⟩
theorem lw_p36 : lw_okq (⟨"JealousByCalendar", "planOf", "(I)LJealousByCalendar$Plan;"⟩, 17) := ⟨⟨by decide +kernel, by decide +kernel⟩, List.mem_of_getElem? (i := 12) (by decide +kernel), List.mem_of_getElem? (i := 509) (by decide +kernel), List.mem_of_getElem? (i := 510) (by decide +kernel)⟩
theorem lw_p37 : lw_okq (⟨"JealousByCalendar$Plan", "takeDays", "([II)V"⟩, 11) := ⟨⟨by decide +kernel, by decide +kernel⟩, List.mem_of_getElem? (i := 124) (by decide +kernel), List.mem_of_getElem? (i := 513) (by decide +kernel), List.mem_of_getElem? (i := 514) (by decide +kernel)⟩
theorem lw_p38 : lw_okq (⟨"JealousByCalendar$Plan", "takeDay", "(I)V"⟩, 11) := ⟨⟨by decide +kernel, by decide +kernel⟩, List.mem_of_getElem? (i := 124) (by decide +kernel), List.mem_of_getElem? (i := 517) (by decide +kernel), List.mem_of_getElem? (i := 518) (by decide +kernel)⟩
theorem lw_p39 : lw_okq (⟨"JealousByCalendar$Affair", "unusedFor", "(I)I"⟩, 5) := ⟨⟨by decide +kernel, by decide +kernel⟩, List.mem_of_getElem? (i := 20) (by decide +kernel), List.mem_of_getElem? (i := 521) (by decide +kernel), List.mem_of_getElem? (i := 522) (by decide +kernel)⟩
theorem lw_p40 : lw_okq (⟨"JealousByCalendar$Plan", "takeCauses", "(LJealousByCalendar$Affair;I)V"⟩, 11) := ⟨⟨by decide +kernel, by decide +kernel⟩, List.mem_of_getElem? (i := 124) (by decide +kernel), List.mem_of_getElem? (i := 525) (by decide +kernel), List.mem_of_getElem? (i := 526) (by decide +kernel)⟩
theorem lw_p41 : lw_okq (⟨"JealousByCalendar$Plan", "freshDaysOf", "(LJealousByCalendar$Cause;)I"⟩, 11) := ⟨⟨by decide +kernel, by decide +kernel⟩, List.mem_of_getElem? (i := 124) (by decide +kernel), List.mem_of_getElem? (i := 531) (by decide +kernel), List.mem_of_getElem? (i := 532) (by decide +kernel)⟩
theorem lw_p42 : lw_okq (⟨"JealousByCalendar$Plan", "sortIn", "(LJealousByCalendar$Choice;)V"⟩, 11) := ⟨⟨by decide +kernel, by decide +kernel⟩, List.mem_of_getElem? (i := 124) (by decide +kernel), List.mem_of_getElem? (i := 536) (by decide +kernel), List.mem_of_getElem? (i := 537) (by decide +kernel)⟩
theorem lw_p43 : lw_okq (⟨"JealousByCalendar$Plan", "waysOf", "(I[J)J"⟩, 11) := ⟨⟨by decide +kernel, by decide +kernel⟩, List.mem_of_getElem? (i := 124) (by decide +kernel), List.mem_of_getElem? (i := 540) (by decide +kernel), List.mem_of_getElem? (i := 541) (by decide +kernel)⟩
theorem lw_p44 : lw_okq (⟨"JealousByCalendar$Plan", "allDays", "()I"⟩, 11) := ⟨⟨by decide +kernel, by decide +kernel⟩, List.mem_of_getElem? (i := 124) (by decide +kernel), List.mem_of_getElem? (i := 544) (by decide +kernel), List.mem_of_getElem? (i := 545) (by decide +kernel)⟩
theorem lw_p45 : lw_okq (⟨"JealousByCalendar", "meantCauses", "(LJealousByCalendar$Plan;JZ)J"⟩, 17) := ⟨⟨by decide +kernel, by decide +kernel⟩, List.mem_of_getElem? (i := 12) (by decide +kernel), List.mem_of_getElem? (i := 552) (by decide +kernel), List.mem_of_getElem? (i := 553) (by decide +kernel)⟩
theorem lw_p46 : lw_okq (⟨"JealousByCalendar", "mostInRow", "()I"⟩, 17) := ⟨⟨by decide +kernel, by decide +kernel⟩, List.mem_of_getElem? (i := 12) (by decide +kernel), List.mem_of_getElem? (i := 560) (by decide +kernel), List.mem_of_getElem? (i := 561) (by decide +kernel)⟩
theorem lw_p47 : lw_okq (⟨"JealousByCalendar", "isRowByLaw", "(II)Z"⟩, 17) := ⟨⟨by decide +kernel, by decide +kernel⟩, List.mem_of_getElem? (i := 12) (by decide +kernel), List.mem_of_getElem? (i := 567) (by decide +kernel), List.mem_of_getElem? (i := 568) (by decide +kernel)⟩
def lw_privs_3 : List (MethodName × Nat) := [(⟨"JealousByCalendar$Affair", "atHand", "(I)I"⟩, 5), (⟨"JealousByCalendar", "numberAt", "(I)I"⟩, 17), (⟨"JealousByCalendar", "refuseLong", "(I)J"⟩, 17), (⟨"JealousByCalendar", "isRowOfDays", "(I)Z"⟩, 17), (⟨"JealousByCalendar", "planOf", "(I)LJealousByCalendar$Plan;"⟩, 17), (⟨"JealousByCalendar$Plan", "takeDays", "([II)V"⟩, 11), (⟨"JealousByCalendar$Plan", "takeDay", "(I)V"⟩, 11), (⟨"JealousByCalendar$Affair", "unusedFor", "(I)I"⟩, 5), (⟨"JealousByCalendar$Plan", "takeCauses", "(LJealousByCalendar$Affair;I)V"⟩, 11), (⟨"JealousByCalendar$Plan", "freshDaysOf", "(LJealousByCalendar$Cause;)I"⟩, 11), (⟨"JealousByCalendar$Plan", "sortIn", "(LJealousByCalendar$Choice;)V"⟩, 11), (⟨"JealousByCalendar$Plan", "waysOf", "(I[J)J"⟩, 11), (⟨"JealousByCalendar$Plan", "allDays", "()I"⟩, 11), (⟨"JealousByCalendar", "meantCauses", "(LJealousByCalendar$Plan;JZ)J"⟩, 17), (⟨"JealousByCalendar", "mostInRow", "()I"⟩, 17), (⟨"JealousByCalendar", "isRowByLaw", "(II)Z"⟩, 17)]
theorem lw_r3 : ∀ q ∈ lw_privs_3, lw_okq q := List.forall_mem_cons.mpr ⟨lw_p32, List.forall_mem_cons.mpr ⟨lw_p33, List.forall_mem_cons.mpr ⟨lw_p34, List.forall_mem_cons.mpr ⟨lw_p35, List.forall_mem_cons.mpr ⟨lw_p36, List.forall_mem_cons.mpr ⟨lw_p37, List.forall_mem_cons.mpr ⟨lw_p38, List.forall_mem_cons.mpr ⟨lw_p39, List.forall_mem_cons.mpr ⟨lw_p40, List.forall_mem_cons.mpr ⟨lw_p41, List.forall_mem_cons.mpr ⟨lw_p42, List.forall_mem_cons.mpr ⟨lw_p43, List.forall_mem_cons.mpr ⟨lw_p44, List.forall_mem_cons.mpr ⟨lw_p45, List.forall_mem_cons.mpr ⟨lw_p46, List.forall_mem_cons.mpr ⟨lw_p47, fun _ h => absurd h List.not_mem_nil⟩⟩⟩⟩⟩⟩⟩⟩⟩⟩⟩⟩⟩⟩⟩⟩
theorem lw_p48 : lw_okq (⟨"JealousByCalendar", "fewestFriends", "()I"⟩, 17) := ⟨⟨by decide +kernel, by decide +kernel⟩, List.mem_of_getElem? (i := 12) (by decide +kernel), List.mem_of_getElem? (i := 575) (by decide +kernel), List.mem_of_getElem? (i := 576) (by decide +kernel)⟩
theorem lw_p49 : lw_okq (⟨"JealousByCalendar", "couplesOn", "(I)I"⟩, 17) := ⟨⟨by decide +kernel, by decide +kernel⟩, List.mem_of_getElem? (i := 12) (by decide +kernel), List.mem_of_getElem? (i := 579) (by decide +kernel), List.mem_of_getElem? (i := 580) (by decide +kernel)⟩
theorem lw_p50 : lw_okq (⟨"JealousByCalendar", "busiestWeekday", "()I"⟩, 17) := ⟨⟨by decide +kernel, by decide +kernel⟩, List.mem_of_getElem? (i := 12) (by decide +kernel), List.mem_of_getElem? (i := 583) (by decide +kernel), List.mem_of_getElem? (i := 584) (by decide +kernel)⟩
theorem lw_p51 : lw_okq (⟨"JealousByCalendar", "faultOfOneAndDay", "(II)I"⟩, 17) := ⟨⟨by decide +kernel, by decide +kernel⟩, List.mem_of_getElem? (i := 12) (by decide +kernel), List.mem_of_getElem? (i := 591) (by decide +kernel), List.mem_of_getElem? (i := 592) (by decide +kernel)⟩
theorem lw_p52 : lw_okq (⟨"JealousByCalendar", "faultOfDay", "(I)I"⟩, 17) := ⟨⟨by decide +kernel, by decide +kernel⟩, List.mem_of_getElem? (i := 12) (by decide +kernel), List.mem_of_getElem? (i := 595) (by decide +kernel), List.mem_of_getElem? (i := 596) (by decide +kernel)⟩
theorem lw_p53 : lw_okq (⟨"JealousByCalendar", "prepared", "(LJealousByCalendar$Affair;II)LJealousByCalendar$Plan;"⟩, 17) := ⟨⟨by decide +kernel, by decide +kernel⟩, List.mem_of_getElem? (i := 12) (by decide +kernel), List.mem_of_getElem? (i := 599) (by decide +kernel), List.mem_of_getElem? (i := 600) (by decide +kernel)⟩
theorem lw_p54 : lw_okq (⟨"JealousByCalendar", "preparedOn", "(LJealousByCalendar$Affair;III)LJealousByCalendar$Plan;"⟩, 17) := ⟨⟨by decide +kernel, by decide +kernel⟩, List.mem_of_getElem? (i := 12) (by decide +kernel), List.mem_of_getElem? (i := 603) (by decide +kernel), List.mem_of_getElem? (i := 604) (by decide +kernel)⟩
theorem lw_p55 : lw_okq (⟨"JealousByCalendar$Plan", "takeNeeded", "(LJealousByCalendar$Affair;III)V"⟩, 11) := ⟨⟨by decide +kernel, by decide +kernel⟩, List.mem_of_getElem? (i := 124) (by decide +kernel), List.mem_of_getElem? (i := 607) (by decide +kernel), List.mem_of_getElem? (i := 608) (by decide +kernel)⟩
theorem lw_p56 : lw_okq (⟨"JealousByCalendar", "faultOfOneDayWhat", "(IIII)I"⟩, 17) := ⟨⟨by decide +kernel, by decide +kernel⟩, List.mem_of_getElem? (i := 12) (by decide +kernel), List.mem_of_getElem? (i := 616) (by decide +kernel), List.mem_of_getElem? (i := 617) (by decide +kernel)⟩
theorem lw_p57 : lw_okq (⟨"JealousByCalendar$Plan", "layByHand", "()V"⟩, 11) := ⟨⟨by decide +kernel, by decide +kernel⟩, List.mem_of_getElem? (i := 124) (by decide +kernel), List.mem_of_getElem? (i := 620) (by decide +kernel), List.mem_of_getElem? (i := 621) (by decide +kernel)⟩
theorem lw_p58 : lw_okq (⟨"JealousByCalendar$Plan", "soonestOn", "(II)I"⟩, 11) := ⟨⟨by decide +kernel, by decide +kernel⟩, List.mem_of_getElem? (i := 124) (by decide +kernel), List.mem_of_getElem? (i := 624) (by decide +kernel), List.mem_of_getElem? (i := 625) (by decide +kernel)⟩
theorem lw_p59 : lw_okq (⟨"JealousByCalendar$Plan", "withoutByHand", "()I"⟩, 11) := ⟨⟨by decide +kernel, by decide +kernel⟩, List.mem_of_getElem? (i := 124) (by decide +kernel), List.mem_of_getElem? (i := 628) (by decide +kernel), List.mem_of_getElem? (i := 629) (by decide +kernel)⟩
theorem lw_p60 : lw_okq (⟨"JealousByCalendar$Plan", "firstWithoutByHand", "()I"⟩, 11) := ⟨⟨by decide +kernel, by decide +kernel⟩, List.mem_of_getElem? (i := 124) (by decide +kernel), List.mem_of_getElem? (i := 632) (by decide +kernel), List.mem_of_getElem? (i := 633) (by decide +kernel)⟩
theorem lw_p61 : lw_okq (⟨"JealousByCalendar$Plan", "value", "()I"⟩, 11) := ⟨⟨by decide +kernel, by decide +kernel⟩, List.mem_of_getElem? (i := 124) (by decide +kernel), List.mem_of_getElem? (i := 640) (by decide +kernel), List.mem_of_getElem? (i := 641) (by decide +kernel)⟩
theorem lw_p62 : lw_okq (⟨"JealousByCalendar$Plan", "bestOf", "(II)I"⟩, 11) := ⟨⟨by decide +kernel, by decide +kernel⟩, List.mem_of_getElem? (i := 124) (by decide +kernel), List.mem_of_getElem? (i := 644) (by decide +kernel), List.mem_of_getElem? (i := 645) (by decide +kernel)⟩
theorem lw_p63 : lw_okq (⟨"JealousByCalendar$Plan", "firstWay", "(I)I"⟩, 11) := ⟨⟨by decide +kernel, by decide +kernel⟩, List.mem_of_getElem? (i := 124) (by decide +kernel), List.mem_of_getElem? (i := 651) (by decide +kernel), List.mem_of_getElem? (i := 652) (by decide +kernel)⟩
def lw_privs_4 : List (MethodName × Nat) := [(⟨"JealousByCalendar", "fewestFriends", "()I"⟩, 17), (⟨"JealousByCalendar", "couplesOn", "(I)I"⟩, 17), (⟨"JealousByCalendar", "busiestWeekday", "()I"⟩, 17), (⟨"JealousByCalendar", "faultOfOneAndDay", "(II)I"⟩, 17), (⟨"JealousByCalendar", "faultOfDay", "(I)I"⟩, 17), (⟨"JealousByCalendar", "prepared", "(LJealousByCalendar$Affair;II)LJealousByCalendar$Plan;"⟩, 17), (⟨"JealousByCalendar", "preparedOn", "(LJealousByCalendar$Affair;III)LJealousByCalendar$Plan;"⟩, 17), (⟨"JealousByCalendar$Plan", "takeNeeded", "(LJealousByCalendar$Affair;III)V"⟩, 11), (⟨"JealousByCalendar", "faultOfOneDayWhat", "(IIII)I"⟩, 17), (⟨"JealousByCalendar$Plan", "layByHand", "()V"⟩, 11), (⟨"JealousByCalendar$Plan", "soonestOn", "(II)I"⟩, 11), (⟨"JealousByCalendar$Plan", "withoutByHand", "()I"⟩, 11), (⟨"JealousByCalendar$Plan", "firstWithoutByHand", "()I"⟩, 11), (⟨"JealousByCalendar$Plan", "value", "()I"⟩, 11), (⟨"JealousByCalendar$Plan", "bestOf", "(II)I"⟩, 11), (⟨"JealousByCalendar$Plan", "firstWay", "(I)I"⟩, 11)]
theorem lw_r4 : ∀ q ∈ lw_privs_4, lw_okq q := List.forall_mem_cons.mpr ⟨lw_p48, List.forall_mem_cons.mpr ⟨lw_p49, List.forall_mem_cons.mpr ⟨lw_p50, List.forall_mem_cons.mpr ⟨lw_p51, List.forall_mem_cons.mpr ⟨lw_p52, List.forall_mem_cons.mpr ⟨lw_p53, List.forall_mem_cons.mpr ⟨lw_p54, List.forall_mem_cons.mpr ⟨lw_p55, List.forall_mem_cons.mpr ⟨lw_p56, List.forall_mem_cons.mpr ⟨lw_p57, List.forall_mem_cons.mpr ⟨lw_p58, List.forall_mem_cons.mpr ⟨lw_p59, List.forall_mem_cons.mpr ⟨lw_p60, List.forall_mem_cons.mpr ⟨lw_p61, List.forall_mem_cons.mpr ⟨lw_p62, List.forall_mem_cons.mpr ⟨lw_p63, fun _ h => absurd h List.not_mem_nil⟩⟩⟩⟩⟩⟩⟩⟩⟩⟩⟩⟩⟩⟩⟩⟩
theorem lw_p64 : lw_okq (⟨"JealousByCalendar$Plan", "firstOn", "(III)LJealousByCalendar$Choice;"⟩, 11) := ⟨⟨by decide +kernel, by decide +kernel⟩, List.mem_of_getElem? (i := 124) (by decide +kernel), List.mem_of_getElem? (i := 656) (by decide +kernel), List.mem_of_getElem? (i := 657) (by decide +kernel)⟩
theorem lw_p65 : lw_okq (⟨"JealousByCalendar$Plan", "valueWithout", "(I)I"⟩, 11) := ⟨⟨by decide +kernel, by decide +kernel⟩, List.mem_of_getElem? (i := 124) (by decide +kernel), List.mem_of_getElem? (i := 664) (by decide +kernel), List.mem_of_getElem? (i := 665) (by decide +kernel)⟩
theorem lw_p66 : lw_okq (⟨"JealousByCalendar$Plan", "shortDays", "()I"⟩, 11) := ⟨⟨by decide +kernel, by decide +kernel⟩, List.mem_of_getElem? (i := 124) (by decide +kernel), List.mem_of_getElem? (i := 676) (by decide +kernel), List.mem_of_getElem? (i := 677) (by decide +kernel)⟩
theorem lw_p67 : lw_okq (⟨"JealousByCalendar$Plan", "causesGoodOn", "(I)I"⟩, 11) := ⟨⟨by decide +kernel, by decide +kernel⟩, List.mem_of_getElem? (i := 124) (by decide +kernel), List.mem_of_getElem? (i := 680) (by decide +kernel), List.mem_of_getElem? (i := 681) (by decide +kernel)⟩
theorem lw_p68 : lw_okq (⟨"JealousByCalendar$Plan", "causesOfDays", "(II)I"⟩, 11) := ⟨⟨by decide +kernel, by decide +kernel⟩, List.mem_of_getElem? (i := 124) (by decide +kernel), List.mem_of_getElem? (i := 690) (by decide +kernel), List.mem_of_getElem? (i := 691) (by decide +kernel)⟩
theorem lw_p69 : lw_okq (⟨"JealousByCalendar", "refuseFar", "(I)I"⟩, 17) := ⟨⟨by decide +kernel, by decide +kernel⟩, List.mem_of_getElem? (i := 12) (by decide +kernel), List.mem_of_getElem? (i := 698) (by decide +kernel), List.mem_of_getElem? (i := 699) (by decide +kernel)⟩
theorem lw_p70 : lw_okq (⟨"JealousByCalendar", "settledOn", "(III)I"⟩, 17) := ⟨⟨by decide +kernel, by decide +kernel⟩, List.mem_of_getElem? (i := 12) (by decide +kernel), List.mem_of_getElem? (i := 703) (by decide +kernel), List.mem_of_getElem? (i := 704) (by decide +kernel)⟩
theorem lw_p71 : lw_okq (⟨"JealousByCalendar$Affair", "unused", "()I"⟩, 5) := ⟨⟨by decide +kernel, by decide +kernel⟩, List.mem_of_getElem? (i := 20) (by decide +kernel), List.mem_of_getElem? (i := 725) (by decide +kernel), List.mem_of_getElem? (i := 726) (by decide +kernel)⟩
theorem lw_p72 : lw_okq (⟨"JealousByCalendar$Plan", "leadByTaking", "(LJealousByCalendar$Choice;)I"⟩, 11) := ⟨⟨by decide +kernel, by decide +kernel⟩, List.mem_of_getElem? (i := 124) (by decide +kernel), List.mem_of_getElem? (i := 730) (by decide +kernel), List.mem_of_getElem? (i := 731) (by decide +kernel)⟩
theorem lw_p73 : lw_okq (⟨"JealousByCalendar", "valueWithOneMore", "(IIIII)I"⟩, 17) := ⟨⟨by decide +kernel, by decide +kernel⟩, List.mem_of_getElem? (i := 12) (by decide +kernel), List.mem_of_getElem? (i := 767) (by decide +kernel), List.mem_of_getElem? (i := 768) (by decide +kernel)⟩
theorem lw_p74 : lw_okq (⟨"JealousByCalendar", "valueOfBoth", "(LJealousByCalendar$Affair;I)I"⟩, 17) := ⟨⟨by decide +kernel, by decide +kernel⟩, List.mem_of_getElem? (i := 12) (by decide +kernel), List.mem_of_getElem? (i := 779) (by decide +kernel), List.mem_of_getElem? (i := 780) (by decide +kernel)⟩
theorem lw_p75 : lw_okq (⟨"JealousByCalendar$Plan", "weightOf", "(I)I"⟩, 11) := ⟨⟨by decide +kernel, by decide +kernel⟩, List.mem_of_getElem? (i := 124) (by decide +kernel), List.mem_of_getElem? (i := 788) (by decide +kernel), List.mem_of_getElem? (i := 789) (by decide +kernel)⟩
theorem lw_p76 : lw_okq (⟨"JealousByCalendar", "evenHeap", "(I)I"⟩, 17) := ⟨⟨by decide +kernel, by decide +kernel⟩, List.mem_of_getElem? (i := 12) (by decide +kernel), List.mem_of_getElem? (i := 792) (by decide +kernel), List.mem_of_getElem? (i := 793) (by decide +kernel)⟩
theorem lw_p77 : lw_okq (⟨"JealousByCalendar", "faultOfDayWhat", "(II)I"⟩, 17) := ⟨⟨by decide +kernel, by decide +kernel⟩, List.mem_of_getElem? (i := 12) (by decide +kernel), List.mem_of_getElem? (i := 803) (by decide +kernel), List.mem_of_getElem? (i := 804) (by decide +kernel)⟩
theorem lw_p78 : lw_okq (⟨"JealousByCalendar$Affair", "hasGoodOn", "(I)Z"⟩, 5) := ⟨⟨by decide +kernel, by decide +kernel⟩, List.mem_of_getElem? (i := 20) (by decide +kernel), List.mem_of_getElem? (i := 812) (by decide +kernel), List.mem_of_getElem? (i := 813) (by decide +kernel)⟩
theorem lw_p79 : lw_okq (⟨"JealousByCalendar$Plan", "longestByHand", "(Z)I"⟩, 11) := ⟨⟨by decide +kernel, by decide +kernel⟩, List.mem_of_getElem? (i := 124) (by decide +kernel), List.mem_of_getElem? (i := 820) (by decide +kernel), List.mem_of_getElem? (i := 821) (by decide +kernel)⟩
def lw_privs_5 : List (MethodName × Nat) := [(⟨"JealousByCalendar$Plan", "firstOn", "(III)LJealousByCalendar$Choice;"⟩, 11), (⟨"JealousByCalendar$Plan", "valueWithout", "(I)I"⟩, 11), (⟨"JealousByCalendar$Plan", "shortDays", "()I"⟩, 11), (⟨"JealousByCalendar$Plan", "causesGoodOn", "(I)I"⟩, 11), (⟨"JealousByCalendar$Plan", "causesOfDays", "(II)I"⟩, 11), (⟨"JealousByCalendar", "refuseFar", "(I)I"⟩, 17), (⟨"JealousByCalendar", "settledOn", "(III)I"⟩, 17), (⟨"JealousByCalendar$Affair", "unused", "()I"⟩, 5), (⟨"JealousByCalendar$Plan", "leadByTaking", "(LJealousByCalendar$Choice;)I"⟩, 11), (⟨"JealousByCalendar", "valueWithOneMore", "(IIIII)I"⟩, 17), (⟨"JealousByCalendar", "valueOfBoth", "(LJealousByCalendar$Affair;I)I"⟩, 17), (⟨"JealousByCalendar$Plan", "weightOf", "(I)I"⟩, 11), (⟨"JealousByCalendar", "evenHeap", "(I)I"⟩, 17), (⟨"JealousByCalendar", "faultOfDayWhat", "(II)I"⟩, 17), (⟨"JealousByCalendar$Affair", "hasGoodOn", "(I)Z"⟩, 5), (⟨"JealousByCalendar$Plan", "longestByHand", "(Z)I"⟩, 11)]
theorem lw_r5 : ∀ q ∈ lw_privs_5, lw_okq q := List.forall_mem_cons.mpr ⟨lw_p64, List.forall_mem_cons.mpr ⟨lw_p65, List.forall_mem_cons.mpr ⟨lw_p66, List.forall_mem_cons.mpr ⟨lw_p67, List.forall_mem_cons.mpr ⟨lw_p68, List.forall_mem_cons.mpr ⟨lw_p69, List.forall_mem_cons.mpr ⟨lw_p70, List.forall_mem_cons.mpr ⟨lw_p71, List.forall_mem_cons.mpr ⟨lw_p72, List.forall_mem_cons.mpr ⟨lw_p73, List.forall_mem_cons.mpr ⟨lw_p74, List.forall_mem_cons.mpr ⟨lw_p75, List.forall_mem_cons.mpr ⟨lw_p76, List.forall_mem_cons.mpr ⟨lw_p77, List.forall_mem_cons.mpr ⟨lw_p78, List.forall_mem_cons.mpr ⟨lw_p79, fun _ h => absurd h List.not_mem_nil⟩⟩⟩⟩⟩⟩⟩⟩⟩⟩⟩⟩⟩⟩⟩⟩
theorem lw_p80 : lw_okq (⟨"JealousByCalendar$Plan", "hasByHandOn", "(I)Z"⟩, 11) := ⟨⟨by decide +kernel, by decide +kernel⟩, List.mem_of_getElem? (i := 124) (by decide +kernel), List.mem_of_getElem? (i := 829) (by decide +kernel), List.mem_of_getElem? (i := 830) (by decide +kernel)⟩
theorem lw_p81 : lw_okq (⟨"JealousByCalendar$Affair", "findLater", "(II)V"⟩, 5) := ⟨⟨by decide +kernel, by decide +kernel⟩, List.mem_of_getElem? (i := 20) (by decide +kernel), List.mem_of_getElem? (i := 846) (by decide +kernel), List.mem_of_getElem? (i := 847) (by decide +kernel)⟩
theorem lw_p82 : lw_okq (⟨"JealousByCalendar$Course", "follow", "(LJealousByCalendar$Affair;I)V"⟩, 4) := ⟨⟨by decide +kernel, by decide +kernel⟩, List.mem_of_getElem? (i := 189) (by decide +kernel), List.mem_of_getElem? (i := 855) (by decide +kernel), List.mem_of_getElem? (i := 856) (by decide +kernel)⟩
theorem lw_p83 : lw_okq (⟨"JealousByCalendar$Course", "followUse", "(LJealousByCalendar$Affair;I)V"⟩, 4) := ⟨⟨by decide +kernel, by decide +kernel⟩, List.mem_of_getElem? (i := 189) (by decide +kernel), List.mem_of_getElem? (i := 859) (by decide +kernel), List.mem_of_getElem? (i := 860) (by decide +kernel)⟩
theorem lw_p84 : lw_okq (⟨"JealousByCalendar$Course", "note", "(IIZ)V"⟩, 4) := ⟨⟨by decide +kernel, by decide +kernel⟩, List.mem_of_getElem? (i := 189) (by decide +kernel), List.mem_of_getElem? (i := 866) (by decide +kernel), List.mem_of_getElem? (i := 867) (by decide +kernel)⟩
theorem lw_p85 : lw_okq (⟨"JealousByCalendar$Course", "followEnd", "(LJealousByCalendar$Affair;I)V"⟩, 4) := ⟨⟨by decide +kernel, by decide +kernel⟩, List.mem_of_getElem? (i := 189) (by decide +kernel), List.mem_of_getElem? (i := 871) (by decide +kernel), List.mem_of_getElem? (i := 872) (by decide +kernel)⟩
theorem lw_p86 : lw_okq (⟨"JealousByCalendar$Course", "isCoveredBy", "(III)Z"⟩, 4) := ⟨⟨by decide +kernel, by decide +kernel⟩, List.mem_of_getElem? (i := 189) (by decide +kernel), List.mem_of_getElem? (i := 878) (by decide +kernel), List.mem_of_getElem? (i := 879) (by decide +kernel)⟩
theorem lw_p87 : lw_okq (⟨"JealousByCalendar", "worstLoss", "()I"⟩, 17) := ⟨⟨by decide +kernel, by decide +kernel⟩, List.mem_of_getElem? (i := 12) (by decide +kernel), List.mem_of_getElem? (i := 888) (by decide +kernel), List.mem_of_getElem? (i := 889) (by decide +kernel)⟩
theorem lw_p88 : lw_okq (⟨"JealousByCalendar", "valueOfBothWithout", "(I)I"⟩, 17) := ⟨⟨by decide +kernel, by decide +kernel⟩, List.mem_of_getElem? (i := 12) (by decide +kernel), List.mem_of_getElem? (i := 892) (by decide +kernel), List.mem_of_getElem? (i := 893) (by decide +kernel)⟩
theorem lw_p89 : lw_okq (⟨"JealousByCalendar", "worstLossOfTwo", "()I"⟩, 17) := ⟨⟨by decide +kernel, by decide +kernel⟩, List.mem_of_getElem? (i := 12) (by decide +kernel), List.mem_of_getElem? (i := 896) (by decide +kernel), List.mem_of_getElem? (i := 897) (by decide +kernel)⟩
theorem lw_p90 : lw_okq (⟨"JealousByCalendarModel", "no", "(I)I"⟩, 38) := ⟨⟨by decide +kernel, by decide +kernel⟩, List.mem_of_getElem? (i := 905) (by decide +kernel), List.mem_of_getElem? (i := 1034) (by decide +kernel), List.mem_of_getElem? (i := 1035) (by decide +kernel)⟩
theorem lw_p91 : lw_okq (⟨"JealousByCalendarModel", "statement", "()Z"⟩, 38) := ⟨⟨by decide +kernel, by decide +kernel⟩, List.mem_of_getElem? (i := 905) (by decide +kernel), List.mem_of_getElem? (i := 1042) (by decide +kernel), List.mem_of_getElem? (i := 1043) (by decide +kernel)⟩
theorem lw_p92 : lw_okq (⟨"JealousByCalendarModel", "next", "()I"⟩, 38) := ⟨⟨by decide +kernel, by decide +kernel⟩, List.mem_of_getElem? (i := 905) (by decide +kernel), List.mem_of_getElem? (i := 1046) (by decide +kernel), List.mem_of_getElem? (i := 1047) (by decide +kernel)⟩
theorem lw_p93 : lw_okq (⟨"JealousByCalendarModel", "readsAll", "(II)Z"⟩, 38) := ⟨⟨by decide +kernel, by decide +kernel⟩, List.mem_of_getElem? (i := 905) (by decide +kernel), List.mem_of_getElem? (i := 1050) (by decide +kernel), List.mem_of_getElem? (i := 1051) (by decide +kernel)⟩
theorem lw_p94 : lw_okq (⟨"JealousByCalendarModel", "readsDigits", "(II)Z"⟩, 38) := ⟨⟨by decide +kernel, by decide +kernel⟩, List.mem_of_getElem? (i := 905) (by decide +kernel), List.mem_of_getElem? (i := 1054) (by decide +kernel), List.mem_of_getElem? (i := 1055) (by decide +kernel)⟩
theorem lw_p95 : lw_okq (⟨"JealousByCalendarModel", "passesAll", "(IZ)V"⟩, 38) := ⟨⟨by decide +kernel, by decide +kernel⟩, List.mem_of_getElem? (i := 905) (by decide +kernel), List.mem_of_getElem? (i := 1061) (by decide +kernel), List.mem_of_getElem? (i := 1062) (by decide +kernel)⟩
def lw_privs_6 : List (MethodName × Nat) := [(⟨"JealousByCalendar$Plan", "hasByHandOn", "(I)Z"⟩, 11), (⟨"JealousByCalendar$Affair", "findLater", "(II)V"⟩, 5), (⟨"JealousByCalendar$Course", "follow", "(LJealousByCalendar$Affair;I)V"⟩, 4), (⟨"JealousByCalendar$Course", "followUse", "(LJealousByCalendar$Affair;I)V"⟩, 4), (⟨"JealousByCalendar$Course", "note", "(IIZ)V"⟩, 4), (⟨"JealousByCalendar$Course", "followEnd", "(LJealousByCalendar$Affair;I)V"⟩, 4), (⟨"JealousByCalendar$Course", "isCoveredBy", "(III)Z"⟩, 4), (⟨"JealousByCalendar", "worstLoss", "()I"⟩, 17), (⟨"JealousByCalendar", "valueOfBothWithout", "(I)I"⟩, 17), (⟨"JealousByCalendar", "worstLossOfTwo", "()I"⟩, 17), (⟨"JealousByCalendarModel", "no", "(I)I"⟩, 38), (⟨"JealousByCalendarModel", "statement", "()Z"⟩, 38), (⟨"JealousByCalendarModel", "next", "()I"⟩, 38), (⟨"JealousByCalendarModel", "readsAll", "(II)Z"⟩, 38), (⟨"JealousByCalendarModel", "readsDigits", "(II)Z"⟩, 38), (⟨"JealousByCalendarModel", "passesAll", "(IZ)V"⟩, 38)]
theorem lw_r6 : ∀ q ∈ lw_privs_6, lw_okq q := List.forall_mem_cons.mpr ⟨lw_p80, List.forall_mem_cons.mpr ⟨lw_p81, List.forall_mem_cons.mpr ⟨lw_p82, List.forall_mem_cons.mpr ⟨lw_p83, List.forall_mem_cons.mpr ⟨lw_p84, List.forall_mem_cons.mpr ⟨lw_p85, List.forall_mem_cons.mpr ⟨lw_p86, List.forall_mem_cons.mpr ⟨lw_p87, List.forall_mem_cons.mpr ⟨lw_p88, List.forall_mem_cons.mpr ⟨lw_p89, List.forall_mem_cons.mpr ⟨lw_p90, List.forall_mem_cons.mpr ⟨lw_p91, List.forall_mem_cons.mpr ⟨lw_p92, List.forall_mem_cons.mpr ⟨lw_p93, List.forall_mem_cons.mpr ⟨lw_p94, List.forall_mem_cons.mpr ⟨lw_p95, fun _ h => absurd h List.not_mem_nil⟩⟩⟩⟩⟩⟩⟩⟩⟩⟩⟩⟩⟩⟩⟩⟩
theorem lw_p96 : lw_okq (⟨"JealousByCalendarModel", "passes", "([I)V"⟩, 38) := ⟨⟨by decide +kernel, by decide +kernel⟩, List.mem_of_getElem? (i := 905) (by decide +kernel), List.mem_of_getElem? (i := 1065) (by decide +kernel), List.mem_of_getElem? (i := 1066) (by decide +kernel)⟩
theorem lw_p97 : lw_okq (⟨"JealousByCalendarModel", "passOne", "(I)I"⟩, 38) := ⟨⟨by decide +kernel, by decide +kernel⟩, List.mem_of_getElem? (i := 905) (by decide +kernel), List.mem_of_getElem? (i := 1069) (by decide +kernel), List.mem_of_getElem? (i := 1070) (by decide +kernel)⟩
theorem lw_p98 : lw_okq (⟨"JealousByCalendarModel", "comes", "(I)Z"⟩, 38) := ⟨⟨by decide +kernel, by decide +kernel⟩, List.mem_of_getElem? (i := 905) (by decide +kernel), List.mem_of_getElem? (i := 1073) (by decide +kernel), List.mem_of_getElem? (i := 1074) (by decide +kernel)⟩
theorem lw_p99 : lw_okq (⟨"JealousByCalendarModel", "adds", "(IIII)V"⟩, 38) := ⟨⟨by decide +kernel, by decide +kernel⟩, List.mem_of_getElem? (i := 905) (by decide +kernel), List.mem_of_getElem? (i := 1080) (by decide +kernel), List.mem_of_getElem? (i := 1081) (by decide +kernel)⟩
theorem lw_p100 : lw_okq (⟨"JealousByCalendarModel", "isCause", "(I)Z"⟩, 38) := ⟨⟨by decide +kernel, by decide +kernel⟩, List.mem_of_getElem? (i := 905) (by decide +kernel), List.mem_of_getElem? (i := 1084) (by decide +kernel), List.mem_of_getElem? (i := 1085) (by decide +kernel)⟩
theorem lw_p101 : lw_okq (⟨"JealousByCalendarModel", "canUse", "(I)Z"⟩, 38) := ⟨⟨by decide +kernel, by decide +kernel⟩, List.mem_of_getElem? (i := 905) (by decide +kernel), List.mem_of_getElem? (i := 1088) (by decide +kernel), List.mem_of_getElem? (i := 1089) (by decide +kernel)⟩
theorem lw_p102 : lw_okq (⟨"JealousByCalendarModel", "isGood", "(II)Z"⟩, 38) := ⟨⟨by decide +kernel, by decide +kernel⟩, List.mem_of_getElem? (i := 905) (by decide +kernel), List.mem_of_getElem? (i := 1092) (by decide +kernel), List.mem_of_getElem? (i := 1093) (by decide +kernel)⟩
theorem lw_p103 : lw_okq (⟨"JealousByCalendarModel", "goodTill", "(I)I"⟩, 38) := ⟨⟨by decide +kernel, by decide +kernel⟩, List.mem_of_getElem? (i := 905) (by decide +kernel), List.mem_of_getElem? (i := 1096) (by decide +kernel), List.mem_of_getElem? (i := 1097) (by decide +kernel)⟩
theorem lw_p104 : lw_okq (⟨"JealousByCalendarModel", "keepsOf", "(I)I"⟩, 38) := ⟨⟨by decide +kernel, by decide +kernel⟩, List.mem_of_getElem? (i := 905) (by decide +kernel), List.mem_of_getElem? (i := 1100) (by decide +kernel), List.mem_of_getElem? (i := 1101) (by decide +kernel)⟩
theorem lw_p105 : lw_okq (⟨"JealousByCalendarModel", "uses", "(I)I"⟩, 38) := ⟨⟨by decide +kernel, by decide +kernel⟩, List.mem_of_getElem? (i := 905) (by decide +kernel), List.mem_of_getElem? (i := 1104) (by decide +kernel), List.mem_of_getElem? (i := 1105) (by decide +kernel)⟩
theorem lw_p106 : lw_okq (⟨"JealousByCalendarModel", "weightOf", "(I)I"⟩, 38) := ⟨⟨by decide +kernel, by decide +kernel⟩, List.mem_of_getElem? (i := 905) (by decide +kernel), List.mem_of_getElem? (i := 1108) (by decide +kernel), List.mem_of_getElem? (i := 1109) (by decide +kernel)⟩
theorem lw_p107 : lw_okq (⟨"JealousByCalendarModel", "ends", "()V"⟩, 38) := ⟨⟨by decide +kernel, by decide +kernel⟩, List.mem_of_getElem? (i := 905) (by decide +kernel), List.mem_of_getElem? (i := 1115) (by decide +kernel), List.mem_of_getElem? (i := 1116) (by decide +kernel)⟩
theorem lw_p108 : lw_okq (⟨"JealousByCalendarModel", "isSour", "(I)Z"⟩, 38) := ⟨⟨by decide +kernel, by decide +kernel⟩, List.mem_of_getElem? (i := 905) (by decide +kernel), List.mem_of_getElem? (i := 1139) (by decide +kernel), List.mem_of_getElem? (i := 1140) (by decide +kernel)⟩
theorem lw_p109 : lw_okq (⟨"JealousByCalendarModel", "keepsBack", "()V"⟩, 38) := ⟨⟨by decide +kernel, by decide +kernel⟩, List.mem_of_getElem? (i := 905) (by decide +kernel), List.mem_of_getElem? (i := 1155) (by decide +kernel), List.mem_of_getElem? (i := 1156) (by decide +kernel)⟩
theorem lw_p110 : lw_okq (⟨"JealousByCalendarModel", "notWho", "(II)I"⟩, 38) := ⟨⟨by decide +kernel, by decide +kernel⟩, List.mem_of_getElem? (i := 905) (by decide +kernel), List.mem_of_getElem? (i := 1167) (by decide +kernel), List.mem_of_getElem? (i := 1168) (by decide +kernel)⟩
theorem lw_p111 : lw_okq (⟨"JealousByCalendarModel", "findNeeds", "(II)V"⟩, 38) := ⟨⟨by decide +kernel, by decide +kernel⟩, List.mem_of_getElem? (i := 905) (by decide +kernel), List.mem_of_getElem? (i := 1171) (by decide +kernel), List.mem_of_getElem? (i := 1172) (by decide +kernel)⟩
def lw_privs_7 : List (MethodName × Nat) := [(⟨"JealousByCalendarModel", "passes", "([I)V"⟩, 38), (⟨"JealousByCalendarModel", "passOne", "(I)I"⟩, 38), (⟨"JealousByCalendarModel", "comes", "(I)Z"⟩, 38), (⟨"JealousByCalendarModel", "adds", "(IIII)V"⟩, 38), (⟨"JealousByCalendarModel", "isCause", "(I)Z"⟩, 38), (⟨"JealousByCalendarModel", "canUse", "(I)Z"⟩, 38), (⟨"JealousByCalendarModel", "isGood", "(II)Z"⟩, 38), (⟨"JealousByCalendarModel", "goodTill", "(I)I"⟩, 38), (⟨"JealousByCalendarModel", "keepsOf", "(I)I"⟩, 38), (⟨"JealousByCalendarModel", "uses", "(I)I"⟩, 38), (⟨"JealousByCalendarModel", "weightOf", "(I)I"⟩, 38), (⟨"JealousByCalendarModel", "ends", "()V"⟩, 38), (⟨"JealousByCalendarModel", "isSour", "(I)Z"⟩, 38), (⟨"JealousByCalendarModel", "keepsBack", "()V"⟩, 38), (⟨"JealousByCalendarModel", "notWho", "(II)I"⟩, 38), (⟨"JealousByCalendarModel", "findNeeds", "(II)V"⟩, 38)]
theorem lw_r7 : ∀ q ∈ lw_privs_7, lw_okq q := List.forall_mem_cons.mpr ⟨lw_p96, List.forall_mem_cons.mpr ⟨lw_p97, List.forall_mem_cons.mpr ⟨lw_p98, List.forall_mem_cons.mpr ⟨lw_p99, List.forall_mem_cons.mpr ⟨lw_p100, List.forall_mem_cons.mpr ⟨lw_p101, List.forall_mem_cons.mpr ⟨lw_p102, List.forall_mem_cons.mpr ⟨lw_p103, List.forall_mem_cons.mpr ⟨lw_p104, List.forall_mem_cons.mpr ⟨lw_p105, List.forall_mem_cons.mpr ⟨lw_p106, List.forall_mem_cons.mpr ⟨lw_p107, List.forall_mem_cons.mpr ⟨lw_p108, List.forall_mem_cons.mpr ⟨lw_p109, List.forall_mem_cons.mpr ⟨lw_p110, List.forall_mem_cons.mpr ⟨lw_p111, fun _ h => absurd h List.not_mem_nil⟩⟩⟩⟩⟩⟩⟩⟩⟩⟩⟩⟩⟩⟩⟩⟩
theorem lw_p112 : lw_okq (⟨"JealousByCalendarModel", "findHand", "(II)V"⟩, 38) := ⟨⟨by decide +kernel, by decide +kernel⟩, List.mem_of_getElem? (i := 905) (by decide +kernel), List.mem_of_getElem? (i := 1179) (by decide +kernel), List.mem_of_getElem? (i := 1180) (by decide +kernel)⟩
theorem lw_p113 : lw_okq (⟨"JealousByCalendarModel", "soonestSour", "(III)I"⟩, 38) := ⟨⟨by decide +kernel, by decide +kernel⟩, List.mem_of_getElem? (i := 905) (by decide +kernel), List.mem_of_getElem? (i := 1183) (by decide +kernel), List.mem_of_getElem? (i := 1184) (by decide +kernel)⟩
theorem lw_p114 : lw_okq (⟨"JealousByCalendarModel", "findLaid", "(II)V"⟩, 38) := ⟨⟨by decide +kernel, by decide +kernel⟩, List.mem_of_getElem? (i := 905) (by decide +kernel), List.mem_of_getElem? (i := 1194) (by decide +kernel), List.mem_of_getElem? (i := 1195) (by decide +kernel)⟩
theorem lw_p115 : lw_okq (⟨"JealousByCalendarModel", "findOwn", "(I)V"⟩, 38) := ⟨⟨by decide +kernel, by decide +kernel⟩, List.mem_of_getElem? (i := 905) (by decide +kernel), List.mem_of_getElem? (i := 1198) (by decide +kernel), List.mem_of_getElem? (i := 1199) (by decide +kernel)⟩
theorem lw_p116 : lw_okq (⟨"JealousByCalendarModel", "laysDay", "(I)V"⟩, 38) := ⟨⟨by decide +kernel, by decide +kernel⟩, List.mem_of_getElem? (i := 905) (by decide +kernel), List.mem_of_getElem? (i := 1202) (by decide +kernel), List.mem_of_getElem? (i := 1203) (by decide +kernel)⟩
theorem lw_p117 : lw_okq (⟨"JealousByCalendarModel", "valueWith", "(III)I"⟩, 38) := ⟨⟨by decide +kernel, by decide +kernel⟩, List.mem_of_getElem? (i := 905) (by decide +kernel), List.mem_of_getElem? (i := 1206) (by decide +kernel), List.mem_of_getElem? (i := 1207) (by decide +kernel)⟩
theorem lw_p118 : lw_okq (⟨"JealousByCalendarModel", "goodFor", "(II)I"⟩, 38) := ⟨⟨by decide +kernel, by decide +kernel⟩, List.mem_of_getElem? (i := 905) (by decide +kernel), List.mem_of_getElem? (i := 1225) (by decide +kernel), List.mem_of_getElem? (i := 1226) (by decide +kernel)⟩
theorem lw_p119 : lw_okq (⟨"JealousByCalendarModel", "lower", "(I)I"⟩, 38) := ⟨⟨by decide +kernel, by decide +kernel⟩, List.mem_of_getElem? (i := 905) (by decide +kernel), List.mem_of_getElem? (i := 1233) (by decide +kernel), List.mem_of_getElem? (i := 1234) (by decide +kernel)⟩
theorem lw_p120 : lw_okq (⟨"JealousByCalendarModel", "settledBy", "(III)I"⟩, 38) := ⟨⟨by decide +kernel, by decide +kernel⟩, List.mem_of_getElem? (i := 905) (by decide +kernel), List.mem_of_getElem? (i := 1238) (by decide +kernel), List.mem_of_getElem? (i := 1239) (by decide +kernel)⟩
theorem lw_p121 : lw_okq (⟨"JealousByCalendarModel", "laidValue", "(II)I"⟩, 38) := ⟨⟨by decide +kernel, by decide +kernel⟩, List.mem_of_getElem? (i := 905) (by decide +kernel), List.mem_of_getElem? (i := 1242) (by decide +kernel), List.mem_of_getElem? (i := 1243) (by decide +kernel)⟩
theorem lw_p122 : lw_okq (⟨"JealousByCalendarModel", "rests", "(II)Z"⟩, 38) := ⟨⟨by decide +kernel, by decide +kernel⟩, List.mem_of_getElem? (i := 905) (by decide +kernel), List.mem_of_getElem? (i := 1254) (by decide +kernel), List.mem_of_getElem? (i := 1255) (by decide +kernel)⟩
theorem lw_p123 : lw_okq (⟨"JealousByCalendarModel", "hasAt", "(III)I"⟩, 38) := ⟨⟨by decide +kernel, by decide +kernel⟩, List.mem_of_getElem? (i := 905) (by decide +kernel), List.mem_of_getElem? (i := 1258) (by decide +kernel), List.mem_of_getElem? (i := 1259) (by decide +kernel)⟩
theorem lw_p124 : lw_okq (⟨"JealousByCalendarModel", "findTurns", "()V"⟩, 38) := ⟨⟨by decide +kernel, by decide +kernel⟩, List.mem_of_getElem? (i := 905) (by decide +kernel), List.mem_of_getElem? (i := 1266) (by decide +kernel), List.mem_of_getElem? (i := 1267) (by decide +kernel)⟩
theorem lw_p125 : lw_okq (⟨"JealousByCalendarModel", "unused", "()I"⟩, 38) := ⟨⟨by decide +kernel, by decide +kernel⟩, List.mem_of_getElem? (i := 905) (by decide +kernel), List.mem_of_getElem? (i := 1271) (by decide +kernel), List.mem_of_getElem? (i := 1272) (by decide +kernel)⟩
theorem lw_p126 : lw_okq (⟨"JealousByCalendarModel", "areDaysOf", "(I)Z"⟩, 38) := ⟨⟨by decide +kernel, by decide +kernel⟩, List.mem_of_getElem? (i := 905) (by decide +kernel), List.mem_of_getElem? (i := 1286) (by decide +kernel), List.mem_of_getElem? (i := 1287) (by decide +kernel)⟩
theorem lw_p127 : lw_okq (⟨"JealousByCalendarModel", "lowest", "(I)J"⟩, 38) := ⟨⟨by decide +kernel, by decide +kernel⟩, List.mem_of_getElem? (i := 905) (by decide +kernel), List.mem_of_getElem? (i := 1290) (by decide +kernel), List.mem_of_getElem? (i := 1291) (by decide +kernel)⟩
def lw_privs_8 : List (MethodName × Nat) := [(⟨"JealousByCalendarModel", "findHand", "(II)V"⟩, 38), (⟨"JealousByCalendarModel", "soonestSour", "(III)I"⟩, 38), (⟨"JealousByCalendarModel", "findLaid", "(II)V"⟩, 38), (⟨"JealousByCalendarModel", "findOwn", "(I)V"⟩, 38), (⟨"JealousByCalendarModel", "laysDay", "(I)V"⟩, 38), (⟨"JealousByCalendarModel", "valueWith", "(III)I"⟩, 38), (⟨"JealousByCalendarModel", "goodFor", "(II)I"⟩, 38), (⟨"JealousByCalendarModel", "lower", "(I)I"⟩, 38), (⟨"JealousByCalendarModel", "settledBy", "(III)I"⟩, 38), (⟨"JealousByCalendarModel", "laidValue", "(II)I"⟩, 38), (⟨"JealousByCalendarModel", "rests", "(II)Z"⟩, 38), (⟨"JealousByCalendarModel", "hasAt", "(III)I"⟩, 38), (⟨"JealousByCalendarModel", "findTurns", "()V"⟩, 38), (⟨"JealousByCalendarModel", "unused", "()I"⟩, 38), (⟨"JealousByCalendarModel", "areDaysOf", "(I)Z"⟩, 38), (⟨"JealousByCalendarModel", "lowest", "(I)J"⟩, 38)]
theorem lw_r8 : ∀ q ∈ lw_privs_8, lw_okq q := List.forall_mem_cons.mpr ⟨lw_p112, List.forall_mem_cons.mpr ⟨lw_p113, List.forall_mem_cons.mpr ⟨lw_p114, List.forall_mem_cons.mpr ⟨lw_p115, List.forall_mem_cons.mpr ⟨lw_p116, List.forall_mem_cons.mpr ⟨lw_p117, List.forall_mem_cons.mpr ⟨lw_p118, List.forall_mem_cons.mpr ⟨lw_p119, List.forall_mem_cons.mpr ⟨lw_p120, List.forall_mem_cons.mpr ⟨lw_p121, List.forall_mem_cons.mpr ⟨lw_p122, List.forall_mem_cons.mpr ⟨lw_p123, List.forall_mem_cons.mpr ⟨lw_p124, List.forall_mem_cons.mpr ⟨lw_p125, List.forall_mem_cons.mpr ⟨lw_p126, List.forall_mem_cons.mpr ⟨lw_p127, fun _ h => absurd h List.not_mem_nil⟩⟩⟩⟩⟩⟩⟩⟩⟩⟩⟩⟩⟩⟩⟩⟩
theorem lw_p128 : lw_okq (⟨"JealousByCalendarModel", "waysWithout", "(II)J"⟩, 38) := ⟨⟨by decide +kernel, by decide +kernel⟩, List.mem_of_getElem? (i := 905) (by decide +kernel), List.mem_of_getElem? (i := 1295) (by decide +kernel), List.mem_of_getElem? (i := 1296) (by decide +kernel)⟩
theorem lw_p129 : lw_okq (⟨"JealousByCalendarModel", "isMeant", "(III)Z"⟩, 38) := ⟨⟨by decide +kernel, by decide +kernel⟩, List.mem_of_getElem? (i := 905) (by decide +kernel), List.mem_of_getElem? (i := 1299) (by decide +kernel), List.mem_of_getElem? (i := 1300) (by decide +kernel)⟩
theorem lw_p130 : lw_okq (⟨"JealousByCalendarModel", "areUpTo", "(I)Z"⟩, 38) := ⟨⟨by decide +kernel, by decide +kernel⟩, List.mem_of_getElem? (i := 905) (by decide +kernel), List.mem_of_getElem? (i := 1307) (by decide +kernel), List.mem_of_getElem? (i := 1308) (by decide +kernel)⟩
theorem lw_p131 : lw_okq (⟨"JealousByCalendarModel", "isLaw", "(II)Z"⟩, 38) := ⟨⟨by decide +kernel, by decide +kernel⟩, List.mem_of_getElem? (i := 905) (by decide +kernel), List.mem_of_getElem? (i := 1311) (by decide +kernel), List.mem_of_getElem? (i := 1312) (by decide +kernel)⟩
theorem lw_p132 : lw_okq (⟨"JealousByCalendarModel", "fewestFriends", "()I"⟩, 38) := ⟨⟨by decide +kernel, by decide +kernel⟩, List.mem_of_getElem? (i := 905) (by decide +kernel), List.mem_of_getElem? (i := 1319) (by decide +kernel), List.mem_of_getElem? (i := 1320) (by decide +kernel)⟩
theorem lw_p133 : lw_okq (⟨"JealousByCalendarModel", "goesTo", "(I)V"⟩, 38) := ⟨⟨by decide +kernel, by decide +kernel⟩, List.mem_of_getElem? (i := 905) (by decide +kernel), List.mem_of_getElem? (i := 1342) (by decide +kernel), List.mem_of_getElem? (i := 1343) (by decide +kernel)⟩
theorem lw_p134 : lw_okq (⟨"JealousByCalendarModel", "goesOne", "()V"⟩, 38) := ⟨⟨by decide +kernel, by decide +kernel⟩, List.mem_of_getElem? (i := 905) (by decide +kernel), List.mem_of_getElem? (i := 1346) (by decide +kernel), List.mem_of_getElem? (i := 1347) (by decide +kernel)⟩
theorem lw_p135 : lw_okq (⟨"JealousByCalendarModel", "notGift", "(IIII)I"⟩, 38) := ⟨⟨by decide +kernel, by decide +kernel⟩, List.mem_of_getElem? (i := 905) (by decide +kernel), List.mem_of_getElem? (i := 1354) (by decide +kernel), List.mem_of_getElem? (i := 1355) (by decide +kernel)⟩
theorem lw_p136 : lw_okq (⟨"JealousByCalendarModel", "laidWith", "(IIIII)I"⟩, 38) := ⟨⟨by decide +kernel, by decide +kernel⟩, List.mem_of_getElem? (i := 905) (by decide +kernel), List.mem_of_getElem? (i := 1358) (by decide +kernel), List.mem_of_getElem? (i := 1359) (by decide +kernel)⟩
theorem lw_p137 : lw_okq (⟨"JealousByCalendarModel", "laidOfBoth", "(I)I"⟩, 38) := ⟨⟨by decide +kernel, by decide +kernel⟩, List.mem_of_getElem? (i := 905) (by decide +kernel), List.mem_of_getElem? (i := 1370) (by decide +kernel), List.mem_of_getElem? (i := 1371) (by decide +kernel)⟩
theorem lw_p138 : lw_okq (⟨"JealousByCalendarModel", "apartBy", "(II)I"⟩, 38) := ⟨⟨by decide +kernel, by decide +kernel⟩, List.mem_of_getElem? (i := 905) (by decide +kernel), List.mem_of_getElem? (i := 1378) (by decide +kernel), List.mem_of_getElem? (i := 1379) (by decide +kernel)⟩
theorem lw_p139 : lw_okq (⟨"JealousByCalendarModel", "findBoth", "(I)V"⟩, 38) := ⟨⟨by decide +kernel, by decide +kernel⟩, List.mem_of_getElem? (i := 905) (by decide +kernel), List.mem_of_getElem? (i := 1386) (by decide +kernel), List.mem_of_getElem? (i := 1387) (by decide +kernel)⟩
theorem lw_p140 : lw_okq (⟨"JealousByCalendarModel", "lastGood", "()I"⟩, 38) := ⟨⟨by decide +kernel, by decide +kernel⟩, List.mem_of_getElem? (i := 905) (by decide +kernel), List.mem_of_getElem? (i := 1394) (by decide +kernel), List.mem_of_getElem? (i := 1395) (by decide +kernel)⟩
theorem lw_p141 : lw_okq (⟨"JealousByCalendarModel", "swaps", "()V"⟩, 38) := ⟨⟨by decide +kernel, by decide +kernel⟩, List.mem_of_getElem? (i := 905) (by decide +kernel), List.mem_of_getElem? (i := 1410) (by decide +kernel), List.mem_of_getElem? (i := 1411) (by decide +kernel)⟩
theorem lw_p142 : lw_okq (⟨"JealousByCalendarModel", "usesNow", "(I)I"⟩, 38) := ⟨⟨by decide +kernel, by decide +kernel⟩, List.mem_of_getElem? (i := 905) (by decide +kernel), List.mem_of_getElem? (i := 1418) (by decide +kernel), List.mem_of_getElem? (i := 1419) (by decide +kernel)⟩
theorem lw_p143 : lw_okq (⟨"JealousByCalendarModel", "laidLater", "(III)I"⟩, 38) := ⟨⟨by decide +kernel, by decide +kernel⟩, List.mem_of_getElem? (i := 905) (by decide +kernel), List.mem_of_getElem? (i := 1426) (by decide +kernel), List.mem_of_getElem? (i := 1427) (by decide +kernel)⟩
def lw_privs_9 : List (MethodName × Nat) := [(⟨"JealousByCalendarModel", "waysWithout", "(II)J"⟩, 38), (⟨"JealousByCalendarModel", "isMeant", "(III)Z"⟩, 38), (⟨"JealousByCalendarModel", "areUpTo", "(I)Z"⟩, 38), (⟨"JealousByCalendarModel", "isLaw", "(II)Z"⟩, 38), (⟨"JealousByCalendarModel", "fewestFriends", "()I"⟩, 38), (⟨"JealousByCalendarModel", "goesTo", "(I)V"⟩, 38), (⟨"JealousByCalendarModel", "goesOne", "()V"⟩, 38), (⟨"JealousByCalendarModel", "notGift", "(IIII)I"⟩, 38), (⟨"JealousByCalendarModel", "laidWith", "(IIIII)I"⟩, 38), (⟨"JealousByCalendarModel", "laidOfBoth", "(I)I"⟩, 38), (⟨"JealousByCalendarModel", "apartBy", "(II)I"⟩, 38), (⟨"JealousByCalendarModel", "findBoth", "(I)V"⟩, 38), (⟨"JealousByCalendarModel", "lastGood", "()I"⟩, 38), (⟨"JealousByCalendarModel", "swaps", "()V"⟩, 38), (⟨"JealousByCalendarModel", "usesNow", "(I)I"⟩, 38), (⟨"JealousByCalendarModel", "laidLater", "(III)I"⟩, 38)]
theorem lw_r9 : ∀ q ∈ lw_privs_9, lw_okq q := List.forall_mem_cons.mpr ⟨lw_p128, List.forall_mem_cons.mpr ⟨lw_p129, List.forall_mem_cons.mpr ⟨lw_p130, List.forall_mem_cons.mpr ⟨lw_p131, List.forall_mem_cons.mpr ⟨lw_p132, List.forall_mem_cons.mpr ⟨lw_p133, List.forall_mem_cons.mpr ⟨lw_p134, List.forall_mem_cons.mpr ⟨lw_p135, List.forall_mem_cons.mpr ⟨lw_p136, List.forall_mem_cons.mpr ⟨lw_p137, List.forall_mem_cons.mpr ⟨lw_p138, List.forall_mem_cons.mpr ⟨lw_p139, List.forall_mem_cons.mpr ⟨lw_p140, List.forall_mem_cons.mpr ⟨lw_p141, List.forall_mem_cons.mpr ⟨lw_p142, List.forall_mem_cons.mpr ⟨lw_p143, fun _ h => absurd h List.not_mem_nil⟩⟩⟩⟩⟩⟩⟩⟩⟩⟩⟩⟩⟩⟩⟩⟩
theorem lw_p144 : lw_okq (⟨"JealousByCalendarModel", "owedWith", "(III)I"⟩, 38) := ⟨⟨by decide +kernel, by decide +kernel⟩, List.mem_of_getElem? (i := 905) (by decide +kernel), List.mem_of_getElem? (i := 1434) (by decide +kernel), List.mem_of_getElem? (i := 1435) (by decide +kernel)⟩
theorem lw_p145 : lw_okq (⟨"JealousByCalendarModel", "leftBoth", "(I)I"⟩, 38) := ⟨⟨by decide +kernel, by decide +kernel⟩, List.mem_of_getElem? (i := 905) (by decide +kernel), List.mem_of_getElem? (i := 1442) (by decide +kernel), List.mem_of_getElem? (i := 1443) (by decide +kernel)⟩
theorem lw_p146 : lw_okq (⟨"JealousByCalendarModel", "allCauses", "()I"⟩, 38) := ⟨⟨by decide +kernel, by decide +kernel⟩, List.mem_of_getElem? (i := 905) (by decide +kernel), List.mem_of_getElem? (i := 1473) (by decide +kernel), List.mem_of_getElem? (i := 1474) (by decide +kernel)⟩
def lw_privs_10 : List (MethodName × Nat) := [(⟨"JealousByCalendarModel", "owedWith", "(III)I"⟩, 38), (⟨"JealousByCalendarModel", "leftBoth", "(I)I"⟩, 38), (⟨"JealousByCalendarModel", "allCauses", "()I"⟩, 38)]
theorem lw_r10 : ∀ q ∈ lw_privs_10, lw_okq q := List.forall_mem_cons.mpr ⟨lw_p144, List.forall_mem_cons.mpr ⟨lw_p145, List.forall_mem_cons.mpr ⟨lw_p146, fun _ h => absurd h List.not_mem_nil⟩⟩⟩
def lw_privs : List (MethodName × Nat) := lw_privs_1 ++ (lw_privs_2 ++ (lw_privs_3 ++ (lw_privs_4 ++ (lw_privs_5 ++ (lw_privs_6 ++ (lw_privs_7 ++ (lw_privs_8 ++ (lw_privs_9 ++ (lw_privs_10)))))))))
def lw_tbl : List Cond := k2_sels lw_privs ++ tables_1
theorem lw_privs_ok : ∀ q ∈ lw_privs, lw_okq q := by
  show ∀ q ∈ lw_privs_1 ++ (lw_privs_2 ++ (lw_privs_3 ++ (lw_privs_4 ++ (lw_privs_5 ++ (lw_privs_6 ++ (lw_privs_7 ++ (lw_privs_8 ++ (lw_privs_9 ++ (lw_privs_10))))))))), lw_okq q
  exact List.forall_mem_append.mpr ⟨lw_r1, List.forall_mem_append.mpr ⟨lw_r2, List.forall_mem_append.mpr ⟨lw_r3, List.forall_mem_append.mpr ⟨lw_r4, List.forall_mem_append.mpr ⟨lw_r5, List.forall_mem_append.mpr ⟨lw_r6, List.forall_mem_append.mpr ⟨lw_r7, List.forall_mem_append.mpr ⟨lw_r8, List.forall_mem_append.mpr ⟨lw_r9, lw_r10⟩⟩⟩⟩⟩⟩⟩⟩⟩
end
section
/-! A pure machine for the claim's methods: addresses are triples (kind, which, place), memory is three functions; its programs are the methods' instructions with their references resolved. -/
abbrev QA : Type := Nat × Nat × Nat
abbrev QV : Type := Int32 ⊕ Int64 ⊕ Option QA
abbrev QM : Type := (QA → Nat → Int32) × (QA → Nat → Int64) × (QA → Nat → Option QA)
abbrev QL : Type := List (Option QV)
abbrev QR : Type := Option (Option QV × QM)
abbrev QC : Type := Nat → List QV → QM → QR
abbrev QE : Type := Nat × Option (List Bool) × Instr
abbrev qI (x : Int32) : QV := .inl x
abbrev qL (x : Int64) : QV := .inr (.inl x)
abbrev qO (x : Option QA) : QV := .inr (.inr x)
abbrev qR (a : QA) : QV := .inr (.inr (some a))
def qsi (μ : QM) (a : QA) (k : Nat) (v : Int32) : QM := (fun b j => if b = a ∧ j = k then v else μ.1 b j, μ.2.1, μ.2.2)
def qsl (μ : QM) (a : QA) (k : Nat) (v : Int64) : QM := (μ.1, fun b j => if b = a ∧ j = k then v else μ.2.1 b j, μ.2.2)
def qsr (μ : QM) (a : QA) (k : Nat) (v : Option QA) : QM := (μ.1, μ.2.1, fun b j => if b = a ∧ j = k then v else μ.2.2 b j)
def qbz (x : Int32) : Int32 := if x = 0 then 0 else 1
/-- an index that is no place of a row of n -/
def qoob (x : Int32) (n : Nat) : Bool := decide (x < 0) || decide (n ≤ x.toNatClampNeg)
abbrev qix (x : Int32) : Nat := x.toNatClampNeg
/-! the kinds of addresses: how many of each; fields (0 int, 1 boolean, 2 a final reference); arrays (1 int, 2 long, 3 boolean, 4 references that stay, 5 references that change) -/
def qbnds : List (Nat × Nat) := [(1, 1), (11, 12), (11, 1), (11, 2), (11, 1), (2, 1), (2, 12), (2, 1), (2, 1), (2, 1), (2, 1), (2, 1), (2, 1), (1, 1), (1, 1), (1, 1), (1, 1), (1, 1), (1, 1), (1, 1), (1, 1), (1, 1), (1, 1), (1, 1), (1, 1), (1, 1), (1, 1), (1, 1), (1, 1), (1, 1), (1, 1), (1, 1), (1, 1), (1, 1), (1, 1), (1, 1), (1, 1), (1, 1), (1, 1), (1, 1), (1, 1), (1, 1), (1, 1), (1, 1), (1, 1), (1, 1), (1, 1), (1, 1), (1, 1), (1, 1)]
def qbnd (t : Nat) : Nat × Nat := qbnds.getD t (0, 0)
def qdom (a : QA) : Bool := decide (a.2.1 < (qbnd a.1).1) && decide (a.2.2 < (qbnd a.1).2)
def qfks : List (List Nat) := [[2, 2, 2, 1, 2, 0, 2, 0, 2, 0, 2, 2, 2, 2, 2, 2, 2], [0, 0, 0, 0, 1, 0, 0], [0, 2, 2, 2, 0], [0, 0, 0, 0, 1], [], [2, 0, 2, 2, 0, 0, 2, 0, 0, 2, 2], [0, 0, 0, 0], [], [], [], [], [], [], [2, 2, 2, 0], [], [], [], [], [], [], [], [], [], [], [2, 2, 2, 2, 2, 2, 2, 2, 2, 2, 2, 0, 0, 2, 2, 2, 2, 0, 0, 0, 2, 1, 1, 0, 0, 2, 2, 0, 2, 0, 0, 2, 2, 0, 2, 2, 2, 2], [], [], [], [], [], [], [], [], [], [], [], [], [], [], [], [], [], [], [], [], [], [], [], [], []]
def qfK (t k : Nat) : Nat := (qfks.getD t []).getD k 9
def qfrs : List (List (Option (Nat × Bool × Nat × Nat))) := [[some (2, false, 0, 0), some (2, false, 1, 0), some (2, false, 2, 0), none, some (17, false, 0, 0), none, some (18, false, 0, 0), none, some (19, false, 0, 0), none, some (20, false, 0, 0), some (5, false, 0, 0), some (5, false, 1, 0), some (21, false, 0, 0), some (22, false, 0, 0), some (23, false, 0, 0), some (13, false, 0, 0)], [none, none, none, none, none, none, none], [none, some (3, true, 0, 0), some (3, true, 0, 1), some (4, true, 0, 0), none], [none, none, none, none, none], [], [some (7, true, 0, 0), none, some (8, true, 0, 0), some (9, true, 0, 0), none, none, some (10, true, 0, 0), none, none, some (11, true, 0, 0), some (12, true, 0, 0)], [none, none, none, none], [], [], [], [], [], [], [some (14, false, 0, 0), some (15, false, 0, 0), some (16, false, 0, 0), none], [], [], [], [], [], [], [], [], [], [], [some (25, false, 0, 0), some (26, false, 0, 0), some (27, false, 0, 0), some (28, false, 0, 0), some (29, false, 0, 0), some (30, false, 0, 0), some (31, false, 0, 0), some (32, false, 0, 0), some (33, false, 0, 0), some (34, false, 0, 0), some (35, false, 0, 0), none, none, some (36, false, 0, 0), some (37, false, 0, 0), some (38, false, 0, 0), some (39, false, 0, 0), none, none, none, some (40, false, 0, 0), none, none, none, none, some (41, false, 0, 0), some (42, false, 0, 0), none, some (43, false, 0, 0), none, none, some (44, false, 0, 0), some (45, false, 0, 0), none, some (46, false, 0, 0), some (47, false, 0, 0), some (48, false, 0, 0), some (49, false, 0, 0)], [], [], [], [], [], [], [], [], [], [], [], [], [], [], [], [], [], [], [], [], [], [], [], [], []]
def qfR (a : QA) (k : Nat) : Option QA := match (qfrs.getD a.1 []).getD k none with
  | none => none
  | some (t, b, j, c) => some (t, bif b then a.2.1 else j, c)
def qarrs : List (Nat × Nat × Nat) := [(0, 0, 0), (0, 0, 0), (0, 0, 0), (0, 0, 0), (4, 12, 1), (0, 0, 0), (0, 0, 0), (1, 12, 0), (4, 12, 6), (5, 12, 6), (5, 12, 6), (1, 12, 0), (1, 12, 0), (0, 0, 0), (1, 26, 0), (1, 26, 0), (3, 26, 0), (5, 8, 2), (1, 96, 0), (1, 12, 0), (1, 7, 0), (1, 7, 0), (1, 7, 0), (2, 256, 0), (0, 0, 0), (1, 7, 0), (1, 2, 0), (1, 2, 0), (1, 2, 0), (1, 2, 0), (1, 2, 0), (1, 12, 0), (1, 12, 0), (1, 12, 0), (1, 12, 0), (1, 12, 0), (1, 96, 0), (1, 48, 0), (1, 48, 0), (1, 192, 0), (1, 800, 0), (1, 12, 0), (1, 12, 0), (1, 53248, 0), (1, 14, 0), (1, 12, 0), (2, 4096, 0), (1, 7, 0), (1, 4096, 0), (1, 84, 0)]
def qarr (t : Nat) : Nat × Nat × Nat := qarrs.getD t (0, 0, 0)
abbrev qeK (t : Nat) : Nat := (qarr t).1
abbrev qeL (t : Nat) : Nat := (qarr t).2.1
abbrev qeT (t : Nat) : Nat := (qarr t).2.2
def qcat : QV → Nat
  | .inr (.inl _) => 2
  | _ => 1
def qwd (st : List QV) : Nat := st.foldr (fun v n => qcat v + n) 0
def qput (ls : QL) (i : Nat) (v : QV) : QL := match i with
  | 0 => ls.set 0 (some v)
  | j + 1 => match ls[j]? with
    | some (some (.inr (.inl _))) => (ls.set j none).set (j + 1) (some v)
    | _ => ls.set (j + 1) (some v)
def qpop : Nat → List QV → List QV → Option (List QV × List QV)
  | 0, st, acc => some (acc, st)
  | _ + 1, [], _ => none
  | n + 1, v :: st, acc => qpop n st (v :: acc)
def qmask : List Bool → QL → QL
  | b :: bs, v :: vs => (bif b then v else none) :: qmask bs vs
  | [], vs => vs
  | _ :: _, [] => []
def qmskOf (code : List QE) (t : Nat) : List Bool := match code.find? (fun e => e.1 == t) with
  | some (_, some m, _) => m
  | _ => []
def qsw (jp : Int → QR) (x : Int32) (d : Int) : List (Int × Int) → QR
  | [] => jp d
  | (a, o) :: r => if x = Int32.ofInt a then jp o else qsw jp x d r
def qtab (lo : Int) : List Int → List (Int × Int)
  | [] => []
  | o :: r => (lo, o) :: qtab (lo + 1) r
/-- behind a call: kinds 0 nothing, 1 an int, 2 a long, 3 a reference of a kind, 4 such a one or null -/
def qbV (c : QR) (f : QM → QR) : QR := match c with
  | some (none, μ) => f μ
  | _ => none
def qbI (c : QR) (f : Int32 → QM → QR) : QR := match c with
  | some (some (.inl x), μ) => f x μ
  | _ => none
def qbL (c : QR) (f : Int64 → QM → QR) : QR := match c with
  | some (some (.inr (.inl x)), μ) => f x μ
  | _ => none
def qbR (t : Nat) (c : QR) (f : Nat → Nat → QM → QR) : QR := match c with
  | some (some (.inr (.inr (some a))), μ) => if a.1 = t ∧ qdom a = true then f a.2.1 a.2.2 μ else none
  | _ => none
def qbN (t : Nat) (c : QR) (f : Nat → Nat → QM → QR) (g : QM → QR) : QR := match c with
  | some (some (.inr (.inr (some a))), μ) => if a.1 = t ∧ qdom a = true then f a.2.1 a.2.2 μ else none
  | some (some (.inr (.inr none)), μ) => g μ
  | _ => none
def qcond (c : ClassFile.Cond) (x y : Int32) (A B : QR) : QR := match c with
  | .eq => if x = y then A else B
  | .ne => if x = y then B else A
  | .lt => if x < y then A else B
  | .ge => if y ≤ x then A else B
  | .gt => if y < x then A else B
  | .le => if x ≤ y then A else B
/-- one instruction: on to the next (nx), or a jump (jp) -/
def qop (call : QC) (nx : QL → List QV → QM → QR) (jp : Int → QL → List QV → QM → QR) (o : Instr) (ls : QL) (st : List QV) (μ : QM) : QR :=
  match o with
  | .sipush n => nx ls (qI (Int32.ofInt n) :: st) μ
  | .goto_w n => nx ls (qL (Int64.ofInt n) :: st) μ
  | .aconst_null => nx ls (qO none :: st) μ
  | .iload i => match ls[i]? with
    | some (some (.inl x)) => nx ls (qI x :: st) μ
    | _ => none
  | .lload i => match ls[i]? with
    | some (some (.inr (.inl x))) => nx ls (qL x :: st) μ
    | _ => none
  | .aload i => match ls[i]? with
    | some (some (.inr (.inr x))) => nx ls (qO x :: st) μ
    | _ => none
  | .istore i => match st with
    | .inl x :: st => if i < ls.length then nx (qput ls i (qI x)) st μ else none
    | _ => none
  | .astore i => match st with
    | .inr (.inr x) :: st => if i < ls.length then nx (qput ls i (qO x)) st μ else none
    | _ => none
  | .lstore i => match st with
    | .inr (.inl x) :: st => if i + 1 < ls.length then nx ((qput ls i (qL x)).set (i + 1) none) st μ else none
    | _ => none
  | .iinc i n => match ls[i]? with
    | some (some (.inl x)) => nx (qput ls i (qI (x + Int32.ofInt n))) st μ
    | _ => none
  | .dup => match st with
    | .inl x :: st => nx ls (qI x :: qI x :: st) μ
    | .inr (.inr x) :: st => nx ls (qO x :: qO x :: st) μ
    | _ => none
  | .dup2 => match st with
    | .inl x :: .inr (.inr y) :: st => nx ls (qI x :: qO y :: qI x :: qO y :: st) μ
    | _ => none
  | .pop => match st with
    | .inl _ :: st => nx ls st μ
    | .inr (.inr _) :: st => nx ls st μ
    | _ => none
  | .iadd => match st with
    | .inl y :: .inl x :: st => nx ls (qI (x + y) :: st) μ
    | _ => none
  | .isub => match st with
    | .inl y :: .inl x :: st => nx ls (qI (x - y) :: st) μ
    | _ => none
  | .imul => match st with
    | .inl y :: .inl x :: st => nx ls (qI (x * y) :: st) μ
    | _ => none
  | .iand => match st with
    | .inl y :: .inl x :: st => nx ls (qI (x &&& y) :: st) μ
    | _ => none
  | .ior => match st with
    | .inl y :: .inl x :: st => nx ls (qI (x ||| y) :: st) μ
    | _ => none
  | .ixor => match st with
    | .inl y :: .inl x :: st => nx ls (qI (x ^^^ y) :: st) μ
    | _ => none
  | .ishl => match st with
    | .inl y :: .inl x :: st => nx ls (qI (x <<< (y &&& 31)) :: st) μ
    | _ => none
  | .ishr => match st with
    | .inl y :: .inl x :: st => nx ls (qI (x >>> (y &&& 31)) :: st) μ
    | _ => none
  | .iushr => match st with
    | .inl y :: .inl x :: st => nx ls (qI (x.toUInt32 >>> (y.toUInt32 &&& Int32.toUInt32 31)).toInt32 :: st) μ
    | _ => none
  | .idiv => match st with
    | .inl y :: .inl x :: st => if y = 0 then none else nx ls (qI (x / y) :: st) μ
    | _ => none
  | .irem => match st with
    | .inl y :: .inl x :: st => if y = 0 then none else nx ls (qI (x - x / y * y) :: st) μ
    | _ => none
  | .ineg => match st with
    | .inl x :: st => nx ls (qI (-x) :: st) μ
    | _ => none
  | .ladd => match st with
    | .inr (.inl y) :: .inr (.inl x) :: st => nx ls (qL (x + y) :: st) μ
    | _ => none
  | .lsub => match st with
    | .inr (.inl y) :: .inr (.inl x) :: st => nx ls (qL (x - y) :: st) μ
    | _ => none
  | .lmul => match st with
    | .inr (.inl y) :: .inr (.inl x) :: st => nx ls (qL (x * y) :: st) μ
    | _ => none
  | .lor => match st with
    | .inr (.inl y) :: .inr (.inl x) :: st => nx ls (qL (x ||| y) :: st) μ
    | _ => none
  | .ldiv => match st with
    | .inr (.inl y) :: .inr (.inl x) :: st => if y = 0 then none else nx ls (qL (x / y) :: st) μ
    | _ => none
  | .lrem => match st with
    | .inr (.inl y) :: .inr (.inl x) :: st => if y = 0 then none else nx ls (qL (x - x / y * y) :: st) μ
    | _ => none
  | .lshl => match st with
    | .inl y :: .inr (.inl x) :: st => nx ls (qL (x <<< (y.toInt64 &&& 63)) :: st) μ
    | _ => none
  | .i2l => match st with
    | .inl x :: st => nx ls (qL x.toInt64 :: st) μ
    | _ => none
  | .lcmp => match st with
    | .inr (.inl y) :: .inr (.inl x) :: st => nx ls (qI (lg_cmp x y) :: st) μ
    | _ => none
  | .fadd => match st with
    | .inl y :: .inl x :: st => if qwd st ≤ 8 then nx ls (qI (if x < y then y else x) :: st) μ else none
    | _ => none
  | .fsub => match st with
    | .inl y :: .inl x :: st => if qwd st ≤ 8 then nx ls (qI (if y < x then y else x) :: st) μ else none
    | _ => none
  | .fneg => match st with
    | .inl x :: st => if qwd st ≤ 8 then nx ls (qI (if 0 ≤ x then x else 0 - x) :: st) μ else none
    | _ => none
  | .ifCond c off => match st with
    | .inl x :: st => qcond c x 0 (jp off ls st μ) (nx ls st μ)
    | _ => none
  | .if_icmp c off => match st with
    | .inl y :: .inl x :: st => qcond c x y (jp off ls st μ) (nx ls st μ)
    | _ => none
  | .if_acmp c off => match st with
    | .inr (.inr y) :: .inr (.inr x) :: st => (match c with
      | .eq => if x = y then jp off ls st μ else nx ls st μ
      | .ne => if x = y then nx ls st μ else jp off ls st μ)
    | _ => none
  | .ifnull off => match st with
    | .inr (.inr none) :: st => jp off ls st μ
    | .inr (.inr (some _)) :: st => nx ls st μ
    | _ => none
  | .ifnonnull off => match st with
    | .inr (.inr none) :: st => nx ls st μ
    | .inr (.inr (some _)) :: st => jp off ls st μ
    | _ => none
  | .goto off => jp off ls st μ
  | .tableswitch d lo _ offs => match st with
    | .inl x :: st => qsw (fun off => jp off ls st μ) x d (qtab lo offs.toList)
    | _ => none
  | .lookupswitch d ps => match st with
    | .inl x :: st => qsw (fun off => jp off ls st μ) x d ps.toList
    | _ => none
  | .getfield r => match st with
    | .inr (.inr (some a)) :: st => if a.1 = r / 64 then
        (match qfK (r / 64) (r % 64) with
        | 0 => nx ls (qI (μ.1 a (r % 64)) :: st) μ
        | 1 => nx ls (qI (qbz (μ.1 a (r % 64))) :: st) μ
        | 2 => nx ls (qO (qfR a (r % 64)) :: st) μ
        | _ => none) else none
    | _ => none
  | .putfield r => match st with
    | .inl x :: .inr (.inr (some a)) :: st => if a.1 = r / 64 then
        (match qfK (r / 64) (r % 64) with
        | 0 => nx ls st (qsi μ a (r % 64) x)
        | 1 => if x = 0 ∨ x = 1 then nx ls st (qsi μ a (r % 64) x) else none
        | _ => none) else none
    | _ => none
  | .arraylength => match st with
    | .inr (.inr (some a)) :: st => if qeK a.1 = 0 then none else nx ls (qI (Int32.ofInt (qeL a.1 : Nat)) :: st) μ
    | _ => none
  | .iaload => match st with
    | .inl i :: .inr (.inr (some a)) :: st => if qeK a.1 = 1 then (bif qoob i (qeL a.1) then none else nx ls (qI (μ.1 a (qix i)) :: st) μ) else none
    | _ => none
  | .baload => match st with
    | .inl i :: .inr (.inr (some a)) :: st => if qeK a.1 = 3 then (bif qoob i (qeL a.1) then none else nx ls (qI (μ.1 a (qix i)) :: st) μ) else none
    | _ => none
  | .laload => match st with
    | .inl i :: .inr (.inr (some a)) :: st => if qeK a.1 = 2 then (bif qoob i (qeL a.1) then none else nx ls (qL (μ.2.1 a (qix i)) :: st) μ) else none
    | _ => none
  | .aaload => match st with
    | .inl i :: .inr (.inr (some a)) :: st => bif qoob i (qeL a.1) then none else
        if qeK a.1 = 4 then nx ls (qR (qeT a.1, a.2.1, qix i) :: st) μ
        else if qeK a.1 = 5 then (match μ.2.2 a (qix i) with
          | none => nx ls (qO none :: st) μ
          | some b => if b.1 = qeT a.1 ∧ qdom b = true then nx ls (qR (qeT a.1, b.2.1, b.2.2) :: st) μ else none)
        else none
    | _ => none
  | .iastore => match st with
    | .inl x :: .inl i :: .inr (.inr (some a)) :: st => if qeK a.1 = 1 then (bif qoob i (qeL a.1) then none else nx ls st (qsi μ a (qix i) x)) else none
    | _ => none
  | .bastore => match st with
    | .inl x :: .inl i :: .inr (.inr (some a)) :: st => if qeK a.1 = 3 ∧ (x = 0 ∨ x = 1) then (bif qoob i (qeL a.1) then none else nx ls st (qsi μ a (qix i) x)) else none
    | _ => none
  | .lastore => match st with
    | .inr (.inl x) :: .inl i :: .inr (.inr (some a)) :: st => if qeK a.1 = 2 then (bif qoob i (qeL a.1) then none else nx ls st (qsl μ a (qix i) x)) else none
    | _ => none
  | .aastore => match st with
    | .inr (.inr none) :: .inl i :: .inr (.inr (some a)) :: st => if qeK a.1 = 5 then (bif qoob i (qeL a.1) then none else nx ls st (qsr μ a (qix i) none)) else none
    | .inr (.inr (some b)) :: .inl i :: .inr (.inr (some a)) :: st => if qeK a.1 = 5 ∧ b.1 = qeT a.1 then (bif qoob i (qeL a.1) then none else nx ls st (qsr μ a (qix i) (some b))) else none
    | _ => none
  | .faload => match st with
    | .inl i :: .inr (.inr (some a)) :: st => if a = (99, 0, 0) then qbI (call 9999 [qI i] μ) (fun x _ => nx ls (qI x :: st) μ) else none
    | _ => none
  | .fload _ => match st with
    | .inr (.inr (some a)) :: st => if a = (99, 0, 0) then qbI (call 9998 [] μ) (fun x _ => nx ls (qI x :: st) μ) else none
    | _ => none
  | .invokeinterface y c => match qpop (c / 8 % 8) st [] with
    | some (av, st) => if qwd st ≤ 8 then
        (match c % 8 with
        | 0 => qbV (call y av μ) (fun μ => nx ls st μ)
        | 1 => qbI (call y av μ) (fun x μ => nx ls (qI x :: st) μ)
        | 2 => qbL (call y av μ) (fun x μ => nx ls (qL x :: st) μ)
        | 3 => qbR (c / 64) (call y av μ) (fun j k μ => nx ls (qR (c / 64, j, k) :: st) μ)
        | 4 => qbN (c / 64) (call y av μ) (fun j k μ => nx ls (qR (c / 64, j, k) :: st) μ) (fun μ => nx ls (qO none :: st) μ)
        | _ => none) else none
    | none => none
  | .ireturn => match st with
    | [.inl x] => some (some (qI x), μ)
    | _ => none
  | .freturn => match st with
    | [.inl x] => if x = 0 ∨ x = 1 then some (some (qI x), μ) else none
    | _ => none
  | .lreturn => match st with
    | [.inr (.inl x)] => some (some (qL x), μ)
    | _ => none
  | .areturn => match st with
    | [.inr (.inr x)] => some (some (qO x), μ)
    | _ => none
  | .return_ => match st with
    | [] => some (none, μ)
    | _ => none
  | _ => none
def qjmp (k : Nat → QL → List QV → QM → QR) (code : List QE) (pc : Nat) (off : Int) (ls : QL) (st : List QV) (μ : QM) : QR :=
  k ((pc : Int) + off).toNat (qmask (qmskOf code ((pc : Int) + off).toNat) ls) st μ
def qsem (call : QC) (k : Nat → QL → List QV → QM → QR) (code : List QE) : List QE → Bool → QL → List QV → QM → QR
  | [] => fun _ _ _ _ => none
  | e :: rest => fun b ls st μ => match b, e.2.1 with
    | true, some m => k e.1 (qmask m ls) st μ
    | _, _ => qop call (qsem call k code rest true) (qjmp k code e.1) e.2.2 ls st μ
def qfrom (code : List QE) (pc : Nat) : List QE := code.dropWhile (fun e => !(e.1 == pc))
def qrunF (call : QC) (code : List QE) : Nat → Nat → QL → List QV → QM → QR
  | 0 => fun _ _ _ _ => none
  | n + 1 => fun pc ls st μ => qsem call (qrunF call code n) code (qfrom code pc) false ls st μ
noncomputable def qsup (f : Nat → QR) : QR := @dite _ (∃ n, (f n).isSome = true) (Classical.propDecidable _) (fun h => f h.choose) (fun _ => none)
noncomputable def qrun (call : QC) (code : List QE) (pc : Nat) (ls : QL) (st : List QV) (μ : QM) : QR := qsup (fun n => qrunF call code n pc ls st μ)
end
section
/-! a run's equation: each step hands on to one successor at most -/
theorem qcond_or (c : ClassFile.Cond) (x y : Int32) : (∀ A B : QR, qcond c x y A B = A) ∨ (∀ A B : QR, qcond c x y A B = B) := by
  cases c <;> simp only [qcond]
  · by_cases h : x = y <;> simp [h]
  · by_cases h : x = y <;> simp [h]
  · by_cases h : x < y <;> simp [h]
  · by_cases h : y ≤ x <;> simp [h]
  · by_cases h : y < x <;> simp [h]
  · by_cases h : x ≤ y <;> simp [h]
theorem qsw_jp (x : Int32) (d : Int) : ∀ l : List (Int × Int), ∃ off : Int, ∀ jp : Int → QR, qsw jp x d l = jp off
  | [] => ⟨d, fun _ => rfl⟩
  | (a, o) :: l => by
    by_cases h : x = Int32.ofInt a
    · exact ⟨o, fun jp => by simp only [qsw, if_pos h]⟩
    · obtain ⟨off, k⟩ := qsw_jp x d l
      exact ⟨off, fun jp => by simp only [qsw, if_neg h]; exact k jp⟩
def QT (f : (QL → List QV → QM → QR) → (Int → QL → List QV → QM → QR) → QR) : Prop :=
  (∃ r, ∀ nx jp, f nx jp = r) ∨ (∃ l s m, ∀ nx jp, f nx jp = nx l s m) ∨ (∃ o l s m, ∀ nx jp, f nx jp = jp o l s m)
theorem QT.c {r : QR} : QT (fun _ _ => r) := Or.inl ⟨r, fun _ _ => rfl⟩
theorem QT.n {l : QL} {s : List QV} {m : QM} : QT (fun nx _ => nx l s m) := Or.inr (Or.inl ⟨l, s, m, fun _ _ => rfl⟩)
theorem QT.j {o : Int} {l : QL} {s : List QV} {m : QM} : QT (fun _ jp => jp o l s m) := Or.inr (Or.inr ⟨o, l, s, m, fun _ _ => rfl⟩)
theorem QT.ite {c : Prop} [i : Decidable c] {f g : (QL → List QV → QM → QR) → (Int → QL → List QV → QM → QR) → QR} (hf : QT f) (hg : QT g) : QT (fun nx jp => if c then f nx jp else g nx jp) := by
  by_cases h : c
  · simpa only [if_pos h] using hf
  · simpa only [if_neg h] using hg
theorem QT.cond {b : Bool} {f g : (QL → List QV → QM → QR) → (Int → QL → List QV → QM → QR) → QR} (hf : QT f) (hg : QT g) : QT (fun nx jp => bif b then f nx jp else g nx jp) := by
  cases b
  · exact hg
  · exact hf
theorem QT.qc {c : ClassFile.Cond} {x y : Int32} {f g : (QL → List QV → QM → QR) → (Int → QL → List QV → QM → QR) → QR} (hf : QT f) (hg : QT g) : QT (fun nx jp => qcond c x y (f nx jp) (g nx jp)) := by
  rcases qcond_or c x y with h | h
  · simpa only [h] using hf
  · simpa only [h] using hg
theorem QT.sw {x : Int32} {d : Int} {ps : List (Int × Int)} {l : QL} {s : List QV} {m : QM} : QT (fun _ jp => qsw (fun off => jp off l s m) x d ps) := by
  obtain ⟨off, h⟩ := qsw_jp x d ps
  exact Or.inr (Or.inr ⟨off, l, s, m, fun _ jp => h _⟩)
theorem QT.bV {c : QR} {f : QM → (QL → List QV → QM → QR) → (Int → QL → List QV → QM → QR) → QR} (hf : ∀ μ, QT (f μ)) : QT (fun nx jp => qbV c (fun μ => f μ nx jp)) := by
  rcases c with _ | ⟨_ | v, μ⟩
  · exact QT.c
  · exact hf μ
  · exact QT.c
theorem QT.bI {c : QR} {f : Int32 → QM → (QL → List QV → QM → QR) → (Int → QL → List QV → QM → QR) → QR} (hf : ∀ x μ, QT (f x μ)) : QT (fun nx jp => qbI c (fun x μ => f x μ nx jp)) := by
  rcases c with _ | ⟨_ | v | v | v, μ⟩
  · exact QT.c
  · exact QT.c
  · exact hf v μ
  · exact QT.c
  · exact QT.c
theorem QT.bL {c : QR} {f : Int64 → QM → (QL → List QV → QM → QR) → (Int → QL → List QV → QM → QR) → QR} (hf : ∀ x μ, QT (f x μ)) : QT (fun nx jp => qbL c (fun x μ => f x μ nx jp)) := by
  rcases c with _ | ⟨_ | v | v | v, μ⟩
  · exact QT.c
  · exact QT.c
  · exact QT.c
  · exact hf v μ
  · exact QT.c
theorem QT.bR {t : Nat} {c : QR} {f : Nat → Nat → QM → (QL → List QV → QM → QR) → (Int → QL → List QV → QM → QR) → QR} (hf : ∀ x y μ, QT (f x y μ)) : QT (fun nx jp => qbR t c (fun x y μ => f x y μ nx jp)) := by
  rcases c with _ | ⟨_ | v | v | _ | a, μ⟩
  · exact QT.c
  · exact QT.c
  · exact QT.c
  · exact QT.c
  · exact QT.c
  · exact QT.ite (hf _ _ μ) QT.c
theorem QT.bN {t : Nat} {c : QR} {f : Nat → Nat → QM → (QL → List QV → QM → QR) → (Int → QL → List QV → QM → QR) → QR} {g : QM → (QL → List QV → QM → QR) → (Int → QL → List QV → QM → QR) → QR} (hf : ∀ x y μ, QT (f x y μ)) (hg : ∀ μ, QT (g μ)) : QT (fun nx jp => qbN t c (fun x y μ => f x y μ nx jp) (fun μ => g μ nx jp)) := by
  rcases c with _ | ⟨_ | v | v | _ | a, μ⟩
  · exact QT.c
  · exact QT.c
  · exact QT.c
  · exact QT.c
  · exact hg μ
  · exact QT.ite (hf _ _ μ) QT.c
set_option maxHeartbeats 4000000 in
theorem qop_tail (call : QC) (o : Instr) (ls : QL) (st : List QV) (μ : QM) : QT (fun nx jp => qop call nx jp o ls st μ) := by
  cases o
  case sipush n =>
    exact QT.n
  case goto_w n =>
    exact QT.n
  case aconst_null =>
    exact QT.n
  case iload i =>
    show QT (fun nx jp => match ls[i]? with | some (some (.inl x)) => nx ls (qI x :: st) μ | _ => none)
    rcases ls[i]? with _ | _ | x | x | x <;> first | exact QT.n | exact QT.c
  case lload i =>
    show QT (fun nx jp => match ls[i]? with | some (some (.inr (.inl x))) => nx ls (qL x :: st) μ | _ => none)
    rcases ls[i]? with _ | _ | x | x | x <;> first | exact QT.n | exact QT.c
  case aload i =>
    show QT (fun nx jp => match ls[i]? with | some (some (.inr (.inr x))) => nx ls (qO x :: st) μ | _ => none)
    rcases ls[i]? with _ | _ | x | x | x <;> first | exact QT.n | exact QT.c
  case iinc i n =>
    show QT (fun nx jp => match ls[i]? with | some (some (.inl x)) => nx (qput ls i (qI (x + Int32.ofInt n))) st μ | _ => none)
    rcases ls[i]? with _ | _ | x | x | x <;> first | exact QT.n | exact QT.c
  case istore i =>
    rcases st with _ | ⟨v0, t0⟩
    · exact QT.c
    rcases v0 with x0 | x0
    · exact QT.ite QT.n QT.c
    · exact QT.c
  case astore i =>
    rcases st with _ | ⟨v0, t0⟩
    · exact QT.c
    rcases v0 with x0 | x0 | x0
    · exact QT.c
    · exact QT.c
    exact QT.ite QT.n QT.c
  case lstore i =>
    rcases st with _ | ⟨v0, t0⟩
    · exact QT.c
    rcases v0 with x0 | x0 | x0
    · exact QT.c
    · exact QT.ite QT.n QT.c
    · exact QT.c
  case dup =>
    rcases st with _ | ⟨x | x | x, st⟩ <;> first | exact QT.n | exact QT.c
  case pop =>
    rcases st with _ | ⟨x | x | x, st⟩ <;> first | exact QT.n | exact QT.c
  case dup2 =>
    rcases st with _ | ⟨v0, t0⟩
    · exact QT.c
    rcases v0 with x0 | x0
    · rcases t0 with _ | ⟨v1, t1⟩
      · exact QT.c
      rcases v1 with x1 | x1 | x1
      · exact QT.c
      · exact QT.c
      exact QT.n
    · exact QT.c
  case iadd =>
    rcases st with _ | ⟨v0, t0⟩
    · exact QT.c
    rcases v0 with x0 | x0
    · rcases t0 with _ | ⟨v1, t1⟩
      · exact QT.c
      rcases v1 with x1 | x1
      · exact QT.n
      · exact QT.c
    · exact QT.c
  case isub =>
    rcases st with _ | ⟨v0, t0⟩
    · exact QT.c
    rcases v0 with x0 | x0
    · rcases t0 with _ | ⟨v1, t1⟩
      · exact QT.c
      rcases v1 with x1 | x1
      · exact QT.n
      · exact QT.c
    · exact QT.c
  case imul =>
    rcases st with _ | ⟨v0, t0⟩
    · exact QT.c
    rcases v0 with x0 | x0
    · rcases t0 with _ | ⟨v1, t1⟩
      · exact QT.c
      rcases v1 with x1 | x1
      · exact QT.n
      · exact QT.c
    · exact QT.c
  case iand =>
    rcases st with _ | ⟨v0, t0⟩
    · exact QT.c
    rcases v0 with x0 | x0
    · rcases t0 with _ | ⟨v1, t1⟩
      · exact QT.c
      rcases v1 with x1 | x1
      · exact QT.n
      · exact QT.c
    · exact QT.c
  case ior =>
    rcases st with _ | ⟨v0, t0⟩
    · exact QT.c
    rcases v0 with x0 | x0
    · rcases t0 with _ | ⟨v1, t1⟩
      · exact QT.c
      rcases v1 with x1 | x1
      · exact QT.n
      · exact QT.c
    · exact QT.c
  case ixor =>
    rcases st with _ | ⟨v0, t0⟩
    · exact QT.c
    rcases v0 with x0 | x0
    · rcases t0 with _ | ⟨v1, t1⟩
      · exact QT.c
      rcases v1 with x1 | x1
      · exact QT.n
      · exact QT.c
    · exact QT.c
  case ishl =>
    rcases st with _ | ⟨v0, t0⟩
    · exact QT.c
    rcases v0 with x0 | x0
    · rcases t0 with _ | ⟨v1, t1⟩
      · exact QT.c
      rcases v1 with x1 | x1
      · exact QT.n
      · exact QT.c
    · exact QT.c
  case ishr =>
    rcases st with _ | ⟨v0, t0⟩
    · exact QT.c
    rcases v0 with x0 | x0
    · rcases t0 with _ | ⟨v1, t1⟩
      · exact QT.c
      rcases v1 with x1 | x1
      · exact QT.n
      · exact QT.c
    · exact QT.c
  case iushr =>
    rcases st with _ | ⟨v0, t0⟩
    · exact QT.c
    rcases v0 with x0 | x0
    · rcases t0 with _ | ⟨v1, t1⟩
      · exact QT.c
      rcases v1 with x1 | x1
      · exact QT.n
      · exact QT.c
    · exact QT.c
  case idiv =>
    rcases st with _ | ⟨v0, t0⟩
    · exact QT.c
    rcases v0 with x0 | x0
    · rcases t0 with _ | ⟨v1, t1⟩
      · exact QT.c
      rcases v1 with x1 | x1
      · exact QT.ite QT.c QT.n
      · exact QT.c
    · exact QT.c
  case irem =>
    rcases st with _ | ⟨v0, t0⟩
    · exact QT.c
    rcases v0 with x0 | x0
    · rcases t0 with _ | ⟨v1, t1⟩
      · exact QT.c
      rcases v1 with x1 | x1
      · exact QT.ite QT.c QT.n
      · exact QT.c
    · exact QT.c
  case ineg =>
    rcases st with _ | ⟨v0, t0⟩
    · exact QT.c
    rcases v0 with x0 | x0
    · exact QT.n
    · exact QT.c
  case ladd =>
    rcases st with _ | ⟨v0, t0⟩
    · exact QT.c
    rcases v0 with x0 | x0 | x0
    · exact QT.c
    · rcases t0 with _ | ⟨v1, t1⟩
      · exact QT.c
      rcases v1 with x1 | x1 | x1
      · exact QT.c
      · exact QT.n
      · exact QT.c
    · exact QT.c
  case lsub =>
    rcases st with _ | ⟨v0, t0⟩
    · exact QT.c
    rcases v0 with x0 | x0 | x0
    · exact QT.c
    · rcases t0 with _ | ⟨v1, t1⟩
      · exact QT.c
      rcases v1 with x1 | x1 | x1
      · exact QT.c
      · exact QT.n
      · exact QT.c
    · exact QT.c
  case lmul =>
    rcases st with _ | ⟨v0, t0⟩
    · exact QT.c
    rcases v0 with x0 | x0 | x0
    · exact QT.c
    · rcases t0 with _ | ⟨v1, t1⟩
      · exact QT.c
      rcases v1 with x1 | x1 | x1
      · exact QT.c
      · exact QT.n
      · exact QT.c
    · exact QT.c
  case lor =>
    rcases st with _ | ⟨v0, t0⟩
    · exact QT.c
    rcases v0 with x0 | x0 | x0
    · exact QT.c
    · rcases t0 with _ | ⟨v1, t1⟩
      · exact QT.c
      rcases v1 with x1 | x1 | x1
      · exact QT.c
      · exact QT.n
      · exact QT.c
    · exact QT.c
  case lcmp =>
    rcases st with _ | ⟨v0, t0⟩
    · exact QT.c
    rcases v0 with x0 | x0 | x0
    · exact QT.c
    · rcases t0 with _ | ⟨v1, t1⟩
      · exact QT.c
      rcases v1 with x1 | x1 | x1
      · exact QT.c
      · exact QT.n
      · exact QT.c
    · exact QT.c
  case ldiv =>
    rcases st with _ | ⟨v0, t0⟩
    · exact QT.c
    rcases v0 with x0 | x0 | x0
    · exact QT.c
    · rcases t0 with _ | ⟨v1, t1⟩
      · exact QT.c
      rcases v1 with x1 | x1 | x1
      · exact QT.c
      · exact QT.ite QT.c QT.n
      · exact QT.c
    · exact QT.c
  case lrem =>
    rcases st with _ | ⟨v0, t0⟩
    · exact QT.c
    rcases v0 with x0 | x0 | x0
    · exact QT.c
    · rcases t0 with _ | ⟨v1, t1⟩
      · exact QT.c
      rcases v1 with x1 | x1 | x1
      · exact QT.c
      · exact QT.ite QT.c QT.n
      · exact QT.c
    · exact QT.c
  case lshl =>
    rcases st with _ | ⟨v0, t0⟩
    · exact QT.c
    rcases v0 with x0 | x0
    · rcases t0 with _ | ⟨v1, t1⟩
      · exact QT.c
      rcases v1 with x1 | x1 | x1
      · exact QT.c
      · exact QT.n
      · exact QT.c
    · exact QT.c
  case i2l =>
    rcases st with _ | ⟨v0, t0⟩
    · exact QT.c
    rcases v0 with x0 | x0
    · exact QT.n
    · exact QT.c
  case fadd =>
    rcases st with _ | ⟨v0, t0⟩
    · exact QT.c
    rcases v0 with x0 | x0
    · rcases t0 with _ | ⟨v1, t1⟩
      · exact QT.c
      rcases v1 with x1 | x1
      · exact QT.ite QT.n QT.c
      · exact QT.c
    · exact QT.c
  case fsub =>
    rcases st with _ | ⟨v0, t0⟩
    · exact QT.c
    rcases v0 with x0 | x0
    · rcases t0 with _ | ⟨v1, t1⟩
      · exact QT.c
      rcases v1 with x1 | x1
      · exact QT.ite QT.n QT.c
      · exact QT.c
    · exact QT.c
  case fneg =>
    rcases st with _ | ⟨v0, t0⟩
    · exact QT.c
    rcases v0 with x0 | x0
    · exact QT.ite QT.n QT.c
    · exact QT.c
  case ifCond c off =>
    rcases st with _ | ⟨v0, t0⟩
    · exact QT.c
    rcases v0 with x0 | x0
    · exact QT.qc QT.j QT.n
    · exact QT.c
  case if_icmp c off =>
    rcases st with _ | ⟨v0, t0⟩
    · exact QT.c
    rcases v0 with x0 | x0
    · rcases t0 with _ | ⟨v1, t1⟩
      · exact QT.c
      rcases v1 with x1 | x1
      · exact QT.qc QT.j QT.n
      · exact QT.c
    · exact QT.c
  case if_acmp c off =>
    cases c
    · rcases st with _ | ⟨v0, t0⟩
      · exact QT.c
      rcases v0 with x0 | x0 | x0
      · exact QT.c
      · exact QT.c
      rcases t0 with _ | ⟨v1, t1⟩
      · exact QT.c
      rcases v1 with x1 | x1 | x1
      · exact QT.c
      · exact QT.c
      exact QT.ite QT.j QT.n
    · rcases st with _ | ⟨v0, t0⟩
      · exact QT.c
      rcases v0 with x0 | x0 | x0
      · exact QT.c
      · exact QT.c
      rcases t0 with _ | ⟨v1, t1⟩
      · exact QT.c
      rcases v1 with x1 | x1 | x1
      · exact QT.c
      · exact QT.c
      exact QT.ite QT.n QT.j
  case ifnull off =>
    rcases st with _ | ⟨x | x | _ | x, st⟩ <;> first | exact QT.n | exact QT.j | exact QT.c
  case ifnonnull off =>
    rcases st with _ | ⟨x | x | _ | x, st⟩ <;> first | exact QT.n | exact QT.j | exact QT.c
  case goto off =>
    exact QT.j
  case tableswitch d lo hi offs =>
    rcases st with _ | ⟨v0, t0⟩
    · exact QT.c
    rcases v0 with x0 | x0
    · exact QT.sw
    · exact QT.c
  case lookupswitch d ps =>
    rcases st with _ | ⟨v0, t0⟩
    · exact QT.c
    rcases v0 with x0 | x0
    · exact QT.sw
    · exact QT.c
  case getfield r =>
    rcases st with _ | ⟨v0, t0⟩
    · exact QT.c
    rcases v0 with x0 | x0 | _ | x0
    · exact QT.c
    · exact QT.c
    · exact QT.c
    refine QT.ite ?_ QT.c
    generalize qfK (r / 64) (r % 64) = q
    match q with
    | 0 => exact QT.n
    | 1 => exact QT.n
    | 2 => exact QT.n
    | _ + 3 => exact QT.c
  case putfield r =>
    rcases st with _ | ⟨v0, t0⟩
    · exact QT.c
    rcases v0 with x0 | x0
    · rcases t0 with _ | ⟨v1, t1⟩
      · exact QT.c
      rcases v1 with x1 | x1 | _ | x1
      · exact QT.c
      · exact QT.c
      · exact QT.c
      refine QT.ite ?_ QT.c
      generalize qfK (r / 64) (r % 64) = q
      match q with
      | 0 => exact QT.n
      | 1 => exact QT.ite QT.n QT.c
      | _ + 2 => exact QT.c
    · exact QT.c
  case arraylength =>
    rcases st with _ | ⟨v0, t0⟩
    · exact QT.c
    rcases v0 with x0 | x0 | _ | x0
    · exact QT.c
    · exact QT.c
    · exact QT.c
    exact QT.ite QT.c QT.n
  case iaload =>
    rcases st with _ | ⟨v0, t0⟩
    · exact QT.c
    rcases v0 with x0 | x0
    · rcases t0 with _ | ⟨v1, t1⟩
      · exact QT.c
      rcases v1 with x1 | x1 | _ | x1
      · exact QT.c
      · exact QT.c
      · exact QT.c
      exact QT.ite (QT.cond QT.c QT.n) QT.c
    · exact QT.c
  case baload =>
    rcases st with _ | ⟨v0, t0⟩
    · exact QT.c
    rcases v0 with x0 | x0
    · rcases t0 with _ | ⟨v1, t1⟩
      · exact QT.c
      rcases v1 with x1 | x1 | _ | x1
      · exact QT.c
      · exact QT.c
      · exact QT.c
      exact QT.ite (QT.cond QT.c QT.n) QT.c
    · exact QT.c
  case laload =>
    rcases st with _ | ⟨v0, t0⟩
    · exact QT.c
    rcases v0 with x0 | x0
    · rcases t0 with _ | ⟨v1, t1⟩
      · exact QT.c
      rcases v1 with x1 | x1 | _ | x1
      · exact QT.c
      · exact QT.c
      · exact QT.c
      exact QT.ite (QT.cond QT.c QT.n) QT.c
    · exact QT.c
  case aaload =>
    rcases st with _ | ⟨v0, t0⟩
    · exact QT.c
    rcases v0 with x0 | x0
    · rcases t0 with _ | ⟨v1, t1⟩
      · exact QT.c
      rcases v1 with x1 | x1 | _ | x1
      · exact QT.c
      · exact QT.c
      · exact QT.c
      refine QT.cond QT.c (QT.ite QT.n (QT.ite ?_ QT.c))
      rcases μ.2.2 x1 (qix x0) with _ | b
      · exact QT.n
      · exact QT.ite QT.n QT.c
    · exact QT.c
  case iastore =>
    rcases st with _ | ⟨v0, t0⟩
    · exact QT.c
    rcases v0 with x0 | x0
    · rcases t0 with _ | ⟨v1, t1⟩
      · exact QT.c
      rcases v1 with x1 | x1
      · rcases t1 with _ | ⟨v2, t2⟩
        · exact QT.c
        rcases v2 with x2 | x2 | _ | x2
        · exact QT.c
        · exact QT.c
        · exact QT.c
        exact QT.ite (QT.cond QT.c QT.n) QT.c
      · exact QT.c
    · exact QT.c
  case bastore =>
    rcases st with _ | ⟨v0, t0⟩
    · exact QT.c
    rcases v0 with x0 | x0
    · rcases t0 with _ | ⟨v1, t1⟩
      · exact QT.c
      rcases v1 with x1 | x1
      · rcases t1 with _ | ⟨v2, t2⟩
        · exact QT.c
        rcases v2 with x2 | x2 | _ | x2
        · exact QT.c
        · exact QT.c
        · exact QT.c
        exact QT.ite (QT.cond QT.c QT.n) QT.c
      · exact QT.c
    · exact QT.c
  case lastore =>
    rcases st with _ | ⟨v0, t0⟩
    · exact QT.c
    rcases v0 with x0 | x0 | x0
    · exact QT.c
    · rcases t0 with _ | ⟨v1, t1⟩
      · exact QT.c
      rcases v1 with x1 | x1
      · rcases t1 with _ | ⟨v2, t2⟩
        · exact QT.c
        rcases v2 with x2 | x2 | _ | x2
        · exact QT.c
        · exact QT.c
        · exact QT.c
        exact QT.ite (QT.cond QT.c QT.n) QT.c
      · exact QT.c
    · exact QT.c
  case aastore =>
    rcases st with _ | ⟨x | x | _ | b, st⟩
    · exact QT.c
    · exact QT.c
    · exact QT.c
    · rcases st with _ | ⟨v0, t0⟩
      · exact QT.c
      rcases v0 with x0 | x0
      · rcases t0 with _ | ⟨v1, t1⟩
        · exact QT.c
        rcases v1 with x1 | x1 | _ | x1
        · exact QT.c
        · exact QT.c
        · exact QT.c
        exact QT.ite (QT.cond QT.c QT.n) QT.c
      · exact QT.c
    · rcases st with _ | ⟨v0, t0⟩
      · exact QT.c
      rcases v0 with x0 | x0
      · rcases t0 with _ | ⟨v1, t1⟩
        · exact QT.c
        rcases v1 with x1 | x1 | _ | x1
        · exact QT.c
        · exact QT.c
        · exact QT.c
        exact QT.ite (QT.cond QT.c QT.n) QT.c
      · exact QT.c
  case faload =>
    rcases st with _ | ⟨v0, t0⟩
    · exact QT.c
    rcases v0 with x0 | x0
    · rcases t0 with _ | ⟨v1, t1⟩
      · exact QT.c
      rcases v1 with x1 | x1 | _ | x1
      · exact QT.c
      · exact QT.c
      · exact QT.c
      exact QT.ite (QT.bI fun _ _ => QT.n) QT.c
    · exact QT.c
  case fload i =>
    rcases st with _ | ⟨v0, t0⟩
    · exact QT.c
    rcases v0 with x0 | x0 | _ | x0
    · exact QT.c
    · exact QT.c
    · exact QT.c
    exact QT.ite (QT.bI fun _ _ => QT.n) QT.c
  case invokeinterface y c =>
    show QT (fun nx jp => match qpop (c / 8 % 8) st [] with | some (av, st) => _ | none => none)
    rcases qpop (c / 8 % 8) st [] with _ | ⟨av, st⟩
    · exact QT.c
    refine QT.ite ?_ QT.c
    generalize c % 8 = q
    match q with
    | 0 => exact QT.bV fun _ => QT.n
    | 1 => exact QT.bI fun _ _ => QT.n
    | 2 => exact QT.bL fun _ _ => QT.n
    | 3 => exact QT.bR fun _ _ _ => QT.n
    | 4 => exact QT.bN (fun _ _ _ => QT.n) fun _ => QT.n
    | _ + 5 => exact QT.c
  case ireturn =>
    exact QT.c
  case freturn =>
    exact QT.c
  case lreturn =>
    exact QT.c
  case areturn =>
    exact QT.c
  case return_ =>
    exact QT.c
  all_goals exact QT.c
theorem qsem_tail (call : QC) (code : List QE) : ∀ (l : List QE) (b : Bool) (ls : QL) (st : List QV) (μ : QM),
    (∃ r, ∀ k, qsem call k code l b ls st μ = r) ∨ (∃ pc l' s' m', ∀ k, qsem call k code l b ls st μ = k pc l' s' m')
  | [], b, ls, st, μ => Or.inl ⟨none, fun _ => rfl⟩
  | e :: rest, b, ls, st, μ => by
    have main : (∃ r, ∀ k, qop call (qsem call k code rest true) (qjmp k code e.1) e.2.2 ls st μ = r) ∨ (∃ pc l' s' m', ∀ k, qop call (qsem call k code rest true) (qjmp k code e.1) e.2.2 ls st μ = k pc l' s' m') := by
      rcases qop_tail call e.2.2 ls st μ with ⟨r, h⟩ | ⟨l, s, m, h⟩ | ⟨o, l, s, m, h⟩
      · exact Or.inl ⟨r, fun k => h _ _⟩
      · rcases qsem_tail call code rest true l s m with ⟨r, h2⟩ | ⟨pc, l', s', m', h2⟩
        · exact Or.inl ⟨r, fun k => (h _ _).trans (h2 k)⟩
        · exact Or.inr ⟨pc, l', s', m', fun k => (h _ _).trans (h2 k)⟩
      · exact Or.inr ⟨_, _, _, _, fun k => h _ _⟩
    obtain ⟨pc, lv, o⟩ := e
    cases b
    · exact main
    · cases lv with
      | none => exact main
      | some m => exact Or.inr ⟨pc, qmask m ls, st, μ, fun _ => rfl⟩
theorem qrunF_mono (call : QC) (code : List QE) : ∀ (n m : Nat) (pc : Nat) (ls : QL) (st : List QV) (μ : QM) (r : Option QV × QM), n ≤ m → qrunF call code n pc ls st μ = some r → qrunF call code m pc ls st μ = some r
  | 0, m, pc, ls, st, μ, r, _, h => by cases h
  | n + 1, 0, pc, ls, st, μ, r, hl, h => absurd hl (by omega)
  | n + 1, m + 1, pc, ls, st, μ, r, hl, h => by
    have h : qsem call (qrunF call code n) code (qfrom code pc) false ls st μ = some r := h
    show qsem call (qrunF call code m) code (qfrom code pc) false ls st μ = some r
    rcases qsem_tail call code (qfrom code pc) false ls st μ with ⟨x, h2⟩ | ⟨pc', l', s', m', h2⟩
    · rw [h2] at h ⊢
      exact h
    · rw [h2] at h ⊢
      exact qrunF_mono call code n m pc' l' s' m' r (by omega) h
theorem qsup_eq {f : Nat → QR} (hm : ∀ n m r, n ≤ m → f n = some r → f m = some r) {n : Nat} {r : Option QV × QM} (h : f n = some r) : qsup f = some r := by
  have hex : ∃ n, (f n).isSome = true := ⟨n, by rw [h]; rfl⟩
  unfold qsup
  rw [dif_pos hex]
  have hc := hex.choose_spec
  generalize hex.choose = m at hc ⊢
  obtain ⟨r', hr'⟩ := Option.isSome_iff_exists.mp hc
  rcases Nat.le_total n m with hl | hl
  · exact hm _ _ _ hl h
  · rw [hr', ← hm _ _ _ hl hr', h]
theorem qsup_some {f : Nat → QR} {r : Option QV × QM} (h : qsup f = some r) : ∃ n, f n = some r := by
  unfold qsup at h
  by_cases hex : ∃ n, (f n).isSome = true
  · rw [dif_pos hex] at h
    exact ⟨_, h⟩
  · rw [dif_neg hex] at h
    cases h
theorem qsup_none {f : Nat → QR} (h : ∀ n, f n = none) : qsup f = none := by
  unfold qsup
  rw [dif_neg]
  rintro ⟨n, hn⟩
  rw [h n] at hn
  cases hn
/-- a run, one stretch on -/
theorem qrun_eq (call : QC) (code : List QE) (pc : Nat) (ls : QL) (st : List QV) (μ : QM) : qrun call code pc ls st μ = qsem call (qrun call code) code (qfrom code pc) false ls st μ := by
  have hm : ∀ pc ls st μ n m r, n ≤ m → qrunF call code n pc ls st μ = some r → qrunF call code m pc ls st μ = some r := fun pc ls st μ n m r => qrunF_mono call code n m pc ls st μ r
  rcases qsem_tail call code (qfrom code pc) false ls st μ with ⟨x, h⟩ | ⟨pc', l', s', m', h⟩
  · rw [h]
    cases x with
    | none =>
      refine qsup_none fun n => ?_
      cases n with
      | zero => rfl
      | succ n => exact h _
    | some r => exact qsup_eq (hm pc ls st μ) (n := 1) (h _)
  · rw [h]
    cases hx : qrun call code pc' l' s' m' with
    | none =>
      refine qsup_none fun n => ?_
      cases n with
      | zero => rfl
      | succ n =>
        have e : qrunF call code (n + 1) pc ls st μ = qrunF call code n pc' l' s' m' := h _
        rw [e]
        cases hy : qrunF call code n pc' l' s' m' with
        | none => rfl
        | some r =>
          have := qsup_eq (hm pc' l' s' m') hy
          unfold qrun at hx
          rw [this] at hx
          cases hx
    | some r =>
      obtain ⟨n, hn⟩ := qsup_some hx
      exact qsup_eq (hm pc ls st μ) (n := n + 1) ((h _).trans hn)
end
section
/-! the names behind the numbers: classes, fields, links, constants, methods; checked against the words of the tables -/
def qowns : List String := ["JealousByCalendar", "JealousByCalendar$Cause", "JealousByCalendar$Affair", "JealousByCalendar$Person", "JealousByCalendar$Plan", "JealousByCalendar$Choice", "JealousByCalendar$Course", "JealousByCalendarModel", "JealousByCalendarLaw", "java/lang/Integer"]
def qownS (o : Nat) : String := qowns.getD o ""
def qTl : List (List (String × String × String × Bool)) := [[("JealousByCalendar", "now", "LJealousByCalendar$Affair;", true), ("JealousByCalendar", "mind", "LJealousByCalendar$Affair;", true), ("JealousByCalendar", "picture", "LJealousByCalendar$Affair;", true), ("JealousByCalendar", "hasPicture", "Z", false), ("JealousByCalendar", "past", "[LJealousByCalendar$Affair;", true), ("JealousByCalendar", "pastCount", "I", false), ("JealousByCalendar", "letters", "[I", true), ("JealousByCalendar", "letterCount", "I", false), ("JealousByCalendar", "numbers", "[I", true), ("JealousByCalendar", "numberCount", "I", false), ("JealousByCalendar", "refusals", "[I", true), ("JealousByCalendar", "his", "LJealousByCalendar$Plan;", true), ("JealousByCalendar", "hers", "LJealousByCalendar$Plan;", true), ("JealousByCalendar", "hisSettled", "[I", true), ("JealousByCalendar", "hersSettled", "[I", true), ("JealousByCalendar", "ways", "[J", true), ("JealousByCalendar", "course", "LJealousByCalendar$Course;", true)], [("JealousByCalendar$Cause", "kind", "I", false), ("JealousByCalendar$Cause", "figure", "I", false), ("JealousByCalendar$Cause", "whose", "I", false), ("JealousByCalendar$Cause", "found", "I", false), ("JealousByCalendar$Cause", "used", "Z", false), ("JealousByCalendar$Cause", "lasting", "I", false), ("JealousByCalendar$Cause", "weight", "I", false)], [("JealousByCalendar$Affair", "day", "I", false), ("JealousByCalendar$Affair", "he", "LJealousByCalendar$Person;", true), ("JealousByCalendar$Affair", "she", "LJealousByCalendar$Person;", true), ("JealousByCalendar$Affair", "causes", "[LJealousByCalendar$Cause;", true), ("JealousByCalendar$Affair", "count", "I", false)], [("JealousByCalendar$Person", "weekday", "I", false), ("JealousByCalendar$Person", "purse", "I", false), ("JealousByCalendar$Person", "borrowed", "I", false), ("JealousByCalendar$Person", "owed", "I", false), ("JealousByCalendar$Person", "jealous", "Z", false)], [("JealousByCalendar$Plan", "dayOf", "[I", true), ("JealousByCalendar$Plan", "days", "I", false), ("JealousByCalendar$Plan", "byNumber", "[LJealousByCalendar$Choice;", true), ("JealousByCalendar$Plan", "byWeight", "[LJealousByCalendar$Choice;", true), ("JealousByCalendar$Plan", "size", "I", false), ("JealousByCalendar$Plan", "all", "I", false), ("JealousByCalendar$Plan", "taker", "[LJealousByCalendar$Choice;", true), ("JealousByCalendar$Plan", "seen", "I", false), ("JealousByCalendar$Plan", "kept", "I", false), ("JealousByCalendar$Plan", "hand", "[I", true), ("JealousByCalendar$Plan", "goodOn", "[I", true)], [("JealousByCalendar$Choice", "number", "I", false), ("JealousByCalendar$Choice", "weight", "I", false), ("JealousByCalendar$Choice", "lastDay", "I", false), ("JealousByCalendar$Choice", "goodDays", "I", false)], [("JealousByCalendar$Course", "payer", "[I", true), ("JealousByCalendar$Course", "weight", "[I", true), ("JealousByCalendar$Course", "isFine", "[Z", true), ("JealousByCalendar$Course", "steps", "I", false)], [("JealousByCalendarModel", "refused", "[I", true), ("JealousByCalendarModel", "weekday", "[I", true), ("JealousByCalendarModel", "purse", "[I", true), ("JealousByCalendarModel", "borrowed", "[I", true), ("JealousByCalendarModel", "owed", "[I", true), ("JealousByCalendarModel", "jealous", "[I", true), ("JealousByCalendarModel", "kind", "[I", true), ("JealousByCalendarModel", "figure", "[I", true), ("JealousByCalendarModel", "whose", "[I", true), ("JealousByCalendarModel", "found", "[I", true), ("JealousByCalendarModel", "used", "[I", true), ("JealousByCalendarModel", "causes", "I", false), ("JealousByCalendarModel", "day", "I", false), ("JealousByCalendarModel", "tape", "[I", true), ("JealousByCalendarModel", "letter", "[I", true), ("JealousByCalendarModel", "letterAt", "[I", true), ("JealousByCalendarModel", "told", "[I", true), ("JealousByCalendarModel", "taped", "I", false), ("JealousByCalendarModel", "at", "I", false), ("JealousByCalendarModel", "statements", "I", false), ("JealousByCalendarModel", "kept", "[I", true), ("JealousByCalendarModel", "hasImage", "Z", false), ("JealousByCalendarModel", "isKeeping", "Z", false), ("JealousByCalendarModel", "cursor", "I", false), ("JealousByCalendarModel", "backs", "I", false), ("JealousByCalendarModel", "need", "[I", true), ("JealousByCalendarModel", "hand", "[I", true), ("JealousByCalendarModel", "needs", "I", false), ("JealousByCalendarModel", "best", "[I", true), ("JealousByCalendarModel", "own", "I", false), ("JealousByCalendarModel", "ownHis", "I", false), ("JealousByCalendarModel", "settles", "[I", true), ("JealousByCalendarModel", "row", "[I", true), ("JealousByCalendarModel", "rowMany", "I", false), ("JealousByCalendarModel", "ways", "[J", true), ("JealousByCalendarModel", "couples", "[I", true), ("JealousByCalendarModel", "laidHis", "[I", true), ("JealousByCalendarModel", "hasBoth", "[I", true)]]
def qT (ci : Nat) : u_T := fun k => (qTl.getD ci []).getD k ("", "", "", false)
def qtyl : List (List FieldType) := [[.object "JealousByCalendar$Affair", .object "JealousByCalendar$Affair", .object "JealousByCalendar$Affair", .boolean, .array (.object "JealousByCalendar$Affair"), .int, .array .int, .int, .array .int, .int, .array .int, .object "JealousByCalendar$Plan", .object "JealousByCalendar$Plan", .array .int, .array .int, .array .long, .object "JealousByCalendar$Course"], [.int, .int, .int, .int, .boolean, .int, .int], [.int, .object "JealousByCalendar$Person", .object "JealousByCalendar$Person", .array (.object "JealousByCalendar$Cause"), .int], [.int, .int, .int, .int, .boolean], [.array .int, .int, .array (.object "JealousByCalendar$Choice"), .array (.object "JealousByCalendar$Choice"), .int, .int, .array (.object "JealousByCalendar$Choice"), .int, .int, .array .int, .array .int], [.int, .int, .int, .int], [.array .int, .array .int, .array .boolean, .int], [.array .int, .array .int, .array .int, .array .int, .array .int, .array .int, .array .int, .array .int, .array .int, .array .int, .array .int, .int, .int, .array .int, .array .int, .array .int, .array .int, .int, .int, .int, .array .int, .boolean, .boolean, .int, .int, .array .int, .array .int, .int, .array .int, .int, .int, .array .int, .array .int, .int, .array .long, .array .int, .array .int, .array .int]]
def qty (ci : Nat) : Nat → FieldType := fun k => (qtyl.getD ci []).getD k .int
def qNl : List Nat := [17, 7, 5, 5, 11, 4, 4, 38]
def qN (ci : Nat) : Nat := qNl.getD ci 0
def qcl : List vw_C := (List.range 8).map fun ci => (qownS ci, qT ci, qN ci)
/-- a kind's class, where it is one of objects -/
def qcis : List (Option Nat) := [some 0, some 1, some 2, some 3, none, some 4, some 5, none, none, none, none, none, none, some 6, none, none, none, none, none, none, none, none, none, none, some 7, none, none, none, none, none, none, none, none, none, none, none, none, none, none, none, none, none, none, none, none, none, none, none, none, none]
def qci (t : Nat) : Option Nat := qcis.getD t none
def qft : List (Nat × Nat × Nat × Bool × Nat) := [(0, 10, 0, false, 356), (0, 16, 1, false, 357), (0, 19, 2, false, 358), (0, 22, 4, false, 360), (0, 26, 6, false, 362), (0, 30, 8, false, 364), (0, 33, 10, false, 366), (0, 39, 11, false, 367), (0, 43, 12, false, 368), (0, 46, 13, false, 369), (0, 49, 14, false, 370), (0, 52, 15, false, 371), (0, 59, 16, false, 372), (0, 67, 7, false, 363), (0, 82, 5, false, 361), (0, 93, 192, true, 179), (0, 98, 193, true, 182), (0, 101, 194, true, 185), (0, 104, 195, true, 187), (0, 107, 196, true, 191), (0, 115, 64, true, 212), (0, 120, 65, true, 215), (0, 123, 66, true, 217), (0, 126, 67, true, 220), (0, 129, 68, true, 223), (0, 132, 69, true, 226), (0, 135, 70, true, 230), (0, 141, 128, true, 250), (0, 151, 132, true, 257), (0, 172, 3, false, 359), (0, 180, 9, false, 365), (0, 208, 325, true, 305), (0, 240, 321, true, 299), (0, 288, 322, true, 301), (0, 311, 129, true, 252), (0, 315, 130, true, 254), (0, 343, 328, true, 309), (2, 14, 129, false, 251), (2, 20, 130, false, 253), (2, 25, 131, false, 255), (2, 30, 128, false, 247), (2, 38, 132, false, 256), (2, 48, 68, true, 224), (2, 55, 66, true, 218), (2, 58, 70, true, 231), (2, 61, 64, true, 213), (2, 68, 192, true, 180), (2, 79, 196, true, 192), (2, 86, 193, true, 183), (2, 93, 195, true, 188), (2, 99, 67, true, 221), (1, 9, 64, false, 211), (1, 15, 65, false, 214), (1, 18, 66, false, 216), (1, 21, 67, false, 219), (1, 24, 68, false, 222), (1, 28, 69, false, 225), (1, 31, 70, false, 227), (6, 11, 832, false, 341), (6, 15, 833, false, 342), (6, 18, 834, false, 343), (6, 22, 835, false, 344), (6, 26, 128, true, 248), (6, 52, 70, true, 228), (3, 9, 193, false, 181), (3, 15, 192, false, 178), (3, 18, 194, false, 184), (3, 21, 195, false, 186), (3, 24, 196, false, 190), (4, 9, 320, false, 297), (4, 17, 322, false, 300), (4, 21, 323, false, 302), (4, 24, 326, false, 306), (4, 27, 329, false, 310), (4, 30, 330, false, 311), (4, 34, 384, true, 283), (4, 44, 196, true, 189), (4, 50, 321, false, 298), (4, 53, 128, true, 249), (4, 60, 325, false, 304), (4, 63, 324, false, 303), (4, 70, 70, true, 229), (4, 75, 385, true, 284), (4, 80, 386, true, 285), (4, 86, 387, true, 286), (4, 104, 328, false, 308), (4, 107, 327, false, 307), (7, 7, 1536, false, 1058), (7, 13, 1537, false, 1059), (7, 16, 1538, false, 1060), (7, 19, 1539, false, 1061), (7, 22, 1540, false, 1062), (7, 25, 1541, false, 1063), (7, 28, 1542, false, 1064), (7, 31, 1543, false, 1065), (7, 34, 1544, false, 1066), (7, 37, 1545, false, 1067), (7, 40, 1546, false, 1068), (7, 43, 1549, false, 1071), (7, 46, 1550, false, 1072), (7, 49, 1551, false, 1073), (7, 52, 1552, false, 1074), (7, 55, 1556, false, 1078), (7, 58, 1561, false, 1083), (7, 61, 1562, false, 1084), (7, 65, 1564, false, 1086), (7, 68, 1567, false, 1089), (7, 71, 1568, false, 1090), (7, 74, 1570, false, 1092), (7, 78, 1571, false, 1093), (7, 81, 1572, false, 1094), (7, 84, 1573, false, 1095), (7, 90, 1547, false, 1069), (7, 98, 1553, false, 1075), (7, 105, 1554, false, 1076), (7, 120, 1555, false, 1077), (7, 143, 1548, false, 1070), (7, 160, 1560, false, 1082), (7, 163, 1558, false, 1080), (7, 167, 1559, false, 1081), (7, 177, 1557, false, 1079), (7, 202, 1563, false, 1085), (7, 221, 1565, false, 1087), (7, 268, 1569, false, 1091), (7, 324, 1566, false, 1088)]
def qfw (o cp r : Nat) (nest : Bool) : Cond := match qci (r / 64) with
  | none => .declares ⟨"", "", ""⟩
  | some ci => if nest = true then .fieldLinkNest (qownS o) cp (qownS ci) (qT ci (r % 64)).2.1 (qT ci (r % 64)).2.2.1 "JealousByCalendar" else .fieldLink (qownS o) cp (qownS ci) (qT ci (r % 64)).2.1 (qT ci (r % 64)).2.2.1
set_option maxRecDepth 20000 in
theorem qft_ok : ∀ e ∈ qft, lw_tbl[e.2.2.2.2]? = some (qfw e.1 e.2.1 e.2.2.1 e.2.2.2.1) ∧ (qci (e.2.2.1 / 64)).isSome = true ∧ e.2.2.1 % 64 < qN ((qci (e.2.2.1 / 64)).getD 0) := by decide +kernel
def qct : List (Nat × Nat × Int × Nat) := [(0, 309, 1103515245, 907), (0, 310, 2147483647, 908), (0, 384, 1000000000, 848), (7, 64, 53248, 1057), (7, 87, 1000000000, 1383), (7, 258, -100000, 1416), (7, 348, 1103515245, 1612), (7, 349, 2147483647, 1613), (7, 350, 65536, 1614), (9, 265, 1431655765, 833), (9, 266, 858993459, 834), (9, 267, 252645135, 835)]
def qclt : List (Nat × Nat × Int × Nat) := [(0, 303, 2, 898), (0, 385, 4000000000000000000, 650), (7, 88, 4000000000000000000, 1440), (7, 302, 2, 1483)]
theorem qct_ok : ∀ e ∈ qct, lw_tbl[e.2.2.2]? = some (.constant (qownS e.1) e.2.1 (Int32.ofInt e.2.2.1)) := by decide +kernel
theorem qclt_ok : ∀ e ∈ qclt, lw_tbl[e.2.2.2]? = some (.constantLong (qownS e.1) e.2.1 (Int64.ofInt e.2.2.1)) := by decide +kernel
/-- a method: name, code, locals, return type, static, words (initialized, code, static or instance, selects), how many arguments (its own object counted) -/
abbrev QMI : Type := MethodName × ByteArray × Nat × Option FieldType × Bool × Nat × Nat × Nat × Nat × Nat
def qmi0 : List QMI := [(⟨"JealousByCalendar$Cause", "copyFrom", "(LJealousByCalendar$Cause;)V"⟩, prog_3_method_2_code, 2, none, false, 151, 449, 448, 6, 2),
  (⟨"JealousByCalendar$Cause", "become", "(IIII)V"⟩, prog_3_method_3_code, 5, none, false, 151, 490, 489, 14, 5),
  (⟨"JealousByCalendar$Cause", "lastDay", "()I"⟩, prog_3_method_4_code, 1, some .int, false, 151, 559, 558, 25, 1),
  (⟨"JealousByCalendar$Cause", "isFreshOn", "(I)Z"⟩, prog_3_method_5_code, 2, some .boolean, false, 151, 517, 516, 19, 2),
  (⟨"JealousByCalendar$Cause", "lastingOf", "(II)I"⟩, prog_3_method_6_code, 3, some .int, true, 151, 493, 492, 0, 2),
  (⟨"JealousByCalendar$Cause", "weightOf", "(II)I"⟩, prog_3_method_7_code, 3, some .int, true, 151, 496, 495, 0, 2),
  (⟨"JealousByCalendar$Person", "copyFrom", "(LJealousByCalendar$Person;)V"⟩, prog_6_method_2_code, 2, none, false, 150, 445, 444, 5, 2),
  (⟨"JealousByCalendar$Person", "isDueOn", "(I)Z"⟩, prog_6_method_3_code, 2, some .boolean, false, 150, 546, 545, 24, 2),
  (⟨"JealousByCalendar$Person", "endDay", "(I)V"⟩, prog_6_method_4_code, 2, none, false, 150, 542, 541, 23, 2),
  (⟨"JealousByCalendar$Affair", "copyFrom", "(LJealousByCalendar$Affair;)V"⟩, prog_2_method_2_code, 3, none, false, 149, 441, 440, 4, 2),
  (⟨"JealousByCalendar$Affair", "person", "(I)LJealousByCalendar$Person;"⟩, prog_2_method_3_code, 2, some (.object "JealousByCalendar$Person"), false, 149, 471, 470, 10, 2),
  (⟨"JealousByCalendar$Affair", "causeAt", "(I)LJealousByCalendar$Cause;"⟩, prog_2_method_4_code, 2, some (.object "JealousByCalendar$Cause"), false, 149, 504, 503, 16, 2),
  (⟨"JealousByCalendar$Affair", "bring", "(IIII)V"⟩, prog_2_method_5_code, 5, none, false, 149, 486, 485, 13, 5),
  (⟨"JealousByCalendar$Affair", "used", "()I"⟩, prog_2_method_6_code, 3, some .int, false, 149, 600, 599, 27, 1),
  (⟨"JealousByCalendar$Affair", "unused", "()I"⟩, prog_2_method_7_code, 1, some .int, false, 149, 874, 873, 71, 1),
  (⟨"JealousByCalendar$Affair", "unusedFor", "(I)I"⟩, prog_2_method_8_code, 4, some .int, false, 149, 670, 669, 39, 2),
  (⟨"JealousByCalendar$Affair", "weightUnused", "()I"⟩, prog_2_method_9_code, 3, some .int, false, 149, 604, 603, 28, 1),
  (⟨"JealousByCalendar$Affair", "isGood", "(LJealousByCalendar$Cause;I)Z"⟩, prog_2_method_10_code, 4, some .boolean, false, 149, 513, 512, 18, 3),
  (⟨"JealousByCalendar$Affair", "hasGoodOn", "(I)Z"⟩, prog_2_method_11_code, 3, some .boolean, false, 149, 961, 960, 78, 2),
  (⟨"JealousByCalendar$Affair", "isUsable", "(LJealousByCalendar$Cause;)Z"⟩, prog_2_method_12_code, 2, some .boolean, false, 149, 508, 507, 17, 2),
  (⟨"JealousByCalendar$Affair", "spend", "(LJealousByCalendar$Cause;)I"⟩, prog_2_method_13_code, 6, some .int, false, 149, 521, 520, 20, 2),
  (⟨"JealousByCalendar$Affair", "endDay", "()V"⟩, prog_2_method_14_code, 1, none, false, 149, 538, 537, 22, 1),
  (⟨"JealousByCalendar$Affair", "findLater", "(II)V"⟩, prog_2_method_15_code, 4, none, false, 149, 995, 994, 81, 3),
  (⟨"JealousByCalendar$Affair", "atHand", "(I)I"⟩, prog_2_method_16_code, 6, some .int, false, 149, 632, 631, 32, 2),
  (⟨"JealousByCalendar$Affair", "liveDay", "(I)I"⟩, prog_2_method_17_code, 3, some .int, false, 149, 628, 627, 31, 2),
  (⟨"JealousByCalendar$Affair", "liveTo", "(I)V"⟩, prog_2_method_18_code, 3, none, false, 149, 624, 623, 30, 2),
  (⟨"JealousByCalendar$Plan", "takeNeeded", "(LJealousByCalendar$Affair;III)V"⟩, prog_7_method_2_code, 8, none, false, 152, 756, 755, 55, 5),
  (⟨"JealousByCalendar$Plan", "takeDays", "([II)V"⟩, prog_7_method_3_code, 4, none, false, 152, 662, 661, 37, 3),
  (⟨"JealousByCalendar$Plan", "takeDay", "(I)V"⟩, prog_7_method_4_code, 2, none, false, 152, 666, 665, 38, 2),
  (⟨"JealousByCalendar$Plan", "takeCauses", "(LJealousByCalendar$Affair;I)V"⟩, prog_7_method_5_code, 6, none, false, 152, 674, 673, 40, 3),
  (⟨"JealousByCalendar$Plan", "freshDaysOf", "(LJealousByCalendar$Cause;)I"⟩, prog_7_method_6_code, 4, some .int, false, 152, 680, 679, 41, 2),
  (⟨"JealousByCalendar$Plan", "sortIn", "(LJealousByCalendar$Choice;)V"⟩, prog_7_method_7_code, 3, none, false, 152, 685, 684, 42, 2),
  (⟨"JealousByCalendar$Plan", "allDays", "()I"⟩, prog_7_method_8_code, 1, some .int, false, 152, 693, 692, 44, 1),
  (⟨"JealousByCalendar$Plan", "value", "()I"⟩, prog_7_method_9_code, 1, some .int, false, 152, 789, 788, 61, 1),
  (⟨"JealousByCalendar$Plan", "valueWithout", "(I)I"⟩, prog_7_method_10_code, 2, some .int, false, 152, 813, 812, 65, 2),
  (⟨"JealousByCalendar$Plan", "bestOf", "(II)I"⟩, prog_7_method_11_code, 6, some .int, false, 152, 793, 792, 62, 3),
  (⟨"JealousByCalendar$Plan", "findDay", "(LJealousByCalendar$Plan;LJealousByCalendar$Choice;I)Z"⟩, prog_7_method_12_code, 6, some .boolean, true, 152, 796, 795, 0, 3),
  (⟨"JealousByCalendar$Plan", "firstWay", "(I)I"⟩, prog_7_method_13_code, 6, some .int, false, 152, 800, 799, 63, 2),
  (⟨"JealousByCalendar$Plan", "firstOn", "(III)LJealousByCalendar$Choice;"⟩, prog_7_method_14_code, 8, some (.object "JealousByCalendar$Choice"), false, 152, 805, 804, 64, 4),
  (⟨"JealousByCalendar$Plan", "causesGoodOn", "(I)I"⟩, prog_7_method_15_code, 4, some .int, false, 152, 829, 828, 67, 2)]
def qmi1 : List QMI := [(⟨"JealousByCalendar$Plan", "shortDays", "()I"⟩, prog_7_method_16_code, 6, some .int, false, 152, 825, 824, 66, 1),
  (⟨"JealousByCalendar$Plan", "causesOfDays", "(II)I"⟩, prog_7_method_17_code, 5, some .int, false, 152, 839, 838, 68, 3),
  (⟨"JealousByCalendar$Plan", "layByHand", "()V"⟩, prog_7_method_18_code, 4, none, false, 152, 769, 768, 57, 1),
  (⟨"JealousByCalendar$Plan", "soonestOn", "(II)I"⟩, prog_7_method_19_code, 7, some .int, false, 152, 773, 772, 58, 3),
  (⟨"JealousByCalendar$Plan", "withoutByHand", "()I"⟩, prog_7_method_20_code, 3, some .int, false, 152, 777, 776, 59, 1),
  (⟨"JealousByCalendar$Plan", "firstWithoutByHand", "()I"⟩, prog_7_method_21_code, 2, some .int, false, 152, 781, 780, 60, 1),
  (⟨"JealousByCalendar$Plan", "longestByHand", "(Z)I"⟩, prog_7_method_22_code, 5, some .int, false, 152, 969, 968, 79, 2),
  (⟨"JealousByCalendar$Plan", "hasByHandOn", "(I)Z"⟩, prog_7_method_23_code, 3, some .boolean, false, 152, 978, 977, 80, 2),
  (⟨"JealousByCalendar$Plan", "weightOf", "(I)I"⟩, prog_7_method_24_code, 4, some .int, false, 152, 937, 936, 75, 2),
  (⟨"JealousByCalendar$Plan", "leadByTaking", "(LJealousByCalendar$Choice;)I"⟩, prog_7_method_25_code, 5, some .int, false, 152, 879, 878, 72, 2),
  (⟨"JealousByCalendar$Plan", "waysOf", "(I[J)J"⟩, prog_7_method_26_code, 5, some .long, false, 152, 689, 688, 43, 3),
  (⟨"JealousByCalendar$Plan", "spread", "(II[J)V"⟩, prog_7_method_27_code, 7, none, true, 152, 697, 696, 0, 3),
  (⟨"JealousByCalendar$Course", "follow", "(LJealousByCalendar$Affair;I)V"⟩, prog_5_method_2_code, 4, none, false, 154, 1004, 1003, 82, 3),
  (⟨"JealousByCalendar$Course", "followUse", "(LJealousByCalendar$Affair;I)V"⟩, prog_5_method_3_code, 4, none, false, 154, 1008, 1007, 83, 3),
  (⟨"JealousByCalendar$Course", "followEnd", "(LJealousByCalendar$Affair;I)V"⟩, prog_5_method_4_code, 3, none, false, 154, 1020, 1019, 85, 3),
  (⟨"JealousByCalendar$Course", "note", "(IIZ)V"⟩, prog_5_method_5_code, 4, none, false, 154, 1015, 1014, 84, 4),
  (⟨"JealousByCalendar$Course", "isCoveredBy", "(III)Z"⟩, prog_5_method_6_code, 9, some .boolean, false, 154, 1027, 1026, 86, 4),
  (⟨"JealousByCalendar", "feed", "(I)I"⟩, prog_1_method_2_code, 2, some .int, false, 148, 411, 409, 410, 2),
  (⟨"JealousByCalendar", "marriage", "()I"⟩, prog_1_method_3_code, 3, some .int, false, 148, 419, 417, 418, 1),
  (⟨"JealousByCalendar", "one", "(II)I"⟩, prog_1_method_4_code, 4, some .int, false, 148, 551, 549, 550, 3),
  (⟨"JealousByCalendar", "cause", "(II)I"⟩, prog_1_method_5_code, 4, some .int, false, 148, 555, 553, 554, 3),
  (⟨"JealousByCalendar", "set", "(III)I"⟩, prog_1_method_6_code, 6, some .int, false, 148, 564, 562, 563, 4),
  (⟨"JealousByCalendar", "add", "(IIII)I"⟩, prog_1_method_7_code, 5, some .int, false, 148, 568, 566, 567, 5),
  (⟨"JealousByCalendar", "use", "(I)I"⟩, prog_1_method_8_code, 3, some .int, false, 148, 572, 570, 571, 2),
  (⟨"JealousByCalendar", "end", "()I"⟩, prog_1_method_9_code, 1, some .int, false, 148, 580, 578, 579, 1),
  (⟨"JealousByCalendar", "back", "()I"⟩, prog_1_method_10_code, 2, some .int, false, 148, 584, 582, 583, 1),
  (⟨"JealousByCalendar", "image", "()I"⟩, prog_1_method_11_code, 1, some .int, false, 148, 588, 586, 587, 1),
  (⟨"JealousByCalendar", "restore", "()I"⟩, prog_1_method_12_code, 1, some .int, false, 148, 592, 590, 591, 1),
  (⟨"JealousByCalendar", "count", "(I)I"⟩, prog_1_method_13_code, 3, some .int, false, 148, 596, 594, 595, 2),
  (⟨"JealousByCalendar", "row", "(I)I"⟩, prog_1_method_14_code, 2, some .int, false, 148, 608, 606, 607, 2),
  (⟨"JealousByCalendar", "clear", "()I"⟩, prog_1_method_15_code, 2, some .int, false, 148, 612, 610, 611, 1),
  (⟨"JealousByCalendar", "judge", "(I)I"⟩, prog_1_method_16_code, 3, some .int, false, 148, 616, 614, 615, 2),
  (⟨"JealousByCalendar", "meant", "(II)J"⟩, prog_1_method_17_code, 6, some .long, false, 148, 645, 643, 644, 3),
  (⟨"JealousByCalendar", "law", "(I)I"⟩, prog_1_method_18_code, 6, some .int, false, 148, 705, 703, 704, 2),
  (⟨"JealousByCalendar", "friends", "(I)I"⟩, prog_1_method_19_code, 2, some .int, false, 148, 720, 718, 719, 2),
  (⟨"JealousByCalendar", "needed", "(II)I"⟩, prog_1_method_20_code, 4, some .int, false, 148, 736, 734, 735, 3),
  (⟨"JealousByCalendar", "byHand", "(III)I"⟩, prog_1_method_21_code, 6, some .int, false, 148, 761, 759, 760, 4),
  (⟨"JealousByCalendar", "laid", "(III)I"⟩, prog_1_method_22_code, 5, some .int, false, 148, 785, 783, 784, 4),
  (⟨"JealousByCalendar", "wasted", "(II)I"⟩, prog_1_method_23_code, 9, some .int, false, 148, 809, 807, 808, 3),
  (⟨"JealousByCalendar", "worth", "(II)I"⟩, prog_1_method_24_code, 6, some .int, false, 148, 817, 815, 816, 3)]
def qmi2 : List QMI := [(⟨"JealousByCalendar", "notAll", "(II)I"⟩, prog_1_method_25_code, 4, some .int, false, 148, 821, 819, 820, 3),
  (⟨"JealousByCalendar", "settled", "(III)I"⟩, prog_1_method_26_code, 5, some .int, false, 148, 843, 841, 842, 4),
  (⟨"JealousByCalendar", "bestWeekday", "(II)I"⟩, prog_1_method_27_code, 8, some .int, false, 148, 856, 854, 855, 3),
  (⟨"JealousByCalendar", "neither", "(I)I"⟩, prog_1_method_28_code, 5, some .int, false, 148, 860, 858, 859, 2),
  (⟨"JealousByCalendar", "turns", "(I)I"⟩, prog_1_method_29_code, 6, some .int, false, 148, 870, 868, 869, 2),
  (⟨"JealousByCalendar", "months", "(III)I"⟩, prog_1_method_30_code, 9, some .int, false, 148, 883, 881, 882, 4),
  (⟨"JealousByCalendar", "chance", "(III)J"⟩, prog_1_method_31_code, 6, some .long, false, 148, 890, 888, 889, 4),
  (⟨"JealousByCalendar", "keep", "(I)I"⟩, prog_1_method_32_code, 3, some .int, false, 148, 897, 895, 896, 2),
  (⟨"JealousByCalendar", "run", "(III)I"⟩, prog_1_method_33_code, 6, some .int, false, 148, 902, 900, 901, 4),
  (⟨"JealousByCalendar", "lots", "(II)I"⟩, prog_1_method_34_code, 8, some .int, false, 148, 906, 904, 905, 3),
  (⟨"JealousByCalendar", "gift", "(III)I"⟩, prog_1_method_35_code, 8, some .int, false, 148, 912, 910, 911, 4),
  (⟨"JealousByCalendar", "when", "(IIII)I"⟩, prog_1_method_36_code, 9, some .int, false, 148, 920, 918, 919, 5),
  (⟨"JealousByCalendar", "changed", "(I)I"⟩, prog_1_method_37_code, 9, some .int, false, 148, 924, 922, 923, 2),
  (⟨"JealousByCalendar", "alike", "(I)I"⟩, prog_1_method_38_code, 4, some .int, false, 148, 933, 931, 932, 2),
  (⟨"JealousByCalendar", "spare", "(II)I"⟩, prog_1_method_39_code, 5, some .int, false, 148, 948, 946, 947, 3),
  (⟨"JealousByCalendar", "over", "(I)I"⟩, prog_1_method_40_code, 3, some .int, false, 148, 957, 955, 956, 2),
  (⟨"JealousByCalendar", "streak", "(III)I"⟩, prog_1_method_41_code, 6, some .int, false, 148, 965, 963, 964, 4),
  (⟨"JealousByCalendar", "quarrel", "(II)I"⟩, prog_1_method_42_code, 7, some .int, false, 148, 974, 972, 973, 3),
  (⟨"JealousByCalendar", "swapped", "(I)I"⟩, prog_1_method_43_code, 3, some .int, false, 148, 982, 980, 981, 2),
  (⟨"JealousByCalendar", "usedOn", "(II)I"⟩, prog_1_method_44_code, 5, some .int, false, 148, 986, 984, 985, 3),
  (⟨"JealousByCalendar", "delay", "(II)I"⟩, prog_1_method_45_code, 6, some .int, false, 148, 991, 989, 990, 3),
  (⟨"JealousByCalendar", "need", "(II)I"⟩, prog_1_method_46_code, 6, some .int, false, 148, 1000, 998, 999, 3),
  (⟨"JealousByCalendar", "loss", "(II)I"⟩, prog_1_method_47_code, 4, some .int, false, 148, 1033, 1031, 1032, 3),
  (⟨"JealousByCalendar", "heavyDay", "(II)I"⟩, prog_1_method_48_code, 8, some .int, false, 148, 1049, 1047, 1048, 3),
  (⟨"JealousByCalendar", "refuse", "(I)I"⟩, prog_1_method_49_code, 3, some .int, false, 148, 415, 414, 0, 2),
  (⟨"JealousByCalendar", "refuseFar", "(I)I"⟩, prog_1_method_50_code, 2, some .int, false, 148, 847, 846, 69, 2),
  (⟨"JealousByCalendar", "refuseLong", "(I)J"⟩, prog_1_method_51_code, 2, some .long, false, 148, 649, 648, 34, 2),
  (⟨"JealousByCalendar", "faultOfDay", "(I)I"⟩, prog_1_method_52_code, 2, some .int, false, 148, 744, 743, 52, 2),
  (⟨"JealousByCalendar", "faultOfOneAndDay", "(II)I"⟩, prog_1_method_53_code, 3, some .int, false, 148, 740, 739, 51, 3),
  (⟨"JealousByCalendar", "faultOfDayWhat", "(II)I"⟩, prog_1_method_54_code, 4, some .int, false, 148, 952, 951, 77, 3),
  (⟨"JealousByCalendar", "faultOfOneDayWhat", "(IIII)I"⟩, prog_1_method_55_code, 6, some .int, false, 148, 765, 764, 56, 5),
  (⟨"JealousByCalendar", "isNobody", "(I)Z"⟩, prog_1_method_56_code, 1, some .boolean, true, 148, 464, 463, 0, 1),
  (⟨"JealousByCalendar", "isNoKind", "(I)Z"⟩, prog_1_method_57_code, 1, some .boolean, true, 148, 482, 481, 0, 1),
  (⟨"JealousByCalendar", "isNoWeekday", "(I)Z"⟩, prog_1_method_58_code, 1, some .boolean, true, 148, 467, 466, 0, 1),
  (⟨"JealousByCalendar", "otherThan", "(I)I"⟩, prog_1_method_59_code, 1, some .int, true, 148, 524, 523, 0, 1),
  (⟨"JealousByCalendar", "remember", "()V"⟩, prog_1_method_60_code, 3, none, false, 148, 576, 575, 26, 1),
  (⟨"JealousByCalendar", "firstMisplaced", "()I"⟩, prog_1_method_61_code, 5, some .int, false, 148, 423, 422, 1, 1),
  (⟨"JealousByCalendar", "tellStatements", "()I"⟩, prog_1_method_62_code, 3, some .int, false, 148, 437, 436, 3, 1),
  (⟨"JealousByCalendar", "tellStatement", "(I)Z"⟩, prog_1_method_63_code, 3, some .boolean, false, 148, 453, 452, 7, 2),
  (⟨"JealousByCalendar", "tellWeekday", "(II)Z"⟩, prog_1_method_64_code, 3, some .boolean, false, 148, 461, 460, 9, 3)]
def qmi3 : List QMI := [(⟨"JealousByCalendar", "tellPurse", "(II)Z"⟩, prog_1_method_65_code, 3, some .boolean, false, 148, 475, 474, 11, 3),
  (⟨"JealousByCalendar", "tellCause", "(IIII)Z"⟩, prog_1_method_66_code, 5, some .boolean, false, 148, 479, 478, 12, 5),
  (⟨"JealousByCalendar", "tellUse", "(I)Z"⟩, prog_1_method_67_code, 3, some .boolean, false, 148, 500, 499, 15, 2),
  (⟨"JealousByCalendar", "tellDays", "(I)Z"⟩, prog_1_method_68_code, 3, some .boolean, false, 148, 534, 533, 21, 2),
  (⟨"JealousByCalendar", "digitsBehind", "(I)I"⟩, prog_1_method_69_code, 1, some .int, true, 148, 430, 429, 0, 1),
  (⟨"JealousByCalendar", "letterAt", "(I)I"⟩, prog_1_method_70_code, 2, some .int, false, 148, 427, 426, 2, 2),
  (⟨"JealousByCalendar", "isDigit", "(I)Z"⟩, prog_1_method_71_code, 1, some .boolean, true, 148, 433, 432, 0, 1),
  (⟨"JealousByCalendar", "figureAt", "(II)I"⟩, prog_1_method_72_code, 5, some .int, false, 148, 457, 456, 8, 3),
  (⟨"JealousByCalendar", "planOf", "(I)LJealousByCalendar$Plan;"⟩, prog_1_method_73_code, 2, some (.object "JealousByCalendar$Plan"), false, 148, 658, 657, 36, 2),
  (⟨"JealousByCalendar", "prepared", "(LJealousByCalendar$Affair;II)LJealousByCalendar$Plan;"⟩, prog_1_method_74_code, 4, some (.object "JealousByCalendar$Plan"), false, 148, 748, 747, 53, 4),
  (⟨"JealousByCalendar", "preparedOn", "(LJealousByCalendar$Affair;III)LJealousByCalendar$Plan;"⟩, prog_1_method_75_code, 6, some (.object "JealousByCalendar$Plan"), false, 148, 752, 751, 54, 5),
  (⟨"JealousByCalendar", "valueOfBoth", "(LJealousByCalendar$Affair;I)I"⟩, prog_1_method_76_code, 4, some .int, false, 148, 928, 927, 74, 3),
  (⟨"JealousByCalendar", "settledOn", "(III)I"⟩, prog_1_method_77_code, 7, some .int, false, 148, 852, 851, 70, 4),
  (⟨"JealousByCalendar", "isBestChoice", "([III)Z"⟩, prog_1_method_78_code, 5, some .boolean, true, 148, 863, 862, 0, 3),
  (⟨"JealousByCalendar", "settledBeside", "([III)I"⟩, prog_1_method_79_code, 3, some .int, true, 148, 866, 865, 0, 3),
  (⟨"JealousByCalendar", "valueWithOneMore", "(IIIII)I"⟩, prog_1_method_80_code, 6, some .int, false, 148, 916, 915, 73, 6),
  (⟨"JealousByCalendar", "valueOfBothWithout", "(I)I"⟩, prog_1_method_81_code, 2, some .int, false, 148, 1041, 1040, 88, 2),
  (⟨"JealousByCalendar", "worstLoss", "()I"⟩, prog_1_method_82_code, 6, some .int, false, 148, 1037, 1036, 87, 1),
  (⟨"JealousByCalendar", "worstLossOfTwo", "()I"⟩, prog_1_method_83_code, 8, some .int, false, 148, 1045, 1044, 89, 1),
  (⟨"JealousByCalendar", "evenHeap", "(I)I"⟩, prog_1_method_84_code, 7, some .int, false, 148, 941, 940, 76, 2),
  (⟨"JealousByCalendar", "numberAt", "(I)I"⟩, prog_1_method_85_code, 2, some .int, false, 148, 641, 640, 33, 2),
  (⟨"JealousByCalendar", "mostInRow", "()I"⟩, prog_1_method_86_code, 3, some .int, false, 148, 709, 708, 46, 1),
  (⟨"JealousByCalendar", "isRowOfDays", "(I)Z"⟩, prog_1_method_87_code, 5, some .boolean, false, 148, 654, 653, 35, 2),
  (⟨"JealousByCalendar", "meantCauses", "(LJealousByCalendar$Plan;JZ)J"⟩, prog_1_method_88_code, 11, some .long, false, 148, 701, 700, 45, 4),
  (⟨"JealousByCalendar", "isRowByLaw", "(II)Z"⟩, prog_1_method_89_code, 5, some .boolean, false, 148, 716, 715, 47, 3),
  (⟨"JealousByCalendar", "couplesOn", "(I)I"⟩, prog_1_method_90_code, 4, some .int, false, 148, 728, 727, 49, 2),
  (⟨"JealousByCalendar", "fewestFriends", "()I"⟩, prog_1_method_91_code, 3, some .int, false, 148, 724, 723, 48, 1),
  (⟨"JealousByCalendar", "busiestWeekday", "()I"⟩, prog_1_method_92_code, 5, some .int, false, 148, 732, 731, 50, 1),
  (⟨"JealousByCalendar", "firstMistold", "(I)I"⟩, prog_1_method_93_code, 4, some .int, false, 148, 620, 619, 29, 2),
  (⟨"JealousByCalendar", "weekdaysIn", "(III)I"⟩, prog_1_method_94_code, 5, some .int, true, 148, 886, 885, 0, 3),
  (⟨"JealousByCalendar", "power", "(II)J"⟩, prog_1_method_95_code, 5, some .long, true, 148, 893, 892, 0, 2),
  (⟨"JealousByCalendar", "paidOf", "(III)I"⟩, prog_1_method_96_code, 3, some .int, true, 148, 527, 526, 0, 3),
  (⟨"JealousByCalendarModel", "no", "(I)I"⟩, prog_9_method_2_code, 2, some .int, false, 155, 1183, 1182, 90, 2),
  (⟨"JealousByCalendarModel", "lower", "(I)I"⟩, prog_9_method_3_code, 2, some .int, false, 155, 1382, 1381, 119, 2),
  (⟨"JealousByCalendarModel", "lowest", "(I)J"⟩, prog_9_method_4_code, 2, some .long, false, 155, 1439, 1438, 127, 2),
  (⟨"JealousByCalendarModel", "isIn", "(III)Z"⟩, prog_9_method_5_code, 3, some .boolean, true, 155, 1206, 1205, 0, 3),
  (⟨"JealousByCalendarModel", "bound", "(III)I"⟩, prog_9_method_6_code, 3, some .int, true, 155, 1179, 1178, 0, 3),
  (⟨"JealousByCalendarModel", "has", "(II)Z"⟩, prog_9_method_7_code, 2, some .boolean, true, 155, 1335, 1334, 0, 2),
  (⟨"JealousByCalendarModel", "bits", "(I)I"⟩, prog_9_method_8_code, 3, some .int, true, 155, 1370, 1369, 0, 1),
  (⟨"JealousByCalendarModel", "isOne", "(I)Z"⟩, prog_9_method_9_code, 1, some .boolean, true, 155, 1225, 1224, 0, 1)]
def qmi4 : List QMI := [(⟨"JealousByCalendarModel", "isCause", "(I)Z"⟩, prog_9_method_10_code, 2, some .boolean, false, 155, 1233, 1232, 100, 2),
  (⟨"JealousByCalendarModel", "feed", "(I)I"⟩, prog_9_method_11_code, 3, some .int, false, 155, 1176, 1174, 1175, 2),
  (⟨"JealousByCalendarModel", "next", "()I"⟩, prog_9_method_12_code, 1, some .int, false, 155, 1195, 1194, 92, 1),
  (⟨"JealousByCalendarModel", "readsDigits", "(II)Z"⟩, prog_9_method_13_code, 5, some .boolean, false, 155, 1203, 1202, 94, 3),
  (⟨"JealousByCalendarModel", "readsAll", "(II)Z"⟩, prog_9_method_14_code, 3, some .boolean, false, 155, 1199, 1198, 93, 3),
  (⟨"JealousByCalendarModel", "statement", "()Z"⟩, prog_9_method_15_code, 2, some .boolean, false, 155, 1191, 1190, 91, 1),
  (⟨"JealousByCalendarModel", "comes", "(I)Z"⟩, prog_9_method_16_code, 5, some .boolean, false, 155, 1222, 1221, 98, 2),
  (⟨"JealousByCalendarModel", "marriage", "()I"⟩, prog_9_method_17_code, 3, some .int, false, 155, 1187, 1185, 1186, 1),
  (⟨"JealousByCalendarModel", "passes", "([I)V"⟩, prog_9_method_18_code, 3, none, false, 155, 1214, 1213, 96, 2),
  (⟨"JealousByCalendarModel", "passOne", "(I)I"⟩, prog_9_method_19_code, 3, some .int, false, 155, 1218, 1217, 97, 2),
  (⟨"JealousByCalendarModel", "passesAll", "(IZ)V"⟩, prog_9_method_20_code, 3, none, false, 155, 1210, 1209, 95, 3),
  (⟨"JealousByCalendarModel", "keepsBack", "()V"⟩, prog_9_method_21_code, 2, none, false, 155, 1304, 1303, 109, 1),
  (⟨"JealousByCalendarModel", "back", "()I"⟩, prog_9_method_22_code, 1, some .int, false, 155, 1268, 1266, 1267, 1),
  (⟨"JealousByCalendarModel", "image", "()I"⟩, prog_9_method_23_code, 1, some .int, false, 155, 1272, 1270, 1271, 1),
  (⟨"JealousByCalendarModel", "restore", "()I"⟩, prog_9_method_24_code, 1, some .int, false, 155, 1276, 1274, 1275, 1),
  (⟨"JealousByCalendarModel", "keepsOf", "(I)I"⟩, prog_9_method_25_code, 3, some .int, false, 155, 1249, 1248, 104, 2),
  (⟨"JealousByCalendarModel", "weightOf", "(I)I"⟩, prog_9_method_26_code, 3, some .int, false, 155, 1257, 1256, 106, 2),
  (⟨"JealousByCalendarModel", "goodTill", "(I)I"⟩, prog_9_method_27_code, 2, some .int, false, 155, 1245, 1244, 103, 2),
  (⟨"JealousByCalendarModel", "isGood", "(II)Z"⟩, prog_9_method_28_code, 3, some .boolean, false, 155, 1241, 1240, 102, 3),
  (⟨"JealousByCalendarModel", "isSour", "(I)Z"⟩, prog_9_method_29_code, 2, some .boolean, false, 155, 1288, 1287, 108, 2),
  (⟨"JealousByCalendarModel", "adds", "(IIII)V"⟩, prog_9_method_30_code, 5, none, false, 155, 1229, 1228, 99, 5),
  (⟨"JealousByCalendarModel", "canUse", "(I)Z"⟩, prog_9_method_31_code, 2, some .boolean, false, 155, 1237, 1236, 101, 2),
  (⟨"JealousByCalendarModel", "lesser", "(II)I"⟩, prog_9_method_32_code, 2, some .int, true, 155, 1260, 1259, 0, 2),
  (⟨"JealousByCalendarModel", "uses", "(I)I"⟩, prog_9_method_33_code, 4, some .int, false, 155, 1253, 1252, 105, 2),
  (⟨"JealousByCalendarModel", "ends", "()V"⟩, prog_9_method_34_code, 2, none, false, 155, 1264, 1263, 107, 1),
  (⟨"JealousByCalendarModel", "one", "(II)I"⟩, prog_9_method_35_code, 3, some .int, false, 155, 1280, 1278, 1279, 3),
  (⟨"JealousByCalendarModel", "cause", "(II)I"⟩, prog_9_method_36_code, 3, some .int, false, 155, 1284, 1282, 1283, 3),
  (⟨"JealousByCalendarModel", "set", "(III)I"⟩, prog_9_method_37_code, 6, some .int, false, 155, 1292, 1290, 1291, 4),
  (⟨"JealousByCalendarModel", "add", "(IIII)I"⟩, prog_9_method_38_code, 6, some .int, false, 155, 1296, 1294, 1295, 5),
  (⟨"JealousByCalendarModel", "use", "(I)I"⟩, prog_9_method_39_code, 3, some .int, false, 155, 1300, 1298, 1299, 2),
  (⟨"JealousByCalendarModel", "end", "()I"⟩, prog_9_method_40_code, 1, some .int, false, 155, 1308, 1306, 1307, 1),
  (⟨"JealousByCalendarModel", "findNeeds", "(II)V"⟩, prog_9_method_41_code, 4, none, false, 155, 1320, 1319, 111, 3),
  (⟨"JealousByCalendarModel", "soonestSour", "(III)I"⟩, prog_9_method_42_code, 6, some .int, false, 155, 1332, 1331, 113, 4),
  (⟨"JealousByCalendarModel", "findHand", "(II)V"⟩, prog_9_method_43_code, 5, none, false, 155, 1328, 1327, 112, 3),
  (⟨"JealousByCalendarModel", "notWho", "(II)I"⟩, prog_9_method_44_code, 3, some .int, false, 155, 1316, 1315, 110, 3),
  (⟨"JealousByCalendarModel", "needed", "(II)I"⟩, prog_9_method_45_code, 4, some .int, false, 155, 1312, 1310, 1311, 3),
  (⟨"JealousByCalendarModel", "byHand", "(III)I"⟩, prog_9_method_46_code, 8, some .int, false, 155, 1324, 1322, 1323, 4),
  (⟨"JealousByCalendarModel", "valueWith", "(III)I"⟩, prog_9_method_47_code, 4, some .int, false, 155, 1355, 1354, 117, 4),
  (⟨"JealousByCalendarModel", "findOwn", "(I)V"⟩, prog_9_method_48_code, 5, none, false, 155, 1347, 1346, 115, 2),
  (⟨"JealousByCalendarModel", "laysDay", "(I)V"⟩, prog_9_method_49_code, 7, none, false, 155, 1351, 1350, 116, 2)]
def qmi5 : List QMI := [(⟨"JealousByCalendarModel", "findLaid", "(II)V"⟩, prog_9_method_50_code, 4, none, false, 155, 1343, 1342, 114, 3),
  (⟨"JealousByCalendarModel", "allCauses", "()I"⟩, prog_9_method_51_code, 1, some .int, false, 155, 1622, 1621, 146, 1),
  (⟨"JealousByCalendarModel", "laidValue", "(II)I"⟩, prog_9_method_52_code, 3, some .int, false, 155, 1391, 1390, 121, 3),
  (⟨"JealousByCalendarModel", "laid", "(III)I"⟩, prog_9_method_53_code, 9, some .int, false, 155, 1339, 1337, 1338, 4),
  (⟨"JealousByCalendarModel", "wasted", "(II)I"⟩, prog_9_method_54_code, 6, some .int, false, 155, 1359, 1357, 1358, 3),
  (⟨"JealousByCalendarModel", "worth", "(II)I"⟩, prog_9_method_55_code, 4, some .int, false, 155, 1363, 1361, 1362, 3),
  (⟨"JealousByCalendarModel", "goodFor", "(II)I"⟩, prog_9_method_56_code, 7, some .int, false, 155, 1374, 1373, 118, 3),
  (⟨"JealousByCalendarModel", "notAll", "(II)I"⟩, prog_9_method_57_code, 7, some .int, false, 155, 1367, 1365, 1366, 3),
  (⟨"JealousByCalendarModel", "settledBy", "(III)I"⟩, prog_9_method_58_code, 6, some .int, false, 155, 1387, 1386, 120, 4),
  (⟨"JealousByCalendarModel", "settled", "(III)I"⟩, prog_9_method_59_code, 5, some .int, false, 155, 1378, 1376, 1377, 4),
  (⟨"JealousByCalendarModel", "bestWeekday", "(II)I"⟩, prog_9_method_60_code, 6, some .int, false, 155, 1395, 1393, 1394, 3),
  (⟨"JealousByCalendarModel", "hasAt", "(III)I"⟩, prog_9_method_61_code, 4, some .int, false, 155, 1407, 1406, 123, 4),
  (⟨"JealousByCalendarModel", "rests", "(II)Z"⟩, prog_9_method_62_code, 4, some .boolean, false, 155, 1403, 1402, 122, 3),
  (⟨"JealousByCalendarModel", "neither", "(I)I"⟩, prog_9_method_63_code, 4, some .int, false, 155, 1399, 1397, 1398, 2),
  (⟨"JealousByCalendarModel", "unused", "()I"⟩, prog_9_method_64_code, 3, some .int, false, 155, 1420, 1419, 125, 1),
  (⟨"JealousByCalendarModel", "findTurns", "()V"⟩, prog_9_method_65_code, 4, none, false, 155, 1415, 1414, 124, 1),
  (⟨"JealousByCalendarModel", "turns", "(I)I"⟩, prog_9_method_66_code, 4, some .int, false, 155, 1411, 1409, 1410, 2),
  (⟨"JealousByCalendarModel", "weekdaysIn", "(III)I"⟩, prog_9_method_67_code, 5, some .int, true, 155, 1427, 1426, 0, 3),
  (⟨"JealousByCalendarModel", "months", "(III)I"⟩, prog_9_method_68_code, 10, some .int, false, 155, 1424, 1422, 1423, 4),
  (⟨"JealousByCalendarModel", "areDaysOf", "(I)Z"⟩, prog_9_method_69_code, 3, some .boolean, false, 155, 1435, 1434, 126, 2),
  (⟨"JealousByCalendarModel", "isMeant", "(III)Z"⟩, prog_9_method_70_code, 4, some .boolean, false, 155, 1448, 1447, 129, 4),
  (⟨"JealousByCalendarModel", "waysWithout", "(II)J"⟩, prog_9_method_71_code, 6, some .long, false, 155, 1444, 1443, 128, 3),
  (⟨"JealousByCalendarModel", "meant", "(II)J"⟩, prog_9_method_72_code, 13, some .long, false, 155, 1431, 1429, 1430, 3),
  (⟨"JealousByCalendarModel", "areUpTo", "(I)Z"⟩, prog_9_method_73_code, 3, some .boolean, false, 155, 1456, 1455, 130, 2),
  (⟨"JealousByCalendarModel", "isLaw", "(II)Z"⟩, prog_9_method_74_code, 4, some .boolean, false, 155, 1460, 1459, 131, 3),
  (⟨"JealousByCalendarModel", "law", "(I)I"⟩, prog_9_method_75_code, 7, some .int, false, 155, 1452, 1450, 1451, 2),
  (⟨"JealousByCalendarModel", "fewestFriends", "()I"⟩, prog_9_method_76_code, 4, some .int, false, 155, 1468, 1467, 132, 1),
  (⟨"JealousByCalendarModel", "friends", "(I)I"⟩, prog_9_method_77_code, 5, some .int, false, 155, 1464, 1462, 1463, 2),
  (⟨"JealousByCalendarModel", "divisor", "(JJ)J"⟩, prog_9_method_78_code, 10, some .long, true, 155, 1478, 1477, 0, 2),
  (⟨"JealousByCalendarModel", "power", "(JI)J"⟩, prog_9_method_79_code, 6, some .long, true, 155, 1475, 1474, 0, 2),
  (⟨"JealousByCalendarModel", "chance", "(III)J"⟩, prog_9_method_80_code, 9, some .long, false, 155, 1472, 1470, 1471, 4),
  (⟨"JealousByCalendarModel", "keep", "(I)I"⟩, prog_9_method_81_code, 4, some .int, false, 155, 1482, 1480, 1481, 2),
  (⟨"JealousByCalendarModel", "goesOne", "()V"⟩, prog_9_method_82_code, 3, none, false, 155, 1495, 1494, 134, 1),
  (⟨"JealousByCalendarModel", "goesTo", "(I)V"⟩, prog_9_method_83_code, 2, none, false, 155, 1491, 1490, 133, 2),
  (⟨"JealousByCalendarModel", "run", "(III)I"⟩, prog_9_method_84_code, 6, some .int, false, 155, 1487, 1485, 1486, 4),
  (⟨"JealousByCalendarModel", "notGift", "(IIII)I"⟩, prog_9_method_85_code, 5, some .int, false, 155, 1503, 1502, 135, 5),
  (⟨"JealousByCalendarModel", "laidWith", "(IIIII)I"⟩, prog_9_method_86_code, 7, some .int, false, 155, 1507, 1506, 136, 6),
  (⟨"JealousByCalendarModel", "gift", "(III)I"⟩, prog_9_method_87_code, 9, some .int, false, 155, 1499, 1497, 1498, 4),
  (⟨"JealousByCalendarModel", "when", "(IIII)I"⟩, prog_9_method_88_code, 10, some .int, false, 155, 1511, 1509, 1510, 5),
  (⟨"JealousByCalendarModel", "laidOfBoth", "(I)I"⟩, prog_9_method_89_code, 2, some .int, false, 155, 1519, 1518, 137, 2)]
def qmi6 : List QMI := [(⟨"JealousByCalendarModel", "changed", "(I)I"⟩, prog_9_method_90_code, 7, some .int, false, 155, 1515, 1513, 1514, 2),
  (⟨"JealousByCalendarModel", "apartBy", "(II)I"⟩, prog_9_method_91_code, 5, some .int, false, 155, 1527, 1526, 138, 3),
  (⟨"JealousByCalendarModel", "alike", "(I)I"⟩, prog_9_method_92_code, 6, some .int, false, 155, 1523, 1521, 1522, 2),
  (⟨"JealousByCalendarModel", "findBoth", "(I)V"⟩, prog_9_method_93_code, 3, none, false, 155, 1535, 1534, 139, 2),
  (⟨"JealousByCalendarModel", "spare", "(II)I"⟩, prog_9_method_94_code, 6, some .int, false, 155, 1531, 1529, 1530, 3),
  (⟨"JealousByCalendarModel", "lastGood", "()I"⟩, prog_9_method_95_code, 4, some .int, false, 155, 1543, 1542, 140, 1),
  (⟨"JealousByCalendarModel", "over", "(I)I"⟩, prog_9_method_96_code, 3, some .int, false, 155, 1539, 1537, 1538, 2),
  (⟨"JealousByCalendarModel", "streak", "(III)I"⟩, prog_9_method_97_code, 8, some .int, false, 155, 1547, 1545, 1546, 4),
  (⟨"JealousByCalendarModel", "quarrel", "(II)I"⟩, prog_9_method_98_code, 7, some .int, false, 155, 1551, 1549, 1550, 3),
  (⟨"JealousByCalendarModel", "swaps", "()V"⟩, prog_9_method_99_code, 2, none, false, 155, 1559, 1558, 141, 1),
  (⟨"JealousByCalendarModel", "swapped", "(I)I"⟩, prog_9_method_100_code, 5, some .int, false, 155, 1555, 1553, 1554, 2),
  (⟨"JealousByCalendarModel", "usesNow", "(I)I"⟩, prog_9_method_101_code, 2, some .int, false, 155, 1567, 1566, 142, 2),
  (⟨"JealousByCalendarModel", "usedOn", "(II)I"⟩, prog_9_method_102_code, 5, some .int, false, 155, 1563, 1561, 1562, 3),
  (⟨"JealousByCalendarModel", "laidLater", "(III)I"⟩, prog_9_method_103_code, 5, some .int, false, 155, 1575, 1574, 143, 4),
  (⟨"JealousByCalendarModel", "delay", "(II)I"⟩, prog_9_method_104_code, 7, some .int, false, 155, 1571, 1569, 1570, 3),
  (⟨"JealousByCalendarModel", "owedWith", "(III)I"⟩, prog_9_method_105_code, 5, some .int, false, 155, 1583, 1582, 144, 4),
  (⟨"JealousByCalendarModel", "need", "(II)I"⟩, prog_9_method_106_code, 5, some .int, false, 155, 1579, 1577, 1578, 3),
  (⟨"JealousByCalendarModel", "leftBoth", "(I)I"⟩, prog_9_method_107_code, 2, some .int, false, 155, 1591, 1590, 145, 2),
  (⟨"JealousByCalendarModel", "loss", "(II)I"⟩, prog_9_method_108_code, 8, some .int, false, 155, 1587, 1585, 1586, 3),
  (⟨"JealousByCalendarModel", "heavyDay", "(II)I"⟩, prog_9_method_109_code, 8, some .int, false, 155, 1595, 1593, 1594, 3),
  (⟨"JealousByCalendarModel", "row", "(I)I"⟩, prog_9_method_110_code, 3, some .int, false, 155, 1599, 1597, 1598, 2),
  (⟨"JealousByCalendarModel", "judge", "(I)I"⟩, prog_9_method_111_code, 6, some .int, false, 155, 1603, 1601, 1602, 2),
  (⟨"JealousByCalendarModel", "clear", "()I"⟩, prog_9_method_112_code, 2, some .int, false, 155, 1607, 1605, 1606, 1),
  (⟨"JealousByCalendarModel", "lots", "(II)I"⟩, prog_9_method_113_code, 8, some .int, false, 155, 1611, 1609, 1610, 3),
  (⟨"JealousByCalendarModel", "count", "(I)I"⟩, prog_9_method_114_code, 4, some .int, false, 155, 1618, 1616, 1617, 2),
  (⟨"java/lang/Integer", "bitCount", "(I)I"⟩, prog_10_method_49_code, 1, some .int, true, 157, 832, 831, 0, 1)]
def qmiOk (q : QMI) : Bool := match q with
  | (y, bytes, maxL, ret, st, i0, i1, i2, i3, n) =>
    decide (lw_tbl[i0]? = some (.initialized y.cls)) && decide (lw_tbl[i2]? = some (if st = true then .static y else .instanceMethod y)) &&
    (st || decide (lw_tbl[i3]? = some (.selects y.cls y y))) && plainFor y && decide (y.cls ≠ "java/lang/invoke/MethodHandle") && decide (y.cls ≠ "java/lang/invoke/VarHandle") && decide (y.name ≠ "<init>") &&
    decide ((parseMethodDescriptor y.desc).map (fun d => d.parameters.length + (if st = true then 0 else 1)) = some n) && decide (maxL ≤ 40)
set_option maxRecDepth 20000 in
theorem qmi0_ok : ∀ q ∈ qmi0, qmiOk q = true := by decide +kernel
set_option maxRecDepth 20000 in
theorem qmi1_ok : ∀ q ∈ qmi1, qmiOk q = true := by decide +kernel
set_option maxRecDepth 20000 in
theorem qmi2_ok : ∀ q ∈ qmi2, qmiOk q = true := by decide +kernel
set_option maxRecDepth 20000 in
theorem qmi3_ok : ∀ q ∈ qmi3, qmiOk q = true := by decide +kernel
set_option maxRecDepth 20000 in
theorem qmi4_ok : ∀ q ∈ qmi4, qmiOk q = true := by decide +kernel
set_option maxRecDepth 20000 in
theorem qmi5_ok : ∀ q ∈ qmi5, qmiOk q = true := by decide +kernel
set_option maxRecDepth 20000 in
theorem qmi6_ok : ∀ q ∈ qmi6, qmiOk q = true := by decide +kernel
set_option maxRecDepth 100000 in
theorem qmi0_cd : ∀ q ∈ qmi0, Cond.code q.1 q.2.1 q.2.2.1 q.2.2.2.1 ∈ lw_tbl := by
  unfold qmi0
  refine List.forall_mem_cons.mpr ⟨List.mem_of_getElem? (i := 449) rfl, ?_⟩
  refine List.forall_mem_cons.mpr ⟨List.mem_of_getElem? (i := 490) rfl, ?_⟩
  refine List.forall_mem_cons.mpr ⟨List.mem_of_getElem? (i := 559) rfl, ?_⟩
  refine List.forall_mem_cons.mpr ⟨List.mem_of_getElem? (i := 517) rfl, ?_⟩
  refine List.forall_mem_cons.mpr ⟨List.mem_of_getElem? (i := 493) rfl, ?_⟩
  refine List.forall_mem_cons.mpr ⟨List.mem_of_getElem? (i := 496) rfl, ?_⟩
  refine List.forall_mem_cons.mpr ⟨List.mem_of_getElem? (i := 445) rfl, ?_⟩
  refine List.forall_mem_cons.mpr ⟨List.mem_of_getElem? (i := 546) rfl, ?_⟩
  refine List.forall_mem_cons.mpr ⟨List.mem_of_getElem? (i := 542) rfl, ?_⟩
  refine List.forall_mem_cons.mpr ⟨List.mem_of_getElem? (i := 441) rfl, ?_⟩
  refine List.forall_mem_cons.mpr ⟨List.mem_of_getElem? (i := 471) rfl, ?_⟩
  refine List.forall_mem_cons.mpr ⟨List.mem_of_getElem? (i := 504) rfl, ?_⟩
  refine List.forall_mem_cons.mpr ⟨List.mem_of_getElem? (i := 486) rfl, ?_⟩
  refine List.forall_mem_cons.mpr ⟨List.mem_of_getElem? (i := 600) rfl, ?_⟩
  refine List.forall_mem_cons.mpr ⟨List.mem_of_getElem? (i := 874) rfl, ?_⟩
  refine List.forall_mem_cons.mpr ⟨List.mem_of_getElem? (i := 670) rfl, ?_⟩
  refine List.forall_mem_cons.mpr ⟨List.mem_of_getElem? (i := 604) rfl, ?_⟩
  refine List.forall_mem_cons.mpr ⟨List.mem_of_getElem? (i := 513) rfl, ?_⟩
  refine List.forall_mem_cons.mpr ⟨List.mem_of_getElem? (i := 961) rfl, ?_⟩
  refine List.forall_mem_cons.mpr ⟨List.mem_of_getElem? (i := 508) rfl, ?_⟩
  refine List.forall_mem_cons.mpr ⟨List.mem_of_getElem? (i := 521) rfl, ?_⟩
  refine List.forall_mem_cons.mpr ⟨List.mem_of_getElem? (i := 538) rfl, ?_⟩
  refine List.forall_mem_cons.mpr ⟨List.mem_of_getElem? (i := 995) rfl, ?_⟩
  refine List.forall_mem_cons.mpr ⟨List.mem_of_getElem? (i := 632) rfl, ?_⟩
  refine List.forall_mem_cons.mpr ⟨List.mem_of_getElem? (i := 628) rfl, ?_⟩
  refine List.forall_mem_cons.mpr ⟨List.mem_of_getElem? (i := 624) rfl, ?_⟩
  refine List.forall_mem_cons.mpr ⟨List.mem_of_getElem? (i := 756) rfl, ?_⟩
  refine List.forall_mem_cons.mpr ⟨List.mem_of_getElem? (i := 662) rfl, ?_⟩
  refine List.forall_mem_cons.mpr ⟨List.mem_of_getElem? (i := 666) rfl, ?_⟩
  refine List.forall_mem_cons.mpr ⟨List.mem_of_getElem? (i := 674) rfl, ?_⟩
  refine List.forall_mem_cons.mpr ⟨List.mem_of_getElem? (i := 680) rfl, ?_⟩
  refine List.forall_mem_cons.mpr ⟨List.mem_of_getElem? (i := 685) rfl, ?_⟩
  refine List.forall_mem_cons.mpr ⟨List.mem_of_getElem? (i := 693) rfl, ?_⟩
  refine List.forall_mem_cons.mpr ⟨List.mem_of_getElem? (i := 789) rfl, ?_⟩
  refine List.forall_mem_cons.mpr ⟨List.mem_of_getElem? (i := 813) rfl, ?_⟩
  refine List.forall_mem_cons.mpr ⟨List.mem_of_getElem? (i := 793) rfl, ?_⟩
  refine List.forall_mem_cons.mpr ⟨List.mem_of_getElem? (i := 796) rfl, ?_⟩
  refine List.forall_mem_cons.mpr ⟨List.mem_of_getElem? (i := 800) rfl, ?_⟩
  refine List.forall_mem_cons.mpr ⟨List.mem_of_getElem? (i := 805) rfl, ?_⟩
  refine List.forall_mem_cons.mpr ⟨List.mem_of_getElem? (i := 829) rfl, ?_⟩
  exact fun _ h => absurd h List.not_mem_nil
set_option maxRecDepth 100000 in
theorem qmi1_cd : ∀ q ∈ qmi1, Cond.code q.1 q.2.1 q.2.2.1 q.2.2.2.1 ∈ lw_tbl := by
  unfold qmi1
  refine List.forall_mem_cons.mpr ⟨List.mem_of_getElem? (i := 825) rfl, ?_⟩
  refine List.forall_mem_cons.mpr ⟨List.mem_of_getElem? (i := 839) rfl, ?_⟩
  refine List.forall_mem_cons.mpr ⟨List.mem_of_getElem? (i := 769) rfl, ?_⟩
  refine List.forall_mem_cons.mpr ⟨List.mem_of_getElem? (i := 773) rfl, ?_⟩
  refine List.forall_mem_cons.mpr ⟨List.mem_of_getElem? (i := 777) rfl, ?_⟩
  refine List.forall_mem_cons.mpr ⟨List.mem_of_getElem? (i := 781) rfl, ?_⟩
  refine List.forall_mem_cons.mpr ⟨List.mem_of_getElem? (i := 969) rfl, ?_⟩
  refine List.forall_mem_cons.mpr ⟨List.mem_of_getElem? (i := 978) rfl, ?_⟩
  refine List.forall_mem_cons.mpr ⟨List.mem_of_getElem? (i := 937) rfl, ?_⟩
  refine List.forall_mem_cons.mpr ⟨List.mem_of_getElem? (i := 879) rfl, ?_⟩
  refine List.forall_mem_cons.mpr ⟨List.mem_of_getElem? (i := 689) rfl, ?_⟩
  refine List.forall_mem_cons.mpr ⟨List.mem_of_getElem? (i := 697) rfl, ?_⟩
  refine List.forall_mem_cons.mpr ⟨List.mem_of_getElem? (i := 1004) rfl, ?_⟩
  refine List.forall_mem_cons.mpr ⟨List.mem_of_getElem? (i := 1008) rfl, ?_⟩
  refine List.forall_mem_cons.mpr ⟨List.mem_of_getElem? (i := 1020) rfl, ?_⟩
  refine List.forall_mem_cons.mpr ⟨List.mem_of_getElem? (i := 1015) rfl, ?_⟩
  refine List.forall_mem_cons.mpr ⟨List.mem_of_getElem? (i := 1027) rfl, ?_⟩
  refine List.forall_mem_cons.mpr ⟨List.mem_of_getElem? (i := 411) rfl, ?_⟩
  refine List.forall_mem_cons.mpr ⟨List.mem_of_getElem? (i := 419) rfl, ?_⟩
  refine List.forall_mem_cons.mpr ⟨List.mem_of_getElem? (i := 551) rfl, ?_⟩
  refine List.forall_mem_cons.mpr ⟨List.mem_of_getElem? (i := 555) rfl, ?_⟩
  refine List.forall_mem_cons.mpr ⟨List.mem_of_getElem? (i := 564) rfl, ?_⟩
  refine List.forall_mem_cons.mpr ⟨List.mem_of_getElem? (i := 568) rfl, ?_⟩
  refine List.forall_mem_cons.mpr ⟨List.mem_of_getElem? (i := 572) rfl, ?_⟩
  refine List.forall_mem_cons.mpr ⟨List.mem_of_getElem? (i := 580) rfl, ?_⟩
  refine List.forall_mem_cons.mpr ⟨List.mem_of_getElem? (i := 584) rfl, ?_⟩
  refine List.forall_mem_cons.mpr ⟨List.mem_of_getElem? (i := 588) rfl, ?_⟩
  refine List.forall_mem_cons.mpr ⟨List.mem_of_getElem? (i := 592) rfl, ?_⟩
  refine List.forall_mem_cons.mpr ⟨List.mem_of_getElem? (i := 596) rfl, ?_⟩
  refine List.forall_mem_cons.mpr ⟨List.mem_of_getElem? (i := 608) rfl, ?_⟩
  refine List.forall_mem_cons.mpr ⟨List.mem_of_getElem? (i := 612) rfl, ?_⟩
  refine List.forall_mem_cons.mpr ⟨List.mem_of_getElem? (i := 616) rfl, ?_⟩
  refine List.forall_mem_cons.mpr ⟨List.mem_of_getElem? (i := 645) rfl, ?_⟩
  refine List.forall_mem_cons.mpr ⟨List.mem_of_getElem? (i := 705) rfl, ?_⟩
  refine List.forall_mem_cons.mpr ⟨List.mem_of_getElem? (i := 720) rfl, ?_⟩
  refine List.forall_mem_cons.mpr ⟨List.mem_of_getElem? (i := 736) rfl, ?_⟩
  refine List.forall_mem_cons.mpr ⟨List.mem_of_getElem? (i := 761) rfl, ?_⟩
  refine List.forall_mem_cons.mpr ⟨List.mem_of_getElem? (i := 785) rfl, ?_⟩
  refine List.forall_mem_cons.mpr ⟨List.mem_of_getElem? (i := 809) rfl, ?_⟩
  refine List.forall_mem_cons.mpr ⟨List.mem_of_getElem? (i := 817) rfl, ?_⟩
  exact fun _ h => absurd h List.not_mem_nil
set_option maxRecDepth 100000 in
theorem qmi2_cd : ∀ q ∈ qmi2, Cond.code q.1 q.2.1 q.2.2.1 q.2.2.2.1 ∈ lw_tbl := by
  unfold qmi2
  refine List.forall_mem_cons.mpr ⟨List.mem_of_getElem? (i := 821) rfl, ?_⟩
  refine List.forall_mem_cons.mpr ⟨List.mem_of_getElem? (i := 843) rfl, ?_⟩
  refine List.forall_mem_cons.mpr ⟨List.mem_of_getElem? (i := 856) rfl, ?_⟩
  refine List.forall_mem_cons.mpr ⟨List.mem_of_getElem? (i := 860) rfl, ?_⟩
  refine List.forall_mem_cons.mpr ⟨List.mem_of_getElem? (i := 870) rfl, ?_⟩
  refine List.forall_mem_cons.mpr ⟨List.mem_of_getElem? (i := 883) rfl, ?_⟩
  refine List.forall_mem_cons.mpr ⟨List.mem_of_getElem? (i := 890) rfl, ?_⟩
  refine List.forall_mem_cons.mpr ⟨List.mem_of_getElem? (i := 897) rfl, ?_⟩
  refine List.forall_mem_cons.mpr ⟨List.mem_of_getElem? (i := 902) rfl, ?_⟩
  refine List.forall_mem_cons.mpr ⟨List.mem_of_getElem? (i := 906) rfl, ?_⟩
  refine List.forall_mem_cons.mpr ⟨List.mem_of_getElem? (i := 912) rfl, ?_⟩
  refine List.forall_mem_cons.mpr ⟨List.mem_of_getElem? (i := 920) rfl, ?_⟩
  refine List.forall_mem_cons.mpr ⟨List.mem_of_getElem? (i := 924) rfl, ?_⟩
  refine List.forall_mem_cons.mpr ⟨List.mem_of_getElem? (i := 933) rfl, ?_⟩
  refine List.forall_mem_cons.mpr ⟨List.mem_of_getElem? (i := 948) rfl, ?_⟩
  refine List.forall_mem_cons.mpr ⟨List.mem_of_getElem? (i := 957) rfl, ?_⟩
  refine List.forall_mem_cons.mpr ⟨List.mem_of_getElem? (i := 965) rfl, ?_⟩
  refine List.forall_mem_cons.mpr ⟨List.mem_of_getElem? (i := 974) rfl, ?_⟩
  refine List.forall_mem_cons.mpr ⟨List.mem_of_getElem? (i := 982) rfl, ?_⟩
  refine List.forall_mem_cons.mpr ⟨List.mem_of_getElem? (i := 986) rfl, ?_⟩
  refine List.forall_mem_cons.mpr ⟨List.mem_of_getElem? (i := 991) rfl, ?_⟩
  refine List.forall_mem_cons.mpr ⟨List.mem_of_getElem? (i := 1000) rfl, ?_⟩
  refine List.forall_mem_cons.mpr ⟨List.mem_of_getElem? (i := 1033) rfl, ?_⟩
  refine List.forall_mem_cons.mpr ⟨List.mem_of_getElem? (i := 1049) rfl, ?_⟩
  refine List.forall_mem_cons.mpr ⟨List.mem_of_getElem? (i := 415) rfl, ?_⟩
  refine List.forall_mem_cons.mpr ⟨List.mem_of_getElem? (i := 847) rfl, ?_⟩
  refine List.forall_mem_cons.mpr ⟨List.mem_of_getElem? (i := 649) rfl, ?_⟩
  refine List.forall_mem_cons.mpr ⟨List.mem_of_getElem? (i := 744) rfl, ?_⟩
  refine List.forall_mem_cons.mpr ⟨List.mem_of_getElem? (i := 740) rfl, ?_⟩
  refine List.forall_mem_cons.mpr ⟨List.mem_of_getElem? (i := 952) rfl, ?_⟩
  refine List.forall_mem_cons.mpr ⟨List.mem_of_getElem? (i := 765) rfl, ?_⟩
  refine List.forall_mem_cons.mpr ⟨List.mem_of_getElem? (i := 464) rfl, ?_⟩
  refine List.forall_mem_cons.mpr ⟨List.mem_of_getElem? (i := 482) rfl, ?_⟩
  refine List.forall_mem_cons.mpr ⟨List.mem_of_getElem? (i := 467) rfl, ?_⟩
  refine List.forall_mem_cons.mpr ⟨List.mem_of_getElem? (i := 524) rfl, ?_⟩
  refine List.forall_mem_cons.mpr ⟨List.mem_of_getElem? (i := 576) rfl, ?_⟩
  refine List.forall_mem_cons.mpr ⟨List.mem_of_getElem? (i := 423) rfl, ?_⟩
  refine List.forall_mem_cons.mpr ⟨List.mem_of_getElem? (i := 437) rfl, ?_⟩
  refine List.forall_mem_cons.mpr ⟨List.mem_of_getElem? (i := 453) rfl, ?_⟩
  refine List.forall_mem_cons.mpr ⟨List.mem_of_getElem? (i := 461) rfl, ?_⟩
  exact fun _ h => absurd h List.not_mem_nil
set_option maxRecDepth 100000 in
theorem qmi3_cd : ∀ q ∈ qmi3, Cond.code q.1 q.2.1 q.2.2.1 q.2.2.2.1 ∈ lw_tbl := by
  unfold qmi3
  refine List.forall_mem_cons.mpr ⟨List.mem_of_getElem? (i := 475) rfl, ?_⟩
  refine List.forall_mem_cons.mpr ⟨List.mem_of_getElem? (i := 479) rfl, ?_⟩
  refine List.forall_mem_cons.mpr ⟨List.mem_of_getElem? (i := 500) rfl, ?_⟩
  refine List.forall_mem_cons.mpr ⟨List.mem_of_getElem? (i := 534) rfl, ?_⟩
  refine List.forall_mem_cons.mpr ⟨List.mem_of_getElem? (i := 430) rfl, ?_⟩
  refine List.forall_mem_cons.mpr ⟨List.mem_of_getElem? (i := 427) rfl, ?_⟩
  refine List.forall_mem_cons.mpr ⟨List.mem_of_getElem? (i := 433) rfl, ?_⟩
  refine List.forall_mem_cons.mpr ⟨List.mem_of_getElem? (i := 457) rfl, ?_⟩
  refine List.forall_mem_cons.mpr ⟨List.mem_of_getElem? (i := 658) rfl, ?_⟩
  refine List.forall_mem_cons.mpr ⟨List.mem_of_getElem? (i := 748) rfl, ?_⟩
  refine List.forall_mem_cons.mpr ⟨List.mem_of_getElem? (i := 752) rfl, ?_⟩
  refine List.forall_mem_cons.mpr ⟨List.mem_of_getElem? (i := 928) rfl, ?_⟩
  refine List.forall_mem_cons.mpr ⟨List.mem_of_getElem? (i := 852) rfl, ?_⟩
  refine List.forall_mem_cons.mpr ⟨List.mem_of_getElem? (i := 863) rfl, ?_⟩
  refine List.forall_mem_cons.mpr ⟨List.mem_of_getElem? (i := 866) rfl, ?_⟩
  refine List.forall_mem_cons.mpr ⟨List.mem_of_getElem? (i := 916) rfl, ?_⟩
  refine List.forall_mem_cons.mpr ⟨List.mem_of_getElem? (i := 1041) rfl, ?_⟩
  refine List.forall_mem_cons.mpr ⟨List.mem_of_getElem? (i := 1037) rfl, ?_⟩
  refine List.forall_mem_cons.mpr ⟨List.mem_of_getElem? (i := 1045) rfl, ?_⟩
  refine List.forall_mem_cons.mpr ⟨List.mem_of_getElem? (i := 941) rfl, ?_⟩
  refine List.forall_mem_cons.mpr ⟨List.mem_of_getElem? (i := 641) rfl, ?_⟩
  refine List.forall_mem_cons.mpr ⟨List.mem_of_getElem? (i := 709) rfl, ?_⟩
  refine List.forall_mem_cons.mpr ⟨List.mem_of_getElem? (i := 654) rfl, ?_⟩
  refine List.forall_mem_cons.mpr ⟨List.mem_of_getElem? (i := 701) rfl, ?_⟩
  refine List.forall_mem_cons.mpr ⟨List.mem_of_getElem? (i := 716) rfl, ?_⟩
  refine List.forall_mem_cons.mpr ⟨List.mem_of_getElem? (i := 728) rfl, ?_⟩
  refine List.forall_mem_cons.mpr ⟨List.mem_of_getElem? (i := 724) rfl, ?_⟩
  refine List.forall_mem_cons.mpr ⟨List.mem_of_getElem? (i := 732) rfl, ?_⟩
  refine List.forall_mem_cons.mpr ⟨List.mem_of_getElem? (i := 620) rfl, ?_⟩
  refine List.forall_mem_cons.mpr ⟨List.mem_of_getElem? (i := 886) rfl, ?_⟩
  refine List.forall_mem_cons.mpr ⟨List.mem_of_getElem? (i := 893) rfl, ?_⟩
  refine List.forall_mem_cons.mpr ⟨List.mem_of_getElem? (i := 527) rfl, ?_⟩
  refine List.forall_mem_cons.mpr ⟨List.mem_of_getElem? (i := 1183) rfl, ?_⟩
  refine List.forall_mem_cons.mpr ⟨List.mem_of_getElem? (i := 1382) rfl, ?_⟩
  refine List.forall_mem_cons.mpr ⟨List.mem_of_getElem? (i := 1439) rfl, ?_⟩
  refine List.forall_mem_cons.mpr ⟨List.mem_of_getElem? (i := 1206) rfl, ?_⟩
  refine List.forall_mem_cons.mpr ⟨List.mem_of_getElem? (i := 1179) rfl, ?_⟩
  refine List.forall_mem_cons.mpr ⟨List.mem_of_getElem? (i := 1335) rfl, ?_⟩
  refine List.forall_mem_cons.mpr ⟨List.mem_of_getElem? (i := 1370) rfl, ?_⟩
  refine List.forall_mem_cons.mpr ⟨List.mem_of_getElem? (i := 1225) rfl, ?_⟩
  exact fun _ h => absurd h List.not_mem_nil
set_option maxRecDepth 100000 in
theorem qmi4_cd : ∀ q ∈ qmi4, Cond.code q.1 q.2.1 q.2.2.1 q.2.2.2.1 ∈ lw_tbl := by
  unfold qmi4
  refine List.forall_mem_cons.mpr ⟨List.mem_of_getElem? (i := 1233) rfl, ?_⟩
  refine List.forall_mem_cons.mpr ⟨List.mem_of_getElem? (i := 1176) rfl, ?_⟩
  refine List.forall_mem_cons.mpr ⟨List.mem_of_getElem? (i := 1195) rfl, ?_⟩
  refine List.forall_mem_cons.mpr ⟨List.mem_of_getElem? (i := 1203) rfl, ?_⟩
  refine List.forall_mem_cons.mpr ⟨List.mem_of_getElem? (i := 1199) rfl, ?_⟩
  refine List.forall_mem_cons.mpr ⟨List.mem_of_getElem? (i := 1191) rfl, ?_⟩
  refine List.forall_mem_cons.mpr ⟨List.mem_of_getElem? (i := 1222) rfl, ?_⟩
  refine List.forall_mem_cons.mpr ⟨List.mem_of_getElem? (i := 1187) rfl, ?_⟩
  refine List.forall_mem_cons.mpr ⟨List.mem_of_getElem? (i := 1214) rfl, ?_⟩
  refine List.forall_mem_cons.mpr ⟨List.mem_of_getElem? (i := 1218) rfl, ?_⟩
  refine List.forall_mem_cons.mpr ⟨List.mem_of_getElem? (i := 1210) rfl, ?_⟩
  refine List.forall_mem_cons.mpr ⟨List.mem_of_getElem? (i := 1304) rfl, ?_⟩
  refine List.forall_mem_cons.mpr ⟨List.mem_of_getElem? (i := 1268) rfl, ?_⟩
  refine List.forall_mem_cons.mpr ⟨List.mem_of_getElem? (i := 1272) rfl, ?_⟩
  refine List.forall_mem_cons.mpr ⟨List.mem_of_getElem? (i := 1276) rfl, ?_⟩
  refine List.forall_mem_cons.mpr ⟨List.mem_of_getElem? (i := 1249) rfl, ?_⟩
  refine List.forall_mem_cons.mpr ⟨List.mem_of_getElem? (i := 1257) rfl, ?_⟩
  refine List.forall_mem_cons.mpr ⟨List.mem_of_getElem? (i := 1245) rfl, ?_⟩
  refine List.forall_mem_cons.mpr ⟨List.mem_of_getElem? (i := 1241) rfl, ?_⟩
  refine List.forall_mem_cons.mpr ⟨List.mem_of_getElem? (i := 1288) rfl, ?_⟩
  refine List.forall_mem_cons.mpr ⟨List.mem_of_getElem? (i := 1229) rfl, ?_⟩
  refine List.forall_mem_cons.mpr ⟨List.mem_of_getElem? (i := 1237) rfl, ?_⟩
  refine List.forall_mem_cons.mpr ⟨List.mem_of_getElem? (i := 1260) rfl, ?_⟩
  refine List.forall_mem_cons.mpr ⟨List.mem_of_getElem? (i := 1253) rfl, ?_⟩
  refine List.forall_mem_cons.mpr ⟨List.mem_of_getElem? (i := 1264) rfl, ?_⟩
  refine List.forall_mem_cons.mpr ⟨List.mem_of_getElem? (i := 1280) rfl, ?_⟩
  refine List.forall_mem_cons.mpr ⟨List.mem_of_getElem? (i := 1284) rfl, ?_⟩
  refine List.forall_mem_cons.mpr ⟨List.mem_of_getElem? (i := 1292) rfl, ?_⟩
  refine List.forall_mem_cons.mpr ⟨List.mem_of_getElem? (i := 1296) rfl, ?_⟩
  refine List.forall_mem_cons.mpr ⟨List.mem_of_getElem? (i := 1300) rfl, ?_⟩
  refine List.forall_mem_cons.mpr ⟨List.mem_of_getElem? (i := 1308) rfl, ?_⟩
  refine List.forall_mem_cons.mpr ⟨List.mem_of_getElem? (i := 1320) rfl, ?_⟩
  refine List.forall_mem_cons.mpr ⟨List.mem_of_getElem? (i := 1332) rfl, ?_⟩
  refine List.forall_mem_cons.mpr ⟨List.mem_of_getElem? (i := 1328) rfl, ?_⟩
  refine List.forall_mem_cons.mpr ⟨List.mem_of_getElem? (i := 1316) rfl, ?_⟩
  refine List.forall_mem_cons.mpr ⟨List.mem_of_getElem? (i := 1312) rfl, ?_⟩
  refine List.forall_mem_cons.mpr ⟨List.mem_of_getElem? (i := 1324) rfl, ?_⟩
  refine List.forall_mem_cons.mpr ⟨List.mem_of_getElem? (i := 1355) rfl, ?_⟩
  refine List.forall_mem_cons.mpr ⟨List.mem_of_getElem? (i := 1347) rfl, ?_⟩
  refine List.forall_mem_cons.mpr ⟨List.mem_of_getElem? (i := 1351) rfl, ?_⟩
  exact fun _ h => absurd h List.not_mem_nil
set_option maxRecDepth 100000 in
theorem qmi5_cd : ∀ q ∈ qmi5, Cond.code q.1 q.2.1 q.2.2.1 q.2.2.2.1 ∈ lw_tbl := by
  unfold qmi5
  refine List.forall_mem_cons.mpr ⟨List.mem_of_getElem? (i := 1343) rfl, ?_⟩
  refine List.forall_mem_cons.mpr ⟨List.mem_of_getElem? (i := 1622) rfl, ?_⟩
  refine List.forall_mem_cons.mpr ⟨List.mem_of_getElem? (i := 1391) rfl, ?_⟩
  refine List.forall_mem_cons.mpr ⟨List.mem_of_getElem? (i := 1339) rfl, ?_⟩
  refine List.forall_mem_cons.mpr ⟨List.mem_of_getElem? (i := 1359) rfl, ?_⟩
  refine List.forall_mem_cons.mpr ⟨List.mem_of_getElem? (i := 1363) rfl, ?_⟩
  refine List.forall_mem_cons.mpr ⟨List.mem_of_getElem? (i := 1374) rfl, ?_⟩
  refine List.forall_mem_cons.mpr ⟨List.mem_of_getElem? (i := 1367) rfl, ?_⟩
  refine List.forall_mem_cons.mpr ⟨List.mem_of_getElem? (i := 1387) rfl, ?_⟩
  refine List.forall_mem_cons.mpr ⟨List.mem_of_getElem? (i := 1378) rfl, ?_⟩
  refine List.forall_mem_cons.mpr ⟨List.mem_of_getElem? (i := 1395) rfl, ?_⟩
  refine List.forall_mem_cons.mpr ⟨List.mem_of_getElem? (i := 1407) rfl, ?_⟩
  refine List.forall_mem_cons.mpr ⟨List.mem_of_getElem? (i := 1403) rfl, ?_⟩
  refine List.forall_mem_cons.mpr ⟨List.mem_of_getElem? (i := 1399) rfl, ?_⟩
  refine List.forall_mem_cons.mpr ⟨List.mem_of_getElem? (i := 1420) rfl, ?_⟩
  refine List.forall_mem_cons.mpr ⟨List.mem_of_getElem? (i := 1415) rfl, ?_⟩
  refine List.forall_mem_cons.mpr ⟨List.mem_of_getElem? (i := 1411) rfl, ?_⟩
  refine List.forall_mem_cons.mpr ⟨List.mem_of_getElem? (i := 1427) rfl, ?_⟩
  refine List.forall_mem_cons.mpr ⟨List.mem_of_getElem? (i := 1424) rfl, ?_⟩
  refine List.forall_mem_cons.mpr ⟨List.mem_of_getElem? (i := 1435) rfl, ?_⟩
  refine List.forall_mem_cons.mpr ⟨List.mem_of_getElem? (i := 1448) rfl, ?_⟩
  refine List.forall_mem_cons.mpr ⟨List.mem_of_getElem? (i := 1444) rfl, ?_⟩
  refine List.forall_mem_cons.mpr ⟨List.mem_of_getElem? (i := 1431) rfl, ?_⟩
  refine List.forall_mem_cons.mpr ⟨List.mem_of_getElem? (i := 1456) rfl, ?_⟩
  refine List.forall_mem_cons.mpr ⟨List.mem_of_getElem? (i := 1460) rfl, ?_⟩
  refine List.forall_mem_cons.mpr ⟨List.mem_of_getElem? (i := 1452) rfl, ?_⟩
  refine List.forall_mem_cons.mpr ⟨List.mem_of_getElem? (i := 1468) rfl, ?_⟩
  refine List.forall_mem_cons.mpr ⟨List.mem_of_getElem? (i := 1464) rfl, ?_⟩
  refine List.forall_mem_cons.mpr ⟨List.mem_of_getElem? (i := 1478) rfl, ?_⟩
  refine List.forall_mem_cons.mpr ⟨List.mem_of_getElem? (i := 1475) rfl, ?_⟩
  refine List.forall_mem_cons.mpr ⟨List.mem_of_getElem? (i := 1472) rfl, ?_⟩
  refine List.forall_mem_cons.mpr ⟨List.mem_of_getElem? (i := 1482) rfl, ?_⟩
  refine List.forall_mem_cons.mpr ⟨List.mem_of_getElem? (i := 1495) rfl, ?_⟩
  refine List.forall_mem_cons.mpr ⟨List.mem_of_getElem? (i := 1491) rfl, ?_⟩
  refine List.forall_mem_cons.mpr ⟨List.mem_of_getElem? (i := 1487) rfl, ?_⟩
  refine List.forall_mem_cons.mpr ⟨List.mem_of_getElem? (i := 1503) rfl, ?_⟩
  refine List.forall_mem_cons.mpr ⟨List.mem_of_getElem? (i := 1507) rfl, ?_⟩
  refine List.forall_mem_cons.mpr ⟨List.mem_of_getElem? (i := 1499) rfl, ?_⟩
  refine List.forall_mem_cons.mpr ⟨List.mem_of_getElem? (i := 1511) rfl, ?_⟩
  refine List.forall_mem_cons.mpr ⟨List.mem_of_getElem? (i := 1519) rfl, ?_⟩
  exact fun _ h => absurd h List.not_mem_nil
set_option maxRecDepth 100000 in
theorem qmi6_cd : ∀ q ∈ qmi6, Cond.code q.1 q.2.1 q.2.2.1 q.2.2.2.1 ∈ lw_tbl := by
  unfold qmi6
  refine List.forall_mem_cons.mpr ⟨List.mem_of_getElem? (i := 1515) rfl, ?_⟩
  refine List.forall_mem_cons.mpr ⟨List.mem_of_getElem? (i := 1527) rfl, ?_⟩
  refine List.forall_mem_cons.mpr ⟨List.mem_of_getElem? (i := 1523) rfl, ?_⟩
  refine List.forall_mem_cons.mpr ⟨List.mem_of_getElem? (i := 1535) rfl, ?_⟩
  refine List.forall_mem_cons.mpr ⟨List.mem_of_getElem? (i := 1531) rfl, ?_⟩
  refine List.forall_mem_cons.mpr ⟨List.mem_of_getElem? (i := 1543) rfl, ?_⟩
  refine List.forall_mem_cons.mpr ⟨List.mem_of_getElem? (i := 1539) rfl, ?_⟩
  refine List.forall_mem_cons.mpr ⟨List.mem_of_getElem? (i := 1547) rfl, ?_⟩
  refine List.forall_mem_cons.mpr ⟨List.mem_of_getElem? (i := 1551) rfl, ?_⟩
  refine List.forall_mem_cons.mpr ⟨List.mem_of_getElem? (i := 1559) rfl, ?_⟩
  refine List.forall_mem_cons.mpr ⟨List.mem_of_getElem? (i := 1555) rfl, ?_⟩
  refine List.forall_mem_cons.mpr ⟨List.mem_of_getElem? (i := 1567) rfl, ?_⟩
  refine List.forall_mem_cons.mpr ⟨List.mem_of_getElem? (i := 1563) rfl, ?_⟩
  refine List.forall_mem_cons.mpr ⟨List.mem_of_getElem? (i := 1575) rfl, ?_⟩
  refine List.forall_mem_cons.mpr ⟨List.mem_of_getElem? (i := 1571) rfl, ?_⟩
  refine List.forall_mem_cons.mpr ⟨List.mem_of_getElem? (i := 1583) rfl, ?_⟩
  refine List.forall_mem_cons.mpr ⟨List.mem_of_getElem? (i := 1579) rfl, ?_⟩
  refine List.forall_mem_cons.mpr ⟨List.mem_of_getElem? (i := 1591) rfl, ?_⟩
  refine List.forall_mem_cons.mpr ⟨List.mem_of_getElem? (i := 1587) rfl, ?_⟩
  refine List.forall_mem_cons.mpr ⟨List.mem_of_getElem? (i := 1595) rfl, ?_⟩
  refine List.forall_mem_cons.mpr ⟨List.mem_of_getElem? (i := 1599) rfl, ?_⟩
  refine List.forall_mem_cons.mpr ⟨List.mem_of_getElem? (i := 1603) rfl, ?_⟩
  refine List.forall_mem_cons.mpr ⟨List.mem_of_getElem? (i := 1607) rfl, ?_⟩
  refine List.forall_mem_cons.mpr ⟨List.mem_of_getElem? (i := 1611) rfl, ?_⟩
  refine List.forall_mem_cons.mpr ⟨List.mem_of_getElem? (i := 1618) rfl, ?_⟩
  refine List.forall_mem_cons.mpr ⟨List.mem_of_getElem? (i := 832) rfl, ?_⟩
  exact fun _ h => absurd h List.not_mem_nil
def qmis : List QMI := qmi0 ++ (qmi1 ++ (qmi2 ++ (qmi3 ++ (qmi4 ++ (qmi5 ++ (qmi6))))))
theorem qmis_ok : ∀ q ∈ qmis, qmiOk q = true ∧ Cond.code q.1 q.2.1 q.2.2.1 q.2.2.2.1 ∈ lw_tbl := by
  intro q h
  simp only [qmis, List.mem_append] at h
  rcases h with h | h | h | h | h | h | h
  · exact ⟨qmi0_ok q h, qmi0_cd q h⟩
  · exact ⟨qmi1_ok q h, qmi1_cd q h⟩
  · exact ⟨qmi2_ok q h, qmi2_cd q h⟩
  · exact ⟨qmi3_ok q h, qmi3_cd q h⟩
  · exact ⟨qmi4_ok q h, qmi4_cd q h⟩
  · exact ⟨qmi5_ok q h, qmi5_cd q h⟩
  · exact ⟨qmi6_ok q h, qmi6_cd q h⟩
def qmt : List (Nat × Nat × Nat × Bool × Nat) := [(0, 63, 104, false, 412), (0, 71, 116, false, 420), (0, 75, 117, false, 434), (0, 78, 9, true, 438), (0, 85, 111, false, 462), (0, 89, 10, true, 468), (0, 111, 11, true, 501), (0, 138, 2, true, 556), (0, 144, 17, true, 560), (0, 148, 112, false, 480), (0, 154, 12, true, 483), (0, 158, 19, true, 505), (0, 162, 115, false, 573), (0, 165, 20, true, 518), (0, 169, 21, true, 535), (0, 175, 13, true, 597), (0, 177, 16, true, 601), (0, 183, 148, false, 617), (0, 186, 106, false, 646), (0, 190, 142, false, 651), (0, 193, 128, false, 655), (0, 197, 27, true, 659), (0, 201, 15, true, 667), (0, 204, 29, true, 671), (0, 211, 50, true, 686), (0, 215, 143, false, 698), (0, 219, 141, false, 706), (0, 222, 144, false, 713), (0, 226, 146, false, 721), (0, 229, 147, false, 729), (0, 232, 108, false, 737), (0, 236, 129, false, 745), (0, 243, 110, false, 762), (0, 247, 42, true, 766), (0, 250, 44, true, 774), (0, 253, 45, true, 778), (0, 256, 33, true, 786), (0, 259, 37, true, 797), (0, 262, 34, true, 810), (0, 265, 107, false, 741), (0, 268, 40, true, 822), (0, 271, 113, false, 465), (0, 274, 105, false, 844), (0, 277, 132, false, 849), (0, 281, 133, false, 861), (0, 285, 14, true, 871), (0, 292, 49, true, 876), (0, 296, 149, false, 884), (0, 299, 150, false, 891), (0, 305, 25, true, 621), (0, 318, 135, false, 913), (0, 322, 131, false, 925), (0, 326, 114, false, 929), (0, 329, 48, true, 934), (0, 332, 139, false, 938), (0, 340, 109, false, 949), (0, 346, 265, false, 953), (0, 351, 18, true, 958), (0, 354, 46, true, 966), (0, 358, 47, true, 975), (0, 361, 23, true, 987), (0, 364, 22, true, 992), (0, 368, 52, true, 1001), (0, 371, 56, true, 1024), (0, 375, 137, false, 1034), (0, 378, 138, false, 1042), (0, 381, 24, true, 1050), (0, 387, 125, false, 424), (0, 390, 124, false, 428), (0, 393, 126, false, 431), (0, 396, 118, false, 450), (0, 399, 127, false, 454), (0, 402, 119, false, 458), (0, 405, 120, false, 472), (0, 408, 121, false, 476), (0, 412, 122, false, 497), (0, 415, 123, false, 531), (0, 418, 130, false, 749), (0, 422, 26, true, 753), (0, 426, 134, false, 864), (0, 430, 136, false, 1038), (0, 433, 140, false, 638), (0, 439, 145, false, 725), (2, 34, 6, true, 442), (2, 41, 0, true, 446), (2, 44, 1, true, 487), (2, 52, 13, false, 875), (2, 64, 10, false, 509), (2, 71, 3, true, 514), (2, 75, 17, false, 510), (2, 82, 114, true, 522), (2, 89, 151, true, 525), (2, 96, 8, true, 539), (2, 108, 7, true, 633), (2, 111, 2, true, 634), (2, 114, 23, false, 629), (2, 117, 11, false, 635), (2, 121, 20, false, 636), (2, 125, 24, false, 625), (2, 128, 21, false, 637), (1, 34, 4, false, 491), (1, 38, 5, false, 494), (6, 31, 53, false, 1005), (6, 35, 54, false, 1017), (6, 38, 21, true, 1023), (6, 41, 23, true, 1009), (6, 45, 11, true, 1010), (6, 49, 114, true, 1011), (6, 56, 55, false, 1012), (6, 60, 20, true, 1016), (6, 64, 10, true, 1021), (6, 68, 7, true, 1022), (6, 80, 151, true, 1029), (3, 28, 7, false, 543), (4, 38, 10, true, 757), (4, 56, 28, false, 663), (4, 66, 11, true, 675), (4, 76, 2, true, 676), (4, 82, 30, false, 677), (4, 89, 31, false, 682), (4, 93, 3, true, 681), (4, 97, 32, false, 690), (4, 100, 35, false, 790), (4, 110, 36, false, 794), (4, 114, 33, false, 801), (4, 117, 38, false, 802), (4, 126, 39, false, 826), (4, 130, 265, false, 830), (4, 135, 41, false, 836), (4, 138, 43, false, 770), (4, 144, 51, false, 695), (8, 13, 57, false, 408), (8, 17, 161, false, 1173), (8, 18, 58, false, 416), (8, 22, 167, false, 1184), (8, 23, 59, false, 548), (8, 27, 185, false, 1277), (8, 28, 60, false, 552), (8, 31, 186, false, 1281), (8, 32, 61, false, 561), (8, 36, 187, false, 1289), (8, 37, 62, false, 565), (8, 41, 188, false, 1293), (8, 42, 63, false, 569), (8, 45, 189, false, 1297), (8, 46, 64, false, 577), (8, 49, 190, false, 1305), (8, 50, 65, false, 581), (8, 53, 172, false, 1265), (8, 54, 75, false, 733), (8, 57, 195, false, 1309), (8, 58, 76, false, 758), (8, 61, 196, false, 1321), (8, 62, 77, false, 782), (8, 65, 203, false, 1336), (8, 66, 78, false, 806), (8, 69, 204, false, 1356), (8, 70, 79, false, 814), (8, 73, 205, false, 1360), (8, 74, 80, false, 818), (8, 77, 207, false, 1364), (8, 78, 81, false, 840), (8, 81, 209, false, 1375), (8, 82, 82, false, 853), (8, 85, 210, false, 1392), (8, 86, 83, false, 857), (8, 89, 213, false, 1396), (8, 90, 84, false, 867), (8, 93, 216, false, 1408), (8, 94, 85, false, 880), (8, 97, 218, false, 1421), (8, 98, 72, false, 642), (8, 102, 222, false, 1428), (8, 103, 73, false, 702), (8, 106, 225, false, 1449), (8, 107, 74, false, 717), (8, 110, 227, false, 1461), (8, 111, 86, false, 887), (8, 115, 230, false, 1469), (8, 116, 87, false, 894), (8, 119, 231, false, 1479), (8, 120, 88, false, 899), (8, 123, 234, false, 1484), (8, 124, 90, false, 909), (8, 127, 237, false, 1496), (8, 128, 91, false, 917), (8, 131, 238, false, 1508), (8, 132, 92, false, 921), (8, 135, 240, false, 1512), (8, 136, 93, false, 930), (8, 139, 242, false, 1520), (8, 140, 94, false, 945), (8, 143, 244, false, 1528), (8, 144, 95, false, 954), (8, 147, 246, false, 1536), (8, 148, 96, false, 962), (8, 151, 247, false, 1544), (8, 152, 97, false, 971), (8, 155, 248, false, 1548), (8, 156, 98, false, 979), (8, 159, 250, false, 1552), (8, 160, 99, false, 983), (8, 163, 252, false, 1560), (8, 164, 100, false, 988), (8, 167, 254, false, 1568), (8, 168, 101, false, 997), (8, 171, 256, false, 1576), (8, 172, 102, false, 1030), (8, 175, 258, false, 1584), (8, 176, 103, false, 1046), (8, 179, 259, false, 1592), (8, 180, 69, false, 605), (8, 183, 260, false, 1596), (8, 184, 71, false, 613), (8, 187, 261, false, 1600), (8, 188, 70, false, 609), (8, 191, 262, false, 1604), (8, 192, 89, false, 903), (8, 195, 263, false, 1608), (8, 196, 66, false, 585), (8, 199, 173, false, 1269), (8, 200, 67, false, 589), (8, 203, 174, false, 1273), (8, 204, 68, false, 593), (8, 207, 264, false, 1615), (7, 94, 156, false, 1177), (7, 101, 152, false, 1180), (7, 108, 162, false, 1192), (7, 112, 155, false, 1204), (7, 116, 163, false, 1200), (7, 123, 164, false, 1196), (7, 126, 159, false, 1223), (7, 130, 180, false, 1226), (7, 134, 160, false, 1230), (7, 137, 181, false, 1234), (7, 140, 183, false, 1250), (7, 146, 184, false, 1261), (7, 149, 165, false, 1188), (7, 153, 170, false, 1207), (7, 157, 166, false, 1219), (7, 170, 168, false, 1211), (7, 174, 169, false, 1215), (7, 180, 175, false, 1246), (7, 183, 177, false, 1242), (7, 186, 178, false, 1238), (7, 189, 176, false, 1254), (7, 192, 182, false, 1258), (7, 196, 179, false, 1285), (7, 199, 171, false, 1301), (7, 205, 157, false, 1333), (7, 208, 191, false, 1317), (7, 212, 192, false, 1329), (7, 215, 194, false, 1313), (7, 218, 193, false, 1325), (7, 224, 197, false, 1352), (7, 227, 198, false, 1344), (7, 231, 199, false, 1348), (7, 234, 200, false, 1340), (7, 237, 158, false, 1368), (7, 240, 206, false, 1371), (7, 243, 202, false, 1388), (7, 246, 153, false, 1379), (7, 249, 208, false, 1384), (7, 252, 211, false, 1404), (7, 255, 212, false, 1400), (7, 259, 215, false, 1412), (7, 262, 214, false, 1417), (7, 265, 217, false, 1425), (7, 271, 220, false, 1445), (7, 274, 219, false, 1432), (7, 277, 154, false, 1436), (7, 281, 221, false, 1441), (7, 285, 223, false, 1453), (7, 288, 224, false, 1457), (7, 291, 226, false, 1465), (7, 294, 229, false, 1473), (7, 298, 228, false, 1476), (7, 304, 232, false, 1492), (7, 307, 233, false, 1488), (7, 310, 235, false, 1500), (7, 314, 236, false, 1504), (7, 318, 239, false, 1516), (7, 321, 241, false, 1524), (7, 327, 243, false, 1532), (7, 330, 245, false, 1540), (7, 333, 249, false, 1556), (7, 336, 251, false, 1564), (7, 339, 253, false, 1572), (7, 342, 255, false, 1580), (7, 345, 257, false, 1588), (7, 351, 201, false, 1619)]
def qname (y : Nat) : MethodName := ((qmis[y]?).map (fun q => q.1)).getD ⟨"", "", ""⟩
def qmw (o cp y : Nat) (nest : Bool) : Cond := if nest = true then .methodLinkNest (qownS o) cp (qname y) "JealousByCalendar" else .methodLink (qownS o) cp (qname y)
set_option maxRecDepth 20000 in
theorem qmt_ok : ∀ e ∈ qmt, lw_tbl[e.2.2.2.2]? = some (qmw e.1 e.2.1 e.2.2.1 e.2.2.2.1) := by decide +kernel
def qxt : List (Nat × Nat × Nat × Nat) := [(0, 335, 2, 942), (0, 436, 0, 710), (0, 442, 1, 528), (2, 102, 1, 996), (6, 74, 1, 1028), (3, 32, 1, 547), (4, 121, 1, 694), (4, 141, 0, 970)]
def qxn (x : Nat) : MethodName := if x = 0 then Lib.Math.max.name else if x = 1 then Lib.Math.min.name else Lib.Math.abs.name
theorem qxt_ok : ∀ e ∈ qxt, e.2.2.1 < 3 ∧ lw_tbl[e.2.2.2]? = some (.methodLink (qownS e.1) e.2.1 (qxn e.2.2.1)) := by decide +kernel
theorem qx_max_st : Cond.static Lib.Math.max.name ∈ lw_tbl := List.mem_of_getElem? (i := 711) (by decide +kernel)
theorem qx_max_cd : Cond.code Lib.Math.max.name Lib.Math.max.code 2 (some .int) ∈ lw_tbl := List.mem_of_getElem? (i := 712) (by decide +kernel)
theorem qx_min_st : Cond.static Lib.Math.min.name ∈ lw_tbl := List.mem_of_getElem? (i := 529) (by decide +kernel)
theorem qx_min_cd : Cond.code Lib.Math.min.name Lib.Math.min.code 2 (some .int) ∈ lw_tbl := List.mem_of_getElem? (i := 530) (by decide +kernel)
theorem qx_abs_st : Cond.static Lib.Math.abs.name ∈ lw_tbl := List.mem_of_getElem? (i := 943) (by decide +kernel)
theorem qx_abs_cd : Cond.code Lib.Math.abs.name Lib.Math.abs.code 1 (some .int) ∈ lw_tbl := List.mem_of_getElem? (i := 944) (by decide +kernel)
theorem qx_ini : Cond.initialized "java/lang/Math" ∈ lw_tbl := List.mem_of_getElem? (i := 156) (by decide +kernel)
def gtb : List Cond := lw_tbl.filter goodWord
theorem gtb_of {w : Cond} (h : w ∈ lw_tbl) (hg : goodWord w = true) : w ∈ gtb := List.mem_filter.mpr ⟨h, hg⟩
theorem gtb_at {w : Cond} {i : Nat} (h : lw_tbl[i]? = some w) (hg : goodWord w = true) : w ∈ gtb := gtb_of (List.mem_of_getElem? h) hg
theorem gtb_good {big : List Cond} (h : ∀ w ∈ gtb, w ∈ big) : GoodIn big gtb := fun w hw => ⟨h w hw, good_of_word (List.mem_filter.mp hw).2⟩
theorem qcl_get {ci : Nat} (h : ci < 8) : qcl[ci]? = some (qownS ci, qT ci, qN ci) := by
  unfold qcl
  rw [List.getElem?_map, List.getElem?_range h]
  rfl
set_option maxRecDepth 20000 in
theorem qin : ∀ ci, ci < 8 → ∀ w ∈ u_ws (qownS ci) (qT ci) (qN ci), w ∈ lw_tbl ∧ goodWord w = true := by decide +kernel
theorem qnm : ∀ ci, ci < 8 → ∀ a, a < qN ci → ∀ b, b < qN ci → a ≠ b → (qT ci a).2.1 ≠ (qT ci b).2.1 := by decide +kernel
theorem qtyok : ∀ ci, ci < 8 → ∀ k, k < qN ci → parseFieldDescriptor (qT ci k).2.2.1 = some (qty ci k) := by decide +kernel
/-- the kinds of fields, told of the classes' tables: an int, a boolean that isn't final, or a final reference -/
def qfKc (t ci k : Nat) : Bool := decide ((qT ci k).1 = qownS ci) && ((decide (qfK t k = 0) && decide (qty ci k = .int) && !(qT ci k).2.2.2) || (decide (qfK t k = 1) && decide (qty ci k = .boolean) && !(qT ci k).2.2.2) || (decide (qfK t k = 2) && (qT ci k).2.2.2))
theorem qfK_all : ∀ t, t < 50 → ((qci t).map fun ci => decide (ci < 8) && (List.range (qN ci)).all (qfKc t ci)).getD true = true := by decide +kernel
end
section
/-! the pure memory as cells of the machine's heap -/
def qenc (ad : QA → Nat) : QV → Value
  | .inl x => .int x
  | .inr (.inl x) => .long x
  | .inr (.inr o) => va_rf (o.map ad)
def qokv (sc : Bool) : QV → Prop
  | .inr (.inr (some a)) => qdom a = true ∨ (sc = true ∧ a = (99, 0, 0))
  | _ => True
theorem qcat_enc (ad : QA → Nat) (v : QV) : (qenc ad v).category = qcat v := by rcases v with x | x | _ | x <;> rfl
theorem qwd_enc (ad : QA → Nat) : ∀ st : List QV, ((st.map (qenc ad)).map fun v => v.category).sum = qwd st
  | [] => rfl
  | v :: st => by
    have := qwd_enc ad st
    simp only [List.map_cons, List.sum_cons, qcat_enc, this]
    rfl
def qfv (ad : QA → Nat) (μ : QM) (a : QA) (k : Nat) : Value := match qfK a.1 k with
  | 0 => .int (μ.1 a k)
  | 1 => .int (qbz (μ.1 a k))
  | _ => va_rf ((qfR a k).map ad)
def qtk (t : Nat) : Nat := if qeK t = 1 then 0 else if qeK t = 2 then 1 else if qeK t = 3 then 2 else if qeT t = 1 then 3 else if qeT t = 6 then 4 else 5
def qtys (cA : Nat → ClassId) : List (ClassId × FieldType) := [(cA 0, .int), (cA 1, .long), (cA 2, .boolean), (cA 3, .object "JealousByCalendar$Cause"), (cA 4, .object "JealousByCalendar$Choice"), (cA 5, .object "JealousByCalendar$Affair")]
def qarrf (ad : QA → Nat) (μ : QM) (a : QA) : (Nat → Int32) ⊕ (Nat → Int64) ⊕ (Nat → UInt32) ⊕ (Nat → UInt64) ⊕ (Nat → Option Nat) :=
  if qeK a.1 = 2 then .inr (.inl (μ.2.1 a)) else if qeK a.1 = 4 then .inr (.inr (.inr (.inr (fun i => some (ad (qeT a.1, a.2.1, i)))))) else if qeK a.1 = 5 then .inr (.inr (.inr (.inr (fun i => (μ.2.2 a i).map ad)))) else .inl (μ.1 a)
def qcell (ad : QA → Nat) (cA : Nat → ClassId) (μ : QM) (a : QA) : va_E := match qci a.1 with
  | some ci => .inr (ci, (List.range (qN ci)).map (qfv ad μ a))
  | none => .inl (cA (qtk a.1), qeL a.1, qarrf ad μ a)
def qdoml : List QA := (List.range 50).flatMap fun t => (List.range (qbnd t).1).flatMap fun j => (List.range (qbnd t).2).map fun c => (t, j, c)
theorem qbnd_out {t : Nat} (h : 50 ≤ t) : qbnd t = (0, 0) := by
  unfold qbnd
  rw [List.getD_eq_getElem?_getD, List.getElem?_eq_none (show qbnds.length ≤ t from h)]
  rfl
theorem qdom_lt {a : QA} (h : qdom a = true) : a.1 < 50 := by
  by_cases h2 : a.1 < 50
  · exact h2
  · unfold qdom at h
    rw [qbnd_out (by omega)] at h
    simp at h
theorem qdom_mem (a : QA) : qdom a = true ↔ a ∈ qdoml := by
  obtain ⟨t, j, c⟩ := a
  constructor
  · intro h
    have ht := qdom_lt h
    simp only [qdom, Bool.and_eq_true, decide_eq_true_eq] at h
    exact List.mem_flatMap.mpr ⟨t, List.mem_range.mpr ht, List.mem_flatMap.mpr ⟨j, List.mem_range.mpr h.1, List.mem_map.mpr ⟨c, List.mem_range.mpr h.2, rfl⟩⟩⟩
  · intro h
    obtain ⟨t', -, h⟩ := List.mem_flatMap.mp h
    obtain ⟨j', hj, h⟩ := List.mem_flatMap.mp h
    obtain ⟨c', hc, h⟩ := List.mem_map.mp h
    cases h
    simp only [qdom, Bool.and_eq_true, decide_eq_true_eq]
    exact ⟨List.mem_range.mp hj, List.mem_range.mp hc⟩
def qnd : List QA → Bool
  | [] => true
  | a :: l => decide (a ∉ l) && qnd l
theorem qnd_inj : ∀ (l : List QA), qnd l = true → ∀ (i j : Nat) (a : QA), l[i]? = some a → l[j]? = some a → i = j
  | [], _, i, j, a, h, _ => by simp at h
  | b :: l, hn, i, j, a, h1, h2 => by
    simp only [qnd, Bool.and_eq_true, decide_eq_true_eq] at hn
    cases i with
    | zero =>
      cases j with
      | zero => rfl
      | succ j =>
        rw [List.getElem?_cons_zero] at h1
        rw [List.getElem?_cons_succ] at h2
        cases h1
        exact absurd (List.mem_of_getElem? h2) hn.1
    | succ i =>
      rw [List.getElem?_cons_succ] at h1
      cases j with
      | zero =>
        rw [List.getElem?_cons_zero] at h2
        cases h2
        exact absurd (List.mem_of_getElem? h1) hn.1
      | succ j =>
        rw [List.getElem?_cons_succ] at h2
        rw [qnd_inj l hn.2 i j a h1 h2]
theorem qdoml_nd : qnd qdoml = true := by decide +kernel
def qwld (ad : QA → Nat) (cA : Nat → ClassId) (μ : QM) : va_W := qdoml.map fun a => (ad a, qcell ad cA μ a)
theorem qw_get {ad : QA → Nat} {cA : Nat → ClassId} {μ : QM} {i : Nat} {a : QA} (h : qdoml[i]? = some a) : (qwld ad cA μ)[i]? = some (ad a, qcell ad cA μ a) := by
  unfold qwld
  rw [List.getElem?_map, h]
  rfl
theorem qw_at {a : QA} (h : qdom a = true) : ∃ i : Nat, qdoml[i]? = some a := List.getElem?_of_mem ((qdom_mem a).mp h)
theorem qw_set {ad : QA → Nat} {cA : Nat → ClassId} {μ μ' : QM} {i : Nat} {a : QA} {x : va_E} (hi : qdoml[i]? = some a) (hx : x = qcell ad cA μ' a) (h : ∀ b, b ≠ a → qcell ad cA μ' b = qcell ad cA μ b) :
    (qwld ad cA μ).set i (ad a, x) = qwld ad cA μ' := by
  subst hx
  have hl : i < qdoml.length := (List.getElem?_eq_some_iff.mp hi).1
  apply List.ext_getElem?
  intro j
  by_cases hj : j = i
  · subst hj
    rw [qw_get hi, List.getElem?_set_self]
    unfold qwld
    rw [List.length_map]
    exact hl
  · rw [List.getElem?_set_ne (Ne.symm hj)]
    cases hq : qdoml[j]? with
    | none =>
      unfold qwld
      rw [List.getElem?_map, List.getElem?_map, hq]
      rfl
    | some b =>
      have hb : b ≠ a := fun e => hj (qnd_inj _ qdoml_nd j i a (e ▸ hq) hi)
      rw [qw_get hq, qw_get hq, h b hb]
theorem qcell_eq {ad : QA → Nat} {cA : Nat → ClassId} {μ μ' : QM} {b : QA} (h1 : μ'.1 b = μ.1 b) (h2 : μ'.2.1 b = μ.2.1 b) (h3 : μ'.2.2 b = μ.2.2 b) : qcell ad cA μ' b = qcell ad cA μ b := by
  have e : qfv ad μ' b = qfv ad μ b := by
    funext k
    unfold qfv
    rw [h1]
  unfold qcell qarrf
  rw [e, h1, h2, h3]
theorem qsi_ne {μ : QM} {a b : QA} {k : Nat} {v : Int32} (h : b ≠ a) : (qsi μ a k v).1 b = μ.1 b := by
  funext j
  exact if_neg (fun e => h e.1)
theorem qsl_ne {μ : QM} {a b : QA} {k : Nat} {v : Int64} (h : b ≠ a) : (qsl μ a k v).2.1 b = μ.2.1 b := by
  funext j
  exact if_neg (fun e => h e.1)
theorem qsr_ne {μ : QM} {a b : QA} {k : Nat} {v : Option QA} (h : b ≠ a) : (qsr μ a k v).2.2 b = μ.2.2 b := by
  funext j
  exact if_neg (fun e => h e.1)
theorem qsi_up (μ : QM) (a : QA) (k : Nat) (v : Int32) : (qsi μ a k v).1 a = upd (μ.1 a) k v := by
  funext j
  unfold qsi upd
  by_cases h : j = k
  · simp [h]
  · simp [h]
theorem qsl_up (μ : QM) (a : QA) (k : Nat) (v : Int64) : (qsl μ a k v).2.1 a = vp_updL (μ.2.1 a) k v := by
  funext j
  unfold qsl vp_updL
  by_cases h : j = k
  · simp [h]
  · simp [h]
theorem qsr_up (μ : QM) (a : QA) (k : Nat) (v : Option QA) (ad : QA → Nat) : (fun i => ((qsr μ a k v).2.2 a i).map ad) = va_up (fun i => (μ.2.2 a i).map ad) k (v.map ad) := by
  funext j
  unfold qsr va_up
  by_cases h : j = k
  · simp [h]
  · simp [h]
def QW (ad : QA → Nat) (cA : Nat → ClassId) (D : va_G) (A : Nat → Prop) (H0 : Heap) (μ : QM) (H : Heap) (locs : List Loc) : Prop := va_P D qcl (qwld ad cA μ) H ∧ va_D A (qwld ad cA μ) ∧ va_S A H0 H locs
theorem QW.inj {ad : QA → Nat} {cA : Nat → ClassId} {D : va_G} {A : Nat → Prop} {H0 : Heap} {μ : QM} {H : Heap} {locs : List Loc} (h : QW ad cA D A H0 μ H locs) {a b : QA} (ha : qdom a = true) (hb : qdom b = true) (e : ad a = ad b) : a = b := by
  obtain ⟨i, hi⟩ := qw_at ha
  obtain ⟨j, hj⟩ := qw_at hb
  have := h.2.1.1 i j _ _ (qw_get hi) (qw_get hj) e
  subst this
  exact Option.some.inj (hi.symm.trans hj)
theorem QW.in {ad : QA → Nat} {cA : Nat → ClassId} {D : va_G} {A : Nat → Prop} {H0 : Heap} {μ : QM} {H : Heap} {locs : List Loc} (h : QW ad cA D A H0 μ H locs) {a : QA} (ha : qdom a = true) : A (ad a) := by
  obtain ⟨i, hi⟩ := qw_at ha
  exact h.2.1.2 i _ (qw_get hi)
/-! the locals -/
def QLr (ad : QA → Nat) (sc : Bool) (ls : Array Slot) (nL : Nat) (L : QL) : Prop := ls.size = nL ∧ lv_wf ls ∧ L.length = nL ∧ ∀ (i : Nat) (v : QV), L[i]? = some (some v) → qokv sc v ∧ ls[i]? = some (.val (qenc ad v))
def qtoL (ad : QA → Nat) (L : QL) : List (Nat × Value) := L.zipIdx.filterMap fun o => o.1.map fun v => (o.2, qenc ad v)
theorem mem_qtoL {ad : QA → Nat} {L : QL} {q : Nat × Value} : q ∈ qtoL ad L ↔ ∃ v, L[q.1]? = some (some v) ∧ q.2 = qenc ad v := by
  unfold qtoL
  rw [List.mem_filterMap]
  constructor
  · rintro ⟨⟨o, i⟩, h1, h2⟩
    have h1 := List.mk_mem_zipIdx_iff_getElem?.mp h1
    cases o with
    | none => simp at h2
    | some v =>
      simp only [Option.map_some, Option.some.injEq] at h2
      subst h2
      exact ⟨v, h1, rfl⟩
  · rintro ⟨v, h1, h2⟩
    refine ⟨(some v, q.1), List.mk_mem_zipIdx_iff_getElem?.mpr h1, ?_⟩
    simp only [Option.map_some, ← h2]
theorem QLr.has {ad : QA → Nat} {sc : Bool} {ls : Array Slot} {nL : Nat} {L : QL} (h : QLr ad sc ls nL L) : lv_has ls nL (qtoL ad L) := ⟨h.1, h.2.1, fun q hq => by
  obtain ⟨v, h1, h2⟩ := mem_qtoL.mp hq
  rw [h2]
  exact (h.2.2.2 q.1 v h1).2⟩
theorem qput_len (L : QL) (i : Nat) (v : QV) : (qput L i v).length = L.length := by
  unfold qput
  split
  · simp
  · split <;> simp
theorem qput_get {L : QL} {i : Nat} {v : QV} {j : Nat} {w : QV} (h : (qput L i v)[j]? = some (some w)) : (j = i ∧ w = v) ∨ (j ≠ i ∧ L[j]? = some (some w) ∧ ¬ (j + 1 = i ∧ qcat w = 2)) := by
  unfold qput at h
  split at h
  · by_cases hj : j = 0
    · subst hj
      by_cases hl : 0 < L.length
      · rw [List.getElem?_set_self hl] at h
        exact Or.inl ⟨rfl, (Option.some.inj (Option.some.inj h)).symm⟩
      · rw [List.getElem?_eq_none (by rw [List.length_set]; omega)] at h
        cases h
    · rw [List.getElem?_set_ne (Ne.symm hj)] at h
      exact Or.inr ⟨hj, h, by omega⟩
  · rename_i i
    have key : ∀ L' : QL, L'.length = L.length → (∀ j w, L'[j]? = some (some w) → j ≠ i + 1 → L[j]? = some (some w) ∧ ¬ (j + 1 = i + 1 ∧ qcat w = 2)) → (L'.set (i + 1) (some v))[j]? = some (some w) → (j = i + 1 ∧ w = v) ∨ (j ≠ i + 1 ∧ L[j]? = some (some w) ∧ ¬ (j + 1 = i + 1 ∧ qcat w = 2)) := by
      intro L' hl hk h
      by_cases hj : j = i + 1
      · subst hj
        by_cases hl2 : i + 1 < L'.length
        · rw [List.getElem?_set_self hl2] at h
          exact Or.inl ⟨rfl, (Option.some.inj (Option.some.inj h)).symm⟩
        · rw [List.getElem?_eq_none (by rw [List.length_set]; omega)] at h
          cases h
      · rw [List.getElem?_set_ne (Ne.symm hj)] at h
        exact Or.inr ⟨hj, (hk j w h hj).1, (hk j w h hj).2⟩
    split at h
    · rename_i x hx
      refine key _ (by simp) (fun j w h hj => ?_) h
      by_cases hji : j = i
      · subst hji
        have hl2 : j < L.length := (List.getElem?_eq_some_iff.mp hx).1
        rw [List.getElem?_set_self hl2] at h
        cases h
      · rw [List.getElem?_set_ne (Ne.symm hji)] at h
        exact ⟨h, by omega⟩
    · rename_i hx
      refine key _ rfl (fun j w h hj => ⟨h, ?_⟩) h
      rintro ⟨e, hc⟩
      have e : j = i := by omega
      subst e
      rcases w with x | x | x
      · cases hc
      · exact hx x h
      · cases hc
theorem QLr.put1 {ad : QA → Nat} {sc : Bool} {ls ls' : Array Slot} {nL : Nat} {L : QL} {i : Nat} {v : QV} (h : QLr ad sc ls nL L) (hv : qokv sc v)
    (hs : lv_has ls' nL ((i, qenc ad v) :: (qtoL ad L).filter (fun q => !(q.1 == i) && !(q.1 + 1 == i && q.2.category == 2)))) : QLr ad sc ls' nL (qput L i v) := by
  refine ⟨hs.1, hs.2.1, (qput_len L i v).trans h.2.2.1, fun j w hj => ?_⟩
  rcases qput_get hj with ⟨rfl, rfl⟩ | ⟨h1, h2, h3⟩
  · exact ⟨hv, hs.2.2 _ List.mem_cons_self⟩
  · refine ⟨(h.2.2.2 j w h2).1, hs.2.2 (j, qenc ad w) (List.mem_cons_of_mem _ (List.mem_filter.mpr ⟨mem_qtoL.mpr ⟨w, h2, rfl⟩, ?_⟩))⟩
    simp only [qcat_enc, Bool.and_eq_true, Bool.not_eq_true', beq_eq_false_iff_ne, ne_eq, Bool.and_eq_false_iff]
    refine ⟨h1, ?_⟩
    by_cases e : j + 1 = i
    · exact Or.inr fun z => h3 ⟨e, z⟩
    · exact Or.inl e
theorem QLr.put2 {ad : QA → Nat} {sc : Bool} {ls ls' : Array Slot} {nL : Nat} {L : QL} {i : Nat} {v : QV} (h : QLr ad sc ls nL L) (hv : qokv sc v)
    (hs : lv_has ls' nL ((i, qenc ad v) :: (qtoL ad L).filter (fun q => !(q.1 == i) && (!(q.1 == i + 1) && !(q.1 + 1 == i && q.2.category == 2))))) : QLr ad sc ls' nL ((qput L i v).set (i + 1) none) := by
  refine ⟨hs.1, hs.2.1, by rw [List.length_set]; exact (qput_len L i v).trans h.2.2.1, fun j w hj => ?_⟩
  have hji : j ≠ i + 1 := by
    intro e
    subst e
    by_cases hl : i + 1 < (qput L i v).length
    · rw [List.getElem?_set_self hl] at hj
      cases hj
    · rw [List.getElem?_eq_none (by rw [List.length_set]; omega)] at hj
      cases hj
  rw [List.getElem?_set_ne (Ne.symm hji)] at hj
  rcases qput_get hj with ⟨rfl, rfl⟩ | ⟨h1, h2, h3⟩
  · exact ⟨hv, hs.2.2 _ List.mem_cons_self⟩
  · refine ⟨(h.2.2.2 j w h2).1, hs.2.2 (j, qenc ad w) (List.mem_cons_of_mem _ (List.mem_filter.mpr ⟨mem_qtoL.mpr ⟨w, h2, rfl⟩, ?_⟩))⟩
    simp only [qcat_enc, Bool.and_eq_true, Bool.not_eq_true', beq_eq_false_iff_ne, ne_eq, Bool.and_eq_false_iff]
    refine ⟨h1, hji, ?_⟩
    by_cases e : j + 1 = i
    · exact Or.inr fun z => h3 ⟨e, z⟩
    · exact Or.inl e
theorem qmask_get : ∀ (b : List Bool) (L : QL) (i : Nat) (v : QV), (qmask b L)[i]? = some (some v) → L[i]? = some (some v)
  | [], L, i, v, h => h
  | _ :: _, [], i, v, h => by simp [qmask] at h
  | b :: bs, x :: L, 0, v, h => by
    simp only [qmask, List.getElem?_cons_zero] at h ⊢
    cases b
    · cases h
    · exact h
  | b :: bs, x :: L, i + 1, v, h => by
    simp only [qmask, List.getElem?_cons_succ] at h ⊢
    exact qmask_get bs L i v h
theorem qmask_len : ∀ (b : List Bool) (L : QL), (qmask b L).length = L.length
  | [], L => rfl
  | _ :: _, [] => rfl
  | b :: bs, x :: L => by simp only [qmask, List.length_cons, qmask_len bs L]
theorem QLr.mask {ad : QA → Nat} {sc : Bool} {ls : Array Slot} {nL : Nat} {L : QL} (h : QLr ad sc ls nL L) (b : List Bool) : QLr ad sc ls nL (qmask b L) :=
  ⟨h.1, h.2.1, (qmask_len b L).trans h.2.2.1, fun i v hi => h.2.2.2 i v (qmask_get b L i v hi)⟩
end
section
/-! the pure machine's steps are the machine's -/
def qnargs (y : Nat) : Nat := ((qmis[y]?).map fun q => q.2.2.2.2.2.2.2.2.2).getD 99
def qstat (y : Nat) : Bool := ((qmis[y]?).map fun q => q.2.2.2.2.1).getD false
def qalts (own : Nat) (ret : Option FieldType) (len : Nat) (o : Instr) : List (Instr × Nat) := match o with
  | .sipush n => [(.iconst n, 1)] ++ ((if (Int8.ofInt n).toInt32 = Int32.ofInt n then [(.bipush n, 2)] else []) ++ ((if (Int16.ofInt n).toInt32 = Int32.ofInt n then [(.sipush n, 3)] else []) ++ qct.flatMap fun e => if e.1 = own ∧ e.2.2.1 = n then [(.ldc e.2.1, 2), (.ldc_w e.2.1, 3)] else []))
  | .goto_w n => (if n = 0 then [(.lconst 0, 1)] else if n = 1 then [(.lconst 1, 1)] else []) ++ qclt.flatMap fun e => if e.1 = own ∧ e.2.2.1 = n then [(.ldc2_w e.2.1, 3)] else []
  | .iload i => (if h : i < 4 then [(.iload_n ⟨i, h⟩, 1)] else []) ++ [(.iload i, 2)]
  | .lload i => (if h : i < 4 then [(.lload_n ⟨i, h⟩, 1)] else []) ++ [(.lload i, 2)]
  | .aload i => (if h : i < 4 then [(.aload_n ⟨i, h⟩, 1)] else []) ++ [(.aload i, 2)]
  | .istore i => (if h : i < 4 then [(.istore_n ⟨i, h⟩, 1)] else []) ++ [(.istore i, 2)]
  | .lstore i => (if h : i < 4 then [(.lstore_n ⟨i, h⟩, 1)] else []) ++ [(.lstore i, 2)]
  | .astore i => (if h : i < 4 then [(.astore_n ⟨i, h⟩, 1)] else []) ++ [(.astore i, 2)]
  | .iinc i n => [(.iinc i n, 3)]
  | .getfield r => qft.flatMap fun e => if e.1 = own ∧ e.2.2.1 = r ∧ own ≠ 8 then [(.getfield e.2.1, 3)] else []
  | .putfield r => qft.flatMap fun e => if e.1 = own ∧ e.2.2.1 = r ∧ own ≠ 8 then [(.putfield e.2.1, 3)] else []
  | .invokeinterface y c => qmt.flatMap fun e => if e.1 = own ∧ e.2.2.1 = y ∧ c / 8 % 8 = qnargs y then [(if qstat y = true then .invokestatic e.2.1 else .invokevirtual e.2.1, 3)] else []
  | .fadd => qxt.flatMap fun e => if e.1 = own ∧ e.2.2.1 = 0 then [(.invokestatic e.2.1, 3)] else []
  | .fsub => qxt.flatMap fun e => if e.1 = own ∧ e.2.2.1 = 1 then [(.invokestatic e.2.1, 3)] else []
  | .fneg => qxt.flatMap fun e => if e.1 = own ∧ e.2.2.1 = 2 then [(.invokestatic e.2.1, 3)] else []
  | .faload => [(.iaload, 1)]
  | .fload _ => [(.arraylength, 1)]
  | .ireturn => if ret = some .int then [(.ireturn, 1)] else []
  | .freturn => if ret = some .boolean then [(.ireturn, 1)] else []
  | .lreturn => if ret = some .long then [(.lreturn, 1)] else []
  | .areturn => (match ret with
    | some (.object _) => [(.areturn, 1)]
    | _ => [])
  | .return_ => if ret = none then [(.return_, 1)] else []
  | .ifCond c off => [(.ifCond c off, 3)]
  | .if_icmp c off => [(.if_icmp c off, 3)]
  | .if_acmp c off => if own ≠ 8 then [(.if_acmp c off, 3)] else []
  | .ifnull off => [(.ifnull off, 3)]
  | .ifnonnull off => [(.ifnonnull off, 3)]
  | .goto off => [(.goto off, 3)]
  | .tableswitch d lo hi offs => if hi - lo + 1 = (offs.toList.length : Nat) ∧ -2147483648 ≤ lo ∧ hi < 2147483648 then [(.tableswitch d lo hi offs, len)] else []
  | .lookupswitch d ps => if (ps.toList.zip (ps.toList.drop 1)).all (fun (a, next) => a.1 < next.1) = true ∧ ps.toList.all (fun q => decide (-2147483648 ≤ q.1) && decide (q.1 < 2147483648)) = true then [(.lookupswitch d ps, len)] else []
  | .aconst_null => [(.aconst_null, 1)]
  | .dup => [(.dup, 1)]
  | .dup2 => [(.dup2, 1)]
  | .pop => [(.pop, 1)]
  | .iadd => [(.iadd, 1)]
  | .isub => [(.isub, 1)]
  | .imul => [(.imul, 1)]
  | .iand => [(.iand, 1)]
  | .ior => [(.ior, 1)]
  | .ixor => [(.ixor, 1)]
  | .ishl => [(.ishl, 1)]
  | .ishr => [(.ishr, 1)]
  | .iushr => [(.iushr, 1)]
  | .idiv => [(.idiv, 1)]
  | .irem => [(.irem, 1)]
  | .ineg => [(.ineg, 1)]
  | .ladd => [(.ladd, 1)]
  | .lsub => [(.lsub, 1)]
  | .lmul => [(.lmul, 1)]
  | .lor => [(.lor, 1)]
  | .ldiv => [(.ldiv, 1)]
  | .lrem => [(.lrem, 1)]
  | .lshl => [(.lshl, 1)]
  | .i2l => [(.i2l, 1)]
  | .lcmp => [(.lcmp, 1)]
  | .arraylength => if own ≠ 8 then [(.arraylength, 1)] else []
  | .iaload => if own ≠ 8 then [(.iaload, 1)] else []
  | .baload => if own ≠ 8 then [(.baload, 1)] else []
  | .laload => if own ≠ 8 then [(.laload, 1)] else []
  | .aaload => if own ≠ 8 then [(.aaload, 1)] else []
  | .iastore => if own ≠ 8 then [(.iastore, 1)] else []
  | .bastore => if own ≠ 8 then [(.bastore, 1)] else []
  | .lastore => if own ≠ 8 then [(.lastore, 1)] else []
  | .aastore => if own ≠ 8 then [(.aastore, 1)] else []
  | _ => []
def qoffs (o : Instr) : List Int := match o with
  | .ifCond _ off => [off]
  | .if_icmp _ off => [off]
  | .if_acmp _ off => [off]
  | .ifnull off => [off]
  | .ifnonnull off => [off]
  | .goto off => [off]
  | .tableswitch d _ _ offs => d :: offs.toList
  | .lookupswitch d ps => d :: ps.toList.map (fun q => q.2)
  | _ => []
theorem q_no {P : Prop} {r : Option QV × QM} (h : (none : QR) = some r) : P := by cases h
theorem qsw_tab {jp : Int → QR} {x : Int32} {d : Int} {res : Option QV × QM} : ∀ (offs : List Int) (lo : Int), -2147483648 ≤ lo → lo + offs.length ≤ 2147483648 → qsw jp x d (qtab lo offs) = some res →
    ((x.toInt < lo ∨ lo + offs.length ≤ x.toInt) ∧ jp d = some res) ∨ (∃ (i : Nat) (off : Int), offs[i]? = some off ∧ x.toInt = lo + i ∧ jp off = some res)
  | [], lo, _, _, h => Or.inl ⟨by rw [List.length_nil]; omega, h⟩
  | o :: r, lo, h1, h2, h => by
    rw [List.length_cons] at h2
    have hx : (Int32.ofInt lo).toInt = lo := Int32.toInt_ofInt_of_le (by omega) (by omega)
    by_cases hc : x = Int32.ofInt lo
    · simp only [qtab, qsw, if_pos hc] at h
      exact Or.inr ⟨0, o, rfl, by rw [hc, hx]; omega, h⟩
    · simp only [qtab, qsw, if_neg hc] at h
      have hne : x.toInt ≠ lo := fun q => hc (Int32.toInt_inj.mp (by rw [hx]; exact q))
      rcases qsw_tab r (lo + 1) (by omega) (by omega) h with ⟨h3, h4⟩ | ⟨i, off, h3, h4, h5⟩
      · exact Or.inl ⟨by rw [List.length_cons]; omega, h4⟩
      · exact Or.inr ⟨i + 1, off, h3, by omega, h5⟩
theorem qsw_lk {jp : Int → QR} {x : Int32} {d : Int} {res : Option QV × QM} : ∀ (ps : List (Int × Int)), ps.all (fun q => decide (-2147483648 ≤ q.1) && decide (q.1 < 2147483648)) = true → qsw jp x d ps = some res →
    ∃ off, Op.lookupswitch.offset ps d x.toInt = off ∧ off ∈ d :: ps.map (fun q => q.2) ∧ jp off = some res
  | [], _, h => ⟨d, rfl, List.mem_cons_self, h⟩
  | (a, o) :: r, hr, h => by
    simp only [List.all_cons, Bool.and_eq_true, decide_eq_true_eq] at hr
    have hx : (Int32.ofInt a).toInt = a := Int32.toInt_ofInt_of_le (by omega) (by omega)
    by_cases hc : x = Int32.ofInt a
    · simp only [qsw, if_pos hc] at h
      refine ⟨o, ?_, by simp, h⟩
      rw [Op.lookupswitch.offset_cons, if_pos]
      rw [hc, hx]
    · simp only [qsw, if_neg hc] at h
      obtain ⟨off, h1, h2, h3⟩ := qsw_lk r hr.2 h
      refine ⟨off, ?_, ?_, h3⟩
      · rw [lv_osw hc hx]; exact h1
      · simp only [List.map_cons, List.mem_cons] at h2 ⊢
        rcases h2 with h2 | h2
        · exact Or.inl h2
        · exact Or.inr (Or.inr h2)
theorem q_if {b : Bool} {r : QR} {res : Option QV × QM} (h : (bif b then none else r) = some res) : b = false ∧ r = some res := by
  cases b
  · exact ⟨rfl, h⟩
  · cases h
theorem q_ite {c : Prop} [i : Decidable c] {r : QR} {res : Option QV × QM} (h : (if c then r else none) = some res) : c ∧ r = some res := by
  by_cases hc : c
  · rw [if_pos hc] at h; exact ⟨hc, h⟩
  · rw [if_neg hc] at h; cases h
theorem q_iteN {c : Prop} [i : Decidable c] {r : QR} {res : Option QV × QM} (h : (if c then none else r) = some res) : ¬ c ∧ r = some res := by
  by_cases hc : c
  · rw [if_pos hc] at h; cases h
  · rw [if_neg hc] at h; exact ⟨hc, h⟩
theorem qoob_in {x : Int32} {n : Nat} (h : qoob x n = false) : vp_in x n := by
  unfold qoob at h
  simp only [Bool.or_eq_false_iff, decide_eq_false_iff_not] at h
  exact fun q => q.elim h.1 h.2
theorem q_cons {sc : Bool} {v : QV} {st : List QV} (hv : qokv sc v) (h : ∀ u ∈ st, qokv sc u) : ∀ u ∈ v :: st, qokv sc u := fun u hu => (List.mem_cons.mp hu).elim (fun e => e ▸ hv) (h u)
theorem q_tl {sc : Bool} {v : QV} {st : List QV} (h : ∀ u ∈ v :: st, qokv sc u) : ∀ u ∈ st, qokv sc u := fun u hu => h u (List.mem_cons_of_mem _ hu)
theorem qpop_spec : ∀ (n : Nat) (st acc av st' : List QV), qpop n st acc = some (av, st') → ∃ pre : List QV, st = pre ++ st' ∧ av = pre.reverse ++ acc ∧ pre.length = n
  | 0, st, acc, av, st', h => by
    cases h
    exact ⟨[], rfl, rfl, rfl⟩
  | n + 1, [], acc, av, st', h => by cases h
  | n + 1, v :: st, acc, av, st', h => by
    obtain ⟨pre, h1, h2, h3⟩ := qpop_spec n st (v :: acc) av st' h
    exact ⟨v :: pre, by rw [h1]; rfl, by rw [h2]; simp, by rw [List.length_cons, h3]⟩
theorem q_flat {α : Type} {l : List α} {f : α → List (Instr × Nat)} {x : Instr × Nat} (h : x ∈ l.flatMap f) : ∃ e ∈ l, x ∈ f e := List.mem_flatMap.mp h
theorem q_one {c : Prop} [i : Decidable c] {x y : Instr × Nat} (h : x ∈ if c then [y] else []) : c ∧ x = y := by
  by_cases hc : c
  · rw [if_pos hc] at h; exact ⟨hc, List.mem_singleton.mp h⟩
  · rw [if_neg hc] at h; cases h
theorem q_done {c : Prop} [i : Decidable c] {f : c → Instr × Nat} {x y : Instr × Nat} (h : x ∈ (if h : c then [f h] else []) ++ [y]) : (∃ hc : c, x = f hc) ∨ x = y := by
  rcases List.mem_append.mp h with h | h
  · by_cases hc : c
    · rw [dif_pos hc] at h; exact Or.inl ⟨hc, List.mem_singleton.mp h⟩
    · rw [dif_neg hc] at h; cases h
  · exact Or.inr (List.mem_singleton.mp h)
/-- what the tables say of a kind of objects -/
theorem qfK_of {t ci k : Nat} (ht : t < 50) (h : qci t = some ci) (hk : k < qN ci) : ci < 8 ∧ (qT ci k).1 = qownS ci ∧ ((qfK t k = 0 ∧ qty ci k = .int ∧ (qT ci k).2.2.2 = false) ∨ (qfK t k = 1 ∧ qty ci k = .boolean ∧ (qT ci k).2.2.2 = false) ∨ (qfK t k = 2 ∧ (qT ci k).2.2.2 = true)) := by
  have h1 := qfK_all t ht
  rw [h] at h1
  simp only [Option.map_some, Option.getD_some, Bool.and_eq_true, decide_eq_true_eq, List.all_eq_true, List.mem_range] at h1
  obtain ⟨h2, h3⟩ := h1
  have h4 := h3 k hk
  simp only [qfKc, Bool.and_eq_true, Bool.or_eq_true, Bool.not_eq_true', decide_eq_true_eq] at h4
  refine ⟨h2, h4.1, ?_⟩
  rcases h4.2 with (⟨⟨a, b⟩, c⟩ | ⟨⟨a, b⟩, c⟩) | ⟨a, b⟩
  · exact Or.inl ⟨a, b, c⟩
  · exact Or.inr (Or.inl ⟨a, b, c⟩)
  · exact Or.inr (Or.inr ⟨a, b⟩)
theorem qci_none : ∀ t, t < 50 → (qeK t ≠ 0 → qci t = none) := by decide +kernel
theorem qtk_ok : ∀ t, t < 50 → qeK t ≠ 0 → (qeK t = 1 ∧ qtk t = 0) ∨ (qeK t = 2 ∧ qtk t = 1) ∨ (qeK t = 3 ∧ qtk t = 2) ∨ ((qeK t = 4 ∨ qeK t = 5) ∧ (qtk t = 3 ∧ qeT t = 1 ∨ qtk t = 4 ∧ qeT t = 6 ∨ qtk t = 5 ∧ qeT t = 2)) := by decide +kernel
theorem qel_ok : ∀ t, t < 50 → qeK t = 4 → (qbnd (qeT t)).1 = (qbnd t).1 ∧ (qbnd (qeT t)).2 = qeL t := by decide +kernel
def qfrok (t k : Nat) : Bool := match (qfrs.getD t []).getD k none with
  | none => true
  | some (t', b, j, c) => decide (t' < 50) && (bif b then decide ((qbnd t').1 = (qbnd t).1) else decide (j < (qbnd t').1)) && decide (c < (qbnd t').2)
theorem qfr_ok : ∀ t, t < 50 → ∀ k, k < 38 → qfrok t k = true := by decide +kernel
theorem qN_le : ∀ ci, ci < 8 → qN ci ≤ 38 := by decide +kernel
theorem qfR_dom {a b : QA} {k : Nat} (ha : qdom a = true) (hk : k < 38) (h : qfR a k = some b) : qdom b = true := by
  have h1 := qfr_ok a.1 (qdom_lt ha) k hk
  unfold qfrok at h1
  unfold qfR at h
  cases hq : (qfrs.getD a.1 []).getD k none with
  | none => rw [hq] at h; cases h
  | some x =>
    obtain ⟨t', bb, j, c⟩ := x
    rw [hq] at h h1
    simp only [Option.some.injEq] at h
    subst h
    simp only [qdom, Bool.and_eq_true, decide_eq_true_eq] at ha h1 ⊢
    cases bb
    · simp only [cond_false, decide_eq_true_eq] at h1 ⊢
      exact ⟨h1.1.2, h1.2⟩
    · simp only [cond_true, decide_eq_true_eq] at h1 ⊢
      exact ⟨by rw [h1.1.2]; exact ha.1, h1.2⟩
theorem qbz_eq {x : Int32} (h : x = 0 ∨ x = 1) : qbz x = x := by
  rcases h with rfl | rfl <;> decide
theorem qbz_01 (x : Int32) : qbz x = 0 ∨ qbz x = 1 := by
  unfold qbz
  by_cases h : x = 0
  · exact Or.inl (if_pos h)
  · exact Or.inr (if_neg h)
section QS
variable {p : Program} {l : Launch} {e : Env} {R : Room} {s : State} {m : MethodId} {args : Array Value} {below : List Frame} {meth : Method} {c : Code} {Q : State → Prop} {cells slots : Nat}
variable {own : Nat} {cc : ByteArray} {nL : Nat} {ret : Option FieldType} {D : va_G} {cA : Nat → ClassId} {ad : QA → Nat} {A : Nat → Prop} {H0 : Heap} {sc : Bool} {res : Option QV × QM}
def qisN : Cond → Bool
  | .fieldLinkNest .. => true
  | .methodLinkNest .. => true
  | _ => false
/-- the links of nest mates: they hold as the tables warm -/
def qNst (s : State) : Prop := ∀ w ∈ lw_tbl, qisN w = true → va_Nw w s
theorem qNst.warm {s U : State} (hW : s.WarmedH U.vm) (h : qNst s) : qNst U := by
  intro w hw hn
  have h1 := h w hw hn
  cases w <;> first | exact va_Nw.warmF hW h1 | exact va_Nw.warmM hW h1 | (cases hn)
theorem qNst.same {s U : State} (hvm : s.vm = U.vm) (h : qNst s) : qNst U := by
  intro w hw hn
  have h1 := h w hw hn
  cases w <;> first | exact va_Nw.same rfl hvm h1 | (cases hn)
theorem qNst.of {s : State} {args : Array Value} (h : ∀ w ∈ lw_tbl, w.before args s = true) : qNst s := by
  intro w hw hn
  have h1 := h w hw
  cases w <;> first | exact va_Nw.of rfl h1 | (cases hn)
def qEnv (p : Program) (s : State) (m : MethodId) (args : Array Value) (c : Code) (cc : ByteArray) (nL own : Nat) (D : va_G) (cA : Nat → ClassId) : Prop :=
  p.tables.exec = Jvm.exec ∧ c.code = cc ∧ c.maxLocals = nL ∧ s.vm.findClass (qownS own) = some m.cls ∧ (∀ w ∈ gtb, w.before args s = true) ∧ va_K D qcl (qtys cA) s ∧ qNst s
/-- one state's whole -/
def qSt (ad : QA → Nat) (sc : Bool) (nL : Nat) (cA : Nat → ClassId) (D : va_G) (A : Nat → Prop) (H0 : Heap) (ls : Array Slot) (L : QL) (st : List QV) (μ : QM) (H : Heap) (locs : List Loc) : Prop :=
  QLr ad sc ls nL L ∧ (∀ v ∈ st, qokv sc v) ∧ QW ad cA D A H0 μ H locs
set_option maxHeartbeats 8000000 in
set_option maxRecDepth 20000 in
theorem qop_sound (E : qEnv p s m args c cc nL own D cA) (hs8 : sc = true → own = 8) (hR : 1 ≤ R.frames ∧ 21 ≤ R.locals ∧ cells ≤ R.cells ∧ slots ≤ R.slots) {call : QC} {nx : QL → List QV → QM → QR} {jp : Int → QL → List QV → QM → QR} {o ins : Instr} {pc len : Nat} {ls : Array Slot} {L : QL} {st : List QV} {μ : QM} {H : Heap} {locs : List Loc}
    (hd : decode cc pc = .ok (ins, len)) (hm : (ins, len) ∈ qalts own ret len o) (hjo : ∀ off ∈ qoffs o, 0 ≤ (pc : Int) + off)
    (hS : qSt ad sc nL cA D A H0 ls L st μ H locs)
    (HC : ∀ (y cp : Nat) (q : QMI) (nest : Bool) (idx : Nat), qmis[y]? = some q → (own, cp, y, nest, idx) ∈ qmt → decode cc pc = .ok (if q.2.2.2.2.1 = true then .invokestatic cp else .invokevirtual cp, 3) → ∀ (av rest : List QV) (r : Option QV) (μ' : QM), av.length = q.2.2.2.2.2.2.2.2.2 → call y av μ = some (r, μ') → (∀ v ∈ av, qokv sc v) → qwd rest ≤ 8 →
      (∀ (H' : Heap) (locs' : List Loc), QW ad cA D A H0 μ' H' locs' → W p l e R s m args below meth c H' locs' cells slots Q (F0 m (pc + 3) ls ((r.map (qenc ad)).toList ++ rest.map (qenc ad)))) →
      W p l e R s m args below meth c H locs cells slots Q (F0 m pc ls ((av.map (qenc ad)).reverse ++ rest.map (qenc ad))))
    (HS1 : sc = true → ∀ (i x : Int32) (μ' : QM) (rest : List Value), call 9999 [qI i] μ = some (some (.inl x), μ') → decode cc pc = .ok (.iaload, 1) → W p l e R s m args below meth c H locs cells slots Q (F0 m (pc + 1) ls (.int x :: rest)) → W p l e R s m args below meth c H locs cells slots Q (F0 m pc ls (.int i :: .ref (ad (99, 0, 0)) :: rest)))
    (HS2 : sc = true → ∀ (x : Int32) (μ' : QM) (rest : List Value), call 9998 [] μ = some (some (.inl x), μ') → decode cc pc = .ok (.arraylength, 1) → W p l e R s m args below meth c H locs cells slots Q (F0 m (pc + 1) ls (.int x :: rest)) → W p l e R s m args below meth c H locs cells slots Q (F0 m pc ls (.ref (ad (99, 0, 0)) :: rest)))
    (HRi : ∀ x : Int32, decode cc pc = .ok (.ireturn, 1) → (ret = some .int ∨ (ret = some .boolean ∧ (x = 0 ∨ x = 1))) → res = (some (qI x), μ) → W p l e R s m args below meth c H locs cells slots Q (F0 m pc ls [.int x]))
    (HRl : ∀ x : Int64, decode cc pc = .ok (.lreturn, 1) → ret = some .long → res = (some (qL x), μ) → W p l e R s m args below meth c H locs cells slots Q (F0 m pc ls [.long x]))
    (HRa : ∀ x : Option QA, decode cc pc = .ok (.areturn, 1) → (∃ n, ret = some (.object n)) → res = (some (qO x), μ) → W p l e R s m args below meth c H locs cells slots Q (F0 m pc ls [va_rf (x.map ad)]))
    (HRv : decode cc pc = .ok (.return_, 1) → ret = none → res = (none, μ) → W p l e R s m args below meth c H locs cells slots Q (F0 m pc ls []))
    (Hnx : ∀ (ls : Array Slot) (L : QL) (st : List QV) (μ : QM) (H : Heap) (locs : List Loc), qSt ad sc nL cA D A H0 ls L st μ H locs → nx L st μ = some res → W p l e R s m args below meth c H locs cells slots Q (F0 m (pc + len) ls (st.map (qenc ad))))
    (Hjp : ∀ (off : Int) (t : Nat) (st : List QV), off ∈ qoffs o → (pc : Int) + off = (t : Int) → qSt ad sc nL cA D A H0 ls L st μ H locs → jp off L st μ = some res → W p l e R s m args below meth c H locs cells slots Q (F0 m t ls (st.map (qenc ad))))
    (h : qop call nx jp o L st μ = some res) : W p l e R s m args below meth c H locs cells slots Q (F0 m pc ls (st.map (qenc ad))) := by
  obtain ⟨hx, hb, hml, hown, hts, hK, hNs⟩ := E
  obtain ⟨hL, hst, hW⟩ := hS
  have jt : ∀ off ∈ qoffs o, ∃ t : Nat, (pc : Int) + off = (t : Int) := fun off ho => ⟨((pc : Int) + off).toNat, (Int.toNat_of_nonneg (hjo off ho)).symm⟩
  cases o
  case sipush n =>
    have hN := Hnx _ _ _ _ _ _ ⟨hL, q_cons (v := qI (Int32.ofInt n)) trivial hst, hW⟩ h
    rcases List.mem_append.mp hm with hm | hm
    · cases List.mem_singleton.mp hm
      exact lv_iconst hx hb hd rfl hN
    rcases List.mem_append.mp hm with hm | hm
    · obtain ⟨h1, h2⟩ := q_one hm
      cases h2
      exact lv_bipush hx hb hd h1 hN
    rcases List.mem_append.mp hm with hm | hm
    · obtain ⟨h1, h2⟩ := q_one hm
      cases h2
      exact lv_sipush hx hb hd h1 hN
    · obtain ⟨⟨o1, cp, v, idx⟩, he, h2⟩ := q_flat hm
      have h0 := qct_ok _ he
      by_cases hc : o1 = own ∧ v = n
      · rw [if_pos hc] at h2
        obtain ⟨rfl, rfl⟩ := hc
        rcases List.mem_cons.mp h2 with h2 | h2
        · cases h2
          exact lv_ldc hx hb hown (hts _ (gtb_at h0 rfl)) hd hN
        · cases List.mem_singleton.mp h2
          exact lv_ldcw hx hb hown (hts _ (gtb_at h0 rfl)) hd hN
      · rw [if_neg hc] at h2
        cases h2
  case goto_w n =>
    have hN := Hnx _ _ _ _ _ _ ⟨hL, q_cons (v := qL (Int64.ofInt n)) trivial hst, hW⟩ h
    rcases List.mem_append.mp hm with hm | hm
    · by_cases h0 : n = 0
      · rw [if_pos h0] at hm
        cases List.mem_singleton.mp hm
        subst h0
        exact lv_lconst hx hb hd rfl hN
      · rw [if_neg h0] at hm
        obtain ⟨h1, h2⟩ := q_one hm
        cases h2
        subst h1
        exact lv_lconst hx hb hd rfl hN
    · obtain ⟨⟨o1, cp, v, idx⟩, he, hm2⟩ := q_flat hm
      have h0 := qclt_ok _ he
      obtain ⟨⟨e1, e2⟩, h2⟩ := q_one hm2
      dsimp only at e1 e2 h0
      subst e1
      subst e2
      cases h2
      exact lv_ldc2 hx hb hown (hts _ (gtb_at h0 rfl)) hd hN
  case aconst_null =>
    cases List.mem_singleton.mp hm
    exact lv_null hx hb hd (Hnx _ _ _ _ _ _ ⟨hL, q_cons (v := qO none) trivial hst, hW⟩ h)
  case iload i =>
    rcases hq : L[i]? with _ | _ | x | x | x
    · simp only [qop, hq] at h
      exact q_no h
    · simp only [qop, hq] at h
      exact q_no h
    · simp only [qop, hq] at h
      obtain ⟨hv, hl⟩ := hL.2.2.2 _ _ hq
      have hN := Hnx _ _ _ _ _ _ ⟨hL, q_cons hv hst, hW⟩ h
      rcases q_done hm with ⟨hc, h2⟩ | h2
      · cases h2
        exact lv_iload_n hx hb hd rfl hl hN
      · cases h2
        exact lv_iload hx hb hd hl hN
    · simp only [qop, hq] at h
      exact q_no h
    · simp only [qop, hq] at h
      exact q_no h
  case lload i =>
    rcases hq : L[i]? with _ | _ | x | x | x
    · simp only [qop, hq] at h
      exact q_no h
    · simp only [qop, hq] at h
      exact q_no h
    · simp only [qop, hq] at h
      exact q_no h
    · simp only [qop, hq] at h
      obtain ⟨hv, hl⟩ := hL.2.2.2 _ _ hq
      have hN := Hnx _ _ _ _ _ _ ⟨hL, q_cons hv hst, hW⟩ h
      rcases q_done hm with ⟨hc, h2⟩ | h2
      · cases h2
        exact lv_lload_n hx hb hd rfl hl hN
      · cases h2
        exact lv_lload hx hb hd hl hN
    · simp only [qop, hq] at h
      exact q_no h
  case aload i =>
    rcases hq : L[i]? with _ | _ | x | x | x
    · simp only [qop, hq] at h
      exact q_no h
    · simp only [qop, hq] at h
      exact q_no h
    · simp only [qop, hq] at h
      exact q_no h
    · simp only [qop, hq] at h
      exact q_no h
    · simp only [qop, hq] at h
      obtain ⟨hv, hl⟩ := hL.2.2.2 _ _ hq
      have hN := Hnx _ _ _ _ _ _ ⟨hL, q_cons hv hst, hW⟩ h
      rcases q_done hm with ⟨hc, h2⟩ | h2
      · cases h2
        rcases x with _ | x
        · exact lv_aload_nN hx hb hd rfl hl hN
        · exact lv_aload_n hx hb hd rfl hl hN
      · cases h2
        rcases x with _ | x
        · exact lv_aloadN hx hb hd hl hN
        · exact lv_aload hx hb hd hl hN
  case istore i =>
    rcases st with _ | ⟨v0, t0⟩
    · exact q_no h
    rcases v0 with x0 | x0
    · obtain ⟨hi, h⟩ := q_ite h
      rw [hL.2.2.1] at hi
      have hv := hst _ List.mem_cons_self
      rcases q_done hm with ⟨hc, h2⟩ | h2
      · cases h2
        exact lv_istore_n hx hb hd rfl hL.has hi rfl (fun ls2 hl2 => Hnx _ _ _ _ _ _ ⟨hL.put1 hv hl2, q_tl hst, hW⟩ h)
      · cases h2
        exact lv_istore hx hb hd hL.has hi rfl (fun ls2 hl2 => Hnx _ _ _ _ _ _ ⟨hL.put1 hv hl2, q_tl hst, hW⟩ h)
    · exact q_no h
  case lstore i =>
    rcases st with _ | ⟨v0, t0⟩
    · exact q_no h
    rcases v0 with x0 | x0 | x0
    · exact q_no h
    · obtain ⟨hi, h⟩ := q_ite h
      rw [hL.2.2.1] at hi
      have hv := hst _ List.mem_cons_self
      rcases q_done hm with ⟨hc, h2⟩ | h2
      · cases h2
        exact lv_lstore_n hx hb hd rfl hL.has hi rfl (fun ls2 hl2 => Hnx _ _ _ _ _ _ ⟨hL.put2 hv hl2, q_tl hst, hW⟩ h)
      · cases h2
        exact lv_lstore hx hb hd hL.has hi rfl (fun ls2 hl2 => Hnx _ _ _ _ _ _ ⟨hL.put2 hv hl2, q_tl hst, hW⟩ h)
    · exact q_no h
  case astore i =>
    rcases st with _ | ⟨v0, t0⟩
    · exact q_no h
    rcases v0 with x0 | x0 | x0
    · exact q_no h
    · exact q_no h
    · obtain ⟨hi, h⟩ := q_ite h
      rw [hL.2.2.1] at hi
      have hv := hst _ List.mem_cons_self
      rcases q_done hm with ⟨hc, h2⟩ | h2
      · cases h2
        rcases x0 with _ | x0
        · exact lv_astore_nN hx hb hd rfl hL.has hi rfl (fun ls2 hl2 => Hnx _ _ _ _ _ _ ⟨hL.put1 hv hl2, q_tl hst, hW⟩ h)
        · exact lv_astore_n hx hb hd rfl hL.has hi rfl (fun ls2 hl2 => Hnx _ _ _ _ _ _ ⟨hL.put1 hv hl2, q_tl hst, hW⟩ h)
      · cases h2
        rcases x0 with _ | x0
        · exact lv_astoreN hx hb hd hL.has hi rfl (fun ls2 hl2 => Hnx _ _ _ _ _ _ ⟨hL.put1 hv hl2, q_tl hst, hW⟩ h)
        · exact lv_astore hx hb hd hL.has hi rfl (fun ls2 hl2 => Hnx _ _ _ _ _ _ ⟨hL.put1 hv hl2, q_tl hst, hW⟩ h)
  case iinc i n =>
    rcases hq : L[i]? with _ | _ | x | x | x
    · simp only [qop, hq] at h
      exact q_no h
    · simp only [qop, hq] at h
      exact q_no h
    · simp only [qop, hq] at h
      have hmem := (mem_qtoL (ad := ad) (L := L) (q := (i, Value.int x))).mpr ⟨qI x, hq, rfl⟩
      obtain ⟨k, hk⟩ := List.getElem?_of_mem hmem
      have hi : i < nL := by rw [← hL.2.2.1]; exact (List.getElem?_eq_some_iff.mp hq).1
      cases List.mem_singleton.mp hm
      exact lv_iinc hx hb hd hL.has hk rfl hi rfl (fun ls2 hl2 => Hnx _ _ _ _ _ _ ⟨hL.put1 (v := qI (x + Int32.ofInt n)) trivial hl2, hst, hW⟩ h)
    · simp only [qop, hq] at h
      exact q_no h
    · simp only [qop, hq] at h
      exact q_no h
  case dup =>
    cases List.mem_singleton.mp hm
    rcases st with _ | ⟨x | x | x, st⟩
    · exact q_no h
    · exact lv_dup hx hb hd rfl (Hnx _ _ _ _ _ _ ⟨hL, q_cons (v := qI x) trivial hst, hW⟩ h)
    · exact q_no h
    · exact lv_dup hx hb hd (by rw [qcat_enc]; rfl) (Hnx _ _ _ _ _ _ ⟨hL, q_cons (v := qO x) (hst _ List.mem_cons_self) hst, hW⟩ h)
  case pop =>
    cases List.mem_singleton.mp hm
    rcases st with _ | ⟨x | x | x, st⟩
    · exact q_no h
    · exact lv_pop hx hb hd rfl (Hnx _ _ _ _ _ _ ⟨hL, q_tl hst, hW⟩ h)
    · exact q_no h
    · exact lv_pop hx hb hd (by rw [qcat_enc]; rfl) (Hnx _ _ _ _ _ _ ⟨hL, q_tl hst, hW⟩ h)
  case dup2 =>
    cases List.mem_singleton.mp hm
    rcases st with _ | ⟨v0, t0⟩
    · exact q_no h
    rcases v0 with x0 | x0
    · rcases t0 with _ | ⟨v1, t1⟩
      · exact q_no h
      rcases v1 with x1 | x1 | x1
      · exact q_no h
      · exact q_no h
      · exact lv_dup2_11 hx hb hd rfl (by rw [qcat_enc]; rfl) (Hnx _ _ _ _ _ _ ⟨hL, q_cons (v := qI x0) trivial (q_cons (v := qO x1) (hst _ (List.mem_cons_of_mem _ List.mem_cons_self)) hst), hW⟩ h)
    · exact q_no h
  case iadd =>
    cases List.mem_singleton.mp hm
    rcases st with _ | ⟨v0, t0⟩
    · exact q_no h
    rcases v0 with x0 | x0
    · rcases t0 with _ | ⟨v1, t1⟩
      · exact q_no h
      rcases v1 with x1 | x1
      · exact lv_iadd hx hb hd (Hnx _ _ _ _ _ _ ⟨hL, q_cons (v := qI (x1 + x0)) trivial (q_tl (q_tl hst)), hW⟩ h)
      · exact q_no h
    · exact q_no h
  case isub =>
    cases List.mem_singleton.mp hm
    rcases st with _ | ⟨v0, t0⟩
    · exact q_no h
    rcases v0 with x0 | x0
    · rcases t0 with _ | ⟨v1, t1⟩
      · exact q_no h
      rcases v1 with x1 | x1
      · exact lv_isub hx hb hd (Hnx _ _ _ _ _ _ ⟨hL, q_cons (v := qI (x1 - x0)) trivial (q_tl (q_tl hst)), hW⟩ h)
      · exact q_no h
    · exact q_no h
  case imul =>
    cases List.mem_singleton.mp hm
    rcases st with _ | ⟨v0, t0⟩
    · exact q_no h
    rcases v0 with x0 | x0
    · rcases t0 with _ | ⟨v1, t1⟩
      · exact q_no h
      rcases v1 with x1 | x1
      · exact lv_imul hx hb hd (Hnx _ _ _ _ _ _ ⟨hL, q_cons (v := qI (x1 * x0)) trivial (q_tl (q_tl hst)), hW⟩ h)
      · exact q_no h
    · exact q_no h
  case iand =>
    cases List.mem_singleton.mp hm
    rcases st with _ | ⟨v0, t0⟩
    · exact q_no h
    rcases v0 with x0 | x0
    · rcases t0 with _ | ⟨v1, t1⟩
      · exact q_no h
      rcases v1 with x1 | x1
      · exact lv_iand hx hb hd (Hnx _ _ _ _ _ _ ⟨hL, q_cons (v := qI (x1 &&& x0)) trivial (q_tl (q_tl hst)), hW⟩ h)
      · exact q_no h
    · exact q_no h
  case ior =>
    cases List.mem_singleton.mp hm
    rcases st with _ | ⟨v0, t0⟩
    · exact q_no h
    rcases v0 with x0 | x0
    · rcases t0 with _ | ⟨v1, t1⟩
      · exact q_no h
      rcases v1 with x1 | x1
      · exact lv_ior hx hb hd (Hnx _ _ _ _ _ _ ⟨hL, q_cons (v := qI (x1 ||| x0)) trivial (q_tl (q_tl hst)), hW⟩ h)
      · exact q_no h
    · exact q_no h
  case ixor =>
    cases List.mem_singleton.mp hm
    rcases st with _ | ⟨v0, t0⟩
    · exact q_no h
    rcases v0 with x0 | x0
    · rcases t0 with _ | ⟨v1, t1⟩
      · exact q_no h
      rcases v1 with x1 | x1
      · exact lv_ixor hx hb hd (Hnx _ _ _ _ _ _ ⟨hL, q_cons (v := qI (x1 ^^^ x0)) trivial (q_tl (q_tl hst)), hW⟩ h)
      · exact q_no h
    · exact q_no h
  case ishl =>
    cases List.mem_singleton.mp hm
    rcases st with _ | ⟨v0, t0⟩
    · exact q_no h
    rcases v0 with x0 | x0
    · rcases t0 with _ | ⟨v1, t1⟩
      · exact q_no h
      rcases v1 with x1 | x1
      · exact lv_ishl hx hb hd (Hnx _ _ _ _ _ _ ⟨hL, q_cons (v := qI (x1 <<< (x0 &&& 31))) trivial (q_tl (q_tl hst)), hW⟩ h)
      · exact q_no h
    · exact q_no h
  case ishr =>
    cases List.mem_singleton.mp hm
    rcases st with _ | ⟨v0, t0⟩
    · exact q_no h
    rcases v0 with x0 | x0
    · rcases t0 with _ | ⟨v1, t1⟩
      · exact q_no h
      rcases v1 with x1 | x1
      · exact lv_ishr hx hb hd (Hnx _ _ _ _ _ _ ⟨hL, q_cons (v := qI (x1 >>> (x0 &&& 31))) trivial (q_tl (q_tl hst)), hW⟩ h)
      · exact q_no h
    · exact q_no h
  case iushr =>
    cases List.mem_singleton.mp hm
    rcases st with _ | ⟨v0, t0⟩
    · exact q_no h
    rcases v0 with x0 | x0
    · rcases t0 with _ | ⟨v1, t1⟩
      · exact q_no h
      rcases v1 with x1 | x1
      · exact lv_iushr hx hb hd rfl (Hnx _ _ _ _ _ _ ⟨hL, q_cons (v := qI (x1.toUInt32 >>> (x0.toUInt32 &&& Int32.toUInt32 31)).toInt32) trivial (q_tl (q_tl hst)), hW⟩ h)
      · exact q_no h
    · exact q_no h
  case idiv =>
    cases List.mem_singleton.mp hm
    rcases st with _ | ⟨v0, t0⟩
    · exact q_no h
    rcases v0 with x0 | x0
    · rcases t0 with _ | ⟨v1, t1⟩
      · exact q_no h
      rcases v1 with x1 | x1
      · obtain ⟨hne, h⟩ := q_iteN h
        exact lv_idiv hx hb hd hne (Hnx _ _ _ _ _ _ ⟨hL, q_cons (v := qI (x1 / x0)) trivial (q_tl (q_tl hst)), hW⟩ h)
      · exact q_no h
    · exact q_no h
  case irem =>
    cases List.mem_singleton.mp hm
    rcases st with _ | ⟨v0, t0⟩
    · exact q_no h
    rcases v0 with x0 | x0
    · rcases t0 with _ | ⟨v1, t1⟩
      · exact q_no h
      rcases v1 with x1 | x1
      · obtain ⟨hne, h⟩ := q_iteN h
        exact lv_irem hx hb hd hne (Hnx _ _ _ _ _ _ ⟨hL, q_cons (v := qI (x1 - x1 / x0 * x0)) trivial (q_tl (q_tl hst)), hW⟩ h)
      · exact q_no h
    · exact q_no h
  case ineg =>
    cases List.mem_singleton.mp hm
    rcases st with _ | ⟨v0, t0⟩
    · exact q_no h
    rcases v0 with x0 | x0
    · exact lv_ineg hx hb hd (Hnx _ _ _ _ _ _ ⟨hL, q_cons (v := qI (-x0)) trivial (q_tl hst), hW⟩ h)
    · exact q_no h
  case ladd =>
    cases List.mem_singleton.mp hm
    rcases st with _ | ⟨v0, t0⟩
    · exact q_no h
    rcases v0 with x0 | x0 | x0
    · exact q_no h
    · rcases t0 with _ | ⟨v1, t1⟩
      · exact q_no h
      rcases v1 with x1 | x1 | x1
      · exact q_no h
      · exact lv_ladd hx hb hd (Hnx _ _ _ _ _ _ ⟨hL, q_cons (v := qL (x1 + x0)) trivial (q_tl (q_tl hst)), hW⟩ h)
      · exact q_no h
    · exact q_no h
  case lsub =>
    cases List.mem_singleton.mp hm
    rcases st with _ | ⟨v0, t0⟩
    · exact q_no h
    rcases v0 with x0 | x0 | x0
    · exact q_no h
    · rcases t0 with _ | ⟨v1, t1⟩
      · exact q_no h
      rcases v1 with x1 | x1 | x1
      · exact q_no h
      · exact lv_lsub hx hb hd (Hnx _ _ _ _ _ _ ⟨hL, q_cons (v := qL (x1 - x0)) trivial (q_tl (q_tl hst)), hW⟩ h)
      · exact q_no h
    · exact q_no h
  case lmul =>
    cases List.mem_singleton.mp hm
    rcases st with _ | ⟨v0, t0⟩
    · exact q_no h
    rcases v0 with x0 | x0 | x0
    · exact q_no h
    · rcases t0 with _ | ⟨v1, t1⟩
      · exact q_no h
      rcases v1 with x1 | x1 | x1
      · exact q_no h
      · exact lv_lmul hx hb hd (Hnx _ _ _ _ _ _ ⟨hL, q_cons (v := qL (x1 * x0)) trivial (q_tl (q_tl hst)), hW⟩ h)
      · exact q_no h
    · exact q_no h
  case lor =>
    cases List.mem_singleton.mp hm
    rcases st with _ | ⟨v0, t0⟩
    · exact q_no h
    rcases v0 with x0 | x0 | x0
    · exact q_no h
    · rcases t0 with _ | ⟨v1, t1⟩
      · exact q_no h
      rcases v1 with x1 | x1 | x1
      · exact q_no h
      · exact lv_lor hx hb hd (Hnx _ _ _ _ _ _ ⟨hL, q_cons (v := qL (x1 ||| x0)) trivial (q_tl (q_tl hst)), hW⟩ h)
      · exact q_no h
    · exact q_no h
  case ldiv =>
    cases List.mem_singleton.mp hm
    rcases st with _ | ⟨v0, t0⟩
    · exact q_no h
    rcases v0 with x0 | x0 | x0
    · exact q_no h
    · rcases t0 with _ | ⟨v1, t1⟩
      · exact q_no h
      rcases v1 with x1 | x1 | x1
      · exact q_no h
      · obtain ⟨hne, h⟩ := q_iteN h
        exact lv_ldiv hx hb hd hne (Hnx _ _ _ _ _ _ ⟨hL, q_cons (v := qL (x1 / x0)) trivial (q_tl (q_tl hst)), hW⟩ h)
      · exact q_no h
    · exact q_no h
  case lrem =>
    cases List.mem_singleton.mp hm
    rcases st with _ | ⟨v0, t0⟩
    · exact q_no h
    rcases v0 with x0 | x0 | x0
    · exact q_no h
    · rcases t0 with _ | ⟨v1, t1⟩
      · exact q_no h
      rcases v1 with x1 | x1 | x1
      · exact q_no h
      · obtain ⟨hne, h⟩ := q_iteN h
        exact lv_lrem hx hb hd hne (Hnx _ _ _ _ _ _ ⟨hL, q_cons (v := qL (x1 - x1 / x0 * x0)) trivial (q_tl (q_tl hst)), hW⟩ h)
      · exact q_no h
    · exact q_no h
  case lshl =>
    cases List.mem_singleton.mp hm
    rcases st with _ | ⟨v0, t0⟩
    · exact q_no h
    rcases v0 with x0 | x0
    · rcases t0 with _ | ⟨v1, t1⟩
      · exact q_no h
      rcases v1 with x1 | x1 | x1
      · exact q_no h
      · exact lv_lshl hx hb hd rfl (Hnx _ _ _ _ _ _ ⟨hL, q_cons (v := qL (x1 <<< (x0.toInt64 &&& 63))) trivial (q_tl (q_tl hst)), hW⟩ h)
      · exact q_no h
    · exact q_no h
  case i2l =>
    cases List.mem_singleton.mp hm
    rcases st with _ | ⟨v0, t0⟩
    · exact q_no h
    rcases v0 with x0 | x0
    · exact lv_i2l hx hb hd rfl (Hnx _ _ _ _ _ _ ⟨hL, q_cons (v := qL x0.toInt64) trivial (q_tl hst), hW⟩ h)
    · exact q_no h
  case lcmp =>
    cases List.mem_singleton.mp hm
    rcases st with _ | ⟨v0, t0⟩
    · exact q_no h
    rcases v0 with x0 | x0 | x0
    · exact q_no h
    · rcases t0 with _ | ⟨v1, t1⟩
      · exact q_no h
      rcases v1 with x1 | x1 | x1
      · exact q_no h
      · exact W.lcmp hx hb hd (Hnx _ _ _ _ _ _ ⟨hL, q_cons (v := qI (lg_cmp x1 x0)) trivial (q_tl (q_tl hst)), hW⟩ h)
      · exact q_no h
    · exact q_no h
  case fadd =>
    obtain ⟨⟨o1, cp, v, idx⟩, he, hm2⟩ := q_flat hm
    have h0 := (qxt_ok _ he).2
    obtain ⟨⟨e1, hv0⟩, h2⟩ := q_one hm2
    dsimp only at h0 hv0 e1
    subst hv0
    subst e1
    cases h2
    rcases st with _ | ⟨v0, t0⟩
    · exact q_no h
    rcases v0 with x0 | x0
    · rcases t0 with _ | ⟨v1, t1⟩
      · exact q_no h
      rcases v1 with x1 | x1
      · obtain ⟨hwd, h⟩ := q_ite h
        exact va_mmax hx hb (hml.trans hL.1.symm) hown (hts _ (gtb_at h0 rfl)) (hts _ (gtb_of qx_max_st rfl)) (hts _ (gtb_of qx_ini rfl)) (hts _ (gtb_of qx_max_cd rfl)) hR.1 (by rw [qwd_enc]; omega) hR.2.2.1 hR.2.2.2 hd (Hnx _ _ _ _ _ _ ⟨hL, q_cons (v := qI (if x1 < x0 then x0 else x1)) trivial (q_tl (q_tl hst)), hW⟩ h)
      · exact q_no h
    · exact q_no h
  case fsub =>
    obtain ⟨⟨o1, cp, v, idx⟩, he, hm2⟩ := q_flat hm
    have h0 := (qxt_ok _ he).2
    obtain ⟨⟨e1, hv0⟩, h2⟩ := q_one hm2
    dsimp only at h0 hv0 e1
    subst hv0
    subst e1
    cases h2
    rcases st with _ | ⟨v0, t0⟩
    · exact q_no h
    rcases v0 with x0 | x0
    · rcases t0 with _ | ⟨v1, t1⟩
      · exact q_no h
      rcases v1 with x1 | x1
      · obtain ⟨hwd, h⟩ := q_ite h
        exact va_mmin hx hb (hml.trans hL.1.symm) hown (hts _ (gtb_at h0 rfl)) (hts _ (gtb_of qx_min_st rfl)) (hts _ (gtb_of qx_ini rfl)) (hts _ (gtb_of qx_min_cd rfl)) hR.1 (by rw [qwd_enc]; omega) hR.2.2.1 hR.2.2.2 hd (Hnx _ _ _ _ _ _ ⟨hL, q_cons (v := qI (if x0 < x1 then x0 else x1)) trivial (q_tl (q_tl hst)), hW⟩ h)
      · exact q_no h
    · exact q_no h
  case fneg =>
    obtain ⟨⟨o1, cp, v, idx⟩, he, hm2⟩ := q_flat hm
    have h0 := (qxt_ok _ he).2
    obtain ⟨⟨e1, hv0⟩, h2⟩ := q_one hm2
    dsimp only at h0 hv0 e1
    subst hv0
    subst e1
    cases h2
    rcases st with _ | ⟨v0, t0⟩
    · exact q_no h
    rcases v0 with x0 | x0
    · obtain ⟨hwd, h⟩ := q_ite h
      exact va_mabs hx hb (hml.trans hL.1.symm) hown (hts _ (gtb_at h0 rfl)) (hts _ (gtb_of qx_abs_st rfl)) (hts _ (gtb_of qx_ini rfl)) (hts _ (gtb_of qx_abs_cd rfl)) hR.1 (by rw [qwd_enc]; omega) hR.2.2.1 hR.2.2.2 hd (Hnx _ _ _ _ _ _ ⟨hL, q_cons (v := qI (if 0 ≤ x0 then x0 else 0 - x0)) trivial (q_tl hst), hW⟩ h)
    · exact q_no h
  case ifCond c off =>
    cases List.mem_singleton.mp hm
    rcases st with _ | ⟨v0, t0⟩
    · exact q_no h
    rcases v0 with x0 | x0
    · obtain ⟨t, ht⟩ := jt off (List.mem_singleton.mpr rfl)
      cases c <;> simp only [qop, qcond] at h
      · refine lv_if_eq hx hb hd ht (fun hc => ?_) (fun hc => ?_)
        · rw [if_pos hc] at h
          exact Hjp off t _ (List.mem_singleton.mpr rfl) ht ⟨hL, (q_tl hst), hW⟩ h
        · rw [if_neg hc] at h
          exact Hnx _ _ _ _ _ _ ⟨hL, (q_tl hst), hW⟩ h
      · refine lv_if_ne hx hb hd ht (fun hc => ?_) (fun hc => ?_)
        · rw [if_neg hc] at h
          exact Hjp off t _ (List.mem_singleton.mpr rfl) ht ⟨hL, (q_tl hst), hW⟩ h
        · rw [if_pos hc] at h
          exact Hnx _ _ _ _ _ _ ⟨hL, (q_tl hst), hW⟩ h
      · refine lv_if_lt hx hb hd ht (fun hc => ?_) (fun hc => ?_)
        · rw [if_pos hc] at h
          exact Hjp off t _ (List.mem_singleton.mpr rfl) ht ⟨hL, (q_tl hst), hW⟩ h
        · rw [if_neg hc] at h
          exact Hnx _ _ _ _ _ _ ⟨hL, (q_tl hst), hW⟩ h
      · refine lv_if_ge hx hb hd ht (fun hc => ?_) (fun hc => ?_)
        · rw [if_pos hc] at h
          exact Hjp off t _ (List.mem_singleton.mpr rfl) ht ⟨hL, (q_tl hst), hW⟩ h
        · rw [if_neg hc] at h
          exact Hnx _ _ _ _ _ _ ⟨hL, (q_tl hst), hW⟩ h
      · refine lv_if_gt hx hb hd ht (fun hc => ?_) (fun hc => ?_)
        · rw [if_pos hc] at h
          exact Hjp off t _ (List.mem_singleton.mpr rfl) ht ⟨hL, (q_tl hst), hW⟩ h
        · rw [if_neg hc] at h
          exact Hnx _ _ _ _ _ _ ⟨hL, (q_tl hst), hW⟩ h
      · refine lv_if_le hx hb hd ht (fun hc => ?_) (fun hc => ?_)
        · rw [if_pos hc] at h
          exact Hjp off t _ (List.mem_singleton.mpr rfl) ht ⟨hL, (q_tl hst), hW⟩ h
        · rw [if_neg hc] at h
          exact Hnx _ _ _ _ _ _ ⟨hL, (q_tl hst), hW⟩ h
    · exact q_no h
  case if_icmp c off =>
    cases List.mem_singleton.mp hm
    rcases st with _ | ⟨v0, t0⟩
    · exact q_no h
    rcases v0 with x0 | x0
    · rcases t0 with _ | ⟨v1, t1⟩
      · exact q_no h
      rcases v1 with x1 | x1
      · obtain ⟨t, ht⟩ := jt off (List.mem_singleton.mpr rfl)
        cases c <;> simp only [qop, qcond] at h
        · refine lv_icmp_eq hx hb hd ht (fun hc => ?_) (fun hc => ?_)
          · rw [if_pos hc] at h
            exact Hjp off t _ (List.mem_singleton.mpr rfl) ht ⟨hL, (q_tl (q_tl hst)), hW⟩ h
          · rw [if_neg hc] at h
            exact Hnx _ _ _ _ _ _ ⟨hL, (q_tl (q_tl hst)), hW⟩ h
        · refine lv_icmp_ne hx hb hd ht (fun hc => ?_) (fun hc => ?_)
          · rw [if_neg hc] at h
            exact Hjp off t _ (List.mem_singleton.mpr rfl) ht ⟨hL, (q_tl (q_tl hst)), hW⟩ h
          · rw [if_pos hc] at h
            exact Hnx _ _ _ _ _ _ ⟨hL, (q_tl (q_tl hst)), hW⟩ h
        · refine lv_icmp_lt hx hb hd ht (fun hc => ?_) (fun hc => ?_)
          · rw [if_pos hc] at h
            exact Hjp off t _ (List.mem_singleton.mpr rfl) ht ⟨hL, (q_tl (q_tl hst)), hW⟩ h
          · rw [if_neg hc] at h
            exact Hnx _ _ _ _ _ _ ⟨hL, (q_tl (q_tl hst)), hW⟩ h
        · refine lv_icmp_ge hx hb hd ht (fun hc => ?_) (fun hc => ?_)
          · rw [if_pos hc] at h
            exact Hjp off t _ (List.mem_singleton.mpr rfl) ht ⟨hL, (q_tl (q_tl hst)), hW⟩ h
          · rw [if_neg hc] at h
            exact Hnx _ _ _ _ _ _ ⟨hL, (q_tl (q_tl hst)), hW⟩ h
        · refine lv_icmp_gt hx hb hd ht (fun hc => ?_) (fun hc => ?_)
          · rw [if_pos hc] at h
            exact Hjp off t _ (List.mem_singleton.mpr rfl) ht ⟨hL, (q_tl (q_tl hst)), hW⟩ h
          · rw [if_neg hc] at h
            exact Hnx _ _ _ _ _ _ ⟨hL, (q_tl (q_tl hst)), hW⟩ h
        · refine lv_icmp_le hx hb hd ht (fun hc => ?_) (fun hc => ?_)
          · rw [if_pos hc] at h
            exact Hjp off t _ (List.mem_singleton.mpr rfl) ht ⟨hL, (q_tl (q_tl hst)), hW⟩ h
          · rw [if_neg hc] at h
            exact Hnx _ _ _ _ _ _ ⟨hL, (q_tl (q_tl hst)), hW⟩ h
      · exact q_no h
    · exact q_no h
  case if_acmp c off =>
    obtain ⟨h8, hm1⟩ := q_one hm
    cases hm1
    have hsc : ¬ sc = true := fun z => h8 (hs8 z)
    obtain ⟨t, ht⟩ := jt off (List.mem_singleton.mpr rfl)
    rcases st with _ | ⟨v0, t0⟩
    · exact q_no h
    rcases v0 with x0 | x0 | x0
    · exact q_no h
    · exact q_no h
    · rcases t0 with _ | ⟨v1, t1⟩
      · exact q_no h
      rcases v1 with x1 | x1 | x1
      · exact q_no h
      · exact q_no h
      · have hinj : x1.map ad = x0.map ad → x1 = x0 := by
          intro he
          have ok1 := hst _ (List.mem_cons_of_mem _ List.mem_cons_self)
          have ok0 := hst _ List.mem_cons_self
          rcases x1 with _ | x1 <;> rcases x0 with _ | x0
          · rfl
          · cases he
          · cases he
          · rcases ok1 with ok1 | ⟨z, -⟩
            · rcases ok0 with ok0 | ⟨z, -⟩
              · exact congrArg some (hW.inj ok1 ok0 (Option.some.inj he))
              · exact absurd z hsc
            · exact absurd z hsc
        cases c <;> simp only [qop] at h
        · refine lv_acmp_eq hx hb hd ht (fun hc => ?_) (fun hc => ?_)
          · rw [if_pos (hinj hc)] at h
            exact Hjp off t _ (List.mem_singleton.mpr rfl) ht ⟨hL, (q_tl (q_tl hst)), hW⟩ h
          · rw [if_neg (fun e => hc (by rw [e]))] at h
            exact Hnx _ _ _ _ _ _ ⟨hL, (q_tl (q_tl hst)), hW⟩ h
        · refine lv_acmp_ne hx hb hd ht (fun hc => ?_) (fun hc => ?_)
          · rw [if_neg (fun e => hc (by rw [e]))] at h
            exact Hjp off t _ (List.mem_singleton.mpr rfl) ht ⟨hL, (q_tl (q_tl hst)), hW⟩ h
          · rw [if_pos (hinj hc)] at h
            exact Hnx _ _ _ _ _ _ ⟨hL, (q_tl (q_tl hst)), hW⟩ h
  case ifnull off =>
    cases List.mem_singleton.mp hm
    obtain ⟨t, ht⟩ := jt off (List.mem_singleton.mpr rfl)
    rcases st with _ | ⟨x | x | _ | x, st⟩
    · exact q_no h
    · exact q_no h
    · exact q_no h
    · exact lv_ifnullN hx hb hd ht (Hjp off t _ (List.mem_singleton.mpr rfl) ht ⟨hL, q_tl hst, hW⟩ h)
    · exact lv_ifnull hx hb hd (Hnx _ _ _ _ _ _ ⟨hL, q_tl hst, hW⟩ h)
  case ifnonnull off =>
    cases List.mem_singleton.mp hm
    obtain ⟨t, ht⟩ := jt off (List.mem_singleton.mpr rfl)
    rcases st with _ | ⟨x | x | _ | x, st⟩
    · exact q_no h
    · exact q_no h
    · exact q_no h
    · exact lv_ifnonnullN hx hb hd (Hnx _ _ _ _ _ _ ⟨hL, q_tl hst, hW⟩ h)
    · exact lv_ifnonnull hx hb hd ht (Hjp off t _ (List.mem_singleton.mpr rfl) ht ⟨hL, q_tl hst, hW⟩ h)
  case goto off =>
    cases List.mem_singleton.mp hm
    obtain ⟨t, ht⟩ := jt off (List.mem_singleton.mpr rfl)
    exact lv_goto hx hb hd ht (Hjp off t _ (List.mem_singleton.mpr rfl) ht ⟨hL, hst, hW⟩ h)
  case tableswitch d lo hi offs =>
    obtain ⟨⟨hn, hlo, hhi⟩, h2⟩ := q_one hm
    cases h2
    rcases st with _ | ⟨v0, t0⟩
    · exact q_no h
    rcases v0 with x0 | x0
    · rcases qsw_tab offs.toList lo hlo (by omega) h with ⟨h3, h4⟩ | ⟨i, off, h3, h4, h5⟩
      · obtain ⟨t, ht⟩ := jt d List.mem_cons_self
        exact lv_tableOut hx hb hd (by omega) ht (Hjp d t _ List.mem_cons_self ht ⟨hL, q_tl hst, hW⟩ h4)
      · have hmem : off ∈ qoffs (.tableswitch d lo hi offs) := List.mem_cons_of_mem _ (List.mem_of_getElem? h3)
        obtain ⟨t, ht⟩ := jt off hmem
        have hi2 : i < offs.toList.length := (List.getElem?_eq_some_iff.mp h3).1
        refine lv_tableIn hx hb hd (by omega) (by omega) (off := off) ?_ ht (Hjp off t _ hmem ht ⟨hL, q_tl hst, hW⟩ h5)
        rw [show (x0.toInt - lo).toNat = i by omega, ← Array.getElem?_toList]
        exact h3
    · exact q_no h
  case lookupswitch d ps =>
    obtain ⟨⟨hp, hr⟩, h2⟩ := q_one hm
    cases h2
    rcases st with _ | ⟨v0, t0⟩
    · exact q_no h
    rcases v0 with x0 | x0
    · obtain ⟨off, h3, h4, h5⟩ := qsw_lk ps.toList hr h
      obtain ⟨t, ht⟩ := jt off h4
      exact lv_lookup hx hb hd hp h3 ht (Hjp off t _ h4 ht ⟨hL, q_tl hst, hW⟩ h5)
    · exact q_no h
  case getfield r =>
    obtain ⟨⟨o1, cp, r1, nest, idx⟩, he, hm2⟩ := q_flat hm
    obtain ⟨h0, hci, hk⟩ := qft_ok _ he
    obtain ⟨⟨e1, e2, h8⟩, h2⟩ := q_one hm2
    dsimp only at h0 hci hk e1 e2
    subst e1
    subst e2
    cases h2
    have hsc : ¬ sc = true := fun z => h8 (hs8 z)
    rcases st with _ | ⟨v0, t0⟩
    · exact q_no h
    rcases v0 with x0 | x0 | _ | x0
    · exact q_no h
    · exact q_no h
    · exact q_no h
    · obtain ⟨hta, h⟩ := q_ite h
      obtain ⟨ci, hci⟩ := Option.isSome_iff_exists.mp hci
      rw [hci] at hk
      change r1 % 64 < qN ci at hk
      have hdom : qdom x0 = true := by
        rcases hst _ List.mem_cons_self with z | ⟨z, -⟩
        · exact z
        · exact absurd z hsc
      have hlt : r1 / 64 < 50 := by rw [← hta]; exact qdom_lt hdom
      obtain ⟨hci8, hdec, hkind⟩ := qfK_of hlt hci hk
      have hk38 : r1 % 64 < 38 := Nat.lt_of_lt_of_le hk (qN_le ci hci8)
      obtain ⟨i, hi⟩ := qw_at hdom
      have hcell : ∀ μ : QM, qcell ad cA μ x0 = .inr (ci, (List.range (qN ci)).map (qfv ad μ x0)) := fun μ => by unfold qcell; rw [hta, hci]
      have hget := qw_get (ad := ad) (cA := cA) (μ := μ) hi
      rw [hcell] at hget
      have hin : ∀ w ∈ u_ws (qownS ci) (qT ci) (qN ci), w ∈ gtb := fun w hw => gtb_of (qin ci hci8 w hw).1 (qin ci hci8 w hw).2
      have hv : ((List.range (qN ci)).map (qfv ad μ x0))[r1 % 64]? = some (qfv ad μ x0 (r1 % 64)) := by rw [List.getElem?_map, List.getElem?_range hk]; rfl
      have key : W p l e R s m args below meth c H locs cells slots Q (F0 m (pc + 3) ls (qfv ad μ x0 (r1 % 64) :: t0.map (qenc ad))) := by
        rcases hkind with ⟨h3, -, -⟩ | ⟨h3, -, -⟩ | ⟨h3, -⟩
        · simp only [h3] at h
          rw [show qfv ad μ x0 (r1 % 64) = .int (μ.1 x0 (r1 % 64)) by unfold qfv; rw [hta, h3]; rfl]
          exact Hnx _ _ _ _ _ _ ⟨hL, q_cons (v := qI (μ.1 x0 (r1 % 64))) trivial (q_tl hst), hW⟩ h
        · simp only [h3] at h
          rw [show qfv ad μ x0 (r1 % 64) = .int (qbz (μ.1 x0 (r1 % 64))) by unfold qfv; rw [hta, h3]; rfl]
          exact Hnx _ _ _ _ _ _ ⟨hL, q_cons (v := qI (qbz (μ.1 x0 (r1 % 64)))) trivial (q_tl hst), hW⟩ h
        · simp only [h3] at h
          rw [show qfv ad μ x0 (r1 % 64) = va_rf ((qfR x0 (r1 % 64)).map ad) by unfold qfv; rw [hta, h3]; rfl]
          refine Hnx _ _ _ _ _ _ ⟨hL, q_cons (v := qO (qfR x0 (r1 % 64))) ?_ (q_tl hst), hW⟩ h
          cases hq : qfR x0 (r1 % 64) with
          | none => trivial
          | some b => exact Or.inl (qfR_dom hdom hk38 hq)
      cases nest
      · exact va_get (D := D) hx hb hts hin hown hK hW.1 i hget (qcl_get hci8) (r1 % 64) hk (hts _ (gtb_at (by rw [h0]; unfold qfw; rw [hci]; rfl) rfl)) (fun x hx2 => by rw [hdec] at hx2; exact hx2) hv hd key
      · exact va_getN (D := D) hx hb hts hin hown hK hW.1 i hget (qcl_get hci8) (r1 % 64) hk (va_Nw.use rfl (hNs _ (List.mem_of_getElem? (by rw [h0]; unfold qfw; rw [hci]; rfl)) rfl)) (fun x hx2 => by rw [hdec] at hx2; exact hx2) hv hd key
  case putfield r =>
    obtain ⟨⟨o1, cp, r1, nest, idx⟩, he, hm2⟩ := q_flat hm
    obtain ⟨h0, hci, hk⟩ := qft_ok _ he
    obtain ⟨⟨e1, e2, h8⟩, h2⟩ := q_one hm2
    dsimp only at h0 hci hk e1 e2
    subst e1
    subst e2
    cases h2
    have hsc : ¬ sc = true := fun z => h8 (hs8 z)
    rcases st with _ | ⟨v0, t0⟩
    · exact q_no h
    rcases v0 with x0 | x0
    · rcases t0 with _ | ⟨v1, t1⟩
      · exact q_no h
      rcases v1 with x1 | x1 | _ | x1
      · exact q_no h
      · exact q_no h
      · exact q_no h
      · obtain ⟨hta, h⟩ := q_ite h
        obtain ⟨ci, hci⟩ := Option.isSome_iff_exists.mp hci
        rw [hci] at hk
        change r1 % 64 < qN ci at hk
        have hdom : qdom x1 = true := by
          rcases hst _ (List.mem_cons_of_mem _ List.mem_cons_self) with z | ⟨z, -⟩
          · exact z
          · exact absurd z hsc
        have hlt : r1 / 64 < 50 := by rw [← hta]; exact qdom_lt hdom
        obtain ⟨hci8, hdec, hkind⟩ := qfK_of hlt hci hk
        have hk38 : r1 % 64 < 38 := Nat.lt_of_lt_of_le hk (qN_le ci hci8)
        obtain ⟨i, hi⟩ := qw_at hdom
        have hcell : ∀ μ : QM, qcell ad cA μ x1 = .inr (ci, (List.range (qN ci)).map (qfv ad μ x1)) := fun μ => by unfold qcell; rw [hta, hci]
        have hget := qw_get (ad := ad) (cA := cA) (μ := μ) hi
        rw [hcell] at hget
        have hin : ∀ w ∈ u_ws (qownS ci) (qT ci) (qN ci), w ∈ gtb := fun w hw => gtb_of (qin ci hci8 w hw).1 (qin ci hci8 w hw).2
        have hfl : r1 % 64 < ((List.range (qN ci)).map (qfv ad μ x1)).length := by rw [List.length_map, List.length_range]; exact hk
        have put : ∀ (ty : FieldType), (qT ci (r1 % 64)).2.2.2 = false → qty ci (r1 % 64) = ty → narrow ty (.int x0) = .int x0 → fits ty (.int x0) = true → qfv ad (qsi μ x1 (r1 % 64) x0) x1 (r1 % 64) = .int x0 → nx L t1 (qsi μ x1 (r1 % 64) x0) = some res → W p l e R s m args below meth c H locs cells slots Q (F0 m pc ls (.int x0 :: .ref (ad x1) :: t1.map (qenc ad))) := by
          intro ty hfin hty hn hft hv h
          have hd2 : parseFieldDescriptor (qT ci (r1 % 64)).2.2.1 = some ty := by rw [qtyok ci hci8 _ hk, hty]
          have hset : (qwld ad cA μ).set i (ad x1, .inr (ci, ((List.range (qN ci)).map (qfv ad μ x1)).set (r1 % 64) (.int x0))) = qwld ad cA (qsi μ x1 (r1 % 64) x0) := by
            refine qw_set hi ?_ (fun b hb => qcell_eq (qsi_ne hb) rfl rfl)
            rw [hcell]
            refine congrArg (fun z => Sum.inr (ci, z)) (List.ext_getElem? fun j => ?_)
            by_cases hj : j = r1 % 64
            · subst hj
              rw [List.getElem?_set_self hfl, List.getElem?_map, List.getElem?_range hk]
              exact congrArg some hv.symm
            · rw [List.getElem?_set_ne (Ne.symm hj), List.getElem?_map, List.getElem?_map]
              cases hq : (List.range (qN ci))[j]? with
              | none => rfl
              | some j2 =>
                have hj2 : j2 = j := by
                  obtain ⟨hlt2, he2⟩ := List.getElem?_eq_some_iff.mp hq
                  rw [← he2, List.getElem_range]
                subst hj2
                simp only [Option.map_some, Option.some.injEq]
                unfold qfv
                rw [show (qsi μ x1 (r1 % 64) x0).1 x1 j2 = μ.1 x1 j2 from if_neg (fun e => hj e.2)]
          cases nest
          · refine va_put (D := D) hx hb hts hin (qty ci) (qtyok ci hci8) (qnm ci hci8) hown hK hW.1 hW.2.1 hW.2.2 i hget (qcl_get hci8) (r1 % 64) hk (hts _ (gtb_at (by rw [h0]; unfold qfw; rw [hci]; rfl) rfl)) (fun x hx2 => by rw [hdec] at hx2; exact hx2) hfin hd2 hn hft hfl hd (fun H1 locs1 hP hD2 hS2 => ?_)
            rw [hset] at hP hD2
            exact Hnx _ _ _ _ _ _ ⟨hL, q_tl (q_tl hst), hP, hD2, hS2⟩ h
          · refine va_putN (D := D) hx hb hts hin (qty ci) (qtyok ci hci8) (qnm ci hci8) hown hK hW.1 hW.2.1 hW.2.2 i hget (qcl_get hci8) (r1 % 64) hk (va_Nw.use rfl (hNs _ (List.mem_of_getElem? (by rw [h0]; unfold qfw; rw [hci]; rfl)) rfl)) (fun x hx2 => by rw [hdec] at hx2; exact hx2) hfin hd2 hn hft hfl hd (fun H1 locs1 hP hD2 hS2 => ?_)
            rw [hset] at hP hD2
            exact Hnx _ _ _ _ _ _ ⟨hL, q_tl (q_tl hst), hP, hD2, hS2⟩ h
        have hnew : (qsi μ x1 (r1 % 64) x0).1 x1 (r1 % 64) = x0 := if_pos ⟨rfl, rfl⟩
        rcases hkind with ⟨h3, hty, hfin⟩ | ⟨h3, hty, hfin⟩ | ⟨h3, -⟩
        · simp only [h3] at h
          exact put .int hfin hty rfl rfl (by unfold qfv; rw [hta, h3, hnew]; rfl) h
        · simp only [h3] at h
          obtain ⟨h01, h⟩ := q_ite h
          refine put .boolean hfin hty ?_ ?_ (by unfold qfv; rw [hta, h3, hnew]; simp only [qbz_eq h01]) h
          · rcases h01 with rfl | rfl <;> rfl
          · rcases h01 with rfl | rfl <;> rfl
        · simp only [h3] at h
          exact q_no h
    · exact q_no h
  case arraylength =>
    obtain ⟨h8, hm1⟩ := q_one hm
    cases hm1
    have hsc : ¬ sc = true := fun z => h8 (hs8 z)
    rcases st with _ | ⟨v0, t0⟩
    · exact q_no h
    rcases v0 with x0 | x0 | _ | x0
    · exact q_no h
    · exact q_no h
    · exact q_no h
    · obtain ⟨hne, h⟩ := q_iteN h
      have hdom : qdom x0 = true := by
        rcases hst _ List.mem_cons_self with z | ⟨z, -⟩
        · exact z
        · exact absurd z hsc
      have hlt := qdom_lt hdom
      have hcell : ∀ μ : QM, qcell ad cA μ x0 = .inl (cA (qtk x0.1), qeL x0.1, qarrf ad μ x0) := fun μ => by unfold qcell; rw [qci_none x0.1 hlt hne]
      obtain ⟨i, hi⟩ := qw_at hdom
      have hget := qw_get (ad := ad) (cA := cA) (μ := μ) hi
      rw [hcell] at hget
      have hN := Hnx _ _ _ _ _ _ ⟨hL, q_cons (v := qI (Int32.ofInt (qeL x0.1 : Nat))) trivial (q_tl hst), hW⟩ h
      rcases qtk_ok x0.1 hlt hne with ⟨-, hk⟩ | ⟨-, hk⟩ | ⟨-, hk⟩ | ⟨-, ⟨hk, -⟩ | ⟨hk, -⟩ | ⟨hk, -⟩⟩ <;> rw [hk] at hget
      · exact va_alen hx hb hK hW.1 i 0 hget rfl rfl hd hN
      · exact va_alen hx hb hK hW.1 i 1 hget rfl rfl hd hN
      · exact va_alen hx hb hK hW.1 i 2 hget rfl rfl hd hN
      · exact va_alen hx hb hK hW.1 i 3 hget rfl rfl hd hN
      · exact va_alen hx hb hK hW.1 i 4 hget rfl rfl hd hN
      · exact va_alen hx hb hK hW.1 i 5 hget rfl rfl hd hN
  case iaload =>
    obtain ⟨h8, hm1⟩ := q_one hm
    cases hm1
    have hsc : ¬ sc = true := fun z => h8 (hs8 z)
    rcases st with _ | ⟨v0, t0⟩
    · exact q_no h
    rcases v0 with x0 | x0
    · rcases t0 with _ | ⟨v1, t1⟩
      · exact q_no h
      rcases v1 with x1 | x1 | _ | x1
      · exact q_no h
      · exact q_no h
      · exact q_no h
      · obtain ⟨hk, h⟩ := q_ite h
        obtain ⟨hoob, h⟩ := q_if h
        have hne : qeK x1.1 ≠ 0 := by rw [hk]; decide
        have hdom : qdom x1 = true := by
          rcases hst _ (List.mem_cons_of_mem _ List.mem_cons_self) with z | ⟨z, -⟩
          · exact z
          · exact absurd z hsc
        have hlt := qdom_lt hdom
        have hcell : ∀ μ : QM, qcell ad cA μ x1 = .inl (cA (qtk x1.1), qeL x1.1, qarrf ad μ x1) := fun μ => by unfold qcell; rw [qci_none x1.1 hlt hne]
        obtain ⟨i, hi⟩ := qw_at hdom
        have hget := qw_get (ad := ad) (cA := cA) (μ := μ) hi
        rw [hcell] at hget
        have hf : ∀ μ : QM, qarrf ad μ x1 = .inl (μ.1 x1) := fun μ => by unfold qarrf; simp [hk]
        rw [hf] at hget
        have htk : qtk x1.1 = 0 := by unfold qtk; simp [hk]
        rw [htk] at hget
        exact va_iald hx hb hK hW.1 i 0 hget rfl (qoob_in hoob) hd (Hnx _ _ _ _ _ _ ⟨hL, q_cons (v := qI (μ.1 x1 (qix x0))) trivial (q_tl (q_tl hst)), hW⟩ h)
    · exact q_no h
  case baload =>
    obtain ⟨h8, hm1⟩ := q_one hm
    cases hm1
    have hsc : ¬ sc = true := fun z => h8 (hs8 z)
    rcases st with _ | ⟨v0, t0⟩
    · exact q_no h
    rcases v0 with x0 | x0
    · rcases t0 with _ | ⟨v1, t1⟩
      · exact q_no h
      rcases v1 with x1 | x1 | _ | x1
      · exact q_no h
      · exact q_no h
      · exact q_no h
      · obtain ⟨hk, h⟩ := q_ite h
        obtain ⟨hoob, h⟩ := q_if h
        have hne : qeK x1.1 ≠ 0 := by rw [hk]; decide
        have hdom : qdom x1 = true := by
          rcases hst _ (List.mem_cons_of_mem _ List.mem_cons_self) with z | ⟨z, -⟩
          · exact z
          · exact absurd z hsc
        have hlt := qdom_lt hdom
        have hcell : ∀ μ : QM, qcell ad cA μ x1 = .inl (cA (qtk x1.1), qeL x1.1, qarrf ad μ x1) := fun μ => by unfold qcell; rw [qci_none x1.1 hlt hne]
        obtain ⟨i, hi⟩ := qw_at hdom
        have hget := qw_get (ad := ad) (cA := cA) (μ := μ) hi
        rw [hcell] at hget
        have hf : ∀ μ : QM, qarrf ad μ x1 = .inl (μ.1 x1) := fun μ => by unfold qarrf; simp [hk]
        rw [hf] at hget
        have htk : qtk x1.1 = 2 := by unfold qtk; simp [hk]
        rw [htk] at hget
        exact va_zald hx hb hK hW.1 i 2 hget rfl (qoob_in hoob) hd (Hnx _ _ _ _ _ _ ⟨hL, q_cons (v := qI (μ.1 x1 (qix x0))) trivial (q_tl (q_tl hst)), hW⟩ h)
    · exact q_no h
  case laload =>
    obtain ⟨h8, hm1⟩ := q_one hm
    cases hm1
    have hsc : ¬ sc = true := fun z => h8 (hs8 z)
    rcases st with _ | ⟨v0, t0⟩
    · exact q_no h
    rcases v0 with x0 | x0
    · rcases t0 with _ | ⟨v1, t1⟩
      · exact q_no h
      rcases v1 with x1 | x1 | _ | x1
      · exact q_no h
      · exact q_no h
      · exact q_no h
      · obtain ⟨hk, h⟩ := q_ite h
        obtain ⟨hoob, h⟩ := q_if h
        have hne : qeK x1.1 ≠ 0 := by rw [hk]; decide
        have hdom : qdom x1 = true := by
          rcases hst _ (List.mem_cons_of_mem _ List.mem_cons_self) with z | ⟨z, -⟩
          · exact z
          · exact absurd z hsc
        have hlt := qdom_lt hdom
        have hcell : ∀ μ : QM, qcell ad cA μ x1 = .inl (cA (qtk x1.1), qeL x1.1, qarrf ad μ x1) := fun μ => by unfold qcell; rw [qci_none x1.1 hlt hne]
        obtain ⟨i, hi⟩ := qw_at hdom
        have hget := qw_get (ad := ad) (cA := cA) (μ := μ) hi
        rw [hcell] at hget
        have hf : ∀ μ : QM, qarrf ad μ x1 = .inr (.inl (μ.2.1 x1)) := fun μ => by unfold qarrf; simp [hk]
        rw [hf] at hget
        have htk : qtk x1.1 = 1 := by unfold qtk; simp [hk]
        rw [htk] at hget
        exact va_lald hx hb hK hW.1 i 1 hget rfl (qoob_in hoob) hd (Hnx _ _ _ _ _ _ ⟨hL, q_cons (v := qL (μ.2.1 x1 (qix x0))) trivial (q_tl (q_tl hst)), hW⟩ h)
    · exact q_no h
  case iastore =>
    obtain ⟨h8, hm1⟩ := q_one hm
    cases hm1
    have hsc : ¬ sc = true := fun z => h8 (hs8 z)
    rcases st with _ | ⟨v0, t0⟩
    · exact q_no h
    rcases v0 with x0 | x0
    · rcases t0 with _ | ⟨v1, t1⟩
      · exact q_no h
      rcases v1 with x1 | x1
      · rcases t1 with _ | ⟨v2, t2⟩
        · exact q_no h
        rcases v2 with x2 | x2 | _ | x2
        · exact q_no h
        · exact q_no h
        · exact q_no h
        · obtain ⟨hk, h⟩ := q_ite h
          obtain ⟨hoob, h⟩ := q_if h
          have hne : qeK x2.1 ≠ 0 := by rw [hk]; decide
          have hdom : qdom x2 = true := by
            rcases hst _ (List.mem_cons_of_mem _ (List.mem_cons_of_mem _ List.mem_cons_self)) with z | ⟨z, -⟩
            · exact z
            · exact absurd z hsc
          have hlt := qdom_lt hdom
          have hcell : ∀ μ : QM, qcell ad cA μ x2 = .inl (cA (qtk x2.1), qeL x2.1, qarrf ad μ x2) := fun μ => by unfold qcell; rw [qci_none x2.1 hlt hne]
          obtain ⟨i, hi⟩ := qw_at hdom
          have hget := qw_get (ad := ad) (cA := cA) (μ := μ) hi
          rw [hcell] at hget
          have hf : ∀ μ : QM, qarrf ad μ x2 = .inl (μ.1 x2) := fun μ => by unfold qarrf; simp [hk]
          rw [hf] at hget
          have htk : qtk x2.1 = 0 := by unfold qtk; simp [hk]
          rw [htk] at hget
          refine va_iast hx hb hK hW.1 hW.2.1 hW.2.2 i 0 hget rfl (qoob_in hoob) hd (fun H1 locs1 hP hD2 hS2 => ?_)
          have hset : (qwld ad cA μ).set i (ad x2, .inl (cA 0, qeL x2.1, .inl (upd (μ.1 x2) (qix x1) x0))) = qwld ad cA (qsi μ x2 (qix x1) x0) := by
            refine qw_set hi ?_ (fun b hb => qcell_eq (qsi_ne hb) rfl rfl)
            rw [hcell, htk, hf]
            rw [qsi_up]
          rw [hset] at hP hD2
          exact Hnx _ _ _ _ _ _ ⟨hL, q_tl (q_tl (q_tl hst)), hP, hD2, hS2⟩ h
      · exact q_no h
    · exact q_no h
  case bastore =>
    obtain ⟨h8, hm1⟩ := q_one hm
    cases hm1
    have hsc : ¬ sc = true := fun z => h8 (hs8 z)
    rcases st with _ | ⟨v0, t0⟩
    · exact q_no h
    rcases v0 with x0 | x0
    · rcases t0 with _ | ⟨v1, t1⟩
      · exact q_no h
      rcases v1 with x1 | x1
      · rcases t1 with _ | ⟨v2, t2⟩
        · exact q_no h
        rcases v2 with x2 | x2 | _ | x2
        · exact q_no h
        · exact q_no h
        · exact q_no h
        · obtain ⟨⟨hk, h01⟩, h⟩ := q_ite h
          obtain ⟨hoob, h⟩ := q_if h
          have hne : qeK x2.1 ≠ 0 := by rw [hk]; decide
          have hdom : qdom x2 = true := by
            rcases hst _ (List.mem_cons_of_mem _ (List.mem_cons_of_mem _ List.mem_cons_self)) with z | ⟨z, -⟩
            · exact z
            · exact absurd z hsc
          have hlt := qdom_lt hdom
          have hcell : ∀ μ : QM, qcell ad cA μ x2 = .inl (cA (qtk x2.1), qeL x2.1, qarrf ad μ x2) := fun μ => by unfold qcell; rw [qci_none x2.1 hlt hne]
          obtain ⟨i, hi⟩ := qw_at hdom
          have hget := qw_get (ad := ad) (cA := cA) (μ := μ) hi
          rw [hcell] at hget
          have hf : ∀ μ : QM, qarrf ad μ x2 = .inl (μ.1 x2) := fun μ => by unfold qarrf; simp [hk]
          rw [hf] at hget
          have htk : qtk x2.1 = 2 := by unfold qtk; simp [hk]
          rw [htk] at hget
          refine va_zast hx hb hK hW.1 hW.2.1 hW.2.2 i 2 hget rfl (qoob_in hoob) hd (fun H1 locs1 hP hD2 hS2 => ?_)
          have hset : (qwld ad cA μ).set i (ad x2, .inl (cA 2, qeL x2.1, .inl (upd (μ.1 x2) (qix x1) (vp_nar .boolean x0)))) = qwld ad cA (qsi μ x2 (qix x1) x0) := by
            refine qw_set hi ?_ (fun b hb => qcell_eq (qsi_ne hb) rfl rfl)
            rw [hcell, htk, hf]
            rw [qsi_up]
            rcases h01 with rfl | rfl <;> rfl
          rw [hset] at hP hD2
          exact Hnx _ _ _ _ _ _ ⟨hL, q_tl (q_tl (q_tl hst)), hP, hD2, hS2⟩ h
      · exact q_no h
    · exact q_no h
  case lastore =>
    obtain ⟨h8, hm1⟩ := q_one hm
    cases hm1
    have hsc : ¬ sc = true := fun z => h8 (hs8 z)
    rcases st with _ | ⟨v0, t0⟩
    · exact q_no h
    rcases v0 with x0 | x0 | x0
    · exact q_no h
    · rcases t0 with _ | ⟨v1, t1⟩
      · exact q_no h
      rcases v1 with x1 | x1
      · rcases t1 with _ | ⟨v2, t2⟩
        · exact q_no h
        rcases v2 with x2 | x2 | _ | x2
        · exact q_no h
        · exact q_no h
        · exact q_no h
        · obtain ⟨hk, h⟩ := q_ite h
          obtain ⟨hoob, h⟩ := q_if h
          have hne : qeK x2.1 ≠ 0 := by rw [hk]; decide
          have hdom : qdom x2 = true := by
            rcases hst _ (List.mem_cons_of_mem _ (List.mem_cons_of_mem _ List.mem_cons_self)) with z | ⟨z, -⟩
            · exact z
            · exact absurd z hsc
          have hlt := qdom_lt hdom
          have hcell : ∀ μ : QM, qcell ad cA μ x2 = .inl (cA (qtk x2.1), qeL x2.1, qarrf ad μ x2) := fun μ => by unfold qcell; rw [qci_none x2.1 hlt hne]
          obtain ⟨i, hi⟩ := qw_at hdom
          have hget := qw_get (ad := ad) (cA := cA) (μ := μ) hi
          rw [hcell] at hget
          have hf : ∀ μ : QM, qarrf ad μ x2 = .inr (.inl (μ.2.1 x2)) := fun μ => by unfold qarrf; simp [hk]
          rw [hf] at hget
          have htk : qtk x2.1 = 1 := by unfold qtk; simp [hk]
          rw [htk] at hget
          refine va_last hx hb hK hW.1 hW.2.1 hW.2.2 i 1 hget rfl (qoob_in hoob) hd (fun H1 locs1 hP hD2 hS2 => ?_)
          have hset : (qwld ad cA μ).set i (ad x2, .inl (cA 1, qeL x2.1, .inr (.inl (vp_updL (μ.2.1 x2) (qix x1) x0)))) = qwld ad cA (qsl μ x2 (qix x1) x0) := by
            refine qw_set hi ?_ (fun b hb => qcell_eq rfl (qsl_ne hb) rfl)
            rw [hcell, htk, hf]
            rw [qsl_up]
          rw [hset] at hP hD2
          exact Hnx _ _ _ _ _ _ ⟨hL, q_tl (q_tl (q_tl hst)), hP, hD2, hS2⟩ h
      · exact q_no h
    · exact q_no h
  case aaload =>
    obtain ⟨h8, hm1⟩ := q_one hm
    cases hm1
    have hsc : ¬ sc = true := fun z => h8 (hs8 z)
    rcases st with _ | ⟨v0, t0⟩
    · exact q_no h
    rcases v0 with x0 | x0
    · rcases t0 with _ | ⟨v1, t1⟩
      · exact q_no h
      rcases v1 with x1 | x1 | _ | x1
      · exact q_no h
      · exact q_no h
      · exact q_no h
      · obtain ⟨hoob, h⟩ := q_if h
        by_cases hk : qeK x1.1 = 4
        · rw [if_pos hk] at h
          have hne : qeK x1.1 ≠ 0 := by rw [hk]; decide
          have hdom : qdom x1 = true := by
            rcases hst _ (List.mem_cons_of_mem _ List.mem_cons_self) with z | ⟨z, -⟩
            · exact z
            · exact absurd z hsc
          have hlt := qdom_lt hdom
          have hcell : ∀ μ : QM, qcell ad cA μ x1 = .inl (cA (qtk x1.1), qeL x1.1, qarrf ad μ x1) := fun μ => by unfold qcell; rw [qci_none x1.1 hlt hne]
          obtain ⟨i, hi⟩ := qw_at hdom
          have hget := qw_get (ad := ad) (cA := cA) (μ := μ) hi
          rw [hcell] at hget
          have hf : ∀ μ : QM, qarrf ad μ x1 = .inr (.inr (.inr (.inr (fun i => some (ad (qeT x1.1, x1.2.1, i)))))) := fun μ => by unfold qarrf; simp [hk]
          rw [hf] at hget
          have hin := qoob_in hoob
          have hlt2 : qix x0 < qeL x1.1 := Nat.lt_of_not_le fun z => hin (Or.inr z)
          have hok : qokv sc (qR (qeT x1.1, x1.2.1, qix x0)) := by
            refine Or.inl ?_
            obtain ⟨e1, e2⟩ := qel_ok x1.1 hlt hk
            simp only [qdom, Bool.and_eq_true, decide_eq_true_eq] at hdom ⊢
            exact ⟨by rw [e1]; exact hdom.1, by rw [e2]; exact hlt2⟩
          have hN := Hnx _ _ _ _ _ _ ⟨hL, q_cons hok (q_tl (q_tl hst)), hW⟩ h
          rcases qtk_ok x1.1 hlt hne with ⟨z, -⟩ | ⟨z, -⟩ | ⟨z, -⟩ | ⟨-, ⟨hq, -⟩ | ⟨hq, -⟩ | ⟨hq, -⟩⟩
          · rw [hk] at z; cases z
          · rw [hk] at z; cases z
          · rw [hk] at z; cases z
          · rw [hq] at hget
            exact va_aldq hx hb hK hW.1 i 3 hget rfl hin hd hN
          · rw [hq] at hget
            exact va_aldq hx hb hK hW.1 i 4 hget rfl hin hd hN
          · rw [hq] at hget
            exact va_aldq hx hb hK hW.1 i 5 hget rfl hin hd hN
        · rw [if_neg hk] at h
          obtain ⟨hk, h⟩ := q_ite h
          have hne : qeK x1.1 ≠ 0 := by rw [hk]; decide
          have hdom : qdom x1 = true := by
            rcases hst _ (List.mem_cons_of_mem _ List.mem_cons_self) with z | ⟨z, -⟩
            · exact z
            · exact absurd z hsc
          have hlt := qdom_lt hdom
          have hcell : ∀ μ : QM, qcell ad cA μ x1 = .inl (cA (qtk x1.1), qeL x1.1, qarrf ad μ x1) := fun μ => by unfold qcell; rw [qci_none x1.1 hlt hne]
          obtain ⟨i, hi⟩ := qw_at hdom
          have hget := qw_get (ad := ad) (cA := cA) (μ := μ) hi
          rw [hcell] at hget
          have hf : ∀ μ : QM, qarrf ad μ x1 = .inr (.inr (.inr (.inr (fun i => (μ.2.2 x1 i).map ad)))) := fun μ => by unfold qarrf; simp [hk]
          rw [hf] at hget
          have hin := qoob_in hoob
          have hN : W p l e R s m args below meth c H locs cells slots Q (F0 m (pc + 1) ls (va_rf ((μ.2.2 x1 (qix x0)).map ad) :: t1.map (qenc ad))) := by
            cases hq : μ.2.2 x1 (qix x0) with
            | none =>
              rw [hq] at h
              exact Hnx _ _ _ _ _ _ ⟨hL, q_cons (v := qO none) trivial (q_tl (q_tl hst)), hW⟩ h
            | some b =>
              rw [hq] at h
              obtain ⟨⟨hb1, hb2⟩, h⟩ := q_ite h
              obtain ⟨b1, b2, b3⟩ := b
              dsimp only at hb1 h
              rw [← hb1] at h
              exact Hnx _ _ _ _ _ _ ⟨hL, q_cons (v := qR (b1, b2, b3)) (Or.inl hb2) (q_tl (q_tl hst)), hW⟩ h
          rcases qtk_ok x1.1 hlt hne with ⟨z, -⟩ | ⟨z, -⟩ | ⟨z, -⟩ | ⟨-, ⟨hq, -⟩ | ⟨hq, -⟩ | ⟨hq, -⟩⟩
          · rw [hk] at z; cases z
          · rw [hk] at z; cases z
          · rw [hk] at z; cases z
          · rw [hq] at hget
            exact va_aldq hx hb hK hW.1 i 3 hget rfl hin hd hN
          · rw [hq] at hget
            exact va_aldq hx hb hK hW.1 i 4 hget rfl hin hd hN
          · rw [hq] at hget
            exact va_aldq hx hb hK hW.1 i 5 hget rfl hin hd hN
    · exact q_no h
  case aastore =>
    obtain ⟨h8, hm1⟩ := q_one hm
    cases hm1
    have hsc : ¬ sc = true := fun z => h8 (hs8 z)
    rcases st with _ | ⟨x | x | _ | x0, t0⟩
    · exact q_no h
    · exact q_no h
    · exact q_no h
    · rcases t0 with _ | ⟨v1, t1⟩
      · exact q_no h
      rcases v1 with x1 | x1
      · rcases t1 with _ | ⟨v2, t2⟩
        · exact q_no h
        rcases v2 with x2 | x2 | _ | x2
        · exact q_no h
        · exact q_no h
        · exact q_no h
        obtain ⟨hk, h⟩ := q_ite h
        obtain ⟨hoob, h⟩ := q_if h
        have hne : qeK x2.1 ≠ 0 := by rw [hk]; decide
        have hdom : qdom x2 = true := by
          rcases hst _ (List.mem_cons_of_mem _ (List.mem_cons_of_mem _ List.mem_cons_self)) with z | ⟨z, -⟩
          · exact z
          · exact absurd z hsc
        have hlt := qdom_lt hdom
        have hcell : ∀ μ : QM, qcell ad cA μ x2 = .inl (cA (qtk x2.1), qeL x2.1, qarrf ad μ x2) := fun μ => by unfold qcell; rw [qci_none x2.1 hlt hne]
        obtain ⟨i, hi⟩ := qw_at hdom
        have hget := qw_get (ad := ad) (cA := cA) (μ := μ) hi
        rw [hcell] at hget
        have hf : ∀ μ : QM, qarrf ad μ x2 = .inr (.inr (.inr (.inr (fun i => (μ.2.2 x2 i).map ad)))) := fun μ => by unfold qarrf; simp [hk]
        rw [hf] at hget
        have hset : ∀ t0 : Nat, qtk x2.1 = t0 → (qwld ad cA μ).set i (ad x2, .inl (cA t0, qeL x2.1, .inr (.inr (.inr (.inr (va_up (fun i => (μ.2.2 x2 i).map ad) (qix x1) none)))))) = qwld ad cA (qsr μ x2 (qix x1) none) := by
          intro t0 ht0
          refine qw_set hi ?_ (fun b hb => qcell_eq rfl rfl (qsr_ne hb))
          rw [hcell, ht0, hf, qsr_up]
          rfl
        have hN : ∀ (H1 : Heap) (locs1 : List Loc), QW ad cA D A H0 (qsr μ x2 (qix x1) none) H1 locs1 → W p l e R s m args below meth c H1 locs1 cells slots Q (F0 m (pc + 1) ls (t2.map (qenc ad))) := fun H1 locs1 hw => Hnx _ _ _ _ _ _ ⟨hL, q_tl (q_tl (q_tl hst)), hw⟩ h
        rcases qtk_ok x2.1 hlt hne with ⟨z, -⟩ | ⟨z, -⟩ | ⟨z, -⟩ | ⟨-, ⟨hq, -⟩ | ⟨hq, -⟩ | ⟨hq, -⟩⟩
        · rw [hk] at z; cases z
        · rw [hk] at z; cases z
        · rw [hk] at z; cases z
        · have hs := hset 3 hq
          rw [hq] at hget
          exact va_astqN hx hb hK hW.1 hW.2.1 hW.2.2 i 3 hget rfl (qoob_in hoob) hd (fun H1 locs1 hP hD2 hS2 => hN H1 locs1 ⟨hs ▸ hP, hs ▸ hD2, hS2⟩)
        · have hs := hset 4 hq
          rw [hq] at hget
          exact va_astqN hx hb hK hW.1 hW.2.1 hW.2.2 i 4 hget rfl (qoob_in hoob) hd (fun H1 locs1 hP hD2 hS2 => hN H1 locs1 ⟨hs ▸ hP, hs ▸ hD2, hS2⟩)
        · have hs := hset 5 hq
          rw [hq] at hget
          exact va_astqN hx hb hK hW.1 hW.2.1 hW.2.2 i 5 hget rfl (qoob_in hoob) hd (fun H1 locs1 hP hD2 hS2 => hN H1 locs1 ⟨hs ▸ hP, hs ▸ hD2, hS2⟩)
      · exact q_no h
    · rcases t0 with _ | ⟨v1, t1⟩
      · exact q_no h
      rcases v1 with x1 | x1
      · rcases t1 with _ | ⟨v2, t2⟩
        · exact q_no h
        rcases v2 with x2 | x2 | _ | x2
        · exact q_no h
        · exact q_no h
        · exact q_no h
        obtain ⟨⟨hk, hbt⟩, h⟩ := q_ite h
        obtain ⟨hoob, h⟩ := q_if h
        have hne : qeK x2.1 ≠ 0 := by rw [hk]; decide
        have hdom : qdom x2 = true := by
          rcases hst _ (List.mem_cons_of_mem _ (List.mem_cons_of_mem _ List.mem_cons_self)) with z | ⟨z, -⟩
          · exact z
          · exact absurd z hsc
        have hlt := qdom_lt hdom
        have hcell : ∀ μ : QM, qcell ad cA μ x2 = .inl (cA (qtk x2.1), qeL x2.1, qarrf ad μ x2) := fun μ => by unfold qcell; rw [qci_none x2.1 hlt hne]
        obtain ⟨i, hi⟩ := qw_at hdom
        have hget := qw_get (ad := ad) (cA := cA) (μ := μ) hi
        rw [hcell] at hget
        have hf : ∀ μ : QM, qarrf ad μ x2 = .inr (.inr (.inr (.inr (fun i => (μ.2.2 x2 i).map ad)))) := fun μ => by unfold qarrf; simp [hk]
        rw [hf] at hget
        have hset : ∀ t0 : Nat, qtk x2.1 = t0 → (qwld ad cA μ).set i (ad x2, .inl (cA t0, qeL x2.1, .inr (.inr (.inr (.inr (va_up (fun i => (μ.2.2 x2 i).map ad) (qix x1) (some (ad x0)))))))) = qwld ad cA (qsr μ x2 (qix x1) (some x0)) := by
          intro t0 ht0
          refine qw_set hi ?_ (fun b hb => qcell_eq rfl rfl (qsr_ne hb))
          rw [hcell, ht0, hf, qsr_up]
          rfl
        have hdb : qdom x0 = true := by
          rcases hst _ List.mem_cons_self with z | ⟨z, -⟩
          · exact z
          · exact absurd z hsc
        obtain ⟨ib, hib⟩ := qw_at hdb
        have hgb := qw_get (ad := ad) (cA := cA) (μ := μ) hib
        have hN : ∀ (H1 : Heap) (locs1 : List Loc), QW ad cA D A H0 (qsr μ x2 (qix x1) (some x0)) H1 locs1 → W p l e R s m args below meth c H1 locs1 cells slots Q (F0 m (pc + 1) ls (t2.map (qenc ad))) := fun H1 locs1 hw => Hnx _ _ _ _ _ _ ⟨hL, q_tl (q_tl (q_tl hst)), hw⟩ h
        rcases qtk_ok x2.1 hlt hne with ⟨z, -⟩ | ⟨z, -⟩ | ⟨z, -⟩ | ⟨-, ⟨hq, ht⟩ | ⟨hq, ht⟩ | ⟨hq, ht⟩⟩
        · rw [hk] at z; cases z
        · rw [hk] at z; cases z
        · rw [hk] at z; cases z
        · have hs := hset 3 hq
          rw [hq] at hget
          rw [ht] at hbt
          rw [show qcell ad cA μ x0 = .inr (1, (List.range (qN 1)).map (qfv ad μ x0)) by unfold qcell; rw [hbt]; rfl] at hgb
          exact va_astq (r := (qownS 1, qT 1, qN 1)) hx hb hK hW.1 hW.2.1 hW.2.2 i 3 ib 1 hget rfl hgb (qcl_get (by decide)) (qoob_in hoob) hd (fun H1 locs1 hP hD2 hS2 => hN H1 locs1 ⟨hs ▸ hP, hs ▸ hD2, hS2⟩)
        · have hs := hset 4 hq
          rw [hq] at hget
          rw [ht] at hbt
          rw [show qcell ad cA μ x0 = .inr (5, (List.range (qN 5)).map (qfv ad μ x0)) by unfold qcell; rw [hbt]; rfl] at hgb
          exact va_astq (r := (qownS 5, qT 5, qN 5)) hx hb hK hW.1 hW.2.1 hW.2.2 i 4 ib 5 hget rfl hgb (qcl_get (by decide)) (qoob_in hoob) hd (fun H1 locs1 hP hD2 hS2 => hN H1 locs1 ⟨hs ▸ hP, hs ▸ hD2, hS2⟩)
        · have hs := hset 5 hq
          rw [hq] at hget
          rw [ht] at hbt
          rw [show qcell ad cA μ x0 = .inr (2, (List.range (qN 2)).map (qfv ad μ x0)) by unfold qcell; rw [hbt]; rfl] at hgb
          exact va_astq (r := (qownS 2, qT 2, qN 2)) hx hb hK hW.1 hW.2.1 hW.2.2 i 5 ib 2 hget rfl hgb (qcl_get (by decide)) (qoob_in hoob) hd (fun H1 locs1 hP hD2 hS2 => hN H1 locs1 ⟨hs ▸ hP, hs ▸ hD2, hS2⟩)
      · exact q_no h
  case faload =>
    cases List.mem_singleton.mp hm
    rcases st with _ | ⟨v0, t0⟩
    · exact q_no h
    rcases v0 with x0 | x0
    · rcases t0 with _ | ⟨v1, t1⟩
      · exact q_no h
      rcases v1 with x1 | x1 | _ | x1
      · exact q_no h
      · exact q_no h
      · exact q_no h
      · obtain ⟨ha, h⟩ := q_ite h
        subst ha
        have h : qbI (call 9999 [qI x0] μ) (fun x _ => nx L (qI x :: t1) μ) = some res := h
        rcases hq : call 9999 [qI x0] μ with _ | ⟨_ | v | v | v, μ2⟩
        · rw [hq] at h; exact q_no h
        · rw [hq] at h; exact q_no h
        · rw [hq] at h
          rcases hst _ (List.mem_cons_of_mem _ List.mem_cons_self) with z | ⟨z, -⟩
          · exact absurd z (by decide)
          · exact HS1 z x0 v μ2 _ hq hd (Hnx _ _ _ _ _ _ ⟨hL, q_cons (v := qI v) trivial (q_tl (q_tl hst)), hW⟩ h)
        · rw [hq] at h; exact q_no h
        · rw [hq] at h; exact q_no h
    · exact q_no h
  case fload i =>
    cases List.mem_singleton.mp hm
    rcases st with _ | ⟨v0, t0⟩
    · exact q_no h
    rcases v0 with x0 | x0 | _ | x0
    · exact q_no h
    · exact q_no h
    · exact q_no h
    · obtain ⟨ha, h⟩ := q_ite h
      subst ha
      have h : qbI (call 9998 [] μ) (fun x _ => nx L (qI x :: t0) μ) = some res := h
      rcases hq : call 9998 [] μ with _ | ⟨_ | v | v | v, μ2⟩
      · rw [hq] at h; exact q_no h
      · rw [hq] at h; exact q_no h
      · rw [hq] at h
        rcases hst _ List.mem_cons_self with z | ⟨z, -⟩
        · exact absurd z (by decide)
        · exact HS2 z v μ2 _ hq hd (Hnx _ _ _ _ _ _ ⟨hL, q_cons (v := qI v) trivial (q_tl hst), hW⟩ h)
      · rw [hq] at h; exact q_no h
      · rw [hq] at h; exact q_no h
  case invokeinterface y cn =>
    obtain ⟨⟨o1, cp, y1, nest, idx⟩, he, hm2⟩ := q_flat hm
    obtain ⟨⟨e1, e2, hn⟩, h2⟩ := q_one hm2
    dsimp only at e1 e2
    subst e1
    subst e2
    rcases hp : qpop (cn / 8 % 8) st [] with _ | ⟨av, st2⟩
    · simp only [qop, hp] at h
      exact q_no h
    simp only [qop, hp] at h
    obtain ⟨hwd, h⟩ := q_ite h
    obtain ⟨pre, hp1, hp2, hp3⟩ := qpop_spec _ _ _ _ _ hp
    rw [List.append_nil] at hp2
    cases hq : qmis[y1]? with
    | none =>
      have hz : qnargs y1 = 99 := by unfold qnargs; rw [hq]; rfl
      omega
    | some q =>
      have hnq : qnargs y1 = q.2.2.2.2.2.2.2.2.2 := by unfold qnargs; rw [hq]; rfl
      have hsq : qstat y1 = q.2.2.2.2.1 := by unfold qstat; rw [hq]; rfl
      rw [hsq] at h2
      cases h2
      have hav : ∀ v ∈ av, qokv sc v := fun v hv => hst v (by rw [hp1]; rw [hp2] at hv; exact List.mem_append_left _ (List.mem_reverse.mp hv))
      have hrest : ∀ v ∈ st2, qokv sc v := fun v hv => hst v (by rw [hp1]; exact List.mem_append_right _ hv)
      have hlen : av.length = q.2.2.2.2.2.2.2.2.2 := by rw [hp2, List.length_reverse, hp3, hn, hnq]
      have hstk : st.map (qenc ad) = (av.map (qenc ad)).reverse ++ st2.map (qenc ad) := by rw [hp1, hp2, List.map_append, List.map_reverse, List.reverse_reverse]
      rw [hstk]
      have HC2 := HC y1 cp q nest idx hq he hd av st2
      generalize hk : cn % 8 = kd at h
      rcases hcl : call y1 av μ with _ | ⟨r, μ2⟩
      · rw [hcl] at h
        match kd, h with
        | 0, h => exact q_no h
        | 1, h => exact q_no h
        | 2, h => exact q_no h
        | 3, h => exact q_no h
        | 4, h => exact q_no h
        | _ + 5, h => exact q_no h
      rw [hcl] at h
      refine HC2 r μ2 hlen hcl hav hwd (fun H2 locs2 hW2 => ?_)
      match kd, h with
      | 0, h =>
        rcases r with _ | v
        · exact Hnx _ _ _ _ _ _ ⟨hL, hrest, hW2⟩ h
        · exact q_no h
      | 1, h =>
        rcases r with _ | v | v | v
        · exact q_no h
        · exact Hnx _ _ _ _ _ _ ⟨hL, q_cons (v := qI v) trivial hrest, hW2⟩ h
        · exact q_no h
        · exact q_no h
      | 2, h =>
        rcases r with _ | v | v | v
        · exact q_no h
        · exact q_no h
        · exact Hnx _ _ _ _ _ _ ⟨hL, q_cons (v := qL v) trivial hrest, hW2⟩ h
        · exact q_no h
      | 3, h =>
        rcases r with _ | v | v | _ | v
        · exact q_no h
        · exact q_no h
        · exact q_no h
        · exact q_no h
        · obtain ⟨⟨h1, h2⟩, h⟩ := q_ite h
          obtain ⟨v1, v2, v3⟩ := v
          dsimp only at h1 h
          rw [← h1] at h
          exact Hnx _ _ _ _ _ _ ⟨hL, q_cons (v := qR (v1, v2, v3)) (Or.inl h2) hrest, hW2⟩ h
      | 4, h =>
        rcases r with _ | v | v | _ | v
        · exact q_no h
        · exact q_no h
        · exact q_no h
        · exact Hnx _ _ _ _ _ _ ⟨hL, q_cons (v := qO none) trivial hrest, hW2⟩ h
        · obtain ⟨⟨h1, h2⟩, h⟩ := q_ite h
          obtain ⟨v1, v2, v3⟩ := v
          dsimp only at h1 h
          rw [← h1] at h
          exact Hnx _ _ _ _ _ _ ⟨hL, q_cons (v := qR (v1, v2, v3)) (Or.inl h2) hrest, hW2⟩ h
      | _ + 5, h => exact q_no h
  case ireturn =>
    obtain ⟨hr, h2⟩ := q_one hm
    cases h2
    rcases st with _ | ⟨v0, t0⟩
    · exact q_no h
    rcases v0 with x0 | x0
    · rcases t0 with _ | ⟨z, zs⟩
      · exact HRi x0 hd (Or.inl hr) (Option.some.inj h).symm
      · exact q_no h
    · exact q_no h
  case freturn =>
    obtain ⟨hr, h2⟩ := q_one hm
    cases h2
    rcases st with _ | ⟨v0, t0⟩
    · exact q_no h
    rcases v0 with x0 | x0
    · rcases t0 with _ | ⟨z, zs⟩
      · obtain ⟨h01, h⟩ := q_ite h
        exact HRi x0 hd (Or.inr ⟨hr, h01⟩) (Option.some.inj h).symm
      · exact q_no h
    · exact q_no h
  case lreturn =>
    obtain ⟨hr, h2⟩ := q_one hm
    cases h2
    rcases st with _ | ⟨v0, t0⟩
    · exact q_no h
    rcases v0 with x0 | x0 | x0
    · exact q_no h
    · rcases t0 with _ | ⟨z, zs⟩
      · exact HRl x0 hd hr (Option.some.inj h).symm
      · exact q_no h
    · exact q_no h
  case areturn =>
    rcases ret with _ | ty
    · cases hm
    cases ty with
    | object nm =>
      cases List.mem_singleton.mp hm
      rcases st with _ | ⟨v0, t0⟩
      · exact q_no h
      rcases v0 with x0 | x0 | x0
      · exact q_no h
      · exact q_no h
      · rcases t0 with _ | ⟨z, zs⟩
        · exact HRa x0 hd ⟨nm, rfl⟩ (Option.some.inj h).symm
        · exact q_no h
    | _ => cases hm
  case return_ =>
    obtain ⟨hr, h2⟩ := q_one hm
    cases h2
    rcases st with _ | ⟨z, zs⟩
    · exact HRv hd hr (Option.some.inj h).symm
    · exact q_no h
  all_goals exact q_no h
end QS
end
section
/-! runs and calls of the pure machine are the machine's: contracts out of the pure calls -/
abbrev QP : Type := Nat × List Nat × Nat × List QE
def qchkL (own : Nat) (ret : Option FieldType) (bytes : ByteArray) : List QE → Bool
  | [] => true
  | e :: rest => (match decode bytes e.1 with
    | .ok (ins, len) => (qalts own ret len e.2.2).any (fun x => decide (x = (ins, len))) && (qoffs e.2.2).all (fun off => decide (0 ≤ (e.1 : Int) + off)) && (match rest with
      | [] => true
      | e2 :: _ => decide (e2.1 = e.1 + len))
    | .error _ => false) && qchkL own ret bytes rest
theorem qchkL_head {own : Nat} {ret : Option FieldType} {bytes : ByteArray} {e : QE} {rest : List QE} (h : qchkL own ret bytes (e :: rest) = true) :
    ∃ (ins : Instr) (len : Nat), decode bytes e.1 = .ok (ins, len) ∧ (ins, len) ∈ qalts own ret len e.2.2 ∧ (∀ off ∈ qoffs e.2.2, 0 ≤ (e.1 : Int) + off) ∧ (∀ (e2 : QE) (r2 : List QE), rest = e2 :: r2 → e2.1 = e.1 + len) ∧ qchkL own ret bytes rest = true := by
  rw [qchkL, Bool.and_eq_true] at h
  obtain ⟨h1, h2⟩ := h
  cases hd : decode bytes e.1 with
  | error x => rw [hd] at h1; cases h1
  | ok x =>
    obtain ⟨ins, len⟩ := x
    rw [hd] at h1
    simp only [Bool.and_eq_true, decide_eq_true_eq, List.all_eq_true, List.any_eq_true] at h1
    obtain ⟨⟨⟨x, h3, h6⟩, h4⟩, h5⟩ := h1
    subst h6
    refine ⟨ins, len, rfl, h3, h4, fun e2 r2 hr => ?_, h2⟩
    subst hr
    simpa using h5
theorem qfrom_spec {own : Nat} {ret : Option FieldType} {bytes : ByteArray} {pc : Nat} : ∀ (code : List QE), qchkL own ret bytes code = true → qfrom code pc = [] ∨ ∃ e rest, qfrom code pc = e :: rest ∧ e.1 = pc ∧ qchkL own ret bytes (e :: rest) = true
  | [], _ => Or.inl rfl
  | e :: code, h => by
    unfold qfrom
    rw [List.dropWhile_cons]
    by_cases hp : e.1 = pc
    · rw [if_neg (by simp [hp])]
      exact Or.inr ⟨e, code, rfl, hp, h⟩
    · rw [if_pos (by simp [hp])]
      obtain ⟨-, -, -, -, -, -, h2⟩ := qchkL_head h
      exact qfrom_spec code h2
section QR2
variable {p : Program} {l : Launch} {e : Env} {R : Room} {s : State} {m : MethodId} {args : Array Value} {below : List Frame} {meth : Method} {c : Code} {Q : State → Prop} {cells slots : Nat}
variable {own : Nat} {cc : ByteArray} {nL : Nat} {ret : Option FieldType} {D : va_G} {cA : Nat → ClassId} {ad : QA → Nat} {A : Nat → Prop} {H0 : Heap} {sc : Bool} {res : Option QV × QM}
/-- what a frame's calls, its reads of the script and its returns give -/
def qCtx (p : Program) (l : Launch) (e : Env) (R : Room) (s : State) (m : MethodId) (args : Array Value) (below : List Frame) (meth : Method) (c : Code) (Q : State → Prop) (cells slots own : Nat) (cc : ByteArray) (nL : Nat) (ret : Option FieldType) (D : va_G) (cA : Nat → ClassId) (ad : QA → Nat) (A : Nat → Prop) (H0 : Heap) (sc : Bool) (res : Option QV × QM) (call : QC) : Prop :=
  (∀ (pc : Nat) (ls : Array Slot) (μ : QM) (H : Heap) (locs : List Loc), ls.size = nL → QW ad cA D A H0 μ H locs → ∀ (y cp : Nat) (q : QMI) (nest : Bool) (idx : Nat), qmis[y]? = some q → (own, cp, y, nest, idx) ∈ qmt → decode cc pc = .ok (if q.2.2.2.2.1 = true then .invokestatic cp else .invokevirtual cp, 3) → ∀ (av rest : List QV) (r : Option QV) (μ' : QM), av.length = q.2.2.2.2.2.2.2.2.2 → call y av μ = some (r, μ') → (∀ v ∈ av, qokv sc v) → qwd rest ≤ 8 →
      (∀ (H' : Heap) (locs' : List Loc), QW ad cA D A H0 μ' H' locs' → W p l e R s m args below meth c H' locs' cells slots Q (F0 m (pc + 3) ls ((r.map (qenc ad)).toList ++ rest.map (qenc ad)))) →
      W p l e R s m args below meth c H locs cells slots Q (F0 m pc ls ((av.map (qenc ad)).reverse ++ rest.map (qenc ad)))) ∧
  (∀ (pc : Nat) (ls : Array Slot) (μ : QM) (H : Heap) (locs : List Loc), QW ad cA D A H0 μ H locs → sc = true → ∀ (i x : Int32) (μ' : QM) (rest : List Value), call 9999 [qI i] μ = some (some (.inl x), μ') → decode cc pc = .ok (.iaload, 1) → W p l e R s m args below meth c H locs cells slots Q (F0 m (pc + 1) ls (.int x :: rest)) → W p l e R s m args below meth c H locs cells slots Q (F0 m pc ls (.int i :: .ref (ad (99, 0, 0)) :: rest))) ∧
  (∀ (pc : Nat) (ls : Array Slot) (μ : QM) (H : Heap) (locs : List Loc), QW ad cA D A H0 μ H locs → sc = true → ∀ (x : Int32) (μ' : QM) (rest : List Value), call 9998 [] μ = some (some (.inl x), μ') → decode cc pc = .ok (.arraylength, 1) → W p l e R s m args below meth c H locs cells slots Q (F0 m (pc + 1) ls (.int x :: rest)) → W p l e R s m args below meth c H locs cells slots Q (F0 m pc ls (.ref (ad (99, 0, 0)) :: rest))) ∧
  (∀ (pc : Nat) (ls : Array Slot) (μ : QM) (H : Heap) (locs : List Loc), QW ad cA D A H0 μ H locs →
    (∀ x : Int32, decode cc pc = .ok (.ireturn, 1) → (ret = some .int ∨ (ret = some .boolean ∧ (x = 0 ∨ x = 1))) → res = (some (qI x), μ) → W p l e R s m args below meth c H locs cells slots Q (F0 m pc ls [.int x])) ∧
    (∀ x : Int64, decode cc pc = .ok (.lreturn, 1) → ret = some .long → res = (some (qL x), μ) → W p l e R s m args below meth c H locs cells slots Q (F0 m pc ls [.long x])) ∧
    (∀ x : Option QA, decode cc pc = .ok (.areturn, 1) → (∃ n, ret = some (.object n)) → res = (some (qO x), μ) → W p l e R s m args below meth c H locs cells slots Q (F0 m pc ls [va_rf (x.map ad)])) ∧
    (decode cc pc = .ok (.return_, 1) → ret = none → res = (none, μ) → W p l e R s m args below meth c H locs cells slots Q (F0 m pc ls [])))
theorem qsem_sound (E : qEnv p s m args c cc nL own D cA) (hs8 : sc = true → own = 8) (hR : 1 ≤ R.frames ∧ 21 ≤ R.locals ∧ cells ≤ R.cells ∧ slots ≤ R.slots) {call : QC}
    (X : qCtx p l e R s m args below meth c Q cells slots own cc nL ret D cA ad A H0 sc res call) {k : Nat → QL → List QV → QM → QR} {code : List QE}
    (Hk : ∀ (pc : Nat) (ls : Array Slot) (L : QL) (st : List QV) (μ : QM) (H : Heap) (locs : List Loc), qSt ad sc nL cA D A H0 ls L st μ H locs → k pc L st μ = some res → W p l e R s m args below meth c H locs cells slots Q (F0 m pc ls (st.map (qenc ad)))) :
    ∀ (rest : List QE) (e1 : QE), qchkL own ret cc (e1 :: rest) = true → ∀ (b : Bool) (ls : Array Slot) (L : QL) (st : List QV) (μ : QM) (H : Heap) (locs : List Loc), qSt ad sc nL cA D A H0 ls L st μ H locs → qsem call k code (e1 :: rest) b L st μ = some res →
      W p l e R s m args below meth c H locs cells slots Q (F0 m e1.1 ls (st.map (qenc ad))) := by
  intro rest
  induction rest with
  | nil =>
    intro e1 hchk b ls L st μ H locs hS h
    obtain ⟨ins, len, hd, hm, hjo, hnext, hrest⟩ := qchkL_head hchk
    have main : qop call (qsem call k code [] true) (qjmp k code e1.1) e1.2.2 L st μ = some res → W p l e R s m args below meth c H locs cells slots Q (F0 m e1.1 ls (st.map (qenc ad))) := by
      intro h
      refine qop_sound E hs8 hR hd hm hjo hS (fun y cp q nest idx hq he hdd => X.1 e1.1 ls μ H locs hS.1.1 hS.2.2 y cp q nest idx hq he hdd) (X.2.1 e1.1 ls μ H locs hS.2.2) (X.2.2.1 e1.1 ls μ H locs hS.2.2) (X.2.2.2 e1.1 ls μ H locs hS.2.2).1 (X.2.2.2 e1.1 ls μ H locs hS.2.2).2.1 (X.2.2.2 e1.1 ls μ H locs hS.2.2).2.2.1 (X.2.2.2 e1.1 ls μ H locs hS.2.2).2.2.2 ?_ ?_ h
      · intro ls2 L2 st2 μ2 H2 locs2 hS2 h2
        exact q_no h2
      · intro off t st2 ho ht hS2 h2
        unfold qjmp at h2
        rw [ht] at h2
        exact Hk t ls _ st2 μ H locs ⟨hS2.1.mask _, hS2.2⟩ h2
    obtain ⟨pc, lv, o⟩ := e1
    cases b with
    | false => exact main h
    | true =>
      cases lv with
      | none => exact main h
      | some mk => exact Hk pc ls _ st μ H locs ⟨hS.1.mask _, hS.2⟩ h
  | cons e2 rest ih =>
    intro e1 hchk b ls L st μ H locs hS h
    obtain ⟨ins, len, hd, hm, hjo, hnext, hrest⟩ := qchkL_head hchk
    have main : qop call (qsem call k code (e2 :: rest) true) (qjmp k code e1.1) e1.2.2 L st μ = some res → W p l e R s m args below meth c H locs cells slots Q (F0 m e1.1 ls (st.map (qenc ad))) := by
      intro h
      refine qop_sound E hs8 hR hd hm hjo hS (fun y cp q nest idx hq he hdd => X.1 e1.1 ls μ H locs hS.1.1 hS.2.2 y cp q nest idx hq he hdd) (X.2.1 e1.1 ls μ H locs hS.2.2) (X.2.2.1 e1.1 ls μ H locs hS.2.2) (X.2.2.2 e1.1 ls μ H locs hS.2.2).1 (X.2.2.2 e1.1 ls μ H locs hS.2.2).2.1 (X.2.2.2 e1.1 ls μ H locs hS.2.2).2.2.1 (X.2.2.2 e1.1 ls μ H locs hS.2.2).2.2.2 ?_ ?_ h
      · intro ls2 L2 st2 μ2 H2 locs2 hS2 h2
        rw [← hnext e2 rest rfl]
        exact ih e2 hrest true ls2 L2 st2 μ2 H2 locs2 hS2 h2
      · intro off t st2 ho ht hS2 h2
        unfold qjmp at h2
        rw [ht] at h2
        exact Hk t ls _ st2 μ H locs ⟨hS2.1.mask _, hS2.2⟩ h2
    obtain ⟨pc, lv, o⟩ := e1
    cases b with
    | false => exact main h
    | true =>
      cases lv with
      | none => exact main h
      | some mk => exact Hk pc ls _ st μ H locs ⟨hS.1.mask _, hS.2⟩ h
theorem qrunF_sound (E : qEnv p s m args c cc nL own D cA) (hs8 : sc = true → own = 8) (hR : 1 ≤ R.frames ∧ 21 ≤ R.locals ∧ cells ≤ R.cells ∧ slots ≤ R.slots) {call : QC}
    (X : qCtx p l e R s m args below meth c Q cells slots own cc nL ret D cA ad A H0 sc res call) {code : List QE} (hchk : qchkL own ret cc code = true) :
    ∀ (n pc : Nat) (ls : Array Slot) (L : QL) (st : List QV) (μ : QM) (H : Heap) (locs : List Loc), qSt ad sc nL cA D A H0 ls L st μ H locs → qrunF call code n pc L st μ = some res → W p l e R s m args below meth c H locs cells slots Q (F0 m pc ls (st.map (qenc ad)))
  | 0, pc, ls, L, st, μ, H, locs, hS, h => q_no h
  | n + 1, pc, ls, L, st, μ, H, locs, hS, h => by
    have h3 : qsem call (qrunF call code n) code (qfrom code pc) false L st μ = some res := h
    rcases qfrom_spec (pc := pc) code hchk with h0 | ⟨e1, rest, h0, h1, h2⟩
    · rw [h0] at h3
      exact q_no h3
    · rw [h0] at h3
      rw [← h1]
      exact qsem_sound E hs8 hR X (qrunF_sound E hs8 hR X hchk n) rest e1 h2 false ls L st μ H locs hS h3
theorem qrun_sound (E : qEnv p s m args c cc nL own D cA) (hs8 : sc = true → own = 8) (hR : 1 ≤ R.frames ∧ 21 ≤ R.locals ∧ cells ≤ R.cells ∧ slots ≤ R.slots) {call : QC}
    (X : qCtx p l e R s m args below meth c Q cells slots own cc nL ret D cA ad A H0 sc res call) {code : List QE} (hchk : qchkL own ret cc code = true)
    {pc : Nat} {ls : Array Slot} {L : QL} {st : List QV} {μ : QM} {H : Heap} {locs : List Loc} (hS : qSt ad sc nL cA D A H0 ls L st μ H locs) (h : qrun call code pc L st μ = some res) : W p l e R s m args below meth c H locs cells slots Q (F0 m pc ls (st.map (qenc ad))) := by
  obtain ⟨n, hn⟩ := qsup_some h
  exact qrunF_sound E hs8 hR X hchk n pc ls L st μ H locs hS hn
end QR2
/-! the pure calls -/
def qarg1 (sg : Nat) : QV → Bool
  | .inl _ => sg == 0
  | .inr (.inl _) => sg == 1
  | .inr (.inr none) => false
  | .inr (.inr (some a)) => (a.1 + 2 == sg || sg == 1000) && qdom a
def qargs : List Nat → List QV → Bool
  | [], [] => true
  | s :: ss, v :: vs => qarg1 s v && qargs ss vs
  | _, _ => false
def qexp : List QV → QL
  | [] => []
  | v :: vs => match v with
    | .inr (.inl x) => some (qL x) :: none :: qexp vs
    | v => some v :: qexp vs
def qent (nL : Nat) (av : List QV) : QL := qexp av ++ List.replicate (nL - (qexp av).length) none
noncomputable def qcall (ps : List QP) : Nat → QC
  | 0 => fun _ _ _ => none
  | d + 1 => fun y av μ => match ps[y]? with
    | none => none
    | some pr => bif qargs pr.2.1 av && decide ((qexp av).length ≤ pr.2.2.1) then qrun (qcall ps d) pr.2.2.2 0 (qent pr.2.2.1 av) [] μ else none
theorem qargs_ok : ∀ (sg : List Nat) (av : List QV), qargs sg av = true → ∀ v ∈ av, qokv false v
  | [], [], _, v, hv => by cases hv
  | [], _ :: _, h, v, hv => by cases h
  | _ :: _, [], h, v, hv => by cases h
  | s :: ss, u :: vs, h, v, hv => by
    simp only [qargs, Bool.and_eq_true] at h
    rcases List.mem_cons.mp hv with rfl | hv
    · rcases v with x | x | _ | a
      · trivial
      · trivial
      · trivial
      · have h1 := h.1
        simp only [qarg1, Bool.and_eq_true] at h1
        exact Or.inl h1.2
    · exact qargs_ok ss vs h.2 v hv
theorem qexp_len (ad : QA → Nat) : ∀ av : List QV, (lg_sl (av.map (qenc ad))).length = (qexp av).length
  | [] => rfl
  | v :: av => by
    have ih := qexp_len ad av
    unfold lg_sl at ih ⊢
    rw [List.map_cons, List.flatMap_cons, List.length_append, ih]
    rcases v with x | x | _ | a
    · simp only [qexp, List.length_cons]; rw [if_neg (by rw [qcat_enc]; show ¬ (1 = 2); decide)]; simp; omega
    · simp only [qexp, List.length_cons]; rw [if_pos (by rfl)]; simp; omega
    · simp only [qexp, List.length_cons]; rw [if_neg (by rw [qcat_enc]; show ¬ (1 = 2); decide)]; simp; omega
    · simp only [qexp, List.length_cons]; rw [if_neg (by rw [qcat_enc]; show ¬ (1 = 2); decide)]; simp; omega
theorem lva1 {k : Nat} {v : Value} {vs : List Value} (h : v.category = 1) : lv_args k (v :: vs) = (k, v) :: lv_args (k + 1) vs := by
  rw [lv_args, if_neg (by omega)]
theorem lva2 {k : Nat} {v : Value} {vs : List Value} (h : v.category = 2) : lv_args k (v :: vs) = (k, v) :: lv_args (k + 2) vs := by
  rw [lv_args, if_pos h]
theorem qexp_get (ad : QA → Nat) : ∀ (av : List QV) (k i : Nat) (v : QV), (qexp av)[i]? = some (some v) → v ∈ av ∧ (k + i, qenc ad v) ∈ lv_args k (av.map (qenc ad))
  | [], k, i, v, h => by simp [qexp] at h
  | u :: av, k, i, v, h => by
    have one : qcat u = 1 → (some u :: qexp av)[i]? = some (some v) → v ∈ u :: av ∧ (k + i, qenc ad v) ∈ lv_args k ((u :: av).map (qenc ad)) := by
      intro hc h
      rw [List.map_cons, lva1 (by rw [qcat_enc]; exact hc)]
      cases i with
      | zero =>
        rw [List.getElem?_cons_zero] at h
        cases h
        exact ⟨List.mem_cons_self, List.mem_cons_self⟩
      | succ i =>
        rw [List.getElem?_cons_succ] at h
        obtain ⟨h1, h2⟩ := qexp_get ad av (k + 1) i v h
        refine ⟨List.mem_cons_of_mem _ h1, List.mem_cons_of_mem _ ?_⟩
        rw [show k + (i + 1) = k + 1 + i by omega]
        exact h2
    rcases u with x | x | x
    · exact one rfl h
    · rw [List.map_cons, lva2 (by rfl)]
      match i, h with
      | 0, h =>
        cases h
        exact ⟨List.mem_cons_self, List.mem_cons_self⟩
      | 1, h => cases h
      | i + 2, h =>
        obtain ⟨h1, h2⟩ := qexp_get ad av (k + 2) i v h
        refine ⟨List.mem_cons_of_mem _ h1, List.mem_cons_of_mem _ ?_⟩
        rw [show k + (i + 2) = k + 2 + i by omega]
        exact h2
    · exact one rfl h
theorem qent_ok {ad : QA → Nat} {nL : Nat} {av : List QV} (hl : (qexp av).length ≤ nL) (hv : ∀ v ∈ av, qokv false v) {ls : Array Slot} (h : lv_has ls nL (lv_args 0 (av.map (qenc ad)))) : QLr ad false ls nL (qent nL av) := by
  refine ⟨h.1, h.2.1, by unfold qent; rw [List.length_append, List.length_replicate]; omega, fun i v hi => ?_⟩
  have hi2 : (qexp av)[i]? = some (some v) := by
    unfold qent at hi
    by_cases hlt : i < (qexp av).length
    · rw [List.getElem?_append_left hlt] at hi
      exact hi
    · rw [List.getElem?_append_right (by omega)] at hi
      have := List.eq_of_mem_replicate (List.mem_of_getElem? hi)
      cases this
  obtain ⟨h1, h2⟩ := qexp_get ad av 0 i v hi2
  rw [Nat.zero_add] at h2
  exact ⟨hv v h1, h.2.2 _ h2⟩
def qrm (d : Nat) : Room := { frames := d, cells := 0, slots := 0, locals := 64 * d }
def qPre (ad : QA → Nat) (cA : Nat → ClassId) (D : va_G) (μ : QM) : State → Prop := fun U => va_P D qcl (qwld ad cA μ) U.heap ∧ va_K D qcl (qtys cA) U ∧ va_D (fun _ => True) (qwld ad cA μ) ∧ qNst U
def qfree (ad : QA → Nat) : Nat → Prop := fun q => ∃ a, qdom a = true ∧ q = ad a
def qPost (ad : QA → Nat) (cA : Nat → ClassId) (D : va_G) (r : Option QV) (μ' : QM) : Array Value → State → Outcome → State → Prop := fun _ st oc t => oc = .returned (r.map (qenc ad)) ∧ va_P D qcl (qwld ad cA μ') t.heap ∧ va_F (qfree ad) st t
def qws (q : QMI) : List Cond := Cond.code q.1 q.2.1 q.2.2.1 q.2.2.2.1 :: gtb
def qMet (l : Launch) (ad : QA → Nat) (cA : Nat → ClassId) (D : va_G) (d : Nat) (q : QMI) (av : List QV) (μ : QM) (r : Option QV) (μ' : QM) : Prop :=
  Met l q.1 (qws q) (qrm d) (va_Pc (av.map (qenc ad)) (qPre ad cA D μ)) (qPost ad cA D r μ') 0 0 (qfree ad)
theorem qPre.blind {ad : QA → Nat} {cA : Nat → ClassId} {D : va_G} {μ : QM} {as : List Value} : FrameBlind (va_Pc as (qPre ad cA D μ)) := by
  intro a U g mk h
  obtain ⟨h0, h1, h2, h3, h4⟩ := h
  exact ⟨h0, h1, va_K.moved (u := U) (U := U.calling g mk a) (Vm.Alike.refl U.vm) h2, h3, qNst.same (s := U) (U := U.calling g mk a) rfl h4⟩
theorem qwld_D {ad : QA → Nat} {cA : Nat → ClassId} {μ μ' : QM} {A : Nat → Prop} (h : va_D A (qwld ad cA μ)) : va_D A (qwld ad cA μ') := by
  have key : ∀ (k : Nat) (q : Nat × va_E), (qwld ad cA μ')[k]? = some q → ∃ q0, (qwld ad cA μ)[k]? = some q0 ∧ q0.1 = q.1 := by
    intro k q hk
    unfold qwld at hk ⊢
    rw [List.getElem?_map] at hk ⊢
    cases hq : qdoml[k]? with
    | none => rw [hq] at hk; cases hk
    | some a =>
      rw [hq] at hk
      cases hk
      exact ⟨_, rfl, rfl⟩
  refine ⟨fun i j x y hi hj hxy => ?_, fun k q hk => ?_⟩
  · obtain ⟨x0, h1, h2⟩ := key i x hi
    obtain ⟨y0, h3, h4⟩ := key j y hj
    exact h.1 i j x0 y0 h1 h3 (h2.trans (hxy.trans h4.symm))
  · obtain ⟨q0, h1, h2⟩ := key k q hk
    rw [← h2]
    exact h.2 k q0 h1
section QR3
variable {p : Program} {l : Launch} {e : Env} {R : Room} {s : State} {m : MethodId} {args : Array Value} {below : List Frame} {meth : Method} {c : Code} {Q : State → Prop} {cells slots : Nat}
variable {own : Nat} {cc : ByteArray} {nL : Nat} {D : va_G} {cA : Nat → ClassId} {ad : QA → Nat} {A : Nat → Prop} {H0 : Heap}
/-- a call, by the callee's contract -/
theorem q_call (E : qEnv p s m args c cc nL own D cA) {d : Nat} (hR : d + 1 ≤ R.frames ∧ 64 * (d + 1) ≤ R.locals ∧ cells ≤ R.cells ∧ slots ≤ R.slots)
    {pc : Nat} {ls : Array Slot} {μ : QM} {H : Heap} {locs : List Loc} (hsz : ls.size = nL) (hW : QW ad cA D A H0 μ H locs) {y cp : Nat} {q : QMI} {nest : Bool} {idx : Nat}
    (hq : qmis[y]? = some q) (he : (own, cp, y, nest, idx) ∈ qmt) (hd : decode cc pc = .ok (if q.2.2.2.2.1 = true then .invokestatic cp else .invokevirtual cp, 3))
    {av rest : List QV} {r : Option QV} {μ' : QM} (hlen : av.length = q.2.2.2.2.2.2.2.2.2) (hM : qMet l ad cA D d q av μ r μ')
    (hrec : q.2.2.2.2.1 = false → ∃ (a : QA) (av' : List QV) (ci : Nat), av = qR a :: av' ∧ qdom a = true ∧ qci a.1 = some ci ∧ ci < 8 ∧ qownS ci = q.1.cls)
    (hwd : qwd rest ≤ 8)
    (kk : ∀ (H' : Heap) (locs' : List Loc), QW ad cA D A H0 μ' H' locs' → W p l e R s m args below meth c H' locs' cells slots Q (F0 m (pc + 3) ls ((r.map (qenc ad)).toList ++ rest.map (qenc ad)))) :
    W p l e R s m args below meth c H locs cells slots Q (F0 m pc ls ((av.map (qenc ad)).reverse ++ rest.map (qenc ad))) := by
  obtain ⟨hx, hb, hml, hown, hts, hK, hNs⟩ := E
  obtain ⟨hok, hcd⟩ := qmis_ok q (List.mem_of_getElem? hq)
  have h0 := qmt_ok _ he
  dsimp only at h0
  have hnm : qname y = q.1 := by unfold qname; rw [hq]; rfl
  obtain ⟨yn, bytes, maxL, ret, st, i0, i1, i2, i3, n⟩ := q
  simp only [qmiOk, Bool.and_eq_true, Bool.or_eq_true, decide_eq_true_eq] at hok
  obtain ⟨⟨⟨⟨⟨⟨⟨⟨hini, hin⟩, hsel⟩, hpl⟩, hy1⟩, hy2⟩, hyi⟩, hdesc⟩, hmx⟩ := hok
  dsimp only at hlen hd hrec hnm hcd hM
  have hrms : (qrm d).frames + 1 ≤ R.frames ∧ 8 + (maxL + 11) + (qrm d).locals ≤ R.locals := by
    unfold qrm
    dsimp only
    omega
  have hG : GoodIn gtb (qws (yn, bytes, maxL, ret, st, i0, i1, i2, i3, n)) := by
    intro w hw
    rcases List.mem_cons.mp hw with rfl | hw
    · exact ⟨gtb_of hcd rfl, Or.inl rfl⟩
    · exact gtb_good (fun _ h => h) w hw
  have hini2 : (Cond.initialized yn.cls).before args s = true := hts _ (gtb_at hini rfl)
  have hfr : ∀ q, qfree ad q → A q := by
    rintro q ⟨a, ha, rfl⟩
    exact hW.in ha
  have hPre : ∀ U : State, U.heap = H → s.WarmedH U.vm → va_Pc (av.map (qenc ad)) (qPre ad cA D μ) (av.map (qenc ad)).toArray U := fun U hU hWm => ⟨rfl, by rw [hU]; exact hW.1, va_K.moved hWm.alike hK, hW.2.1.weaken (fun _ _ _ _ => trivial), hNs.warm hWm⟩
  have fin : ∀ (As : Array Value) (st0 : List Value), va_Run p l e R s m args below meth c H locs cells slots 0 0 (F0 m pc ls st0) (rest.map (qenc ad)) (qPost ad cA D r μ' As) (qfree ad) → W p l e R s m args below meth c H locs cells slots Q (F0 m pc ls st0) := by
    intro As st0 hr T hT X
    obtain ⟨v, st₀, t, T', L, h0, X', hL, e1, e2, ⟨hv, hP, hz, hk⟩, st⟩ := hr T hT X
    cases hv
    rw [h0] at hz hk
    have hS := hW.2.2
    obtain ⟨t2, a1, b1⟩ := kk T'.heap (locs ++ L) ⟨by rw [e1]; exact hP, qwld_D hW.2.1, ⟨Nat.le_trans hS.1 (by rw [e1]; exact hz), fun q h1 h2 => by rw [e1, hk q (Nat.lt_of_lt_of_le h1 hS.1) (fun z => h2 (hfr q z))]; exact hS.2.1 q h1 h2, fun q hq => by
      rcases List.mem_append.mp hq with h | h
      · exact hS.2.2 q h
      · exact hfr _ (hL q h)⟩⟩ T' rfl X'
    exact ⟨t2, st t2 a1, b1⟩
  have CF : CallFix p m c cc nL s args gtb (qownS own) := ⟨hx, hb, hml, hown, hts⟩
  have hwd2 : 2 * (F0 m pc ls ([] : List Value)).monitorRoom + ((rest.map (qenc ad)).map fun v => v.category).sum ≤ 8 := lv_room (by rw [qwd_enc]; exact hwd)
  cases st with
  | true =>
    have hd : decode cc pc = .ok (.invokestatic cp, 3) := hd
    have hstt : (Cond.static yn).before args s = true := hts _ (gtb_at hin rfl)
    have hds : (parseMethodDescriptor yn.desc).map (fun d => d.parameters.length) = some n := by simpa using hdesc
    refine fin (av.map (qenc ad)).toArray _ ?_
    cases nest with
    | false =>
      have hl : (Cond.methodLink (qownS own) cp yn).before args s = true := hts _ (gtb_at (by rw [h0]; unfold qmw; rw [hnm]; rfl) rfl)
      exact va_runS CF hM ⟨callB_of n hts hG rfl rfl rfl hini2 hl ⟨hy1, hy2, hds⟩ hrms, hstt⟩ ⟨qPre.blind, hPre⟩ rfl (by rw [List.length_map]; exact hlen) hsz rfl hwd2 hd ⟨hR.2.2.1, hR.2.2.2⟩
    | true =>
      have hl : va_Nw (.methodLinkNest (qownS own) cp yn "JealousByCalendar") s := hNs _ (List.mem_of_getElem? (by rw [h0]; unfold qmw; rw [hnm]; rfl)) rfl
      exact va_runSN CF hM ⟨va_cnB n hts hG rfl rfl rfl hl hini2 ⟨hy1, hy2, hds⟩ hrms, hstt, trivial⟩ ⟨qPre.blind, hPre⟩ rfl (by rw [List.length_map]; exact hlen) hsz rfl hwd2 hd ⟨hR.2.2.1, hR.2.2.2⟩
  | false =>
    have hd : decode cc pc = .ok (.invokevirtual cp, 3) := hd
    obtain ⟨a, av', ci, hav, hdom, hci, hci8, hcls⟩ := hrec rfl
    subst hav
    have hinst : (Cond.instanceMethod yn).before args s = true := hts _ (gtb_at hin rfl)
    have hsl : (Cond.selects yn.cls yn yn).before args s = true := hts _ (gtb_at (hsel.elim (fun h => by cases h) (fun h => h)) rfl)
    have hds : (parseMethodDescriptor yn.desc).map (fun d => d.parameters.length) = some (av'.map (qenc ad)).length := by
      rw [List.length_map]
      rw [List.length_cons] at hlen
      cases hpd : parseMethodDescriptor yn.desc with
      | none => rw [hpd] at hdesc; simp at hdesc
      | some x =>
        rw [hpd] at hdesc
        simp at hdesc ⊢
        omega
    obtain ⟨i, hi⟩ := qw_at hdom
    have hget := qw_get (ad := ad) (cA := cA) (μ := μ) hi
    rw [show qcell ad cA μ a = .inr (ci, (List.range (qN ci)).map (qfv ad μ a)) by unfold qcell; rw [hci]] at hget
    have hrc := va_recv hK hW.1 (qcl_get hci8) hget
    rw [hcls] at hrc
    have hstk : ((qR a :: av').map (qenc ad)).reverse ++ rest.map (qenc ad) = (av'.map (qenc ad)).reverse ++ .ref (ad a) :: rest.map (qenc ad) := by
      rw [List.map_cons, List.reverse_cons, List.append_assoc]
      rfl
    refine fin (Value.ref (ad a) :: av'.map (qenc ad)).toArray _ ?_
    rw [hstk]
    cases nest with
    | false =>
      have hl : (Cond.methodLink (qownS own) cp yn).before args s = true := hts _ (gtb_at (by rw [h0]; unfold qmw; rw [hnm]; rfl) rfl)
      exact va_runV CF hM ⟨callB_of _ hts hG rfl rfl rfl hini2 hl ⟨hy1, hy2, hds⟩ hrms, hinst, hsl⟩ ⟨qPre.blind, hrc, hPre⟩ rfl rfl hsz rfl hwd2 hd ⟨hR.2.2.1, hR.2.2.2⟩
    | true =>
      have hl : va_Nw (.methodLinkNest (qownS own) cp yn "JealousByCalendar") s := hNs _ (List.mem_of_getElem? (by rw [h0]; unfold qmw; rw [hnm]; rfl)) rfl
      exact va_runVN CF hM ⟨va_cnB _ hts hG rfl rfl rfl hl hini2 ⟨hy1, hy2, hds⟩ hrms, hinst, hsl⟩ ⟨qPre.blind, hrc, hPre⟩ rfl rfl hsz rfl hwd2 hd ⟨hR.2.2.1, hR.2.2.2⟩
end QR3
/-- a program's row fits its method -/
def qpok (y : Nat) (pr : QP) : Bool := match qmis[y]? with
  | none => false
  | some q => decide (qownS pr.1 = q.1.cls) && decide (pr.1 ≠ 8) && decide (pr.2.2.1 = q.2.2.1) && decide (pr.2.1.length = q.2.2.2.2.2.2.2.2.2) && (q.2.2.2.2.1 || (match pr.2.1 with
      | sg :: _ => decide (2 ≤ sg) && decide (sg < 52) && decide (qci (sg - 2) = some pr.1) && decide (pr.1 < 8)
      | [] => false)) && qchkL pr.1 q.2.2.2.1 q.2.1 pr.2.2.2
theorem qargs_len : ∀ (sg : List Nat) (av : List QV), qargs sg av = true → av.length = sg.length
  | [], [], _ => rfl
  | [], _ :: _, h => by cases h
  | _ :: _, [], h => by cases h
  | s :: ss, u :: vs, h => by
    simp only [qargs, Bool.and_eq_true] at h
    rw [List.length_cons, List.length_cons, qargs_len ss vs h.2]
theorem qmet (l : Launch) (ad : QA → Nat) (cA : Nat → ClassId) (D : va_G) (ps : List QP) (hps : ∀ (y : Nat) (pr : QP), ps[y]? = some pr → qpok y pr = true) (hps2 : ps.length ≤ 9998) :
    ∀ (d y : Nat) (av : List QV) (μ : QM) (r : Option QV) (μ' : QM), qcall ps d y av μ = some (r, μ') → ∃ (q : QMI) (pr : QP), qmis[y]? = some q ∧ ps[y]? = some pr ∧ qpok y pr = true ∧ qargs pr.2.1 av = true ∧ qMet l ad cA D d q av μ r μ'
  | 0, y, av, μ, r, μ', h => q_no h
  | d + 1, y, av, μ, r, μ', h => by
    rw [qcall] at h
    dsimp only at h
    cases hp : ps[y]? with
    | none => rw [hp] at h; exact q_no h
    | some pr =>
      rw [hp] at h
      have hk := hps y pr hp
      cases hga : (qargs pr.2.1 av && decide ((qexp av).length ≤ pr.2.2.1)) with
      | false => simp only [hga] at h; exact q_no h
      | true =>
        simp only [hga] at h
        have h : qrun (qcall ps d) pr.2.2.2 0 (qent pr.2.2.1 av) [] μ = some (r, μ') := h
        rw [Bool.and_eq_true, decide_eq_true_eq] at hga
        obtain ⟨hga, hexl⟩ := hga
        have hk0 := hk
        unfold qpok at hk
        cases hq : qmis[y]? with
        | none => rw [hq] at hk; cases hk
        | some q =>
          rw [hq] at hk
          simp only [Bool.and_eq_true, decide_eq_true_eq] at hk
          obtain ⟨⟨⟨⟨⟨k1, k2⟩, k3⟩, k4⟩, k5⟩, k6⟩ := hk
          refine ⟨q, pr, rfl, rfl, hk0, hga, ?_⟩
          obtain ⟨hok, hcd⟩ := qmis_ok q (List.mem_of_getElem? hq)
          have hpl : plainFor q.1 = true := by
            obtain ⟨yn, bytes, maxL, ret, st, i0, i1, i2, i3, n⟩ := q
            simp only [qmiOk, Bool.and_eq_true, Bool.or_eq_true, decide_eq_true_eq] at hok
            exact hok.1.1.1.1.1.2
          refine va_MetF (cc := q.2.1) (maxL := q.2.2.1) (ret := q.2.2.2.1) hpl rfl ?_
          intro p e s m args below meth c s₁ B hml hv
          obtain ⟨rfl, hP, hK, hD0, hN⟩ := hv
          have hts := atoms_spec (ws := qws q) B.pre
          have hown : s.vm.findClass (qownS pr.1) = some m.cls := by rw [k1]; exact findClass_of_methodNamed B.named
          have E : qEnv p s m (av.map (qenc ad)).toArray c q.2.1 q.2.2.1 pr.1 D cA := ⟨B.exec, B.bytes, hml, hown, fun w hw => hts w (List.mem_cons_of_mem _ hw), hK, hN⟩
          have hlocks := B.notSynchronized
          have hret := B.returns
          have hW : QW ad cA D (qfree ad) s.heap μ s.heap [] := ⟨hP, ⟨hD0.1, fun k x hx => by
            unfold qwld at hx
            rw [List.getElem?_map] at hx
            cases hz : qdoml[k]? with
            | none => rw [hz] at hx; cases hx
            | some a =>
              rw [hz] at hx
              cases hx
              exact ⟨a, (qdom_mem a).mpr (List.mem_of_getElem? hz), rfl⟩⟩, va_S.rf⟩
          have X : qCtx p l e (headSpec (qws q) (qrm (d + 1))).room s m (av.map (qenc ad)).toArray below meth c (MQ below (qPost ad cA D r μ') (av.map (qenc ad)).toArray s 0 0 (qfree ad)) 0 0 pr.1 q.2.1 q.2.2.1 q.2.2.2.1 D cA ad (qfree ad) s.heap false (r, μ') (qcall ps d) := by
            have hroom : (headSpec (qws q) (qrm (d + 1))).room = qrm (d + 1) := rfl
            refine ⟨fun pc ls μ1 H locs hsz hW1 y1 cp q1 nest idx hq1 he hdd av1 rest r1 μ2 hlen hcl hokv hwd kk => ?_, fun _ _ _ _ _ _ z => (by cases z), fun _ _ _ _ _ _ z => (by cases z), fun pc ls μ1 H locs hW1 => ⟨fun x hdg hr he => ?_, fun x hdg hr he => ?_, fun x hdg hr he => ?_, fun hdg hr he => ?_⟩⟩
            · obtain ⟨q2, pr2, hq2, hp2, hk2, hga2, hM2⟩ := qmet l ad cA D ps hps hps2 d y1 av1 μ1 r1 μ2 hcl
              cases hq1.symm.trans hq2
              refine q_call E (d := d) ⟨by rw [hroom]; exact Nat.le_refl _, by rw [hroom]; exact Nat.le_refl _, Nat.zero_le _, Nat.zero_le _⟩ hsz hW1 hq1 he hdd hlen hM2 ?_ hwd kk
              intro hst
              unfold qpok at hk2
              rw [hq1] at hk2
              simp only [Bool.and_eq_true, decide_eq_true_eq, hst, Bool.false_or] at hk2
              obtain ⟨⟨⟨⟨⟨j1, -⟩, -⟩, -⟩, j5⟩, -⟩ := hk2
              cases hsg : pr2.2.1 with
              | nil => rw [hsg] at j5; cases j5
              | cons sg ss =>
                rw [hsg] at j5 hga2
                simp only [Bool.and_eq_true, decide_eq_true_eq] at j5
                obtain ⟨⟨⟨j6, j7⟩, j8⟩, j9⟩ := j5
                cases av1 with
                | nil => cases hga2
                | cons u us =>
                  simp only [qargs, Bool.and_eq_true] at hga2
                  rcases u with x | x | _ | a
                  · simp only [qarg1, beq_iff_eq] at hga2; omega
                  · simp only [qarg1, beq_iff_eq] at hga2; omega
                  · simp [qarg1] at hga2
                  · simp only [qarg1, Bool.and_eq_true, Bool.or_eq_true, beq_iff_eq] at hga2
                    obtain ⟨⟨h1, h2⟩, -⟩ := hga2
                    refine ⟨a, us, pr2.1, rfl, h2, ?_, j9, j1⟩
                    rw [show a.1 = sg - 2 by omega]
                    exact j8
            · cases he
              have hF := hW1.2.2
              rcases hr with hr | ⟨hr, h01⟩
              · exact W.zret (ty := .int) B.exec B.bytes (hret.trans hr) rfl (fun t ht _ => ⟨rfl, by rw [ht]; exact hW1.1, hF.F ht⟩) hF.2.2 hdg hlocks
              · exact W.zret (ty := .boolean) B.exec B.bytes (hret.trans hr) (by rcases h01 with rfl | rfl <;> rfl) (fun t ht _ => ⟨rfl, by rw [ht]; exact hW1.1, hF.F ht⟩) hF.2.2 hdg hlocks
            · cases he
              have hF := hW1.2.2
              exact W.lret B.exec B.bytes (hret.trans hr) (fun t ht _ => ⟨rfl, by rw [ht]; exact hW1.1, hF.F ht⟩) hF.2.2 hdg hlocks
            · cases he
              have hF := hW1.2.2
              obtain ⟨n, hr⟩ := hr
              exact W.aret B.exec B.bytes (hret.trans hr) (Or.inl ⟨n, rfl⟩) (by rcases x with _ | a; exact Or.inl rfl; exact Or.inr ⟨_, rfl⟩) (fun t ht _ => ⟨rfl, by rw [ht]; exact hW1.1, hF.F ht⟩) hF.2.2 hdg hlocks
            · cases he
              have hF := hW1.2.2
              exact W.vret B.exec B.bytes (hret.trans hr) (fun t ht _ => ⟨rfl, by rw [ht]; exact hW1.1, hF.F ht⟩) hF.2.2 hdg hlocks
          have hl := lv_entry (av.map (qenc ad)) (n := q.2.2.1) (by rw [qexp_len, ← k3]; exact hexl)
          rw [lg_entry_eq]
          generalize (lg_sl (av.map (qenc ad)) ++ List.replicate (q.2.2.1 - (lg_sl (av.map (qenc ad))).length) Slot.unset).toArray = ls at hl ⊢
          have hL : QLr ad false ls q.2.2.1 (qent pr.2.2.1 av) := by
            rw [k3]
            exact qent_ok (by rw [← k3]; exact hexl) (qargs_ok _ _ hga) hl
          exact qrun_sound E (fun z => (by cases z)) ⟨Nat.le_add_left 1 d, by show 21 ≤ 64 * (d + 1); omega, Nat.zero_le _, Nat.zero_le _⟩ X k6 (st := []) ⟨hL, fun v hv => (by cases hv), hW⟩ h
end
section
/-! the methods, resolved: each checked against its bytes -/
def qc_Cause_copyFrom : List QE := [(0, none, .aload 0), (1, none, .aload 1), (2, none, .getfield 64), (5, none, .putfield 64), (8, none, .aload 0), (9, none, .aload 1), (10, none, .getfield 65), (13, none, .putfield 65), (16, none, .aload 0), (17, none, .aload 1), (18, none, .getfield 66), (21, none, .putfield 66), (24, none, .aload 0), (25, none, .aload 1), (26, none, .getfield 67), (29, none, .putfield 67), (32, none, .aload 0), (33, none, .aload 1), (34, none, .getfield 68), (37, none, .putfield 68), (40, none, .aload 0), (41, none, .aload 1), (42, none, .getfield 69), (45, none, .putfield 69), (48, none, .aload 0), (49, none, .aload 1), (50, none, .getfield 70), (53, none, .putfield 70), (56, none, .return_)]
def qp_Cause_copyFrom : QP := (1, [3, 3], 2, qc_Cause_copyFrom)
def qc_Cause_become : List QE := [(0, none, .aload 0), (1, none, .iload 1), (2, none, .putfield 64), (5, none, .aload 0), (6, none, .iload 2), (7, none, .putfield 65), (10, none, .aload 0), (11, none, .iload 3), (12, none, .putfield 66), (15, none, .aload 0), (16, none, .iload 4), (18, none, .putfield 67), (21, none, .aload 0), (22, none, .sipush 0), (23, none, .putfield 68), (26, none, .aload 0), (27, none, .iload 1), (28, none, .iload 2), (29, none, .invokeinterface 4 17), (32, none, .putfield 69), (35, none, .aload 0), (36, none, .iload 1), (37, none, .iload 2), (38, none, .invokeinterface 5 17), (41, none, .putfield 70), (44, none, .return_)]
def qp_Cause_become : QP := (1, [3, 0, 0, 0, 0], 5, qc_Cause_become)
def qc_Cause_lastDay : List QE := [(0, none, .aload 0), (1, none, .getfield 67), (4, none, .aload 0), (5, none, .getfield 69), (8, none, .iadd), (9, none, .ireturn)]
def qp_Cause_lastDay : QP := (1, [3], 1, qc_Cause_lastDay)
def qc_Cause_isFreshOn : List QE := [(0, none, .aload 0), (1, none, .getfield 67), (4, none, .iload 1), (5, none, .if_icmp .gt 20), (8, none, .iload 1), (9, none, .aload 0), (10, none, .getfield 67), (13, none, .isub), (14, none, .aload 0), (15, none, .getfield 69), (18, none, .if_icmp .gt 7), (21, none, .sipush 1), (22, none, .goto 4), (25, some [false, false], .sipush 0), (26, some [false, false], .freturn)]
def qp_Cause_isFreshOn : QP := (1, [3, 0], 2, qc_Cause_isFreshOn)
def qc_Cause_lastingOf : List QE := [(0, none, .sipush 5), (1, none, .iload 1), (2, none, .iadd), (3, none, .istore 2), (4, none, .iload 0), (5, none, .tableswitch 58 1 5 #[35, 39, 43, 45, 51]), (40, some [false, false, true], .sipush 2), (41, none, .iload 2), (42, none, .imul), (43, none, .ireturn), (44, some [false, false, true], .iload 2), (45, none, .sipush 2), (46, none, .idiv), (47, none, .ireturn), (48, some [false, false, false], .sipush 0), (49, none, .ireturn), (50, some [false, false, true], .iload 2), (51, none, .sipush 2), (52, none, .idiv), (53, none, .sipush 1), (54, none, .isub), (55, none, .ireturn), (56, some [false, false, true], .sipush 2), (57, none, .iload 2), (58, none, .imul), (59, none, .sipush 7), (61, none, .iadd), (62, none, .ireturn), (63, some [false, false, true], .iload 2), (64, none, .ireturn)]
def qp_Cause_lastingOf : QP := (1, [0, 0], 3, qc_Cause_lastingOf)
def qc_Cause_weightOf : List QE := [(0, none, .iload 1), (1, none, .sipush 1), (2, none, .iadd), (3, none, .istore 2), (4, none, .iload 0), (5, none, .tableswitch 58 1 5 #[35, 39, 43, 47, 54]), (40, some [false, false, true], .iload 2), (41, none, .sipush 2), (42, none, .iadd), (43, none, .ireturn), (44, some [false, false, true], .sipush 2), (45, none, .iload 2), (46, none, .imul), (47, none, .ireturn), (48, some [false, false, true], .iload 2), (49, none, .sipush 2), (50, none, .idiv), (51, none, .ireturn), (52, some [false, false, true], .sipush 2), (53, none, .iload 2), (54, none, .imul), (55, none, .sipush 9), (57, none, .iadd), (58, none, .ireturn), (59, some [false, false, true], .iload 2), (60, none, .sipush 1), (61, none, .iadd), (62, none, .ireturn), (63, some [false, false, true], .iload 2), (64, none, .ireturn)]
def qp_Cause_weightOf : QP := (1, [0, 0], 3, qc_Cause_weightOf)
def qc_Person_copyFrom : List QE := [(0, none, .aload 0), (1, none, .aload 1), (2, none, .getfield 192), (5, none, .putfield 192), (8, none, .aload 0), (9, none, .aload 1), (10, none, .getfield 193), (13, none, .putfield 193), (16, none, .aload 0), (17, none, .aload 1), (18, none, .getfield 194), (21, none, .putfield 194), (24, none, .aload 0), (25, none, .aload 1), (26, none, .getfield 195), (29, none, .putfield 195), (32, none, .aload 0), (33, none, .aload 1), (34, none, .getfield 196), (37, none, .putfield 196), (40, none, .return_)]
def qp_Person_copyFrom : QP := (3, [5, 5], 2, qc_Person_copyFrom)
def qc_Person_isDueOn : List QE := [(0, none, .iload 1), (1, none, .sipush 7), (3, none, .irem), (4, none, .aload 0), (5, none, .getfield 192), (8, none, .if_icmp .ne 14), (11, none, .aload 0), (12, none, .getfield 196), (15, none, .ifCond .ne 7), (18, none, .sipush 1), (19, none, .goto 4), (22, some [false, false], .sipush 0), (23, some [false, false], .freturn)]
def qp_Person_isDueOn : QP := (3, [5, 0], 2, qc_Person_isDueOn)
def qc_Person_endDay : List QE := [(0, none, .aload 0), (1, none, .iload 1), (2, none, .invokeinterface 7 17), (5, none, .ifCond .eq 30), (8, none, .aload 0), (9, none, .dup), (10, none, .getfield 193), (13, none, .sipush 3), (14, none, .aload 0), (15, none, .getfield 193), (18, none, .fsub), (21, none, .isub), (22, none, .putfield 193), (25, none, .aload 0), (26, none, .dup), (27, none, .getfield 194), (30, none, .sipush 1), (31, none, .iadd), (32, none, .putfield 194), (35, some [true, false], .aload 0), (36, none, .sipush 0), (37, none, .putfield 196), (40, none, .return_)]
def qp_Person_endDay : QP := (3, [5, 0], 2, qc_Person_endDay)
def qc_Affair_copyFrom : List QE := [(0, none, .aload 0), (1, none, .aload 1), (2, none, .getfield 128), (5, none, .putfield 128), (8, none, .aload 0), (9, none, .getfield 129), (12, none, .aload 1), (13, none, .getfield 129), (16, none, .invokeinterface 6 16), (19, none, .aload 0), (20, none, .getfield 130), (23, none, .aload 1), (24, none, .getfield 130), (27, none, .invokeinterface 6 16), (30, none, .aload 0), (31, none, .aload 1), (32, none, .getfield 132), (35, none, .putfield 132), (38, none, .sipush 0), (39, none, .istore 2), (40, some [true, true, true], .iload 2), (41, none, .aload 0), (42, none, .getfield 132), (45, none, .if_icmp .ge 30), (48, none, .iload 2), (49, none, .sipush 12), (51, none, .if_icmp .ge 24), (54, none, .aload 0), (55, none, .getfield 131), (58, none, .iload 2), (59, none, .aaload), (60, none, .aload 1), (61, none, .getfield 131), (64, none, .iload 2), (65, none, .aaload), (66, none, .invokeinterface 0 16), (69, none, .iinc 2 1), (72, none, .goto (-32)), (75, some [false, false, false], .return_)]
def qp_Affair_copyFrom : QP := (2, [4, 4], 3, qc_Affair_copyFrom)
def qc_Affair_person : List QE := [(0, none, .iload 1), (1, none, .ifCond .ne 10), (4, none, .aload 0), (5, none, .getfield 129), (8, none, .goto 7), (11, some [true, false], .aload 0), (12, none, .getfield 130), (15, some [false, false], .areturn)]
def qp_Affair_person : QP := (2, [4, 0], 2, qc_Affair_person)
def qc_Affair_causeAt : List QE := [(0, none, .iload 1), (1, none, .ifCond .lt 26), (4, none, .iload 1), (5, none, .aload 0), (6, none, .getfield 132), (9, none, .if_icmp .ge 18), (12, none, .iload 1), (13, none, .sipush 12), (15, none, .if_icmp .ge 12), (18, none, .aload 0), (19, none, .getfield 131), (22, none, .iload 1), (23, none, .aaload), (24, none, .goto 4), (27, some [false, false], .aconst_null), (28, some [false, false], .areturn)]
def qp_Affair_causeAt : QP := (2, [4, 0], 2, qc_Affair_causeAt)
def qc_Affair_bring : List QE := [(0, none, .aload 0), (1, none, .getfield 132), (4, none, .ifCond .lt 12), (7, none, .aload 0), (8, none, .getfield 132), (11, none, .sipush 12), (13, none, .if_icmp .lt 4), (16, some [false, false, false, false, false], .return_), (17, some [true, true, true, true, true], .aload 0), (18, none, .getfield 131), (21, none, .aload 0), (22, none, .getfield 132), (25, none, .aaload), (26, none, .iload 1), (27, none, .iload 2), (28, none, .iload 3), (29, none, .iload 4), (31, none, .invokeinterface 1 40), (34, none, .aload 0), (35, none, .dup), (36, none, .getfield 132), (39, none, .sipush 1), (40, none, .iadd), (41, none, .putfield 132), (44, none, .return_)]
def qp_Affair_bring : QP := (2, [4, 0, 0, 0, 0], 5, qc_Affair_bring)
def qc_Affair_used : List QE := [(0, none, .sipush 0), (1, none, .istore 1), (2, none, .sipush 0), (3, none, .istore 2), (4, some [true, true, true], .iload 2), (5, none, .aload 0), (6, none, .getfield 132), (9, none, .if_icmp .ge 33), (12, none, .iload 2), (13, none, .sipush 12), (15, none, .if_icmp .ge 27), (18, none, .aload 0), (19, none, .getfield 131), (22, none, .iload 2), (23, none, .aaload), (24, none, .getfield 68), (27, none, .ifCond .eq 9), (30, none, .iload 1), (31, none, .sipush 1), (32, none, .iload 2), (33, none, .ishl), (34, none, .ior), (35, none, .istore 1), (36, some [true, true, true], .iinc 2 1), (39, none, .goto (-35)), (42, some [false, true, false], .iload 1), (43, none, .ireturn)]
def qp_Affair_used : QP := (2, [4], 3, qc_Affair_used)
def qc_Affair_unused : List QE := [(0, none, .sipush 1), (1, none, .aload 0), (2, none, .getfield 132), (5, none, .ishl), (6, none, .sipush 1), (7, none, .isub), (8, none, .aload 0), (9, none, .invokeinterface 13 9), (12, none, .sipush (-1)), (13, none, .ixor), (14, none, .iand), (15, none, .ireturn)]
def qp_Affair_unused : QP := (2, [4], 1, qc_Affair_unused)
def qc_Affair_unusedFor : List QE := [(0, none, .sipush 0), (1, none, .istore 2), (2, none, .sipush 0), (3, none, .istore 3), (4, some [true, true, true, true], .iload 3), (5, none, .aload 0), (6, none, .getfield 132), (9, none, .if_icmp .ge 46), (12, none, .iload 3), (13, none, .sipush 12), (15, none, .if_icmp .ge 40), (18, none, .aload 0), (19, none, .getfield 131), (22, none, .iload 3), (23, none, .aaload), (24, none, .getfield 68), (27, none, .ifCond .ne 22), (30, none, .aload 0), (31, none, .getfield 131), (34, none, .iload 3), (35, none, .aaload), (36, none, .getfield 66), (39, none, .iload 1), (40, none, .if_icmp .ne 9), (43, none, .iload 2), (44, none, .sipush 1), (45, none, .iload 3), (46, none, .ishl), (47, none, .ior), (48, none, .istore 2), (49, some [true, true, true, true], .iinc 3 1), (52, none, .goto (-48)), (55, some [false, false, true, false], .iload 2), (56, none, .ireturn)]
def qp_Affair_unusedFor : QP := (2, [4, 0], 4, qc_Affair_unusedFor)
def qc_Affair_weightUnused : List QE := [(0, none, .sipush 0), (1, none, .istore 1), (2, none, .sipush 0), (3, none, .istore 2), (4, some [true, true, true], .iload 2), (5, none, .aload 0), (6, none, .getfield 132), (9, none, .if_icmp .ge 39), (12, none, .iload 2), (13, none, .sipush 12), (15, none, .if_icmp .ge 33), (18, none, .aload 0), (19, none, .getfield 131), (22, none, .iload 2), (23, none, .aaload), (24, none, .getfield 68), (27, none, .ifCond .ne 15), (30, none, .iload 1), (31, none, .aload 0), (32, none, .getfield 131), (35, none, .iload 2), (36, none, .aaload), (37, none, .getfield 70), (40, none, .iadd), (41, none, .istore 1), (42, some [true, true, true], .iinc 2 1), (45, none, .goto (-41)), (48, some [false, true, false], .iload 1), (49, none, .ireturn)]
def qp_Affair_weightUnused : QP := (2, [4], 3, qc_Affair_weightUnused)
def qc_Affair_isGood : List QE := [(0, none, .aload 1), (1, none, .getfield 64), (4, none, .sipush 4), (5, none, .if_icmp .eq 21), (8, none, .iload 2), (9, none, .sipush 7), (11, none, .irem), (12, none, .aload 0), (13, none, .aload 1), (14, none, .getfield 66), (17, none, .invokeinterface 10 211), (20, none, .getfield 192), (23, none, .if_icmp .ne 7), (26, some [false, true, true, false], .sipush 1), (27, none, .goto 4), (30, some [false, true, true, false], .sipush 0), (31, some [false, true, true, false], .istore 3), (32, none, .iload 3), (33, none, .ifCond .eq 15), (36, none, .aload 1), (37, none, .iload 2), (38, none, .invokeinterface 3 17), (41, none, .ifCond .eq 7), (44, none, .sipush 1), (45, none, .goto 4), (48, some [false, false, false, false], .sipush 0), (49, some [false, false, false, false], .freturn)]
def qp_Affair_isGood : QP := (2, [4, 3, 0], 4, qc_Affair_isGood)
def qc_Affair_hasGoodOn : List QE := [(0, none, .sipush 0), (1, none, .istore 2), (2, some [true, true, true], .iload 2), (3, none, .aload 0), (4, none, .getfield 132), (7, none, .if_icmp .ge 43), (10, none, .iload 2), (11, none, .sipush 12), (13, none, .if_icmp .ge 37), (16, none, .aload 0), (17, none, .getfield 131), (20, none, .iload 2), (21, none, .aaload), (22, none, .getfield 68), (25, none, .ifCond .ne 19), (28, none, .aload 0), (29, none, .aload 0), (30, none, .getfield 131), (33, none, .iload 2), (34, none, .aaload), (35, none, .iload 1), (36, none, .invokeinterface 17 25), (39, none, .ifCond .eq 5), (42, none, .sipush 1), (43, none, .freturn), (44, some [true, true, true], .iinc 2 1), (47, none, .goto (-45)), (50, some [false, false, false], .sipush 0), (51, none, .freturn)]
def qp_Affair_hasGoodOn : QP := (2, [4, 0], 3, qc_Affair_hasGoodOn)
def qc_Affair_isUsable : List QE := [(0, none, .aload 1), (1, none, .getfield 68), (4, none, .ifCond .ne 33), (7, none, .aload 0), (8, none, .aload 1), (9, none, .getfield 66), (12, none, .invokeinterface 10 211), (15, none, .getfield 196), (18, none, .ifCond .ne 19), (21, none, .aload 0), (22, none, .aload 1), (23, none, .aload 0), (24, none, .getfield 128), (27, none, .invokeinterface 17 25), (30, none, .ifCond .eq 7), (33, none, .sipush 1), (34, none, .goto 4), (37, some [false, false], .sipush 0), (38, some [false, false], .freturn)]
def qp_Affair_isUsable : QP := (2, [4, 3], 2, qc_Affair_isUsable)
def qc_Affair_spend : List QE := [(0, none, .aload 0), (1, none, .aload 1), (2, none, .getfield 66), (5, none, .invokeinterface 10 211), (8, none, .astore 2), (9, none, .aload 0), (10, none, .aload 1), (11, none, .getfield 66), (14, none, .invokeinterface 114 9), (17, none, .invokeinterface 10 211), (20, none, .astore 3), (21, none, .aload 1), (22, none, .getfield 70), (25, none, .istore 4), (27, none, .iload 4), (29, none, .aload 3), (30, none, .getfield 193), (33, none, .aload 2), (34, none, .getfield 193), (37, none, .invokeinterface 151 25), (40, none, .istore 5), (42, none, .aload 3), (43, none, .dup), (44, none, .getfield 193), (47, none, .iload 5), (49, none, .isub), (50, none, .putfield 193), (53, none, .aload 3), (54, none, .dup), (55, none, .getfield 195), (58, none, .iload 4), (60, none, .iload 5), (62, none, .isub), (63, none, .iadd), (64, none, .putfield 195), (67, none, .aload 2), (68, none, .dup), (69, none, .getfield 193), (72, none, .iload 5), (74, none, .iadd), (75, none, .putfield 193), (78, none, .aload 2), (79, none, .sipush 1), (80, none, .putfield 196), (83, none, .aload 1), (84, none, .sipush 1), (85, none, .putfield 68), (88, none, .iload 5), (90, none, .ireturn)]
def qp_Affair_spend : QP := (2, [4, 3], 6, qc_Affair_spend)
def qc_Affair_endDay : List QE := [(0, none, .aload 0), (1, none, .getfield 129), (4, none, .aload 0), (5, none, .getfield 128), (8, none, .invokeinterface 8 16), (11, none, .aload 0), (12, none, .getfield 130), (15, none, .aload 0), (16, none, .getfield 128), (19, none, .invokeinterface 8 16), (22, none, .aload 0), (23, none, .dup), (24, none, .getfield 128), (27, none, .sipush 1), (28, none, .iadd), (29, none, .putfield 128), (32, none, .return_)]
def qp_Affair_endDay : QP := (2, [4], 1, qc_Affair_endDay)
def qc_Affair_findLater : List QE := [(0, none, .sipush 0), (1, none, .istore 3), (2, some [true, true, true, true], .iload 3), (3, none, .aload 0), (4, none, .getfield 132), (7, none, .if_icmp .ge 65), (10, none, .iload 3), (11, none, .sipush 12), (13, none, .if_icmp .ge 59), (16, none, .aload 0), (17, none, .getfield 131), (20, none, .iload 3), (21, none, .aaload), (22, none, .getfield 68), (25, none, .ifCond .ne 41), (28, none, .aload 0), (29, none, .getfield 131), (32, none, .iload 3), (33, none, .aaload), (34, none, .getfield 66), (37, none, .iload 1), (38, none, .if_icmp .ne 28), (41, none, .aload 0), (42, none, .getfield 131), (45, none, .iload 3), (46, none, .aaload), (47, none, .sipush 83), (49, none, .aload 0), (50, none, .getfield 131), (53, none, .iload 3), (54, none, .aaload), (55, none, .getfield 67), (58, none, .iload 2), (59, none, .iadd), (60, none, .fsub), (63, none, .putfield 67), (66, some [true, true, true, true], .iinc 3 1), (69, none, .goto (-67)), (72, some [false, false, false, false], .return_)]
def qp_Affair_findLater : QP := (2, [4, 0, 0], 4, qc_Affair_findLater)
def qc_Affair_atHand : List QE := [(0, none, .aload 0), (1, none, .iload 1), (2, none, .invokeinterface 10 211), (5, none, .aload 0), (6, none, .getfield 128), (9, none, .invokeinterface 7 17), (12, none, .ifCond .ne 5), (15, none, .sipush (-1)), (16, none, .ireturn), (17, some [true, true, false, false, false, false], .sipush (-1)), (18, none, .istore 2), (19, none, .sipush 0), (20, none, .istore 3), (21, none, .sipush 0), (22, none, .istore 4), (24, some [true, true, true, true, true, false], .iload 4), (26, none, .aload 0), (27, none, .getfield 132), (30, none, .if_icmp .ge 79), (33, none, .iload 4), (35, none, .sipush 12), (37, none, .if_icmp .ge 72), (40, none, .aload 0), (41, none, .getfield 131), (44, none, .iload 4), (46, none, .aaload), (47, none, .astore 5), (49, none, .aload 5), (51, none, .getfield 66), (54, none, .iload 1), (55, none, .if_icmp .ne 48), (58, none, .aload 5), (60, none, .getfield 68), (63, none, .ifCond .ne 40), (66, none, .aload 5), (68, none, .aload 0), (69, none, .getfield 128), (72, none, .invokeinterface 3 17), (75, none, .ifCond .ne 6), (78, none, .goto 25), (81, some [true, true, true, true, true, true], .iload 2), (82, none, .ifCond .lt 12), (85, none, .aload 5), (87, none, .invokeinterface 2 9), (90, none, .iload 3), (91, none, .if_icmp .ge 12), (94, some [true, true, false, false, true, true], .iload 4), (96, none, .istore 2), (97, none, .aload 5), (99, none, .invokeinterface 2 9), (102, none, .istore 3), (103, some [true, true, true, true, true, false], .iinc 4 1), (106, none, .goto (-82)), (109, some [false, false, true, false, false, false], .iload 2), (110, none, .ireturn)]
def qp_Affair_atHand : QP := (2, [4, 0], 6, qc_Affair_atHand)
def qc_Affair_liveDay : List QE := [(0, none, .aload 0), (1, none, .aload 0), (2, none, .iload 1), (3, none, .invokeinterface 23 17), (6, none, .invokeinterface 11 84), (9, none, .astore 2), (10, none, .aload 2), (11, none, .ifnonnull 5), (14, none, .sipush 0), (15, none, .ireturn), (16, some [true, false, true], .aload 0), (17, none, .aload 2), (18, none, .invokeinterface 20 17), (21, none, .pop), (22, none, .aload 2), (23, none, .getfield 70), (26, none, .ireturn)]
def qp_Affair_liveDay : QP := (2, [4, 0], 3, qc_Affair_liveDay)
def qc_Affair_liveTo : List QE := [(0, none, .aload 0), (1, none, .getfield 128), (4, none, .istore 2), (5, some [true, true, true], .iload 2), (6, none, .iload 1), (7, none, .if_icmp .ge 25), (10, none, .aload 0), (11, none, .sipush 0), (12, none, .invokeinterface 24 17), (15, none, .pop), (16, none, .aload 0), (17, none, .sipush 1), (18, none, .invokeinterface 24 17), (21, none, .pop), (22, none, .aload 0), (23, none, .invokeinterface 21 8), (26, none, .iinc 2 1), (29, none, .goto (-24)), (32, some [false, false, false], .return_)]
def qp_Affair_liveTo : QP := (2, [4, 0], 3, qc_Affair_liveTo)
def qc_Plan_takeNeeded : List QE := [(0, none, .aload 1), (1, none, .iload 2), (2, none, .invokeinterface 10 211), (5, none, .getfield 196), (8, none, .istore 5), (10, none, .aload 0), (11, none, .sipush 0), (12, none, .putfield 321), (15, none, .aload 1), (16, none, .getfield 128), (19, none, .istore 6), (21, some [true, true, false, true, true, true, true, false], .iload 6), (23, none, .iload 4), (25, none, .if_icmp .gt 50), (28, none, .iload 5), (30, none, .ifCond .eq 16), (33, none, .iload 6), (35, none, .aload 1), (36, none, .getfield 128), (39, none, .if_icmp .ne 7), (42, none, .sipush 1), (43, none, .goto 4), (46, some [true, true, false, true, true, true, true, false], .sipush 0), (47, some [true, true, false, true, true, true, true, false], .istore 7), (49, none, .iload 6), (51, none, .sipush 7), (53, none, .irem), (54, none, .iload 3), (55, none, .if_icmp .ne 14), (58, none, .iload 7), (60, none, .ifCond .ne 9), (63, none, .aload 0), (64, none, .iload 6), (66, none, .invokeinterface 28 16), (69, some [true, true, false, true, true, true, true, false], .iinc 6 1), (72, none, .goto (-51)), (75, some [false, false, false, false, false, false, false, false], .return_)]
def qp_Plan_takeNeeded : QP := (4, [7, 4, 0, 0, 0], 8, qc_Plan_takeNeeded)
def qc_Plan_takeDays : List QE := [(0, none, .aload 0), (1, none, .sipush 0), (2, none, .putfield 321), (5, none, .sipush 0), (6, none, .istore 3), (7, some [true, true, true, true], .iload 3), (8, none, .iload 2), (9, none, .if_icmp .ge 22), (12, none, .iload 3), (13, none, .aload 1), (14, none, .arraylength), (15, none, .if_icmp .ge 16), (18, none, .aload 0), (19, none, .aload 1), (20, none, .iload 3), (21, none, .iaload), (22, none, .invokeinterface 28 16), (25, none, .iinc 3 1), (28, none, .goto (-21)), (31, some [false, false, false, false], .return_)]
def qp_Plan_takeDays : QP := (4, [7, 21, 0], 4, qc_Plan_takeDays)
def qc_Plan_takeDay : List QE := [(0, none, .aload 0), (1, none, .getfield 321), (4, none, .ifCond .lt 32), (7, none, .aload 0), (8, none, .getfield 321), (11, none, .sipush 12), (13, none, .if_icmp .ge 23), (16, none, .aload 0), (17, none, .getfield 320), (20, none, .aload 0), (21, none, .getfield 321), (24, none, .iload 1), (25, none, .iastore), (26, none, .aload 0), (27, none, .dup), (28, none, .getfield 321), (31, none, .sipush 1), (32, none, .iadd), (33, none, .putfield 321), (36, some [false, false], .return_)]
def qp_Plan_takeDay : QP := (4, [7, 0], 2, qc_Plan_takeDay)
def qc_Plan_takeCauses : List QE := [(0, none, .aload 0), (1, none, .sipush 0), (2, none, .putfield 325), (5, none, .aload 0), (6, none, .sipush 0), (7, none, .putfield 324), (10, none, .sipush 0), (11, none, .istore 3), (12, some [true, true, true, true, false, false], .iload 3), (13, none, .sipush 12), (15, none, .if_icmp .ge 89), (18, none, .aload 1), (19, none, .iload 3), (20, none, .invokeinterface 11 84), (23, none, .astore 4), (25, none, .aload 4), (27, none, .ifnull 71), (30, none, .iload 2), (31, none, .sipush 1), (32, none, .iload 3), (33, none, .ishl), (34, none, .iand), (35, none, .ifCond .ne 6), (38, none, .goto 60), (41, some [true, true, true, true, true, false], .aload 0), (42, none, .getfield 322), (45, none, .iload 3), (46, none, .aaload), (47, none, .astore 5), (49, none, .aload 5), (51, none, .aload 4), (53, none, .getfield 70), (56, none, .putfield 385), (59, none, .aload 5), (61, none, .aload 4), (63, none, .invokeinterface 2 9), (66, none, .putfield 386), (69, none, .aload 5), (71, none, .aload 0), (72, none, .aload 4), (74, none, .invokeinterface 30 17), (77, none, .putfield 387), (80, none, .aload 0), (81, none, .dup), (82, none, .getfield 325), (85, none, .sipush 1), (86, none, .iload 3), (87, none, .ishl), (88, none, .ior), (89, none, .putfield 325), (92, none, .aload 0), (93, none, .aload 5), (95, none, .invokeinterface 31 16), (98, some [true, true, true, true, false, false], .iinc 3 1), (101, none, .goto (-89)), (104, some [false, false, false, false, false, false], .return_)]
def qp_Plan_takeCauses : QP := (4, [7, 4, 0], 6, qc_Plan_takeCauses)
def qc_Plan_freshDaysOf : List QE := [(0, none, .sipush 0), (1, none, .istore 2), (2, none, .sipush 0), (3, none, .istore 3), (4, some [true, true, true, true], .iload 3), (5, none, .aload 0), (6, none, .getfield 321), (9, none, .if_icmp .ge 34), (12, none, .iload 3), (13, none, .sipush 12), (15, none, .if_icmp .ge 28), (18, none, .aload 1), (19, none, .aload 0), (20, none, .getfield 320), (23, none, .iload 3), (24, none, .iaload), (25, none, .invokeinterface 3 17), (28, none, .ifCond .eq 9), (31, none, .iload 2), (32, none, .sipush 1), (33, none, .iload 3), (34, none, .ishl), (35, none, .ior), (36, none, .istore 2), (37, some [true, true, true, true], .iinc 3 1), (40, none, .goto (-36)), (43, some [false, false, true, false], .iload 2), (44, none, .ireturn)]
def qp_Plan_freshDaysOf : QP := (4, [7, 3], 4, qc_Plan_freshDaysOf)
def qc_Plan_sortIn : List QE := [(0, none, .aload 0), (1, none, .getfield 324), (4, none, .ifCond .lt 12), (7, none, .aload 0), (8, none, .getfield 324), (11, none, .sipush 12), (13, none, .if_icmp .lt 4), (16, some [false, false, false], .return_), (17, some [true, true, false], .aload 0), (18, none, .getfield 324), (21, none, .istore 2), (22, some [true, true, true], .iload 2), (23, none, .ifCond .le 41), (26, none, .aload 0), (27, none, .getfield 323), (30, none, .iload 2), (31, none, .sipush 1), (32, none, .isub), (33, none, .aaload), (34, none, .getfield 385), (37, none, .aload 1), (38, none, .getfield 385), (41, none, .if_icmp .gt 23), (44, none, .aload 0), (45, none, .getfield 323), (48, none, .iload 2), (49, none, .aload 0), (50, none, .getfield 323), (53, none, .iload 2), (54, none, .sipush 1), (55, none, .isub), (56, none, .aaload), (57, none, .aastore), (58, none, .iinc 2 (-1)), (61, none, .goto (-39)), (64, some [true, true, true], .aload 0), (65, none, .getfield 323), (68, none, .iload 2), (69, none, .aload 1), (70, none, .aastore), (71, none, .aload 0), (72, none, .dup), (73, none, .getfield 324), (76, none, .sipush 1), (77, none, .iadd), (78, none, .putfield 324), (81, none, .return_)]
def qp_Plan_sortIn : QP := (4, [7, 8], 3, qc_Plan_sortIn)
def qc_Plan_allDays : List QE := [(0, none, .sipush 1), (1, none, .aload 0), (2, none, .getfield 321), (5, none, .ishl), (6, none, .sipush 1), (7, none, .isub), (8, none, .ireturn)]
def qp_Plan_allDays : QP := (4, [7], 1, qc_Plan_allDays)
def qc_Plan_value : List QE := [(0, none, .aload 0), (1, none, .aload 0), (2, none, .getfield 325), (5, none, .aload 0), (6, none, .invokeinterface 32 9), (9, none, .invokeinterface 35 25), (12, none, .ireturn)]
def qp_Plan_value : QP := (4, [7], 1, qc_Plan_value)
def qc_Plan_valueWithout : List QE := [(0, none, .aload 0), (1, none, .aload 0), (2, none, .getfield 325), (5, none, .iload 1), (6, none, .sipush (-1)), (7, none, .ixor), (8, none, .iand), (9, none, .aload 0), (10, none, .invokeinterface 32 9), (13, none, .invokeinterface 35 25), (16, none, .ireturn)]
def qp_Plan_valueWithout : QP := (4, [7, 0], 2, qc_Plan_valueWithout)
def qc_Plan_bestOf : List QE := [(0, none, .sipush 0), (1, none, .istore 3), (2, some [true, true, true, true, false, false], .iload 3), (3, none, .sipush 12), (5, none, .if_icmp .ge 16), (8, none, .aload 0), (9, none, .getfield 326), (12, none, .iload 3), (13, none, .aconst_null), (14, none, .aastore), (15, none, .iinc 3 1), (18, none, .goto (-16)), (21, some [true, true, true, false, false, false], .aload 0), (22, none, .sipush 0), (23, none, .putfield 328), (26, none, .sipush 0), (27, none, .istore 3), (28, none, .sipush 0), (29, none, .istore 4), (31, some [true, true, true, true, true, false], .iload 4), (33, none, .aload 0), (34, none, .getfield 324), (37, none, .if_icmp .ge 90), (40, none, .iload 4), (42, none, .sipush 12), (44, none, .if_icmp .ge 83), (47, none, .aload 0), (48, none, .getfield 323), (51, none, .iload 4), (53, none, .aaload), (54, none, .astore 5), (56, none, .aload 5), (58, none, .ifnull 63), (61, none, .iload 1), (62, none, .sipush 1), (63, none, .aload 5), (65, none, .getfield 384), (68, none, .ishl), (69, none, .iand), (70, none, .ifCond .ne 6), (73, none, .goto 48), (76, some [true, true, true, true, true, true], .aload 0), (77, none, .iload 2), (78, none, .sipush (-1)), (79, none, .ixor), (80, none, .putfield 327), (83, none, .aload 0), (84, none, .aload 5), (86, none, .sipush 0), (87, none, .invokeinterface 36 25), (90, none, .ifCond .eq 31), (93, none, .aload 0), (94, none, .dup), (95, none, .getfield 328), (98, none, .sipush 1), (99, none, .aload 5), (101, none, .getfield 384), (104, none, .ishl), (105, none, .ior), (106, none, .putfield 328), (109, none, .iload 3), (110, none, .sipush 1000), (113, none, .aload 5), (115, none, .getfield 385), (118, none, .iadd), (119, none, .iadd), (120, none, .istore 3), (121, some [true, true, true, true, true, false], .iinc 4 1), (124, none, .goto (-93)), (127, some [false, false, false, true, false, false], .iload 3), (128, none, .ireturn)]
def qp_Plan_bestOf : QP := (4, [7, 0, 0], 6, qc_Plan_bestOf)
def qc_Plan_findDay : List QE := [(0, none, .iload 2), (1, none, .sipush 12), (3, none, .if_icmp .le 5), (6, none, .sipush 0), (7, none, .freturn), (8, some [true, true, true, false, false, false], .sipush 0), (9, none, .istore 3), (10, some [true, true, true, true, false, false], .iload 3), (11, none, .aload 0), (12, none, .getfield 321), (15, none, .if_icmp .ge 88), (18, none, .iload 3), (19, none, .sipush 12), (21, none, .if_icmp .ge 82), (24, none, .sipush 1), (25, none, .iload 3), (26, none, .ishl), (27, none, .istore 4), (29, none, .aload 1), (30, none, .getfield 387), (33, none, .iload 4), (35, none, .iand), (36, none, .ifCond .eq 61), (39, none, .aload 0), (40, none, .getfield 327), (43, none, .iload 4), (45, none, .iand), (46, none, .ifCond .eq 6), (49, none, .goto 48), (52, some [true, true, true, true, true, false], .aload 0), (53, none, .dup), (54, none, .getfield 327), (57, none, .iload 4), (59, none, .ior), (60, none, .putfield 327), (63, none, .aload 0), (64, none, .getfield 326), (67, none, .iload 3), (68, none, .aaload), (69, none, .astore 5), (71, none, .aload 5), (73, none, .ifnull 15), (76, none, .aload 0), (77, none, .aload 5), (79, none, .iload 2), (80, none, .sipush 1), (81, none, .iadd), (82, none, .invokeinterface 36 25), (85, none, .ifCond .eq 12), (88, some [true, true, false, true, false, false], .aload 0), (89, none, .getfield 326), (92, none, .iload 3), (93, none, .aload 1), (94, none, .aastore), (95, none, .sipush 1), (96, none, .freturn), (97, some [true, true, true, true, false, false], .iinc 3 1), (100, none, .goto (-90)), (103, some [false, false, false, false, false, false], .sipush 0), (104, none, .freturn)]
def qp_Plan_findDay : QP := (4, [7, 8, 0], 6, qc_Plan_findDay)
def qc_Plan_firstWay : List QE := [(0, none, .aload 0), (1, none, .getfield 325), (4, none, .istore 2), (5, none, .aload 0), (6, none, .invokeinterface 33 9), (9, none, .istore 3), (10, none, .sipush 0), (11, none, .istore 4), (13, some [true, true, true, true, true, false], .iload 4), (15, none, .aload 0), (16, none, .getfield 321), (19, none, .if_icmp .ge 70), (22, none, .aload 0), (23, none, .iload 4), (25, none, .iload 2), (26, none, .iload 3), (27, none, .invokeinterface 38 420), (30, none, .astore 5), (32, none, .iload 4), (34, none, .iload 1), (35, none, .if_icmp .ne 19), (38, none, .aload 5), (40, none, .ifnonnull 8), (43, none, .sipush (-9)), (45, none, .goto 8), (48, some [false, false, false, false, false, true], .aload 5), (50, none, .getfield 384), (53, some [false, false, false, false, false, false], .ireturn), (54, some [true, true, true, true, true, true], .aload 5), (56, none, .ifnull 27), (59, none, .iload 2), (60, none, .sipush 1), (61, none, .aload 5), (63, none, .getfield 384), (66, none, .ishl), (67, none, .sipush (-1)), (68, none, .ixor), (69, none, .iand), (70, none, .istore 2), (71, none, .iload 3), (72, none, .sipush 1000), (75, none, .aload 5), (77, none, .getfield 385), (80, none, .iadd), (81, none, .isub), (82, none, .istore 3), (83, some [true, true, true, true, true, false], .iinc 4 1), (86, none, .goto (-73)), (89, some [false, false, false, false, false, false], .sipush (-9)), (91, none, .ireturn)]
def qp_Plan_firstWay : QP := (4, [7, 0], 6, qc_Plan_firstWay)
def qc_Plan_firstOn : List QE := [(0, none, .aload 0), (1, none, .invokeinterface 32 9), (4, none, .sipush 2), (5, none, .iload 1), (6, none, .ishl), (7, none, .ineg), (8, none, .iand), (9, none, .istore 4), (11, none, .sipush 0), (12, none, .istore 5), (14, some [true, true, true, true, true, true, false, false], .iload 5), (16, none, .sipush 12), (18, none, .if_icmp .ge 77), (21, none, .aload 0), (22, none, .getfield 322), (25, none, .iload 5), (27, none, .aaload), (28, none, .astore 6), (30, none, .iload 2), (31, none, .sipush 1), (32, none, .iload 5), (34, none, .ishl), (35, none, .iand), (36, none, .ifCond .eq 53), (39, none, .aload 6), (41, none, .getfield 387), (44, none, .sipush 1), (45, none, .iload 1), (46, none, .ishl), (47, none, .iand), (48, none, .ifCond .ne 6), (51, none, .goto 38), (54, some [true, true, true, true, true, true, true, false], .aload 0), (55, none, .iload 2), (56, none, .sipush 1), (57, none, .iload 5), (59, none, .ishl), (60, none, .sipush (-1)), (61, none, .ixor), (62, none, .iand), (63, none, .iload 4), (65, none, .invokeinterface 35 25), (68, none, .istore 7), (70, none, .iload 7), (72, none, .sipush 1000), (75, none, .iadd), (76, none, .aload 6), (78, none, .getfield 385), (81, none, .iadd), (82, none, .iload 3), (83, none, .if_icmp .ne 6), (86, none, .aload 6), (88, none, .areturn), (89, some [true, true, true, true, true, true, false, false], .iinc 5 1), (92, none, .goto (-78)), (95, some [false, false, false, false, false, false, false, false], .aconst_null), (96, none, .areturn)]
def qp_Plan_firstOn : QP := (4, [7, 0, 0, 0], 8, qc_Plan_firstOn)
def qc_Plan_causesGoodOn : List QE := [(0, none, .sipush 0), (1, none, .istore 2), (2, none, .sipush 0), (3, none, .istore 3), (4, some [true, true, true, true], .iload 3), (5, none, .sipush 12), (7, none, .if_icmp .ge 42), (10, none, .aload 0), (11, none, .getfield 325), (14, none, .sipush 1), (15, none, .iload 3), (16, none, .ishl), (17, none, .iand), (18, none, .ifCond .eq 25), (21, none, .aload 0), (22, none, .getfield 322), (25, none, .iload 3), (26, none, .aaload), (27, none, .getfield 387), (30, none, .sipush 1), (31, none, .iload 1), (32, none, .ishl), (33, none, .iand), (34, none, .ifCond .eq 9), (37, none, .iload 2), (38, none, .sipush 1), (39, none, .iload 3), (40, none, .ishl), (41, none, .ior), (42, none, .istore 2), (43, some [true, true, true, true], .iinc 3 1), (46, none, .goto (-42)), (49, some [false, false, true, false], .iload 2), (50, none, .ireturn)]
def qp_Plan_causesGoodOn : QP := (4, [7, 0], 4, qc_Plan_causesGoodOn)
def qc_Plan_shortDays : List QE := [(0, none, .aload 0), (1, none, .getfield 321), (4, none, .sipush 8), (6, none, .fsub), (9, none, .istore 1), (10, none, .sipush 0), (11, none, .istore 2), (12, some [true, true, true, false, false, false], .iload 2), (13, none, .iload 1), (14, none, .if_icmp .ge 26), (17, none, .iload 2), (18, none, .sipush 12), (20, none, .if_icmp .ge 20), (23, none, .aload 0), (24, none, .getfield 330), (27, none, .iload 2), (28, none, .aload 0), (29, none, .iload 2), (30, none, .invokeinterface 39 17), (33, none, .iastore), (34, none, .iinc 2 1), (37, none, .goto (-25)), (40, some [true, true, false, false, false, false], .iload 1), (41, none, .sipush 1), (42, none, .iadd), (43, none, .istore 2), (44, none, .sipush (-9)), (46, none, .istore 3), (47, none, .sipush 1), (48, none, .istore 4), (50, some [true, true, true, true, true, false], .iload 4), (52, none, .sipush 1), (53, none, .iload 1), (54, none, .ishl), (55, none, .if_icmp .ge 43), (58, none, .iload 4), (60, none, .invokeinterface 265 9), (63, none, .istore 5), (65, none, .iload 5), (67, none, .iload 2), (68, none, .if_icmp .ge 24), (71, none, .aload 0), (72, none, .iload 4), (74, none, .iload 1), (75, none, .invokeinterface 41 25), (78, none, .invokeinterface 265 9), (81, none, .iload 5), (83, none, .if_icmp .ge 9), (86, none, .iload 5), (88, none, .istore 2), (89, none, .iload 4), (91, none, .istore 3), (92, some [true, true, true, true, true, false], .iinc 4 1), (95, none, .goto (-45)), (98, some [false, false, false, true, false, false], .iload 3), (99, none, .ireturn)]
def qp_Plan_shortDays : QP := (4, [7], 6, qc_Plan_shortDays)
def qc_Plan_causesOfDays : List QE := [(0, none, .sipush 0), (1, none, .istore 3), (2, none, .sipush 0), (3, none, .istore 4), (5, some [true, true, true, true, true], .iload 4), (7, none, .iload 2), (8, none, .if_icmp .ge 35), (11, none, .iload 4), (13, none, .sipush 12), (15, none, .if_icmp .ge 28), (18, none, .iload 1), (19, none, .sipush 1), (20, none, .iload 4), (22, none, .ishl), (23, none, .iand), (24, none, .ifCond .eq 13), (27, none, .iload 3), (28, none, .aload 0), (29, none, .getfield 330), (32, none, .iload 4), (34, none, .iaload), (35, none, .ior), (36, none, .istore 3), (37, some [true, true, true, true, true], .iinc 4 1), (40, none, .goto (-35)), (43, some [false, false, false, true, false], .iload 3), (44, none, .ireturn)]
def qp_Plan_causesOfDays : QP := (4, [7, 0, 0], 5, qc_Plan_causesOfDays)
def qc_Plan_layByHand : List QE := [(0, none, .aload 0), (1, none, .getfield 325), (4, none, .istore 1), (5, none, .sipush 0), (6, none, .istore 2), (7, some [true, true, true, false], .iload 2), (8, none, .aload 0), (9, none, .getfield 321), (12, none, .if_icmp .ge 41), (15, none, .iload 2), (16, none, .sipush 12), (18, none, .if_icmp .ge 35), (21, none, .aload 0), (22, none, .iload 2), (23, none, .iload 1), (24, none, .invokeinterface 43 25), (27, none, .istore 3), (28, none, .aload 0), (29, none, .getfield 329), (32, none, .iload 2), (33, none, .iload 3), (34, none, .iastore), (35, none, .iload 3), (36, none, .ifCond .lt 11), (39, none, .iload 1), (40, none, .sipush 1), (41, none, .iload 3), (42, none, .ishl), (43, none, .sipush (-1)), (44, none, .ixor), (45, none, .iand), (46, none, .istore 1), (47, some [true, true, true, false], .iinc 2 1), (50, none, .goto (-43)), (53, some [false, false, false, false], .return_)]
def qp_Plan_layByHand : QP := (4, [7], 4, qc_Plan_layByHand)
def qc_Plan_soonestOn : List QE := [(0, none, .sipush (-1)), (1, none, .istore 3), (2, none, .sipush 0), (3, none, .istore 4), (5, none, .sipush 0), (6, none, .istore 5), (8, some [true, true, true, true, true, true, false], .iload 5), (10, none, .sipush 12), (12, none, .if_icmp .ge 66), (15, none, .aload 0), (16, none, .getfield 322), (19, none, .iload 5), (21, none, .aaload), (22, none, .astore 6), (24, none, .iload 2), (25, none, .sipush 1), (26, none, .iload 5), (28, none, .ishl), (29, none, .iand), (30, none, .ifCond .eq 42), (33, none, .aload 6), (35, none, .getfield 387), (38, none, .sipush 1), (39, none, .iload 1), (40, none, .ishl), (41, none, .iand), (42, none, .ifCond .ne 6), (45, none, .goto 27), (48, some [true, true, true, true, true, true, true], .iload 3), (49, none, .ifCond .lt 13), (52, none, .aload 6), (54, none, .getfield 386), (57, none, .iload 4), (59, none, .if_icmp .ge 13), (62, some [true, true, true, false, false, true, true], .iload 5), (64, none, .istore 3), (65, none, .aload 6), (67, none, .getfield 386), (70, none, .istore 4), (72, some [true, true, true, true, true, true, false], .iinc 5 1), (75, none, .goto (-67)), (78, some [false, false, false, true, false, false, false], .iload 3), (79, none, .ireturn)]
def qp_Plan_soonestOn : QP := (4, [7, 0, 0], 7, qc_Plan_soonestOn)
def qc_Plan_withoutByHand : List QE := [(0, none, .sipush 0), (1, none, .istore 1), (2, none, .sipush 0), (3, none, .istore 2), (4, some [true, true, true], .iload 2), (5, none, .aload 0), (6, none, .getfield 321), (9, none, .if_icmp .ge 27), (12, none, .iload 2), (13, none, .sipush 12), (15, none, .if_icmp .ge 21), (18, none, .aload 0), (19, none, .getfield 329), (22, none, .iload 2), (23, none, .iaload), (24, none, .ifCond .ge 6), (27, none, .iinc 1 1), (30, some [true, true, true], .iinc 2 1), (33, none, .goto (-29)), (36, some [false, true, false], .iload 1), (37, none, .ireturn)]
def qp_Plan_withoutByHand : QP := (4, [7], 3, qc_Plan_withoutByHand)
def qc_Plan_firstWithoutByHand : List QE := [(0, none, .sipush 0), (1, none, .istore 1), (2, some [true, true], .iload 1), (3, none, .aload 0), (4, none, .getfield 321), (7, none, .if_icmp .ge 31), (10, none, .iload 1), (11, none, .sipush 12), (13, none, .if_icmp .ge 25), (16, none, .aload 0), (17, none, .getfield 329), (20, none, .iload 1), (21, none, .iaload), (22, none, .ifCond .ge 10), (25, none, .aload 0), (26, none, .getfield 320), (29, none, .iload 1), (30, none, .iaload), (31, none, .ireturn), (32, some [true, true], .iinc 1 1), (35, none, .goto (-33)), (38, some [false, false], .sipush (-9)), (40, none, .ireturn)]
def qp_Plan_firstWithoutByHand : QP := (4, [7], 2, qc_Plan_firstWithoutByHand)
def qc_Plan_longestByHand : List QE := [(0, none, .sipush 0), (1, none, .istore 2), (2, none, .sipush 0), (3, none, .istore 3), (4, none, .sipush 0), (5, none, .istore 4), (7, some [true, true, true, true, true], .iload 4), (9, none, .aload 0), (10, none, .getfield 321), (13, none, .if_icmp .ge 49), (16, none, .iload 4), (18, none, .sipush 12), (20, none, .if_icmp .ge 42), (23, none, .aload 0), (24, none, .getfield 329), (27, none, .iload 4), (29, none, .iaload), (30, none, .ifCond .lt 7), (33, none, .sipush 1), (34, none, .goto 4), (37, some [true, true, true, true, true], .sipush 0), (38, some [true, true, true, true, true], .iload 1), (39, none, .if_icmp .ne 9), (42, none, .iload 3), (43, none, .sipush 1), (44, none, .iadd), (45, none, .goto 4), (48, some [true, true, true, false, true], .sipush 0), (49, some [true, true, true, false, true], .istore 3), (50, none, .iload 2), (51, none, .iload 3), (52, none, .fadd), (55, none, .istore 2), (56, none, .iinc 4 1), (59, none, .goto (-52)), (62, some [false, false, true, false, false], .iload 2), (63, none, .ireturn)]
def qp_Plan_longestByHand : QP := (4, [7, 0], 5, qc_Plan_longestByHand)
def qc_Plan_hasByHandOn : List QE := [(0, none, .sipush 0), (1, none, .istore 2), (2, some [true, true, true], .iload 2), (3, none, .aload 0), (4, none, .getfield 321), (7, none, .if_icmp .ge 40), (10, none, .iload 2), (11, none, .sipush 12), (13, none, .if_icmp .ge 34), (16, none, .aload 0), (17, none, .getfield 320), (20, none, .iload 2), (21, none, .iaload), (22, none, .iload 1), (23, none, .if_icmp .ne 18), (26, none, .aload 0), (27, none, .getfield 329), (30, none, .iload 2), (31, none, .iaload), (32, none, .ifCond .lt 7), (35, none, .sipush 1), (36, none, .goto 4), (39, some [false, false, false], .sipush 0), (40, some [false, false, false], .freturn), (41, some [true, true, true], .iinc 2 1), (44, none, .goto (-42)), (47, some [false, false, false], .sipush 0), (48, none, .freturn)]
def qp_Plan_hasByHandOn : QP := (4, [7, 0], 3, qc_Plan_hasByHandOn)
def qc_Plan_weightOf : List QE := [(0, none, .sipush 0), (1, none, .istore 2), (2, none, .sipush 0), (3, none, .istore 3), (4, some [true, true, true, true], .iload 3), (5, none, .sipush 12), (7, none, .if_icmp .ge 29), (10, none, .iload 1), (11, none, .sipush 1), (12, none, .iload 3), (13, none, .ishl), (14, none, .iand), (15, none, .ifCond .eq 15), (18, none, .iload 2), (19, none, .aload 0), (20, none, .getfield 322), (23, none, .iload 3), (24, none, .aaload), (25, none, .getfield 385), (28, none, .iadd), (29, none, .istore 2), (30, some [true, true, true, true], .iinc 3 1), (33, none, .goto (-29)), (36, some [false, false, true, false], .iload 2), (37, none, .ireturn)]
def qp_Plan_weightOf : QP := (4, [7, 0], 4, qc_Plan_weightOf)
def qc_Plan_leadByTaking : List QE := [(0, none, .aload 1), (1, none, .getfield 385), (4, none, .istore 2), (5, none, .sipush (-1)), (6, none, .istore 3), (7, none, .sipush 0), (8, none, .istore 4), (10, some [true, true, true, true, true], .iload 4), (12, none, .aload 0), (13, none, .getfield 324), (16, none, .if_icmp .ge 45), (19, none, .iload 4), (21, none, .sipush 12), (23, none, .if_icmp .ge 38), (26, none, .aload 0), (27, none, .getfield 323), (30, none, .iload 4), (32, none, .aaload), (33, none, .aload 1), (34, none, .if_acmp .eq 21), (37, none, .iload 2), (38, none, .iload 3), (39, none, .aload 0), (40, none, .getfield 323), (43, none, .iload 4), (45, none, .aaload), (46, none, .getfield 385), (49, none, .imul), (50, none, .iadd), (51, none, .istore 2), (52, none, .iload 3), (53, none, .ineg), (54, none, .istore 3), (55, some [true, true, true, true, true], .iinc 4 1), (58, none, .goto (-48)), (61, some [false, false, true, false, false], .iload 2), (62, none, .ireturn)]
def qp_Plan_leadByTaking : QP := (4, [7, 8], 5, qc_Plan_leadByTaking)
def qc_Plan_waysOf : List QE := [(0, none, .aload 0), (1, none, .invokeinterface 32 9), (4, none, .aload 2), (5, none, .arraylength), (6, none, .sipush 1), (7, none, .isub), (8, none, .fsub), (11, none, .istore 3), (12, none, .sipush 0), (13, none, .istore 4), (15, some [true, true, true, true, true], .iload 4), (17, none, .iload 3), (18, none, .if_icmp .gt 23), (21, none, .aload 2), (22, none, .iload 4), (24, none, .iload 4), (26, none, .ifCond .ne 7), (29, none, .goto_w 1), (30, none, .goto 4), (33, some [true, true, true, true, true], .goto_w 0), (34, some [true, true, true, true, true], .lastore), (35, none, .iinc 4 1), (38, none, .goto (-23)), (41, some [true, true, true, true, false], .sipush 0), (42, none, .istore 4), (44, some [true, true, true, true, true], .iload 4), (46, none, .sipush 12), (48, none, .if_icmp .ge 35), (51, none, .iload 1), (52, none, .sipush 1), (53, none, .iload 4), (55, none, .ishl), (56, none, .iand), (57, none, .ifCond .eq 20), (60, none, .aload 0), (61, none, .getfield 322), (64, none, .iload 4), (66, none, .aaload), (67, none, .getfield 387), (70, none, .iload 3), (71, none, .iand), (72, none, .iload 3), (73, none, .aload 2), (74, none, .invokeinterface 51 24), (77, some [true, true, true, true, true], .iinc 4 1), (80, none, .goto (-36)), (83, some [false, false, true, true, false], .iload 3), (84, none, .ifCond .lt 9), (87, none, .aload 2), (88, none, .iload 3), (89, none, .laload), (90, none, .goto 4), (93, some [false, false, false, false, false], .goto_w 0), (94, some [false, false, false, false, false], .lreturn)]
def qp_Plan_waysOf : QP := (4, [7, 0, 25], 5, qc_Plan_waysOf)
def qc_Plan_spread : List QE := [(0, none, .iload 1), (1, none, .aload 2), (2, none, .arraylength), (3, none, .sipush 1), (4, none, .isub), (5, none, .fsub), (8, none, .istore 3), (9, some [true, false, true, true, false, false, false], .iload 3), (10, none, .ifCond .lt 72), (13, none, .iload 0), (14, none, .iload 3), (15, none, .sipush (-1)), (16, none, .ixor), (17, none, .iand), (18, none, .istore 4), (20, some [true, false, true, true, true, false, false], .iload 4), (22, none, .ifCond .eq 54), (25, none, .aload 2), (26, none, .iload 3), (27, none, .laload), (28, none, .goto_w 0), (29, none, .lcmp), (30, none, .ifCond .eq 46), (33, none, .iload 4), (35, none, .iload 4), (37, none, .ineg), (38, none, .iand), (39, none, .istore 5), (41, none, .iload 3), (42, none, .iload 5), (44, none, .ior), (45, none, .istore 6), (47, none, .iload 6), (49, none, .aload 2), (50, none, .arraylength), (51, none, .if_icmp .ge 13), (54, none, .aload 2), (55, none, .iload 6), (57, none, .dup2), (58, none, .laload), (59, none, .aload 2), (60, none, .iload 3), (61, none, .laload), (62, none, .ladd), (63, none, .lastore), (64, some [true, false, true, true, true, false, false], .iload 4), (66, none, .iload 4), (68, none, .sipush 1), (69, none, .isub), (70, none, .iand), (71, none, .istore 4), (73, none, .goto (-53)), (76, some [true, false, true, true, false, false, false], .iinc 3 (-1)), (79, none, .goto (-70)), (82, some [false, false, false, false, false, false, false], .return_)]
def qp_Plan_spread : QP := (4, [0, 0, 25], 7, qc_Plan_spread)
def qc_Course_follow : List QE := [(0, none, .aload 0), (1, none, .sipush 0), (2, none, .putfield 835), (5, none, .aload 1), (6, none, .getfield 128), (9, none, .istore 3), (10, some [true, true, true, true], .iload 3), (11, none, .iload 2), (12, none, .if_icmp .ge 37), (15, none, .aload 0), (16, none, .aload 1), (17, none, .sipush 0), (18, none, .invokeinterface 53 24), (21, none, .aload 0), (22, none, .aload 1), (23, none, .sipush 1), (24, none, .invokeinterface 53 24), (27, none, .aload 0), (28, none, .aload 1), (29, none, .sipush 0), (30, none, .invokeinterface 54 24), (33, none, .aload 0), (34, none, .aload 1), (35, none, .sipush 1), (36, none, .invokeinterface 54 24), (39, none, .aload 1), (40, none, .invokeinterface 21 8), (43, none, .iinc 3 1), (46, none, .goto (-36)), (49, some [false, false, false, false], .return_)]
def qp_Course_follow : QP := (6, [15, 4, 0], 4, qc_Course_follow)
def qc_Course_followUse : List QE := [(0, none, .aload 1), (1, none, .aload 1), (2, none, .iload 2), (3, none, .invokeinterface 23 17), (6, none, .invokeinterface 11 84), (9, none, .astore 3), (10, none, .aload 3), (11, none, .ifnull 22), (14, none, .aload 0), (15, none, .iload 2), (16, none, .invokeinterface 114 9), (19, none, .aload 3), (20, none, .getfield 70), (23, none, .sipush 0), (24, none, .invokeinterface 55 32), (27, none, .aload 1), (28, none, .aload 3), (29, none, .invokeinterface 20 17), (32, none, .pop), (33, some [false, false, false, false], .return_)]
def qp_Course_followUse : QP := (6, [15, 4, 0], 4, qc_Course_followUse)
def qc_Course_followEnd : List QE := [(0, none, .aload 1), (1, none, .iload 2), (2, none, .invokeinterface 10 211), (5, none, .aload 1), (6, none, .getfield 128), (9, none, .invokeinterface 7 17), (12, none, .ifCond .eq 10), (15, none, .aload 0), (16, none, .iload 2), (17, none, .sipush 3), (18, none, .sipush 1), (19, none, .invokeinterface 55 32), (22, some [false, false, false], .return_)]
def qp_Course_followEnd : QP := (6, [15, 4, 0], 3, qc_Course_followEnd)
def qc_Course_note : List QE := [(0, none, .aload 0), (1, none, .getfield 835), (4, none, .ifCond .lt 52), (7, none, .aload 0), (8, none, .getfield 835), (11, none, .sipush 26), (13, none, .if_icmp .ge 43), (16, none, .aload 0), (17, none, .getfield 832), (20, none, .aload 0), (21, none, .getfield 835), (24, none, .iload 1), (25, none, .iastore), (26, none, .aload 0), (27, none, .getfield 833), (30, none, .aload 0), (31, none, .getfield 835), (34, none, .iload 2), (35, none, .iastore), (36, none, .aload 0), (37, none, .getfield 834), (40, none, .aload 0), (41, none, .getfield 835), (44, none, .iload 3), (45, none, .bastore), (46, none, .aload 0), (47, none, .dup), (48, none, .getfield 835), (51, none, .sipush 1), (52, none, .iadd), (53, none, .putfield 835), (56, some [false, false, false, false], .return_)]
def qp_Course_note : QP := (6, [15, 0, 0, 0], 4, qc_Course_note)
def qc_Course_isCoveredBy : List QE := [(0, none, .iload 2), (1, none, .istore 4), (3, none, .iload 3), (4, none, .istore 5), (6, none, .sipush 0), (7, none, .istore 6), (9, some [true, true, false, false, true, true, true, false, false], .iload 6), (11, none, .aload 0), (12, none, .getfield 835), (15, none, .if_icmp .ge 196), (18, none, .iload 6), (20, none, .sipush 26), (22, none, .if_icmp .ge 189), (25, none, .aload 0), (26, none, .getfield 832), (29, none, .iload 6), (31, none, .iaload), (32, none, .iload 1), (33, none, .if_icmp .ne 7), (36, none, .sipush 1), (37, none, .goto 4), (40, some [true, true, false, false, true, true, true, false, false], .sipush 0), (41, some [true, true, false, false, true, true, true, false, false], .istore 7), (43, none, .aload 0), (44, none, .getfield 834), (47, none, .iload 6), (49, none, .baload), (50, none, .ifCond .eq 62), (53, none, .aload 0), (54, none, .getfield 833), (57, none, .iload 6), (59, none, .iaload), (60, none, .iload 7), (62, none, .ifCond .eq 8), (65, none, .iload 4), (67, none, .goto 5), (70, some [true, true, false, false, true, true, true, true, false], .iload 5), (72, some [true, true, false, false, true, true, true, true, false], .fsub), (75, none, .istore 8), (77, none, .iload 4), (79, none, .iload 7), (81, none, .ifCond .eq 8), (84, none, .iload 8), (86, none, .goto 4), (89, some [true, true, false, false, false, true, true, true, true], .sipush 0), (90, some [true, true, false, false, false, true, true, true, true], .isub), (91, none, .istore 4), (93, none, .iload 5), (95, none, .iload 7), (97, none, .ifCond .eq 7), (100, none, .sipush 0), (101, none, .goto 5), (104, some [true, true, false, false, true, false, true, false, true], .iload 8), (106, some [true, true, false, false, true, false, true, false, false], .isub), (107, none, .istore 5), (109, none, .goto 96), (112, some [true, true, false, false, true, true, true, true, false], .iload 7), (114, none, .ifCond .eq 20), (117, none, .aload 0), (118, none, .getfield 833), (121, none, .iload 6), (123, none, .iaload), (124, none, .iload 4), (126, none, .iload 5), (128, none, .invokeinterface 151 25), (131, none, .goto 17), (134, some [true, true, false, false, true, true, true, true, false], .aload 0), (135, none, .getfield 833), (138, none, .iload 6), (140, none, .iaload), (141, none, .iload 5), (143, none, .iload 4), (145, none, .invokeinterface 151 25), (148, some [true, true, false, false, true, true, true, true, false], .istore 8), (150, none, .iload 7), (152, none, .ifCond .eq 17), (155, none, .iload 8), (157, none, .aload 0), (158, none, .getfield 833), (161, none, .iload 6), (163, none, .iaload), (164, none, .if_icmp .ge 5), (167, none, .sipush 0), (168, none, .freturn), (169, some [true, true, false, false, true, true, true, true, true], .iload 4), (171, none, .iload 7), (173, none, .ifCond .eq 9), (176, none, .iload 8), (178, none, .ineg), (179, none, .goto 5), (182, some [true, true, false, false, false, true, true, true, true], .iload 8), (184, some [true, true, false, false, false, true, true, true, true], .iadd), (185, none, .istore 4), (187, none, .iload 5), (189, none, .iload 7), (191, none, .ifCond .eq 8), (194, none, .iload 8), (196, none, .goto 6), (199, some [true, true, false, false, true, false, true, false, true], .iload 8), (201, none, .ineg), (202, some [true, true, false, false, true, false, true, false, false], .iadd), (203, none, .istore 5), (205, some [true, true, false, false, true, true, true, false, false], .iinc 6 1), (208, none, .goto (-199)), (211, some [false, false, false, false, false, false, false, false, false], .sipush 1), (212, none, .freturn)]
def qp_Course_isCoveredBy : QP := (6, [15, 0, 0, 0], 9, qc_Course_isCoveredBy)
def qc_J_feed : List QE := [(0, none, .iload 1), (1, none, .ifCond .ge 10), (4, none, .aload 0), (5, none, .sipush (-4)), (7, none, .invokeinterface 104 17), (10, none, .ireturn), (11, some [true, true], .iload 1), (12, none, .sipush 255), (15, none, .if_icmp .gt 12), (18, none, .aload 0), (19, none, .getfield 7), (22, none, .sipush 96), (24, none, .if_icmp .lt 10), (27, some [true, false], .aload 0), (28, none, .sipush (-6)), (30, none, .invokeinterface 104 17), (33, none, .ireturn), (34, some [true, true], .aload 0), (35, none, .getfield 6), (38, none, .aload 0), (39, none, .getfield 7), (42, none, .iload 1), (43, none, .iastore), (44, none, .aload 0), (45, none, .dup), (46, none, .getfield 7), (49, none, .sipush 1), (50, none, .iadd), (51, none, .putfield 7), (54, none, .aload 0), (55, none, .getfield 7), (58, none, .ireturn)]
def qp_J_feed : QP := (0, [2, 0], 2, qc_J_feed)
def qc_J_marriage : List QE := [(0, none, .aload 0), (1, none, .invokeinterface 116 9), (4, none, .istore 1), (5, none, .iload 1), (6, none, .ifCond .lt 11), (9, none, .sipush (-1000)), (12, none, .iload 1), (13, none, .isub), (14, none, .goto 7), (17, some [true, false, false], .aload 0), (18, none, .invokeinterface 117 9), (21, some [true, false, false], .istore 2), (22, none, .aload 0), (23, none, .sipush 0), (24, none, .putfield 7), (27, none, .iload 2), (28, none, .ifCond .le 19), (31, none, .aload 0), (32, none, .getfield 0), (35, none, .aload 0), (36, none, .getfield 1), (39, none, .invokeinterface 9 16), (42, none, .aload 0), (43, none, .sipush 0), (44, none, .putfield 5), (47, some [false, false, true], .iload 2), (48, none, .ireturn)]
def qp_J_marriage : QP := (0, [2], 3, qc_J_marriage)
def qc_J_one : List QE := [(0, none, .iload 1), (1, none, .invokeinterface 111 9), (4, none, .ifCond .eq 9), (7, none, .aload 0), (8, none, .sipush (-1)), (9, none, .invokeinterface 104 17), (12, none, .ireturn), (13, some [true, true, true, false], .aload 0), (14, none, .getfield 0), (17, none, .iload 1), (18, none, .invokeinterface 10 211), (21, none, .astore 3), (22, none, .iload 2), (23, none, .tableswitch 66 0 4 #[33, 38, 43, 48, 53]), (56, some [false, false, false, true], .aload 3), (57, none, .getfield 192), (60, none, .ireturn), (61, some [false, false, false, true], .aload 3), (62, none, .getfield 193), (65, none, .ireturn), (66, some [false, false, false, true], .aload 3), (67, none, .getfield 194), (70, none, .ireturn), (71, some [false, false, false, true], .aload 3), (72, none, .getfield 195), (75, none, .ireturn), (76, some [false, false, false, true], .aload 3), (77, none, .getfield 196), (80, none, .ifCond .eq 7), (83, none, .sipush 1), (84, none, .goto 4), (87, some [false, false, false, false], .sipush 0), (88, some [false, false, false, false], .ireturn), (89, some [true, false, false, false], .aload 0), (90, none, .sipush (-2)), (92, none, .invokeinterface 104 17), (95, none, .ireturn)]
def qp_J_one : QP := (0, [2, 0, 0], 4, qc_J_one)
def qc_J_cause : List QE := [(0, none, .aload 0), (1, none, .getfield 0), (4, none, .iload 1), (5, none, .invokeinterface 11 84), (8, none, .astore 3), (9, none, .aload 3), (10, none, .ifnonnull 9), (13, none, .aload 0), (14, none, .sipush (-1)), (15, none, .invokeinterface 104 17), (18, none, .ireturn), (19, some [true, false, true, true], .iload 2), (20, none, .tableswitch 146 0 8 #[52, 57, 62, 67, 72, 85, 90, 95, 122]), (72, some [false, false, false, true], .aload 3), (73, none, .getfield 64), (76, none, .ireturn), (77, some [false, false, false, true], .aload 3), (78, none, .getfield 65), (81, none, .ireturn), (82, some [false, false, false, true], .aload 3), (83, none, .getfield 66), (86, none, .ireturn), (87, some [false, false, false, true], .aload 3), (88, none, .getfield 67), (91, none, .ireturn), (92, some [false, false, false, true], .aload 3), (93, none, .getfield 68), (96, none, .ifCond .eq 7), (99, none, .sipush 1), (100, none, .goto 4), (103, some [false, false, false, false], .sipush 0), (104, some [false, false, false, false], .ireturn), (105, some [false, false, false, true], .aload 3), (106, none, .getfield 69), (109, none, .ireturn), (110, some [false, false, false, true], .aload 3), (111, none, .getfield 70), (114, none, .ireturn), (115, some [true, false, false, true], .aload 3), (116, none, .getfield 68), (119, none, .ifCond .ne 21), (122, none, .aload 3), (123, none, .invokeinterface 2 9), (126, none, .aload 0), (127, none, .getfield 0), (130, none, .getfield 128), (133, none, .if_icmp .ge 7), (136, none, .sipush 1), (137, none, .goto 4), (140, some [false, false, false, false], .sipush 0), (141, some [false, false, false, false], .ireturn), (142, some [true, false, false, true], .aload 0), (143, none, .getfield 0), (146, none, .aload 3), (147, none, .aload 0), (148, none, .getfield 0), (151, none, .getfield 128), (154, none, .invokeinterface 17 25), (157, none, .ifCond .eq 7), (160, none, .sipush 1), (161, none, .goto 4), (164, some [false, false, false, false], .sipush 0), (165, some [false, false, false, false], .ireturn), (166, some [true, false, false, false], .aload 0), (167, none, .sipush (-2)), (169, none, .invokeinterface 104 17), (172, none, .ireturn)]
def qp_J_cause : QP := (0, [2, 0, 0], 4, qc_J_cause)
def qc_J_set : List QE := [(0, none, .iload 1), (1, none, .invokeinterface 111 9), (4, none, .ifCond .eq 9), (7, none, .aload 0), (8, none, .sipush (-1)), (9, none, .invokeinterface 104 17), (12, none, .ireturn), (13, some [true, true, true, true, false, false], .iload 2), (14, none, .ifCond .eq 15), (17, none, .iload 2), (18, none, .sipush 1), (19, none, .if_icmp .eq 10), (22, none, .aload 0), (23, none, .sipush (-2)), (25, none, .invokeinterface 104 17), (28, none, .ireturn), (29, some [true, true, true, true, false, false], .iload 3), (30, none, .ifCond .ge 10), (33, none, .aload 0), (34, none, .sipush (-4)), (36, none, .invokeinterface 104 17), (39, none, .ireturn), (40, some [true, true, true, true, false, false], .iload 3), (41, none, .iload 2), (42, none, .ifCond .ne 8), (45, none, .sipush 6), (47, none, .goto 6), (50, some [true, true, true, true, false, false], .sipush 999), (53, some [true, true, true, true, false, false], .if_icmp .le 10), (56, none, .aload 0), (57, none, .sipush (-6)), (59, none, .invokeinterface 104 17), (62, none, .ireturn), (63, some [true, true, true, true, false, false], .aload 0), (64, none, .sipush 0), (65, none, .putfield 5), (68, none, .aload 0), (69, none, .getfield 0), (72, none, .iload 1), (73, none, .invokeinterface 10 211), (76, none, .astore 4), (78, none, .iload 2), (79, none, .ifCond .ne 11), (82, none, .aload 4), (84, none, .getfield 192), (87, none, .goto 8), (90, some [false, false, true, true, true, false], .aload 4), (92, none, .getfield 193), (95, some [false, false, true, true, true, false], .istore 5), (97, none, .iload 2), (98, none, .ifCond .ne 12), (101, none, .aload 4), (103, none, .iload 3), (104, none, .putfield 192), (107, none, .goto 9), (110, some [false, false, false, true, true, true], .aload 4), (112, none, .iload 3), (113, none, .putfield 193), (116, some [false, false, false, false, false, true], .iload 5), (118, none, .ireturn)]
def qp_J_set : QP := (0, [2, 0, 0, 0], 6, qc_J_set)
def qc_J_add : List QE := [(0, none, .iload 3), (1, none, .invokeinterface 111 9), (4, none, .ifCond .eq 9), (7, none, .aload 0), (8, none, .sipush (-1)), (9, none, .invokeinterface 104 17), (12, none, .ireturn), (13, some [true, true, true, true, true], .iload 1), (14, none, .invokeinterface 112 9), (17, none, .ifCond .eq 10), (20, none, .aload 0), (21, none, .sipush (-2)), (23, none, .invokeinterface 104 17), (26, none, .ireturn), (27, some [true, true, true, true, true], .iload 2), (28, none, .ifCond .lt 8), (31, none, .iload 4), (33, none, .ifCond .ge 10), (36, some [true, false, false, false, false], .aload 0), (37, none, .sipush (-4)), (39, none, .invokeinterface 104 17), (42, none, .ireturn), (43, some [true, true, true, true, true], .iload 2), (44, none, .sipush 9), (46, none, .if_icmp .gt 22), (49, none, .iload 4), (51, none, .sipush 83), (53, none, .if_icmp .gt 15), (56, none, .aload 0), (57, none, .getfield 0), (60, none, .getfield 132), (63, none, .sipush 12), (65, none, .if_icmp .lt 10), (68, some [true, false, false, false, false], .aload 0), (69, none, .sipush (-6)), (71, none, .invokeinterface 104 17), (74, none, .ireturn), (75, some [true, true, true, true, true], .aload 0), (76, none, .sipush 0), (77, none, .putfield 5), (80, none, .aload 0), (81, none, .getfield 0), (84, none, .iload 1), (85, none, .iload 2), (86, none, .iload 3), (87, none, .iload 4), (89, none, .invokeinterface 12 40), (92, none, .aload 0), (93, none, .getfield 0), (96, none, .getfield 132), (99, none, .sipush 1), (100, none, .isub), (101, none, .ireturn)]
def qp_J_add : QP := (0, [2, 0, 0, 0, 0], 5, qc_J_add)
def qc_J_use : List QE := [(0, none, .aload 0), (1, none, .getfield 0), (4, none, .iload 1), (5, none, .invokeinterface 11 84), (8, none, .astore 2), (9, none, .aload 2), (10, none, .ifnonnull 9), (13, none, .aload 0), (14, none, .sipush (-1)), (15, none, .invokeinterface 104 17), (18, none, .ireturn), (19, some [true, false, true], .aload 0), (20, none, .getfield 0), (23, none, .aload 2), (24, none, .invokeinterface 19 17), (27, none, .ifCond .ne 10), (30, none, .aload 0), (31, none, .sipush (-3)), (33, none, .invokeinterface 104 17), (36, none, .ireturn), (37, some [true, false, true], .aload 0), (38, none, .invokeinterface 115 8), (41, none, .aload 0), (42, none, .getfield 0), (45, none, .aload 2), (46, none, .invokeinterface 20 17), (49, none, .ireturn)]
def qp_J_use : QP := (0, [2, 0], 3, qc_J_use)
def qc_J_end : List QE := [(0, none, .aload 0), (1, none, .getfield 0), (4, none, .getfield 128), (7, none, .sipush 83), (9, none, .if_icmp .lt 10), (12, none, .aload 0), (13, none, .sipush (-6)), (15, none, .invokeinterface 104 17), (18, none, .ireturn), (19, some [true], .aload 0), (20, none, .invokeinterface 115 8), (23, none, .aload 0), (24, none, .getfield 0), (27, none, .invokeinterface 21 8), (30, none, .aload 0), (31, none, .getfield 0), (34, none, .getfield 128), (37, none, .ireturn)]
def qp_J_end : QP := (0, [2], 1, qc_J_end)
def qc_J_back : List QE := [(0, none, .aload 0), (1, none, .getfield 5), (4, none, .sipush 1), (5, none, .isub), (6, none, .istore 1), (7, none, .iload 1), (8, none, .ifCond .lt 9), (11, none, .iload 1), (12, none, .sipush 8), (14, none, .if_icmp .lt 10), (17, some [true, false], .aload 0), (18, none, .sipush (-3)), (20, none, .invokeinterface 104 17), (23, none, .ireturn), (24, some [true, true], .aload 0), (25, none, .getfield 0), (28, none, .aload 0), (29, none, .getfield 4), (32, none, .iload 1), (33, none, .aaload), (34, none, .invokeinterface 9 16), (37, none, .aload 0), (38, none, .iload 1), (39, none, .putfield 5), (42, none, .aload 0), (43, none, .getfield 0), (46, none, .getfield 128), (49, none, .ireturn)]
def qp_J_back : QP := (0, [2], 2, qc_J_back)
def qc_J_image : List QE := [(0, none, .aload 0), (1, none, .getfield 2), (4, none, .aload 0), (5, none, .getfield 0), (8, none, .invokeinterface 9 16), (11, none, .aload 0), (12, none, .sipush 1), (13, none, .putfield 3), (16, none, .aload 0), (17, none, .getfield 0), (20, none, .getfield 128), (23, none, .ireturn)]
def qp_J_image : QP := (0, [2], 1, qc_J_image)
def qc_J_restore : List QE := [(0, none, .aload 0), (1, none, .getfield 3), (4, none, .ifCond .ne 10), (7, none, .aload 0), (8, none, .sipush (-3)), (10, none, .invokeinterface 104 17), (13, none, .ireturn), (14, some [true], .aload 0), (15, none, .getfield 0), (18, none, .aload 0), (19, none, .getfield 2), (22, none, .invokeinterface 9 16), (25, none, .aload 0), (26, none, .sipush 0), (27, none, .putfield 5), (30, none, .aload 0), (31, none, .getfield 0), (34, none, .getfield 128), (37, none, .ireturn)]
def qp_J_restore : QP := (0, [2], 1, qc_J_restore)
def qc_J_count : List QE := [(0, none, .iload 1), (1, none, .tableswitch 90 0 6 #[43, 51, 59, 67, 75, 80, 85]), (44, some [true, false, false], .aload 0), (45, none, .getfield 0), (48, none, .getfield 132), (51, none, .ireturn), (52, some [true, false, false], .aload 0), (53, none, .getfield 0), (56, none, .getfield 128), (59, none, .ireturn), (60, some [true, false, false], .aload 0), (61, none, .getfield 0), (64, none, .invokeinterface 13 9), (67, none, .ireturn), (68, some [true, false, false], .aload 0), (69, none, .getfield 0), (72, none, .invokeinterface 16 9), (75, none, .ireturn), (76, some [true, false, false], .aload 0), (77, none, .getfield 7), (80, none, .ireturn), (81, some [true, false, false], .aload 0), (82, none, .getfield 9), (85, none, .ireturn), (86, some [true, false, false], .aload 0), (87, none, .getfield 5), (90, none, .ireturn), (91, some [true, true, false], .iload 1), (92, none, .sipush 10), (94, none, .isub), (95, none, .istore 2), (96, none, .iload 2), (97, none, .sipush 1), (98, none, .if_icmp .lt 21), (101, none, .iload 2), (102, none, .aload 0), (103, none, .getfield 10), (106, none, .arraylength), (107, none, .if_icmp .ge 12), (110, none, .aload 0), (111, none, .getfield 10), (114, none, .iload 2), (115, none, .iaload), (116, none, .goto 5), (119, some [false, false, false], .sipush (-9)), (121, some [false, false, false], .ireturn)]
def qp_J_count : QP := (0, [2, 0], 3, qc_J_count)
def qc_J_row : List QE := [(0, none, .iload 1), (1, none, .ifCond .ge 10), (4, none, .aload 0), (5, none, .sipush (-4)), (7, none, .invokeinterface 104 17), (10, none, .ireturn), (11, some [true, true], .iload 1), (12, none, .sipush 99), (14, none, .if_icmp .gt 12), (17, none, .aload 0), (18, none, .getfield 9), (21, none, .sipush 12), (23, none, .if_icmp .lt 10), (26, some [true, false], .aload 0), (27, none, .sipush (-6)), (29, none, .invokeinterface 104 17), (32, none, .ireturn), (33, some [true, true], .aload 0), (34, none, .getfield 8), (37, none, .aload 0), (38, none, .getfield 9), (41, none, .iload 1), (42, none, .iastore), (43, none, .aload 0), (44, none, .dup), (45, none, .getfield 9), (48, none, .sipush 1), (49, none, .iadd), (50, none, .putfield 9), (53, none, .aload 0), (54, none, .getfield 9), (57, none, .ireturn)]
def qp_J_row : QP := (0, [2, 0], 2, qc_J_row)
def qc_J_clear : List QE := [(0, none, .aload 0), (1, none, .getfield 9), (4, none, .istore 1), (5, none, .aload 0), (6, none, .sipush 0), (7, none, .putfield 9), (10, none, .iload 1), (11, none, .ireturn)]
def qp_J_clear : QP := (0, [2], 2, qc_J_clear)
def qc_J_judge : List QE := [(0, none, .iload 1), (1, none, .invokeinterface 111 9), (4, none, .ifCond .eq 9), (7, none, .aload 0), (8, none, .sipush (-1)), (9, none, .invokeinterface 104 17), (12, none, .ireturn), (13, some [true, true, false], .aload 0), (14, none, .iload 1), (15, none, .invokeinterface 148 17), (18, none, .istore 2), (19, none, .aload 0), (20, none, .sipush 0), (21, none, .putfield 9), (24, none, .iload 2), (25, none, .ireturn)]
def qp_J_judge : QP := (0, [2, 0], 3, qc_J_judge)
def qc_J_meant : List QE := [(0, none, .iload 1), (1, none, .invokeinterface 111 9), (4, none, .ifCond .eq 9), (7, none, .aload 0), (8, none, .sipush (-1)), (9, none, .invokeinterface 106 18), (12, none, .lreturn), (13, some [true, true, true, false, false, false], .iload 2), (14, none, .ifCond .lt 8), (17, none, .iload 2), (18, none, .sipush 2), (19, none, .if_icmp .le 10), (22, some [true, false, false, false, false, false], .aload 0), (23, none, .sipush (-2)), (25, none, .invokeinterface 106 18), (28, none, .lreturn), (29, some [true, true, true, false, false, false], .aload 0), (30, none, .aload 0), (31, none, .getfield 0), (34, none, .iload 1), (35, none, .invokeinterface 10 211), (38, none, .getfield 192), (41, none, .invokeinterface 142 17), (44, none, .ifCond .ne 10), (47, none, .aload 0), (48, none, .sipush (-3)), (50, none, .invokeinterface 106 18), (53, none, .lreturn), (54, some [true, true, true, false, false, false], .aload 0), (55, none, .iload 1), (56, none, .invokeinterface 128 339), (59, none, .astore 3), (60, none, .aload 3), (61, none, .aload 0), (62, none, .getfield 8), (65, none, .aload 0), (66, none, .getfield 9), (69, none, .invokeinterface 27 24), (72, none, .aload 3), (73, none, .aload 0), (74, none, .getfield 0), (77, none, .aload 0), (78, none, .getfield 0), (81, none, .iload 1), (82, none, .invokeinterface 15 17), (85, none, .invokeinterface 29 24), (88, none, .aload 3), (89, none, .aload 3), (90, none, .getfield 325), (93, none, .aload 0), (94, none, .getfield 15), (97, none, .invokeinterface 50 26), (100, none, .lstore 4), (102, none, .iload 2), (103, none, .ifCond .ne 8), (106, none, .lload 4), (108, none, .goto 20), (111, some [true, false, true, true, true, false], .aload 0), (112, none, .aload 3), (113, none, .lload 4), (115, none, .iload 2), (116, none, .sipush 1), (117, none, .if_icmp .ne 7), (120, none, .sipush 1), (121, none, .goto 4), (124, some [false, false, false, false, false, false], .sipush 0), (125, some [false, false, false, false, false, false], .invokeinterface 143 34), (128, some [false, false, false, false, false, false], .lreturn)]
def qp_J_meant : QP := (0, [2, 0, 0], 6, qc_J_meant)
def qc_J_law : List QE := [(0, none, .iload 1), (1, none, .ifCond .eq 15), (4, none, .iload 1), (5, none, .sipush 1), (6, none, .if_icmp .eq 10), (9, none, .aload 0), (10, none, .sipush (-2)), (12, none, .invokeinterface 104 17), (15, none, .ireturn), (16, some [true, true, false, false, false, false], .aload 0), (17, none, .invokeinterface 141 9), (20, none, .sipush 83), (22, none, .if_icmp .le 10), (25, none, .aload 0), (26, none, .sipush (-3)), (28, none, .invokeinterface 104 17), (31, none, .ireturn), (32, some [true, true, false, false, false, false], .sipush 0), (33, none, .istore 2), (34, none, .sipush (-9)), (36, none, .istore 3), (37, none, .sipush 1), (38, none, .istore 4), (40, some [true, true, true, true, true, false], .iload 4), (42, none, .sipush 20), (44, none, .if_icmp .gt 48), (47, none, .sipush 0), (48, none, .istore 5), (50, some [true, true, true, true, true, true], .iload 5), (52, none, .iload 4), (54, none, .if_icmp .ge 32), (57, none, .aload 0), (58, none, .iload 4), (60, none, .iload 5), (62, none, .invokeinterface 144 25), (65, none, .ifCond .eq 15), (68, none, .iinc 2 1), (71, none, .sipush 100), (73, none, .iload 4), (75, none, .imul), (76, none, .iload 5), (78, none, .iadd), (79, none, .istore 3), (80, some [true, true, true, true, true, true], .iinc 5 1), (83, none, .goto (-33)), (86, some [true, true, true, true, true, false], .iinc 4 1), (89, none, .goto (-49)), (92, some [false, true, true, true, false, false], .iload 1), (93, none, .ifCond .ne 7), (96, none, .iload 2), (97, none, .goto 4), (100, some [false, false, false, true, false, false], .iload 3), (101, some [false, false, false, false, false, false], .ireturn)]
def qp_J_law : QP := (0, [2, 0], 6, qc_J_law)
def qc_J_friends : List QE := [(0, none, .iload 1), (1, none, .ifCond .eq 15), (4, none, .iload 1), (5, none, .sipush 1), (6, none, .if_icmp .eq 10), (9, none, .aload 0), (10, none, .sipush (-2)), (12, none, .invokeinterface 104 17), (15, none, .ireturn), (16, some [true, true], .aload 0), (17, none, .invokeinterface 141 9), (20, none, .sipush 6), (22, none, .if_icmp .le 10), (25, none, .aload 0), (26, none, .sipush (-3)), (28, none, .invokeinterface 104 17), (31, none, .ireturn), (32, some [true, true], .iload 1), (33, none, .ifCond .ne 10), (36, none, .aload 0), (37, none, .invokeinterface 146 9), (40, none, .goto 7), (43, some [true, false], .aload 0), (44, none, .invokeinterface 147 9), (47, some [false, false], .ireturn)]
def qp_J_friends : QP := (0, [2, 0], 2, qc_J_friends)
def qc_J_needed : List QE := [(0, none, .aload 0), (1, none, .iload 1), (2, none, .iload 2), (3, none, .invokeinterface 108 25), (6, none, .istore 3), (7, none, .iload 3), (8, none, .ifCond .eq 9), (11, none, .aload 0), (12, none, .iload 3), (13, none, .invokeinterface 104 17), (16, none, .ireturn), (17, some [true, true, true, false], .aload 0), (18, none, .aload 0), (19, none, .getfield 0), (22, none, .iload 1), (23, none, .iload 2), (24, none, .invokeinterface 129 355), (27, none, .getfield 321), (30, none, .ireturn)]
def qp_J_needed : QP := (0, [2, 0, 0], 4, qc_J_needed)
def qc_J_byHand : List QE := [(0, none, .aload 0), (1, none, .iload 1), (2, none, .iload 2), (3, none, .iload 3), (4, none, .sipush 1), (5, none, .invokeinterface 110 41), (8, none, .istore 4), (10, none, .iload 4), (12, none, .ifCond .eq 10), (15, none, .aload 0), (16, none, .iload 4), (18, none, .invokeinterface 104 17), (21, none, .ireturn), (22, some [true, true, true, true, false, false], .aload 0), (23, none, .aload 0), (24, none, .getfield 0), (27, none, .iload 1), (28, none, .iload 2), (29, none, .invokeinterface 129 355), (32, none, .astore 5), (34, none, .aload 5), (36, none, .invokeinterface 42 8), (39, none, .iload 3), (40, none, .ifCond .ne 11), (43, none, .aload 5), (45, none, .invokeinterface 44 9), (48, none, .goto 8), (51, some [false, false, false, false, false, true], .aload 5), (53, none, .invokeinterface 45 9), (56, some [false, false, false, false, false, false], .ireturn)]
def qp_J_byHand : QP := (0, [2, 0, 0, 0], 6, qc_J_byHand)
def qc_J_laid : List QE := [(0, none, .iload 1), (1, none, .invokeinterface 111 9), (4, none, .ifCond .eq 9), (7, none, .aload 0), (8, none, .sipush (-1)), (9, none, .invokeinterface 104 17), (12, none, .ireturn), (13, some [true, true, true, true, false], .iload 2), (14, none, .aload 0), (15, none, .getfield 0), (18, none, .getfield 128), (21, none, .if_icmp .lt 8), (24, none, .iload 3), (25, none, .sipush (-1)), (26, none, .if_icmp .ge 10), (29, some [true, false, false, false, false], .aload 0), (30, none, .sipush (-4)), (32, none, .invokeinterface 104 17), (35, none, .ireturn), (36, some [true, true, true, true, false], .iload 2), (37, none, .sipush 83), (39, none, .if_icmp .le 10), (42, none, .aload 0), (43, none, .sipush (-6)), (45, none, .invokeinterface 104 17), (48, none, .ireturn), (49, some [true, true, true, true, false], .aload 0), (50, none, .aload 0), (51, none, .getfield 0), (54, none, .iload 1), (55, none, .iload 2), (56, none, .invokeinterface 129 355), (59, none, .astore 4), (61, none, .iload 3), (62, none, .ifCond .ge 11), (65, none, .aload 4), (67, none, .invokeinterface 33 9), (70, none, .goto 9), (73, some [false, false, false, true, true], .aload 4), (75, none, .iload 3), (76, none, .invokeinterface 37 17), (79, some [false, false, false, false, false], .ireturn)]
def qp_J_laid : QP := (0, [2, 0, 0, 0], 5, qc_J_laid)
def qc_J_wasted : List QE := [(0, none, .aload 0), (1, none, .iload 1), (2, none, .iload 2), (3, none, .invokeinterface 108 25), (6, none, .istore 3), (7, none, .iload 3), (8, none, .ifCond .eq 9), (11, none, .aload 0), (12, none, .iload 3), (13, none, .invokeinterface 104 17), (16, none, .ireturn), (17, some [true, true, true, false, false, false, false, false, false], .aload 0), (18, none, .aload 0), (19, none, .getfield 0), (22, none, .iload 1), (23, none, .iload 2), (24, none, .invokeinterface 129 355), (27, none, .astore 4), (29, none, .aload 4), (31, none, .invokeinterface 33 9), (34, none, .istore 5), (36, none, .sipush 0), (37, none, .istore 6), (39, none, .sipush 0), (40, none, .istore 7), (42, some [false, false, false, false, true, true, true, true, false], .iload 7), (44, none, .sipush 12), (46, none, .if_icmp .ge 45), (49, none, .sipush 1), (50, none, .iload 7), (52, none, .ishl), (53, none, .istore 8), (55, none, .aload 4), (57, none, .getfield 325), (60, none, .iload 8), (62, none, .iand), (63, none, .ifCond .eq 22), (66, none, .aload 4), (68, none, .iload 8), (70, none, .invokeinterface 34 17), (73, none, .iload 5), (75, none, .if_icmp .ne 10), (78, none, .iload 6), (80, none, .iload 8), (82, none, .ior), (83, none, .istore 6), (85, some [false, false, false, false, true, true, true, true, false], .iinc 7 1), (88, none, .goto (-46)), (91, some [false, false, false, false, false, false, true, false, false], .iload 6), (93, none, .ireturn)]
def qp_J_wasted : QP := (0, [2, 0, 0], 9, qc_J_wasted)
def qc_J_worth : List QE := [(0, none, .aload 0), (1, none, .getfield 0), (4, none, .iload 1), (5, none, .invokeinterface 11 84), (8, none, .astore 3), (9, none, .aload 3), (10, none, .ifnonnull 9), (13, none, .aload 0), (14, none, .sipush (-1)), (15, none, .invokeinterface 104 17), (18, none, .ireturn), (19, some [true, true, true, true, false, false], .aload 3), (20, none, .getfield 68), (23, none, .ifCond .eq 10), (26, none, .aload 0), (27, none, .sipush (-3)), (29, none, .invokeinterface 104 17), (32, none, .ireturn), (33, some [true, true, true, true, false, false], .aload 0), (34, none, .iload 2), (35, none, .invokeinterface 107 17), (38, none, .istore 4), (40, none, .iload 4), (42, none, .ifCond .eq 10), (45, none, .aload 0), (46, none, .iload 4), (48, none, .invokeinterface 104 17), (51, none, .ireturn), (52, some [true, true, true, true, false, false], .aload 0), (53, none, .aload 0), (54, none, .getfield 0), (57, none, .aload 3), (58, none, .getfield 66), (61, none, .iload 2), (62, none, .invokeinterface 129 355), (65, none, .astore 5), (67, none, .aload 5), (69, none, .invokeinterface 33 9), (72, none, .aload 5), (74, none, .sipush 1), (75, none, .iload 1), (76, none, .ishl), (77, none, .invokeinterface 34 17), (80, none, .isub), (81, none, .ireturn)]
def qp_J_worth : QP := (0, [2, 0, 0], 6, qc_J_worth)
def qc_J_notAll : List QE := [(0, none, .aload 0), (1, none, .iload 1), (2, none, .iload 2), (3, none, .invokeinterface 108 25), (6, none, .istore 3), (7, none, .iload 3), (8, none, .ifCond .eq 9), (11, none, .aload 0), (12, none, .iload 3), (13, none, .invokeinterface 104 17), (16, none, .ireturn), (17, some [true, true, true, false], .aload 0), (18, none, .aload 0), (19, none, .getfield 0), (22, none, .iload 1), (23, none, .iload 2), (24, none, .invokeinterface 129 355), (27, none, .invokeinterface 40 9), (30, none, .ireturn)]
def qp_J_notAll : QP := (0, [2, 0, 0], 4, qc_J_notAll)
def qc_J_settled : List QE := [(0, none, .iload 1), (1, none, .invokeinterface 111 9), (4, none, .ifCond .ne 10), (7, none, .iload 2), (8, none, .invokeinterface 113 9), (11, none, .ifCond .eq 9), (14, some [true, false, false, false, false], .aload 0), (15, none, .sipush (-1)), (16, none, .invokeinterface 105 17), (19, none, .ireturn), (20, some [true, true, true, true, false], .aload 0), (21, none, .iload 3), (22, none, .invokeinterface 107 17), (25, none, .istore 4), (27, none, .iload 4), (29, none, .ifCond .eq 10), (32, none, .aload 0), (33, none, .iload 4), (35, none, .invokeinterface 105 17), (38, none, .ireturn), (39, some [true, true, true, true, false], .aload 0), (40, none, .iload 1), (41, none, .iload 2), (42, none, .iload 3), (43, none, .invokeinterface 132 33), (46, none, .ireturn)]
def qp_J_settled : QP := (0, [2, 0, 0, 0], 5, qc_J_settled)
def qc_J_bestWeekday : List QE := [(0, none, .aload 0), (1, none, .iload 1), (2, none, .iload 2), (3, none, .invokeinterface 108 25), (6, none, .istore 3), (7, none, .iload 3), (8, none, .ifCond .eq 9), (11, none, .aload 0), (12, none, .iload 3), (13, none, .invokeinterface 104 17), (16, none, .ireturn), (17, some [true, true, true, false, false, false, false, false], .sipush 0), (18, none, .istore 4), (20, none, .aload 0), (21, none, .iload 1), (22, none, .sipush 0), (23, none, .iload 2), (24, none, .invokeinterface 132 33), (27, none, .istore 5), (29, none, .sipush 1), (30, none, .istore 6), (32, some [true, true, true, false, true, true, true, false], .iload 6), (34, none, .sipush 7), (36, none, .if_icmp .ge 34), (39, none, .aload 0), (40, none, .iload 1), (41, none, .iload 6), (43, none, .iload 2), (44, none, .invokeinterface 132 33), (47, none, .istore 7), (49, none, .iload 7), (51, none, .iload 5), (53, none, .if_icmp .le 11), (56, none, .iload 7), (58, none, .istore 5), (60, none, .iload 6), (62, none, .istore 4), (64, some [true, true, true, false, true, true, true, false], .iinc 6 1), (67, none, .goto (-35)), (70, some [false, false, false, false, true, false, false, false], .iload 4), (72, none, .ireturn)]
def qp_J_bestWeekday : QP := (0, [2, 0, 0], 8, qc_J_bestWeekday)
def qc_J_neither : List QE := [(0, none, .aload 0), (1, none, .iload 1), (2, none, .invokeinterface 107 17), (5, none, .istore 2), (6, none, .iload 2), (7, none, .ifCond .eq 9), (10, none, .aload 0), (11, none, .iload 2), (12, none, .invokeinterface 104 17), (15, none, .ireturn), (16, some [true, true, false, false, false], .sipush 0), (17, none, .istore 3), (18, some [true, true, false, true, false], .iload 3), (19, none, .sipush 7), (21, none, .if_icmp .ge 35), (24, none, .aload 0), (25, none, .getfield 13), (28, none, .iload 3), (29, none, .aload 0), (30, none, .sipush 0), (31, none, .iload 3), (32, none, .iload 1), (33, none, .invokeinterface 132 33), (36, none, .iastore), (37, none, .aload 0), (38, none, .getfield 14), (41, none, .iload 3), (42, none, .aload 0), (43, none, .sipush 1), (44, none, .iload 3), (45, none, .iload 1), (46, none, .invokeinterface 132 33), (49, none, .iastore), (50, none, .iinc 3 1), (53, none, .goto (-35)), (56, some [true, false, false, false, false], .sipush 0), (57, none, .istore 3), (58, some [true, false, false, true, false], .iload 3), (59, none, .sipush 7), (61, none, .if_icmp .ge 59), (64, none, .sipush 0), (65, none, .istore 4), (67, some [true, false, false, true, true], .iload 4), (69, none, .sipush 7), (71, none, .if_icmp .ge 43), (74, none, .aload 0), (75, none, .getfield 13), (78, none, .iload 3), (79, none, .iload 4), (81, none, .invokeinterface 133 25), (84, none, .ifCond .eq 24), (87, none, .aload 0), (88, none, .getfield 14), (91, none, .iload 4), (93, none, .iload 3), (94, none, .invokeinterface 133 25), (97, none, .ifCond .eq 11), (100, none, .sipush 10), (102, none, .iload 3), (103, none, .imul), (104, none, .iload 4), (106, none, .iadd), (107, none, .ireturn), (108, some [true, false, false, true, true], .iinc 4 1), (111, none, .goto (-44)), (114, some [true, false, false, true, false], .iinc 3 1), (117, none, .goto (-59)), (120, some [false, false, false, false, false], .sipush (-9)), (122, none, .ireturn)]
def qp_J_neither : QP := (0, [2, 0], 5, qc_J_neither)
def qc_J_turns : List QE := [(0, none, .iload 1), (1, none, .ifCond .eq 15), (4, none, .iload 1), (5, none, .sipush 1), (6, none, .if_icmp .eq 10), (9, none, .aload 0), (10, none, .sipush (-2)), (12, none, .invokeinterface 105 17), (15, none, .ireturn), (16, some [true, true, false, false, false, false], .aload 0), (17, none, .getfield 11), (20, none, .aload 0), (21, none, .getfield 0), (24, none, .aload 0), (25, none, .getfield 0), (28, none, .invokeinterface 14 9), (31, none, .invokeinterface 29 24), (34, none, .sipush (-9)), (36, none, .istore 2), (37, none, .sipush 0), (38, none, .istore 3), (39, none, .sipush 0), (40, none, .istore 4), (42, some [true, true, true, true, true, false], .iload 4), (44, none, .sipush 12), (46, none, .if_icmp .ge 64), (49, none, .aload 0), (50, none, .getfield 11), (53, none, .getfield 325), (56, none, .sipush 1), (57, none, .iload 4), (59, none, .ishl), (60, none, .iand), (61, none, .ifCond .ne 6), (64, none, .goto 40), (67, some [true, true, true, true, true, false], .aload 0), (68, none, .getfield 11), (71, none, .aload 0), (72, none, .getfield 11), (75, none, .getfield 322), (78, none, .iload 4), (80, none, .aaload), (81, none, .invokeinterface 49 17), (84, none, .istore 5), (86, none, .iload 2), (87, none, .sipush (-9)), (89, none, .if_icmp .eq 9), (92, none, .iload 5), (94, none, .iload 3), (95, none, .if_icmp .le 9), (98, some [true, true, false, false, true, true], .iload 5), (100, none, .istore 3), (101, none, .iload 4), (103, none, .istore 2), (104, some [true, true, true, true, true, false], .iinc 4 1), (107, none, .goto (-65)), (110, some [false, true, true, true, false, false], .iload 1), (111, none, .ifCond .ne 7), (114, none, .iload 3), (115, none, .goto 4), (118, some [false, false, true, false, false, false], .iload 2), (119, some [false, false, false, false, false, false], .ireturn)]
def qp_J_turns : QP := (0, [2, 0], 6, qc_J_turns)
def qc_J_months : List QE := [(0, none, .iload 1), (1, none, .invokeinterface 113 9), (4, none, .ifCond .eq 9), (7, none, .aload 0), (8, none, .sipush (-1)), (9, none, .invokeinterface 104 17), (12, none, .ireturn), (13, some [true, true, true, true, false, false, false, false, false], .iload 2), (14, none, .sipush 7), (16, none, .if_icmp .ge 10), (19, none, .aload 0), (20, none, .sipush (-4)), (22, none, .invokeinterface 104 17), (25, none, .ireturn), (26, some [true, true, true, true, false, false, false, false, false], .iload 2), (27, none, .sipush 31), (29, none, .if_icmp .le 10), (32, none, .aload 0), (33, none, .sipush (-6)), (35, none, .invokeinterface 104 17), (38, none, .ireturn), (39, some [true, true, true, true, false, false, false, false, false], .iload 3), (40, none, .ifCond .lt 8), (43, none, .iload 3), (44, none, .sipush 2), (45, none, .if_icmp .le 10), (48, some [true, false, false, false, false, false, false, false, false], .aload 0), (49, none, .sipush (-2)), (51, none, .invokeinterface 104 17), (54, none, .ireturn), (55, some [false, true, true, true, false, false, false, false, false], .sipush 0), (56, none, .istore 4), (58, none, .sipush (-1)), (59, none, .istore 5), (61, none, .sipush 0), (62, none, .istore 6), (64, none, .sipush 0), (65, none, .istore 7), (67, some [false, true, true, true, true, true, true, true, false], .iload 7), (69, none, .sipush 1), (70, none, .iadd), (71, none, .iload 2), (72, none, .imul), (73, none, .sipush 84), (75, none, .if_icmp .gt 48), (78, none, .iload 7), (80, none, .iload 2), (81, none, .imul), (82, none, .iload 2), (83, none, .iload 1), (84, none, .invokeinterface 149 25), (87, none, .istore 8), (89, none, .iload 8), (91, none, .iload 5), (93, none, .if_icmp .le 14), (96, none, .iload 8), (98, none, .istore 5), (100, none, .iload 7), (102, none, .istore 6), (104, none, .sipush 0), (105, none, .istore 4), (107, some [false, true, true, true, true, true, true, true, true], .iload 8), (109, none, .iload 5), (111, none, .if_icmp .ne 6), (114, none, .iinc 4 1), (117, some [false, true, true, true, true, true, true, true, false], .iinc 7 1), (120, none, .goto (-53)), (123, some [false, false, false, true, true, true, true, false, false], .iload 3), (124, none, .ifCond .ne 8), (127, none, .iload 4), (129, none, .goto 15), (132, some [false, false, false, true, false, true, true, false, false], .iload 3), (133, none, .sipush 1), (134, none, .if_icmp .ne 8), (137, none, .iload 5), (139, none, .goto 5), (142, some [false, false, false, false, false, false, true, false, false], .iload 6), (144, some [false, false, false, false, false, false, false, false, false], .ireturn)]
def qp_J_months : QP := (0, [2, 0, 0, 0], 9, qc_J_months)
def qc_J_chance : List QE := [(0, none, .iload 1), (1, none, .sipush 2), (2, none, .if_icmp .lt 7), (5, none, .iload 2), (6, none, .ifCond .ge 10), (9, some [true, false, false, false, false, false], .aload 0), (10, none, .sipush (-4)), (12, none, .invokeinterface 106 18), (15, none, .lreturn), (16, some [true, true, true, true, false, false], .iload 1), (17, none, .sipush 20), (19, none, .if_icmp .gt 9), (22, none, .iload 2), (23, none, .sipush 12), (25, none, .if_icmp .le 10), (28, some [true, false, false, false, false, false], .aload 0), (29, none, .sipush (-6)), (31, none, .invokeinterface 106 18), (34, none, .lreturn), (35, some [true, true, true, true, false, false], .iload 3), (36, none, .ifCond .eq 15), (39, none, .iload 3), (40, none, .sipush 1), (41, none, .if_icmp .eq 10), (44, none, .aload 0), (45, none, .sipush (-2)), (47, none, .invokeinterface 106 18), (50, none, .lreturn), (51, some [false, true, true, true, false, false], .iload 1), (52, none, .iload 2), (53, none, .invokeinterface 150 18), (56, none, .lstore 4), (58, none, .iload 3), (59, none, .sipush 1), (60, none, .if_icmp .ne 8), (63, none, .lload 4), (65, none, .goto 13), (68, some [false, true, true, false, true, false], .lload 4), (70, none, .iload 1), (71, none, .sipush 1), (72, none, .isub), (73, none, .iload 2), (74, none, .invokeinterface 150 18), (77, none, .lsub), (78, some [false, false, false, false, false, false], .lreturn)]
def qp_J_chance : QP := (0, [2, 0, 0, 0], 6, qc_J_chance)
def qc_J_keep : List QE := [(0, none, .iload 1), (1, none, .sipush 2), (2, none, .if_icmp .ge 10), (5, none, .aload 0), (6, none, .sipush (-4)), (8, none, .invokeinterface 104 17), (11, none, .ireturn), (12, some [true, true, false], .iload 1), (13, none, .sipush 20), (15, none, .if_icmp .le 10), (18, none, .aload 0), (19, none, .sipush (-6)), (21, none, .invokeinterface 104 17), (24, none, .ireturn), (25, some [false, true, false], .sipush 0), (26, none, .istore 2), (27, some [false, true, true], .iload 2), (28, none, .sipush 12), (30, none, .if_icmp .gt 31), (33, none, .goto_w 2), (36, none, .iload 1), (37, none, .sipush 1), (38, none, .isub), (39, none, .iload 2), (40, none, .invokeinterface 150 18), (43, none, .lmul), (44, none, .iload 1), (45, none, .iload 2), (46, none, .invokeinterface 150 18), (49, none, .lcmp), (50, none, .ifCond .gt 5), (53, none, .iload 2), (54, none, .ireturn), (55, some [false, true, true], .iinc 2 1), (58, none, .goto (-31)), (61, some [false, false, false], .sipush (-9)), (63, none, .ireturn)]
def qp_J_keep : QP := (0, [2, 0], 3, qc_J_keep)
def qc_J_run : List QE := [(0, none, .aload 0), (1, none, .iload 1), (2, none, .iload 2), (3, none, .iload 3), (4, none, .sipush 2), (5, none, .invokeinterface 110 41), (8, none, .istore 4), (10, none, .iload 4), (12, none, .ifCond .eq 10), (15, none, .aload 0), (16, none, .iload 4), (18, none, .invokeinterface 104 17), (21, none, .ireturn), (22, some [true, true, true, true, false, false], .aload 0), (23, none, .getfield 1), (26, none, .aload 0), (27, none, .getfield 0), (30, none, .invokeinterface 9 16), (33, none, .aload 0), (34, none, .getfield 1), (37, none, .iload 2), (38, none, .invokeinterface 25 16), (41, none, .aload 0), (42, none, .getfield 1), (45, none, .iload 1), (46, none, .invokeinterface 10 211), (49, none, .astore 5), (51, none, .iload 3), (52, none, .ifCond .ne 11), (55, none, .aload 5), (57, none, .getfield 193), (60, none, .goto 21), (63, some [false, false, false, true, false, true], .iload 3), (64, none, .sipush 1), (65, none, .if_icmp .ne 11), (68, none, .aload 5), (70, none, .getfield 194), (73, none, .goto 8), (76, some [false, false, false, false, false, true], .aload 5), (78, none, .getfield 195), (81, some [false, false, false, false, false, false], .ireturn)]
def qp_J_run : QP := (0, [2, 0, 0, 0], 6, qc_J_run)
def qc_J_lots : List QE := [(0, none, .iload 1), (1, none, .sipush 1), (2, none, .if_icmp .ge 10), (5, none, .aload 0), (6, none, .sipush (-4)), (8, none, .invokeinterface 104 17), (11, none, .ireturn), (12, some [true, true, true, false, false, false, false, false], .iload 1), (13, none, .sipush 20), (15, none, .if_icmp .le 10), (18, none, .aload 0), (19, none, .sipush (-6)), (21, none, .invokeinterface 104 17), (24, none, .ireturn), (25, some [true, true, true, false, false, false, false, false], .iload 2), (26, none, .istore 3), (27, none, .sipush 0), (28, none, .istore 4), (30, none, .sipush 0), (31, none, .istore 5), (33, some [true, true, false, true, true, true, false, false], .iload 5), (35, none, .iload 1), (36, none, .if_icmp .ge 121), (39, none, .aload 0), (40, none, .getfield 1), (43, none, .aload 0), (44, none, .getfield 0), (47, none, .invokeinterface 9 16), (50, none, .sipush 0), (51, none, .istore 6), (53, some [true, true, false, true, true, true, true, false], .iload 6), (55, none, .sipush 12), (57, none, .if_icmp .ge 59), (60, none, .aload 0), (61, none, .getfield 1), (64, none, .iload 6), (66, none, .invokeinterface 11 84), (69, none, .astore 7), (71, none, .aload 7), (73, none, .ifnull 37), (76, none, .aload 7), (78, none, .getfield 68), (81, none, .ifCond .ne 29), (84, none, .iload 3), (85, none, .sipush 1103515245), (88, none, .imul), (89, none, .sipush 12345), (92, none, .iadd), (93, none, .istore 3), (94, none, .aload 7), (96, none, .iload 3), (97, none, .sipush 2147483647), (100, none, .iand), (101, none, .sipush 16), (103, none, .ishr), (104, none, .sipush 84), (106, none, .irem), (107, none, .putfield 67), (110, some [true, true, false, true, true, true, true, false], .iinc 6 1), (113, none, .goto (-60)), (116, some [true, true, false, true, true, true, false, false], .aload 0), (117, none, .getfield 1), (120, none, .sipush 83), (122, none, .invokeinterface 25 16), (125, none, .iload 4), (127, none, .aload 0), (128, none, .getfield 1), (131, none, .getfield 129), (134, none, .getfield 194), (137, none, .aload 0), (138, none, .getfield 1), (141, none, .getfield 130), (144, none, .getfield 194), (147, none, .iadd), (148, none, .iadd), (149, none, .istore 4), (151, none, .iinc 5 1), (154, none, .goto (-121)), (157, some [false, false, false, false, true, false, false, false], .iload 4), (159, none, .ireturn)]
def qp_J_lots : QP := (0, [2, 0, 0], 8, qc_J_lots)
def qc_J_gift : List QE := [(0, none, .iload 1), (1, none, .invokeinterface 111 9), (4, none, .ifCond .eq 9), (7, none, .aload 0), (8, none, .sipush (-1)), (9, none, .invokeinterface 104 17), (12, none, .ireturn), (13, some [true, true, true, true, false, false, false, false], .iload 2), (14, none, .ifCond .lt 14), (17, none, .iload 3), (18, none, .aload 0), (19, none, .getfield 0), (22, none, .getfield 128), (25, none, .if_icmp .ge 10), (28, some [true, false, false, false, false, false, false, false], .aload 0), (29, none, .sipush (-4)), (31, none, .invokeinterface 104 17), (34, none, .ireturn), (35, some [true, true, true, true, false, false, false, false], .iload 2), (36, none, .sipush 9), (38, none, .if_icmp .gt 9), (41, none, .iload 3), (42, none, .sipush 83), (44, none, .if_icmp .le 10), (47, some [true, false, false, false, false, false, false, false], .aload 0), (48, none, .sipush (-6)), (50, none, .invokeinterface 104 17), (53, none, .ireturn), (54, some [true, true, true, true, false, false, false, false], .aload 0), (55, none, .aload 0), (56, none, .getfield 0), (59, none, .iload 1), (60, none, .iload 3), (61, none, .invokeinterface 129 355), (64, none, .invokeinterface 33 9), (67, none, .istore 4), (69, none, .sipush (-9)), (71, none, .istore 5), (73, none, .sipush 0), (74, none, .istore 6), (76, some [true, true, true, true, true, true, true, false], .iload 6), (78, none, .sipush 6), (80, none, .if_icmp .ge 42), (83, none, .aload 0), (84, none, .iload 1), (85, none, .iload 6), (87, none, .iload 2), (88, none, .aload 0), (89, none, .getfield 0), (92, none, .getfield 128), (95, none, .iload 3), (96, none, .invokeinterface 135 49), (99, none, .istore 7), (101, none, .iload 7), (103, none, .iload 4), (105, none, .if_icmp .le 11), (108, none, .iload 7), (110, none, .istore 4), (112, none, .iload 6), (114, none, .istore 5), (116, some [true, true, true, true, true, true, true, false], .iinc 6 1), (119, none, .goto (-43)), (122, some [false, false, false, false, false, true, false, false], .iload 5), (124, none, .ireturn)]
def qp_J_gift : QP := (0, [2, 0, 0, 0], 8, qc_J_gift)
def qc_J_when : List QE := [(0, none, .iload 1), (1, none, .invokeinterface 111 9), (4, none, .ifCond .eq 9), (7, none, .aload 0), (8, none, .sipush (-1)), (9, none, .invokeinterface 104 17), (12, none, .ireturn), (13, some [true, true, true, true, true, false, false, false, false], .iload 2), (14, none, .invokeinterface 112 9), (17, none, .ifCond .eq 10), (20, none, .aload 0), (21, none, .sipush (-2)), (23, none, .invokeinterface 104 17), (26, none, .ireturn), (27, some [true, true, true, true, true, false, false, false, false], .iload 3), (28, none, .ifCond .lt 15), (31, none, .iload 4), (33, none, .aload 0), (34, none, .getfield 0), (37, none, .getfield 128), (40, none, .if_icmp .ge 10), (43, some [true, false, false, false, false, false, false, false, false], .aload 0), (44, none, .sipush (-4)), (46, none, .invokeinterface 104 17), (49, none, .ireturn), (50, some [true, true, true, true, true, false, false, false, false], .iload 3), (51, none, .sipush 9), (53, none, .if_icmp .gt 10), (56, none, .iload 4), (58, none, .sipush 83), (60, none, .if_icmp .le 10), (63, some [true, false, false, false, false, false, false, false, false], .aload 0), (64, none, .sipush (-6)), (66, none, .invokeinterface 104 17), (69, none, .ireturn), (70, some [true, true, true, true, true, false, false, false, false], .aload 0), (71, none, .aload 0), (72, none, .getfield 0), (75, none, .iload 1), (76, none, .iload 4), (78, none, .invokeinterface 129 355), (81, none, .invokeinterface 33 9), (84, none, .istore 5), (86, none, .sipush (-9)), (88, none, .istore 6), (90, none, .aload 0), (91, none, .getfield 0), (94, none, .getfield 128), (97, none, .istore 7), (99, some [true, true, true, true, true, true, true, true, false], .iload 7), (101, none, .iload 4), (103, none, .if_icmp .gt 37), (106, none, .aload 0), (107, none, .iload 1), (108, none, .iload 2), (109, none, .iload 3), (110, none, .iload 7), (112, none, .iload 4), (114, none, .invokeinterface 135 49), (117, none, .istore 8), (119, none, .iload 8), (121, none, .iload 5), (123, none, .if_icmp .le 11), (126, none, .iload 8), (128, none, .istore 5), (130, none, .iload 7), (132, none, .istore 6), (134, some [true, true, true, true, true, true, true, true, false], .iinc 7 1), (137, none, .goto (-38)), (140, some [false, false, false, false, false, false, true, false, false], .iload 6), (142, none, .ireturn)]
def qp_J_when : QP := (0, [2, 0, 0, 0, 0], 9, qc_J_when)
def qc_J_changed : List QE := [(0, none, .aload 0), (1, none, .iload 1), (2, none, .invokeinterface 107 17), (5, none, .istore 2), (6, none, .iload 2), (7, none, .ifCond .eq 9), (10, none, .aload 0), (11, none, .iload 2), (12, none, .invokeinterface 104 17), (15, none, .ireturn), (16, some [true, true, false, false, false, false, false, false, false], .aload 0), (17, none, .aload 0), (18, none, .getfield 0), (21, none, .iload 1), (22, none, .invokeinterface 131 25), (25, none, .istore 3), (26, none, .sipush (-9)), (28, none, .istore 4), (30, none, .aload 0), (31, none, .getfield 1), (34, none, .aload 0), (35, none, .getfield 0), (38, none, .invokeinterface 9 16), (41, none, .sipush 0), (42, none, .istore 5), (44, some [true, true, false, true, true, true, false, false, false], .iload 5), (46, none, .sipush 12), (48, none, .if_icmp .ge 84), (51, none, .aload 0), (52, none, .getfield 1), (55, none, .iload 5), (57, none, .invokeinterface 11 84), (60, none, .astore 6), (62, none, .aload 6), (64, none, .ifnull 62), (67, none, .aload 6), (69, none, .getfield 68), (72, none, .ifCond .eq 6), (75, none, .goto 51), (78, some [true, true, false, true, true, true, true, false, false], .aload 6), (80, none, .getfield 66), (83, none, .istore 7), (85, none, .aload 6), (87, none, .iload 7), (89, none, .invokeinterface 114 9), (92, none, .putfield 66), (95, none, .aload 0), (96, none, .aload 0), (97, none, .getfield 1), (100, none, .iload 1), (101, none, .invokeinterface 131 25), (104, none, .istore 8), (106, none, .aload 6), (108, none, .iload 7), (110, none, .putfield 66), (113, none, .iload 8), (115, none, .iload 3), (116, none, .if_icmp .le 10), (119, none, .iload 8), (121, none, .istore 3), (122, none, .iload 5), (124, none, .istore 4), (126, some [true, true, false, true, true, true, false, false, false], .iinc 5 1), (129, none, .goto (-85)), (132, some [false, false, false, false, true, false, false, false, false], .iload 4), (134, none, .ireturn)]
def qp_J_changed : QP := (0, [2, 0], 9, qc_J_changed)
def qc_J_alike : List QE := [(0, none, .iload 1), (1, none, .ifCond .eq 15), (4, none, .iload 1), (5, none, .sipush 1), (6, none, .if_icmp .eq 10), (9, none, .aload 0), (10, none, .sipush (-2)), (12, none, .invokeinterface 104 17), (15, none, .ireturn), (16, some [true, true, false, false], .aload 0), (17, none, .getfield 11), (20, none, .aload 0), (21, none, .getfield 0), (24, none, .aload 0), (25, none, .getfield 0), (28, none, .invokeinterface 14 9), (31, none, .invokeinterface 29 24), (34, none, .aload 0), (35, none, .getfield 11), (38, none, .aload 0), (39, none, .getfield 11), (42, none, .getfield 325), (45, none, .invokeinterface 48 17), (48, none, .istore 2), (49, none, .aload 0), (50, none, .iload 2), (51, none, .invokeinterface 139 17), (54, none, .istore 3), (55, none, .iload 1), (56, none, .sipush 1), (57, none, .if_icmp .ne 7), (60, none, .iload 3), (61, none, .goto 18), (64, some [true, false, true, true], .iload 2), (65, none, .sipush 2), (66, none, .aload 0), (67, none, .getfield 11), (70, none, .iload 3), (71, none, .invokeinterface 48 17), (74, none, .imul), (75, none, .isub), (76, none, .fneg), (79, some [false, false, false, false], .ireturn)]
def qp_J_alike : QP := (0, [2, 0], 4, qc_J_alike)
def qc_J_spare : List QE := [(0, none, .aload 0), (1, none, .iload 1), (2, none, .iload 2), (3, none, .invokeinterface 109 25), (6, none, .istore 3), (7, none, .iload 3), (8, none, .ifCond .eq 9), (11, none, .aload 0), (12, none, .iload 3), (13, none, .invokeinterface 104 17), (16, none, .ireturn), (17, some [true, true, true, false, false], .aload 0), (18, none, .aload 0), (19, none, .getfield 0), (22, none, .iload 1), (23, none, .invokeinterface 131 25), (26, none, .pop), (27, none, .aload 0), (28, none, .getfield 0), (31, none, .invokeinterface 14 9), (34, none, .aload 0), (35, none, .getfield 11), (38, none, .getfield 328), (41, none, .sipush (-1)), (42, none, .ixor), (43, none, .iand), (44, none, .aload 0), (45, none, .getfield 12), (48, none, .getfield 328), (51, none, .sipush (-1)), (52, none, .ixor), (53, none, .iand), (54, none, .istore 4), (56, none, .iload 2), (57, none, .ifCond .ne 8), (60, none, .iload 4), (62, none, .goto 8), (65, some [false, false, false, false, true], .iload 4), (67, none, .invokeinterface 265 9), (70, some [false, false, false, false, false], .ireturn)]
def qp_J_spare : QP := (0, [2, 0, 0], 5, qc_J_spare)
def qc_J_over : List QE := [(0, none, .iload 1), (1, none, .ifCond .eq 15), (4, none, .iload 1), (5, none, .sipush 1), (6, none, .if_icmp .eq 10), (9, none, .aload 0), (10, none, .sipush (-2)), (12, none, .invokeinterface 104 17), (15, none, .ireturn), (16, some [true, true, false], .sipush 83), (18, none, .istore 2), (19, some [true, true, true], .iload 2), (20, none, .aload 0), (21, none, .getfield 0), (24, none, .getfield 128), (27, none, .if_icmp .lt 20), (30, none, .aload 0), (31, none, .getfield 0), (34, none, .iload 2), (35, none, .invokeinterface 18 17), (38, none, .ifCond .ne 9), (41, none, .iinc 2 (-1)), (44, none, .goto (-25)), (47, some [true, true, true], .iload 1), (48, none, .ifCond .ne 7), (51, none, .iload 2), (52, none, .sipush 1), (53, none, .iadd), (54, none, .ireturn), (55, some [true, false, true], .iload 2), (56, none, .aload 0), (57, none, .getfield 0), (60, none, .getfield 128), (63, none, .if_icmp .ge 8), (66, none, .sipush (-9)), (68, none, .goto 4), (71, some [false, false, true], .iload 2), (72, some [false, false, false], .ireturn)]
def qp_J_over : QP := (0, [2, 0], 3, qc_J_over)
def qc_J_streak : List QE := [(0, none, .aload 0), (1, none, .iload 1), (2, none, .iload 2), (3, none, .iload 3), (4, none, .sipush 1), (5, none, .invokeinterface 110 41), (8, none, .istore 4), (10, none, .iload 4), (12, none, .ifCond .eq 10), (15, none, .aload 0), (16, none, .iload 4), (18, none, .invokeinterface 104 17), (21, none, .ireturn), (22, some [true, true, true, true, false, false], .aload 0), (23, none, .aload 0), (24, none, .getfield 0), (27, none, .iload 1), (28, none, .iload 2), (29, none, .invokeinterface 129 355), (32, none, .astore 5), (34, none, .aload 5), (36, none, .invokeinterface 42 8), (39, none, .aload 5), (41, none, .iload 3), (42, none, .ifCond .ne 7), (45, none, .sipush 1), (46, none, .goto 4), (49, some [false, false, false, false, false, false], .sipush 0), (50, some [false, false, false, false, false, false], .invokeinterface 46 17), (53, none, .ireturn)]
def qp_J_streak : QP := (0, [2, 0, 0, 0], 6, qc_J_streak)
def qc_J_quarrel : List QE := [(0, none, .aload 0), (1, none, .iload 1), (2, none, .iload 2), (3, none, .invokeinterface 109 25), (6, none, .istore 3), (7, none, .iload 3), (8, none, .ifCond .eq 9), (11, none, .aload 0), (12, none, .iload 3), (13, none, .invokeinterface 104 17), (16, none, .ireturn), (17, some [true, true, true, false, false, false, false], .aload 0), (18, none, .aload 0), (19, none, .getfield 0), (22, none, .sipush 0), (23, none, .iload 1), (24, none, .invokeinterface 129 355), (27, none, .invokeinterface 42 8), (30, none, .aload 0), (31, none, .aload 0), (32, none, .getfield 0), (35, none, .sipush 1), (36, none, .iload 1), (37, none, .invokeinterface 129 355), (40, none, .invokeinterface 42 8), (43, none, .sipush 0), (44, none, .istore 4), (46, none, .sipush (-9)), (48, none, .istore 5), (50, none, .iload 1), (51, none, .istore 6), (53, some [true, false, true, false, true, true, true], .iload 6), (55, none, .aload 0), (56, none, .getfield 0), (59, none, .getfield 128), (62, none, .if_icmp .lt 40), (65, none, .aload 0), (66, none, .getfield 11), (69, none, .iload 6), (71, none, .invokeinterface 47 17), (74, none, .ifCond .eq 22), (77, none, .aload 0), (78, none, .getfield 12), (81, none, .iload 6), (83, none, .invokeinterface 47 17), (86, none, .ifCond .eq 10), (89, none, .iinc 4 1), (92, none, .iload 6), (94, none, .istore 5), (96, some [true, false, true, false, true, true, true], .iinc 6 (-1)), (99, none, .goto (-46)), (102, some [false, false, true, false, true, true, false], .iload 2), (103, none, .ifCond .ne 8), (106, none, .iload 4), (108, none, .goto 5), (111, some [false, false, false, false, false, true, false], .iload 5), (113, some [false, false, false, false, false, false, false], .ireturn)]
def qp_J_quarrel : QP := (0, [2, 0, 0], 7, qc_J_quarrel)
def qc_J_swapped : List QE := [(0, none, .aload 0), (1, none, .iload 1), (2, none, .invokeinterface 107 17), (5, none, .istore 2), (6, none, .iload 2), (7, none, .ifCond .eq 9), (10, none, .aload 0), (11, none, .iload 2), (12, none, .invokeinterface 105 17), (15, none, .ireturn), (16, some [true, true, false], .aload 0), (17, none, .getfield 1), (20, none, .aload 0), (21, none, .getfield 0), (24, none, .invokeinterface 9 16), (27, none, .aload 0), (28, none, .getfield 1), (31, none, .getfield 129), (34, none, .aload 0), (35, none, .getfield 0), (38, none, .getfield 130), (41, none, .getfield 192), (44, none, .putfield 192), (47, none, .aload 0), (48, none, .getfield 1), (51, none, .getfield 130), (54, none, .aload 0), (55, none, .getfield 0), (58, none, .getfield 129), (61, none, .getfield 192), (64, none, .putfield 192), (67, none, .aload 0), (68, none, .aload 0), (69, none, .getfield 1), (72, none, .iload 1), (73, none, .invokeinterface 131 25), (76, none, .aload 0), (77, none, .aload 0), (78, none, .getfield 0), (81, none, .iload 1), (82, none, .invokeinterface 131 25), (85, none, .isub), (86, none, .ireturn)]
def qp_J_swapped : QP := (0, [2, 0], 3, qc_J_swapped)
def qc_J_usedOn : List QE := [(0, none, .aload 0), (1, none, .iload 1), (2, none, .iload 2), (3, none, .invokeinterface 108 25), (6, none, .istore 3), (7, none, .iload 3), (8, none, .ifCond .eq 9), (11, none, .aload 0), (12, none, .iload 3), (13, none, .invokeinterface 104 17), (16, none, .ireturn), (17, some [true, true, true, false, false], .aload 0), (18, none, .getfield 1), (21, none, .aload 0), (22, none, .getfield 0), (25, none, .invokeinterface 9 16), (28, none, .aload 0), (29, none, .getfield 1), (32, none, .iload 2), (33, none, .invokeinterface 25 16), (36, none, .aload 0), (37, none, .getfield 1), (40, none, .iload 1), (41, none, .invokeinterface 23 17), (44, none, .istore 4), (46, none, .iload 4), (48, none, .ifCond .ge 8), (51, none, .sipush (-9)), (53, none, .goto 5), (56, some [false, false, false, false, true], .iload 4), (58, some [false, false, false, false, false], .ireturn)]
def qp_J_usedOn : QP := (0, [2, 0, 0], 5, qc_J_usedOn)
def qc_J_delay : List QE := [(0, none, .aload 0), (1, none, .iload 1), (2, none, .iload 2), (3, none, .invokeinterface 108 25), (6, none, .istore 3), (7, none, .iload 3), (8, none, .ifCond .eq 9), (11, none, .aload 0), (12, none, .iload 3), (13, none, .invokeinterface 104 17), (16, none, .ireturn), (17, some [true, true, true, false, false, false], .aload 0), (18, none, .aload 0), (19, none, .getfield 0), (22, none, .iload 1), (23, none, .iload 2), (24, none, .invokeinterface 129 355), (27, none, .invokeinterface 33 9), (30, none, .istore 4), (32, none, .iload 2), (33, none, .aload 0), (34, none, .getfield 0), (37, none, .getfield 128), (40, none, .isub), (41, none, .istore 5), (43, some [true, true, true, false, true, true], .iload 5), (45, none, .ifCond .le 51), (48, none, .aload 0), (49, none, .getfield 1), (52, none, .aload 0), (53, none, .getfield 0), (56, none, .invokeinterface 9 16), (59, none, .aload 0), (60, none, .getfield 1), (63, none, .iload 1), (64, none, .iload 5), (66, none, .invokeinterface 22 24), (69, none, .aload 0), (70, none, .aload 0), (71, none, .getfield 1), (74, none, .iload 1), (75, none, .iload 2), (76, none, .invokeinterface 129 355), (79, none, .invokeinterface 33 9), (82, none, .iload 4), (84, none, .if_icmp .lt 6), (87, none, .iload 5), (89, none, .ireturn), (90, some [true, true, true, false, true, true], .iinc 5 (-1)), (93, none, .goto (-50)), (96, some [false, false, false, false, false, false], .sipush 0), (97, none, .ireturn)]
def qp_J_delay : QP := (0, [2, 0, 0], 6, qc_J_delay)
def qc_J_need : List QE := [(0, none, .aload 0), (1, none, .iload 1), (2, none, .iload 2), (3, none, .invokeinterface 108 25), (6, none, .istore 3), (7, none, .iload 3), (8, none, .ifCond .eq 9), (11, none, .aload 0), (12, none, .iload 3), (13, none, .invokeinterface 104 17), (16, none, .ireturn), (17, some [true, true, true, false, false, false], .aload 0), (18, none, .getfield 1), (21, none, .aload 0), (22, none, .getfield 0), (25, none, .invokeinterface 9 16), (28, none, .aload 0), (29, none, .getfield 16), (32, none, .aload 0), (33, none, .getfield 1), (36, none, .iload 2), (37, none, .invokeinterface 52 24), (40, none, .aload 0), (41, none, .getfield 0), (44, none, .iload 1), (45, none, .invokeinterface 114 9), (48, none, .invokeinterface 10 211), (51, none, .getfield 193), (54, none, .istore 4), (56, none, .sipush 0), (57, none, .istore 5), (59, some [true, true, false, false, true, true], .iload 5), (61, none, .sipush 999), (64, none, .if_icmp .gt 27), (67, none, .aload 0), (68, none, .getfield 16), (71, none, .iload 1), (72, none, .iload 5), (74, none, .iload 4), (76, none, .invokeinterface 56 33), (79, none, .ifCond .eq 6), (82, none, .iload 5), (84, none, .ireturn), (85, some [true, true, false, false, true, true], .iinc 5 1), (88, none, .goto (-29)), (91, some [false, false, false, false, false, false], .sipush (-9)), (93, none, .ireturn)]
def qp_J_need : QP := (0, [2, 0, 0], 6, qc_J_need)
def qc_J_loss : List QE := [(0, none, .aload 0), (1, none, .iload 1), (2, none, .iload 2), (3, none, .invokeinterface 109 25), (6, none, .istore 3), (7, none, .iload 3), (8, none, .ifCond .eq 9), (11, none, .aload 0), (12, none, .iload 3), (13, none, .invokeinterface 104 17), (16, none, .ireturn), (17, some [true, true, true, false], .aload 0), (18, none, .aload 0), (19, none, .getfield 0), (22, none, .sipush 0), (23, none, .iload 1), (24, none, .invokeinterface 129 355), (27, none, .pop), (28, none, .aload 0), (29, none, .aload 0), (30, none, .getfield 0), (33, none, .sipush 1), (34, none, .iload 1), (35, none, .invokeinterface 129 355), (38, none, .pop), (39, none, .iload 2), (40, none, .ifCond .ne 10), (43, none, .aload 0), (44, none, .invokeinterface 137 9), (47, none, .goto 7), (50, some [true, false, false, false], .aload 0), (51, none, .invokeinterface 138 9), (54, some [false, false, false, false], .ireturn)]
def qp_J_loss : QP := (0, [2, 0, 0], 4, qc_J_loss)
def qc_J_heavyDay : List QE := [(0, none, .aload 0), (1, none, .iload 1), (2, none, .iload 2), (3, none, .invokeinterface 109 25), (6, none, .istore 3), (7, none, .iload 3), (8, none, .ifCond .eq 9), (11, none, .aload 0), (12, none, .iload 3), (13, none, .invokeinterface 104 17), (16, none, .ireturn), (17, some [true, true, true, false, false, false, false, false], .aload 0), (18, none, .getfield 1), (21, none, .aload 0), (22, none, .getfield 0), (25, none, .invokeinterface 9 16), (28, none, .sipush 0), (29, none, .istore 4), (31, none, .sipush (-9)), (33, none, .istore 5), (35, none, .aload 0), (36, none, .getfield 0), (39, none, .getfield 128), (42, none, .istore 6), (44, some [true, true, true, false, true, true, true, false], .iload 6), (46, none, .iload 1), (47, none, .if_icmp .gt 50), (50, none, .aload 0), (51, none, .getfield 1), (54, none, .sipush 0), (55, none, .invokeinterface 24 17), (58, none, .aload 0), (59, none, .getfield 1), (62, none, .sipush 1), (63, none, .invokeinterface 24 17), (66, none, .iadd), (67, none, .istore 7), (69, none, .iload 7), (71, none, .iload 4), (73, none, .if_icmp .le 11), (76, none, .iload 7), (78, none, .istore 4), (80, none, .iload 6), (82, none, .istore 5), (84, some [true, true, true, false, true, true, true, false], .aload 0), (85, none, .getfield 1), (88, none, .invokeinterface 21 8), (91, none, .iinc 6 1), (94, none, .goto (-50)), (97, some [false, false, true, false, true, true, false, false], .iload 2), (98, none, .ifCond .ne 8), (101, none, .iload 5), (103, none, .goto 5), (106, some [false, false, false, false, true, false, false, false], .iload 4), (108, some [false, false, false, false, false, false, false, false], .ireturn)]
def qp_J_heavyDay : QP := (0, [2, 0, 0], 8, qc_J_heavyDay)
def qc_J_refuse : List QE := [(0, none, .iload 1), (1, none, .ineg), (2, none, .istore 2), (3, none, .iload 2), (4, none, .ifCond .lt 22), (7, none, .iload 2), (8, none, .aload 0), (9, none, .getfield 10), (12, none, .arraylength), (13, none, .if_icmp .ge 13), (16, none, .aload 0), (17, none, .getfield 10), (20, none, .iload 2), (21, none, .dup2), (22, none, .iaload), (23, none, .sipush 1), (24, none, .iadd), (25, none, .iastore), (26, some [false, true, false], .iload 1), (27, none, .ireturn)]
def qp_J_refuse : QP := (0, [2, 0], 3, qc_J_refuse)
def qc_J_refuseFar : List QE := [(0, none, .sipush 1000000000), (3, none, .aload 0), (4, none, .iload 1), (5, none, .invokeinterface 104 17), (8, none, .isub), (9, none, .ireturn)]
def qp_J_refuseFar : QP := (0, [2, 0], 2, qc_J_refuseFar)
def qc_J_refuseLong : List QE := [(0, none, .goto_w 4000000000000000000), (3, none, .aload 0), (4, none, .iload 1), (5, none, .invokeinterface 104 17), (8, none, .i2l), (9, none, .lsub), (10, none, .lreturn)]
def qp_J_refuseLong : QP := (0, [2, 0], 2, qc_J_refuseLong)
def qc_J_faultOfDay : List QE := [(0, none, .iload 1), (1, none, .aload 0), (2, none, .getfield 0), (5, none, .getfield 128), (8, none, .if_icmp .ge 6), (11, none, .sipush (-4)), (13, none, .ireturn), (14, some [false, true], .iload 1), (15, none, .sipush 83), (17, none, .if_icmp .le 8), (20, none, .sipush (-6)), (22, none, .goto 4), (25, some [false, false], .sipush 0), (26, some [false, false], .ireturn)]
def qp_J_faultOfDay : QP := (0, [2, 0], 2, qc_J_faultOfDay)
def qc_J_faultOfOneAndDay : List QE := [(0, none, .iload 1), (1, none, .invokeinterface 111 9), (4, none, .ifCond .eq 7), (7, none, .sipush (-1)), (8, none, .goto 8), (11, some [true, false, true], .aload 0), (12, none, .iload 2), (13, none, .invokeinterface 107 17), (16, some [false, false, false], .ireturn)]
def qp_J_faultOfOneAndDay : QP := (0, [2, 0, 0], 3, qc_J_faultOfOneAndDay)
def qc_J_faultOfDayWhat : List QE := [(0, none, .aload 0), (1, none, .iload 1), (2, none, .invokeinterface 107 17), (5, none, .istore 3), (6, none, .iload 3), (7, none, .ifCond .eq 5), (10, none, .iload 3), (11, none, .ireturn), (12, some [false, false, true, false], .iload 2), (13, none, .ifCond .eq 13), (16, none, .iload 2), (17, none, .sipush 1), (18, none, .if_icmp .eq 8), (21, none, .sipush (-2)), (23, none, .goto 4), (26, some [false, false, false, false], .sipush 0), (27, some [false, false, false, false], .ireturn)]
def qp_J_faultOfDayWhat : QP := (0, [2, 0, 0], 4, qc_J_faultOfDayWhat)
def qc_J_faultOfOneDayWhat : List QE := [(0, none, .aload 0), (1, none, .iload 1), (2, none, .iload 2), (3, none, .invokeinterface 108 25), (6, none, .istore 5), (8, none, .iload 5), (10, none, .ifCond .eq 6), (13, none, .iload 5), (15, none, .ireturn), (16, some [false, false, false, true, true, false], .iload 3), (17, none, .ifCond .lt 9), (20, none, .iload 3), (21, none, .iload 4), (23, none, .if_icmp .le 8), (26, some [false, false, false, false, false, false], .sipush (-2)), (28, none, .goto 4), (31, some [false, false, false, false, false, false], .sipush 0), (32, some [false, false, false, false, false, false], .ireturn)]
def qp_J_faultOfOneDayWhat : QP := (0, [2, 0, 0, 0, 0], 6, qc_J_faultOfOneDayWhat)
def qc_J_isNobody : List QE := [(0, none, .iload 0), (1, none, .ifCond .eq 12), (4, none, .iload 0), (5, none, .sipush 1), (6, none, .if_icmp .eq 7), (9, none, .sipush 1), (10, none, .goto 4), (13, some [false], .sipush 0), (14, some [false], .freturn)]
def qp_J_isNobody : QP := (0, [0], 1, qc_J_isNobody)
def qc_J_isNoKind : List QE := [(0, none, .iload 0), (1, none, .ifCond .lt 9), (4, none, .iload 0), (5, none, .sipush 6), (7, none, .if_icmp .lt 7), (10, some [false], .sipush 1), (11, none, .goto 4), (14, some [false], .sipush 0), (15, some [false], .freturn)]
def qp_J_isNoKind : QP := (0, [0], 1, qc_J_isNoKind)
def qc_J_isNoWeekday : List QE := [(0, none, .iload 0), (1, none, .ifCond .lt 9), (4, none, .iload 0), (5, none, .sipush 7), (7, none, .if_icmp .lt 7), (10, some [false], .sipush 1), (11, none, .goto 4), (14, some [false], .sipush 0), (15, some [false], .freturn)]
def qp_J_isNoWeekday : QP := (0, [0], 1, qc_J_isNoWeekday)
def qc_J_otherThan : List QE := [(0, none, .iload 0), (1, none, .ifCond .ne 7), (4, none, .sipush 1), (5, none, .goto 4), (8, some [false], .sipush 0), (9, some [false], .ireturn)]
def qp_J_otherThan : QP := (0, [0], 1, qc_J_otherThan)
def qc_J_remember : List QE := [(0, none, .aload 0), (1, none, .getfield 5), (4, none, .sipush 8), (6, none, .if_icmp .lt 52), (9, none, .aload 0), (10, none, .getfield 4), (13, none, .sipush 0), (14, none, .aaload), (15, none, .astore 1), (16, none, .sipush 1), (17, none, .istore 2), (18, some [true, true, true], .iload 2), (19, none, .sipush 8), (21, none, .if_icmp .ge 23), (24, none, .aload 0), (25, none, .getfield 4), (28, none, .iload 2), (29, none, .sipush 1), (30, none, .isub), (31, none, .aload 0), (32, none, .getfield 4), (35, none, .iload 2), (36, none, .aaload), (37, none, .aastore), (38, none, .iinc 2 1), (41, none, .goto (-23)), (44, some [true, true, false], .aload 0), (45, none, .getfield 4), (48, none, .sipush 7), (50, none, .aload 1), (51, none, .aastore), (52, none, .aload 0), (53, none, .sipush 7), (55, none, .putfield 5), (58, some [true, false, false], .aload 0), (59, none, .getfield 5), (62, none, .ifCond .lt 29), (65, none, .aload 0), (66, none, .getfield 4), (69, none, .aload 0), (70, none, .getfield 5), (73, none, .aaload), (74, none, .aload 0), (75, none, .getfield 0), (78, none, .invokeinterface 9 16), (81, none, .aload 0), (82, none, .dup), (83, none, .getfield 5), (86, none, .sipush 1), (87, none, .iadd), (88, none, .putfield 5), (91, some [false, false, false], .return_)]
def qp_J_remember : QP := (0, [2], 3, qc_J_remember)
def qc_J_firstMisplaced : List QE := [(0, none, .aload 0), (1, none, .getfield 7), (4, none, .ifCond .ne 5), (7, none, .sipush 0), (8, none, .ireturn), (9, some [true, false, false, false, false], .sipush 0), (10, none, .istore 1), (11, some [true, true, false, false, false], .iload 1), (12, none, .aload 0), (13, none, .getfield 7), (16, none, .if_icmp .ge 75), (19, none, .aload 0), (20, none, .iload 1), (21, none, .invokeinterface 125 17), (24, none, .invokeinterface 124 9), (27, none, .istore 2), (28, none, .iload 2), (29, none, .ifCond .ne 5), (32, none, .iload 1), (33, none, .ireturn), (34, some [true, true, true, false, false], .iload 1), (35, none, .sipush 1), (36, none, .iadd), (37, none, .iload 2), (38, none, .iadd), (39, none, .istore 3), (40, none, .iload 1), (41, none, .sipush 1), (42, none, .iadd), (43, none, .istore 4), (45, some [true, false, false, true, true], .iload 4), (47, none, .iload 3), (48, none, .if_icmp .ge 24), (51, none, .aload 0), (52, none, .iload 4), (54, none, .invokeinterface 125 17), (57, none, .invokeinterface 126 9), (60, none, .ifCond .ne 6), (63, none, .iload 4), (65, none, .ireturn), (66, some [true, false, false, true, true], .iinc 4 1), (69, none, .goto (-24)), (72, some [true, false, false, true, false], .aload 0), (73, none, .iload 3), (74, none, .invokeinterface 125 17), (77, none, .sipush 59), (79, none, .if_icmp .eq 5), (82, none, .iload 3), (83, none, .ireturn), (84, some [true, false, false, true, false], .iload 3), (85, none, .sipush 1), (86, none, .iadd), (87, none, .istore 1), (88, none, .goto (-77)), (91, some [false, false, false, false, false], .sipush (-1)), (92, none, .ireturn)]
def qp_J_firstMisplaced : QP := (0, [2], 5, qc_J_firstMisplaced)
def qc_J_tellStatements : List QE := [(0, none, .aload 0), (1, none, .getfield 1), (4, none, .aload 0), (5, none, .getfield 0), (8, none, .invokeinterface 9 16), (11, none, .sipush 0), (12, none, .istore 1), (13, none, .sipush 0), (14, none, .istore 2), (15, some [true, true, true], .iload 2), (16, none, .aload 0), (17, none, .getfield 7), (20, none, .if_icmp .ge 36), (23, none, .aload 0), (24, none, .iload 2), (25, none, .invokeinterface 118 17), (28, none, .ifCond .ne 9), (31, none, .sipush (-2000)), (34, none, .iload 2), (35, none, .isub), (36, none, .ireturn), (37, some [true, true, true], .iinc 1 1), (40, none, .iload 2), (41, none, .aload 0), (42, none, .iload 2), (43, none, .invokeinterface 125 17), (46, none, .invokeinterface 124 9), (49, none, .sipush 2), (50, none, .iadd), (51, none, .iadd), (52, none, .istore 2), (53, none, .goto (-38)), (56, some [false, true, false], .iload 1), (57, none, .ireturn)]
def qp_J_tellStatements : QP := (0, [2], 3, qc_J_tellStatements)
def qc_J_tellStatement : List QE := [(0, none, .aload 0), (1, none, .iload 1), (2, none, .sipush 1), (3, none, .iadd), (4, none, .sipush 1), (5, none, .invokeinterface 127 25), (8, none, .istore 2), (9, none, .aload 0), (10, none, .iload 1), (11, none, .invokeinterface 125 17), (14, none, .lookupswitch 127 #[(99, 78), (100, 121), (112, 64), (117, 108), (119, 50)]), (64, some [true, true, true], .aload 0), (65, none, .iload 2), (66, none, .aload 0), (67, none, .iload 1), (68, none, .sipush 2), (69, none, .iadd), (70, none, .sipush 1), (71, none, .invokeinterface 127 25), (74, none, .invokeinterface 119 25), (77, none, .freturn), (78, some [true, true, true], .aload 0), (79, none, .iload 2), (80, none, .aload 0), (81, none, .iload 1), (82, none, .sipush 2), (83, none, .iadd), (84, none, .sipush 3), (85, none, .invokeinterface 127 25), (88, none, .invokeinterface 120 25), (91, none, .freturn), (92, some [true, true, true], .aload 0), (93, none, .iload 2), (94, none, .aload 0), (95, none, .iload 1), (96, none, .sipush 2), (97, none, .iadd), (98, none, .sipush 1), (99, none, .invokeinterface 127 25), (102, none, .aload 0), (103, none, .iload 1), (104, none, .sipush 3), (105, none, .iadd), (106, none, .sipush 1), (107, none, .invokeinterface 127 25), (110, none, .aload 0), (111, none, .iload 1), (112, none, .sipush 4), (113, none, .iadd), (114, none, .sipush 2), (115, none, .invokeinterface 127 25), (118, none, .invokeinterface 121 41), (121, none, .freturn), (122, some [true, true, false], .aload 0), (123, none, .aload 0), (124, none, .iload 1), (125, none, .sipush 1), (126, none, .iadd), (127, none, .sipush 2), (128, none, .invokeinterface 127 25), (131, none, .invokeinterface 122 17), (134, none, .freturn), (135, some [true, false, true], .aload 0), (136, none, .iload 2), (137, none, .invokeinterface 123 17), (140, none, .freturn), (141, some [false, false, false], .sipush 0), (142, none, .freturn)]
def qp_J_tellStatement : QP := (0, [2, 0], 3, qc_J_tellStatement)
def qc_J_tellWeekday : List QE := [(0, none, .iload 1), (1, none, .invokeinterface 111 9), (4, none, .ifCond .ne 10), (7, none, .iload 2), (8, none, .invokeinterface 113 9), (11, none, .ifCond .eq 5), (14, some [false, false, false], .sipush 0), (15, none, .freturn), (16, some [true, true, true], .aload 0), (17, none, .getfield 1), (20, none, .iload 1), (21, none, .invokeinterface 10 211), (24, none, .iload 2), (25, none, .putfield 192), (28, none, .sipush 1), (29, none, .freturn)]
def qp_J_tellWeekday : QP := (0, [2, 0, 0], 3, qc_J_tellWeekday)
def qc_J_tellPurse : List QE := [(0, none, .iload 1), (1, none, .invokeinterface 111 9), (4, none, .ifCond .eq 5), (7, none, .sipush 0), (8, none, .freturn), (9, some [true, true, true], .aload 0), (10, none, .getfield 1), (13, none, .iload 1), (14, none, .invokeinterface 10 211), (17, none, .iload 2), (18, none, .putfield 193), (21, none, .sipush 1), (22, none, .freturn)]
def qp_J_tellPurse : QP := (0, [2, 0, 0], 3, qc_J_tellPurse)
def qc_J_tellCause : List QE := [(0, none, .iload 1), (1, none, .invokeinterface 112 9), (4, none, .ifCond .ne 29), (7, none, .iload 3), (8, none, .invokeinterface 111 9), (11, none, .ifCond .ne 22), (14, none, .iload 4), (16, none, .sipush 83), (18, none, .if_icmp .gt 15), (21, none, .aload 0), (22, none, .getfield 1), (25, none, .getfield 132), (28, none, .sipush 12), (30, none, .if_icmp .lt 5), (33, some [false, false, false, false, false], .sipush 0), (34, none, .freturn), (35, some [true, true, true, true, true], .aload 0), (36, none, .getfield 1), (39, none, .iload 1), (40, none, .iload 2), (41, none, .iload 3), (42, none, .iload 4), (44, none, .invokeinterface 12 40), (47, none, .sipush 1), (48, none, .freturn)]
def qp_J_tellCause : QP := (0, [2, 0, 0, 0, 0], 5, qc_J_tellCause)
def qc_J_tellUse : List QE := [(0, none, .aload 0), (1, none, .getfield 1), (4, none, .iload 1), (5, none, .invokeinterface 11 84), (8, none, .astore 2), (9, none, .aload 2), (10, none, .ifnull 14), (13, none, .aload 0), (14, none, .getfield 1), (17, none, .aload 2), (18, none, .invokeinterface 19 17), (21, none, .ifCond .ne 5), (24, some [false, false, false], .sipush 0), (25, none, .freturn), (26, some [true, false, true], .aload 0), (27, none, .getfield 1), (30, none, .aload 2), (31, none, .invokeinterface 20 17), (34, none, .pop), (35, none, .sipush 1), (36, none, .freturn)]
def qp_J_tellUse : QP := (0, [2, 0], 3, qc_J_tellUse)
def qc_J_tellDays : List QE := [(0, none, .aload 0), (1, none, .getfield 1), (4, none, .getfield 128), (7, none, .iload 1), (8, none, .iadd), (9, none, .sipush 83), (11, none, .if_icmp .le 5), (14, none, .sipush 0), (15, none, .freturn), (16, some [true, true, false], .sipush 0), (17, none, .istore 2), (18, some [true, true, true], .iload 2), (19, none, .iload 1), (20, none, .if_icmp .ge 16), (23, none, .aload 0), (24, none, .getfield 1), (27, none, .invokeinterface 21 8), (30, none, .iinc 2 1), (33, none, .goto (-15)), (36, some [false, false, false], .sipush 1), (37, none, .freturn)]
def qp_J_tellDays : QP := (0, [2, 0], 3, qc_J_tellDays)
def qc_J_digitsBehind : List QE := [(0, none, .iload 0), (1, none, .lookupswitch 61 #[(99, 55), (100, 59), (112, 53), (117, 57), (119, 51)]), (52, some [false], .sipush 2), (53, none, .ireturn), (54, some [false], .sipush 4), (55, none, .ireturn), (56, some [false], .sipush 5), (57, none, .ireturn), (58, some [false], .sipush 2), (59, none, .ireturn), (60, some [false], .sipush 1), (61, none, .ireturn), (62, some [false], .sipush 0), (63, none, .ireturn)]
def qp_J_digitsBehind : QP := (0, [0], 1, qc_J_digitsBehind)
def qc_J_letterAt : List QE := [(0, none, .iload 1), (1, none, .ifCond .lt 26), (4, none, .iload 1), (5, none, .aload 0), (6, none, .getfield 7), (9, none, .if_icmp .ge 18), (12, none, .iload 1), (13, none, .sipush 96), (15, none, .if_icmp .ge 12), (18, none, .aload 0), (19, none, .getfield 6), (22, none, .iload 1), (23, none, .iaload), (24, none, .goto 4), (27, some [false, false], .sipush (-1)), (28, some [false, false], .ireturn)]
def qp_J_letterAt : QP := (0, [2, 0], 2, qc_J_letterAt)
def qc_J_isDigit : List QE := [(0, none, .iload 0), (1, none, .sipush 48), (3, none, .if_icmp .lt 13), (6, none, .iload 0), (7, none, .sipush 57), (9, none, .if_icmp .gt 7), (12, none, .sipush 1), (13, none, .goto 4), (16, some [false], .sipush 0), (17, some [false], .freturn)]
def qp_J_isDigit : QP := (0, [0], 1, qc_J_isDigit)
def qc_J_figureAt : List QE := [(0, none, .sipush 0), (1, none, .istore 3), (2, none, .sipush 0), (3, none, .istore 4), (5, some [true, true, true, true, true], .iload 4), (7, none, .iload 2), (8, none, .if_icmp .ge 26), (11, none, .sipush 10), (13, none, .iload 3), (14, none, .imul), (15, none, .aload 0), (16, none, .iload 1), (17, none, .iload 4), (19, none, .iadd), (20, none, .invokeinterface 125 17), (23, none, .iadd), (24, none, .sipush 48), (26, none, .isub), (27, none, .istore 3), (28, none, .iinc 4 1), (31, none, .goto (-26)), (34, some [false, false, false, true, false], .iload 3), (35, none, .ireturn)]
def qp_J_figureAt : QP := (0, [2, 0, 0], 5, qc_J_figureAt)
def qc_J_planOf : List QE := [(0, none, .iload 1), (1, none, .ifCond .ne 10), (4, none, .aload 0), (5, none, .getfield 11), (8, none, .goto 7), (11, some [true, false], .aload 0), (12, none, .getfield 12), (15, some [false, false], .areturn)]
def qp_J_planOf : QP := (0, [2, 0], 2, qc_J_planOf)
def qc_J_prepared : List QE := [(0, none, .aload 0), (1, none, .aload 1), (2, none, .iload 2), (3, none, .aload 1), (4, none, .iload 2), (5, none, .invokeinterface 10 211), (8, none, .getfield 192), (11, none, .iload 3), (12, none, .invokeinterface 130 363), (15, none, .areturn)]
def qp_J_prepared : QP := (0, [2, 4, 0, 0], 4, qc_J_prepared)
def qc_J_preparedOn : List QE := [(0, none, .aload 0), (1, none, .iload 2), (2, none, .invokeinterface 128 339), (5, none, .astore 5), (7, none, .aload 5), (9, none, .aload 1), (10, none, .iload 2), (11, none, .iload 3), (12, none, .iload 4), (14, none, .invokeinterface 26 40), (17, none, .aload 5), (19, none, .aload 1), (20, none, .aload 1), (21, none, .iload 2), (22, none, .invokeinterface 15 17), (25, none, .invokeinterface 29 24), (28, none, .aload 5), (30, none, .areturn)]
def qp_J_preparedOn : QP := (0, [2, 4, 0, 0, 0], 6, qc_J_preparedOn)
def qc_J_valueOfBoth : List QE := [(0, none, .aload 0), (1, none, .aload 1), (2, none, .sipush 0), (3, none, .iload 2), (4, none, .invokeinterface 129 355), (7, none, .invokeinterface 33 9), (10, none, .istore 3), (11, none, .iload 3), (12, none, .aload 0), (13, none, .aload 1), (14, none, .sipush 1), (15, none, .iload 2), (16, none, .invokeinterface 129 355), (19, none, .invokeinterface 33 9), (22, none, .iadd), (23, none, .ireturn)]
def qp_J_valueOfBoth : QP := (0, [2, 4, 0], 4, qc_J_valueOfBoth)
def qc_J_settledOn : List QE := [(0, none, .aload 0), (1, none, .aload 0), (2, none, .getfield 0), (5, none, .iload 1), (6, none, .iload 2), (7, none, .iload 3), (8, none, .invokeinterface 130 363), (11, none, .astore 4), (13, none, .aload 4), (15, none, .invokeinterface 33 9), (18, none, .istore 5), (20, none, .aload 4), (22, none, .getfield 321), (25, none, .iload 5), (27, none, .sipush 1000), (30, none, .idiv), (31, none, .isub), (32, none, .istore 6), (34, none, .iload 5), (36, none, .sipush 1000), (39, none, .irem), (40, none, .sipush 3), (41, none, .iload 6), (43, none, .imul), (44, none, .isub), (45, none, .ireturn)]
def qp_J_settledOn : QP := (0, [2, 0, 0, 0], 7, qc_J_settledOn)
def qc_J_isBestChoice : List QE := [(0, none, .aload 0), (1, none, .iload 1), (2, none, .iload 2), (3, none, .invokeinterface 134 25), (6, none, .istore 3), (7, none, .sipush 0), (8, none, .istore 4), (10, some [true, false, true, true, true], .iload 4), (12, none, .sipush 7), (14, none, .if_icmp .ge 22), (17, none, .aload 0), (18, none, .iload 4), (20, none, .iload 2), (21, none, .invokeinterface 134 25), (24, none, .iload 3), (25, none, .if_icmp .le 5), (28, none, .sipush 0), (29, none, .freturn), (30, some [true, false, true, true, true], .iinc 4 1), (33, none, .goto (-23)), (36, some [false, false, false, false, false], .sipush 1), (37, none, .freturn)]
def qp_J_isBestChoice : QP := (0, [1000, 0, 0], 5, qc_J_isBestChoice)
def qc_J_settledBeside : List QE := [(0, none, .iload 1), (1, none, .ifCond .lt 9), (4, none, .iload 1), (5, none, .aload 0), (6, none, .arraylength), (7, none, .if_icmp .lt 5), (10, some [false, false, false], .sipush 0), (11, none, .ireturn), (12, some [true, true, true], .aload 0), (13, none, .iload 1), (14, none, .iaload), (15, none, .iload 1), (16, none, .iload 2), (17, none, .if_icmp .ne 8), (20, none, .sipush 10), (22, none, .goto 4), (25, some [false, false, false], .sipush 0), (26, some [false, false, false], .isub), (27, none, .ireturn)]
def qp_J_settledBeside : QP := (0, [1000, 0, 0], 3, qc_J_settledBeside)
def qc_J_valueWithOneMore : List QE := [(0, none, .aload 0), (1, none, .getfield 0), (4, none, .getfield 132), (7, none, .sipush 12), (9, none, .if_icmp .lt 5), (12, none, .sipush 0), (13, none, .ireturn), (14, some [true, true, true, true, true, true], .aload 0), (15, none, .getfield 1), (18, none, .aload 0), (19, none, .getfield 0), (22, none, .invokeinterface 9 16), (25, none, .aload 0), (26, none, .getfield 1), (29, none, .iload 2), (30, none, .iload 3), (31, none, .iload 1), (32, none, .iload 4), (34, none, .invokeinterface 12 40), (37, none, .aload 0), (38, none, .aload 0), (39, none, .getfield 1), (42, none, .iload 1), (43, none, .iload 5), (45, none, .invokeinterface 129 355), (48, none, .invokeinterface 33 9), (51, none, .ireturn)]
def qp_J_valueWithOneMore : QP := (0, [2, 0, 0, 0, 0, 0], 6, qc_J_valueWithOneMore)
def qc_J_valueOfBothWithout : List QE := [(0, none, .aload 0), (1, none, .getfield 11), (4, none, .iload 1), (5, none, .invokeinterface 34 17), (8, none, .aload 0), (9, none, .getfield 12), (12, none, .iload 1), (13, none, .invokeinterface 34 17), (16, none, .iadd), (17, none, .ireturn)]
def qp_J_valueOfBothWithout : QP := (0, [2, 0], 2, qc_J_valueOfBothWithout)
def qc_J_worstLoss : List QE := [(0, none, .aload 0), (1, none, .getfield 0), (4, none, .invokeinterface 14 9), (7, none, .istore 1), (8, none, .sipush 0), (9, none, .istore 2), (10, none, .sipush (-9)), (12, none, .istore 3), (13, none, .sipush 0), (14, none, .istore 4), (16, some [true, true, true, true, true, false], .iload 4), (18, none, .sipush 12), (20, none, .if_icmp .ge 49), (23, none, .iload 1), (24, none, .sipush 1), (25, none, .iload 4), (27, none, .ishl), (28, none, .iand), (29, none, .ifCond .ne 6), (32, none, .goto 31), (35, some [true, true, true, true, true, false], .aload 0), (36, none, .sipush 1), (37, none, .iload 4), (39, none, .ishl), (40, none, .invokeinterface 136 17), (43, none, .istore 5), (45, none, .iload 3), (46, none, .sipush (-9)), (48, none, .if_icmp .eq 9), (51, none, .iload 5), (53, none, .iload 2), (54, none, .if_icmp .ge 9), (57, some [true, true, false, false, true, true], .iload 5), (59, none, .istore 2), (60, none, .iload 4), (62, none, .istore 3), (63, some [true, true, true, true, true, false], .iinc 4 1), (66, none, .goto (-50)), (69, some [false, false, false, true, false, false], .iload 3), (70, none, .ireturn)]
def qp_J_worstLoss : QP := (0, [2], 6, qc_J_worstLoss)
def qc_J_worstLossOfTwo : List QE := [(0, none, .aload 0), (1, none, .getfield 0), (4, none, .invokeinterface 14 9), (7, none, .istore 1), (8, none, .sipush 0), (9, none, .istore 2), (10, none, .sipush (-9)), (12, none, .istore 3), (13, none, .sipush 0), (14, none, .istore 4), (16, some [true, true, true, true, true, false, false, false], .iload 4), (18, none, .sipush 12), (20, none, .if_icmp .ge 83), (23, none, .iload 4), (25, none, .sipush 1), (26, none, .iadd), (27, none, .istore 5), (29, some [true, true, true, true, true, true, false, false], .iload 5), (31, none, .sipush 12), (33, none, .if_icmp .ge 64), (36, none, .sipush 1), (37, none, .iload 4), (39, none, .ishl), (40, none, .sipush 1), (41, none, .iload 5), (43, none, .ishl), (44, none, .ior), (45, none, .istore 6), (47, none, .iload 1), (48, none, .iload 6), (50, none, .iand), (51, none, .iload 6), (53, none, .if_icmp .eq 6), (56, none, .goto 35), (59, some [true, true, true, true, true, true, true, false], .aload 0), (60, none, .iload 6), (62, none, .invokeinterface 136 17), (65, none, .istore 7), (67, none, .iload 3), (68, none, .sipush (-9)), (70, none, .if_icmp .eq 9), (73, none, .iload 7), (75, none, .iload 2), (76, none, .if_icmp .ge 15), (79, some [true, true, false, false, true, true, false, true], .iload 7), (81, none, .istore 2), (82, none, .sipush 100), (84, none, .iload 4), (86, none, .imul), (87, none, .iload 5), (89, none, .iadd), (90, none, .istore 3), (91, some [true, true, true, true, true, true, false, false], .iinc 5 1), (94, none, .goto (-65)), (97, some [true, true, true, true, true, false, false, false], .iinc 4 1), (100, none, .goto (-84)), (103, some [false, false, false, true, false, false, false, false], .iload 3), (104, none, .ireturn)]
def qp_J_worstLossOfTwo : QP := (0, [2], 8, qc_J_worstLossOfTwo)
def qc_J_evenHeap : List QE := [(0, none, .aload 0), (1, none, .getfield 11), (4, none, .getfield 325), (7, none, .aload 0), (8, none, .getfield 11), (11, none, .getfield 325), (14, none, .ineg), (15, none, .iand), (16, none, .istore 2), (17, none, .sipush 0), (18, none, .istore 3), (19, none, .iload 1), (20, none, .sipush 1), (21, none, .iadd), (22, none, .istore 4), (24, none, .iload 2), (25, none, .istore 5), (27, some [true, true, true, true, true, true, false], .iload 5), (29, none, .aload 0), (30, none, .getfield 11), (33, none, .getfield 325), (36, none, .if_icmp .gt 75), (39, none, .iload 4), (41, none, .iload 1), (42, none, .sipush 2), (43, none, .irem), (44, none, .if_icmp .le 67), (47, none, .iload 5), (49, none, .aload 0), (50, none, .getfield 11), (53, none, .getfield 325), (56, none, .sipush (-1)), (57, none, .ixor), (58, none, .iand), (59, none, .ifCond .ne 46), (62, none, .iload 5), (64, none, .iload 2), (65, none, .iand), (66, none, .iload 2), (67, none, .if_icmp .eq 6), (70, none, .goto 35), (73, some [true, true, true, true, true, true, false], .iload 1), (74, none, .sipush 2), (75, none, .aload 0), (76, none, .getfield 11), (79, none, .iload 5), (81, none, .invokeinterface 48 17), (84, none, .imul), (85, none, .isub), (86, none, .fneg), (89, none, .istore 6), (91, none, .iload 6), (93, none, .iload 4), (95, none, .if_icmp .ge 10), (98, none, .iload 6), (100, none, .istore 4), (102, none, .iload 5), (104, none, .istore 3), (105, some [true, true, true, true, true, true, false], .iinc 5 1), (108, none, .goto (-81)), (111, some [false, false, false, true, false, false, false], .iload 3), (112, none, .ireturn)]
def qp_J_evenHeap : QP := (0, [2, 0], 7, qc_J_evenHeap)
def qc_J_numberAt : List QE := [(0, none, .iload 1), (1, none, .ifCond .lt 26), (4, none, .iload 1), (5, none, .aload 0), (6, none, .getfield 9), (9, none, .if_icmp .ge 18), (12, none, .iload 1), (13, none, .sipush 12), (15, none, .if_icmp .ge 12), (18, none, .aload 0), (19, none, .getfield 8), (22, none, .iload 1), (23, none, .iaload), (24, none, .goto 4), (27, some [false, false], .sipush (-1)), (28, some [false, false], .ireturn)]
def qp_J_numberAt : QP := (0, [2, 0], 2, qc_J_numberAt)
def qc_J_mostInRow : List QE := [(0, none, .sipush (-1)), (1, none, .istore 1), (2, none, .sipush 0), (3, none, .istore 2), (4, some [true, true, true], .iload 2), (5, none, .aload 0), (6, none, .getfield 9), (9, none, .if_icmp .ge 19), (12, none, .iload 1), (13, none, .aload 0), (14, none, .iload 2), (15, none, .invokeinterface 140 17), (18, none, .fadd), (21, none, .istore 1), (22, none, .iinc 2 1), (25, none, .goto (-21)), (28, some [false, true, false], .iload 1), (29, none, .ireturn)]
def qp_J_mostInRow : QP := (0, [2], 3, qc_J_mostInRow)
def qc_J_isRowOfDays : List QE := [(0, none, .aload 0), (1, none, .getfield 9), (4, none, .sipush 8), (6, none, .if_icmp .le 5), (9, none, .sipush 0), (10, none, .freturn), (11, some [true, true, false, false, false], .sipush (-1)), (12, none, .istore 2), (13, none, .sipush 0), (14, none, .istore 3), (15, some [true, true, true, true, false], .iload 3), (16, none, .aload 0), (17, none, .getfield 9), (20, none, .if_icmp .ge 43), (23, none, .aload 0), (24, none, .iload 3), (25, none, .invokeinterface 140 17), (28, none, .istore 4), (30, none, .iload 4), (32, none, .iload 2), (33, none, .if_icmp .le 19), (36, none, .iload 4), (38, none, .sipush 83), (40, none, .if_icmp .gt 12), (43, none, .iload 4), (45, none, .sipush 7), (47, none, .irem), (48, none, .iload 1), (49, none, .if_icmp .eq 5), (52, some [false, false, false, false, false], .sipush 0), (53, none, .freturn), (54, some [true, true, false, true, true], .iload 4), (56, none, .istore 2), (57, none, .iinc 3 1), (60, none, .goto (-45)), (63, some [false, false, false, false, false], .sipush 1), (64, none, .freturn)]
def qp_J_isRowOfDays : QP := (0, [2, 0], 5, qc_J_isRowOfDays)
def qc_J_meantCauses : List QE := [(0, none, .lload 2), (1, none, .goto_w 0), (2, none, .lcmp), (3, none, .ifCond .ne 18), (6, none, .iload 4), (8, none, .ifCond .eq 11), (11, none, .aload 1), (12, none, .getfield 325), (15, none, .i2l), (16, none, .goto 4), (19, some [false, false, false, false, false, false, false, false, false, false, false], .goto_w 0), (20, some [false, false, false, false, false, false, false, false, false, false, false], .lreturn), (21, some [true, true, true, false, true, false, false, false, false, false, false], .goto_w 0), (22, none, .lstore 5), (24, none, .sipush 0), (25, none, .istore 7), (27, some [true, true, true, false, true, true, false, true, false, false, false], .iload 7), (29, none, .sipush 12), (31, none, .if_icmp .ge 77), (34, none, .sipush 1), (35, none, .iload 7), (37, none, .ishl), (38, none, .istore 8), (40, none, .aload 1), (41, none, .getfield 325), (44, none, .iload 8), (46, none, .iand), (47, none, .ifCond .ne 6), (50, none, .goto 52), (53, some [true, true, true, false, true, true, false, true, true, false, false], .aload 1), (54, none, .aload 1), (55, none, .getfield 325), (58, none, .iload 8), (60, none, .sipush (-1)), (61, none, .ixor), (62, none, .iand), (63, none, .aload 0), (64, none, .getfield 15), (67, none, .invokeinterface 50 26), (70, none, .lstore 9), (72, none, .iload 4), (74, none, .ifCond .eq 13), (77, none, .lload 9), (79, none, .goto_w 0), (80, none, .lcmp), (81, none, .ifCond .ne 21), (84, none, .goto 10), (87, some [true, true, true, false, true, true, false, true, true, true, false], .lload 9), (89, none, .lload 2), (90, none, .lcmp), (91, none, .ifCond .eq 11), (94, some [true, true, true, false, true, true, false, true, true, false, false], .lload 5), (96, none, .iload 8), (98, none, .i2l), (99, none, .lor), (100, none, .lstore 5), (102, some [true, true, true, false, true, true, false, true, false, false, false], .iinc 7 1), (105, none, .goto (-78)), (108, some [false, false, false, false, false, true, false, false, false, false, false], .lload 5), (110, none, .lreturn)]
def qp_J_meantCauses : QP := (0, [2, 7, 1, 0], 11, qc_J_meantCauses)
def qc_J_isRowByLaw : List QE := [(0, none, .sipush 0), (1, none, .istore 3), (2, some [true, true, true, true, false], .iload 3), (3, none, .aload 0), (4, none, .getfield 9), (7, none, .if_icmp .ge 37), (10, none, .aload 0), (11, none, .iload 3), (12, none, .invokeinterface 140 17), (15, none, .iload 2), (16, none, .isub), (17, none, .istore 4), (19, none, .iload 1), (20, none, .sipush 1), (21, none, .if_icmp .lt 15), (24, none, .iload 4), (26, none, .ifCond .lt 10), (29, none, .iload 4), (31, none, .iload 1), (32, none, .irem), (33, none, .ifCond .eq 5), (36, some [false, false, false, false, false], .sipush 0), (37, none, .freturn), (38, some [true, true, true, true, false], .iinc 3 1), (41, none, .goto (-39)), (44, some [false, false, false, false, false], .sipush 1), (45, none, .freturn)]
def qp_J_isRowByLaw : QP := (0, [2, 0, 0], 5, qc_J_isRowByLaw)
def qc_J_couplesOn : List QE := [(0, none, .sipush 0), (1, none, .istore 2), (2, none, .sipush 0), (3, none, .istore 3), (4, some [true, true, true, true], .iload 3), (5, none, .aload 0), (6, none, .getfield 9), (9, none, .if_icmp .ge 21), (12, none, .aload 0), (13, none, .iload 3), (14, none, .invokeinterface 140 17), (17, none, .iload 1), (18, none, .if_icmp .ne 6), (21, none, .iinc 2 1), (24, some [true, true, true, true], .iinc 3 1), (27, none, .goto (-23)), (30, some [false, false, true, false], .iload 2), (31, none, .ireturn)]
def qp_J_couplesOn : QP := (0, [2, 0], 4, qc_J_couplesOn)
def qc_J_fewestFriends : List QE := [(0, none, .aload 0), (1, none, .getfield 9), (4, none, .sipush 2), (5, none, .iadd), (6, none, .sipush 3), (7, none, .idiv), (8, none, .istore 1), (9, none, .sipush 0), (10, none, .istore 2), (11, some [true, true, true], .iload 2), (12, none, .sipush 7), (14, none, .if_icmp .ge 30), (17, none, .iload 1), (18, none, .aload 0), (19, none, .iload 2), (20, none, .invokeinterface 145 17), (23, none, .aload 0), (24, none, .iload 2), (25, none, .sipush 1), (26, none, .iadd), (27, none, .sipush 7), (29, none, .irem), (30, none, .invokeinterface 145 17), (33, none, .iadd), (34, none, .fadd), (37, none, .istore 1), (38, none, .iinc 2 1), (41, none, .goto (-30)), (44, some [false, true, false], .iload 1), (45, none, .ireturn)]
def qp_J_fewestFriends : QP := (0, [2], 3, qc_J_fewestFriends)
def qc_J_busiestWeekday : List QE := [(0, none, .sipush (-9)), (2, none, .istore 1), (3, none, .sipush 0), (4, none, .istore 2), (5, none, .sipush 0), (6, none, .istore 3), (7, some [true, true, true, true, false], .iload 3), (8, none, .sipush 7), (10, none, .if_icmp .ge 27), (13, none, .aload 0), (14, none, .iload 3), (15, none, .invokeinterface 145 17), (18, none, .istore 4), (20, none, .iload 4), (22, none, .iload 2), (23, none, .if_icmp .le 8), (26, none, .iload 4), (28, none, .istore 2), (29, none, .iload 3), (30, none, .istore 1), (31, some [true, true, true, true, false], .iinc 3 1), (34, none, .goto (-27)), (37, some [false, true, false, false, false], .iload 1), (38, none, .ireturn)]
def qp_J_busiestWeekday : QP := (0, [2], 5, qc_J_busiestWeekday)
def qc_J_firstMistold : List QE := [(0, none, .aload 0), (1, none, .getfield 1), (4, none, .aload 0), (5, none, .getfield 0), (8, none, .invokeinterface 9 16), (11, none, .sipush 0), (12, none, .istore 2), (13, some [true, true, true, false], .iload 2), (14, none, .aload 0), (15, none, .getfield 9), (18, none, .if_icmp .ge 63), (21, none, .aload 0), (22, none, .getfield 0), (25, none, .getfield 128), (28, none, .sipush 1), (29, none, .iadd), (30, none, .iload 2), (31, none, .iadd), (32, none, .istore 3), (33, none, .iload 3), (34, none, .sipush 83), (36, none, .if_icmp .le 5), (39, none, .iload 2), (40, none, .ireturn), (41, some [true, true, true, true], .aload 0), (42, none, .getfield 1), (45, none, .iload 3), (46, none, .invokeinterface 25 16), (49, none, .sipush 99), (51, none, .aload 0), (52, none, .getfield 1), (55, none, .iload 1), (56, none, .invokeinterface 10 211), (59, none, .getfield 193), (62, none, .fsub), (65, none, .aload 0), (66, none, .iload 2), (67, none, .invokeinterface 140 17), (70, none, .if_icmp .eq 5), (73, none, .iload 2), (74, none, .ireturn), (75, some [true, true, true, false], .iinc 2 1), (78, none, .goto (-65)), (81, some [false, false, false, false], .sipush (-9)), (83, none, .ireturn)]
def qp_J_firstMistold : QP := (0, [2, 0], 4, qc_J_firstMistold)
def qc_J_weekdaysIn : List QE := [(0, none, .sipush 0), (1, none, .istore 3), (2, none, .sipush 0), (3, none, .istore 4), (5, some [true, true, true, true, true], .iload 4), (7, none, .iload 1), (8, none, .if_icmp .ge 23), (11, none, .iload 0), (12, none, .iload 4), (14, none, .iadd), (15, none, .sipush 7), (17, none, .irem), (18, none, .iload 2), (19, none, .if_icmp .ne 6), (22, none, .iinc 3 1), (25, some [true, true, true, true, true], .iinc 4 1), (28, none, .goto (-23)), (31, some [false, false, false, true, false], .iload 3), (32, none, .ireturn)]
def qp_J_weekdaysIn : QP := (0, [0, 0, 0], 5, qc_J_weekdaysIn)
def qc_J_power : List QE := [(0, none, .goto_w 1), (1, none, .lstore 2), (2, none, .sipush 0), (3, none, .istore 4), (5, some [true, true, true, false, true], .iload 4), (7, none, .iload 1), (8, none, .if_icmp .ge 14), (11, none, .lload 2), (12, none, .iload 0), (13, none, .i2l), (14, none, .lmul), (15, none, .lstore 2), (16, none, .iinc 4 1), (19, none, .goto (-14)), (22, some [false, false, true, false, false], .lload 2), (23, none, .lreturn)]
def qp_J_power : QP := (0, [0, 0], 5, qc_J_power)
def qc_J_paidOf : List QE := [(0, none, .iload 0), (1, none, .iload 1), (2, none, .sipush 999), (5, none, .iload 2), (6, none, .isub), (7, none, .fsub), (10, none, .fsub), (13, none, .ireturn)]
def qp_J_paidOf : QP := (0, [0, 0, 0], 3, qc_J_paidOf)
def qc_M_no : List QE := [(0, none, .aload 0), (1, none, .getfield 1536), (4, none, .iload 1), (5, none, .ineg), (6, none, .dup2), (7, none, .iaload), (8, none, .sipush 1), (9, none, .iadd), (10, none, .iastore), (11, none, .iload 1), (12, none, .ireturn)]
def qp_M_no : QP := (7, [26, 0], 2, qc_M_no)
def qc_M_lower : List QE := [(0, none, .aload 0), (1, none, .getfield 1536), (4, none, .iload 1), (5, none, .ineg), (6, none, .dup2), (7, none, .iaload), (8, none, .sipush 1), (9, none, .iadd), (10, none, .iastore), (11, none, .sipush 1000000000), (13, none, .iload 1), (14, none, .isub), (15, none, .ireturn)]
def qp_M_lower : QP := (7, [26, 0], 2, qc_M_lower)
def qc_M_lowest : List QE := [(0, none, .aload 0), (1, none, .getfield 1536), (4, none, .iload 1), (5, none, .ineg), (6, none, .dup2), (7, none, .iaload), (8, none, .sipush 1), (9, none, .iadd), (10, none, .iastore), (11, none, .goto_w 4000000000000000000), (14, none, .iload 1), (15, none, .i2l), (16, none, .lsub), (17, none, .lreturn)]
def qp_M_lowest : QP := (7, [26, 0], 2, qc_M_lowest)
def qc_M_isIn : List QE := [(0, none, .iload 0), (1, none, .iload 1), (2, none, .if_icmp .lt 12), (5, none, .iload 0), (6, none, .iload 2), (7, none, .if_icmp .gt 7), (10, none, .sipush 1), (11, none, .goto 4), (14, some [false, false, false], .sipush 0), (15, some [false, false, false], .freturn)]
def qp_M_isIn : QP := (7, [0, 0, 0], 3, qc_M_isIn)
def qc_M_bound : List QE := [(0, none, .iload 0), (1, none, .iload 1), (2, none, .if_icmp .ge 8), (5, none, .sipush (-4)), (7, none, .goto 14), (10, some [true, false, true], .iload 0), (11, none, .iload 2), (12, none, .if_icmp .le 8), (15, none, .sipush (-6)), (17, none, .goto 4), (20, some [false, false, false], .sipush 0), (21, some [false, false, false], .ireturn)]
def qp_M_bound : QP := (7, [0, 0, 0], 3, qc_M_bound)
def qc_M_has : List QE := [(0, none, .iload 0), (1, none, .iload 1), (2, none, .ishr), (3, none, .sipush 1), (4, none, .iand), (5, none, .sipush 1), (6, none, .if_icmp .ne 7), (9, none, .sipush 1), (10, none, .goto 4), (13, some [false, false], .sipush 0), (14, some [false, false], .freturn)]
def qp_M_has : QP := (7, [0, 0], 2, qc_M_has)
def qc_M_bits : List QE := [(0, none, .sipush 0), (1, none, .istore 1), (2, none, .sipush 0), (3, none, .istore 2), (4, some [true, true, true], .iload 2), (5, none, .sipush 31), (7, none, .if_icmp .ge 17), (10, none, .iload 1), (11, none, .iload 0), (12, none, .iload 2), (13, none, .ishr), (14, none, .sipush 1), (15, none, .iand), (16, none, .iadd), (17, none, .istore 1), (18, none, .iinc 2 1), (21, none, .goto (-17)), (24, some [false, true, false], .iload 1), (25, none, .ireturn)]
def qp_M_bits : QP := (7, [0], 3, qc_M_bits)
def qc_M_isOne : List QE := [(0, none, .iload 0), (1, none, .ifCond .eq 8), (4, none, .iload 0), (5, none, .sipush 1), (6, none, .if_icmp .ne 7), (9, some [false], .sipush 1), (10, none, .goto 4), (13, some [false], .sipush 0), (14, some [false], .freturn)]
def qp_M_isOne : QP := (7, [0], 1, qc_M_isOne)
def qc_M_isCause : List QE := [(0, none, .iload 1), (1, none, .ifCond .lt 15), (4, none, .iload 1), (5, none, .aload 0), (6, none, .getfield 1547), (9, none, .if_icmp .ge 7), (12, none, .sipush 1), (13, none, .goto 4), (16, some [false, false], .sipush 0), (17, some [false, false], .freturn)]
def qp_M_isCause : QP := (7, [26, 0], 2, qc_M_isCause)
def qc_M_feed : List QE := [(0, none, .iload 1), (1, none, .sipush 0), (2, none, .sipush 255), (5, none, .invokeinterface 156 25), (8, none, .istore 2), (9, none, .iload 2), (10, none, .ifCond .ne 15), (13, none, .aload 0), (14, none, .getfield 1553), (17, none, .sipush 96), (19, none, .if_icmp .ne 6), (22, none, .sipush (-6)), (24, none, .istore 2), (25, some [true, true, true], .iload 2), (26, none, .ifCond .eq 9), (29, none, .aload 0), (30, none, .iload 2), (31, none, .invokeinterface 152 17), (34, none, .ireturn), (35, some [true, true, false], .aload 0), (36, none, .getfield 1549), (39, none, .aload 0), (40, none, .getfield 1553), (43, none, .iload 1), (44, none, .iastore), (45, none, .aload 0), (46, none, .dup), (47, none, .getfield 1553), (50, none, .sipush 1), (51, none, .iadd), (52, none, .putfield 1553), (55, none, .aload 0), (56, none, .getfield 1553), (59, none, .ireturn)]
def qp_M_feed : QP := (7, [26, 0], 3, qc_M_feed)
def qc_M_next : List QE := [(0, none, .aload 0), (1, none, .getfield 1554), (4, none, .aload 0), (5, none, .getfield 1553), (8, none, .if_icmp .ge 15), (11, none, .aload 0), (12, none, .getfield 1549), (15, none, .aload 0), (16, none, .getfield 1554), (19, none, .iaload), (20, none, .goto 4), (23, some [false], .sipush (-1)), (24, some [false], .ireturn)]
def qp_M_next : QP := (7, [26], 1, qc_M_next)
def qc_M_readsDigits : List QE := [(0, none, .sipush 0), (1, none, .istore 3), (2, none, .sipush 0), (3, none, .istore 4), (5, some [true, true, true, true, true], .iload 4), (7, none, .iload 2), (8, none, .if_icmp .ge 48), (11, none, .aload 0), (12, none, .invokeinterface 162 9), (15, none, .sipush 48), (17, none, .sipush 57), (19, none, .invokeinterface 155 25), (22, none, .ifCond .ne 5), (25, none, .sipush 0), (26, none, .freturn), (27, some [true, true, true, true, true], .sipush 10), (29, none, .iload 3), (30, none, .imul), (31, none, .aload 0), (32, none, .invokeinterface 162 9), (35, none, .iadd), (36, none, .sipush 48), (38, none, .isub), (39, none, .istore 3), (40, none, .aload 0), (41, none, .dup), (42, none, .getfield 1554), (45, none, .sipush 1), (46, none, .iadd), (47, none, .putfield 1554), (50, none, .iinc 4 1), (53, none, .goto (-48)), (56, some [true, true, false, true, false], .aload 0), (57, none, .getfield 1552), (60, none, .iload 1), (61, none, .iload 3), (62, none, .iastore), (63, none, .sipush 1), (64, none, .freturn)]
def qp_M_readsDigits : QP := (7, [26, 0, 0], 5, qc_M_readsDigits)
def qc_M_readsAll : List QE := [(0, none, .iload 1), (1, none, .lookupswitch 150 #[(99, 95), (112, 69), (117, 143), (119, 43)]), (44, some [true, false, true], .aload 0), (45, none, .iload 2), (46, none, .sipush 1), (47, none, .invokeinterface 163 25), (50, none, .ifCond .eq 18), (53, none, .aload 0), (54, none, .iload 2), (55, none, .sipush 1), (56, none, .iadd), (57, none, .sipush 1), (58, none, .invokeinterface 163 25), (61, none, .ifCond .eq 7), (64, none, .sipush 1), (65, none, .goto 4), (68, some [false, false, false], .sipush 0), (69, some [false, false, false], .freturn), (70, some [true, false, true], .aload 0), (71, none, .iload 2), (72, none, .sipush 1), (73, none, .invokeinterface 163 25), (76, none, .ifCond .eq 18), (79, none, .aload 0), (80, none, .iload 2), (81, none, .sipush 1), (82, none, .iadd), (83, none, .sipush 3), (84, none, .invokeinterface 163 25), (87, none, .ifCond .eq 7), (90, none, .sipush 1), (91, none, .goto 4), (94, some [false, false, false], .sipush 0), (95, some [false, false, false], .freturn), (96, some [true, false, true], .aload 0), (97, none, .iload 2), (98, none, .sipush 1), (99, none, .invokeinterface 163 25), (102, none, .ifCond .eq 40), (105, none, .aload 0), (106, none, .iload 2), (107, none, .sipush 1), (108, none, .iadd), (109, none, .sipush 1), (110, none, .invokeinterface 163 25), (113, none, .ifCond .eq 29), (116, none, .aload 0), (117, none, .iload 2), (118, none, .sipush 2), (119, none, .iadd), (120, none, .sipush 1), (121, none, .invokeinterface 163 25), (124, none, .ifCond .eq 18), (127, none, .aload 0), (128, none, .iload 2), (129, none, .sipush 3), (130, none, .iadd), (131, none, .sipush 2), (132, none, .invokeinterface 163 25), (135, none, .ifCond .eq 7), (138, none, .sipush 1), (139, none, .goto 4), (142, some [false, false, false], .sipush 0), (143, some [false, false, false], .freturn), (144, some [true, false, true], .aload 0), (145, none, .iload 2), (146, none, .sipush 2), (147, none, .invokeinterface 163 25), (150, none, .freturn), (151, some [true, false, true], .aload 0), (152, none, .iload 2), (153, none, .sipush 1), (154, none, .invokeinterface 163 25), (157, none, .freturn)]
def qp_M_readsAll : QP := (7, [26, 0, 0], 3, qc_M_readsAll)
def qc_M_statement : List QE := [(0, none, .aload 0), (1, none, .invokeinterface 162 9), (4, none, .istore 1), (5, none, .iload 1), (6, none, .sipush 119), (8, none, .if_icmp .eq 29), (11, none, .iload 1), (12, none, .sipush 112), (14, none, .if_icmp .eq 23), (17, none, .iload 1), (18, none, .sipush 99), (20, none, .if_icmp .eq 17), (23, none, .iload 1), (24, none, .sipush 117), (26, none, .if_icmp .eq 11), (29, none, .iload 1), (30, none, .sipush 100), (32, none, .if_icmp .eq 5), (35, none, .sipush 0), (36, none, .freturn), (37, some [true, true], .aload 0), (38, none, .getfield 1550), (41, none, .aload 0), (42, none, .getfield 1555), (45, none, .iload 1), (46, none, .iastore), (47, none, .aload 0), (48, none, .getfield 1551), (51, none, .aload 0), (52, none, .getfield 1555), (55, none, .aload 0), (56, none, .getfield 1554), (59, none, .iastore), (60, none, .aload 0), (61, none, .dup), (62, none, .getfield 1554), (65, none, .sipush 1), (66, none, .iadd), (67, none, .putfield 1554), (70, none, .aload 0), (71, none, .iload 1), (72, none, .sipush 4), (73, none, .aload 0), (74, none, .getfield 1555), (77, none, .imul), (78, none, .invokeinterface 164 25), (81, none, .ifCond .eq 12), (84, none, .aload 0), (85, none, .invokeinterface 162 9), (88, none, .sipush 59), (90, none, .if_icmp .eq 5), (93, some [false, false], .sipush 0), (94, none, .freturn), (95, some [true, false], .aload 0), (96, none, .dup), (97, none, .getfield 1554), (100, none, .sipush 1), (101, none, .iadd), (102, none, .putfield 1554), (105, none, .sipush 1), (106, none, .freturn)]
def qp_M_statement : QP := (7, [26], 2, qc_M_statement)
def qc_M_comes : List QE := [(0, none, .sipush 4), (1, none, .iload 1), (2, none, .imul), (3, none, .istore 2), (4, none, .aload 0), (5, none, .getfield 1552), (8, none, .iload 2), (9, none, .iaload), (10, none, .istore 3), (11, none, .aload 0), (12, none, .getfield 1550), (15, none, .iload 1), (16, none, .iaload), (17, none, .lookupswitch 206 #[(99, 106), (112, 81), (117, 180), (119, 43)]), (60, some [true, false, true, true, false], .iload 3), (61, none, .invokeinterface 159 9), (64, none, .ifCond .eq 16), (67, none, .aload 0), (68, none, .getfield 1552), (71, none, .iload 2), (72, none, .sipush 1), (73, none, .iadd), (74, none, .iaload), (75, none, .sipush 6), (77, none, .if_icmp .le 5), (80, some [false, false, false, false, false], .sipush 0), (81, none, .freturn), (82, some [true, false, true, true, false], .aload 0), (83, none, .getfield 1537), (86, none, .iload 3), (87, none, .aload 0), (88, none, .getfield 1552), (91, none, .iload 2), (92, none, .sipush 1), (93, none, .iadd), (94, none, .iaload), (95, none, .iastore), (96, none, .sipush 1), (97, none, .freturn), (98, some [true, false, true, true, false], .iload 3), (99, none, .invokeinterface 159 9), (102, none, .ifCond .ne 5), (105, none, .sipush 0), (106, none, .freturn), (107, some [true, false, true, true, false], .aload 0), (108, none, .getfield 1538), (111, none, .iload 3), (112, none, .aload 0), (113, none, .getfield 1552), (116, none, .iload 2), (117, none, .sipush 1), (118, none, .iadd), (119, none, .iaload), (120, none, .iastore), (121, none, .sipush 1), (122, none, .freturn), (123, some [true, false, true, true, false], .iload 3), (124, none, .sipush 5), (125, none, .if_icmp .gt 39), (128, none, .aload 0), (129, none, .getfield 1552), (132, none, .iload 2), (133, none, .sipush 2), (134, none, .iadd), (135, none, .iaload), (136, none, .invokeinterface 159 9), (139, none, .ifCond .eq 25), (142, none, .aload 0), (143, none, .getfield 1552), (146, none, .iload 2), (147, none, .sipush 3), (148, none, .iadd), (149, none, .iaload), (150, none, .sipush 83), (152, none, .if_icmp .gt 12), (155, none, .aload 0), (156, none, .getfield 1547), (159, none, .sipush 12), (161, none, .if_icmp .ne 5), (164, some [false, false, false, false, false], .sipush 0), (165, none, .freturn), (166, some [true, false, true, true, false], .aload 0), (167, none, .iload 3), (168, none, .aload 0), (169, none, .getfield 1552), (172, none, .iload 2), (173, none, .sipush 1), (174, none, .iadd), (175, none, .iaload), (176, none, .aload 0), (177, none, .getfield 1552), (180, none, .iload 2), (181, none, .sipush 2), (182, none, .iadd), (183, none, .iaload), (184, none, .aload 0), (185, none, .getfield 1552), (188, none, .iload 2), (189, none, .sipush 3), (190, none, .iadd), (191, none, .iaload), (192, none, .invokeinterface 180 40), (195, none, .sipush 1), (196, none, .freturn), (197, some [true, false, false, true, false], .aload 0), (198, none, .iload 3), (199, none, .invokeinterface 160 17), (202, none, .ifCond .eq 11), (205, none, .aload 0), (206, none, .iload 3), (207, none, .invokeinterface 181 17), (210, none, .ifCond .ne 5), (213, some [false, false, false, false, false], .sipush 0), (214, none, .freturn), (215, some [true, false, false, true, false], .aload 0), (216, none, .iload 3), (217, none, .invokeinterface 183 17), (220, none, .pop), (221, none, .sipush 1), (222, none, .freturn), (223, some [true, false, false, true, false], .aload 0), (224, none, .getfield 1548), (227, none, .iload 3), (228, none, .iadd), (229, none, .sipush 83), (231, none, .if_icmp .le 5), (234, none, .sipush 0), (235, none, .freturn), (236, some [true, false, false, true, false], .sipush 0), (237, none, .istore 4), (239, some [true, false, false, true, true], .iload 4), (241, none, .iload 3), (242, none, .if_icmp .ge 13), (245, none, .aload 0), (246, none, .invokeinterface 184 8), (249, none, .iinc 4 1), (252, none, .goto (-13)), (255, some [false, false, false, false, false], .sipush 1), (256, none, .freturn)]
def qp_M_comes : QP := (7, [26, 0], 5, qc_M_comes)
def qc_M_marriage : List QE := [(0, none, .aload 0), (1, none, .sipush 0), (2, none, .putfield 1554), (5, none, .aload 0), (6, none, .sipush 0), (7, none, .putfield 1555), (10, none, .sipush 1), (11, none, .istore 1), (12, some [true, true, false], .iload 1), (13, none, .ifCond .eq 47), (16, none, .aload 0), (17, none, .getfield 1554), (20, none, .aload 0), (21, none, .getfield 1553), (24, none, .if_icmp .lt 10), (27, none, .aload 0), (28, none, .getfield 1555), (31, none, .ifCond .ne 29), (34, some [true, false, false], .aload 0), (35, none, .invokeinterface 165 9), (38, none, .istore 1), (39, none, .aload 0), (40, none, .dup), (41, none, .getfield 1555), (44, none, .iload 1), (45, none, .ifCond .eq 7), (48, none, .sipush 1), (49, none, .goto 4), (52, some [true, true, false], .sipush 0), (53, some [true, true, false], .iadd), (54, none, .putfield 1555), (57, none, .goto (-45)), (60, some [true, true, false], .aload 0), (61, none, .sipush 0), (62, none, .putfield 1553), (65, none, .iload 1), (66, none, .ifCond .ne 12), (69, none, .sipush (-1000)), (72, none, .aload 0), (73, none, .getfield 1554), (76, none, .isub), (77, none, .ireturn), (78, some [true, false, false], .aload 0), (79, none, .sipush 1), (80, none, .sipush 1), (81, none, .invokeinterface 170 24), (84, none, .sipush 0), (85, none, .istore 2), (86, some [true, false, true], .iload 2), (87, none, .aload 0), (88, none, .getfield 1555), (91, none, .if_icmp .ge 37), (94, none, .aload 0), (95, none, .iload 2), (96, none, .invokeinterface 166 17), (99, none, .ifCond .eq 6), (102, none, .goto 20), (105, some [true, false, true], .aload 0), (106, none, .sipush 1), (107, none, .sipush 0), (108, none, .invokeinterface 170 24), (111, none, .sipush (-2000)), (114, none, .aload 0), (115, none, .getfield 1551), (118, none, .iload 2), (119, none, .iaload), (120, none, .isub), (121, none, .ireturn), (122, some [true, false, true], .iinc 2 1), (125, none, .goto (-39)), (128, some [true, false, false], .aload 0), (129, none, .sipush 0), (130, none, .putfield 1560), (133, none, .aload 0), (134, none, .getfield 1555), (137, none, .ireturn)]
def qp_M_marriage : QP := (7, [26], 3, qc_M_marriage)
def qc_M_passes : List QE := [(0, none, .sipush 0), (1, none, .istore 2), (2, some [true, true, true], .iload 2), (3, none, .aload 1), (4, none, .arraylength), (5, none, .if_icmp .ge 53), (8, none, .aload 0), (9, none, .getfield 1558), (12, none, .ifCond .eq 18), (15, none, .aload 0), (16, none, .getfield 1556), (19, none, .aload 0), (20, none, .getfield 1559), (23, none, .aload 1), (24, none, .iload 2), (25, none, .iaload), (26, none, .iastore), (27, none, .goto 15), (30, some [true, true, true], .aload 1), (31, none, .iload 2), (32, none, .aload 0), (33, none, .getfield 1556), (36, none, .aload 0), (37, none, .getfield 1559), (40, none, .iaload), (41, none, .iastore), (42, some [true, true, true], .aload 0), (43, none, .dup), (44, none, .getfield 1559), (47, none, .sipush 1), (48, none, .iadd), (49, none, .putfield 1559), (52, none, .iinc 2 1), (55, none, .goto (-53)), (58, some [false, false, false], .return_)]
def qp_M_passes : QP := (7, [26, 1000], 3, qc_M_passes)
def qc_M_passOne : List QE := [(0, none, .aload 0), (1, none, .getfield 1558), (4, none, .ifCond .eq 7), (7, none, .iload 1), (8, none, .goto 12), (11, some [true, true, false], .aload 0), (12, none, .getfield 1556), (15, none, .aload 0), (16, none, .getfield 1559), (19, none, .iaload), (20, some [true, true, false], .istore 2), (21, none, .aload 0), (22, none, .getfield 1558), (25, none, .ifCond .eq 13), (28, none, .aload 0), (29, none, .getfield 1556), (32, none, .aload 0), (33, none, .getfield 1559), (36, none, .iload 1), (37, none, .iastore), (38, some [true, false, true], .aload 0), (39, none, .dup), (40, none, .getfield 1559), (43, none, .sipush 1), (44, none, .iadd), (45, none, .putfield 1559), (48, none, .iload 2), (49, none, .ireturn)]
def qp_M_passOne : QP := (7, [26, 0], 3, qc_M_passOne)
def qc_M_passesAll : List QE := [(0, none, .aload 0), (1, none, .sipush 80), (3, none, .iload 1), (4, none, .imul), (5, none, .putfield 1559), (8, none, .aload 0), (9, none, .iload 2), (10, none, .putfield 1558), (13, none, .aload 0), (14, none, .aload 0), (15, none, .getfield 1537), (18, none, .invokeinterface 168 16), (21, none, .aload 0), (22, none, .aload 0), (23, none, .getfield 1538), (26, none, .invokeinterface 168 16), (29, none, .aload 0), (30, none, .aload 0), (31, none, .getfield 1539), (34, none, .invokeinterface 168 16), (37, none, .aload 0), (38, none, .aload 0), (39, none, .getfield 1540), (42, none, .invokeinterface 168 16), (45, none, .aload 0), (46, none, .aload 0), (47, none, .getfield 1541), (50, none, .invokeinterface 168 16), (53, none, .aload 0), (54, none, .aload 0), (55, none, .getfield 1542), (58, none, .invokeinterface 168 16), (61, none, .aload 0), (62, none, .aload 0), (63, none, .getfield 1543), (66, none, .invokeinterface 168 16), (69, none, .aload 0), (70, none, .aload 0), (71, none, .getfield 1544), (74, none, .invokeinterface 168 16), (77, none, .aload 0), (78, none, .aload 0), (79, none, .getfield 1545), (82, none, .invokeinterface 168 16), (85, none, .aload 0), (86, none, .aload 0), (87, none, .getfield 1546), (90, none, .invokeinterface 168 16), (93, none, .aload 0), (94, none, .aload 0), (95, none, .aload 0), (96, none, .getfield 1547), (99, none, .invokeinterface 169 17), (102, none, .putfield 1547), (105, none, .aload 0), (106, none, .aload 0), (107, none, .aload 0), (108, none, .getfield 1548), (111, none, .invokeinterface 169 17), (114, none, .putfield 1548), (117, none, .return_)]
def qp_M_passesAll : QP := (7, [26, 0, 0], 3, qc_M_passesAll)
def qc_M_keepsBack : List QE := [(0, none, .aload 0), (1, none, .getfield 1560), (4, none, .sipush 8), (6, none, .if_icmp .ne 45), (9, none, .sipush 160), (12, none, .istore 1), (13, some [true, true], .iload 1), (14, none, .sipush 720), (17, none, .if_icmp .ge 24), (20, none, .aload 0), (21, none, .getfield 1556), (24, none, .iload 1), (25, none, .aload 0), (26, none, .getfield 1556), (29, none, .iload 1), (30, none, .sipush 80), (32, none, .iadd), (33, none, .iaload), (34, none, .iastore), (35, none, .iinc 1 1), (38, none, .goto (-25)), (41, some [true, false], .aload 0), (42, none, .dup), (43, none, .getfield 1560), (46, none, .sipush 1), (47, none, .isub), (48, none, .putfield 1560), (51, some [true, false], .aload 0), (52, none, .sipush 2), (53, none, .aload 0), (54, none, .getfield 1560), (57, none, .iadd), (58, none, .sipush 1), (59, none, .invokeinterface 170 24), (62, none, .aload 0), (63, none, .dup), (64, none, .getfield 1560), (67, none, .sipush 1), (68, none, .iadd), (69, none, .putfield 1560), (72, none, .return_)]
def qp_M_keepsBack : QP := (7, [26], 2, qc_M_keepsBack)
def qc_M_back : List QE := [(0, none, .aload 0), (1, none, .getfield 1560), (4, none, .ifCond .ne 10), (7, none, .aload 0), (8, none, .sipush (-3)), (10, none, .invokeinterface 152 17), (13, none, .ireturn), (14, some [true], .aload 0), (15, none, .dup), (16, none, .getfield 1560), (19, none, .sipush 1), (20, none, .isub), (21, none, .putfield 1560), (24, none, .aload 0), (25, none, .sipush 2), (26, none, .aload 0), (27, none, .getfield 1560), (30, none, .iadd), (31, none, .sipush 0), (32, none, .invokeinterface 170 24), (35, none, .aload 0), (36, none, .getfield 1548), (39, none, .ireturn)]
def qp_M_back : QP := (7, [26], 1, qc_M_back)
def qc_M_image : List QE := [(0, none, .aload 0), (1, none, .sipush 1), (2, none, .putfield 1557), (5, none, .aload 0), (6, none, .sipush 0), (7, none, .sipush 1), (8, none, .invokeinterface 170 24), (11, none, .aload 0), (12, none, .getfield 1548), (15, none, .ireturn)]
def qp_M_image : QP := (7, [26], 1, qc_M_image)
def qc_M_restore : List QE := [(0, none, .aload 0), (1, none, .getfield 1557), (4, none, .ifCond .ne 10), (7, none, .aload 0), (8, none, .sipush (-3)), (10, none, .invokeinterface 152 17), (13, none, .ireturn), (14, some [true], .aload 0), (15, none, .sipush 0), (16, none, .sipush 0), (17, none, .invokeinterface 170 24), (20, none, .aload 0), (21, none, .sipush 0), (22, none, .putfield 1560), (25, none, .aload 0), (26, none, .getfield 1548), (29, none, .ireturn)]
def qp_M_restore : QP := (7, [26], 1, qc_M_restore)
def qc_M_keepsOf : List QE := [(0, none, .sipush 5), (1, none, .aload 0), (2, none, .getfield 1543), (5, none, .iload 1), (6, none, .iaload), (7, none, .iadd), (8, none, .istore 2), (9, none, .aload 0), (10, none, .getfield 1542), (13, none, .iload 1), (14, none, .iaload), (15, none, .tableswitch 56 1 5 #[33, 37, 41, 43, 49]), (48, some [false, false, true], .sipush 2), (49, none, .iload 2), (50, none, .imul), (51, none, .ireturn), (52, some [false, false, true], .iload 2), (53, none, .sipush 2), (54, none, .idiv), (55, none, .ireturn), (56, some [false, false, false], .sipush 0), (57, none, .ireturn), (58, some [false, false, true], .iload 2), (59, none, .sipush 2), (60, none, .idiv), (61, none, .sipush 1), (62, none, .isub), (63, none, .ireturn), (64, some [false, false, true], .sipush 2), (65, none, .iload 2), (66, none, .imul), (67, none, .sipush 7), (69, none, .iadd), (70, none, .ireturn), (71, some [false, false, true], .iload 2), (72, none, .ireturn)]
def qp_M_keepsOf : QP := (7, [26, 0], 3, qc_M_keepsOf)
def qc_M_weightOf : List QE := [(0, none, .aload 0), (1, none, .getfield 1543), (4, none, .iload 1), (5, none, .iaload), (6, none, .sipush 1), (7, none, .iadd), (8, none, .istore 2), (9, none, .aload 0), (10, none, .getfield 1542), (13, none, .iload 1), (14, none, .iaload), (15, none, .tableswitch 56 1 5 #[33, 37, 41, 45, 52]), (48, some [false, false, true], .iload 2), (49, none, .sipush 2), (50, none, .iadd), (51, none, .ireturn), (52, some [false, false, true], .sipush 2), (53, none, .iload 2), (54, none, .imul), (55, none, .ireturn), (56, some [false, false, true], .iload 2), (57, none, .sipush 2), (58, none, .idiv), (59, none, .ireturn), (60, some [false, false, true], .sipush 2), (61, none, .iload 2), (62, none, .imul), (63, none, .sipush 9), (65, none, .iadd), (66, none, .ireturn), (67, some [false, false, true], .iload 2), (68, none, .sipush 1), (69, none, .iadd), (70, none, .ireturn), (71, some [false, false, true], .iload 2), (72, none, .ireturn)]
def qp_M_weightOf : QP := (7, [26, 0], 3, qc_M_weightOf)
def qc_M_goodTill : List QE := [(0, none, .aload 0), (1, none, .getfield 1545), (4, none, .iload 1), (5, none, .iaload), (6, none, .aload 0), (7, none, .iload 1), (8, none, .invokeinterface 175 17), (11, none, .iadd), (12, none, .ireturn)]
def qp_M_goodTill : QP := (7, [26, 0], 2, qc_M_goodTill)
def qc_M_isGood : List QE := [(0, none, .iload 2), (1, none, .aload 0), (2, none, .getfield 1545), (5, none, .iload 1), (6, none, .iaload), (7, none, .aload 0), (8, none, .iload 1), (9, none, .invokeinterface 177 17), (12, none, .invokeinterface 155 25), (15, none, .ifCond .eq 35), (18, none, .aload 0), (19, none, .getfield 1542), (22, none, .iload 1), (23, none, .iaload), (24, none, .sipush 4), (25, none, .if_icmp .eq 21), (28, none, .iload 2), (29, none, .sipush 7), (31, none, .irem), (32, none, .aload 0), (33, none, .getfield 1537), (36, none, .aload 0), (37, none, .getfield 1544), (40, none, .iload 1), (41, none, .iaload), (42, none, .iaload), (43, none, .if_icmp .ne 7), (46, some [false, false, false], .sipush 1), (47, none, .goto 4), (50, some [false, false, false], .sipush 0), (51, some [false, false, false], .freturn)]
def qp_M_isGood : QP := (7, [26, 0, 0], 3, qc_M_isGood)
def qc_M_isSour : List QE := [(0, none, .aload 0), (1, none, .getfield 1546), (4, none, .iload 1), (5, none, .iaload), (6, none, .ifCond .ne 19), (9, none, .aload 0), (10, none, .getfield 1548), (13, none, .aload 0), (14, none, .iload 1), (15, none, .invokeinterface 177 17), (18, none, .if_icmp .le 7), (21, none, .sipush 1), (22, none, .goto 4), (25, some [false, false], .sipush 0), (26, some [false, false], .freturn)]
def qp_M_isSour : QP := (7, [26, 0], 2, qc_M_isSour)
def qc_M_adds : List QE := [(0, none, .aload 0), (1, none, .getfield 1542), (4, none, .aload 0), (5, none, .getfield 1547), (8, none, .iload 1), (9, none, .iastore), (10, none, .aload 0), (11, none, .getfield 1543), (14, none, .aload 0), (15, none, .getfield 1547), (18, none, .iload 2), (19, none, .iastore), (20, none, .aload 0), (21, none, .getfield 1544), (24, none, .aload 0), (25, none, .getfield 1547), (28, none, .iload 3), (29, none, .iastore), (30, none, .aload 0), (31, none, .getfield 1545), (34, none, .aload 0), (35, none, .getfield 1547), (38, none, .iload 4), (40, none, .iastore), (41, none, .aload 0), (42, none, .getfield 1546), (45, none, .aload 0), (46, none, .getfield 1547), (49, none, .sipush 0), (50, none, .iastore), (51, none, .aload 0), (52, none, .dup), (53, none, .getfield 1547), (56, none, .sipush 1), (57, none, .iadd), (58, none, .putfield 1547), (61, none, .return_)]
def qp_M_adds : QP := (7, [26, 0, 0, 0, 0], 5, qc_M_adds)
def qc_M_canUse : List QE := [(0, none, .aload 0), (1, none, .getfield 1541), (4, none, .aload 0), (5, none, .getfield 1544), (8, none, .iload 1), (9, none, .iaload), (10, none, .iaload), (11, none, .ifCond .ne 28), (14, none, .aload 0), (15, none, .getfield 1546), (18, none, .iload 1), (19, none, .iaload), (20, none, .ifCond .ne 19), (23, none, .aload 0), (24, none, .iload 1), (25, none, .aload 0), (26, none, .getfield 1548), (29, none, .invokeinterface 178 25), (32, none, .ifCond .eq 7), (35, none, .sipush 1), (36, none, .goto 4), (39, some [false, false], .sipush 0), (40, some [false, false], .freturn)]
def qp_M_canUse : QP := (7, [26, 0], 2, qc_M_canUse)
def qc_M_lesser : List QE := [(0, none, .iload 0), (1, none, .iload 1), (2, none, .if_icmp .ge 7), (5, none, .iload 0), (6, none, .goto 4), (9, some [false, true], .iload 1), (10, some [false, false], .ireturn)]
def qp_M_lesser : QP := (7, [0, 0], 2, qc_M_lesser)
def qc_M_uses : List QE := [(0, none, .aload 0), (1, none, .getfield 1544), (4, none, .iload 1), (5, none, .iaload), (6, none, .istore 2), (7, none, .aload 0), (8, none, .iload 1), (9, none, .invokeinterface 176 17), (12, none, .aload 0), (13, none, .getfield 1538), (16, none, .sipush 1), (17, none, .iload 2), (18, none, .isub), (19, none, .iaload), (20, none, .sipush 999), (23, none, .aload 0), (24, none, .getfield 1538), (27, none, .iload 2), (28, none, .iaload), (29, none, .isub), (30, none, .invokeinterface 182 17), (33, none, .invokeinterface 182 17), (36, none, .istore 3), (37, none, .aload 0), (38, none, .getfield 1538), (41, none, .sipush 1), (42, none, .iload 2), (43, none, .isub), (44, none, .dup2), (45, none, .iaload), (46, none, .iload 3), (47, none, .isub), (48, none, .iastore), (49, none, .aload 0), (50, none, .getfield 1538), (53, none, .iload 2), (54, none, .dup2), (55, none, .iaload), (56, none, .iload 3), (57, none, .iadd), (58, none, .iastore), (59, none, .aload 0), (60, none, .getfield 1540), (63, none, .sipush 1), (64, none, .iload 2), (65, none, .isub), (66, none, .dup2), (67, none, .iaload), (68, none, .aload 0), (69, none, .iload 1), (70, none, .invokeinterface 176 17), (73, none, .iload 3), (74, none, .isub), (75, none, .iadd), (76, none, .iastore), (77, none, .aload 0), (78, none, .getfield 1546), (81, none, .iload 1), (82, none, .sipush 1), (83, none, .iastore), (84, none, .aload 0), (85, none, .getfield 1541), (88, none, .iload 2), (89, none, .sipush 1), (90, none, .iastore), (91, none, .iload 3), (92, none, .ireturn)]
def qp_M_uses : QP := (7, [26, 0], 4, qc_M_uses)
def qc_M_ends : List QE := [(0, none, .sipush 0), (1, none, .istore 1), (2, some [true, true], .iload 1), (3, none, .sipush 2), (4, none, .if_icmp .ge 70), (7, none, .aload 0), (8, none, .getfield 1537), (11, none, .iload 1), (12, none, .iaload), (13, none, .aload 0), (14, none, .getfield 1548), (17, none, .sipush 7), (19, none, .irem), (20, none, .if_icmp .ne 41), (23, none, .aload 0), (24, none, .getfield 1541), (27, none, .iload 1), (28, none, .iaload), (29, none, .ifCond .ne 32), (32, none, .aload 0), (33, none, .getfield 1538), (36, none, .iload 1), (37, none, .dup2), (38, none, .iaload), (39, none, .sipush 3), (40, none, .aload 0), (41, none, .getfield 1538), (44, none, .iload 1), (45, none, .iaload), (46, none, .invokeinterface 182 17), (49, none, .isub), (50, none, .iastore), (51, none, .aload 0), (52, none, .getfield 1539), (55, none, .iload 1), (56, none, .dup2), (57, none, .iaload), (58, none, .sipush 1), (59, none, .iadd), (60, none, .iastore), (61, some [true, true], .aload 0), (62, none, .getfield 1541), (65, none, .iload 1), (66, none, .sipush 0), (67, none, .iastore), (68, none, .iinc 1 1), (71, none, .goto (-69)), (74, some [true, false], .aload 0), (75, none, .dup), (76, none, .getfield 1548), (79, none, .sipush 1), (80, none, .iadd), (81, none, .putfield 1548), (84, none, .return_)]
def qp_M_ends : QP := (7, [26], 2, qc_M_ends)
def qc_M_one : List QE := [(0, none, .iload 1), (1, none, .invokeinterface 159 9), (4, none, .ifCond .ne 9), (7, none, .aload 0), (8, none, .sipush (-1)), (9, none, .invokeinterface 152 17), (12, none, .ireturn), (13, some [true, true, true], .iload 2), (14, none, .tableswitch 69 0 4 #[34, 41, 48, 55, 62]), (48, some [true, true, false], .aload 0), (49, none, .getfield 1537), (52, none, .iload 1), (53, none, .iaload), (54, none, .ireturn), (55, some [true, true, false], .aload 0), (56, none, .getfield 1538), (59, none, .iload 1), (60, none, .iaload), (61, none, .ireturn), (62, some [true, true, false], .aload 0), (63, none, .getfield 1539), (66, none, .iload 1), (67, none, .iaload), (68, none, .ireturn), (69, some [true, true, false], .aload 0), (70, none, .getfield 1540), (73, none, .iload 1), (74, none, .iaload), (75, none, .ireturn), (76, some [true, true, false], .aload 0), (77, none, .getfield 1541), (80, none, .iload 1), (81, none, .iaload), (82, none, .ireturn), (83, some [true, false, false], .aload 0), (84, none, .sipush (-2)), (86, none, .invokeinterface 152 17), (89, none, .ireturn)]
def qp_M_one : QP := (7, [26, 0, 0], 3, qc_M_one)
def qc_M_cause : List QE := [(0, none, .aload 0), (1, none, .iload 1), (2, none, .invokeinterface 160 17), (5, none, .ifCond .ne 9), (8, none, .aload 0), (9, none, .sipush (-1)), (10, none, .invokeinterface 152 17), (13, none, .ireturn), (14, some [true, true, true], .iload 2), (15, none, .tableswitch 128 0 8 #[49, 56, 63, 70, 77, 84, 90, 96, 110]), (64, some [true, true, false], .aload 0), (65, none, .getfield 1542), (68, none, .iload 1), (69, none, .iaload), (70, none, .ireturn), (71, some [true, true, false], .aload 0), (72, none, .getfield 1543), (75, none, .iload 1), (76, none, .iaload), (77, none, .ireturn), (78, some [true, true, false], .aload 0), (79, none, .getfield 1544), (82, none, .iload 1), (83, none, .iaload), (84, none, .ireturn), (85, some [true, true, false], .aload 0), (86, none, .getfield 1545), (89, none, .iload 1), (90, none, .iaload), (91, none, .ireturn), (92, some [true, true, false], .aload 0), (93, none, .getfield 1546), (96, none, .iload 1), (97, none, .iaload), (98, none, .ireturn), (99, some [true, true, false], .aload 0), (100, none, .iload 1), (101, none, .invokeinterface 175 17), (104, none, .ireturn), (105, some [true, true, false], .aload 0), (106, none, .iload 1), (107, none, .invokeinterface 176 17), (110, none, .ireturn), (111, some [true, true, false], .aload 0), (112, none, .iload 1), (113, none, .invokeinterface 179 17), (116, none, .ifCond .eq 7), (119, none, .sipush 1), (120, none, .goto 4), (123, some [false, false, false], .sipush 0), (124, some [false, false, false], .ireturn), (125, some [true, true, false], .aload 0), (126, none, .iload 1), (127, none, .aload 0), (128, none, .getfield 1548), (131, none, .invokeinterface 178 25), (134, none, .ifCond .eq 7), (137, none, .sipush 1), (138, none, .goto 4), (141, some [false, false, false], .sipush 0), (142, some [false, false, false], .ireturn), (143, some [true, false, false], .aload 0), (144, none, .sipush (-2)), (146, none, .invokeinterface 152 17), (149, none, .ireturn)]
def qp_M_cause : QP := (7, [26, 0, 0], 3, qc_M_cause)
def qc_M_set : List QE := [(0, none, .iload 1), (1, none, .invokeinterface 159 9), (4, none, .ifCond .ne 7), (7, none, .sipush (-1)), (8, none, .goto 34), (11, some [true, true, true, true, false, false], .iload 2), (12, none, .sipush 0), (13, none, .sipush 1), (14, none, .invokeinterface 155 25), (17, none, .ifCond .ne 8), (20, none, .sipush (-2)), (22, none, .goto 20), (25, some [true, true, true, true, false, false], .iload 3), (26, none, .sipush 0), (27, none, .iload 2), (28, none, .ifCond .ne 8), (31, none, .sipush 6), (33, none, .goto 6), (36, some [true, true, true, true, false, false], .sipush 999), (39, some [true, true, true, true, false, false], .invokeinterface 156 25), (42, some [true, true, true, true, false, false], .istore 4), (44, none, .iload 4), (46, none, .ifCond .eq 10), (49, none, .aload 0), (50, none, .iload 4), (52, none, .invokeinterface 152 17), (55, none, .ireturn), (56, some [true, true, true, true, false, false], .aload 0), (57, none, .sipush 0), (58, none, .putfield 1560), (61, none, .iload 2), (62, none, .ifCond .ne 12), (65, none, .aload 0), (66, none, .getfield 1537), (69, none, .iload 1), (70, none, .iaload), (71, none, .goto 9), (74, some [true, true, true, true, false, false], .aload 0), (75, none, .getfield 1538), (78, none, .iload 1), (79, none, .iaload), (80, some [true, true, true, true, false, false], .istore 5), (82, none, .iload 2), (83, none, .ifCond .ne 13), (86, none, .aload 0), (87, none, .getfield 1537), (90, none, .iload 1), (91, none, .iload 3), (92, none, .iastore), (93, none, .goto 10), (96, some [true, true, false, true, false, true], .aload 0), (97, none, .getfield 1538), (100, none, .iload 1), (101, none, .iload 3), (102, none, .iastore), (103, some [false, false, false, false, false, true], .iload 5), (105, none, .ireturn)]
def qp_M_set : QP := (7, [26, 0, 0, 0], 6, qc_M_set)
def qc_M_add : List QE := [(0, none, .iload 3), (1, none, .invokeinterface 159 9), (4, none, .ifCond .ne 7), (7, none, .sipush (-1)), (8, none, .goto 59), (11, some [true, true, true, true, true, false], .iload 1), (12, none, .sipush 0), (13, none, .sipush 5), (14, none, .invokeinterface 155 25), (17, none, .ifCond .ne 8), (20, none, .sipush (-2)), (22, none, .goto 45), (25, some [true, true, true, true, true, false], .iload 2), (26, none, .ifCond .lt 8), (29, none, .iload 4), (31, none, .ifCond .ge 8), (34, some [true, true, true, true, true, false], .sipush (-4)), (36, none, .goto 31), (39, some [true, true, true, true, true, false], .iload 2), (40, none, .sipush 9), (42, none, .if_icmp .gt 19), (45, none, .iload 4), (47, none, .sipush 83), (49, none, .if_icmp .gt 12), (52, none, .aload 0), (53, none, .getfield 1547), (56, none, .sipush 12), (58, none, .if_icmp .ne 8), (61, some [true, true, true, true, true, false], .sipush (-6)), (63, none, .goto 4), (66, some [true, true, true, true, true, false], .sipush 0), (67, some [true, true, true, true, true, false], .istore 5), (69, none, .iload 5), (71, none, .ifCond .eq 10), (74, none, .aload 0), (75, none, .iload 5), (77, none, .invokeinterface 152 17), (80, none, .ireturn), (81, some [true, true, true, true, true, false], .aload 0), (82, none, .sipush 0), (83, none, .putfield 1560), (86, none, .aload 0), (87, none, .iload 1), (88, none, .iload 2), (89, none, .iload 3), (90, none, .iload 4), (92, none, .invokeinterface 180 40), (95, none, .aload 0), (96, none, .getfield 1547), (99, none, .sipush 1), (100, none, .isub), (101, none, .ireturn)]
def qp_M_add : QP := (7, [26, 0, 0, 0, 0], 6, qc_M_add)
def qc_M_use : List QE := [(0, none, .aload 0), (1, none, .iload 1), (2, none, .invokeinterface 160 17), (5, none, .ifCond .ne 7), (8, none, .sipush (-1)), (9, none, .goto 17), (12, some [true, true, false], .aload 0), (13, none, .iload 1), (14, none, .invokeinterface 181 17), (17, none, .ifCond .ne 8), (20, none, .sipush (-3)), (22, none, .goto 4), (25, some [true, true, false], .sipush 0), (26, some [true, true, false], .istore 2), (27, none, .iload 2), (28, none, .ifCond .eq 9), (31, none, .aload 0), (32, none, .iload 2), (33, none, .invokeinterface 152 17), (36, none, .ireturn), (37, some [true, true, false], .aload 0), (38, none, .invokeinterface 171 8), (41, none, .aload 0), (42, none, .iload 1), (43, none, .invokeinterface 183 17), (46, none, .ireturn)]
def qp_M_use : QP := (7, [26, 0], 3, qc_M_use)
def qc_M_end : List QE := [(0, none, .aload 0), (1, none, .getfield 1548), (4, none, .sipush 83), (6, none, .if_icmp .ne 10), (9, none, .aload 0), (10, none, .sipush (-6)), (12, none, .invokeinterface 152 17), (15, none, .ireturn), (16, some [true], .aload 0), (17, none, .invokeinterface 171 8), (20, none, .aload 0), (21, none, .invokeinterface 184 8), (24, none, .aload 0), (25, none, .getfield 1548), (28, none, .ireturn)]
def qp_M_end : QP := (7, [26], 1, qc_M_end)
def qc_M_findNeeds : List QE := [(0, none, .aload 0), (1, none, .sipush 0), (2, none, .putfield 1563), (5, none, .aload 0), (6, none, .getfield 1548), (9, none, .istore 3), (10, some [true, true, true, true], .iload 3), (11, none, .iload 2), (12, none, .if_icmp .gt 63), (15, none, .iload 3), (16, none, .sipush 7), (18, none, .irem), (19, none, .aload 0), (20, none, .getfield 1537), (23, none, .iload 1), (24, none, .iaload), (25, none, .if_icmp .ne 44), (28, none, .iload 3), (29, none, .aload 0), (30, none, .getfield 1548), (33, none, .if_icmp .ne 16), (36, none, .aload 0), (37, none, .getfield 1541), (40, none, .iload 1), (41, none, .iaload), (42, none, .sipush 1), (43, none, .if_icmp .ne 6), (46, none, .goto 23), (49, some [true, true, true, true], .aload 0), (50, none, .getfield 1561), (53, none, .aload 0), (54, none, .getfield 1563), (57, none, .iload 3), (58, none, .iastore), (59, none, .aload 0), (60, none, .dup), (61, none, .getfield 1563), (64, none, .sipush 1), (65, none, .iadd), (66, none, .putfield 1563), (69, some [true, true, true, true], .iinc 3 1), (72, none, .goto (-62)), (75, some [false, false, false, false], .return_)]
def qp_M_findNeeds : QP := (7, [26, 0, 0], 4, qc_M_findNeeds)
def qc_M_soonestSour : List QE := [(0, none, .sipush (-9)), (2, none, .istore 4), (4, none, .sipush 0), (5, none, .istore 5), (7, some [true, true, true, true, true, true], .iload 5), (9, none, .aload 0), (10, none, .getfield 1547), (13, none, .if_icmp .ge 77), (16, none, .aload 0), (17, none, .getfield 1544), (20, none, .iload 5), (22, none, .iaload), (23, none, .iload 1), (24, none, .if_icmp .ne 60), (27, none, .aload 0), (28, none, .getfield 1546), (31, none, .iload 5), (33, none, .iaload), (34, none, .sipush 1), (35, none, .if_icmp .eq 49), (38, none, .iload 3), (39, none, .iload 5), (41, none, .invokeinterface 157 17), (44, none, .ifCond .ne 40), (47, none, .aload 0), (48, none, .iload 5), (50, none, .iload 2), (51, none, .invokeinterface 178 25), (54, none, .ifCond .ne 6), (57, none, .goto 27), (60, some [true, true, true, true, true, true], .iload 4), (62, none, .ifCond .lt 18), (65, none, .aload 0), (66, none, .iload 5), (68, none, .invokeinterface 177 17), (71, none, .aload 0), (72, none, .iload 4), (74, none, .invokeinterface 177 17), (77, none, .if_icmp .ge 7), (80, some [true, true, true, true, false, true], .iload 5), (82, none, .istore 4), (84, some [true, true, true, true, true, true], .iinc 5 1), (87, none, .goto (-80)), (90, some [false, false, false, false, true, false], .iload 4), (92, none, .ireturn)]
def qp_M_soonestSour : QP := (7, [26, 0, 0, 0], 6, qc_M_soonestSour)
def qc_M_findHand : List QE := [(0, none, .aload 0), (1, none, .iload 1), (2, none, .iload 2), (3, none, .invokeinterface 191 24), (6, none, .sipush 0), (7, none, .istore 3), (8, none, .sipush 0), (9, none, .istore 4), (11, some [true, true, false, true, true], .iload 4), (13, none, .aload 0), (14, none, .getfield 1563), (17, none, .if_icmp .ge 55), (20, none, .aload 0), (21, none, .getfield 1562), (24, none, .iload 4), (26, none, .aload 0), (27, none, .iload 1), (28, none, .aload 0), (29, none, .getfield 1561), (32, none, .iload 4), (34, none, .iaload), (35, none, .iload 3), (36, none, .invokeinterface 192 33), (39, none, .iastore), (40, none, .iload 3), (41, none, .aload 0), (42, none, .getfield 1562), (45, none, .iload 4), (47, none, .iaload), (48, none, .ifCond .ge 7), (51, none, .sipush 0), (52, none, .goto 12), (55, some [true, true, false, false, true], .sipush 1), (56, none, .aload 0), (57, none, .getfield 1562), (60, none, .iload 4), (62, none, .iaload), (63, none, .ishl), (64, some [true, true, false, false, true], .ior), (65, none, .istore 3), (66, none, .iinc 4 1), (69, none, .goto (-58)), (72, some [false, false, false, false, false], .return_)]
def qp_M_findHand : QP := (7, [26, 0, 0], 5, qc_M_findHand)
def qc_M_notWho : List QE := [(0, none, .iload 1), (1, none, .invokeinterface 159 9), (4, none, .ifCond .ne 7), (7, none, .sipush (-1)), (8, none, .goto 13), (11, some [true, false, true], .iload 2), (12, none, .aload 0), (13, none, .getfield 1548), (16, none, .sipush 83), (18, none, .invokeinterface 156 25), (21, some [false, false, false], .ireturn)]
def qp_M_notWho : QP := (7, [26, 0, 0], 3, qc_M_notWho)
def qc_M_needed : List QE := [(0, none, .aload 0), (1, none, .iload 1), (2, none, .iload 2), (3, none, .invokeinterface 194 25), (6, none, .istore 3), (7, none, .iload 3), (8, none, .ifCond .eq 9), (11, none, .aload 0), (12, none, .iload 3), (13, none, .invokeinterface 152 17), (16, none, .ireturn), (17, some [true, true, true, false], .aload 0), (18, none, .iload 1), (19, none, .iload 2), (20, none, .invokeinterface 191 24), (23, none, .aload 0), (24, none, .getfield 1563), (27, none, .ireturn)]
def qp_M_needed : QP := (7, [26, 0, 0], 4, qc_M_needed)
def qc_M_byHand : List QE := [(0, none, .aload 0), (1, none, .iload 1), (2, none, .iload 2), (3, none, .invokeinterface 194 25), (6, none, .istore 4), (8, none, .iload 4), (10, none, .ifCond .ne 16), (13, none, .iload 3), (14, none, .sipush 0), (15, none, .sipush 1), (16, none, .invokeinterface 155 25), (19, none, .ifCond .ne 7), (22, none, .sipush (-2)), (24, none, .istore 4), (26, some [true, true, true, true, true, false, false, false], .iload 4), (28, none, .ifCond .eq 10), (31, none, .aload 0), (32, none, .iload 4), (34, none, .invokeinterface 152 17), (37, none, .ireturn), (38, some [true, true, true, true, false, false, false, false], .aload 0), (39, none, .iload 1), (40, none, .iload 2), (41, none, .invokeinterface 193 24), (44, none, .sipush 0), (45, none, .istore 5), (47, none, .sipush (-9)), (49, none, .istore 6), (51, none, .aload 0), (52, none, .getfield 1563), (55, none, .sipush 1), (56, none, .isub), (57, none, .istore 7), (59, some [true, false, false, true, false, true, true, true], .iload 7), (61, none, .ifCond .lt 34), (64, none, .aload 0), (65, none, .getfield 1562), (68, none, .iload 7), (70, none, .iaload), (71, none, .ifCond .lt 6), (74, none, .goto 15), (77, some [true, false, false, true, false, true, false, true], .iinc 5 1), (80, none, .aload 0), (81, none, .getfield 1561), (84, none, .iload 7), (86, none, .iaload), (87, none, .istore 6), (89, some [true, false, false, true, false, true, true, true], .iinc 7 (-1)), (92, none, .goto (-33)), (95, some [false, false, false, true, false, true, true, false], .iload 3), (96, none, .ifCond .ne 8), (99, none, .iload 5), (101, none, .goto 5), (104, some [false, false, false, false, false, false, true, false], .iload 6), (106, some [false, false, false, false, false, false, false, false], .ireturn)]
def qp_M_byHand : QP := (7, [26, 0, 0, 0], 8, qc_M_byHand)
def qc_M_valueWith : List QE := [(0, none, .aload 0), (1, none, .getfield 1564), (4, none, .sipush 4096), (7, none, .iload 1), (8, none, .sipush 1), (9, none, .iadd), (10, none, .imul), (11, none, .iload 2), (12, none, .sipush 1), (13, none, .iload 3), (14, none, .ishl), (15, none, .sipush (-1)), (16, none, .ixor), (17, none, .iand), (18, none, .iadd), (19, none, .iaload), (20, none, .sipush 1000), (23, none, .iadd), (24, none, .aload 0), (25, none, .iload 3), (26, none, .invokeinterface 176 17), (29, none, .iadd), (30, none, .ireturn)]
def qp_M_valueWith : QP := (7, [26, 0, 0, 0], 4, qc_M_valueWith)
def qc_M_findOwn : List QE := [(0, none, .aload 0), (1, none, .sipush 0), (2, none, .putfield 1565), (5, none, .sipush 0), (6, none, .istore 2), (7, some [true, true, true, false, false], .iload 2), (8, none, .aload 0), (9, none, .getfield 1547), (12, none, .if_icmp .ge 83), (15, none, .sipush 0), (16, none, .istore 3), (17, none, .sipush 0), (18, none, .istore 4), (20, some [true, true, true, true, true], .iload 4), (22, none, .aload 0), (23, none, .getfield 1563), (26, none, .if_icmp .ge 43), (29, none, .aload 0), (30, none, .getfield 1544), (33, none, .iload 2), (34, none, .iaload), (35, none, .iload 1), (36, none, .if_icmp .ne 33), (39, none, .aload 0), (40, none, .getfield 1546), (43, none, .iload 2), (44, none, .iaload), (45, none, .ifCond .ne 24), (48, none, .iload 3), (49, none, .aload 0), (50, none, .iload 2), (51, none, .aload 0), (52, none, .getfield 1561), (55, none, .iload 4), (57, none, .iaload), (58, none, .invokeinterface 178 25), (61, none, .ior), (62, none, .istore 3), (63, none, .iinc 4 1), (66, none, .goto (-46)), (69, some [true, true, true, true, false], .aload 0), (70, none, .dup), (71, none, .getfield 1565), (74, none, .iload 3), (75, none, .ifCond .eq 9), (78, none, .sipush 1), (79, none, .iload 2), (80, none, .ishl), (81, none, .goto 4), (84, some [true, true, true, false, false], .sipush 0), (85, some [true, true, true, false, false], .ior), (86, none, .putfield 1565), (89, none, .iinc 2 1), (92, none, .goto (-85)), (95, some [false, false, false, false, false], .return_)]
def qp_M_findOwn : QP := (7, [26, 0], 5, qc_M_findOwn)
def qc_M_laysDay : List QE := [(0, none, .sipush 0), (1, none, .istore 2), (2, none, .sipush 0), (3, none, .istore 3), (4, some [true, true, true, true, false, false, false], .iload 3), (5, none, .aload 0), (6, none, .getfield 1547), (9, none, .if_icmp .ge 44), (12, none, .iload 2), (13, none, .aload 0), (14, none, .getfield 1565), (17, none, .iload 3), (18, none, .invokeinterface 157 17), (21, none, .ifCond .eq 23), (24, none, .aload 0), (25, none, .iload 3), (26, none, .aload 0), (27, none, .getfield 1561), (30, none, .iload 1), (31, none, .iaload), (32, none, .invokeinterface 178 25), (35, none, .ifCond .eq 9), (38, none, .sipush 1), (39, none, .iload 3), (40, none, .ishl), (41, none, .goto 4), (44, some [true, true, false, true, false, false, false], .sipush 0), (45, some [true, true, false, true, false, false, false], .ior), (46, none, .istore 2), (47, none, .iinc 3 1), (50, none, .goto (-46)), (53, some [true, true, true, false, false, false, false], .aload 0), (54, none, .getfield 1565), (57, none, .istore 3), (58, some [true, true, true, true, false, false, false], .aload 0), (59, none, .getfield 1564), (62, none, .sipush 4096), (65, none, .iload 1), (66, none, .sipush 1), (67, none, .iadd), (68, none, .imul), (69, none, .iload 3), (70, none, .iadd), (71, none, .iaload), (72, none, .istore 4), (74, none, .sipush 0), (75, none, .istore 5), (77, some [true, true, true, true, true, true, false], .iload 5), (79, none, .aload 0), (80, none, .getfield 1547), (83, none, .if_icmp .ge 50), (86, none, .iload 3), (87, none, .iload 2), (88, none, .iand), (89, none, .iload 5), (91, none, .invokeinterface 157 17), (94, none, .ifCond .eq 14), (97, none, .aload 0), (98, none, .iload 1), (99, none, .iload 3), (100, none, .iload 5), (102, none, .invokeinterface 197 33), (105, none, .goto 4), (108, some [true, true, true, true, true, true, false], .sipush 0), (109, some [true, true, true, true, true, true, false], .istore 6), (111, none, .iload 6), (113, none, .iload 4), (115, none, .if_icmp .le 8), (118, none, .iload 6), (120, none, .goto 5), (123, some [true, true, true, true, true, true, false], .iload 4), (125, some [true, true, true, true, false, true, false], .istore 4), (127, none, .iinc 5 1), (130, none, .goto (-53)), (133, some [true, true, true, true, true, false, false], .aload 0), (134, none, .getfield 1564), (137, none, .sipush 4096), (140, none, .iload 1), (141, none, .imul), (142, none, .iload 3), (143, none, .iadd), (144, none, .iload 4), (146, none, .iastore), (147, none, .iload 3), (148, none, .sipush 1), (149, none, .isub), (150, none, .aload 0), (151, none, .getfield 1565), (154, none, .iand), (155, none, .istore 3), (156, none, .iload 3), (157, none, .aload 0), (158, none, .getfield 1565), (161, none, .if_icmp .ne (-103)), (164, none, .return_)]
def qp_M_laysDay : QP := (7, [26, 0], 7, qc_M_laysDay)
def qc_M_findLaid : List QE := [(0, none, .aload 0), (1, none, .iload 1), (2, none, .iload 2), (3, none, .invokeinterface 191 24), (6, none, .aload 0), (7, none, .iload 1), (8, none, .invokeinterface 198 16), (11, none, .sipush 0), (12, none, .istore 3), (13, some [true, false, false, true], .iload 3), (14, none, .sipush 4096), (17, none, .if_icmp .ge 25), (20, none, .aload 0), (21, none, .getfield 1564), (24, none, .sipush 4096), (27, none, .aload 0), (28, none, .getfield 1563), (31, none, .imul), (32, none, .iload 3), (33, none, .iadd), (34, none, .sipush 0), (35, none, .iastore), (36, none, .iinc 3 1), (39, none, .goto (-26)), (42, some [true, false, false, false], .aload 0), (43, none, .getfield 1563), (46, none, .sipush 1), (47, none, .isub), (48, none, .istore 3), (49, some [true, false, false, true], .iload 3), (50, none, .ifCond .lt 14), (53, none, .aload 0), (54, none, .iload 3), (55, none, .invokeinterface 199 16), (58, none, .iinc 3 (-1)), (61, none, .goto (-12)), (64, some [false, false, false, false], .return_)]
def qp_M_findLaid : QP := (7, [26, 0, 0], 4, qc_M_findLaid)
def qc_M_allCauses : List QE := [(0, none, .sipush 1), (1, none, .aload 0), (2, none, .getfield 1547), (5, none, .ishl), (6, none, .sipush 1), (7, none, .isub), (8, none, .ireturn)]
def qp_M_allCauses : QP := (7, [26], 1, qc_M_allCauses)
def qc_M_laidValue : List QE := [(0, none, .aload 0), (1, none, .iload 1), (2, none, .iload 2), (3, none, .invokeinterface 200 24), (6, none, .aload 0), (7, none, .getfield 1564), (10, none, .aload 0), (11, none, .getfield 1565), (14, none, .iaload), (15, none, .ireturn)]
def qp_M_laidValue : QP := (7, [26, 0, 0], 3, qc_M_laidValue)
def qc_M_laid : List QE := [(0, none, .iload 1), (1, none, .invokeinterface 159 9), (4, none, .ifCond .ne 7), (7, none, .sipush (-1)), (8, none, .goto 33), (11, some [true, true, true, true, false, false, false, false, false], .iload 2), (12, none, .aload 0), (13, none, .getfield 1548), (16, none, .if_icmp .lt 8), (19, none, .iload 3), (20, none, .sipush (-1)), (21, none, .if_icmp .ge 8), (24, some [true, true, true, true, false, false, false, false, false], .sipush (-4)), (26, none, .goto 15), (29, some [true, true, true, true, false, false, false, false, false], .iload 2), (30, none, .sipush 83), (32, none, .if_icmp .le 8), (35, none, .sipush (-6)), (37, none, .goto 4), (40, some [true, true, true, true, false, false, false, false, false], .sipush 0), (41, some [true, true, true, true, false, false, false, false, false], .istore 4), (43, none, .iload 4), (45, none, .ifCond .eq 10), (48, none, .aload 0), (49, none, .iload 4), (51, none, .invokeinterface 152 17), (54, none, .ireturn), (55, some [true, true, true, true, false, false, false, false, false], .aload 0), (56, none, .iload 1), (57, none, .iload 2), (58, none, .invokeinterface 200 24), (61, none, .iload 3), (62, none, .ifCond .ge 13), (65, none, .aload 0), (66, none, .getfield 1564), (69, none, .aload 0), (70, none, .getfield 1565), (73, none, .iaload), (74, none, .ireturn), (75, some [true, true, false, true, false, false, false, false, false], .aload 0), (76, none, .getfield 1565), (79, none, .istore 5), (81, none, .sipush (-9)), (83, none, .istore 6), (85, none, .sipush 0), (86, none, .istore 7), (88, some [true, true, false, true, false, true, true, true, false], .iload 7), (90, none, .iload 3), (91, none, .if_icmp .gt 143), (94, none, .iload 7), (96, none, .aload 0), (97, none, .getfield 1563), (100, none, .if_icmp .ge 134), (103, none, .sipush (-9)), (105, none, .istore 6), (107, none, .aload 0), (108, none, .getfield 1547), (111, none, .sipush 1), (112, none, .isub), (113, none, .istore 8), (115, some [true, true, false, true, false, true, true, true, true], .iload 8), (117, none, .ifCond .lt 91), (120, none, .aload 0), (121, none, .getfield 1544), (124, none, .iload 8), (126, none, .iaload), (127, none, .iload 1), (128, none, .if_icmp .ne 74), (131, none, .aload 0), (132, none, .getfield 1546), (135, none, .iload 8), (137, none, .iaload), (138, none, .sipush 1), (139, none, .if_icmp .eq 63), (142, none, .iload 5), (144, none, .iload 8), (146, none, .invokeinterface 157 17), (149, none, .ifCond .eq 53), (152, none, .aload 0), (153, none, .iload 8), (155, none, .aload 0), (156, none, .getfield 1561), (159, none, .iload 7), (161, none, .iaload), (162, none, .invokeinterface 178 25), (165, none, .ifCond .ne 6), (168, none, .goto 34), (171, some [true, true, false, true, false, true, true, true, true], .aload 0), (172, none, .iload 7), (174, none, .iload 5), (176, none, .iload 8), (178, none, .invokeinterface 197 33), (181, none, .aload 0), (182, none, .getfield 1564), (185, none, .sipush 4096), (188, none, .iload 7), (190, none, .imul), (191, none, .iload 5), (193, none, .iadd), (194, none, .iaload), (195, none, .if_icmp .ne 7), (198, none, .iload 8), (200, none, .istore 6), (202, some [true, true, false, true, false, true, true, true, true], .iinc 8 (-1)), (205, none, .goto (-90)), (208, some [true, true, false, true, false, true, true, true, false], .iload 5), (210, none, .iload 6), (212, none, .ifCond .ge 7), (215, none, .sipush (-1)), (216, none, .goto 9), (219, some [true, true, false, true, false, false, true, true, false], .sipush 1), (220, none, .iload 6), (222, none, .ishl), (223, none, .sipush (-1)), (224, none, .ixor), (225, some [true, true, false, true, false, false, true, true, false], .iand), (226, none, .istore 5), (228, none, .iinc 7 1), (231, none, .goto (-143)), (234, some [true, false, false, true, false, false, true, false, false], .iload 3), (235, none, .aload 0), (236, none, .getfield 1563), (239, none, .if_icmp .ge 8), (242, none, .iload 6), (244, none, .goto 5), (247, some [false, false, false, false, false, false, false, false, false], .sipush (-9)), (249, some [false, false, false, false, false, false, false, false, false], .ireturn)]
def qp_M_laid : QP := (7, [26, 0, 0, 0], 9, qc_M_laid)
def qc_M_wasted : List QE := [(0, none, .aload 0), (1, none, .iload 1), (2, none, .iload 2), (3, none, .invokeinterface 194 25), (6, none, .istore 3), (7, none, .iload 3), (8, none, .ifCond .eq 9), (11, none, .aload 0), (12, none, .iload 3), (13, none, .invokeinterface 152 17), (16, none, .ireturn), (17, some [true, true, true, false, false, false], .aload 0), (18, none, .iload 1), (19, none, .iload 2), (20, none, .invokeinterface 200 24), (23, none, .sipush 0), (24, none, .istore 4), (26, none, .sipush 0), (27, none, .istore 5), (29, some [true, true, false, false, true, true], .iload 5), (31, none, .aload 0), (32, none, .getfield 1547), (35, none, .if_icmp .ge 71), (38, none, .iload 4), (40, none, .aload 0), (41, none, .getfield 1544), (44, none, .iload 5), (46, none, .iaload), (47, none, .iload 1), (48, none, .if_icmp .ne 48), (51, none, .aload 0), (52, none, .getfield 1546), (55, none, .iload 5), (57, none, .iaload), (58, none, .ifCond .ne 38), (61, none, .aload 0), (62, none, .getfield 1564), (65, none, .aload 0), (66, none, .getfield 1565), (69, none, .sipush 1), (70, none, .iload 5), (72, none, .ishl), (73, none, .sipush (-1)), (74, none, .ixor), (75, none, .iand), (76, none, .iaload), (77, none, .aload 0), (78, none, .getfield 1564), (81, none, .aload 0), (82, none, .getfield 1565), (85, none, .iaload), (86, none, .if_icmp .ne 10), (89, none, .sipush 1), (90, none, .iload 5), (92, none, .ishl), (93, none, .goto 4), (96, some [true, true, false, false, false, true], .sipush 0), (97, some [true, true, false, false, false, true], .ior), (98, none, .istore 4), (100, none, .iinc 5 1), (103, none, .goto (-74)), (106, some [false, false, false, false, true, false], .iload 4), (108, none, .ireturn)]
def qp_M_wasted : QP := (7, [26, 0, 0], 6, qc_M_wasted)
def qc_M_worth : List QE := [(0, none, .aload 0), (1, none, .iload 1), (2, none, .invokeinterface 160 17), (5, none, .ifCond .ne 7), (8, none, .sipush (-1)), (9, none, .goto 28), (12, some [true, true, true, false], .aload 0), (13, none, .getfield 1546), (16, none, .iload 1), (17, none, .iaload), (18, none, .sipush 1), (19, none, .if_icmp .ne 8), (22, none, .sipush (-3)), (24, none, .goto 13), (27, some [true, true, true, false], .iload 2), (28, none, .aload 0), (29, none, .getfield 1548), (32, none, .sipush 83), (34, none, .invokeinterface 156 25), (37, some [true, true, true, false], .istore 3), (38, none, .iload 3), (39, none, .ifCond .eq 9), (42, none, .aload 0), (43, none, .iload 3), (44, none, .invokeinterface 152 17), (47, none, .ireturn), (48, some [true, true, true, false], .aload 0), (49, none, .aload 0), (50, none, .getfield 1544), (53, none, .iload 1), (54, none, .iaload), (55, none, .iload 2), (56, none, .invokeinterface 200 24), (59, none, .aload 0), (60, none, .getfield 1564), (63, none, .aload 0), (64, none, .getfield 1565), (67, none, .iaload), (68, none, .aload 0), (69, none, .getfield 1564), (72, none, .aload 0), (73, none, .getfield 1565), (76, none, .sipush 1), (77, none, .iload 1), (78, none, .ishl), (79, none, .sipush (-1)), (80, none, .ixor), (81, none, .iand), (82, none, .iaload), (83, none, .isub), (84, none, .ireturn)]
def qp_M_worth : QP := (7, [26, 0, 0], 4, qc_M_worth)
def qc_M_goodFor : List QE := [(0, none, .sipush 0), (1, none, .istore 3), (2, none, .sipush 0), (3, none, .istore 4), (5, some [true, true, true, true, true, false, false], .iload 4), (7, none, .aload 0), (8, none, .getfield 1547), (11, none, .if_icmp .ge 97), (14, none, .sipush 0), (15, none, .istore 5), (17, none, .sipush 0), (18, none, .istore 6), (20, some [true, true, true, true, true, true, true], .iload 6), (22, none, .sipush 8), (24, none, .if_icmp .ge 65), (27, none, .iload 5), (29, none, .iload 2), (30, none, .iload 6), (32, none, .invokeinterface 157 17), (35, none, .ifCond .eq 44), (38, none, .aload 0), (39, none, .getfield 1544), (42, none, .iload 4), (44, none, .iaload), (45, none, .iload 1), (46, none, .if_icmp .ne 33), (49, none, .aload 0), (50, none, .getfield 1546), (53, none, .iload 4), (55, none, .iaload), (56, none, .ifCond .ne 23), (59, none, .aload 0), (60, none, .iload 4), (62, none, .aload 0), (63, none, .getfield 1561), (66, none, .iload 6), (68, none, .iaload), (69, none, .invokeinterface 178 25), (72, none, .ifCond .eq 7), (75, none, .sipush 1), (76, none, .goto 4), (79, some [true, true, true, true, true, false, true], .sipush 0), (80, some [true, true, true, true, true, false, true], .ior), (81, none, .istore 5), (83, none, .iinc 6 1), (86, none, .goto (-66)), (89, some [true, true, true, true, true, true, false], .iload 3), (90, none, .iload 5), (92, none, .ifCond .eq 7), (95, none, .sipush 1), (96, none, .goto 4), (99, some [true, true, true, false, true, false, false], .sipush 0), (100, some [true, true, true, false, true, false, false], .iadd), (101, none, .istore 3), (102, none, .iinc 4 1), (105, none, .goto (-100)), (108, some [false, false, false, true, false, false, false], .iload 3), (109, none, .ireturn)]
def qp_M_goodFor : QP := (7, [26, 0, 0], 7, qc_M_goodFor)
def qc_M_notAll : List QE := [(0, none, .aload 0), (1, none, .iload 1), (2, none, .iload 2), (3, none, .invokeinterface 194 25), (6, none, .istore 3), (7, none, .iload 3), (8, none, .ifCond .eq 9), (11, none, .aload 0), (12, none, .iload 3), (13, none, .invokeinterface 152 17), (16, none, .ireturn), (17, some [true, true, true, false, false, false, false], .aload 0), (18, none, .iload 1), (19, none, .iload 2), (20, none, .invokeinterface 191 24), (23, none, .aload 0), (24, none, .getfield 1563), (27, none, .sipush 8), (29, none, .invokeinterface 182 17), (32, none, .istore 4), (34, none, .sipush (-9)), (36, none, .istore 5), (38, none, .sipush 1), (39, none, .istore 6), (41, some [true, true, false, false, true, true, true], .iload 6), (43, none, .sipush 1), (44, none, .iload 4), (46, none, .ishl), (47, none, .if_icmp .ge 46), (50, none, .iload 5), (52, none, .ifCond .lt 16), (55, none, .iload 6), (57, none, .invokeinterface 158 9), (60, none, .iload 5), (62, none, .invokeinterface 158 9), (65, none, .if_icmp .ge 22), (68, some [true, true, false, false, true, true, true], .aload 0), (69, none, .iload 1), (70, none, .iload 6), (72, none, .invokeinterface 206 25), (75, none, .iload 6), (77, none, .invokeinterface 158 9), (80, none, .if_icmp .ge 7), (83, none, .iload 6), (85, none, .istore 5), (87, some [true, true, false, false, true, true, true], .iinc 6 1), (90, none, .goto (-49)), (93, some [false, false, false, false, false, true, false], .iload 5), (95, none, .ireturn)]
def qp_M_notAll : QP := (7, [26, 0, 0], 7, qc_M_notAll)
def qc_M_settledBy : List QE := [(0, none, .aload 0), (1, none, .getfield 1537), (4, none, .iload 1), (5, none, .iaload), (6, none, .istore 4), (8, none, .aload 0), (9, none, .getfield 1537), (12, none, .iload 1), (13, none, .iload 2), (14, none, .iastore), (15, none, .aload 0), (16, none, .iload 1), (17, none, .iload 3), (18, none, .invokeinterface 202 25), (21, none, .istore 5), (23, none, .aload 0), (24, none, .getfield 1537), (27, none, .iload 1), (28, none, .iload 4), (30, none, .iastore), (31, none, .iload 5), (33, none, .sipush 1000), (36, none, .irem), (37, none, .sipush 3), (38, none, .aload 0), (39, none, .getfield 1563), (42, none, .iload 5), (44, none, .sipush 1000), (47, none, .idiv), (48, none, .isub), (49, none, .imul), (50, none, .isub), (51, none, .ireturn)]
def qp_M_settledBy : QP := (7, [26, 0, 0, 0], 6, qc_M_settledBy)
def qc_M_settled : List QE := [(0, none, .iload 1), (1, none, .invokeinterface 159 9), (4, none, .ifCond .eq 13), (7, none, .iload 2), (8, none, .sipush 0), (9, none, .sipush 6), (11, none, .invokeinterface 155 25), (14, none, .ifCond .ne 7), (17, some [true, true, true, true, false], .sipush (-1)), (18, none, .goto 13), (21, some [true, true, true, true, false], .iload 3), (22, none, .aload 0), (23, none, .getfield 1548), (26, none, .sipush 83), (28, none, .invokeinterface 156 25), (31, some [true, true, true, true, false], .istore 4), (33, none, .iload 4), (35, none, .ifCond .eq 12), (38, none, .aload 0), (39, none, .iload 4), (41, none, .invokeinterface 153 17), (44, none, .goto 10), (47, some [true, true, true, true, false], .aload 0), (48, none, .iload 1), (49, none, .iload 2), (50, none, .iload 3), (51, none, .invokeinterface 208 33), (54, some [false, false, false, false, false], .ireturn)]
def qp_M_settled : QP := (7, [26, 0, 0, 0], 5, qc_M_settled)
def qc_M_bestWeekday : List QE := [(0, none, .aload 0), (1, none, .iload 1), (2, none, .iload 2), (3, none, .invokeinterface 194 25), (6, none, .istore 3), (7, none, .iload 3), (8, none, .ifCond .eq 9), (11, none, .aload 0), (12, none, .iload 3), (13, none, .invokeinterface 152 17), (16, none, .ireturn), (17, some [true, true, true, false, false, false], .sipush 0), (18, none, .istore 4), (20, none, .sipush 1), (21, none, .istore 5), (23, some [true, true, true, false, true, true], .iload 5), (25, none, .sipush 7), (27, none, .if_icmp .ge 37), (30, none, .aload 0), (31, none, .iload 1), (32, none, .iload 5), (34, none, .iload 2), (35, none, .invokeinterface 208 33), (38, none, .aload 0), (39, none, .iload 1), (40, none, .iload 4), (42, none, .iload 2), (43, none, .invokeinterface 208 33), (46, none, .if_icmp .le 8), (49, none, .iload 5), (51, none, .goto 5), (54, some [true, true, true, false, true, true], .iload 4), (56, some [true, true, true, false, false, true], .istore 4), (58, none, .iinc 5 1), (61, none, .goto (-38)), (64, some [false, false, false, false, true, false], .iload 4), (66, none, .ireturn)]
def qp_M_bestWeekday : QP := (7, [26, 0, 0], 6, qc_M_bestWeekday)
def qc_M_hasAt : List QE := [(0, none, .aload 0), (1, none, .getfield 1567), (4, none, .sipush 7), (6, none, .iload 1), (7, none, .imul), (8, none, .iload 1), (9, none, .ifCond .ne 7), (12, none, .iload 2), (13, none, .goto 4), (16, some [false, false, true, true], .iload 3), (17, some [false, false, true, true], .iadd), (18, none, .iaload), (19, none, .iload 2), (20, none, .iload 3), (21, none, .if_icmp .ne 8), (24, none, .sipush 10), (26, none, .goto 4), (29, some [false, false, false, false], .sipush 0), (30, some [false, false, false, false], .isub), (31, none, .ireturn)]
def qp_M_hasAt : QP := (7, [26, 0, 0, 0], 4, qc_M_hasAt)
def qc_M_rests : List QE := [(0, none, .sipush 0), (1, none, .istore 3), (2, some [true, true, true, true], .iload 3), (3, none, .sipush 7), (5, none, .if_icmp .ge 45), (8, none, .aload 0), (9, none, .sipush 0), (10, none, .iload 3), (11, none, .iload 2), (12, none, .invokeinterface 211 33), (15, none, .aload 0), (16, none, .sipush 0), (17, none, .iload 1), (18, none, .iload 2), (19, none, .invokeinterface 211 33), (22, none, .if_icmp .gt 20), (25, none, .aload 0), (26, none, .sipush 1), (27, none, .iload 1), (28, none, .iload 3), (29, none, .invokeinterface 211 33), (32, none, .aload 0), (33, none, .sipush 1), (34, none, .iload 1), (35, none, .iload 2), (36, none, .invokeinterface 211 33), (39, none, .if_icmp .le 5), (42, some [false, false, false, false], .sipush 0), (43, none, .freturn), (44, some [true, true, true, true], .iinc 3 1), (47, none, .goto (-45)), (50, some [false, false, false, false], .sipush 1), (51, none, .freturn)]
def qp_M_rests : QP := (7, [26, 0, 0], 4, qc_M_rests)
def qc_M_neither : List QE := [(0, none, .iload 1), (1, none, .aload 0), (2, none, .getfield 1548), (5, none, .sipush 83), (7, none, .invokeinterface 156 25), (10, none, .istore 2), (11, none, .iload 2), (12, none, .ifCond .eq 9), (15, none, .aload 0), (16, none, .iload 2), (17, none, .invokeinterface 152 17), (20, none, .ireturn), (21, some [true, true, false, false], .sipush 0), (22, none, .istore 3), (23, some [true, true, false, true], .iload 3), (24, none, .sipush 14), (26, none, .if_icmp .ge 28), (29, none, .aload 0), (30, none, .getfield 1567), (33, none, .iload 3), (34, none, .aload 0), (35, none, .iload 3), (36, none, .sipush 7), (38, none, .idiv), (39, none, .iload 3), (40, none, .sipush 7), (42, none, .irem), (43, none, .iload 1), (44, none, .invokeinterface 208 33), (47, none, .iastore), (48, none, .iinc 3 1), (51, none, .goto (-28)), (54, some [true, false, false, false], .sipush 0), (55, none, .istore 3), (56, some [true, false, false, true], .iload 3), (57, none, .sipush 49), (59, none, .if_icmp .ge 37), (62, none, .aload 0), (63, none, .iload 3), (64, none, .sipush 7), (66, none, .idiv), (67, none, .iload 3), (68, none, .sipush 7), (70, none, .irem), (71, none, .invokeinterface 212 25), (74, none, .ifCond .eq 16), (77, none, .sipush 10), (79, none, .iload 3), (80, none, .sipush 7), (82, none, .idiv), (83, none, .imul), (84, none, .iload 3), (85, none, .sipush 7), (87, none, .irem), (88, none, .iadd), (89, none, .ireturn), (90, some [true, false, false, true], .iinc 3 1), (93, none, .goto (-37)), (96, some [false, false, false, false], .sipush (-9)), (98, none, .ireturn)]
def qp_M_neither : QP := (7, [26, 0], 4, qc_M_neither)
def qc_M_unused : List QE := [(0, none, .sipush 0), (1, none, .istore 1), (2, none, .sipush 0), (3, none, .istore 2), (4, some [true, true, true], .iload 2), (5, none, .aload 0), (6, none, .getfield 1547), (9, none, .if_icmp .ge 28), (12, none, .iload 1), (13, none, .aload 0), (14, none, .getfield 1546), (17, none, .iload 2), (18, none, .iaload), (19, none, .ifCond .ne 9), (22, none, .sipush 1), (23, none, .iload 2), (24, none, .ishl), (25, none, .goto 4), (28, some [true, false, true], .sipush 0), (29, some [true, false, true], .ior), (30, none, .istore 1), (31, none, .iinc 2 1), (34, none, .goto (-30)), (37, some [false, true, false], .iload 1), (38, none, .ireturn)]
def qp_M_unused : QP := (7, [26], 3, qc_M_unused)
def qc_M_findTurns : List QE := [(0, none, .sipush 0), (1, none, .istore 1), (2, some [true, true, false, false], .iload 1), (3, none, .sipush 1), (4, none, .aload 0), (5, none, .getfield 1547), (8, none, .ishl), (9, none, .if_icmp .ge 101), (12, none, .aload 0), (13, none, .getfield 1564), (16, none, .iload 1), (17, none, .iload 1), (18, none, .ifCond .ne 7), (21, none, .sipush 0), (22, none, .goto 6), (25, some [true, true, false, false], .sipush (-100000)), (28, some [true, true, false, false], .iastore), (29, none, .sipush 0), (30, none, .istore 2), (31, some [true, true, true, false], .iload 2), (32, none, .aload 0), (33, none, .getfield 1547), (36, none, .if_icmp .ge 68), (39, none, .iload 1), (40, none, .iload 2), (41, none, .invokeinterface 157 17), (44, none, .ifCond .eq 24), (47, none, .aload 0), (48, none, .iload 2), (49, none, .invokeinterface 176 17), (52, none, .aload 0), (53, none, .getfield 1564), (56, none, .iload 1), (57, none, .sipush 1), (58, none, .iload 2), (59, none, .ishl), (60, none, .sipush (-1)), (61, none, .ixor), (62, none, .iand), (63, none, .iaload), (64, none, .isub), (65, none, .goto 6), (68, some [true, true, true, false], .sipush (-100000)), (71, some [true, true, true, false], .istore 3), (72, none, .aload 0), (73, none, .getfield 1564), (76, none, .iload 1), (77, none, .iload 3), (78, none, .aload 0), (79, none, .getfield 1564), (82, none, .iload 1), (83, none, .iaload), (84, none, .if_icmp .le 7), (87, none, .iload 3), (88, none, .goto 9), (91, some [true, true, true, false], .aload 0), (92, none, .getfield 1564), (95, none, .iload 1), (96, none, .iaload), (97, some [true, true, true, false], .iastore), (98, none, .iinc 2 1), (101, none, .goto (-70)), (104, some [true, true, false, false], .iinc 1 1), (107, none, .goto (-105)), (110, some [false, false, false, false], .return_)]
def qp_M_findTurns : QP := (7, [26], 4, qc_M_findTurns)
def qc_M_turns : List QE := [(0, none, .iload 1), (1, none, .sipush 0), (2, none, .sipush 1), (3, none, .invokeinterface 155 25), (6, none, .ifCond .ne 10), (9, none, .aload 0), (10, none, .sipush (-2)), (12, none, .invokeinterface 153 17), (15, none, .ireturn), (16, some [true, true, false, false], .aload 0), (17, none, .invokeinterface 215 8), (20, none, .aload 0), (21, none, .invokeinterface 214 9), (24, none, .istore 2), (25, none, .iload 1), (26, none, .ifCond .ne 10), (29, none, .aload 0), (30, none, .getfield 1564), (33, none, .iload 2), (34, none, .iaload), (35, none, .ireturn), (36, some [true, false, true, false], .sipush 0), (37, none, .istore 3), (38, some [true, false, true, true], .iload 3), (39, none, .aload 0), (40, none, .getfield 1547), (43, none, .if_icmp .ge 46), (46, none, .iload 2), (47, none, .iload 3), (48, none, .invokeinterface 157 17), (51, none, .ifCond .eq 32), (54, none, .aload 0), (55, none, .iload 3), (56, none, .invokeinterface 176 17), (59, none, .aload 0), (60, none, .getfield 1564), (63, none, .iload 2), (64, none, .sipush 1), (65, none, .iload 3), (66, none, .ishl), (67, none, .sipush (-1)), (68, none, .ixor), (69, none, .iand), (70, none, .iaload), (71, none, .isub), (72, none, .aload 0), (73, none, .getfield 1564), (76, none, .iload 2), (77, none, .iaload), (78, none, .if_icmp .ne 5), (81, none, .iload 3), (82, none, .ireturn), (83, some [true, false, true, true], .iinc 3 1), (86, none, .goto (-48)), (89, some [false, false, false, false], .sipush (-9)), (91, none, .ireturn)]
def qp_M_turns : QP := (7, [26, 0], 4, qc_M_turns)
def qc_M_weekdaysIn : List QE := [(0, none, .sipush 0), (1, none, .istore 3), (2, none, .iload 1), (3, none, .istore 4), (5, some [true, true, true, true, true], .iload 4), (7, none, .iload 1), (8, none, .iload 2), (9, none, .iadd), (10, none, .if_icmp .ge 26), (13, none, .iload 3), (14, none, .iload 4), (16, none, .sipush 7), (18, none, .irem), (19, none, .iload 0), (20, none, .if_icmp .ne 7), (23, none, .sipush 1), (24, none, .goto 4), (27, some [true, true, true, false, true], .sipush 0), (28, some [true, true, true, false, true], .iadd), (29, none, .istore 3), (30, none, .iinc 4 1), (33, none, .goto (-28)), (36, some [false, false, false, true, false], .iload 3), (37, none, .ireturn)]
def qp_M_weekdaysIn : QP := (7, [0, 0, 0], 5, qc_M_weekdaysIn)
def qc_M_months : List QE := [(0, none, .iload 1), (1, none, .sipush 0), (2, none, .sipush 6), (4, none, .invokeinterface 155 25), (7, none, .ifCond .ne 7), (10, none, .sipush (-1)), (11, none, .goto 11), (14, some [true, true, true, true, false, false, false, false, false, false], .iload 2), (15, none, .sipush 7), (17, none, .sipush 31), (19, none, .invokeinterface 156 25), (22, some [true, true, true, true, false, false, false, false, false, false], .istore 4), (24, none, .iload 4), (26, none, .ifCond .ne 16), (29, none, .iload 3), (30, none, .sipush 0), (31, none, .sipush 2), (32, none, .invokeinterface 155 25), (35, none, .ifCond .ne 7), (38, none, .sipush (-2)), (40, none, .istore 4), (42, some [true, true, true, true, true, false, false, false, false, false], .iload 4), (44, none, .ifCond .eq 10), (47, none, .aload 0), (48, none, .iload 4), (50, none, .invokeinterface 152 17), (53, none, .ireturn), (54, some [false, true, true, true, false, false, false, false, false, false], .sipush 0), (55, none, .istore 5), (57, none, .sipush 0), (58, none, .istore 6), (60, none, .sipush 0), (61, none, .istore 7), (63, none, .sipush 0), (64, none, .istore 8), (66, some [false, true, true, true, false, true, true, true, true, false], .iload 2), (67, none, .iload 8), (69, none, .sipush 1), (70, none, .iadd), (71, none, .imul), (72, none, .sipush 84), (74, none, .if_icmp .gt 55), (77, none, .iload 1), (78, none, .iload 2), (79, none, .iload 8), (81, none, .imul), (82, none, .iload 2), (83, none, .invokeinterface 217 25), (86, none, .istore 9), (88, none, .iload 9), (90, none, .iload 5), (92, none, .if_icmp .le 14), (95, none, .iload 9), (97, none, .istore 5), (99, none, .sipush 0), (100, none, .istore 6), (102, none, .iload 8), (104, none, .istore 7), (106, some [false, true, true, true, false, true, true, true, true, true], .iload 6), (108, none, .iload 9), (110, none, .iload 5), (112, none, .if_icmp .ne 7), (115, none, .sipush 1), (116, none, .goto 4), (119, some [false, true, true, true, false, true, false, true, true, false], .sipush 0), (120, some [false, true, true, true, false, true, false, true, true, false], .iadd), (121, none, .istore 6), (123, none, .iinc 8 1), (126, none, .goto (-60)), (129, some [false, false, false, true, false, true, true, true, false, false], .iload 3), (130, none, .ifCond .ne 8), (133, none, .iload 6), (135, none, .goto 15), (138, some [false, false, false, true, false, true, false, true, false, false], .iload 3), (139, none, .sipush 1), (140, none, .if_icmp .ne 8), (143, none, .iload 5), (145, none, .goto 5), (148, some [false, false, false, false, false, false, false, true, false, false], .iload 7), (150, some [false, false, false, false, false, false, false, false, false, false], .ireturn)]
def qp_M_months : QP := (7, [26, 0, 0, 0], 10, qc_M_months)
def qc_M_areDaysOf : List QE := [(0, none, .sipush 0), (1, none, .istore 2), (2, some [true, true, true], .iload 2), (3, none, .aload 0), (4, none, .getfield 1569), (7, none, .if_icmp .ge 61), (10, none, .aload 0), (11, none, .getfield 1568), (14, none, .iload 2), (15, none, .iaload), (16, none, .sipush 83), (18, none, .if_icmp .gt 42), (21, none, .aload 0), (22, none, .getfield 1568), (25, none, .iload 2), (26, none, .iaload), (27, none, .sipush 7), (29, none, .irem), (30, none, .aload 0), (31, none, .getfield 1537), (34, none, .iload 1), (35, none, .iaload), (36, none, .if_icmp .ne 24), (39, none, .iload 2), (40, none, .ifCond .le 22), (43, none, .aload 0), (44, none, .getfield 1568), (47, none, .iload 2), (48, none, .iaload), (49, none, .aload 0), (50, none, .getfield 1568), (53, none, .iload 2), (54, none, .sipush 1), (55, none, .isub), (56, none, .iaload), (57, none, .if_icmp .gt 5), (60, some [false, false, false], .sipush 0), (61, none, .freturn), (62, some [true, true, true], .iinc 2 1), (65, none, .goto (-63)), (68, some [true, false, false], .aload 0), (69, none, .getfield 1569), (72, none, .sipush 8), (74, none, .if_icmp .gt 7), (77, none, .sipush 1), (78, none, .goto 4), (81, some [false, false, false], .sipush 0), (82, some [false, false, false], .freturn)]
def qp_M_areDaysOf : QP := (7, [26, 0], 3, qc_M_areDaysOf)
def qc_M_isMeant : List QE := [(0, none, .aload 0), (1, none, .getfield 1544), (4, none, .iload 2), (5, none, .iaload), (6, none, .iload 1), (7, none, .if_icmp .ne 25), (10, none, .aload 0), (11, none, .getfield 1546), (14, none, .iload 2), (15, none, .iaload), (16, none, .ifCond .ne 16), (19, none, .aload 0), (20, none, .iload 2), (21, none, .iload 3), (22, none, .invokeinterface 178 25), (25, none, .ifCond .eq 7), (28, none, .sipush 1), (29, none, .goto 4), (32, some [false, false, false, false], .sipush 0), (33, some [false, false, false, false], .freturn)]
def qp_M_isMeant : QP := (7, [26, 0, 0, 0], 4, qc_M_isMeant)
def qc_M_waysWithout : List QE := [(0, none, .sipush 0), (1, none, .istore 3), (2, some [true, true, true, true, false, false], .iload 3), (3, none, .sipush 1), (4, none, .aload 0), (5, none, .getfield 1547), (8, none, .ishl), (9, none, .if_icmp .ge 24), (12, none, .aload 0), (13, none, .getfield 1570), (16, none, .iload 3), (17, none, .iload 3), (18, none, .ifCond .ne 7), (21, none, .goto_w 1), (22, none, .goto 4), (25, some [true, true, true, true, false, false], .goto_w 0), (26, some [true, true, true, true, false, false], .lastore), (27, none, .iinc 3 1), (30, none, .goto (-28)), (33, some [true, true, true, false, false, false], .sipush 0), (34, none, .istore 3), (35, some [true, true, true, true, false, false], .iload 3), (36, none, .aload 0), (37, none, .getfield 1569), (40, none, .if_icmp .ge 114), (43, none, .sipush 1), (44, none, .aload 0), (45, none, .getfield 1547), (48, none, .ishl), (49, none, .sipush 1), (50, none, .isub), (51, none, .istore 4), (53, some [true, true, true, true, true, false], .iload 4), (55, none, .ifCond .lt 93), (58, none, .iload 4), (60, none, .invokeinterface 158 9), (63, none, .iload 3), (64, none, .if_icmp .eq 6), (67, none, .goto 75), (70, some [true, true, true, true, true, false], .sipush 0), (71, none, .istore 5), (73, some [true, true, true, true, true, true], .iload 5), (75, none, .aload 0), (76, none, .getfield 1547), (79, none, .if_icmp .ge 63), (82, none, .iload 5), (84, none, .iload 2), (85, none, .if_icmp .eq 51), (88, none, .iload 4), (90, none, .iload 5), (92, none, .invokeinterface 157 17), (95, none, .ifCond .ne 41), (98, none, .aload 0), (99, none, .iload 1), (100, none, .iload 5), (102, none, .aload 0), (103, none, .getfield 1568), (106, none, .iload 3), (107, none, .iaload), (108, none, .invokeinterface 220 33), (111, none, .ifCond .eq 25), (114, none, .aload 0), (115, none, .getfield 1570), (118, none, .iload 4), (120, none, .sipush 1), (121, none, .iload 5), (123, none, .ishl), (124, none, .ior), (125, none, .dup2), (126, none, .laload), (127, none, .aload 0), (128, none, .getfield 1570), (131, none, .iload 4), (133, none, .laload), (134, none, .ladd), (135, none, .lastore), (136, some [true, true, true, true, true, true], .iinc 5 1), (139, none, .goto (-66)), (142, some [true, true, true, true, true, false], .iinc 4 (-1)), (145, none, .goto (-92)), (148, some [true, true, true, true, false, false], .iinc 3 1), (151, none, .goto (-116)), (154, some [true, false, false, false, false, false], .goto_w 0), (155, none, .lstore 3), (156, none, .sipush 0), (157, none, .istore 5), (159, some [true, false, false, true, false, true], .iload 5), (161, none, .sipush 1), (162, none, .aload 0), (163, none, .getfield 1547), (166, none, .ishl), (167, none, .if_icmp .ge 35), (170, none, .lload 3), (171, none, .iload 5), (173, none, .invokeinterface 158 9), (176, none, .aload 0), (177, none, .getfield 1569), (180, none, .if_icmp .ne 13), (183, none, .aload 0), (184, none, .getfield 1570), (187, none, .iload 5), (189, none, .laload), (190, none, .goto 4), (193, some [true, false, false, false, false, true], .goto_w 0), (194, some [true, false, false, false, false, true], .ladd), (195, none, .lstore 3), (196, none, .iinc 5 1), (199, none, .goto (-40)), (202, some [false, false, false, true, false, false], .lload 3), (203, none, .lreturn)]
def qp_M_waysWithout : QP := (7, [26, 0, 0], 6, qc_M_waysWithout)
def qc_M_meant : List QE := [(0, none, .iload 1), (1, none, .invokeinterface 159 9), (4, none, .ifCond .ne 7), (7, none, .sipush (-1)), (8, none, .goto 31), (11, some [true, true, true, false, false, false, false, false, false, false, false, false, false], .iload 2), (12, none, .sipush 0), (13, none, .sipush 2), (14, none, .invokeinterface 155 25), (17, none, .ifCond .ne 8), (20, none, .sipush (-2)), (22, none, .goto 17), (25, some [true, true, true, false, false, false, false, false, false, false, false, false, false], .aload 0), (26, none, .iload 1), (27, none, .invokeinterface 219 17), (30, none, .ifCond .ne 8), (33, none, .sipush (-3)), (35, none, .goto 4), (38, some [true, true, true, false, false, false, false, false, false, false, false, false, false], .sipush 0), (39, some [true, true, true, false, false, false, false, false, false, false, false, false, false], .istore 3), (40, none, .iload 3), (41, none, .ifCond .eq 9), (44, none, .aload 0), (45, none, .iload 3), (46, none, .invokeinterface 154 18), (49, none, .lreturn), (50, some [true, true, true, false, false, false, false, false, false, false, false, false, false], .aload 0), (51, none, .iload 1), (52, none, .sipush (-9)), (54, none, .invokeinterface 221 26), (57, none, .lstore 4), (59, none, .iload 2), (60, none, .ifCond .ne 6), (63, none, .lload 4), (65, none, .lreturn), (66, some [true, true, true, false, true, false, false, false, false, false, false, false, false], .goto_w 0), (67, none, .lstore 6), (69, none, .goto_w 0), (70, none, .lstore 8), (72, none, .sipush 0), (73, none, .istore 10), (75, some [true, true, true, false, true, false, true, false, true, false, true, false, false], .iload 10), (77, none, .aload 0), (78, none, .getfield 1547), (81, none, .if_icmp .ge 84), (84, none, .aload 0), (85, none, .getfield 1544), (88, none, .iload 10), (90, none, .iaload), (91, none, .iload 1), (92, none, .if_icmp .ne 67), (95, none, .aload 0), (96, none, .getfield 1546), (99, none, .iload 10), (101, none, .iaload), (102, none, .sipush 1), (103, none, .if_icmp .ne 6), (106, none, .goto 53), (109, some [true, true, true, false, true, false, true, false, true, false, true, false, false], .aload 0), (110, none, .iload 1), (111, none, .iload 10), (113, none, .invokeinterface 221 26), (116, none, .lstore 11), (118, none, .lload 6), (120, none, .lload 11), (122, none, .goto_w 0), (123, none, .lcmp), (124, none, .ifCond .ne 10), (127, none, .goto_w 1), (128, none, .iload 10), (130, none, .lshl), (131, none, .goto 4), (134, some [true, true, true, false, true, false, false, false, true, false, true, true, false], .goto_w 0), (135, some [true, true, true, false, true, false, false, false, true, false, true, true, false], .lor), (136, none, .lstore 6), (138, none, .lload 8), (140, none, .lload 11), (142, none, .lload 4), (144, none, .lcmp), (145, none, .ifCond .ge 10), (148, none, .goto_w 1), (149, none, .iload 10), (151, none, .lshl), (152, none, .goto 4), (155, some [true, true, true, false, true, false, true, false, false, false, true, false, false], .goto_w 0), (156, some [true, true, true, false, true, false, true, false, false, false, true, false, false], .lor), (157, none, .lstore 8), (159, some [true, true, true, false, true, false, true, false, true, false, true, false, false], .iinc 10 1), (162, none, .goto (-87)), (165, some [false, false, true, false, false, false, true, false, true, false, false, false, false], .iload 2), (166, none, .sipush 1), (167, none, .if_icmp .ne 8), (170, none, .lload 6), (172, none, .goto 5), (175, some [false, false, false, false, false, false, false, false, true, false, false, false, false], .lload 8), (177, some [false, false, false, false, false, false, false, false, false, false, false, false, false], .lreturn)]
def qp_M_meant : QP := (7, [26, 0, 0], 13, qc_M_meant)
def qc_M_areUpTo : List QE := [(0, none, .sipush 0), (1, none, .istore 2), (2, some [true, true, true], .iload 2), (3, none, .aload 0), (4, none, .getfield 1569), (7, none, .if_icmp .ge 21), (10, none, .aload 0), (11, none, .getfield 1568), (14, none, .iload 2), (15, none, .iaload), (16, none, .iload 1), (17, none, .if_icmp .le 5), (20, none, .sipush 0), (21, none, .freturn), (22, some [true, true, true], .iinc 2 1), (25, none, .goto (-23)), (28, some [false, false, false], .sipush 1), (29, none, .freturn)]
def qp_M_areUpTo : QP := (7, [26, 0], 3, qc_M_areUpTo)
def qc_M_isLaw : List QE := [(0, none, .sipush 0), (1, none, .istore 3), (2, some [true, true, true, true], .iload 3), (3, none, .aload 0), (4, none, .getfield 1569), (7, none, .if_icmp .ge 23), (10, none, .aload 0), (11, none, .getfield 1568), (14, none, .iload 3), (15, none, .iaload), (16, none, .iload 1), (17, none, .irem), (18, none, .iload 2), (19, none, .if_icmp .eq 5), (22, none, .sipush 0), (23, none, .freturn), (24, some [true, true, true, true], .iinc 3 1), (27, none, .goto (-25)), (30, some [false, false, false, false], .sipush 1), (31, none, .freturn)]
def qp_M_isLaw : QP := (7, [26, 0, 0], 4, qc_M_isLaw)
def qc_M_law : List QE := [(0, none, .iload 1), (1, none, .sipush 0), (2, none, .sipush 1), (3, none, .invokeinterface 155 25), (6, none, .ifCond .ne 8), (9, none, .sipush (-2)), (11, none, .goto 18), (14, some [true, true, false, false, false, false, false], .aload 0), (15, none, .sipush 83), (17, none, .invokeinterface 223 17), (20, none, .ifCond .ne 8), (23, none, .sipush (-3)), (25, none, .goto 4), (28, some [true, true, false, false, false, false, false], .sipush 0), (29, some [true, true, false, false, false, false, false], .istore 2), (30, none, .iload 2), (31, none, .ifCond .eq 9), (34, none, .aload 0), (35, none, .iload 2), (36, none, .invokeinterface 152 17), (39, none, .ireturn), (40, some [true, true, false, false, false, false, false], .sipush 0), (41, none, .istore 3), (42, none, .sipush (-9)), (44, none, .istore 4), (46, none, .sipush 0), (47, none, .istore 5), (49, some [true, true, false, true, true, true, false], .iload 5), (51, none, .sipush 400), (54, none, .if_icmp .ge 61), (57, none, .iload 5), (59, none, .sipush 20), (61, none, .idiv), (62, none, .sipush 1), (63, none, .iadd), (64, none, .istore 6), (66, none, .iload 5), (68, none, .sipush 20), (70, none, .irem), (71, none, .iload 6), (73, none, .if_icmp .ge 36), (76, none, .aload 0), (77, none, .iload 6), (79, none, .iload 5), (81, none, .sipush 20), (83, none, .irem), (84, none, .invokeinterface 224 25), (87, none, .ifCond .ne 6), (90, none, .goto 19), (93, some [true, true, false, true, false, true, true], .iinc 3 1), (96, none, .sipush 100), (98, none, .iload 6), (100, none, .imul), (101, none, .iload 5), (103, none, .sipush 20), (105, none, .irem), (106, none, .iadd), (107, none, .istore 4), (109, some [true, true, false, true, true, true, false], .iinc 5 1), (112, none, .goto (-63)), (115, some [false, true, false, true, true, false, false], .iload 1), (116, none, .ifCond .ne 7), (119, none, .iload 3), (120, none, .goto 5), (123, some [false, false, false, false, true, false, false], .iload 4), (125, some [false, false, false, false, false, false, false], .ireturn)]
def qp_M_law : QP := (7, [26, 0], 7, qc_M_law)
def qc_M_fewestFriends : List QE := [(0, none, .aload 0), (1, none, .getfield 1569), (4, none, .sipush 2), (5, none, .iadd), (6, none, .sipush 3), (7, none, .idiv), (8, none, .istore 1), (9, none, .sipush 0), (10, none, .istore 2), (11, some [true, true, true, false], .iload 2), (12, none, .sipush 7), (14, none, .if_icmp .ge 39), (17, none, .aload 0), (18, none, .getfield 1571), (21, none, .iload 2), (22, none, .iaload), (23, none, .aload 0), (24, none, .getfield 1571), (27, none, .iload 2), (28, none, .sipush 1), (29, none, .iadd), (30, none, .sipush 7), (32, none, .irem), (33, none, .iaload), (34, none, .iadd), (35, none, .istore 3), (36, none, .iload 3), (37, none, .iload 1), (38, none, .if_icmp .le 7), (41, none, .iload 3), (42, none, .goto 4), (45, some [true, true, true, false], .iload 1), (46, some [true, false, true, false], .istore 1), (47, none, .iinc 2 1), (50, none, .goto (-39)), (53, some [false, true, false, false], .iload 1), (54, none, .ireturn)]
def qp_M_fewestFriends : QP := (7, [26], 4, qc_M_fewestFriends)
def qc_M_friends : List QE := [(0, none, .iload 1), (1, none, .sipush 0), (2, none, .sipush 1), (3, none, .invokeinterface 155 25), (6, none, .ifCond .ne 8), (9, none, .sipush (-2)), (11, none, .goto 18), (14, some [true, true, false, false, false], .aload 0), (15, none, .sipush 6), (17, none, .invokeinterface 223 17), (20, none, .ifCond .ne 8), (23, none, .sipush (-3)), (25, none, .goto 4), (28, some [true, true, false, false, false], .sipush 0), (29, some [true, true, false, false, false], .istore 2), (30, none, .iload 2), (31, none, .ifCond .eq 9), (34, none, .aload 0), (35, none, .iload 2), (36, none, .invokeinterface 152 17), (39, none, .ireturn), (40, some [true, true, false, false, false], .sipush 0), (41, none, .istore 3), (42, some [true, true, false, true, false], .iload 3), (43, none, .sipush 7), (45, none, .if_icmp .ge 16), (48, none, .aload 0), (49, none, .getfield 1571), (52, none, .iload 3), (53, none, .sipush 0), (54, none, .iastore), (55, none, .iinc 3 1), (58, none, .goto (-16)), (61, some [true, true, false, false, false], .sipush 0), (62, none, .istore 3), (63, some [true, true, false, true, false], .iload 3), (64, none, .aload 0), (65, none, .getfield 1569), (68, none, .if_icmp .ge 24), (71, none, .aload 0), (72, none, .getfield 1571), (75, none, .aload 0), (76, none, .getfield 1568), (79, none, .iload 3), (80, none, .iaload), (81, none, .dup2), (82, none, .iaload), (83, none, .sipush 1), (84, none, .iadd), (85, none, .iastore), (86, none, .iinc 3 1), (89, none, .goto (-26)), (92, some [true, true, false, false, false], .iload 1), (93, none, .ifCond .ne 8), (96, none, .aload 0), (97, none, .invokeinterface 226 9), (100, none, .ireturn), (101, some [true, false, false, false, false], .sipush 0), (102, none, .istore 3), (103, none, .sipush 1), (104, none, .istore 4), (106, some [true, false, false, true, true], .iload 4), (108, none, .sipush 7), (110, none, .if_icmp .ge 32), (113, none, .aload 0), (114, none, .getfield 1571), (117, none, .iload 4), (119, none, .iaload), (120, none, .aload 0), (121, none, .getfield 1571), (124, none, .iload 3), (125, none, .iaload), (126, none, .if_icmp .le 8), (129, none, .iload 4), (131, none, .goto 4), (134, some [true, false, false, true, true], .iload 3), (135, some [true, false, false, false, true], .istore 3), (136, none, .iinc 4 1), (139, none, .goto (-33)), (142, some [true, false, false, true, false], .aload 0), (143, none, .getfield 1569), (146, none, .ifCond .ne 8), (149, none, .sipush (-9)), (151, none, .goto 4), (154, some [false, false, false, true, false], .iload 3), (155, some [false, false, false, false, false], .ireturn)]
def qp_M_friends : QP := (7, [26, 0], 5, qc_M_friends)
def qc_M_divisor : List QE := [(0, none, .lload 0), (1, none, .lstore 4), (3, none, .lload 2), (4, none, .lstore 6), (6, some [false, false, false, false, true, false, true, false, false, false], .lload 6), (8, none, .goto_w 0), (9, none, .lcmp), (10, none, .ifCond .eq 21), (13, none, .lload 4), (15, none, .lload 6), (17, none, .lrem), (18, none, .lstore 8), (20, none, .lload 6), (22, none, .lstore 4), (24, none, .lload 8), (26, none, .lstore 6), (28, none, .goto (-22)), (31, some [false, false, false, false, true, false, false, false, false, false], .lload 4), (33, none, .lreturn)]
def qp_M_divisor : QP := (7, [1, 1], 10, qc_M_divisor)
def qc_M_power : List QE := [(0, none, .goto_w 1), (1, none, .lstore 3), (2, none, .sipush 0), (3, none, .istore 5), (5, some [true, false, true, true, false, true], .iload 5), (7, none, .iload 2), (8, none, .if_icmp .ge 13), (11, none, .lload 3), (12, none, .lload 0), (13, none, .lmul), (14, none, .lstore 3), (15, none, .iinc 5 1), (18, none, .goto (-13)), (21, some [false, false, false, true, false, false], .lload 3), (22, none, .lreturn)]
def qp_M_power : QP := (7, [1, 0], 6, qc_M_power)
def qc_M_chance : List QE := [(0, none, .iload 1), (1, none, .sipush 2), (2, none, .if_icmp .lt 7), (5, none, .iload 2), (6, none, .ifCond .ge 8), (9, some [true, true, true, true, false, false, false, false, false], .sipush (-4)), (11, none, .goto 35), (14, some [true, true, true, true, false, false, false, false, false], .iload 1), (15, none, .sipush 20), (17, none, .if_icmp .gt 9), (20, none, .iload 2), (21, none, .sipush 12), (23, none, .if_icmp .le 8), (26, some [true, true, true, true, false, false, false, false, false], .sipush (-6)), (28, none, .goto 18), (31, some [true, true, true, true, false, false, false, false, false], .iload 3), (32, none, .sipush 0), (33, none, .sipush 1), (34, none, .invokeinterface 155 25), (37, none, .ifCond .ne 8), (40, none, .sipush (-2)), (42, none, .goto 4), (45, some [true, true, true, true, false, false, false, false, false], .sipush 0), (46, some [true, true, true, true, false, false, false, false, false], .istore 4), (48, none, .iload 4), (50, none, .ifCond .eq 10), (53, none, .aload 0), (54, none, .iload 4), (56, none, .invokeinterface 154 18), (59, none, .lreturn), (60, some [false, true, true, true, false, false, false, false, false], .iload 1), (61, none, .i2l), (62, none, .iload 2), (63, none, .invokeinterface 229 18), (66, none, .lstore 5), (68, none, .lload 5), (70, none, .iload 1), (71, none, .sipush 1), (72, none, .isub), (73, none, .i2l), (74, none, .iload 2), (75, none, .invokeinterface 229 18), (78, none, .lsub), (79, none, .lstore 7), (81, none, .iload 3), (82, none, .ifCond .ne 8), (85, none, .lload 7), (87, none, .goto 5), (90, some [false, false, false, false, false, true, false, true, false], .lload 5), (92, some [false, false, false, false, false, true, false, true, false], .lload 7), (94, none, .lload 5), (96, none, .invokeinterface 228 18), (99, none, .ldiv), (100, none, .lreturn)]
def qp_M_chance : QP := (7, [26, 0, 0, 0], 9, qc_M_chance)
def qc_M_keep : List QE := [(0, none, .iload 1), (1, none, .sipush 2), (2, none, .sipush 20), (4, none, .invokeinterface 156 25), (7, none, .istore 2), (8, none, .iload 2), (9, none, .ifCond .eq 9), (12, none, .aload 0), (13, none, .iload 2), (14, none, .invokeinterface 152 17), (17, none, .ireturn), (18, some [false, true, false, false], .sipush 0), (19, none, .istore 3), (20, some [false, true, false, true], .iload 3), (21, none, .sipush 13), (23, none, .if_icmp .ge 33), (26, none, .goto_w 2), (29, none, .iload 1), (30, none, .sipush 1), (31, none, .isub), (32, none, .i2l), (33, none, .iload 3), (34, none, .invokeinterface 229 18), (37, none, .lmul), (38, none, .iload 1), (39, none, .i2l), (40, none, .iload 3), (41, none, .invokeinterface 229 18), (44, none, .lcmp), (45, none, .ifCond .gt 5), (48, none, .iload 3), (49, none, .ireturn), (50, some [false, true, false, true], .iinc 3 1), (53, none, .goto (-33)), (56, some [false, false, false, false], .sipush (-9)), (58, none, .ireturn)]
def qp_M_keep : QP := (7, [26, 0], 4, qc_M_keep)
def qc_M_goesOne : List QE := [(0, none, .sipush 0), (1, none, .istore 1), (2, some [true, true, false], .iload 1), (3, none, .sipush 2), (4, none, .if_icmp .ge 59), (7, none, .aload 0), (8, none, .getfield 1537), (11, none, .iload 1), (12, none, .iaload), (13, none, .aload 0), (14, none, .getfield 1548), (17, none, .sipush 7), (19, none, .irem), (20, none, .if_icmp .ne 37), (23, none, .aload 0), (24, none, .getfield 1541), (27, none, .iload 1), (28, none, .iaload), (29, none, .sipush 1), (30, none, .if_icmp .ne 6), (33, none, .goto 24), (36, some [true, true, false], .aload 0), (37, none, .iload 1), (38, none, .aload 0), (39, none, .getfield 1548), (42, none, .sipush 0), (43, none, .invokeinterface 192 33), (46, none, .istore 2), (47, none, .iload 2), (48, none, .ifCond .lt 9), (51, none, .aload 0), (52, none, .iload 2), (53, none, .invokeinterface 183 17), (56, none, .pop), (57, some [true, true, false], .iinc 1 1), (60, none, .goto (-58)), (63, some [true, false, false], .aload 0), (64, none, .invokeinterface 184 8), (67, none, .return_)]
def qp_M_goesOne : QP := (7, [26], 3, qc_M_goesOne)
def qc_M_goesTo : List QE := [(0, some [true, true], .aload 0), (1, none, .getfield 1548), (4, none, .iload 1), (5, none, .if_icmp .ge 10), (8, none, .aload 0), (9, none, .invokeinterface 232 8), (12, none, .goto (-12)), (15, some [false, false], .return_)]
def qp_M_goesTo : QP := (7, [26, 0], 2, qc_M_goesTo)
def qc_M_run : List QE := [(0, none, .aload 0), (1, none, .iload 1), (2, none, .iload 2), (3, none, .invokeinterface 194 25), (6, none, .istore 4), (8, none, .iload 4), (10, none, .ifCond .ne 16), (13, none, .iload 3), (14, none, .sipush 0), (15, none, .sipush 2), (16, none, .invokeinterface 155 25), (19, none, .ifCond .ne 7), (22, none, .sipush (-2)), (24, none, .istore 4), (26, some [true, true, true, true, true, false], .iload 4), (28, none, .ifCond .eq 10), (31, none, .aload 0), (32, none, .iload 4), (34, none, .invokeinterface 152 17), (37, none, .ireturn), (38, some [true, true, true, true, false, false], .aload 0), (39, none, .sipush 1), (40, none, .sipush 1), (41, none, .invokeinterface 170 24), (44, none, .aload 0), (45, none, .iload 2), (46, none, .invokeinterface 233 16), (49, none, .iload 3), (50, none, .ifCond .ne 12), (53, none, .aload 0), (54, none, .getfield 1538), (57, none, .iload 1), (58, none, .iaload), (59, none, .goto 23), (62, some [true, true, false, true, false, false], .iload 3), (63, none, .sipush 1), (64, none, .if_icmp .ne 12), (67, none, .aload 0), (68, none, .getfield 1539), (71, none, .iload 1), (72, none, .iaload), (73, none, .goto 9), (76, some [true, true, false, false, false, false], .aload 0), (77, none, .getfield 1540), (80, none, .iload 1), (81, none, .iaload), (82, some [true, false, false, false, false, false], .istore 5), (84, none, .aload 0), (85, none, .sipush 1), (86, none, .sipush 0), (87, none, .invokeinterface 170 24), (90, none, .iload 5), (92, none, .ireturn)]
def qp_M_run : QP := (7, [26, 0, 0, 0], 6, qc_M_run)
def qc_M_notGift : List QE := [(0, none, .iload 1), (1, none, .invokeinterface 159 9), (4, none, .ifCond .ne 5), (7, none, .sipush (-1)), (8, none, .ireturn), (9, some [true, false, true, true, true], .iload 2), (10, none, .sipush 0), (11, none, .sipush 5), (12, none, .invokeinterface 155 25), (15, none, .ifCond .ne 6), (18, none, .sipush (-2)), (20, none, .ireturn), (21, some [true, false, false, true, true], .iload 3), (22, none, .ifCond .lt 12), (25, none, .iload 4), (27, none, .aload 0), (28, none, .getfield 1548), (31, none, .if_icmp .ge 8), (34, some [false, false, false, false, false], .sipush (-4)), (36, none, .goto 22), (39, some [false, false, false, true, true], .iload 3), (40, none, .sipush 9), (42, none, .if_icmp .gt 10), (45, none, .iload 4), (47, none, .sipush 83), (49, none, .if_icmp .le 8), (52, some [false, false, false, false, false], .sipush (-6)), (54, none, .goto 4), (57, some [false, false, false, false, false], .sipush 0), (58, some [false, false, false, false, false], .ireturn)]
def qp_M_notGift : QP := (7, [26, 0, 0, 0, 0], 5, qc_M_notGift)
def qc_M_laidWith : List QE := [(0, none, .aload 0), (1, none, .iload 2), (2, none, .iload 3), (3, none, .iload 1), (4, none, .iload 4), (6, none, .invokeinterface 180 40), (9, none, .aload 0), (10, none, .iload 1), (11, none, .iload 5), (13, none, .invokeinterface 202 25), (16, none, .istore 6), (18, none, .aload 0), (19, none, .dup), (20, none, .getfield 1547), (23, none, .sipush 1), (24, none, .isub), (25, none, .putfield 1547), (28, none, .iload 6), (30, none, .ireturn)]
def qp_M_laidWith : QP := (7, [26, 0, 0, 0, 0, 0], 7, qc_M_laidWith)
def qc_M_gift : List QE := [(0, none, .aload 0), (1, none, .iload 1), (2, none, .sipush 0), (3, none, .iload 2), (4, none, .iload 3), (5, none, .invokeinterface 235 41), (8, none, .istore 4), (10, none, .iload 4), (12, none, .ifCond .eq 10), (15, none, .aload 0), (16, none, .iload 4), (18, none, .invokeinterface 152 17), (21, none, .ireturn), (22, some [true, true, true, true, false, false, false, false, false], .aload 0), (23, none, .iload 1), (24, none, .iload 3), (25, none, .invokeinterface 202 25), (28, none, .istore 5), (30, none, .sipush (-9)), (32, none, .istore 6), (34, none, .sipush 0), (35, none, .istore 7), (37, some [true, true, true, true, false, true, true, true, false], .iload 7), (39, none, .sipush 6), (41, none, .if_icmp .ge 51), (44, none, .aload 0), (45, none, .getfield 1547), (48, none, .sipush 12), (50, none, .if_icmp .ge 42), (53, none, .aload 0), (54, none, .iload 1), (55, none, .iload 7), (57, none, .iload 2), (58, none, .aload 0), (59, none, .getfield 1548), (62, none, .iload 3), (63, none, .invokeinterface 236 49), (66, none, .istore 8), (68, none, .iload 8), (70, none, .iload 5), (72, none, .if_icmp .gt 6), (75, none, .goto 11), (78, some [true, true, true, true, false, false, false, true, true], .iload 7), (80, none, .istore 6), (82, none, .iload 8), (84, none, .istore 5), (86, some [true, true, true, true, false, true, true, true, false], .iinc 7 1), (89, none, .goto (-52)), (92, some [false, false, false, false, false, false, true, false, false], .iload 6), (94, none, .ireturn)]
def qp_M_gift : QP := (7, [26, 0, 0, 0], 9, qc_M_gift)
def qc_M_when : List QE := [(0, none, .aload 0), (1, none, .iload 1), (2, none, .iload 2), (3, none, .iload 3), (4, none, .iload 4), (6, none, .invokeinterface 235 41), (9, none, .istore 5), (11, none, .iload 5), (13, none, .ifCond .eq 10), (16, none, .aload 0), (17, none, .iload 5), (19, none, .invokeinterface 152 17), (22, none, .ireturn), (23, some [true, true, true, true, true, false, false, false, false, false], .aload 0), (24, none, .iload 1), (25, none, .iload 4), (27, none, .invokeinterface 202 25), (30, none, .istore 6), (32, none, .sipush (-9)), (34, none, .istore 7), (36, none, .aload 0), (37, none, .getfield 1548), (40, none, .istore 8), (42, some [true, true, true, true, true, false, true, true, true, false], .iload 8), (44, none, .iload 4), (46, none, .if_icmp .gt 49), (49, none, .aload 0), (50, none, .getfield 1547), (53, none, .sipush 12), (55, none, .if_icmp .ge 40), (58, none, .aload 0), (59, none, .iload 1), (60, none, .iload 2), (61, none, .iload 3), (62, none, .iload 8), (64, none, .iload 4), (66, none, .invokeinterface 236 49), (69, none, .istore 9), (71, none, .iload 9), (73, none, .iload 6), (75, none, .if_icmp .gt 6), (78, none, .goto 11), (81, some [true, true, true, true, true, false, false, false, true, true], .iload 8), (83, none, .istore 7), (85, none, .iload 9), (87, none, .istore 6), (89, some [true, true, true, true, true, false, true, true, true, false], .iinc 8 1), (92, none, .goto (-50)), (95, some [false, false, false, false, false, false, false, true, false, false], .iload 7), (97, none, .ireturn)]
def qp_M_when : QP := (7, [26, 0, 0, 0, 0], 10, qc_M_when)
def qc_M_laidOfBoth : List QE := [(0, none, .aload 0), (1, none, .sipush 0), (2, none, .iload 1), (3, none, .invokeinterface 202 25), (6, none, .aload 0), (7, none, .sipush 1), (8, none, .iload 1), (9, none, .invokeinterface 202 25), (12, none, .iadd), (13, none, .ireturn)]
def qp_M_laidOfBoth : QP := (7, [26, 0], 2, qc_M_laidOfBoth)
def qc_M_changed : List QE := [(0, none, .iload 1), (1, none, .aload 0), (2, none, .getfield 1548), (5, none, .sipush 83), (7, none, .invokeinterface 156 25), (10, none, .istore 2), (11, none, .iload 2), (12, none, .ifCond .eq 9), (15, none, .aload 0), (16, none, .iload 2), (17, none, .invokeinterface 152 17), (20, none, .ireturn), (21, some [true, true, false, false, false, false, false], .aload 0), (22, none, .iload 1), (23, none, .invokeinterface 239 17), (26, none, .istore 3), (27, none, .sipush (-9)), (29, none, .istore 4), (31, none, .sipush 0), (32, none, .istore 5), (34, some [true, true, false, true, true, true, false], .iload 5), (36, none, .aload 0), (37, none, .getfield 1547), (40, none, .if_icmp .ge 78), (43, none, .aload 0), (44, none, .getfield 1546), (47, none, .iload 5), (49, none, .iaload), (50, none, .sipush 1), (51, none, .if_icmp .ne 6), (54, none, .goto 58), (57, some [true, true, false, true, true, true, false], .aload 0), (58, none, .getfield 1544), (61, none, .iload 5), (63, none, .sipush 1), (64, none, .aload 0), (65, none, .getfield 1544), (68, none, .iload 5), (70, none, .iaload), (71, none, .isub), (72, none, .iastore), (73, none, .aload 0), (74, none, .iload 1), (75, none, .invokeinterface 239 17), (78, none, .istore 6), (80, none, .aload 0), (81, none, .getfield 1544), (84, none, .iload 5), (86, none, .sipush 1), (87, none, .aload 0), (88, none, .getfield 1544), (91, none, .iload 5), (93, none, .iaload), (94, none, .isub), (95, none, .iastore), (96, none, .iload 6), (98, none, .iload 3), (99, none, .if_icmp .gt 6), (102, none, .goto 10), (105, some [true, true, false, false, false, true, true], .iload 5), (107, none, .istore 4), (109, none, .iload 6), (111, none, .istore 3), (112, some [true, true, false, true, true, true, false], .iinc 5 1), (115, none, .goto (-81)), (118, some [false, false, false, false, true, false, false], .iload 4), (120, none, .ireturn)]
def qp_M_changed : QP := (7, [26, 0], 7, qc_M_changed)
def qc_M_apartBy : List QE := [(0, none, .sipush 0), (1, none, .istore 3), (2, none, .sipush 0), (3, none, .istore 4), (5, some [true, true, true, true, true], .iload 4), (7, none, .aload 0), (8, none, .getfield 1547), (11, none, .if_icmp .ge 50), (14, none, .iload 3), (15, none, .iload 1), (16, none, .iload 4), (18, none, .invokeinterface 157 17), (21, none, .ifCond .eq 12), (24, none, .aload 0), (25, none, .iload 4), (27, none, .invokeinterface 176 17), (30, none, .goto 23), (33, some [true, true, true, false, true], .iload 2), (34, none, .iload 4), (36, none, .invokeinterface 157 17), (39, none, .ifCond .eq 13), (42, none, .aload 0), (43, none, .iload 4), (45, none, .invokeinterface 176 17), (48, none, .ineg), (49, none, .goto 4), (52, some [true, true, true, false, true], .sipush 0), (53, some [true, true, true, false, true], .iadd), (54, none, .istore 3), (55, none, .iinc 4 1), (58, none, .goto (-53)), (61, some [false, false, false, true, false], .iload 3), (62, none, .ifCond .ge 8), (65, none, .iload 3), (66, none, .ineg), (67, none, .goto 4), (70, some [false, false, false, true, false], .iload 3), (71, some [false, false, false, false, false], .ireturn)]
def qp_M_apartBy : QP := (7, [26, 0, 0], 5, qc_M_apartBy)
def qc_M_alike : List QE := [(0, none, .iload 1), (1, none, .sipush 0), (2, none, .sipush 1), (3, none, .invokeinterface 155 25), (6, none, .ifCond .ne 10), (9, none, .aload 0), (10, none, .sipush (-2)), (12, none, .invokeinterface 152 17), (15, none, .ireturn), (16, some [true, true, false, false, false, false], .aload 0), (17, none, .invokeinterface 214 9), (20, none, .istore 2), (21, none, .iload 2), (22, none, .iload 2), (23, none, .ineg), (24, none, .iand), (25, none, .istore 3), (26, none, .iload 3), (27, none, .istore 4), (29, none, .sipush 0), (30, none, .istore 5), (32, some [true, true, true, true, true, true], .iload 5), (34, none, .sipush 1), (35, none, .aload 0), (36, none, .getfield 1547), (39, none, .ishl), (40, none, .if_icmp .ge 74), (43, none, .iload 5), (45, none, .iload 2), (46, none, .sipush (-1)), (47, none, .ixor), (48, none, .iand), (49, none, .ifCond .ne 59), (52, none, .iload 5), (54, none, .iload 3), (55, none, .iand), (56, none, .iload 3), (57, none, .if_icmp .eq 6), (60, none, .goto 48), (63, some [true, true, true, true, true, true], .aload 0), (64, none, .iload 5), (66, none, .iload 2), (67, none, .invokeinterface 241 25), (70, none, .aload 0), (71, none, .iload 4), (73, none, .iload 2), (74, none, .invokeinterface 241 25), (77, none, .if_icmp .lt 27), (80, none, .aload 0), (81, none, .iload 5), (83, none, .iload 2), (84, none, .invokeinterface 241 25), (87, none, .aload 0), (88, none, .iload 4), (90, none, .iload 2), (91, none, .invokeinterface 241 25), (94, none, .if_icmp .ne 14), (97, none, .iload 5), (99, none, .iload 4), (101, none, .if_icmp .ge 7), (104, some [true, true, true, true, false, true], .iload 5), (106, none, .istore 4), (108, some [true, true, true, true, true, true], .iinc 5 1), (111, none, .goto (-79)), (114, some [true, true, true, false, true, false], .iload 1), (115, none, .ifCond .ne 13), (118, none, .aload 0), (119, none, .iload 4), (121, none, .iload 2), (122, none, .invokeinterface 241 25), (125, none, .goto 5), (128, some [false, false, false, false, true, false], .iload 4), (130, some [false, false, false, false, false, false], .ireturn)]
def qp_M_alike : QP := (7, [26, 0], 6, qc_M_alike)
def qc_M_findBoth : List QE := [(0, none, .aload 0), (1, none, .sipush 0), (2, none, .iload 1), (3, none, .invokeinterface 200 24), (6, none, .aload 0), (7, none, .aload 0), (8, none, .getfield 1565), (11, none, .putfield 1566), (14, none, .sipush 0), (15, none, .istore 2), (16, some [true, true, true], .iload 2), (17, none, .sipush 4096), (20, none, .if_icmp .ge 21), (23, none, .aload 0), (24, none, .getfield 1572), (27, none, .iload 2), (28, none, .aload 0), (29, none, .getfield 1564), (32, none, .iload 2), (33, none, .iaload), (34, none, .iastore), (35, none, .iinc 2 1), (38, none, .goto (-22)), (41, some [true, true, false], .aload 0), (42, none, .sipush 1), (43, none, .iload 1), (44, none, .invokeinterface 200 24), (47, none, .return_)]
def qp_M_findBoth : QP := (7, [26, 0], 3, qc_M_findBoth)
def qc_M_spare : List QE := [(0, none, .iload 1), (1, none, .aload 0), (2, none, .getfield 1548), (5, none, .sipush 83), (7, none, .invokeinterface 156 25), (10, none, .istore 3), (11, none, .iload 3), (12, none, .ifCond .ne 15), (15, none, .iload 2), (16, none, .sipush 0), (17, none, .sipush 1), (18, none, .invokeinterface 155 25), (21, none, .ifCond .ne 6), (24, none, .sipush (-2)), (26, none, .istore 3), (27, some [true, true, true, true, false, false], .iload 3), (28, none, .ifCond .eq 9), (31, none, .aload 0), (32, none, .iload 3), (33, none, .invokeinterface 152 17), (36, none, .ireturn), (37, some [true, true, true, false, false, false], .aload 0), (38, none, .iload 1), (39, none, .invokeinterface 243 16), (42, none, .sipush 0), (43, none, .istore 4), (45, none, .sipush 0), (46, none, .istore 5), (48, some [true, false, true, false, true, true], .iload 5), (50, none, .sipush 1), (51, none, .aload 0), (52, none, .getfield 1547), (55, none, .ishl), (56, none, .if_icmp .ge 93), (59, none, .iload 5), (61, none, .aload 0), (62, none, .invokeinterface 214 9), (65, none, .sipush (-1)), (66, none, .ixor), (67, none, .iand), (68, none, .ifCond .ne 75), (71, none, .iload 5), (73, none, .invokeinterface 158 9), (76, none, .iload 4), (78, none, .invokeinterface 158 9), (81, none, .if_icmp .gt 6), (84, none, .goto 59), (87, some [true, false, true, false, true, true], .aload 0), (88, none, .getfield 1572), (91, none, .aload 0), (92, none, .getfield 1566), (95, none, .iload 5), (97, none, .sipush (-1)), (98, none, .ixor), (99, none, .iand), (100, none, .iaload), (101, none, .aload 0), (102, none, .getfield 1572), (105, none, .aload 0), (106, none, .getfield 1566), (109, none, .iaload), (110, none, .if_icmp .ne 33), (113, none, .aload 0), (114, none, .getfield 1564), (117, none, .aload 0), (118, none, .getfield 1565), (121, none, .iload 5), (123, none, .sipush (-1)), (124, none, .ixor), (125, none, .iand), (126, none, .iaload), (127, none, .aload 0), (128, none, .getfield 1564), (131, none, .aload 0), (132, none, .getfield 1565), (135, none, .iaload), (136, none, .if_icmp .ne 7), (139, none, .iload 5), (141, none, .istore 4), (143, some [true, false, true, false, true, true], .iinc 5 1), (146, none, .goto (-98)), (149, some [false, false, true, false, true, false], .iload 2), (150, none, .ifCond .ne 8), (153, none, .iload 4), (155, none, .goto 8), (158, some [false, false, false, false, true, false], .iload 4), (160, none, .invokeinterface 158 9), (163, some [false, false, false, false, false, false], .ireturn)]
def qp_M_spare : QP := (7, [26, 0, 0], 6, qc_M_spare)
def qc_M_lastGood : List QE := [(0, none, .sipush (-9)), (2, none, .istore 1), (3, none, .aload 0), (4, none, .getfield 1548), (7, none, .istore 2), (8, some [true, true, true, false], .iload 2), (9, none, .sipush 83), (11, none, .if_icmp .gt 49), (14, none, .sipush 0), (15, none, .istore 3), (16, some [true, true, true, true], .iload 3), (17, none, .aload 0), (18, none, .getfield 1547), (21, none, .if_icmp .ge 33), (24, none, .aload 0), (25, none, .getfield 1546), (28, none, .iload 3), (29, none, .iaload), (30, none, .ifCond .ne 16), (33, none, .aload 0), (34, none, .iload 3), (35, none, .iload 2), (36, none, .invokeinterface 178 25), (39, none, .ifCond .eq 7), (42, none, .iload 2), (43, none, .goto 4), (46, some [true, true, true, true], .iload 1), (47, some [true, false, true, true], .istore 1), (48, none, .iinc 3 1), (51, none, .goto (-35)), (54, some [true, true, true, false], .iinc 2 1), (57, none, .goto (-49)), (60, some [false, true, false, false], .iload 1), (61, none, .ireturn)]
def qp_M_lastGood : QP := (7, [26], 4, qc_M_lastGood)
def qc_M_over : List QE := [(0, none, .iload 1), (1, none, .sipush 0), (2, none, .sipush 1), (3, none, .invokeinterface 155 25), (6, none, .ifCond .ne 10), (9, none, .aload 0), (10, none, .sipush (-2)), (12, none, .invokeinterface 152 17), (15, none, .ireturn), (16, some [true, true, false], .aload 0), (17, none, .invokeinterface 245 9), (20, none, .istore 2), (21, none, .iload 1), (22, none, .sipush 1), (23, none, .if_icmp .ne 7), (26, none, .iload 2), (27, none, .goto 17), (30, some [true, false, true], .iload 2), (31, none, .ifCond .ge 10), (34, none, .aload 0), (35, none, .getfield 1548), (38, none, .goto 6), (41, some [false, false, true], .iload 2), (42, none, .sipush 1), (43, none, .iadd), (44, some [false, false, false], .ireturn)]
def qp_M_over : QP := (7, [26, 0], 3, qc_M_over)
def qc_M_streak : List QE := [(0, none, .aload 0), (1, none, .iload 1), (2, none, .iload 2), (3, none, .invokeinterface 194 25), (6, none, .istore 4), (8, none, .iload 4), (10, none, .ifCond .ne 16), (13, none, .iload 3), (14, none, .sipush 0), (15, none, .sipush 1), (16, none, .invokeinterface 155 25), (19, none, .ifCond .ne 7), (22, none, .sipush (-2)), (24, none, .istore 4), (26, some [true, true, true, true, true, false, false, false], .iload 4), (28, none, .ifCond .eq 10), (31, none, .aload 0), (32, none, .iload 4), (34, none, .invokeinterface 152 17), (37, none, .ireturn), (38, some [true, true, true, true, false, false, false, false], .aload 0), (39, none, .iload 1), (40, none, .iload 2), (41, none, .invokeinterface 193 24), (44, none, .sipush 0), (45, none, .istore 5), (47, none, .sipush 0), (48, none, .istore 6), (50, none, .sipush 0), (51, none, .istore 7), (53, some [true, false, false, true, false, true, true, true], .iload 7), (55, none, .aload 0), (56, none, .getfield 1563), (59, none, .if_icmp .ge 62), (62, none, .aload 0), (63, none, .getfield 1562), (66, none, .iload 7), (68, none, .iaload), (69, none, .ifCond .lt 7), (72, none, .sipush 1), (73, none, .goto 4), (76, some [true, false, false, true, false, true, true, true], .sipush 0), (77, some [true, false, false, true, false, true, true, true], .iload 3), (78, none, .ifCond .ne 7), (81, none, .sipush 1), (82, none, .goto 4), (85, some [true, false, false, true, false, true, true, true], .sipush 0), (86, some [true, false, false, true, false, true, true, true], .if_icmp .ne 10), (89, none, .iload 5), (91, none, .sipush 1), (92, none, .iadd), (93, none, .goto 4), (96, some [true, false, false, true, false, false, true, true], .sipush 0), (97, some [true, false, false, true, false, false, true, true], .istore 5), (99, none, .iload 5), (101, none, .iload 6), (103, none, .if_icmp .le 8), (106, none, .iload 5), (108, none, .goto 5), (111, some [true, false, false, true, false, true, true, true], .iload 6), (113, some [true, false, false, true, false, true, false, true], .istore 6), (115, none, .iinc 7 1), (118, none, .goto (-65)), (121, some [false, false, false, false, false, false, true, false], .iload 6), (123, none, .ireturn)]
def qp_M_streak : QP := (7, [26, 0, 0, 0], 8, qc_M_streak)
def qc_M_quarrel : List QE := [(0, none, .iload 1), (1, none, .aload 0), (2, none, .getfield 1548), (5, none, .sipush 83), (7, none, .invokeinterface 156 25), (10, none, .istore 3), (11, none, .iload 3), (12, none, .ifCond .ne 15), (15, none, .iload 2), (16, none, .sipush 0), (17, none, .sipush 1), (18, none, .invokeinterface 155 25), (21, none, .ifCond .ne 6), (24, none, .sipush (-2)), (26, none, .istore 3), (27, some [true, true, true, true, false, false, false], .iload 3), (28, none, .ifCond .eq 9), (31, none, .aload 0), (32, none, .iload 3), (33, none, .invokeinterface 152 17), (36, none, .ireturn), (37, some [true, true, true, false, false, false, false], .sipush 0), (38, none, .istore 4), (40, some [true, true, true, false, true, false, false], .iload 4), (42, none, .sipush 83), (44, none, .if_icmp .gt 17), (47, none, .aload 0), (48, none, .getfield 1573), (51, none, .iload 4), (53, none, .sipush 0), (54, none, .iastore), (55, none, .iinc 4 1), (58, none, .goto (-18)), (61, some [true, true, true, false, false, false, false], .sipush 0), (62, none, .istore 4), (64, some [true, true, true, false, true, false, false], .iload 4), (66, none, .sipush 2), (67, none, .if_icmp .ge 64), (70, none, .aload 0), (71, none, .iload 4), (73, none, .iload 1), (74, none, .invokeinterface 193 24), (77, none, .sipush 0), (78, none, .istore 5), (80, some [true, true, true, false, true, true, false], .iload 5), (82, none, .aload 0), (83, none, .getfield 1563), (86, none, .if_icmp .ge 39), (89, none, .aload 0), (90, none, .getfield 1573), (93, none, .aload 0), (94, none, .getfield 1561), (97, none, .iload 5), (99, none, .iaload), (100, none, .dup2), (101, none, .iaload), (102, none, .aload 0), (103, none, .getfield 1562), (106, none, .iload 5), (108, none, .iaload), (109, none, .ifCond .lt 7), (112, none, .sipush 1), (113, none, .goto 4), (116, some [true, true, true, false, true, true, false], .sipush 0), (117, some [true, true, true, false, true, true, false], .iadd), (118, none, .iastore), (119, none, .iinc 5 1), (122, none, .goto (-42)), (125, some [true, true, true, false, true, false, false], .iinc 4 1), (128, none, .goto (-64)), (131, some [true, false, true, false, false, false, false], .sipush 0), (132, none, .istore 4), (134, none, .sipush (-9)), (136, none, .istore 5), (138, none, .sipush 83), (140, none, .istore 6), (142, some [true, false, true, false, true, true, true], .iload 6), (144, none, .ifCond .lt 30), (147, none, .aload 0), (148, none, .getfield 1573), (151, none, .iload 6), (153, none, .iaload), (154, none, .sipush 2), (155, none, .if_icmp .ge 6), (158, none, .goto 10), (161, some [true, false, true, false, true, false, true], .iinc 4 1), (164, none, .iload 6), (166, none, .istore 5), (168, some [true, false, true, false, true, true, true], .iinc 6 (-1)), (171, none, .goto (-29)), (174, some [false, false, true, false, true, true, false], .iload 2), (175, none, .ifCond .ne 8), (178, none, .iload 4), (180, none, .goto 5), (183, some [false, false, false, false, false, true, false], .iload 5), (185, some [false, false, false, false, false, false, false], .ireturn)]
def qp_M_quarrel : QP := (7, [26, 0, 0], 7, qc_M_quarrel)
def qc_M_swaps : List QE := [(0, none, .aload 0), (1, none, .getfield 1537), (4, none, .sipush 0), (5, none, .iaload), (6, none, .istore 1), (7, none, .aload 0), (8, none, .getfield 1537), (11, none, .sipush 0), (12, none, .aload 0), (13, none, .getfield 1537), (16, none, .sipush 1), (17, none, .iaload), (18, none, .iastore), (19, none, .aload 0), (20, none, .getfield 1537), (23, none, .sipush 1), (24, none, .iload 1), (25, none, .iastore), (26, none, .return_)]
def qp_M_swaps : QP := (7, [26], 2, qc_M_swaps)
def qc_M_swapped : List QE := [(0, none, .iload 1), (1, none, .aload 0), (2, none, .getfield 1548), (5, none, .sipush 83), (7, none, .invokeinterface 156 25), (10, none, .istore 2), (11, none, .iload 2), (12, none, .ifCond .eq 9), (15, none, .aload 0), (16, none, .iload 2), (17, none, .invokeinterface 153 17), (20, none, .ireturn), (21, some [true, true, false, false, false], .aload 0), (22, none, .iload 1), (23, none, .invokeinterface 239 17), (26, none, .istore 3), (27, none, .aload 0), (28, none, .invokeinterface 249 8), (31, none, .aload 0), (32, none, .iload 1), (33, none, .invokeinterface 239 17), (36, none, .istore 4), (38, none, .aload 0), (39, none, .invokeinterface 249 8), (42, none, .iload 4), (44, none, .iload 3), (45, none, .isub), (46, none, .ireturn)]
def qp_M_swapped : QP := (7, [26, 0], 5, qc_M_swapped)
def qc_M_usesNow : List QE := [(0, none, .aload 0), (1, none, .getfield 1537), (4, none, .iload 1), (5, none, .iaload), (6, none, .aload 0), (7, none, .getfield 1548), (10, none, .sipush 7), (12, none, .irem), (13, none, .if_icmp .ne 25), (16, none, .aload 0), (17, none, .getfield 1541), (20, none, .iload 1), (21, none, .iaload), (22, none, .ifCond .ne 16), (25, none, .aload 0), (26, none, .iload 1), (27, none, .aload 0), (28, none, .getfield 1548), (31, none, .sipush 0), (32, none, .invokeinterface 192 33), (35, none, .goto 5), (38, some [false, false], .sipush (-9)), (40, some [false, false], .ireturn)]
def qp_M_usesNow : QP := (7, [26, 0], 2, qc_M_usesNow)
def qc_M_usedOn : List QE := [(0, none, .aload 0), (1, none, .iload 1), (2, none, .iload 2), (3, none, .invokeinterface 194 25), (6, none, .istore 3), (7, none, .iload 3), (8, none, .ifCond .eq 9), (11, none, .aload 0), (12, none, .iload 3), (13, none, .invokeinterface 152 17), (16, none, .ireturn), (17, some [true, true, true, false, false], .aload 0), (18, none, .sipush 1), (19, none, .sipush 1), (20, none, .invokeinterface 170 24), (23, none, .aload 0), (24, none, .iload 2), (25, none, .invokeinterface 233 16), (28, none, .aload 0), (29, none, .iload 1), (30, none, .invokeinterface 251 17), (33, none, .istore 4), (35, none, .aload 0), (36, none, .sipush 1), (37, none, .sipush 0), (38, none, .invokeinterface 170 24), (41, none, .iload 4), (43, none, .ireturn)]
def qp_M_usedOn : QP := (7, [26, 0, 0], 5, qc_M_usedOn)
def qc_M_laidLater : List QE := [(0, none, .aload 0), (1, none, .sipush 1), (2, none, .sipush 1), (3, none, .invokeinterface 170 24), (6, none, .sipush 0), (7, none, .istore 4), (9, some [true, true, true, true, true], .iload 4), (11, none, .aload 0), (12, none, .getfield 1547), (15, none, .if_icmp .ge 61), (18, none, .aload 0), (19, none, .getfield 1545), (22, none, .iload 4), (24, none, .aload 0), (25, none, .getfield 1544), (28, none, .iload 4), (30, none, .iaload), (31, none, .iload 1), (32, none, .if_icmp .ne 30), (35, none, .aload 0), (36, none, .getfield 1546), (39, none, .iload 4), (41, none, .iaload), (42, none, .ifCond .ne 20), (45, none, .sipush 83), (47, none, .aload 0), (48, none, .getfield 1545), (51, none, .iload 4), (53, none, .iaload), (54, none, .iload 2), (55, none, .iadd), (56, none, .invokeinterface 182 17), (59, none, .goto 10), (62, some [true, true, true, true, true], .aload 0), (63, none, .getfield 1545), (66, none, .iload 4), (68, none, .iaload), (69, some [true, true, true, true, true], .iastore), (70, none, .iinc 4 1), (73, none, .goto (-64)), (76, some [true, true, false, true, false], .aload 0), (77, none, .iload 1), (78, none, .iload 3), (79, none, .invokeinterface 202 25), (82, none, .istore 4), (84, none, .aload 0), (85, none, .sipush 1), (86, none, .sipush 0), (87, none, .invokeinterface 170 24), (90, none, .iload 4), (92, none, .ireturn)]
def qp_M_laidLater : QP := (7, [26, 0, 0, 0], 5, qc_M_laidLater)
def qc_M_delay : List QE := [(0, none, .aload 0), (1, none, .iload 1), (2, none, .iload 2), (3, none, .invokeinterface 194 25), (6, none, .istore 3), (7, none, .iload 3), (8, none, .ifCond .eq 9), (11, none, .aload 0), (12, none, .iload 3), (13, none, .invokeinterface 152 17), (16, none, .ireturn), (17, some [true, true, true, false, false, false, false], .aload 0), (18, none, .iload 1), (19, none, .iload 2), (20, none, .invokeinterface 202 25), (23, none, .istore 4), (25, none, .sipush 0), (26, none, .istore 5), (28, none, .sipush 1), (29, none, .istore 6), (31, some [true, true, true, false, true, true, true], .iload 6), (33, none, .iload 2), (34, none, .aload 0), (35, none, .getfield 1548), (38, none, .isub), (39, none, .if_icmp .gt 31), (42, none, .aload 0), (43, none, .iload 1), (44, none, .iload 6), (46, none, .iload 2), (47, none, .invokeinterface 253 33), (50, none, .iload 4), (52, none, .if_icmp .lt 8), (55, none, .iload 6), (57, none, .goto 5), (60, some [true, true, true, false, true, true, true], .iload 5), (62, some [true, true, true, false, true, false, true], .istore 5), (64, none, .iinc 6 1), (67, none, .goto (-36)), (70, some [false, false, false, false, false, true, false], .iload 5), (72, none, .ireturn)]
def qp_M_delay : QP := (7, [26, 0, 0], 7, qc_M_delay)
def qc_M_owedWith : List QE := [(0, none, .aload 0), (1, none, .sipush 1), (2, none, .sipush 1), (3, none, .invokeinterface 170 24), (6, none, .aload 0), (7, none, .getfield 1538), (10, none, .iload 1), (11, none, .iload 2), (12, none, .iastore), (13, none, .aload 0), (14, none, .iload 3), (15, none, .invokeinterface 233 16), (18, none, .aload 0), (19, none, .getfield 1540), (22, none, .iload 1), (23, none, .iaload), (24, none, .istore 4), (26, none, .aload 0), (27, none, .sipush 1), (28, none, .sipush 0), (29, none, .invokeinterface 170 24), (32, none, .iload 4), (34, none, .ireturn)]
def qp_M_owedWith : QP := (7, [26, 0, 0, 0], 5, qc_M_owedWith)
def qc_M_need : List QE := [(0, none, .aload 0), (1, none, .iload 1), (2, none, .iload 2), (3, none, .invokeinterface 194 25), (6, none, .istore 3), (7, none, .iload 3), (8, none, .ifCond .eq 9), (11, none, .aload 0), (12, none, .iload 3), (13, none, .invokeinterface 152 17), (16, none, .ireturn), (17, some [true, true, true, false, false], .sipush 0), (18, none, .istore 4), (20, some [true, true, true, false, true], .iload 4), (22, none, .sipush 999), (25, none, .if_icmp .gt 29), (28, none, .aload 0), (29, none, .iload 1), (30, none, .iload 4), (32, none, .iload 2), (33, none, .invokeinterface 255 33), (36, none, .aload 0), (37, none, .getfield 1540), (40, none, .iload 1), (41, none, .iaload), (42, none, .if_icmp .gt 6), (45, none, .iload 4), (47, none, .ireturn), (48, some [true, true, true, false, true], .iinc 4 1), (51, none, .goto (-31)), (54, some [false, false, false, false, false], .sipush (-9)), (56, none, .ireturn)]
def qp_M_need : QP := (7, [26, 0, 0], 5, qc_M_need)
def qc_M_leftBoth : List QE := [(0, none, .aload 0), (1, none, .getfield 1572), (4, none, .aload 0), (5, none, .getfield 1566), (8, none, .iload 1), (9, none, .sipush (-1)), (10, none, .ixor), (11, none, .iand), (12, none, .iaload), (13, none, .aload 0), (14, none, .getfield 1564), (17, none, .aload 0), (18, none, .getfield 1565), (21, none, .iload 1), (22, none, .sipush (-1)), (23, none, .ixor), (24, none, .iand), (25, none, .iaload), (26, none, .iadd), (27, none, .ireturn)]
def qp_M_leftBoth : QP := (7, [26, 0], 2, qc_M_leftBoth)
def qc_M_loss : List QE := [(0, none, .iload 1), (1, none, .aload 0), (2, none, .getfield 1548), (5, none, .sipush 83), (7, none, .invokeinterface 156 25), (10, none, .istore 3), (11, none, .iload 3), (12, none, .ifCond .ne 15), (15, none, .iload 2), (16, none, .sipush 0), (17, none, .sipush 1), (18, none, .invokeinterface 155 25), (21, none, .ifCond .ne 6), (24, none, .sipush (-2)), (26, none, .istore 3), (27, some [true, true, true, true, false, false, false, false], .iload 3), (28, none, .ifCond .eq 9), (31, none, .aload 0), (32, none, .iload 3), (33, none, .invokeinterface 152 17), (36, none, .ireturn), (37, some [true, true, true, false, false, false, false, false], .aload 0), (38, none, .iload 1), (39, none, .invokeinterface 243 16), (42, none, .sipush (-9)), (44, none, .istore 4), (46, none, .sipush 1000000000), (48, none, .istore 5), (50, none, .sipush 0), (51, none, .istore 6), (53, some [true, false, true, false, true, true, true, false], .iload 6), (55, none, .aload 0), (56, none, .getfield 1547), (59, none, .if_icmp .ge 127), (62, none, .iload 2), (63, none, .ifCond .ne 8), (66, none, .iload 6), (68, none, .goto 7), (71, some [true, false, true, false, true, true, true, false], .iload 6), (73, none, .sipush 1), (74, none, .iadd), (75, some [true, false, true, false, true, true, true, false], .istore 7), (77, some [true, false, true, false, true, true, true, true], .iload 7), (79, none, .iload 2), (80, none, .ifCond .ne 10), (83, none, .iload 6), (85, none, .sipush 1), (86, none, .iadd), (87, none, .goto 7), (90, some [true, false, true, false, true, true, true, true], .aload 0), (91, none, .getfield 1547), (94, some [true, false, true, false, true, true, true, true], .if_icmp .ge 86), (97, none, .aload 0), (98, none, .getfield 1546), (101, none, .iload 6), (103, none, .iaload), (104, none, .sipush 1), (105, none, .if_icmp .eq 69), (108, none, .aload 0), (109, none, .getfield 1546), (112, none, .iload 7), (114, none, .iaload), (115, none, .sipush 1), (116, none, .if_icmp .eq 58), (119, none, .aload 0), (120, none, .sipush 1), (121, none, .iload 6), (123, none, .ishl), (124, none, .sipush 1), (125, none, .iload 7), (127, none, .ishl), (128, none, .ior), (129, none, .invokeinterface 257 17), (132, none, .iload 5), (134, none, .if_icmp .lt 6), (137, none, .goto 37), (140, some [true, false, true, false, false, false, true, true], .iload 2), (141, none, .ifCond .ne 8), (144, none, .iload 6), (146, none, .goto 11), (149, some [true, false, true, false, false, false, true, true], .sipush 100), (151, none, .iload 6), (153, none, .imul), (154, none, .iload 7), (156, none, .iadd), (157, some [true, false, true, false, false, false, true, true], .istore 4), (159, none, .aload 0), (160, none, .sipush 1), (161, none, .iload 6), (163, none, .ishl), (164, none, .sipush 1), (165, none, .iload 7), (167, none, .ishl), (168, none, .ior), (169, none, .invokeinterface 257 17), (172, none, .istore 5), (174, some [true, false, true, false, true, true, true, true], .iinc 7 1), (177, none, .goto (-100)), (180, some [true, false, true, false, true, true, true, false], .iinc 6 1), (183, none, .goto (-130)), (186, some [false, false, false, false, true, false, false, false], .iload 4), (188, none, .ireturn)]
def qp_M_loss : QP := (7, [26, 0, 0], 8, qc_M_loss)
def qc_M_heavyDay : List QE := [(0, none, .iload 1), (1, none, .aload 0), (2, none, .getfield 1548), (5, none, .sipush 83), (7, none, .invokeinterface 156 25), (10, none, .istore 3), (11, none, .iload 3), (12, none, .ifCond .ne 15), (15, none, .iload 2), (16, none, .sipush 0), (17, none, .sipush 1), (18, none, .invokeinterface 155 25), (21, none, .ifCond .ne 6), (24, none, .sipush (-2)), (26, none, .istore 3), (27, some [true, true, true, true, false, false, false, false], .iload 3), (28, none, .ifCond .eq 9), (31, none, .aload 0), (32, none, .iload 3), (33, none, .invokeinterface 152 17), (36, none, .ireturn), (37, some [true, true, true, false, false, false, false, false], .aload 0), (38, none, .sipush 1), (39, none, .sipush 1), (40, none, .invokeinterface 170 24), (43, none, .sipush (-9)), (45, none, .istore 4), (47, none, .sipush 0), (48, none, .istore 5), (50, some [true, true, true, false, true, true, false, false], .aload 0), (51, none, .getfield 1548), (54, none, .iload 1), (55, none, .if_icmp .gt 90), (58, none, .sipush 0), (59, none, .istore 6), (61, none, .sipush 0), (62, none, .istore 7), (64, some [true, true, true, false, true, true, true, true], .iload 7), (66, none, .sipush 2), (67, none, .if_icmp .ge 37), (70, none, .iload 6), (72, none, .aload 0), (73, none, .iload 7), (75, none, .invokeinterface 251 17), (78, none, .ifCond .ge 7), (81, none, .sipush 0), (82, none, .goto 13), (85, some [true, true, true, false, true, true, false, true], .aload 0), (86, none, .aload 0), (87, none, .iload 7), (89, none, .invokeinterface 251 17), (92, none, .invokeinterface 176 17), (95, some [true, true, true, false, true, true, false, true], .iadd), (96, none, .istore 6), (98, none, .iinc 7 1), (101, none, .goto (-37)), (104, some [true, true, true, false, true, true, true, false], .iload 6), (106, none, .iload 5), (108, none, .if_icmp .le 10), (111, none, .aload 0), (112, none, .getfield 1548), (115, none, .goto 5), (118, some [true, true, true, false, true, true, true, false], .iload 4), (120, some [true, true, true, false, false, true, true, false], .istore 4), (122, none, .iload 6), (124, none, .iload 5), (126, none, .if_icmp .le 8), (129, none, .iload 6), (131, none, .goto 5), (134, some [true, true, true, false, true, true, false, false], .iload 5), (136, some [true, true, true, false, true, false, false, false], .istore 5), (138, none, .aload 0), (139, none, .invokeinterface 232 8), (142, none, .goto (-92)), (145, some [true, false, true, false, true, true, false, false], .aload 0), (146, none, .sipush 1), (147, none, .sipush 0), (148, none, .invokeinterface 170 24), (151, none, .iload 2), (152, none, .ifCond .ne 8), (155, none, .iload 4), (157, none, .goto 5), (160, some [false, false, false, false, false, true, false, false], .iload 5), (162, some [false, false, false, false, false, false, false, false], .ireturn)]
def qp_M_heavyDay : QP := (7, [26, 0, 0], 8, qc_M_heavyDay)
def qc_M_row : List QE := [(0, none, .iload 1), (1, none, .sipush 0), (2, none, .sipush 99), (4, none, .invokeinterface 156 25), (7, none, .istore 2), (8, none, .iload 2), (9, none, .ifCond .ne 15), (12, none, .aload 0), (13, none, .getfield 1569), (16, none, .sipush 12), (18, none, .if_icmp .ne 6), (21, none, .sipush (-6)), (23, none, .istore 2), (24, some [true, true, true], .iload 2), (25, none, .ifCond .eq 9), (28, none, .aload 0), (29, none, .iload 2), (30, none, .invokeinterface 152 17), (33, none, .ireturn), (34, some [true, true, false], .aload 0), (35, none, .getfield 1568), (38, none, .aload 0), (39, none, .getfield 1569), (42, none, .iload 1), (43, none, .iastore), (44, none, .aload 0), (45, none, .dup), (46, none, .getfield 1569), (49, none, .sipush 1), (50, none, .iadd), (51, none, .putfield 1569), (54, none, .aload 0), (55, none, .getfield 1569), (58, none, .ireturn)]
def qp_M_row : QP := (7, [26, 0], 3, qc_M_row)
def qc_M_judge : List QE := [(0, none, .iload 1), (1, none, .invokeinterface 159 9), (4, none, .ifCond .ne 9), (7, none, .aload 0), (8, none, .sipush (-1)), (9, none, .invokeinterface 152 17), (12, none, .ireturn), (13, some [true, true, false, false, false, false], .aload 0), (14, none, .getfield 1569), (17, none, .istore 2), (18, none, .aload 0), (19, none, .sipush 0), (20, none, .putfield 1569), (23, none, .aload 0), (24, none, .sipush 1), (25, none, .sipush 1), (26, none, .invokeinterface 170 24), (29, none, .sipush (-9)), (31, none, .istore 3), (32, none, .sipush 0), (33, none, .istore 4), (35, some [true, true, true, true, true, false], .iload 4), (37, none, .iload 2), (38, none, .if_icmp .ge 72), (41, none, .iload 3), (42, none, .ifCond .ge 68), (45, none, .aload 0), (46, none, .getfield 1548), (49, none, .sipush 83), (51, none, .if_icmp .ge 7), (54, none, .sipush 1), (55, none, .goto 4), (58, some [true, true, true, false, true, false], .sipush 0), (59, some [true, true, true, false, true, false], .istore 5), (61, none, .iload 5), (63, none, .ifCond .eq 7), (66, none, .aload 0), (67, none, .invokeinterface 232 8), (70, some [true, true, true, false, true, true], .iload 5), (72, none, .ifCond .eq 29), (75, none, .aload 0), (76, none, .getfield 1538), (79, none, .iload 1), (80, none, .iaload), (81, none, .sipush 99), (83, none, .invokeinterface 182 17), (86, none, .aload 0), (87, none, .getfield 1568), (90, none, .iload 4), (92, none, .iaload), (93, none, .if_icmp .ne 8), (96, none, .sipush (-9)), (98, none, .goto 5), (101, some [true, true, true, false, true, false], .iload 4), (103, some [true, true, true, false, true, false], .istore 3), (104, none, .iinc 4 1), (107, none, .goto (-72)), (110, some [true, false, false, true, false, false], .aload 0), (111, none, .sipush 1), (112, none, .sipush 0), (113, none, .invokeinterface 170 24), (116, none, .iload 3), (117, none, .ireturn)]
def qp_M_judge : QP := (7, [26, 0], 6, qc_M_judge)
def qc_M_clear : List QE := [(0, none, .aload 0), (1, none, .getfield 1569), (4, none, .istore 1), (5, none, .aload 0), (6, none, .sipush 0), (7, none, .putfield 1569), (10, none, .iload 1), (11, none, .ireturn)]
def qp_M_clear : QP := (7, [26], 2, qc_M_clear)
def qc_M_lots : List QE := [(0, none, .iload 1), (1, none, .sipush 1), (2, none, .sipush 20), (4, none, .invokeinterface 156 25), (7, none, .istore 3), (8, none, .iload 3), (9, none, .ifCond .eq 9), (12, none, .aload 0), (13, none, .iload 3), (14, none, .invokeinterface 152 17), (17, none, .ireturn), (18, some [true, true, true, false, false, false, false, false], .iload 2), (19, none, .istore 4), (21, none, .sipush 0), (22, none, .istore 5), (24, none, .sipush 0), (25, none, .istore 6), (27, some [true, true, false, false, true, true, true, false], .iload 6), (29, none, .iload 1), (30, none, .if_icmp .ge 109), (33, none, .aload 0), (34, none, .sipush 1), (35, none, .sipush 1), (36, none, .invokeinterface 170 24), (39, none, .sipush 0), (40, none, .istore 7), (42, some [true, true, false, false, true, true, true, true], .iload 7), (44, none, .aload 0), (45, none, .getfield 1547), (48, none, .if_icmp .ge 55), (51, none, .aload 0), (52, none, .getfield 1546), (55, none, .iload 7), (57, none, .iaload), (58, none, .sipush 1), (59, none, .if_icmp .ne 6), (62, none, .goto 35), (65, some [true, true, false, false, true, true, true, true], .iload 4), (67, none, .sipush 1103515245), (70, none, .imul), (71, none, .sipush 12345), (74, none, .iadd), (75, none, .istore 4), (77, none, .aload 0), (78, none, .getfield 1545), (81, none, .iload 7), (83, none, .iload 4), (85, none, .sipush 2147483647), (88, none, .iand), (89, none, .sipush 65536), (92, none, .idiv), (93, none, .sipush 84), (95, none, .irem), (96, none, .iastore), (97, some [true, true, false, false, true, true, true, true], .iinc 7 1), (100, none, .goto (-58)), (103, some [true, true, false, false, true, true, true, false], .aload 0), (104, none, .sipush 83), (106, none, .invokeinterface 233 16), (109, none, .iload 5), (111, none, .aload 0), (112, none, .getfield 1539), (115, none, .sipush 0), (116, none, .iaload), (117, none, .aload 0), (118, none, .getfield 1539), (121, none, .sipush 1), (122, none, .iaload), (123, none, .iadd), (124, none, .iadd), (125, none, .istore 5), (127, none, .aload 0), (128, none, .sipush 1), (129, none, .sipush 0), (130, none, .invokeinterface 170 24), (133, none, .iinc 6 1), (136, none, .goto (-109)), (139, some [false, false, false, false, false, true, false, false], .iload 5), (141, none, .ireturn)]
def qp_M_lots : QP := (7, [26, 0, 0], 8, qc_M_lots)
def qc_M_count : List QE := [(0, none, .iload 1), (1, none, .sipush 11), (3, none, .sipush 16), (5, none, .invokeinterface 155 25), (8, none, .ifCond .eq 13), (11, none, .aload 0), (12, none, .getfield 1536), (15, none, .iload 1), (16, none, .sipush 10), (18, none, .isub), (19, none, .iaload), (20, none, .ireturn), (21, some [true, true, false, false], .sipush 0), (22, none, .istore 2), (23, none, .iload 1), (24, none, .tableswitch 120 0 6 #[44, 49, 54, 66, 105, 110, 115]), (68, some [true, false, false, false], .aload 0), (69, none, .getfield 1547), (72, none, .ireturn), (73, some [true, false, false, false], .aload 0), (74, none, .getfield 1548), (77, none, .ireturn), (78, some [true, false, false, false], .aload 0), (79, none, .invokeinterface 201 9), (82, none, .aload 0), (83, none, .invokeinterface 214 9), (86, none, .sipush (-1)), (87, none, .ixor), (88, none, .iand), (89, none, .ireturn), (90, some [true, false, true, false], .sipush 0), (91, none, .istore 3), (92, some [true, false, true, true], .iload 3), (93, none, .aload 0), (94, none, .getfield 1547), (97, none, .if_icmp .ge 30), (100, none, .iload 2), (101, none, .aload 0), (102, none, .getfield 1546), (105, none, .iload 3), (106, none, .iaload), (107, none, .ifCond .ne 11), (110, none, .aload 0), (111, none, .iload 3), (112, none, .invokeinterface 176 17), (115, none, .goto 4), (118, some [true, false, false, true], .sipush 0), (119, some [true, false, false, true], .iadd), (120, none, .istore 2), (121, none, .iinc 3 1), (124, none, .goto (-32)), (127, some [false, false, true, false], .iload 2), (128, none, .ireturn), (129, some [true, false, false, false], .aload 0), (130, none, .getfield 1553), (133, none, .ireturn), (134, some [true, false, false, false], .aload 0), (135, none, .getfield 1569), (138, none, .ireturn), (139, some [true, false, false, false], .aload 0), (140, none, .getfield 1560), (143, none, .ireturn), (144, some [false, false, false, false], .sipush (-9)), (146, none, .ireturn)]
def qp_M_count : QP := (7, [26, 0], 4, qc_M_count)
def qc_Int_bitCount : List QE := [(0, none, .iload 0), (1, none, .iload 0), (2, none, .sipush 1), (3, none, .iushr), (4, none, .sipush 1431655765), (7, none, .iand), (8, none, .isub), (9, none, .istore 0), (10, none, .iload 0), (11, none, .sipush 858993459), (14, none, .iand), (15, none, .iload 0), (16, none, .sipush 2), (17, none, .iushr), (18, none, .sipush 858993459), (21, none, .iand), (22, none, .iadd), (23, none, .istore 0), (24, none, .iload 0), (25, none, .iload 0), (26, none, .sipush 4), (27, none, .iushr), (28, none, .iadd), (29, none, .sipush 252645135), (32, none, .iand), (33, none, .istore 0), (34, none, .iload 0), (35, none, .iload 0), (36, none, .sipush 8), (38, none, .iushr), (39, none, .iadd), (40, none, .istore 0), (41, none, .iload 0), (42, none, .iload 0), (43, none, .sipush 16), (45, none, .iushr), (46, none, .iadd), (47, none, .istore 0), (48, none, .iload 0), (49, none, .sipush 63), (51, none, .iand), (52, none, .ireturn)]
def qp_Int_bitCount : QP := (9, [0], 1, qc_Int_bitCount)
def qprogs0 : List QP := [qp_Cause_copyFrom, qp_Cause_become, qp_Cause_lastDay, qp_Cause_isFreshOn, qp_Cause_lastingOf, qp_Cause_weightOf, qp_Person_copyFrom, qp_Person_isDueOn, qp_Person_endDay, qp_Affair_copyFrom, qp_Affair_person, qp_Affair_causeAt, qp_Affair_bring, qp_Affair_used, qp_Affair_unused, qp_Affair_unusedFor, qp_Affair_weightUnused, qp_Affair_isGood, qp_Affair_hasGoodOn, qp_Affair_isUsable, qp_Affair_spend, qp_Affair_endDay, qp_Affair_findLater, qp_Affair_atHand, qp_Affair_liveDay, qp_Affair_liveTo, qp_Plan_takeNeeded, qp_Plan_takeDays, qp_Plan_takeDay, qp_Plan_takeCauses, qp_Plan_freshDaysOf, qp_Plan_sortIn, qp_Plan_allDays, qp_Plan_value, qp_Plan_valueWithout, qp_Plan_bestOf, qp_Plan_findDay, qp_Plan_firstWay]
def qprogs1 : List QP := [qp_Plan_firstOn, qp_Plan_causesGoodOn, qp_Plan_shortDays, qp_Plan_causesOfDays, qp_Plan_layByHand, qp_Plan_soonestOn, qp_Plan_withoutByHand, qp_Plan_firstWithoutByHand, qp_Plan_longestByHand, qp_Plan_hasByHandOn, qp_Plan_weightOf, qp_Plan_leadByTaking, qp_Plan_waysOf, qp_Plan_spread, qp_Course_follow, qp_Course_followUse, qp_Course_followEnd, qp_Course_note, qp_Course_isCoveredBy, qp_J_feed, qp_J_marriage, qp_J_one, qp_J_cause, qp_J_set, qp_J_add, qp_J_use, qp_J_end, qp_J_back, qp_J_image, qp_J_restore, qp_J_count, qp_J_row, qp_J_clear, qp_J_judge, qp_J_meant, qp_J_law, qp_J_friends, qp_J_needed]
def qprogs2 : List QP := [qp_J_byHand, qp_J_laid, qp_J_wasted, qp_J_worth, qp_J_notAll, qp_J_settled, qp_J_bestWeekday, qp_J_neither, qp_J_turns, qp_J_months, qp_J_chance, qp_J_keep, qp_J_run, qp_J_lots, qp_J_gift, qp_J_when, qp_J_changed, qp_J_alike, qp_J_spare, qp_J_over, qp_J_streak, qp_J_quarrel, qp_J_swapped, qp_J_usedOn, qp_J_delay, qp_J_need, qp_J_loss, qp_J_heavyDay, qp_J_refuse, qp_J_refuseFar, qp_J_refuseLong, qp_J_faultOfDay, qp_J_faultOfOneAndDay, qp_J_faultOfDayWhat, qp_J_faultOfOneDayWhat, qp_J_isNobody, qp_J_isNoKind, qp_J_isNoWeekday]
def qprogs3 : List QP := [qp_J_otherThan, qp_J_remember, qp_J_firstMisplaced, qp_J_tellStatements, qp_J_tellStatement, qp_J_tellWeekday, qp_J_tellPurse, qp_J_tellCause, qp_J_tellUse, qp_J_tellDays, qp_J_digitsBehind, qp_J_letterAt, qp_J_isDigit, qp_J_figureAt, qp_J_planOf, qp_J_prepared, qp_J_preparedOn, qp_J_valueOfBoth, qp_J_settledOn, qp_J_isBestChoice, qp_J_settledBeside, qp_J_valueWithOneMore, qp_J_valueOfBothWithout, qp_J_worstLoss, qp_J_worstLossOfTwo, qp_J_evenHeap, qp_J_numberAt, qp_J_mostInRow, qp_J_isRowOfDays, qp_J_meantCauses, qp_J_isRowByLaw, qp_J_couplesOn, qp_J_fewestFriends, qp_J_busiestWeekday, qp_J_firstMistold, qp_J_weekdaysIn, qp_J_power, qp_J_paidOf]
def qprogs4 : List QP := [qp_M_no, qp_M_lower, qp_M_lowest, qp_M_isIn, qp_M_bound, qp_M_has, qp_M_bits, qp_M_isOne, qp_M_isCause, qp_M_feed, qp_M_next, qp_M_readsDigits, qp_M_readsAll, qp_M_statement, qp_M_comes, qp_M_marriage, qp_M_passes, qp_M_passOne, qp_M_passesAll, qp_M_keepsBack, qp_M_back, qp_M_image, qp_M_restore, qp_M_keepsOf, qp_M_weightOf, qp_M_goodTill, qp_M_isGood, qp_M_isSour, qp_M_adds, qp_M_canUse, qp_M_lesser, qp_M_uses, qp_M_ends, qp_M_one, qp_M_cause, qp_M_set, qp_M_add, qp_M_use]
def qprogs5 : List QP := [qp_M_end, qp_M_findNeeds, qp_M_soonestSour, qp_M_findHand, qp_M_notWho, qp_M_needed, qp_M_byHand, qp_M_valueWith, qp_M_findOwn, qp_M_laysDay, qp_M_findLaid, qp_M_allCauses, qp_M_laidValue, qp_M_laid, qp_M_wasted, qp_M_worth, qp_M_goodFor, qp_M_notAll, qp_M_settledBy, qp_M_settled, qp_M_bestWeekday, qp_M_hasAt, qp_M_rests, qp_M_neither, qp_M_unused, qp_M_findTurns, qp_M_turns, qp_M_weekdaysIn, qp_M_months, qp_M_areDaysOf, qp_M_isMeant, qp_M_waysWithout, qp_M_meant, qp_M_areUpTo, qp_M_isLaw, qp_M_law, qp_M_fewestFriends, qp_M_friends]
def qprogs6 : List QP := [qp_M_divisor, qp_M_power, qp_M_chance, qp_M_keep, qp_M_goesOne, qp_M_goesTo, qp_M_run, qp_M_notGift, qp_M_laidWith, qp_M_gift, qp_M_when, qp_M_laidOfBoth, qp_M_changed, qp_M_apartBy, qp_M_alike, qp_M_findBoth, qp_M_spare, qp_M_lastGood, qp_M_over, qp_M_streak, qp_M_quarrel, qp_M_swaps, qp_M_swapped, qp_M_usesNow, qp_M_usedOn, qp_M_laidLater, qp_M_delay, qp_M_owedWith, qp_M_need, qp_M_leftBoth, qp_M_loss, qp_M_heavyDay, qp_M_row, qp_M_judge, qp_M_clear, qp_M_lots, qp_M_count, qp_Int_bitCount]
def qprogs : List QP := qprogs0 ++ (qprogs1 ++ (qprogs2 ++ (qprogs3 ++ (qprogs4 ++ (qprogs5 ++ (qprogs6))))))
set_option maxRecDepth 100000 in
theorem qprogs0_ok : ∀ i : Nat, i < 38 → (qprogs0[i]?.map fun pr => qpok (0 + i) pr).getD false = true := by decide +kernel
set_option maxRecDepth 100000 in
theorem qprogs1_ok : ∀ i : Nat, i < 38 → (qprogs1[i]?.map fun pr => qpok (38 + i) pr).getD false = true := by decide +kernel
set_option maxRecDepth 100000 in
theorem qprogs2_ok : ∀ i : Nat, i < 38 → (qprogs2[i]?.map fun pr => qpok (76 + i) pr).getD false = true := by decide +kernel
set_option maxRecDepth 100000 in
theorem qprogs3_ok : ∀ i : Nat, i < 38 → (qprogs3[i]?.map fun pr => qpok (114 + i) pr).getD false = true := by decide +kernel
set_option maxRecDepth 100000 in
theorem qprogs4_ok : ∀ i : Nat, i < 38 → (qprogs4[i]?.map fun pr => qpok (152 + i) pr).getD false = true := by decide +kernel
set_option maxRecDepth 100000 in
theorem qprogs5_ok : ∀ i : Nat, i < 38 → (qprogs5[i]?.map fun pr => qpok (190 + i) pr).getD false = true := by decide +kernel
set_option maxRecDepth 100000 in
theorem qprogs6_ok : ∀ i : Nat, i < 38 → (qprogs6[i]?.map fun pr => qpok (228 + i) pr).getD false = true := by decide +kernel
theorem qprogs_len : qprogs.length = 266 := by decide +kernel
end
