section
-- ===== PART A: goes FIRST, ahead of the names: the tables' words, and 'selects' of the private methods out of them =====
/-- a private method of a class that the tables say can be made, by its rows of tables_1 -/
def lw_okq (q : MethodName × Nat) : Prop := (q.1.cls ≠ "java/lang/invoke/MethodHandle" ∧ q.1.cls ≠ "java/lang/invoke/VarHandle") ∧ Cond.instantiable q.1.cls q.2 ∈ tables_1 ∧ Cond.privateMethod q.1 ∈ tables_1 ∧ Cond.instanceMethod q.1 ∈ tables_1
theorem lw_p0 : lw_okq (⟨"JealousByCalendar", "refuse", "(I)I"⟩, 17) := ⟨⟨by decide +kernel, by decide +kernel⟩, List.mem_of_getElem? (i := 12) (by decide +kernel), List.mem_of_getElem? (i := 266) (by decide +kernel), List.mem_of_getElem? (i := 267) (by decide +kernel)⟩
theorem lw_p1 : lw_okq (⟨"JealousByCalendar", "firstMisplaced", "()I"⟩, 17) := ⟨⟨by decide +kernel, by decide +kernel⟩, List.mem_of_getElem? (i := 12) (by decide +kernel), List.mem_of_getElem? (i := 274) (by decide +kernel), List.mem_of_getElem? (i := 275) (by decide +kernel)⟩
theorem lw_p2 : lw_okq (⟨"JealousByCalendar", "letterAt", "(I)I"⟩, 17) := ⟨⟨by decide +kernel, by decide +kernel⟩, List.mem_of_getElem? (i := 12) (by decide +kernel), List.mem_of_getElem? (i := 278) (by decide +kernel), List.mem_of_getElem? (i := 279) (by decide +kernel)⟩
theorem lw_p3 : lw_okq (⟨"JealousByCalendar", "tellStatements", "()I"⟩, 17) := ⟨⟨by decide +kernel, by decide +kernel⟩, List.mem_of_getElem? (i := 12) (by decide +kernel), List.mem_of_getElem? (i := 288) (by decide +kernel), List.mem_of_getElem? (i := 289) (by decide +kernel)⟩
theorem lw_p4 : lw_okq (⟨"JealousByCalendar$Affair", "copyFrom", "(LJealousByCalendar$Affair;)V"⟩, 5) := ⟨⟨by decide +kernel, by decide +kernel⟩, List.mem_of_getElem? (i := 20) (by decide +kernel), List.mem_of_getElem? (i := 292) (by decide +kernel), List.mem_of_getElem? (i := 293) (by decide +kernel)⟩
theorem lw_p5 : lw_okq (⟨"JealousByCalendar$Person", "copyFrom", "(LJealousByCalendar$Person;)V"⟩, 5) := ⟨⟨by decide +kernel, by decide +kernel⟩, List.mem_of_getElem? (i := 26) (by decide +kernel), List.mem_of_getElem? (i := 296) (by decide +kernel), List.mem_of_getElem? (i := 297) (by decide +kernel)⟩
theorem lw_p6 : lw_okq (⟨"JealousByCalendar$Cause", "copyFrom", "(LJealousByCalendar$Cause;)V"⟩, 7) := ⟨⟨by decide +kernel, by decide +kernel⟩, List.mem_of_getElem? (i := 59) (by decide +kernel), List.mem_of_getElem? (i := 300) (by decide +kernel), List.mem_of_getElem? (i := 301) (by decide +kernel)⟩
theorem lw_p7 : lw_okq (⟨"JealousByCalendar", "tellStatement", "(I)Z"⟩, 17) := ⟨⟨by decide +kernel, by decide +kernel⟩, List.mem_of_getElem? (i := 12) (by decide +kernel), List.mem_of_getElem? (i := 304) (by decide +kernel), List.mem_of_getElem? (i := 305) (by decide +kernel)⟩
theorem lw_p8 : lw_okq (⟨"JealousByCalendar", "figureAt", "(II)I"⟩, 17) := ⟨⟨by decide +kernel, by decide +kernel⟩, List.mem_of_getElem? (i := 12) (by decide +kernel), List.mem_of_getElem? (i := 308) (by decide +kernel), List.mem_of_getElem? (i := 309) (by decide +kernel)⟩
theorem lw_p9 : lw_okq (⟨"JealousByCalendar", "tellWeekday", "(II)Z"⟩, 17) := ⟨⟨by decide +kernel, by decide +kernel⟩, List.mem_of_getElem? (i := 12) (by decide +kernel), List.mem_of_getElem? (i := 312) (by decide +kernel), List.mem_of_getElem? (i := 313) (by decide +kernel)⟩
theorem lw_p10 : lw_okq (⟨"JealousByCalendar$Affair", "person", "(I)LJealousByCalendar$Person;"⟩, 5) := ⟨⟨by decide +kernel, by decide +kernel⟩, List.mem_of_getElem? (i := 20) (by decide +kernel), List.mem_of_getElem? (i := 322) (by decide +kernel), List.mem_of_getElem? (i := 323) (by decide +kernel)⟩
theorem lw_p11 : lw_okq (⟨"JealousByCalendar", "tellPurse", "(II)Z"⟩, 17) := ⟨⟨by decide +kernel, by decide +kernel⟩, List.mem_of_getElem? (i := 12) (by decide +kernel), List.mem_of_getElem? (i := 326) (by decide +kernel), List.mem_of_getElem? (i := 327) (by decide +kernel)⟩
theorem lw_p12 : lw_okq (⟨"JealousByCalendar", "tellCause", "(IIII)Z"⟩, 17) := ⟨⟨by decide +kernel, by decide +kernel⟩, List.mem_of_getElem? (i := 12) (by decide +kernel), List.mem_of_getElem? (i := 330) (by decide +kernel), List.mem_of_getElem? (i := 331) (by decide +kernel)⟩
theorem lw_p13 : lw_okq (⟨"JealousByCalendar$Affair", "bring", "(IIII)V"⟩, 5) := ⟨⟨by decide +kernel, by decide +kernel⟩, List.mem_of_getElem? (i := 20) (by decide +kernel), List.mem_of_getElem? (i := 337) (by decide +kernel), List.mem_of_getElem? (i := 338) (by decide +kernel)⟩
theorem lw_p14 : lw_okq (⟨"JealousByCalendar$Cause", "become", "(IIII)V"⟩, 7) := ⟨⟨by decide +kernel, by decide +kernel⟩, List.mem_of_getElem? (i := 59) (by decide +kernel), List.mem_of_getElem? (i := 341) (by decide +kernel), List.mem_of_getElem? (i := 342) (by decide +kernel)⟩
theorem lw_p15 : lw_okq (⟨"JealousByCalendar", "tellUse", "(I)Z"⟩, 17) := ⟨⟨by decide +kernel, by decide +kernel⟩, List.mem_of_getElem? (i := 12) (by decide +kernel), List.mem_of_getElem? (i := 351) (by decide +kernel), List.mem_of_getElem? (i := 352) (by decide +kernel)⟩
def lw_privs_1 : List (MethodName × Nat) := [(⟨"JealousByCalendar", "refuse", "(I)I"⟩, 17), (⟨"JealousByCalendar", "firstMisplaced", "()I"⟩, 17), (⟨"JealousByCalendar", "letterAt", "(I)I"⟩, 17), (⟨"JealousByCalendar", "tellStatements", "()I"⟩, 17), (⟨"JealousByCalendar$Affair", "copyFrom", "(LJealousByCalendar$Affair;)V"⟩, 5), (⟨"JealousByCalendar$Person", "copyFrom", "(LJealousByCalendar$Person;)V"⟩, 5), (⟨"JealousByCalendar$Cause", "copyFrom", "(LJealousByCalendar$Cause;)V"⟩, 7), (⟨"JealousByCalendar", "tellStatement", "(I)Z"⟩, 17), (⟨"JealousByCalendar", "figureAt", "(II)I"⟩, 17), (⟨"JealousByCalendar", "tellWeekday", "(II)Z"⟩, 17), (⟨"JealousByCalendar$Affair", "person", "(I)LJealousByCalendar$Person;"⟩, 5), (⟨"JealousByCalendar", "tellPurse", "(II)Z"⟩, 17), (⟨"JealousByCalendar", "tellCause", "(IIII)Z"⟩, 17), (⟨"JealousByCalendar$Affair", "bring", "(IIII)V"⟩, 5), (⟨"JealousByCalendar$Cause", "become", "(IIII)V"⟩, 7), (⟨"JealousByCalendar", "tellUse", "(I)Z"⟩, 17)]
theorem lw_r1 : ∀ q ∈ lw_privs_1, lw_okq q := List.forall_mem_cons.mpr ⟨lw_p0, List.forall_mem_cons.mpr ⟨lw_p1, List.forall_mem_cons.mpr ⟨lw_p2, List.forall_mem_cons.mpr ⟨lw_p3, List.forall_mem_cons.mpr ⟨lw_p4, List.forall_mem_cons.mpr ⟨lw_p5, List.forall_mem_cons.mpr ⟨lw_p6, List.forall_mem_cons.mpr ⟨lw_p7, List.forall_mem_cons.mpr ⟨lw_p8, List.forall_mem_cons.mpr ⟨lw_p9, List.forall_mem_cons.mpr ⟨lw_p10, List.forall_mem_cons.mpr ⟨lw_p11, List.forall_mem_cons.mpr ⟨lw_p12, List.forall_mem_cons.mpr ⟨lw_p13, List.forall_mem_cons.mpr ⟨lw_p14, List.forall_mem_cons.mpr ⟨lw_p15, fun _ h => absurd h List.not_mem_nil⟩⟩⟩⟩⟩⟩⟩⟩⟩⟩⟩⟩⟩⟩⟩⟩
theorem lw_p16 : lw_okq (⟨"JealousByCalendar$Affair", "causeAt", "(I)LJealousByCalendar$Cause;"⟩, 5) := ⟨⟨by decide +kernel, by decide +kernel⟩, List.mem_of_getElem? (i := 20) (by decide +kernel), List.mem_of_getElem? (i := 355) (by decide +kernel), List.mem_of_getElem? (i := 356) (by decide +kernel)⟩
theorem lw_p17 : lw_okq (⟨"JealousByCalendar$Affair", "isUsable", "(LJealousByCalendar$Cause;)Z"⟩, 5) := ⟨⟨by decide +kernel, by decide +kernel⟩, List.mem_of_getElem? (i := 20) (by decide +kernel), List.mem_of_getElem? (i := 359) (by decide +kernel), List.mem_of_getElem? (i := 360) (by decide +kernel)⟩
theorem lw_p18 : lw_okq (⟨"JealousByCalendar$Affair", "isGood", "(LJealousByCalendar$Cause;I)Z"⟩, 5) := ⟨⟨by decide +kernel, by decide +kernel⟩, List.mem_of_getElem? (i := 20) (by decide +kernel), List.mem_of_getElem? (i := 364) (by decide +kernel), List.mem_of_getElem? (i := 365) (by decide +kernel)⟩
theorem lw_p19 : lw_okq (⟨"JealousByCalendar$Cause", "isFreshOn", "(I)Z"⟩, 7) := ⟨⟨by decide +kernel, by decide +kernel⟩, List.mem_of_getElem? (i := 59) (by decide +kernel), List.mem_of_getElem? (i := 368) (by decide +kernel), List.mem_of_getElem? (i := 369) (by decide +kernel)⟩
theorem lw_p20 : lw_okq (⟨"JealousByCalendar$Affair", "spend", "(LJealousByCalendar$Cause;)I"⟩, 5) := ⟨⟨by decide +kernel, by decide +kernel⟩, List.mem_of_getElem? (i := 20) (by decide +kernel), List.mem_of_getElem? (i := 372) (by decide +kernel), List.mem_of_getElem? (i := 373) (by decide +kernel)⟩
theorem lw_p21 : lw_okq (⟨"JealousByCalendar", "tellDays", "(I)Z"⟩, 17) := ⟨⟨by decide +kernel, by decide +kernel⟩, List.mem_of_getElem? (i := 12) (by decide +kernel), List.mem_of_getElem? (i := 385) (by decide +kernel), List.mem_of_getElem? (i := 386) (by decide +kernel)⟩
theorem lw_p22 : lw_okq (⟨"JealousByCalendar$Affair", "endDay", "()V"⟩, 5) := ⟨⟨by decide +kernel, by decide +kernel⟩, List.mem_of_getElem? (i := 20) (by decide +kernel), List.mem_of_getElem? (i := 389) (by decide +kernel), List.mem_of_getElem? (i := 390) (by decide +kernel)⟩
theorem lw_p23 : lw_okq (⟨"JealousByCalendar$Person", "endDay", "(I)V"⟩, 5) := ⟨⟨by decide +kernel, by decide +kernel⟩, List.mem_of_getElem? (i := 26) (by decide +kernel), List.mem_of_getElem? (i := 393) (by decide +kernel), List.mem_of_getElem? (i := 394) (by decide +kernel)⟩
theorem lw_p24 : lw_okq (⟨"JealousByCalendar$Person", "isDueOn", "(I)Z"⟩, 5) := ⟨⟨by decide +kernel, by decide +kernel⟩, List.mem_of_getElem? (i := 26) (by decide +kernel), List.mem_of_getElem? (i := 397) (by decide +kernel), List.mem_of_getElem? (i := 398) (by decide +kernel)⟩
theorem lw_p25 : lw_okq (⟨"JealousByCalendar$Cause", "lastDay", "()I"⟩, 7) := ⟨⟨by decide +kernel, by decide +kernel⟩, List.mem_of_getElem? (i := 59) (by decide +kernel), List.mem_of_getElem? (i := 410) (by decide +kernel), List.mem_of_getElem? (i := 411) (by decide +kernel)⟩
theorem lw_p26 : lw_okq (⟨"JealousByCalendar", "remember", "()V"⟩, 17) := ⟨⟨by decide +kernel, by decide +kernel⟩, List.mem_of_getElem? (i := 12) (by decide +kernel), List.mem_of_getElem? (i := 427) (by decide +kernel), List.mem_of_getElem? (i := 428) (by decide +kernel)⟩
theorem lw_p27 : lw_okq (⟨"JealousByCalendar$Affair", "used", "()I"⟩, 5) := ⟨⟨by decide +kernel, by decide +kernel⟩, List.mem_of_getElem? (i := 20) (by decide +kernel), List.mem_of_getElem? (i := 451) (by decide +kernel), List.mem_of_getElem? (i := 452) (by decide +kernel)⟩
theorem lw_p28 : lw_okq (⟨"JealousByCalendar$Affair", "weightUnused", "()I"⟩, 5) := ⟨⟨by decide +kernel, by decide +kernel⟩, List.mem_of_getElem? (i := 20) (by decide +kernel), List.mem_of_getElem? (i := 455) (by decide +kernel), List.mem_of_getElem? (i := 456) (by decide +kernel)⟩
theorem lw_p29 : lw_okq (⟨"JealousByCalendar", "firstMistold", "(I)I"⟩, 17) := ⟨⟨by decide +kernel, by decide +kernel⟩, List.mem_of_getElem? (i := 12) (by decide +kernel), List.mem_of_getElem? (i := 471) (by decide +kernel), List.mem_of_getElem? (i := 472) (by decide +kernel)⟩
theorem lw_p30 : lw_okq (⟨"JealousByCalendar$Affair", "liveTo", "(I)V"⟩, 5) := ⟨⟨by decide +kernel, by decide +kernel⟩, List.mem_of_getElem? (i := 20) (by decide +kernel), List.mem_of_getElem? (i := 475) (by decide +kernel), List.mem_of_getElem? (i := 476) (by decide +kernel)⟩
theorem lw_p31 : lw_okq (⟨"JealousByCalendar$Affair", "liveDay", "(I)I"⟩, 5) := ⟨⟨by decide +kernel, by decide +kernel⟩, List.mem_of_getElem? (i := 20) (by decide +kernel), List.mem_of_getElem? (i := 479) (by decide +kernel), List.mem_of_getElem? (i := 480) (by decide +kernel)⟩
def lw_privs_2 : List (MethodName × Nat) := [(⟨"JealousByCalendar$Affair", "causeAt", "(I)LJealousByCalendar$Cause;"⟩, 5), (⟨"JealousByCalendar$Affair", "isUsable", "(LJealousByCalendar$Cause;)Z"⟩, 5), (⟨"JealousByCalendar$Affair", "isGood", "(LJealousByCalendar$Cause;I)Z"⟩, 5), (⟨"JealousByCalendar$Cause", "isFreshOn", "(I)Z"⟩, 7), (⟨"JealousByCalendar$Affair", "spend", "(LJealousByCalendar$Cause;)I"⟩, 5), (⟨"JealousByCalendar", "tellDays", "(I)Z"⟩, 17), (⟨"JealousByCalendar$Affair", "endDay", "()V"⟩, 5), (⟨"JealousByCalendar$Person", "endDay", "(I)V"⟩, 5), (⟨"JealousByCalendar$Person", "isDueOn", "(I)Z"⟩, 5), (⟨"JealousByCalendar$Cause", "lastDay", "()I"⟩, 7), (⟨"JealousByCalendar", "remember", "()V"⟩, 17), (⟨"JealousByCalendar$Affair", "used", "()I"⟩, 5), (⟨"JealousByCalendar$Affair", "weightUnused", "()I"⟩, 5), (⟨"JealousByCalendar", "firstMistold", "(I)I"⟩, 17), (⟨"JealousByCalendar$Affair", "liveTo", "(I)V"⟩, 5), (⟨"JealousByCalendar$Affair", "liveDay", "(I)I"⟩, 5)]
theorem lw_r2 : ∀ q ∈ lw_privs_2, lw_okq q := List.forall_mem_cons.mpr ⟨lw_p16, List.forall_mem_cons.mpr ⟨lw_p17, List.forall_mem_cons.mpr ⟨lw_p18, List.forall_mem_cons.mpr ⟨lw_p19, List.forall_mem_cons.mpr ⟨lw_p20, List.forall_mem_cons.mpr ⟨lw_p21, List.forall_mem_cons.mpr ⟨lw_p22, List.forall_mem_cons.mpr ⟨lw_p23, List.forall_mem_cons.mpr ⟨lw_p24, List.forall_mem_cons.mpr ⟨lw_p25, List.forall_mem_cons.mpr ⟨lw_p26, List.forall_mem_cons.mpr ⟨lw_p27, List.forall_mem_cons.mpr ⟨lw_p28, List.forall_mem_cons.mpr ⟨lw_p29, List.forall_mem_cons.mpr ⟨lw_p30, List.forall_mem_cons.mpr ⟨lw_p31, fun _ h => absurd h List.not_mem_nil⟩⟩⟩⟩⟩⟩⟩⟩⟩⟩⟩⟩⟩⟩⟩⟩
theorem lw_p32 : lw_okq (⟨"JealousByCalendar$Affair", "atHand", "(I)I"⟩, 5) := ⟨⟨by decide +kernel, by decide +kernel⟩, List.mem_of_getElem? (i := 20) (by decide +kernel), List.mem_of_getElem? (i := 483) (by decide +kernel), List.mem_of_getElem? (i := 484) (by decide +kernel)⟩
theorem lw_p33 : lw_okq (⟨"JealousByCalendar", "numberAt", "(I)I"⟩, 17) := ⟨⟨by decide +kernel, by decide +kernel⟩, List.mem_of_getElem? (i := 12) (by decide +kernel), List.mem_of_getElem? (i := 492) (by decide +kernel), List.mem_of_getElem? (i := 493) (by decide +kernel)⟩
theorem lw_p34 : lw_okq (⟨"JealousByCalendar", "refuseLong", "(I)J"⟩, 17) := ⟨⟨by decide +kernel, by decide +kernel⟩, List.mem_of_getElem? (i := 12) (by decide +kernel), List.mem_of_getElem? (i := 500) (by decide +kernel), List.mem_of_getElem? (i := 501) (by decide +kernel)⟩
theorem lw_p35 : lw_okq (⟨"JealousByCalendar", "isRowOfDays", "(I)Z"⟩, 17) := ⟨⟨by decide +kernel, by decide +kernel⟩, List.mem_of_getElem? (i := 12) (by decide +kernel), List.mem_of_getElem? (i := 505) (by decide +kernel), List.mem_of_getElem? (i := 506) (by decide +kernel)⟩
theorem lw_p36 : lw_okq (⟨"JealousByCalendar", "planOf", "(I)LJealousByCalendar$Plan;"⟩, 17) := ⟨⟨by decide +kernel, by decide +kernel⟩, List.mem_of_getElem? (i := 12) (by decide +kernel), List.mem_of_getElem? (i := 509) (by decide +kernel), List.mem_of_getElem? (i := 510) (by decide +kernel)⟩
theorem lw_p37 : lw_okq (⟨"JealousByCalendar$Plan", "takeDays", "([II)V"⟩, 11) := ⟨⟨by decide +kernel, by decide +kernel⟩, List.mem_of_getElem? (i := 124) (by decide +kernel), List.mem_of_getElem? (i := 513) (by decide +kernel), List.mem_of_getElem? (i := 514) (by decide +kernel)⟩
theorem lw_p38 : lw_okq (⟨"JealousByCalendar$Plan", "takeDay", "(I)V"⟩, 11) := ⟨⟨by decide +kernel, by decide +kernel⟩, List.mem_of_getElem? (i := 124) (by decide +kernel), List.mem_of_getElem? (i := 517) (by decide +kernel), List.mem_of_getElem? (i := 518) (by decide +kernel)⟩
theorem lw_p39 : lw_okq (⟨"JealousByCalendar$Affair", "unusedFor", "(I)I"⟩, 5) := ⟨⟨by decide +kernel, by decide +kernel⟩, List.mem_of_getElem? (i := 20) (by decide +kernel), List.mem_of_getElem? (i := 521) (by decide +kernel), List.mem_of_getElem? (i := 522) (by decide +kernel)⟩
theorem lw_p40 : lw_okq (⟨"JealousByCalendar$Plan", "takeCauses", "(LJealousByCalendar$Affair;I)V"⟩, 11) := ⟨⟨by decide +kernel, by decide +kernel⟩, List.mem_of_getElem? (i := 124) (by decide +kernel), List.mem_of_getElem? (i := 525) (by decide +kernel), List.mem_of_getElem? (i := 526) (by decide +kernel)⟩
theorem lw_p41 : lw_okq (⟨"JealousByCalendar$Plan", "freshDaysOf", "(LJealousByCalendar$Cause;)I"⟩, 11) := ⟨⟨by decide +kernel, by decide +kernel⟩, List.mem_of_getElem? (i := 124) (by decide +kernel), List.mem_of_getElem? (i := 531) (by decide +kernel), List.mem_of_getElem? (i := 532) (by decide +kernel)⟩
theorem lw_p42 : lw_okq (⟨"JealousByCalendar$Plan", "sortIn", "(LJealousByCalendar$Choice;)V"⟩, 11) := ⟨⟨by decide +kernel, by decide +kernel⟩, List.mem_of_getElem? (i := 124) (by decide +kernel), List.mem_of_getElem? (i := 536) (by decide +kernel), List.mem_of_getElem? (i := 537) (by decide +kernel)⟩
theorem lw_p43 : lw_okq (⟨"JealousByCalendar$Plan", "waysOf", "(I[J)J"⟩, 11) := ⟨⟨by decide +kernel, by decide +kernel⟩, List.mem_of_getElem? (i := 124) (by decide +kernel), List.mem_of_getElem? (i := 540) (by decide +kernel), List.mem_of_getElem? (i := 541) (by decide +kernel)⟩
theorem lw_p44 : lw_okq (⟨"JealousByCalendar$Plan", "allDays", "()I"⟩, 11) := ⟨⟨by decide +kernel, by decide +kernel⟩, List.mem_of_getElem? (i := 124) (by decide +kernel), List.mem_of_getElem? (i := 544) (by decide +kernel), List.mem_of_getElem? (i := 545) (by decide +kernel)⟩
theorem lw_p45 : lw_okq (⟨"JealousByCalendar", "meantCauses", "(LJealousByCalendar$Plan;JZ)J"⟩, 17) := ⟨⟨by decide +kernel, by decide +kernel⟩, List.mem_of_getElem? (i := 12) (by decide +kernel), List.mem_of_getElem? (i := 552) (by decide +kernel), List.mem_of_getElem? (i := 553) (by decide +kernel)⟩
theorem lw_p46 : lw_okq (⟨"JealousByCalendar", "mostInRow", "()I"⟩, 17) := ⟨⟨by decide +kernel, by decide +kernel⟩, List.mem_of_getElem? (i := 12) (by decide +kernel), List.mem_of_getElem? (i := 560) (by decide +kernel), List.mem_of_getElem? (i := 561) (by decide +kernel)⟩
theorem lw_p47 : lw_okq (⟨"JealousByCalendar", "isRowByLaw", "(II)Z"⟩, 17) := ⟨⟨by decide +kernel, by decide +kernel⟩, List.mem_of_getElem? (i := 12) (by decide +kernel), List.mem_of_getElem? (i := 567) (by decide +kernel), List.mem_of_getElem? (i := 568) (by decide +kernel)⟩
def lw_privs_3 : List (MethodName × Nat) := [(⟨"JealousByCalendar$Affair", "atHand", "(I)I"⟩, 5), (⟨"JealousByCalendar", "numberAt", "(I)I"⟩, 17), (⟨"JealousByCalendar", "refuseLong", "(I)J"⟩, 17), (⟨"JealousByCalendar", "isRowOfDays", "(I)Z"⟩, 17), (⟨"JealousByCalendar", "planOf", "(I)LJealousByCalendar$Plan;"⟩, 17), (⟨"JealousByCalendar$Plan", "takeDays", "([II)V"⟩, 11), (⟨"JealousByCalendar$Plan", "takeDay", "(I)V"⟩, 11), (⟨"JealousByCalendar$Affair", "unusedFor", "(I)I"⟩, 5), (⟨"JealousByCalendar$Plan", "takeCauses", "(LJealousByCalendar$Affair;I)V"⟩, 11), (⟨"JealousByCalendar$Plan", "freshDaysOf", "(LJealousByCalendar$Cause;)I"⟩, 11), (⟨"JealousByCalendar$Plan", "sortIn", "(LJealousByCalendar$Choice;)V"⟩, 11), (⟨"JealousByCalendar$Plan", "waysOf", "(I[J)J"⟩, 11), (⟨"JealousByCalendar$Plan", "allDays", "()I"⟩, 11), (⟨"JealousByCalendar", "meantCauses", "(LJealousByCalendar$Plan;JZ)J"⟩, 17), (⟨"JealousByCalendar", "mostInRow", "()I"⟩, 17), (⟨"JealousByCalendar", "isRowByLaw", "(II)Z"⟩, 17)]
theorem lw_r3 : ∀ q ∈ lw_privs_3, lw_okq q := List.forall_mem_cons.mpr ⟨lw_p32, List.forall_mem_cons.mpr ⟨lw_p33, List.forall_mem_cons.mpr ⟨lw_p34, List.forall_mem_cons.mpr ⟨lw_p35, List.forall_mem_cons.mpr ⟨lw_p36, List.forall_mem_cons.mpr ⟨lw_p37, List.forall_mem_cons.mpr ⟨lw_p38, List.forall_mem_cons.mpr ⟨lw_p39, List.forall_mem_cons.mpr ⟨lw_p40, List.forall_mem_cons.mpr ⟨lw_p41, List.forall_mem_cons.mpr ⟨lw_p42, List.forall_mem_cons.mpr ⟨lw_p43, List.forall_mem_cons.mpr ⟨lw_p44, List.forall_mem_cons.mpr ⟨lw_p45, List.forall_mem_cons.mpr ⟨lw_p46, List.forall_mem_cons.mpr ⟨lw_p47, fun _ h => absurd h List.not_mem_nil⟩⟩⟩⟩⟩⟩⟩⟩⟩⟩⟩⟩⟩⟩⟩⟩
theorem lw_p48 : lw_okq (⟨"JealousByCalendar", "fewestFriends", "()I"⟩, 17) := ⟨⟨by decide +kernel, by decide +kernel⟩, List.mem_of_getElem? (i := 12) (by decide +kernel), List.mem_of_getElem? (i := 575) (by decide +kernel), List.mem_of_getElem? (i := 576) (by decide +kernel)⟩
theorem lw_p49 : lw_okq (⟨"JealousByCalendar", "couplesOn", "(I)I"⟩, 17) := ⟨⟨by decide +kernel, by decide +kernel⟩, List.mem_of_getElem? (i := 12) (by decide +kernel), List.mem_of_getElem? (i := 579) (by decide +kernel), List.mem_of_getElem? (i := 580) (by decide +kernel)⟩
theorem lw_p50 : lw_okq (⟨"JealousByCalendar", "busiestWeekday", "()I"⟩, 17) := ⟨⟨by decide +kernel, by decide +kernel⟩, List.mem_of_getElem? (i := 12) (by decide +kernel), List.mem_of_getElem? (i := 583) (by decide +kernel), List.mem_of_getElem? (i := 584) (by decide +kernel)⟩
theorem lw_p51 : lw_okq (⟨"JealousByCalendar", "faultOfOneAndDay", "(II)I"⟩, 17) := ⟨⟨by decide +kernel, by decide +kernel⟩, List.mem_of_getElem? (i := 12) (by decide +kernel), List.mem_of_getElem? (i := 591) (by decide +kernel), List.mem_of_getElem? (i := 592) (by decide +kernel)⟩
theorem lw_p52 : lw_okq (⟨"JealousByCalendar", "faultOfDay", "(I)I"⟩, 17) := ⟨⟨by decide +kernel, by decide +kernel⟩, List.mem_of_getElem? (i := 12) (by decide +kernel), List.mem_of_getElem? (i := 595) (by decide +kernel), List.mem_of_getElem? (i := 596) (by decide +kernel)⟩
theorem lw_p53 : lw_okq (⟨"JealousByCalendar", "prepared", "(LJealousByCalendar$Affair;II)LJealousByCalendar$Plan;"⟩, 17) := ⟨⟨by decide +kernel, by decide +kernel⟩, List.mem_of_getElem? (i := 12) (by decide +kernel), List.mem_of_getElem? (i := 599) (by decide +kernel), List.mem_of_getElem? (i := 600) (by decide +kernel)⟩
theorem lw_p54 : lw_okq (⟨"JealousByCalendar", "preparedOn", "(LJealousByCalendar$Affair;III)LJealousByCalendar$Plan;"⟩, 17) := ⟨⟨by decide +kernel, by decide +kernel⟩, List.mem_of_getElem? (i := 12) (by decide +kernel), List.mem_of_getElem? (i := 603) (by decide +kernel), List.mem_of_getElem? (i := 604) (by decide +kernel)⟩
theorem lw_p55 : lw_okq (⟨"JealousByCalendar$Plan", "takeNeeded", "(LJealousByCalendar$Affair;III)V"⟩, 11) := ⟨⟨by decide +kernel, by decide +kernel⟩, List.mem_of_getElem? (i := 124) (by decide +kernel), List.mem_of_getElem? (i := 607) (by decide +kernel), List.mem_of_getElem? (i := 608) (by decide +kernel)⟩
theorem lw_p56 : lw_okq (⟨"JealousByCalendar", "faultOfOneDayWhat", "(IIII)I"⟩, 17) := ⟨⟨by decide +kernel, by decide +kernel⟩, List.mem_of_getElem? (i := 12) (by decide +kernel), List.mem_of_getElem? (i := 616) (by decide +kernel), List.mem_of_getElem? (i := 617) (by decide +kernel)⟩
theorem lw_p57 : lw_okq (⟨"JealousByCalendar$Plan", "layByHand", "()V"⟩, 11) := ⟨⟨by decide +kernel, by decide +kernel⟩, List.mem_of_getElem? (i := 124) (by decide +kernel), List.mem_of_getElem? (i := 620) (by decide +kernel), List.mem_of_getElem? (i := 621) (by decide +kernel)⟩
theorem lw_p58 : lw_okq (⟨"JealousByCalendar$Plan", "soonestOn", "(II)I"⟩, 11) := ⟨⟨by decide +kernel, by decide +kernel⟩, List.mem_of_getElem? (i := 124) (by decide +kernel), List.mem_of_getElem? (i := 624) (by decide +kernel), List.mem_of_getElem? (i := 625) (by decide +kernel)⟩
theorem lw_p59 : lw_okq (⟨"JealousByCalendar$Plan", "withoutByHand", "()I"⟩, 11) := ⟨⟨by decide +kernel, by decide +kernel⟩, List.mem_of_getElem? (i := 124) (by decide +kernel), List.mem_of_getElem? (i := 628) (by decide +kernel), List.mem_of_getElem? (i := 629) (by decide +kernel)⟩
theorem lw_p60 : lw_okq (⟨"JealousByCalendar$Plan", "firstWithoutByHand", "()I"⟩, 11) := ⟨⟨by decide +kernel, by decide +kernel⟩, List.mem_of_getElem? (i := 124) (by decide +kernel), List.mem_of_getElem? (i := 632) (by decide +kernel), List.mem_of_getElem? (i := 633) (by decide +kernel)⟩
theorem lw_p61 : lw_okq (⟨"JealousByCalendar$Plan", "value", "()I"⟩, 11) := ⟨⟨by decide +kernel, by decide +kernel⟩, List.mem_of_getElem? (i := 124) (by decide +kernel), List.mem_of_getElem? (i := 640) (by decide +kernel), List.mem_of_getElem? (i := 641) (by decide +kernel)⟩
theorem lw_p62 : lw_okq (⟨"JealousByCalendar$Plan", "bestOf", "(II)I"⟩, 11) := ⟨⟨by decide +kernel, by decide +kernel⟩, List.mem_of_getElem? (i := 124) (by decide +kernel), List.mem_of_getElem? (i := 644) (by decide +kernel), List.mem_of_getElem? (i := 645) (by decide +kernel)⟩
theorem lw_p63 : lw_okq (⟨"JealousByCalendar$Plan", "firstWay", "(I)I"⟩, 11) := ⟨⟨by decide +kernel, by decide +kernel⟩, List.mem_of_getElem? (i := 124) (by decide +kernel), List.mem_of_getElem? (i := 651) (by decide +kernel), List.mem_of_getElem? (i := 652) (by decide +kernel)⟩
def lw_privs_4 : List (MethodName × Nat) := [(⟨"JealousByCalendar", "fewestFriends", "()I"⟩, 17), (⟨"JealousByCalendar", "couplesOn", "(I)I"⟩, 17), (⟨"JealousByCalendar", "busiestWeekday", "()I"⟩, 17), (⟨"JealousByCalendar", "faultOfOneAndDay", "(II)I"⟩, 17), (⟨"JealousByCalendar", "faultOfDay", "(I)I"⟩, 17), (⟨"JealousByCalendar", "prepared", "(LJealousByCalendar$Affair;II)LJealousByCalendar$Plan;"⟩, 17), (⟨"JealousByCalendar", "preparedOn", "(LJealousByCalendar$Affair;III)LJealousByCalendar$Plan;"⟩, 17), (⟨"JealousByCalendar$Plan", "takeNeeded", "(LJealousByCalendar$Affair;III)V"⟩, 11), (⟨"JealousByCalendar", "faultOfOneDayWhat", "(IIII)I"⟩, 17), (⟨"JealousByCalendar$Plan", "layByHand", "()V"⟩, 11), (⟨"JealousByCalendar$Plan", "soonestOn", "(II)I"⟩, 11), (⟨"JealousByCalendar$Plan", "withoutByHand", "()I"⟩, 11), (⟨"JealousByCalendar$Plan", "firstWithoutByHand", "()I"⟩, 11), (⟨"JealousByCalendar$Plan", "value", "()I"⟩, 11), (⟨"JealousByCalendar$Plan", "bestOf", "(II)I"⟩, 11), (⟨"JealousByCalendar$Plan", "firstWay", "(I)I"⟩, 11)]
theorem lw_r4 : ∀ q ∈ lw_privs_4, lw_okq q := List.forall_mem_cons.mpr ⟨lw_p48, List.forall_mem_cons.mpr ⟨lw_p49, List.forall_mem_cons.mpr ⟨lw_p50, List.forall_mem_cons.mpr ⟨lw_p51, List.forall_mem_cons.mpr ⟨lw_p52, List.forall_mem_cons.mpr ⟨lw_p53, List.forall_mem_cons.mpr ⟨lw_p54, List.forall_mem_cons.mpr ⟨lw_p55, List.forall_mem_cons.mpr ⟨lw_p56, List.forall_mem_cons.mpr ⟨lw_p57, List.forall_mem_cons.mpr ⟨lw_p58, List.forall_mem_cons.mpr ⟨lw_p59, List.forall_mem_cons.mpr ⟨lw_p60, List.forall_mem_cons.mpr ⟨lw_p61, List.forall_mem_cons.mpr ⟨lw_p62, List.forall_mem_cons.mpr ⟨lw_p63, fun _ h => absurd h List.not_mem_nil⟩⟩⟩⟩⟩⟩⟩⟩⟩⟩⟩⟩⟩⟩⟩⟩
theorem lw_p64 : lw_okq (⟨"JealousByCalendar$Plan", "firstOn", "(III)LJealousByCalendar$Choice;"⟩, 11) := ⟨⟨by decide +kernel, by decide +kernel⟩, List.mem_of_getElem? (i := 124) (by decide +kernel), List.mem_of_getElem? (i := 656) (by decide +kernel), List.mem_of_getElem? (i := 657) (by decide +kernel)⟩
theorem lw_p65 : lw_okq (⟨"JealousByCalendar$Plan", "valueWithout", "(I)I"⟩, 11) := ⟨⟨by decide +kernel, by decide +kernel⟩, List.mem_of_getElem? (i := 124) (by decide +kernel), List.mem_of_getElem? (i := 664) (by decide +kernel), List.mem_of_getElem? (i := 665) (by decide +kernel)⟩
theorem lw_p66 : lw_okq (⟨"JealousByCalendar$Plan", "shortDays", "()I"⟩, 11) := ⟨⟨by decide +kernel, by decide +kernel⟩, List.mem_of_getElem? (i := 124) (by decide +kernel), List.mem_of_getElem? (i := 676) (by decide +kernel), List.mem_of_getElem? (i := 677) (by decide +kernel)⟩
theorem lw_p67 : lw_okq (⟨"JealousByCalendar$Plan", "causesGoodOn", "(I)I"⟩, 11) := ⟨⟨by decide +kernel, by decide +kernel⟩, List.mem_of_getElem? (i := 124) (by decide +kernel), List.mem_of_getElem? (i := 680) (by decide +kernel), List.mem_of_getElem? (i := 681) (by decide +kernel)⟩
theorem lw_p68 : lw_okq (⟨"JealousByCalendar$Plan", "causesOfDays", "(II)I"⟩, 11) := ⟨⟨by decide +kernel, by decide +kernel⟩, List.mem_of_getElem? (i := 124) (by decide +kernel), List.mem_of_getElem? (i := 690) (by decide +kernel), List.mem_of_getElem? (i := 691) (by decide +kernel)⟩
theorem lw_p69 : lw_okq (⟨"JealousByCalendar", "refuseFar", "(I)I"⟩, 17) := ⟨⟨by decide +kernel, by decide +kernel⟩, List.mem_of_getElem? (i := 12) (by decide +kernel), List.mem_of_getElem? (i := 698) (by decide +kernel), List.mem_of_getElem? (i := 699) (by decide +kernel)⟩
theorem lw_p70 : lw_okq (⟨"JealousByCalendar", "settledOn", "(III)I"⟩, 17) := ⟨⟨by decide +kernel, by decide +kernel⟩, List.mem_of_getElem? (i := 12) (by decide +kernel), List.mem_of_getElem? (i := 703) (by decide +kernel), List.mem_of_getElem? (i := 704) (by decide +kernel)⟩
theorem lw_p71 : lw_okq (⟨"JealousByCalendar$Affair", "unused", "()I"⟩, 5) := ⟨⟨by decide +kernel, by decide +kernel⟩, List.mem_of_getElem? (i := 20) (by decide +kernel), List.mem_of_getElem? (i := 725) (by decide +kernel), List.mem_of_getElem? (i := 726) (by decide +kernel)⟩
theorem lw_p72 : lw_okq (⟨"JealousByCalendar$Plan", "leadByTaking", "(LJealousByCalendar$Choice;)I"⟩, 11) := ⟨⟨by decide +kernel, by decide +kernel⟩, List.mem_of_getElem? (i := 124) (by decide +kernel), List.mem_of_getElem? (i := 730) (by decide +kernel), List.mem_of_getElem? (i := 731) (by decide +kernel)⟩
theorem lw_p73 : lw_okq (⟨"JealousByCalendar", "valueWithOneMore", "(IIIII)I"⟩, 17) := ⟨⟨by decide +kernel, by decide +kernel⟩, List.mem_of_getElem? (i := 12) (by decide +kernel), List.mem_of_getElem? (i := 767) (by decide +kernel), List.mem_of_getElem? (i := 768) (by decide +kernel)⟩
theorem lw_p74 : lw_okq (⟨"JealousByCalendar", "valueOfBoth", "(LJealousByCalendar$Affair;I)I"⟩, 17) := ⟨⟨by decide +kernel, by decide +kernel⟩, List.mem_of_getElem? (i := 12) (by decide +kernel), List.mem_of_getElem? (i := 779) (by decide +kernel), List.mem_of_getElem? (i := 780) (by decide +kernel)⟩
theorem lw_p75 : lw_okq (⟨"JealousByCalendar$Plan", "weightOf", "(I)I"⟩, 11) := ⟨⟨by decide +kernel, by decide +kernel⟩, List.mem_of_getElem? (i := 124) (by decide +kernel), List.mem_of_getElem? (i := 788) (by decide +kernel), List.mem_of_getElem? (i := 789) (by decide +kernel)⟩
theorem lw_p76 : lw_okq (⟨"JealousByCalendar", "evenHeap", "(I)I"⟩, 17) := ⟨⟨by decide +kernel, by decide +kernel⟩, List.mem_of_getElem? (i := 12) (by decide +kernel), List.mem_of_getElem? (i := 792) (by decide +kernel), List.mem_of_getElem? (i := 793) (by decide +kernel)⟩
theorem lw_p77 : lw_okq (⟨"JealousByCalendar", "faultOfDayWhat", "(II)I"⟩, 17) := ⟨⟨by decide +kernel, by decide +kernel⟩, List.mem_of_getElem? (i := 12) (by decide +kernel), List.mem_of_getElem? (i := 803) (by decide +kernel), List.mem_of_getElem? (i := 804) (by decide +kernel)⟩
theorem lw_p78 : lw_okq (⟨"JealousByCalendar$Affair", "hasGoodOn", "(I)Z"⟩, 5) := ⟨⟨by decide +kernel, by decide +kernel⟩, List.mem_of_getElem? (i := 20) (by decide +kernel), List.mem_of_getElem? (i := 812) (by decide +kernel), List.mem_of_getElem? (i := 813) (by decide +kernel)⟩
theorem lw_p79 : lw_okq (⟨"JealousByCalendar$Plan", "longestByHand", "(Z)I"⟩, 11) := ⟨⟨by decide +kernel, by decide +kernel⟩, List.mem_of_getElem? (i := 124) (by decide +kernel), List.mem_of_getElem? (i := 820) (by decide +kernel), List.mem_of_getElem? (i := 821) (by decide +kernel)⟩
def lw_privs_5 : List (MethodName × Nat) := [(⟨"JealousByCalendar$Plan", "firstOn", "(III)LJealousByCalendar$Choice;"⟩, 11), (⟨"JealousByCalendar$Plan", "valueWithout", "(I)I"⟩, 11), (⟨"JealousByCalendar$Plan", "shortDays", "()I"⟩, 11), (⟨"JealousByCalendar$Plan", "causesGoodOn", "(I)I"⟩, 11), (⟨"JealousByCalendar$Plan", "causesOfDays", "(II)I"⟩, 11), (⟨"JealousByCalendar", "refuseFar", "(I)I"⟩, 17), (⟨"JealousByCalendar", "settledOn", "(III)I"⟩, 17), (⟨"JealousByCalendar$Affair", "unused", "()I"⟩, 5), (⟨"JealousByCalendar$Plan", "leadByTaking", "(LJealousByCalendar$Choice;)I"⟩, 11), (⟨"JealousByCalendar", "valueWithOneMore", "(IIIII)I"⟩, 17), (⟨"JealousByCalendar", "valueOfBoth", "(LJealousByCalendar$Affair;I)I"⟩, 17), (⟨"JealousByCalendar$Plan", "weightOf", "(I)I"⟩, 11), (⟨"JealousByCalendar", "evenHeap", "(I)I"⟩, 17), (⟨"JealousByCalendar", "faultOfDayWhat", "(II)I"⟩, 17), (⟨"JealousByCalendar$Affair", "hasGoodOn", "(I)Z"⟩, 5), (⟨"JealousByCalendar$Plan", "longestByHand", "(Z)I"⟩, 11)]
theorem lw_r5 : ∀ q ∈ lw_privs_5, lw_okq q := List.forall_mem_cons.mpr ⟨lw_p64, List.forall_mem_cons.mpr ⟨lw_p65, List.forall_mem_cons.mpr ⟨lw_p66, List.forall_mem_cons.mpr ⟨lw_p67, List.forall_mem_cons.mpr ⟨lw_p68, List.forall_mem_cons.mpr ⟨lw_p69, List.forall_mem_cons.mpr ⟨lw_p70, List.forall_mem_cons.mpr ⟨lw_p71, List.forall_mem_cons.mpr ⟨lw_p72, List.forall_mem_cons.mpr ⟨lw_p73, List.forall_mem_cons.mpr ⟨lw_p74, List.forall_mem_cons.mpr ⟨lw_p75, List.forall_mem_cons.mpr ⟨lw_p76, List.forall_mem_cons.mpr ⟨lw_p77, List.forall_mem_cons.mpr ⟨lw_p78, List.forall_mem_cons.mpr ⟨lw_p79, fun _ h => absurd h List.not_mem_nil⟩⟩⟩⟩⟩⟩⟩⟩⟩⟩⟩⟩⟩⟩⟩⟩
theorem lw_p80 : lw_okq (⟨"JealousByCalendar$Plan", "hasByHandOn", "(I)Z"⟩, 11) := ⟨⟨by decide +kernel, by decide +kernel⟩, List.mem_of_getElem? (i := 124) (by decide +kernel), List.mem_of_getElem? (i := 829) (by decide +kernel), List.mem_of_getElem? (i := 830) (by decide +kernel)⟩
theorem lw_p81 : lw_okq (⟨"JealousByCalendar$Affair", "findLater", "(II)V"⟩, 5) := ⟨⟨by decide +kernel, by decide +kernel⟩, List.mem_of_getElem? (i := 20) (by decide +kernel), List.mem_of_getElem? (i := 846) (by decide +kernel), List.mem_of_getElem? (i := 847) (by decide +kernel)⟩
theorem lw_p82 : lw_okq (⟨"JealousByCalendar$Course", "follow", "(LJealousByCalendar$Affair;I)V"⟩, 4) := ⟨⟨by decide +kernel, by decide +kernel⟩, List.mem_of_getElem? (i := 189) (by decide +kernel), List.mem_of_getElem? (i := 855) (by decide +kernel), List.mem_of_getElem? (i := 856) (by decide +kernel)⟩
theorem lw_p83 : lw_okq (⟨"JealousByCalendar$Course", "followUse", "(LJealousByCalendar$Affair;I)V"⟩, 4) := ⟨⟨by decide +kernel, by decide +kernel⟩, List.mem_of_getElem? (i := 189) (by decide +kernel), List.mem_of_getElem? (i := 859) (by decide +kernel), List.mem_of_getElem? (i := 860) (by decide +kernel)⟩
theorem lw_p84 : lw_okq (⟨"JealousByCalendar$Course", "note", "(IIZ)V"⟩, 4) := ⟨⟨by decide +kernel, by decide +kernel⟩, List.mem_of_getElem? (i := 189) (by decide +kernel), List.mem_of_getElem? (i := 866) (by decide +kernel), List.mem_of_getElem? (i := 867) (by decide +kernel)⟩
theorem lw_p85 : lw_okq (⟨"JealousByCalendar$Course", "followEnd", "(LJealousByCalendar$Affair;I)V"⟩, 4) := ⟨⟨by decide +kernel, by decide +kernel⟩, List.mem_of_getElem? (i := 189) (by decide +kernel), List.mem_of_getElem? (i := 871) (by decide +kernel), List.mem_of_getElem? (i := 872) (by decide +kernel)⟩
theorem lw_p86 : lw_okq (⟨"JealousByCalendar$Course", "isCoveredBy", "(III)Z"⟩, 4) := ⟨⟨by decide +kernel, by decide +kernel⟩, List.mem_of_getElem? (i := 189) (by decide +kernel), List.mem_of_getElem? (i := 878) (by decide +kernel), List.mem_of_getElem? (i := 879) (by decide +kernel)⟩
theorem lw_p87 : lw_okq (⟨"JealousByCalendar", "worstLoss", "()I"⟩, 17) := ⟨⟨by decide +kernel, by decide +kernel⟩, List.mem_of_getElem? (i := 12) (by decide +kernel), List.mem_of_getElem? (i := 888) (by decide +kernel), List.mem_of_getElem? (i := 889) (by decide +kernel)⟩
theorem lw_p88 : lw_okq (⟨"JealousByCalendar", "valueOfBothWithout", "(I)I"⟩, 17) := ⟨⟨by decide +kernel, by decide +kernel⟩, List.mem_of_getElem? (i := 12) (by decide +kernel), List.mem_of_getElem? (i := 892) (by decide +kernel), List.mem_of_getElem? (i := 893) (by decide +kernel)⟩
theorem lw_p89 : lw_okq (⟨"JealousByCalendar", "worstLossOfTwo", "()I"⟩, 17) := ⟨⟨by decide +kernel, by decide +kernel⟩, List.mem_of_getElem? (i := 12) (by decide +kernel), List.mem_of_getElem? (i := 896) (by decide +kernel), List.mem_of_getElem? (i := 897) (by decide +kernel)⟩
theorem lw_p90 : lw_okq (⟨"JealousByCalendarModel", "no", "(I)I"⟩, 38) := ⟨⟨by decide +kernel, by decide +kernel⟩, List.mem_of_getElem? (i := 905) (by decide +kernel), List.mem_of_getElem? (i := 1034) (by decide +kernel), List.mem_of_getElem? (i := 1035) (by decide +kernel)⟩
theorem lw_p91 : lw_okq (⟨"JealousByCalendarModel", "statement", "()Z"⟩, 38) := ⟨⟨by decide +kernel, by decide +kernel⟩, List.mem_of_getElem? (i := 905) (by decide +kernel), List.mem_of_getElem? (i := 1042) (by decide +kernel), List.mem_of_getElem? (i := 1043) (by decide +kernel)⟩
theorem lw_p92 : lw_okq (⟨"JealousByCalendarModel", "next", "()I"⟩, 38) := ⟨⟨by decide +kernel, by decide +kernel⟩, List.mem_of_getElem? (i := 905) (by decide +kernel), List.mem_of_getElem? (i := 1046) (by decide +kernel), List.mem_of_getElem? (i := 1047) (by decide +kernel)⟩
theorem lw_p93 : lw_okq (⟨"JealousByCalendarModel", "readsAll", "(II)Z"⟩, 38) := ⟨⟨by decide +kernel, by decide +kernel⟩, List.mem_of_getElem? (i := 905) (by decide +kernel), List.mem_of_getElem? (i := 1050) (by decide +kernel), List.mem_of_getElem? (i := 1051) (by decide +kernel)⟩
theorem lw_p94 : lw_okq (⟨"JealousByCalendarModel", "readsDigits", "(II)Z"⟩, 38) := ⟨⟨by decide +kernel, by decide +kernel⟩, List.mem_of_getElem? (i := 905) (by decide +kernel), List.mem_of_getElem? (i := 1054) (by decide +kernel), List.mem_of_getElem? (i := 1055) (by decide +kernel)⟩
theorem lw_p95 : lw_okq (⟨"JealousByCalendarModel", "passesAll", "(IZ)V"⟩, 38) := ⟨⟨by decide +kernel, by decide +kernel⟩, List.mem_of_getElem? (i := 905) (by decide +kernel), List.mem_of_getElem? (i := 1061) (by decide +kernel), List.mem_of_getElem? (i := 1062) (by decide +kernel)⟩
def lw_privs_6 : List (MethodName × Nat) := [(⟨"JealousByCalendar$Plan", "hasByHandOn", "(I)Z"⟩, 11), (⟨"JealousByCalendar$Affair", "findLater", "(II)V"⟩, 5), (⟨"JealousByCalendar$Course", "follow", "(LJealousByCalendar$Affair;I)V"⟩, 4), (⟨"JealousByCalendar$Course", "followUse", "(LJealousByCalendar$Affair;I)V"⟩, 4), (⟨"JealousByCalendar$Course", "note", "(IIZ)V"⟩, 4), (⟨"JealousByCalendar$Course", "followEnd", "(LJealousByCalendar$Affair;I)V"⟩, 4), (⟨"JealousByCalendar$Course", "isCoveredBy", "(III)Z"⟩, 4), (⟨"JealousByCalendar", "worstLoss", "()I"⟩, 17), (⟨"JealousByCalendar", "valueOfBothWithout", "(I)I"⟩, 17), (⟨"JealousByCalendar", "worstLossOfTwo", "()I"⟩, 17), (⟨"JealousByCalendarModel", "no", "(I)I"⟩, 38), (⟨"JealousByCalendarModel", "statement", "()Z"⟩, 38), (⟨"JealousByCalendarModel", "next", "()I"⟩, 38), (⟨"JealousByCalendarModel", "readsAll", "(II)Z"⟩, 38), (⟨"JealousByCalendarModel", "readsDigits", "(II)Z"⟩, 38), (⟨"JealousByCalendarModel", "passesAll", "(IZ)V"⟩, 38)]
theorem lw_r6 : ∀ q ∈ lw_privs_6, lw_okq q := List.forall_mem_cons.mpr ⟨lw_p80, List.forall_mem_cons.mpr ⟨lw_p81, List.forall_mem_cons.mpr ⟨lw_p82, List.forall_mem_cons.mpr ⟨lw_p83, List.forall_mem_cons.mpr ⟨lw_p84, List.forall_mem_cons.mpr ⟨lw_p85, List.forall_mem_cons.mpr ⟨lw_p86, List.forall_mem_cons.mpr ⟨lw_p87, List.forall_mem_cons.mpr ⟨lw_p88, List.forall_mem_cons.mpr ⟨lw_p89, List.forall_mem_cons.mpr ⟨lw_p90, List.forall_mem_cons.mpr ⟨lw_p91, List.forall_mem_cons.mpr ⟨lw_p92, List.forall_mem_cons.mpr ⟨lw_p93, List.forall_mem_cons.mpr ⟨lw_p94, List.forall_mem_cons.mpr ⟨lw_p95, fun _ h => absurd h List.not_mem_nil⟩⟩⟩⟩⟩⟩⟩⟩⟩⟩⟩⟩⟩⟩⟩⟩
theorem lw_p96 : lw_okq (⟨"JealousByCalendarModel", "passes", "([I)V"⟩, 38) := ⟨⟨by decide +kernel, by decide +kernel⟩, List.mem_of_getElem? (i := 905) (by decide +kernel), List.mem_of_getElem? (i := 1065) (by decide +kernel), List.mem_of_getElem? (i := 1066) (by decide +kernel)⟩
theorem lw_p97 : lw_okq (⟨"JealousByCalendarModel", "passOne", "(I)I"⟩, 38) := ⟨⟨by decide +kernel, by decide +kernel⟩, List.mem_of_getElem? (i := 905) (by decide +kernel), List.mem_of_getElem? (i := 1069) (by decide +kernel), List.mem_of_getElem? (i := 1070) (by decide +kernel)⟩
theorem lw_p98 : lw_okq (⟨"JealousByCalendarModel", "comes", "(I)Z"⟩, 38) := ⟨⟨by decide +kernel, by decide +kernel⟩, List.mem_of_getElem? (i := 905) (by decide +kernel), List.mem_of_getElem? (i := 1073) (by decide +kernel), List.mem_of_getElem? (i := 1074) (by decide +kernel)⟩
theorem lw_p99 : lw_okq (⟨"JealousByCalendarModel", "adds", "(IIII)V"⟩, 38) := ⟨⟨by decide +kernel, by decide +kernel⟩, List.mem_of_getElem? (i := 905) (by decide +kernel), List.mem_of_getElem? (i := 1080) (by decide +kernel), List.mem_of_getElem? (i := 1081) (by decide +kernel)⟩
theorem lw_p100 : lw_okq (⟨"JealousByCalendarModel", "isCause", "(I)Z"⟩, 38) := ⟨⟨by decide +kernel, by decide +kernel⟩, List.mem_of_getElem? (i := 905) (by decide +kernel), List.mem_of_getElem? (i := 1084) (by decide +kernel), List.mem_of_getElem? (i := 1085) (by decide +kernel)⟩
theorem lw_p101 : lw_okq (⟨"JealousByCalendarModel", "canUse", "(I)Z"⟩, 38) := ⟨⟨by decide +kernel, by decide +kernel⟩, List.mem_of_getElem? (i := 905) (by decide +kernel), List.mem_of_getElem? (i := 1088) (by decide +kernel), List.mem_of_getElem? (i := 1089) (by decide +kernel)⟩
theorem lw_p102 : lw_okq (⟨"JealousByCalendarModel", "isGood", "(II)Z"⟩, 38) := ⟨⟨by decide +kernel, by decide +kernel⟩, List.mem_of_getElem? (i := 905) (by decide +kernel), List.mem_of_getElem? (i := 1092) (by decide +kernel), List.mem_of_getElem? (i := 1093) (by decide +kernel)⟩
theorem lw_p103 : lw_okq (⟨"JealousByCalendarModel", "goodTill", "(I)I"⟩, 38) := ⟨⟨by decide +kernel, by decide +kernel⟩, List.mem_of_getElem? (i := 905) (by decide +kernel), List.mem_of_getElem? (i := 1096) (by decide +kernel), List.mem_of_getElem? (i := 1097) (by decide +kernel)⟩
theorem lw_p104 : lw_okq (⟨"JealousByCalendarModel", "keepsOf", "(I)I"⟩, 38) := ⟨⟨by decide +kernel, by decide +kernel⟩, List.mem_of_getElem? (i := 905) (by decide +kernel), List.mem_of_getElem? (i := 1100) (by decide +kernel), List.mem_of_getElem? (i := 1101) (by decide +kernel)⟩
theorem lw_p105 : lw_okq (⟨"JealousByCalendarModel", "uses", "(I)I"⟩, 38) := ⟨⟨by decide +kernel, by decide +kernel⟩, List.mem_of_getElem? (i := 905) (by decide +kernel), List.mem_of_getElem? (i := 1104) (by decide +kernel), List.mem_of_getElem? (i := 1105) (by decide +kernel)⟩
theorem lw_p106 : lw_okq (⟨"JealousByCalendarModel", "weightOf", "(I)I"⟩, 38) := ⟨⟨by decide +kernel, by decide +kernel⟩, List.mem_of_getElem? (i := 905) (by decide +kernel), List.mem_of_getElem? (i := 1108) (by decide +kernel), List.mem_of_getElem? (i := 1109) (by decide +kernel)⟩
theorem lw_p107 : lw_okq (⟨"JealousByCalendarModel", "ends", "()V"⟩, 38) := ⟨⟨by decide +kernel, by decide +kernel⟩, List.mem_of_getElem? (i := 905) (by decide +kernel), List.mem_of_getElem? (i := 1115) (by decide +kernel), List.mem_of_getElem? (i := 1116) (by decide +kernel)⟩
theorem lw_p108 : lw_okq (⟨"JealousByCalendarModel", "isSour", "(I)Z"⟩, 38) := ⟨⟨by decide +kernel, by decide +kernel⟩, List.mem_of_getElem? (i := 905) (by decide +kernel), List.mem_of_getElem? (i := 1139) (by decide +kernel), List.mem_of_getElem? (i := 1140) (by decide +kernel)⟩
theorem lw_p109 : lw_okq (⟨"JealousByCalendarModel", "keepsBack", "()V"⟩, 38) := ⟨⟨by decide +kernel, by decide +kernel⟩, List.mem_of_getElem? (i := 905) (by decide +kernel), List.mem_of_getElem? (i := 1155) (by decide +kernel), List.mem_of_getElem? (i := 1156) (by decide +kernel)⟩
theorem lw_p110 : lw_okq (⟨"JealousByCalendarModel", "notWho", "(II)I"⟩, 38) := ⟨⟨by decide +kernel, by decide +kernel⟩, List.mem_of_getElem? (i := 905) (by decide +kernel), List.mem_of_getElem? (i := 1167) (by decide +kernel), List.mem_of_getElem? (i := 1168) (by decide +kernel)⟩
theorem lw_p111 : lw_okq (⟨"JealousByCalendarModel", "findNeeds", "(II)V"⟩, 38) := ⟨⟨by decide +kernel, by decide +kernel⟩, List.mem_of_getElem? (i := 905) (by decide +kernel), List.mem_of_getElem? (i := 1171) (by decide +kernel), List.mem_of_getElem? (i := 1172) (by decide +kernel)⟩
def lw_privs_7 : List (MethodName × Nat) := [(⟨"JealousByCalendarModel", "passes", "([I)V"⟩, 38), (⟨"JealousByCalendarModel", "passOne", "(I)I"⟩, 38), (⟨"JealousByCalendarModel", "comes", "(I)Z"⟩, 38), (⟨"JealousByCalendarModel", "adds", "(IIII)V"⟩, 38), (⟨"JealousByCalendarModel", "isCause", "(I)Z"⟩, 38), (⟨"JealousByCalendarModel", "canUse", "(I)Z"⟩, 38), (⟨"JealousByCalendarModel", "isGood", "(II)Z"⟩, 38), (⟨"JealousByCalendarModel", "goodTill", "(I)I"⟩, 38), (⟨"JealousByCalendarModel", "keepsOf", "(I)I"⟩, 38), (⟨"JealousByCalendarModel", "uses", "(I)I"⟩, 38), (⟨"JealousByCalendarModel", "weightOf", "(I)I"⟩, 38), (⟨"JealousByCalendarModel", "ends", "()V"⟩, 38), (⟨"JealousByCalendarModel", "isSour", "(I)Z"⟩, 38), (⟨"JealousByCalendarModel", "keepsBack", "()V"⟩, 38), (⟨"JealousByCalendarModel", "notWho", "(II)I"⟩, 38), (⟨"JealousByCalendarModel", "findNeeds", "(II)V"⟩, 38)]
theorem lw_r7 : ∀ q ∈ lw_privs_7, lw_okq q := List.forall_mem_cons.mpr ⟨lw_p96, List.forall_mem_cons.mpr ⟨lw_p97, List.forall_mem_cons.mpr ⟨lw_p98, List.forall_mem_cons.mpr ⟨lw_p99, List.forall_mem_cons.mpr ⟨lw_p100, List.forall_mem_cons.mpr ⟨lw_p101, List.forall_mem_cons.mpr ⟨lw_p102, List.forall_mem_cons.mpr ⟨lw_p103, List.forall_mem_cons.mpr ⟨lw_p104, List.forall_mem_cons.mpr ⟨lw_p105, List.forall_mem_cons.mpr ⟨lw_p106, List.forall_mem_cons.mpr ⟨lw_p107, List.forall_mem_cons.mpr ⟨lw_p108, List.forall_mem_cons.mpr ⟨lw_p109, List.forall_mem_cons.mpr ⟨lw_p110, List.forall_mem_cons.mpr ⟨lw_p111, fun _ h => absurd h List.not_mem_nil⟩⟩⟩⟩⟩⟩⟩⟩⟩⟩⟩⟩⟩⟩⟩⟩
theorem lw_p112 : lw_okq (⟨"JealousByCalendarModel", "findHand", "(II)V"⟩, 38) := ⟨⟨by decide +kernel, by decide +kernel⟩, List.mem_of_getElem? (i := 905) (by decide +kernel), List.mem_of_getElem? (i := 1179) (by decide +kernel), List.mem_of_getElem? (i := 1180) (by decide +kernel)⟩
theorem lw_p113 : lw_okq (⟨"JealousByCalendarModel", "soonestSour", "(III)I"⟩, 38) := ⟨⟨by decide +kernel, by decide +kernel⟩, List.mem_of_getElem? (i := 905) (by decide +kernel), List.mem_of_getElem? (i := 1183) (by decide +kernel), List.mem_of_getElem? (i := 1184) (by decide +kernel)⟩
theorem lw_p114 : lw_okq (⟨"JealousByCalendarModel", "findLaid", "(II)V"⟩, 38) := ⟨⟨by decide +kernel, by decide +kernel⟩, List.mem_of_getElem? (i := 905) (by decide +kernel), List.mem_of_getElem? (i := 1194) (by decide +kernel), List.mem_of_getElem? (i := 1195) (by decide +kernel)⟩
theorem lw_p115 : lw_okq (⟨"JealousByCalendarModel", "findOwn", "(I)V"⟩, 38) := ⟨⟨by decide +kernel, by decide +kernel⟩, List.mem_of_getElem? (i := 905) (by decide +kernel), List.mem_of_getElem? (i := 1198) (by decide +kernel), List.mem_of_getElem? (i := 1199) (by decide +kernel)⟩
theorem lw_p116 : lw_okq (⟨"JealousByCalendarModel", "laysDay", "(I)V"⟩, 38) := ⟨⟨by decide +kernel, by decide +kernel⟩, List.mem_of_getElem? (i := 905) (by decide +kernel), List.mem_of_getElem? (i := 1202) (by decide +kernel), List.mem_of_getElem? (i := 1203) (by decide +kernel)⟩
theorem lw_p117 : lw_okq (⟨"JealousByCalendarModel", "valueWith", "(III)I"⟩, 38) := ⟨⟨by decide +kernel, by decide +kernel⟩, List.mem_of_getElem? (i := 905) (by decide +kernel), List.mem_of_getElem? (i := 1206) (by decide +kernel), List.mem_of_getElem? (i := 1207) (by decide +kernel)⟩
theorem lw_p118 : lw_okq (⟨"JealousByCalendarModel", "goodFor", "(II)I"⟩, 38) := ⟨⟨by decide +kernel, by decide +kernel⟩, List.mem_of_getElem? (i := 905) (by decide +kernel), List.mem_of_getElem? (i := 1225) (by decide +kernel), List.mem_of_getElem? (i := 1226) (by decide +kernel)⟩
theorem lw_p119 : lw_okq (⟨"JealousByCalendarModel", "lower", "(I)I"⟩, 38) := ⟨⟨by decide +kernel, by decide +kernel⟩, List.mem_of_getElem? (i := 905) (by decide +kernel), List.mem_of_getElem? (i := 1233) (by decide +kernel), List.mem_of_getElem? (i := 1234) (by decide +kernel)⟩
theorem lw_p120 : lw_okq (⟨"JealousByCalendarModel", "settledBy", "(III)I"⟩, 38) := ⟨⟨by decide +kernel, by decide +kernel⟩, List.mem_of_getElem? (i := 905) (by decide +kernel), List.mem_of_getElem? (i := 1238) (by decide +kernel), List.mem_of_getElem? (i := 1239) (by decide +kernel)⟩
theorem lw_p121 : lw_okq (⟨"JealousByCalendarModel", "laidValue", "(II)I"⟩, 38) := ⟨⟨by decide +kernel, by decide +kernel⟩, List.mem_of_getElem? (i := 905) (by decide +kernel), List.mem_of_getElem? (i := 1242) (by decide +kernel), List.mem_of_getElem? (i := 1243) (by decide +kernel)⟩
theorem lw_p122 : lw_okq (⟨"JealousByCalendarModel", "rests", "(II)Z"⟩, 38) := ⟨⟨by decide +kernel, by decide +kernel⟩, List.mem_of_getElem? (i := 905) (by decide +kernel), List.mem_of_getElem? (i := 1254) (by decide +kernel), List.mem_of_getElem? (i := 1255) (by decide +kernel)⟩
theorem lw_p123 : lw_okq (⟨"JealousByCalendarModel", "hasAt", "(III)I"⟩, 38) := ⟨⟨by decide +kernel, by decide +kernel⟩, List.mem_of_getElem? (i := 905) (by decide +kernel), List.mem_of_getElem? (i := 1258) (by decide +kernel), List.mem_of_getElem? (i := 1259) (by decide +kernel)⟩
theorem lw_p124 : lw_okq (⟨"JealousByCalendarModel", "findTurns", "()V"⟩, 38) := ⟨⟨by decide +kernel, by decide +kernel⟩, List.mem_of_getElem? (i := 905) (by decide +kernel), List.mem_of_getElem? (i := 1266) (by decide +kernel), List.mem_of_getElem? (i := 1267) (by decide +kernel)⟩
theorem lw_p125 : lw_okq (⟨"JealousByCalendarModel", "unused", "()I"⟩, 38) := ⟨⟨by decide +kernel, by decide +kernel⟩, List.mem_of_getElem? (i := 905) (by decide +kernel), List.mem_of_getElem? (i := 1271) (by decide +kernel), List.mem_of_getElem? (i := 1272) (by decide +kernel)⟩
theorem lw_p126 : lw_okq (⟨"JealousByCalendarModel", "areDaysOf", "(I)Z"⟩, 38) := ⟨⟨by decide +kernel, by decide +kernel⟩, List.mem_of_getElem? (i := 905) (by decide +kernel), List.mem_of_getElem? (i := 1286) (by decide +kernel), List.mem_of_getElem? (i := 1287) (by decide +kernel)⟩
theorem lw_p127 : lw_okq (⟨"JealousByCalendarModel", "lowest", "(I)J"⟩, 38) := ⟨⟨by decide +kernel, by decide +kernel⟩, List.mem_of_getElem? (i := 905) (by decide +kernel), List.mem_of_getElem? (i := 1290) (by decide +kernel), List.mem_of_getElem? (i := 1291) (by decide +kernel)⟩
def lw_privs_8 : List (MethodName × Nat) := [(⟨"JealousByCalendarModel", "findHand", "(II)V"⟩, 38), (⟨"JealousByCalendarModel", "soonestSour", "(III)I"⟩, 38), (⟨"JealousByCalendarModel", "findLaid", "(II)V"⟩, 38), (⟨"JealousByCalendarModel", "findOwn", "(I)V"⟩, 38), (⟨"JealousByCalendarModel", "laysDay", "(I)V"⟩, 38), (⟨"JealousByCalendarModel", "valueWith", "(III)I"⟩, 38), (⟨"JealousByCalendarModel", "goodFor", "(II)I"⟩, 38), (⟨"JealousByCalendarModel", "lower", "(I)I"⟩, 38), (⟨"JealousByCalendarModel", "settledBy", "(III)I"⟩, 38), (⟨"JealousByCalendarModel", "laidValue", "(II)I"⟩, 38), (⟨"JealousByCalendarModel", "rests", "(II)Z"⟩, 38), (⟨"JealousByCalendarModel", "hasAt", "(III)I"⟩, 38), (⟨"JealousByCalendarModel", "findTurns", "()V"⟩, 38), (⟨"JealousByCalendarModel", "unused", "()I"⟩, 38), (⟨"JealousByCalendarModel", "areDaysOf", "(I)Z"⟩, 38), (⟨"JealousByCalendarModel", "lowest", "(I)J"⟩, 38)]
theorem lw_r8 : ∀ q ∈ lw_privs_8, lw_okq q := List.forall_mem_cons.mpr ⟨lw_p112, List.forall_mem_cons.mpr ⟨lw_p113, List.forall_mem_cons.mpr ⟨lw_p114, List.forall_mem_cons.mpr ⟨lw_p115, List.forall_mem_cons.mpr ⟨lw_p116, List.forall_mem_cons.mpr ⟨lw_p117, List.forall_mem_cons.mpr ⟨lw_p118, List.forall_mem_cons.mpr ⟨lw_p119, List.forall_mem_cons.mpr ⟨lw_p120, List.forall_mem_cons.mpr ⟨lw_p121, List.forall_mem_cons.mpr ⟨lw_p122, List.forall_mem_cons.mpr ⟨lw_p123, List.forall_mem_cons.mpr ⟨lw_p124, List.forall_mem_cons.mpr ⟨lw_p125, List.forall_mem_cons.mpr ⟨lw_p126, List.forall_mem_cons.mpr ⟨lw_p127, fun _ h => absurd h List.not_mem_nil⟩⟩⟩⟩⟩⟩⟩⟩⟩⟩⟩⟩⟩⟩⟩⟩
theorem lw_p128 : lw_okq (⟨"JealousByCalendarModel", "waysWithout", "(II)J"⟩, 38) := ⟨⟨by decide +kernel, by decide +kernel⟩, List.mem_of_getElem? (i := 905) (by decide +kernel), List.mem_of_getElem? (i := 1295) (by decide +kernel), List.mem_of_getElem? (i := 1296) (by decide +kernel)⟩
theorem lw_p129 : lw_okq (⟨"JealousByCalendarModel", "isMeant", "(III)Z"⟩, 38) := ⟨⟨by decide +kernel, by decide +kernel⟩, List.mem_of_getElem? (i := 905) (by decide +kernel), List.mem_of_getElem? (i := 1299) (by decide +kernel), List.mem_of_getElem? (i := 1300) (by decide +kernel)⟩
theorem lw_p130 : lw_okq (⟨"JealousByCalendarModel", "areUpTo", "(I)Z"⟩, 38) := ⟨⟨by decide +kernel, by decide +kernel⟩, List.mem_of_getElem? (i := 905) (by decide +kernel), List.mem_of_getElem? (i := 1307) (by decide +kernel), List.mem_of_getElem? (i := 1308) (by decide +kernel)⟩
theorem lw_p131 : lw_okq (⟨"JealousByCalendarModel", "isLaw", "(II)Z"⟩, 38) := ⟨⟨by decide +kernel, by decide +kernel⟩, List.mem_of_getElem? (i := 905) (by decide +kernel), List.mem_of_getElem? (i := 1311) (by decide +kernel), List.mem_of_getElem? (i := 1312) (by decide +kernel)⟩
theorem lw_p132 : lw_okq (⟨"JealousByCalendarModel", "fewestFriends", "()I"⟩, 38) := ⟨⟨by decide +kernel, by decide +kernel⟩, List.mem_of_getElem? (i := 905) (by decide +kernel), List.mem_of_getElem? (i := 1319) (by decide +kernel), List.mem_of_getElem? (i := 1320) (by decide +kernel)⟩
theorem lw_p133 : lw_okq (⟨"JealousByCalendarModel", "goesTo", "(I)V"⟩, 38) := ⟨⟨by decide +kernel, by decide +kernel⟩, List.mem_of_getElem? (i := 905) (by decide +kernel), List.mem_of_getElem? (i := 1342) (by decide +kernel), List.mem_of_getElem? (i := 1343) (by decide +kernel)⟩
theorem lw_p134 : lw_okq (⟨"JealousByCalendarModel", "goesOne", "()V"⟩, 38) := ⟨⟨by decide +kernel, by decide +kernel⟩, List.mem_of_getElem? (i := 905) (by decide +kernel), List.mem_of_getElem? (i := 1346) (by decide +kernel), List.mem_of_getElem? (i := 1347) (by decide +kernel)⟩
theorem lw_p135 : lw_okq (⟨"JealousByCalendarModel", "notGift", "(IIII)I"⟩, 38) := ⟨⟨by decide +kernel, by decide +kernel⟩, List.mem_of_getElem? (i := 905) (by decide +kernel), List.mem_of_getElem? (i := 1354) (by decide +kernel), List.mem_of_getElem? (i := 1355) (by decide +kernel)⟩
theorem lw_p136 : lw_okq (⟨"JealousByCalendarModel", "laidWith", "(IIIII)I"⟩, 38) := ⟨⟨by decide +kernel, by decide +kernel⟩, List.mem_of_getElem? (i := 905) (by decide +kernel), List.mem_of_getElem? (i := 1358) (by decide +kernel), List.mem_of_getElem? (i := 1359) (by decide +kernel)⟩
theorem lw_p137 : lw_okq (⟨"JealousByCalendarModel", "laidOfBoth", "(I)I"⟩, 38) := ⟨⟨by decide +kernel, by decide +kernel⟩, List.mem_of_getElem? (i := 905) (by decide +kernel), List.mem_of_getElem? (i := 1370) (by decide +kernel), List.mem_of_getElem? (i := 1371) (by decide +kernel)⟩
theorem lw_p138 : lw_okq (⟨"JealousByCalendarModel", "apartBy", "(II)I"⟩, 38) := ⟨⟨by decide +kernel, by decide +kernel⟩, List.mem_of_getElem? (i := 905) (by decide +kernel), List.mem_of_getElem? (i := 1378) (by decide +kernel), List.mem_of_getElem? (i := 1379) (by decide +kernel)⟩
theorem lw_p139 : lw_okq (⟨"JealousByCalendarModel", "findBoth", "(I)V"⟩, 38) := ⟨⟨by decide +kernel, by decide +kernel⟩, List.mem_of_getElem? (i := 905) (by decide +kernel), List.mem_of_getElem? (i := 1386) (by decide +kernel), List.mem_of_getElem? (i := 1387) (by decide +kernel)⟩
theorem lw_p140 : lw_okq (⟨"JealousByCalendarModel", "lastGood", "()I"⟩, 38) := ⟨⟨by decide +kernel, by decide +kernel⟩, List.mem_of_getElem? (i := 905) (by decide +kernel), List.mem_of_getElem? (i := 1394) (by decide +kernel), List.mem_of_getElem? (i := 1395) (by decide +kernel)⟩
theorem lw_p141 : lw_okq (⟨"JealousByCalendarModel", "swaps", "()V"⟩, 38) := ⟨⟨by decide +kernel, by decide +kernel⟩, List.mem_of_getElem? (i := 905) (by decide +kernel), List.mem_of_getElem? (i := 1410) (by decide +kernel), List.mem_of_getElem? (i := 1411) (by decide +kernel)⟩
theorem lw_p142 : lw_okq (⟨"JealousByCalendarModel", "usesNow", "(I)I"⟩, 38) := ⟨⟨by decide +kernel, by decide +kernel⟩, List.mem_of_getElem? (i := 905) (by decide +kernel), List.mem_of_getElem? (i := 1418) (by decide +kernel), List.mem_of_getElem? (i := 1419) (by decide +kernel)⟩
theorem lw_p143 : lw_okq (⟨"JealousByCalendarModel", "laidLater", "(III)I"⟩, 38) := ⟨⟨by decide +kernel, by decide +kernel⟩, List.mem_of_getElem? (i := 905) (by decide +kernel), List.mem_of_getElem? (i := 1426) (by decide +kernel), List.mem_of_getElem? (i := 1427) (by decide +kernel)⟩
def lw_privs_9 : List (MethodName × Nat) := [(⟨"JealousByCalendarModel", "waysWithout", "(II)J"⟩, 38), (⟨"JealousByCalendarModel", "isMeant", "(III)Z"⟩, 38), (⟨"JealousByCalendarModel", "areUpTo", "(I)Z"⟩, 38), (⟨"JealousByCalendarModel", "isLaw", "(II)Z"⟩, 38), (⟨"JealousByCalendarModel", "fewestFriends", "()I"⟩, 38), (⟨"JealousByCalendarModel", "goesTo", "(I)V"⟩, 38), (⟨"JealousByCalendarModel", "goesOne", "()V"⟩, 38), (⟨"JealousByCalendarModel", "notGift", "(IIII)I"⟩, 38), (⟨"JealousByCalendarModel", "laidWith", "(IIIII)I"⟩, 38), (⟨"JealousByCalendarModel", "laidOfBoth", "(I)I"⟩, 38), (⟨"JealousByCalendarModel", "apartBy", "(II)I"⟩, 38), (⟨"JealousByCalendarModel", "findBoth", "(I)V"⟩, 38), (⟨"JealousByCalendarModel", "lastGood", "()I"⟩, 38), (⟨"JealousByCalendarModel", "swaps", "()V"⟩, 38), (⟨"JealousByCalendarModel", "usesNow", "(I)I"⟩, 38), (⟨"JealousByCalendarModel", "laidLater", "(III)I"⟩, 38)]
theorem lw_r9 : ∀ q ∈ lw_privs_9, lw_okq q := List.forall_mem_cons.mpr ⟨lw_p128, List.forall_mem_cons.mpr ⟨lw_p129, List.forall_mem_cons.mpr ⟨lw_p130, List.forall_mem_cons.mpr ⟨lw_p131, List.forall_mem_cons.mpr ⟨lw_p132, List.forall_mem_cons.mpr ⟨lw_p133, List.forall_mem_cons.mpr ⟨lw_p134, List.forall_mem_cons.mpr ⟨lw_p135, List.forall_mem_cons.mpr ⟨lw_p136, List.forall_mem_cons.mpr ⟨lw_p137, List.forall_mem_cons.mpr ⟨lw_p138, List.forall_mem_cons.mpr ⟨lw_p139, List.forall_mem_cons.mpr ⟨lw_p140, List.forall_mem_cons.mpr ⟨lw_p141, List.forall_mem_cons.mpr ⟨lw_p142, List.forall_mem_cons.mpr ⟨lw_p143, fun _ h => absurd h List.not_mem_nil⟩⟩⟩⟩⟩⟩⟩⟩⟩⟩⟩⟩⟩⟩⟩⟩
theorem lw_p144 : lw_okq (⟨"JealousByCalendarModel", "owedWith", "(III)I"⟩, 38) := ⟨⟨by decide +kernel, by decide +kernel⟩, List.mem_of_getElem? (i := 905) (by decide +kernel), List.mem_of_getElem? (i := 1434) (by decide +kernel), List.mem_of_getElem? (i := 1435) (by decide +kernel)⟩
theorem lw_p145 : lw_okq (⟨"JealousByCalendarModel", "leftBoth", "(I)I"⟩, 38) := ⟨⟨by decide +kernel, by decide +kernel⟩, List.mem_of_getElem? (i := 905) (by decide +kernel), List.mem_of_getElem? (i := 1442) (by decide +kernel), List.mem_of_getElem? (i := 1443) (by decide +kernel)⟩
theorem lw_p146 : lw_okq (⟨"JealousByCalendarModel", "allCauses", "()I"⟩, 38) := ⟨⟨by decide +kernel, by decide +kernel⟩, List.mem_of_getElem? (i := 905) (by decide +kernel), List.mem_of_getElem? (i := 1473) (by decide +kernel), List.mem_of_getElem? (i := 1474) (by decide +kernel)⟩
def lw_privs_10 : List (MethodName × Nat) := [(⟨"JealousByCalendarModel", "owedWith", "(III)I"⟩, 38), (⟨"JealousByCalendarModel", "leftBoth", "(I)I"⟩, 38), (⟨"JealousByCalendarModel", "allCauses", "()I"⟩, 38)]
theorem lw_r10 : ∀ q ∈ lw_privs_10, lw_okq q := List.forall_mem_cons.mpr ⟨lw_p144, List.forall_mem_cons.mpr ⟨lw_p145, List.forall_mem_cons.mpr ⟨lw_p146, fun _ h => absurd h List.not_mem_nil⟩⟩⟩
def lw_privs : List (MethodName × Nat) := lw_privs_1 ++ (lw_privs_2 ++ (lw_privs_3 ++ (lw_privs_4 ++ (lw_privs_5 ++ (lw_privs_6 ++ (lw_privs_7 ++ (lw_privs_8 ++ (lw_privs_9 ++ (lw_privs_10)))))))))
def lw_tbl : List Cond := k2_sels lw_privs ++ tables_1
theorem lw_privs_ok : ∀ q ∈ lw_privs, lw_okq q := by
  show ∀ q ∈ lw_privs_1 ++ (lw_privs_2 ++ (lw_privs_3 ++ (lw_privs_4 ++ (lw_privs_5 ++ (lw_privs_6 ++ (lw_privs_7 ++ (lw_privs_8 ++ (lw_privs_9 ++ (lw_privs_10))))))))), lw_okq q
  exact List.forall_mem_append.mpr ⟨lw_r1, List.forall_mem_append.mpr ⟨lw_r2, List.forall_mem_append.mpr ⟨lw_r3, List.forall_mem_append.mpr ⟨lw_r4, List.forall_mem_append.mpr ⟨lw_r5, List.forall_mem_append.mpr ⟨lw_r6, List.forall_mem_append.mpr ⟨lw_r7, List.forall_mem_append.mpr ⟨lw_r8, List.forall_mem_append.mpr ⟨lw_r9, lw_r10⟩⟩⟩⟩⟩⟩⟩⟩⟩
end
section
/-! A pure machine for the claim's methods: addresses are triples (kind, which, place), memory is three functions; its programs are the methods' instructions with their references resolved. -/
abbrev QA : Type := Nat × Nat × Nat
abbrev QV : Type := Int32 ⊕ Int64 ⊕ Option QA
abbrev QM : Type := (QA → Nat → Int32) × (QA → Nat → Int64) × (QA → Nat → Option QA)
abbrev QL : Type := List (Option QV)
abbrev QR : Type := Option (Option QV × QM)
abbrev QC : Type := Nat → List QV → QM → QR
abbrev QE : Type := Nat × Option (List Bool) × Instr
abbrev qI (x : Int32) : QV := .inl x
abbrev qL (x : Int64) : QV := .inr (.inl x)
abbrev qO (x : Option QA) : QV := .inr (.inr x)
abbrev qR (a : QA) : QV := .inr (.inr (some a))
def qsi (μ : QM) (a : QA) (k : Nat) (v : Int32) : QM := (fun b j => if b = a ∧ j = k then v else μ.1 b j, μ.2.1, μ.2.2)
def qsl (μ : QM) (a : QA) (k : Nat) (v : Int64) : QM := (μ.1, fun b j => if b = a ∧ j = k then v else μ.2.1 b j, μ.2.2)
def qsr (μ : QM) (a : QA) (k : Nat) (v : Option QA) : QM := (μ.1, μ.2.1, fun b j => if b = a ∧ j = k then v else μ.2.2 b j)
def qbz (x : Int32) : Int32 := if x = 0 then 0 else 1
/-- an index that is no place of a row of n -/
def qoob (x : Int32) (n : Nat) : Bool := decide (x < 0) || decide (n ≤ x.toNatClampNeg)
abbrev qix (x : Int32) : Nat := x.toNatClampNeg
/-! the kinds of addresses: how many of each; fields (0 int, 1 boolean, 2 a final reference); arrays (1 int, 2 long, 3 boolean, 4 references that stay, 5 references that change) -/
def qbnds : List (Nat × Nat) := [(1, 1), (11, 12), (11, 1), (11, 2), (11, 1), (2, 1), (2, 12), (2, 1), (2, 1), (2, 1), (2, 1), (2, 1), (2, 1), (1, 1), (1, 1), (1, 1), (1, 1), (1, 1), (1, 1), (1, 1), (1, 1), (1, 1), (1, 1), (1, 1), (1, 1), (1, 1), (1, 1), (1, 1), (1, 1), (1, 1), (1, 1), (1, 1), (1, 1), (1, 1), (1, 1), (1, 1), (1, 1), (1, 1), (1, 1), (1, 1), (1, 1), (1, 1), (1, 1), (1, 1), (1, 1), (1, 1), (1, 1), (1, 1), (1, 1), (1, 1)]
def qbnd (t : Nat) : Nat × Nat := qbnds.getD t (0, 0)
def qdom (a : QA) : Bool := decide (a.2.1 < (qbnd a.1).1) && decide (a.2.2 < (qbnd a.1).2)
def qfks : List (List Nat) := [[2, 2, 2, 1, 2, 0, 2, 0, 2, 0, 2, 2, 2, 2, 2, 2, 2], [0, 0, 0, 0, 1, 0, 0], [0, 2, 2, 2, 0], [0, 0, 0, 0, 1], [], [2, 0, 2, 2, 0, 0, 2, 0, 0, 2, 2], [0, 0, 0, 0], [], [], [], [], [], [], [2, 2, 2, 0], [], [], [], [], [], [], [], [], [], [], [2, 2, 2, 2, 2, 2, 2, 2, 2, 2, 2, 0, 0, 2, 2, 2, 2, 0, 0, 0, 2, 1, 1, 0, 0, 2, 2, 0, 2, 0, 0, 2, 2, 0, 2, 2, 2, 2], [], [], [], [], [], [], [], [], [], [], [], [], [], [], [], [], [], [], [], [], [], [], [], [], []]
def qfK (t k : Nat) : Nat := (qfks.getD t []).getD k 9
def qfrs : List (List (Option (Nat × Bool × Nat × Nat))) := [[some (2, false, 0, 0), some (2, false, 1, 0), some (2, false, 2, 0), none, some (17, false, 0, 0), none, some (18, false, 0, 0), none, some (19, false, 0, 0), none, some (20, false, 0, 0), some (5, false, 0, 0), some (5, false, 1, 0), some (21, false, 0, 0), some (22, false, 0, 0), some (23, false, 0, 0), some (13, false, 0, 0)], [none, none, none, none, none, none, none], [none, some (3, true, 0, 0), some (3, true, 0, 1), some (4, true, 0, 0), none], [none, none, none, none, none], [], [some (7, true, 0, 0), none, some (8, true, 0, 0), some (9, true, 0, 0), none, none, some (10, true, 0, 0), none, none, some (11, true, 0, 0), some (12, true, 0, 0)], [none, none, none, none], [], [], [], [], [], [], [some (14, false, 0, 0), some (15, false, 0, 0), some (16, false, 0, 0), none], [], [], [], [], [], [], [], [], [], [], [some (25, false, 0, 0), some (26, false, 0, 0), some (27, false, 0, 0), some (28, false, 0, 0), some (29, false, 0, 0), some (30, false, 0, 0), some (31, false, 0, 0), some (32, false, 0, 0), some (33, false, 0, 0), some (34, false, 0, 0), some (35, false, 0, 0), none, none, some (36, false, 0, 0), some (37, false, 0, 0), some (38, false, 0, 0), some (39, false, 0, 0), none, none, none, some (40, false, 0, 0), none, none, none, none, some (41, false, 0, 0), some (42, false, 0, 0), none, some (43, false, 0, 0), none, none, some (44, false, 0, 0), some (45, false, 0, 0), none, some (46, false, 0, 0), some (47, false, 0, 0), some (48, false, 0, 0), some (49, false, 0, 0)], [], [], [], [], [], [], [], [], [], [], [], [], [], [], [], [], [], [], [], [], [], [], [], [], []]
def qfR (a : QA) (k : Nat) : Option QA := match (qfrs.getD a.1 []).getD k none with
  | none => none
  | some (t, b, j, c) => some (t, bif b then a.2.1 else j, c)
def qarrs : List (Nat × Nat × Nat) := [(0, 0, 0), (0, 0, 0), (0, 0, 0), (0, 0, 0), (4, 12, 1), (0, 0, 0), (0, 0, 0), (1, 12, 0), (4, 12, 6), (5, 12, 6), (5, 12, 6), (1, 12, 0), (1, 12, 0), (0, 0, 0), (1, 26, 0), (1, 26, 0), (3, 26, 0), (5, 8, 2), (1, 96, 0), (1, 12, 0), (1, 7, 0), (1, 7, 0), (1, 7, 0), (2, 256, 0), (0, 0, 0), (1, 7, 0), (1, 2, 0), (1, 2, 0), (1, 2, 0), (1, 2, 0), (1, 2, 0), (1, 12, 0), (1, 12, 0), (1, 12, 0), (1, 12, 0), (1, 12, 0), (1, 96, 0), (1, 48, 0), (1, 48, 0), (1, 192, 0), (1, 800, 0), (1, 12, 0), (1, 12, 0), (1, 53248, 0), (1, 14, 0), (1, 12, 0), (2, 4096, 0), (1, 7, 0), (1, 4096, 0), (1, 84, 0)]
def qarr (t : Nat) : Nat × Nat × Nat := qarrs.getD t (0, 0, 0)
abbrev qeK (t : Nat) : Nat := (qarr t).1
abbrev qeL (t : Nat) : Nat := (qarr t).2.1
abbrev qeT (t : Nat) : Nat := (qarr t).2.2
def qcat : QV → Nat
  | .inr (.inl _) => 2
  | _ => 1
def qwd (st : List QV) : Nat := st.foldr (fun v n => qcat v + n) 0
def qput (ls : QL) (i : Nat) (v : QV) : QL := match i with
  | 0 => ls.set 0 (some v)
  | j + 1 => match ls[j]? with
    | some (some (.inr (.inl _))) => (ls.set j none).set (j + 1) (some v)
    | _ => ls.set (j + 1) (some v)
def qpop : Nat → List QV → List QV → Option (List QV × List QV)
  | 0, st, acc => some (acc, st)
  | _ + 1, [], _ => none
  | n + 1, v :: st, acc => qpop n st (v :: acc)
def qmask : List Bool → QL → QL
  | b :: bs, v :: vs => (bif b then v else none) :: qmask bs vs
  | [], vs => vs
  | _ :: _, [] => []
def qmskOf (code : List QE) (t : Nat) : List Bool := match code.find? (fun e => e.1 == t) with
  | some (_, some m, _) => m
  | _ => []
def qsw (jp : Int → QR) (x : Int32) (d : Int) : List (Int × Int) → QR
  | [] => jp d
  | (a, o) :: r => if x = Int32.ofInt a then jp o else qsw jp x d r
def qtab (lo : Int) : List Int → List (Int × Int)
  | [] => []
  | o :: r => (lo, o) :: qtab (lo + 1) r
/-- behind a call: kinds 0 nothing, 1 an int, 2 a long, 3 a reference of a kind, 4 such a one or null -/
def qbV (c : QR) (f : QM → QR) : QR := match c with
  | some (none, μ) => f μ
  | _ => none
def qbI (c : QR) (f : Int32 → QM → QR) : QR := match c with
  | some (some (.inl x), μ) => f x μ
  | _ => none
def qbL (c : QR) (f : Int64 → QM → QR) : QR := match c with
  | some (some (.inr (.inl x)), μ) => f x μ
  | _ => none
def qbR (t : Nat) (c : QR) (f : Nat → Nat → QM → QR) : QR := match c with
  | some (some (.inr (.inr (some a))), μ) => if a.1 = t ∧ qdom a = true then f a.2.1 a.2.2 μ else none
  | _ => none
def qbN (t : Nat) (c : QR) (f : Nat → Nat → QM → QR) (g : QM → QR) : QR := match c with
  | some (some (.inr (.inr (some a))), μ) => if a.1 = t ∧ qdom a = true then f a.2.1 a.2.2 μ else none
  | some (some (.inr (.inr none)), μ) => g μ
  | _ => none
def qcond (c : ClassFile.Cond) (x y : Int32) (A B : QR) : QR := match c with
  | .eq => if x = y then A else B
  | .ne => if x = y then B else A
  | .lt => if x < y then A else B
  | .ge => if y ≤ x then A else B
  | .gt => if y < x then A else B
  | .le => if x ≤ y then A else B
/-- one instruction: on to the next (nx), or a jump (jp) -/
def qop (call : QC) (nx : QL → List QV → QM → QR) (jp : Int → QL → List QV → QM → QR) (o : Instr) (ls : QL) (st : List QV) (μ : QM) : QR :=
  match o with
  | .sipush n => nx ls (qI (Int32.ofInt n) :: st) μ
  | .goto_w n => nx ls (qL (Int64.ofInt n) :: st) μ
  | .aconst_null => nx ls (qO none :: st) μ
  | .iload i => match ls[i]? with
    | some (some (.inl x)) => nx ls (qI x :: st) μ
    | _ => none
  | .lload i => match ls[i]? with
    | some (some (.inr (.inl x))) => nx ls (qL x :: st) μ
    | _ => none
  | .aload i => match ls[i]? with
    | some (some (.inr (.inr x))) => nx ls (qO x :: st) μ
    | _ => none
  | .istore i => match st with
    | .inl x :: st => if i < ls.length then nx (qput ls i (qI x)) st μ else none
    | _ => none
  | .astore i => match st with
    | .inr (.inr x) :: st => if i < ls.length then nx (qput ls i (qO x)) st μ else none
    | _ => none
  | .lstore i => match st with
    | .inr (.inl x) :: st => if i + 1 < ls.length then nx ((qput ls i (qL x)).set (i + 1) none) st μ else none
    | _ => none
  | .iinc i n => match ls[i]? with
    | some (some (.inl x)) => nx (qput ls i (qI (x + Int32.ofInt n))) st μ
    | _ => none
  | .dup => match st with
    | .inl x :: st => nx ls (qI x :: qI x :: st) μ
    | .inr (.inr x) :: st => nx ls (qO x :: qO x :: st) μ
    | _ => none
  | .dup2 => match st with
    | .inl x :: .inr (.inr y) :: st => nx ls (qI x :: qO y :: qI x :: qO y :: st) μ
    | _ => none
  | .pop => match st with
    | .inl _ :: st => nx ls st μ
    | .inr (.inr _) :: st => nx ls st μ
    | _ => none
  | .iadd => match st with
    | .inl y :: .inl x :: st => nx ls (qI (x + y) :: st) μ
    | _ => none
  | .isub => match st with
    | .inl y :: .inl x :: st => nx ls (qI (x - y) :: st) μ
    | _ => none
  | .imul => match st with
    | .inl y :: .inl x :: st => nx ls (qI (x * y) :: st) μ
    | _ => none
  | .iand => match st with
    | .inl y :: .inl x :: st => nx ls (qI (x &&& y) :: st) μ
    | _ => none
  | .ior => match st with
    | .inl y :: .inl x :: st => nx ls (qI (x ||| y) :: st) μ
    | _ => none
  | .ixor => match st with
    | .inl y :: .inl x :: st => nx ls (qI (x ^^^ y) :: st) μ
    | _ => none
  | .ishl => match st with
    | .inl y :: .inl x :: st => nx ls (qI (x <<< (y &&& 31)) :: st) μ
    | _ => none
  | .ishr => match st with
    | .inl y :: .inl x :: st => nx ls (qI (x >>> (y &&& 31)) :: st) μ
    | _ => none
  | .iushr => match st with
    | .inl y :: .inl x :: st => nx ls (qI (x.toUInt32 >>> (y.toUInt32 &&& Int32.toUInt32 31)).toInt32 :: st) μ
    | _ => none
  | .idiv => match st with
    | .inl y :: .inl x :: st => if y = 0 then none else nx ls (qI (x / y) :: st) μ
    | _ => none
  | .irem => match st with
    | .inl y :: .inl x :: st => if y = 0 then none else nx ls (qI (x - x / y * y) :: st) μ
    | _ => none
  | .ineg => match st with
    | .inl x :: st => nx ls (qI (-x) :: st) μ
    | _ => none
  | .ladd => match st with
    | .inr (.inl y) :: .inr (.inl x) :: st => nx ls (qL (x + y) :: st) μ
    | _ => none
  | .lsub => match st with
    | .inr (.inl y) :: .inr (.inl x) :: st => nx ls (qL (x - y) :: st) μ
    | _ => none
  | .lmul => match st with
    | .inr (.inl y) :: .inr (.inl x) :: st => nx ls (qL (x * y) :: st) μ
    | _ => none
  | .lor => match st with
    | .inr (.inl y) :: .inr (.inl x) :: st => nx ls (qL (x ||| y) :: st) μ
    | _ => none
  | .ldiv => match st with
    | .inr (.inl y) :: .inr (.inl x) :: st => if y = 0 then none else nx ls (qL (x / y) :: st) μ
    | _ => none
  | .lrem => match st with
    | .inr (.inl y) :: .inr (.inl x) :: st => if y = 0 then none else nx ls (qL (x - x / y * y) :: st) μ
    | _ => none
  | .lshl => match st with
    | .inl y :: .inr (.inl x) :: st => nx ls (qL (x <<< (y.toInt64 &&& 63)) :: st) μ
    | _ => none
  | .i2l => match st with
    | .inl x :: st => nx ls (qL x.toInt64 :: st) μ
    | _ => none
  | .lcmp => match st with
    | .inr (.inl y) :: .inr (.inl x) :: st => nx ls (qI (lg_cmp x y) :: st) μ
    | _ => none
  | .fadd => match st with
    | .inl y :: .inl x :: st => if qwd st ≤ 8 then nx ls (qI (if x < y then y else x) :: st) μ else none
    | _ => none
  | .fsub => match st with
    | .inl y :: .inl x :: st => if qwd st ≤ 8 then nx ls (qI (if y < x then y else x) :: st) μ else none
    | _ => none
  | .fneg => match st with
    | .inl x :: st => if qwd st ≤ 8 then nx ls (qI (if 0 ≤ x then x else 0 - x) :: st) μ else none
    | _ => none
  | .ifCond c off => match st with
    | .inl x :: st => qcond c x 0 (jp off ls st μ) (nx ls st μ)
    | _ => none
  | .if_icmp c off => match st with
    | .inl y :: .inl x :: st => qcond c x y (jp off ls st μ) (nx ls st μ)
    | _ => none
  | .if_acmp c off => match st with
    | .inr (.inr y) :: .inr (.inr x) :: st => (match c with
      | .eq => if x = y then jp off ls st μ else nx ls st μ
      | .ne => if x = y then nx ls st μ else jp off ls st μ)
    | _ => none
  | .ifnull off => match st with
    | .inr (.inr none) :: st => jp off ls st μ
    | .inr (.inr (some _)) :: st => nx ls st μ
    | _ => none
  | .ifnonnull off => match st with
    | .inr (.inr none) :: st => nx ls st μ
    | .inr (.inr (some _)) :: st => jp off ls st μ
    | _ => none
  | .goto off => jp off ls st μ
  | .tableswitch d lo _ offs => match st with
    | .inl x :: st => qsw (fun off => jp off ls st μ) x d (qtab lo offs.toList)
    | _ => none
  | .lookupswitch d ps => match st with
    | .inl x :: st => qsw (fun off => jp off ls st μ) x d ps.toList
    | _ => none
  | .getfield r => match st with
    | .inr (.inr (some a)) :: st => if a.1 = r / 64 then
        (match qfK (r / 64) (r % 64) with
        | 0 => nx ls (qI (μ.1 a (r % 64)) :: st) μ
        | 1 => nx ls (qI (qbz (μ.1 a (r % 64))) :: st) μ
        | 2 => nx ls (qO (qfR a (r % 64)) :: st) μ
        | _ => none) else none
    | _ => none
  | .putfield r => match st with
    | .inl x :: .inr (.inr (some a)) :: st => if a.1 = r / 64 then
        (match qfK (r / 64) (r % 64) with
        | 0 => nx ls st (qsi μ a (r % 64) x)
        | 1 => if x = 0 ∨ x = 1 then nx ls st (qsi μ a (r % 64) x) else none
        | _ => none) else none
    | _ => none
  | .arraylength => match st with
    | .inr (.inr (some a)) :: st => if qeK a.1 = 0 then none else nx ls (qI (Int32.ofInt (qeL a.1 : Nat)) :: st) μ
    | _ => none
  | .iaload => match st with
    | .inl i :: .inr (.inr (some a)) :: st => if qeK a.1 = 1 then (bif qoob i (qeL a.1) then none else nx ls (qI (μ.1 a (qix i)) :: st) μ) else none
    | _ => none
  | .baload => match st with
    | .inl i :: .inr (.inr (some a)) :: st => if qeK a.1 = 3 then (bif qoob i (qeL a.1) then none else nx ls (qI (μ.1 a (qix i)) :: st) μ) else none
    | _ => none
  | .laload => match st with
    | .inl i :: .inr (.inr (some a)) :: st => if qeK a.1 = 2 then (bif qoob i (qeL a.1) then none else nx ls (qL (μ.2.1 a (qix i)) :: st) μ) else none
    | _ => none
  | .aaload => match st with
    | .inl i :: .inr (.inr (some a)) :: st => bif qoob i (qeL a.1) then none else
        if qeK a.1 = 4 then nx ls (qR (qeT a.1, a.2.1, qix i) :: st) μ
        else if qeK a.1 = 5 then (match μ.2.2 a (qix i) with
          | none => nx ls (qO none :: st) μ
          | some b => if b.1 = qeT a.1 ∧ qdom b = true then nx ls (qR (qeT a.1, b.2.1, b.2.2) :: st) μ else none)
        else none
    | _ => none
  | .iastore => match st with
    | .inl x :: .inl i :: .inr (.inr (some a)) :: st => if qeK a.1 = 1 then (bif qoob i (qeL a.1) then none else nx ls st (qsi μ a (qix i) x)) else none
    | _ => none
  | .bastore => match st with
    | .inl x :: .inl i :: .inr (.inr (some a)) :: st => if qeK a.1 = 3 ∧ (x = 0 ∨ x = 1) then (bif qoob i (qeL a.1) then none else nx ls st (qsi μ a (qix i) x)) else none
    | _ => none
  | .lastore => match st with
    | .inr (.inl x) :: .inl i :: .inr (.inr (some a)) :: st => if qeK a.1 = 2 then (bif qoob i (qeL a.1) then none else nx ls st (qsl μ a (qix i) x)) else none
    | _ => none
  | .aastore => match st with
    | .inr (.inr none) :: .inl i :: .inr (.inr (some a)) :: st => if qeK a.1 = 5 then (bif qoob i (qeL a.1) then none else nx ls st (qsr μ a (qix i) none)) else none
    | .inr (.inr (some b)) :: .inl i :: .inr (.inr (some a)) :: st => if qeK a.1 = 5 ∧ b.1 = qeT a.1 then (bif qoob i (qeL a.1) then none else nx ls st (qsr μ a (qix i) (some b))) else none
    | _ => none
  | .faload => match st with
    | .inl i :: .inr (.inr (some a)) :: st => if a = (99, 0, 0) then qbI (call 9999 [qI i] μ) (fun x _ => nx ls (qI x :: st) μ) else none
    | _ => none
  | .fload _ => match st with
    | .inr (.inr (some a)) :: st => if a = (99, 0, 0) then qbI (call 9998 [] μ) (fun x _ => nx ls (qI x :: st) μ) else none
    | _ => none
  | .invokeinterface y c => match qpop (c / 8 % 8) st [] with
    | some (av, st) => if qwd st ≤ 8 then
        (match c % 8 with
        | 0 => qbV (call y av μ) (fun μ => nx ls st μ)
        | 1 => qbI (call y av μ) (fun x μ => nx ls (qI x :: st) μ)
        | 2 => qbL (call y av μ) (fun x μ => nx ls (qL x :: st) μ)
        | 3 => qbR (c / 64) (call y av μ) (fun j k μ => nx ls (qR (c / 64, j, k) :: st) μ)
        | 4 => qbN (c / 64) (call y av μ) (fun j k μ => nx ls (qR (c / 64, j, k) :: st) μ) (fun μ => nx ls (qO none :: st) μ)
        | _ => none) else none
    | none => none
  | .ireturn => match st with
    | [.inl x] => some (some (qI x), μ)
    | _ => none
  | .freturn => match st with
    | [.inl x] => if x = 0 ∨ x = 1 then some (some (qI x), μ) else none
    | _ => none
  | .lreturn => match st with
    | [.inr (.inl x)] => some (some (qL x), μ)
    | _ => none
  | .areturn => match st with
    | [.inr (.inr x)] => some (some (qO x), μ)
    | _ => none
  | .return_ => match st with
    | [] => some (none, μ)
    | _ => none
  | _ => none
def qjmp (k : Nat → QL → List QV → QM → QR) (code : List QE) (pc : Nat) (off : Int) (ls : QL) (st : List QV) (μ : QM) : QR :=
  k ((pc : Int) + off).toNat (qmask (qmskOf code ((pc : Int) + off).toNat) ls) st μ
def qsem (call : QC) (k : Nat → QL → List QV → QM → QR) (code : List QE) : List QE → Bool → QL → List QV → QM → QR
  | [] => fun _ _ _ _ => none
  | e :: rest => fun b ls st μ => match b, e.2.1 with
    | true, some m => k e.1 (qmask m ls) st μ
    | _, _ => qop call (qsem call k code rest true) (qjmp k code e.1) e.2.2 ls st μ
def qfrom (code : List QE) (pc : Nat) : List QE := code.dropWhile (fun e => !(e.1 == pc))
def qrunF (call : QC) (code : List QE) : Nat → Nat → QL → List QV → QM → QR
  | 0 => fun _ _ _ _ => none
  | n + 1 => fun pc ls st μ => qsem call (qrunF call code n) code (qfrom code pc) false ls st μ
noncomputable def qsup (f : Nat → QR) : QR := @dite _ (∃ n, (f n).isSome = true) (Classical.propDecidable _) (fun h => f h.choose) (fun _ => none)
noncomputable def qrun (call : QC) (code : List QE) (pc : Nat) (ls : QL) (st : List QV) (μ : QM) : QR := qsup (fun n => qrunF call code n pc ls st μ)
end
section
/-! a run's equation: each step hands on to one successor at most -/
theorem qcond_or (c : ClassFile.Cond) (x y : Int32) : (∀ A B : QR, qcond c x y A B = A) ∨ (∀ A B : QR, qcond c x y A B = B) := by
  cases c <;> simp only [qcond]
  · by_cases h : x = y <;> simp [h]
  · by_cases h : x = y <;> simp [h]
  · by_cases h : x < y <;> simp [h]
  · by_cases h : y ≤ x <;> simp [h]
  · by_cases h : y < x <;> simp [h]
  · by_cases h : x ≤ y <;> simp [h]
theorem qsw_jp (x : Int32) (d : Int) : ∀ l : List (Int × Int), ∃ off : Int, ∀ jp : Int → QR, qsw jp x d l = jp off
  | [] => ⟨d, fun _ => rfl⟩
  | (a, o) :: l => by
    by_cases h : x = Int32.ofInt a
    · exact ⟨o, fun jp => by simp only [qsw, if_pos h]⟩
    · obtain ⟨off, k⟩ := qsw_jp x d l
      exact ⟨off, fun jp => by simp only [qsw, if_neg h]; exact k jp⟩
def QT (f : (QL → List QV → QM → QR) → (Int → QL → List QV → QM → QR) → QR) : Prop :=
  (∃ r, ∀ nx jp, f nx jp = r) ∨ (∃ l s m, ∀ nx jp, f nx jp = nx l s m) ∨ (∃ o l s m, ∀ nx jp, f nx jp = jp o l s m)
theorem QT.c {r : QR} : QT (fun _ _ => r) := Or.inl ⟨r, fun _ _ => rfl⟩
theorem QT.n {l : QL} {s : List QV} {m : QM} : QT (fun nx _ => nx l s m) := Or.inr (Or.inl ⟨l, s, m, fun _ _ => rfl⟩)
theorem QT.j {o : Int} {l : QL} {s : List QV} {m : QM} : QT (fun _ jp => jp o l s m) := Or.inr (Or.inr ⟨o, l, s, m, fun _ _ => rfl⟩)
theorem QT.ite {c : Prop} [i : Decidable c] {f g : (QL → List QV → QM → QR) → (Int → QL → List QV → QM → QR) → QR} (hf : QT f) (hg : QT g) : QT (fun nx jp => if c then f nx jp else g nx jp) := by
  by_cases h : c
  · simpa only [if_pos h] using hf
  · simpa only [if_neg h] using hg
theorem QT.cond {b : Bool} {f g : (QL → List QV → QM → QR) → (Int → QL → List QV → QM → QR) → QR} (hf : QT f) (hg : QT g) : QT (fun nx jp => bif b then f nx jp else g nx jp) := by
  cases b
  · exact hg
  · exact hf
theorem QT.qc {c : ClassFile.Cond} {x y : Int32} {f g : (QL → List QV → QM → QR) → (Int → QL → List QV → QM → QR) → QR} (hf : QT f) (hg : QT g) : QT (fun nx jp => qcond c x y (f nx jp) (g nx jp)) := by
  rcases qcond_or c x y with h | h
  · simpa only [h] using hf
  · simpa only [h] using hg
theorem QT.sw {x : Int32} {d : Int} {ps : List (Int × Int)} {l : QL} {s : List QV} {m : QM} : QT (fun _ jp => qsw (fun off => jp off l s m) x d ps) := by
  obtain ⟨off, h⟩ := qsw_jp x d ps
  exact Or.inr (Or.inr ⟨off, l, s, m, fun _ jp => h _⟩)
theorem QT.bV {c : QR} {f : QM → (QL → List QV → QM → QR) → (Int → QL → List QV → QM → QR) → QR} (hf : ∀ μ, QT (f μ)) : QT (fun nx jp => qbV c (fun μ => f μ nx jp)) := by
  rcases c with _ | ⟨_ | v, μ⟩
  · exact QT.c
  · exact hf μ
  · exact QT.c
theorem QT.bI {c : QR} {f : Int32 → QM → (QL → List QV → QM → QR) → (Int → QL → List QV → QM → QR) → QR} (hf : ∀ x μ, QT (f x μ)) : QT (fun nx jp => qbI c (fun x μ => f x μ nx jp)) := by
  rcases c with _ | ⟨_ | v | v | v, μ⟩
  · exact QT.c
  · exact QT.c
  · exact hf v μ
  · exact QT.c
  · exact QT.c
theorem QT.bL {c : QR} {f : Int64 → QM → (QL → List QV → QM → QR) → (Int → QL → List QV → QM → QR) → QR} (hf : ∀ x μ, QT (f x μ)) : QT (fun nx jp => qbL c (fun x μ => f x μ nx jp)) := by
  rcases c with _ | ⟨_ | v | v | v, μ⟩
  · exact QT.c
  · exact QT.c
  · exact QT.c
  · exact hf v μ
  · exact QT.c
theorem QT.bR {t : Nat} {c : QR} {f : Nat → Nat → QM → (QL → List QV → QM → QR) → (Int → QL → List QV → QM → QR) → QR} (hf : ∀ x y μ, QT (f x y μ)) : QT (fun nx jp => qbR t c (fun x y μ => f x y μ nx jp)) := by
  rcases c with _ | ⟨_ | v | v | _ | a, μ⟩
  · exact QT.c
  · exact QT.c
  · exact QT.c
  · exact QT.c
  · exact QT.c
  · exact QT.ite (hf _ _ μ) QT.c
theorem QT.bN {t : Nat} {c : QR} {f : Nat → Nat → QM → (QL → List QV → QM → QR) → (Int → QL → List QV → QM → QR) → QR} {g : QM → (QL → List QV → QM → QR) → (Int → QL → List QV → QM → QR) → QR} (hf : ∀ x y μ, QT (f x y μ)) (hg : ∀ μ, QT (g μ)) : QT (fun nx jp => qbN t c (fun x y μ => f x y μ nx jp) (fun μ => g μ nx jp)) := by
  rcases c with _ | ⟨_ | v | v | _ | a, μ⟩
  · exact QT.c
  · exact QT.c
  · exact QT.c
  · exact QT.c
  · exact hg μ
  · exact QT.ite (hf _ _ μ) QT.c
set_option maxHeartbeats 4000000 in
theorem qop_tail (call : QC) (o : Instr) (ls : QL) (st : List QV) (μ : QM) : QT (fun nx jp => qop call nx jp o ls st μ) := by
  cases o
  case sipush n =>
    exact QT.n
  case goto_w n =>
    exact QT.n
  case aconst_null =>
    exact QT.n
  case iload i =>
    show QT (fun nx jp => match ls[i]? with | some (some (.inl x)) => nx ls (qI x :: st) μ | _ => none)
    rcases ls[i]? with _ | _ | x | x | x <;> first | exact QT.n | exact QT.c
  case lload i =>
    show QT (fun nx jp => match ls[i]? with | some (some (.inr (.inl x))) => nx ls (qL x :: st) μ | _ => none)
    rcases ls[i]? with _ | _ | x | x | x <;> first | exact QT.n | exact QT.c
  case aload i =>
    show QT (fun nx jp => match ls[i]? with | some (some (.inr (.inr x))) => nx ls (qO x :: st) μ | _ => none)
    rcases ls[i]? with _ | _ | x | x | x <;> first | exact QT.n | exact QT.c
  case iinc i n =>
    show QT (fun nx jp => match ls[i]? with | some (some (.inl x)) => nx (qput ls i (qI (x + Int32.ofInt n))) st μ | _ => none)
    rcases ls[i]? with _ | _ | x | x | x <;> first | exact QT.n | exact QT.c
  case istore i =>
    rcases st with _ | ⟨v0, t0⟩
    · exact QT.c
    rcases v0 with x0 | x0
    · exact QT.ite QT.n QT.c
    · exact QT.c
  case astore i =>
    rcases st with _ | ⟨v0, t0⟩
    · exact QT.c
    rcases v0 with x0 | x0 | x0
    · exact QT.c
    · exact QT.c
    exact QT.ite QT.n QT.c
  case lstore i =>
    rcases st with _ | ⟨v0, t0⟩
    · exact QT.c
    rcases v0 with x0 | x0 | x0
    · exact QT.c
    · exact QT.ite QT.n QT.c
    · exact QT.c
  case dup =>
    rcases st with _ | ⟨x | x | x, st⟩ <;> first | exact QT.n | exact QT.c
  case pop =>
    rcases st with _ | ⟨x | x | x, st⟩ <;> first | exact QT.n | exact QT.c
  case dup2 =>
    rcases st with _ | ⟨v0, t0⟩
    · exact QT.c
    rcases v0 with x0 | x0
    · rcases t0 with _ | ⟨v1, t1⟩
      · exact QT.c
      rcases v1 with x1 | x1 | x1
      · exact QT.c
      · exact QT.c
      exact QT.n
    · exact QT.c
  case iadd =>
    rcases st with _ | ⟨v0, t0⟩
    · exact QT.c
    rcases v0 with x0 | x0
    · rcases t0 with _ | ⟨v1, t1⟩
      · exact QT.c
      rcases v1 with x1 | x1
      · exact QT.n
      · exact QT.c
    · exact QT.c
  case isub =>
    rcases st with _ | ⟨v0, t0⟩
    · exact QT.c
    rcases v0 with x0 | x0
    · rcases t0 with _ | ⟨v1, t1⟩
      · exact QT.c
      rcases v1 with x1 | x1
      · exact QT.n
      · exact QT.c
    · exact QT.c
  case imul =>
    rcases st with _ | ⟨v0, t0⟩
    · exact QT.c
    rcases v0 with x0 | x0
    · rcases t0 with _ | ⟨v1, t1⟩
      · exact QT.c
      rcases v1 with x1 | x1
      · exact QT.n
      · exact QT.c
    · exact QT.c
  case iand =>
    rcases st with _ | ⟨v0, t0⟩
    · exact QT.c
    rcases v0 with x0 | x0
    · rcases t0 with _ | ⟨v1, t1⟩
      · exact QT.c
      rcases v1 with x1 | x1
      · exact QT.n
      · exact QT.c
    · exact QT.c
  case ior =>
    rcases st with _ | ⟨v0, t0⟩
    · exact QT.c
    rcases v0 with x0 | x0
    · rcases t0 with _ | ⟨v1, t1⟩
      · exact QT.c
      rcases v1 with x1 | x1
      · exact QT.n
      · exact QT.c
    · exact QT.c
  case ixor =>
    rcases st with _ | ⟨v0, t0⟩
    · exact QT.c
    rcases v0 with x0 | x0
    · rcases t0 with _ | ⟨v1, t1⟩
      · exact QT.c
      rcases v1 with x1 | x1
      · exact QT.n
      · exact QT.c
    · exact QT.c
  case ishl =>
    rcases st with _ | ⟨v0, t0⟩
    · exact QT.c
    rcases v0 with x0 | x0
    · rcases t0 with _ | ⟨v1, t1⟩
      · exact QT.c
      rcases v1 with x1 | x1
      · exact QT.n
      · exact QT.c
    · exact QT.c
  case ishr =>
    rcases st with _ | ⟨v0, t0⟩
    · exact QT.c
    rcases v0 with x0 | x0
    · rcases t0 with _ | ⟨v1, t1⟩
      · exact QT.c
      rcases v1 with x1 | x1
      · exact QT.n
      · exact QT.c
    · exact QT.c
  case iushr =>
    rcases st with _ | ⟨v0, t0⟩
    · exact QT.c
    rcases v0 with x0 | x0
    · rcases t0 with _ | ⟨v1, t1⟩
      · exact QT.c
      rcases v1 with x1 | x1
      · exact QT.n
      · exact QT.c
    · exact QT.c
  case idiv =>
    rcases st with _ | ⟨v0, t0⟩
    · exact QT.c
    rcases v0 with x0 | x0
    · rcases t0 with _ | ⟨v1, t1⟩
      · exact QT.c
      rcases v1 with x1 | x1
      · exact QT.ite QT.c QT.n
      · exact QT.c
    · exact QT.c
  case irem =>
    rcases st with _ | ⟨v0, t0⟩
    · exact QT.c
    rcases v0 with x0 | x0
    · rcases t0 with _ | ⟨v1, t1⟩
      · exact QT.c
      rcases v1 with x1 | x1
      · exact QT.ite QT.c QT.n
      · exact QT.c
    · exact QT.c
  case ineg =>
    rcases st with _ | ⟨v0, t0⟩
    · exact QT.c
    rcases v0 with x0 | x0
    · exact QT.n
    · exact QT.c
  case ladd =>
    rcases st with _ | ⟨v0, t0⟩
    · exact QT.c
    rcases v0 with x0 | x0 | x0
    · exact QT.c
    · rcases t0 with _ | ⟨v1, t1⟩
      · exact QT.c
      rcases v1 with x1 | x1 | x1
      · exact QT.c
      · exact QT.n
      · exact QT.c
    · exact QT.c
  case lsub =>
    rcases st with _ | ⟨v0, t0⟩
    · exact QT.c
    rcases v0 with x0 | x0 | x0
    · exact QT.c
    · rcases t0 with _ | ⟨v1, t1⟩
      · exact QT.c
      rcases v1 with x1 | x1 | x1
      · exact QT.c
      · exact QT.n
      · exact QT.c
    · exact QT.c
  case lmul =>
    rcases st with _ | ⟨v0, t0⟩
    · exact QT.c
    rcases v0 with x0 | x0 | x0
    · exact QT.c
    · rcases t0 with _ | ⟨v1, t1⟩
      · exact QT.c
      rcases v1 with x1 | x1 | x1
      · exact QT.c
      · exact QT.n
      · exact QT.c
    · exact QT.c
  case lor =>
    rcases st with _ | ⟨v0, t0⟩
    · exact QT.c
    rcases v0 with x0 | x0 | x0
    · exact QT.c
    · rcases t0 with _ | ⟨v1, t1⟩
      · exact QT.c
      rcases v1 with x1 | x1 | x1
      · exact QT.c
      · exact QT.n
      · exact QT.c
    · exact QT.c
  case lcmp =>
    rcases st with _ | ⟨v0, t0⟩
    · exact QT.c
    rcases v0 with x0 | x0 | x0
    · exact QT.c
    · rcases t0 with _ | ⟨v1, t1⟩
      · exact QT.c
      rcases v1 with x1 | x1 | x1
      · exact QT.c
      · exact QT.n
      · exact QT.c
    · exact QT.c
  case ldiv =>
    rcases st with _ | ⟨v0, t0⟩
    · exact QT.c
    rcases v0 with x0 | x0 | x0
    · exact QT.c
    · rcases t0 with _ | ⟨v1, t1⟩
      · exact QT.c
      rcases v1 with x1 | x1 | x1
      · exact QT.c
      · exact QT.ite QT.c QT.n
      · exact QT.c
    · exact QT.c
  case lrem =>
    rcases st with _ | ⟨v0, t0⟩
    · exact QT.c
    rcases v0 with x0 | x0 | x0
    · exact QT.c
    · rcases t0 with _ | ⟨v1, t1⟩
      · exact QT.c
      rcases v1 with x1 | x1 | x1
      · exact QT.c
      · exact QT.ite QT.c QT.n
      · exact QT.c
    · exact QT.c
  case lshl =>
    rcases st with _ | ⟨v0, t0⟩
    · exact QT.c
    rcases v0 with x0 | x0
    · rcases t0 with _ | ⟨v1, t1⟩
      · exact QT.c
      rcases v1 with x1 | x1 | x1
      · exact QT.c
      · exact QT.n
      · exact QT.c
    · exact QT.c
  case i2l =>
    rcases st with _ | ⟨v0, t0⟩
    · exact QT.c
    rcases v0 with x0 | x0
    · exact QT.n
    · exact QT.c
  case fadd =>
    rcases st with _ | ⟨v0, t0⟩
    · exact QT.c
    rcases v0 with x0 | x0
    · rcases t0 with _ | ⟨v1, t1⟩
      · exact QT.c
      rcases v1 with x1 | x1
      · exact QT.ite QT.n QT.c
      · exact QT.c
    · exact QT.c
  case fsub =>
    rcases st with _ | ⟨v0, t0⟩
    · exact QT.c
    rcases v0 with x0 | x0
    · rcases t0 with _ | ⟨v1, t1⟩
      · exact QT.c
      rcases v1 with x1 | x1
      · exact QT.ite QT.n QT.c
      · exact QT.c
    · exact QT.c
  case fneg =>
    rcases st with _ | ⟨v0, t0⟩
    · exact QT.c
    rcases v0 with x0 | x0
    · exact QT.ite QT.n QT.c
    · exact QT.c
  case ifCond c off =>
    rcases st with _ | ⟨v0, t0⟩
    · exact QT.c
    rcases v0 with x0 | x0
    · exact QT.qc QT.j QT.n
    · exact QT.c
  case if_icmp c off =>
    rcases st with _ | ⟨v0, t0⟩
    · exact QT.c
    rcases v0 with x0 | x0
    · rcases t0 with _ | ⟨v1, t1⟩
      · exact QT.c
      rcases v1 with x1 | x1
      · exact QT.qc QT.j QT.n
      · exact QT.c
    · exact QT.c
  case if_acmp c off =>
    cases c
    · rcases st with _ | ⟨v0, t0⟩
      · exact QT.c
      rcases v0 with x0 | x0 | x0
      · exact QT.c
      · exact QT.c
      rcases t0 with _ | ⟨v1, t1⟩
      · exact QT.c
      rcases v1 with x1 | x1 | x1
      · exact QT.c
      · exact QT.c
      exact QT.ite QT.j QT.n
    · rcases st with _ | ⟨v0, t0⟩
      · exact QT.c
      rcases v0 with x0 | x0 | x0
      · exact QT.c
      · exact QT.c
      rcases t0 with _ | ⟨v1, t1⟩
      · exact QT.c
      rcases v1 with x1 | x1 | x1
      · exact QT.c
      · exact QT.c
      exact QT.ite QT.n QT.j
  case ifnull off =>
    rcases st with _ | ⟨x | x | _ | x, st⟩ <;> first | exact QT.n | exact QT.j | exact QT.c
  case ifnonnull off =>
    rcases st with _ | ⟨x | x | _ | x, st⟩ <;> first | exact QT.n | exact QT.j | exact QT.c
  case goto off =>
    exact QT.j
  case tableswitch d lo hi offs =>
    rcases st with _ | ⟨v0, t0⟩
    · exact QT.c
    rcases v0 with x0 | x0
    · exact QT.sw
    · exact QT.c
  case lookupswitch d ps =>
    rcases st with _ | ⟨v0, t0⟩
    · exact QT.c
    rcases v0 with x0 | x0
    · exact QT.sw
    · exact QT.c
  case getfield r =>
    rcases st with _ | ⟨v0, t0⟩
    · exact QT.c
    rcases v0 with x0 | x0 | _ | x0
    · exact QT.c
    · exact QT.c
    · exact QT.c
    refine QT.ite ?_ QT.c
    generalize qfK (r / 64) (r % 64) = q
    match q with
    | 0 => exact QT.n
    | 1 => exact QT.n
    | 2 => exact QT.n
    | _ + 3 => exact QT.c
  case putfield r =>
    rcases st with _ | ⟨v0, t0⟩
    · exact QT.c
    rcases v0 with x0 | x0
    · rcases t0 with _ | ⟨v1, t1⟩
      · exact QT.c
      rcases v1 with x1 | x1 | _ | x1
      · exact QT.c
      · exact QT.c
      · exact QT.c
      refine QT.ite ?_ QT.c
      generalize qfK (r / 64) (r % 64) = q
      match q with
      | 0 => exact QT.n
      | 1 => exact QT.ite QT.n QT.c
      | _ + 2 => exact QT.c
    · exact QT.c
  case arraylength =>
    rcases st with _ | ⟨v0, t0⟩
    · exact QT.c
    rcases v0 with x0 | x0 | _ | x0
    · exact QT.c
    · exact QT.c
    · exact QT.c
    exact QT.ite QT.c QT.n
  case iaload =>
    rcases st with _ | ⟨v0, t0⟩
    · exact QT.c
    rcases v0 with x0 | x0
    · rcases t0 with _ | ⟨v1, t1⟩
      · exact QT.c
      rcases v1 with x1 | x1 | _ | x1
      · exact QT.c
      · exact QT.c
      · exact QT.c
      exact QT.ite (QT.cond QT.c QT.n) QT.c
    · exact QT.c
  case baload =>
    rcases st with _ | ⟨v0, t0⟩
    · exact QT.c
    rcases v0 with x0 | x0
    · rcases t0 with _ | ⟨v1, t1⟩
      · exact QT.c
      rcases v1 with x1 | x1 | _ | x1
      · exact QT.c
      · exact QT.c
      · exact QT.c
      exact QT.ite (QT.cond QT.c QT.n) QT.c
    · exact QT.c
  case laload =>
    rcases st with _ | ⟨v0, t0⟩
    · exact QT.c
    rcases v0 with x0 | x0
    · rcases t0 with _ | ⟨v1, t1⟩
      · exact QT.c
      rcases v1 with x1 | x1 | _ | x1
      · exact QT.c
      · exact QT.c
      · exact QT.c
      exact QT.ite (QT.cond QT.c QT.n) QT.c
    · exact QT.c
  case aaload =>
    rcases st with _ | ⟨v0, t0⟩
    · exact QT.c
    rcases v0 with x0 | x0
    · rcases t0 with _ | ⟨v1, t1⟩
      · exact QT.c
      rcases v1 with x1 | x1 | _ | x1
      · exact QT.c
      · exact QT.c
      · exact QT.c
      refine QT.cond QT.c (QT.ite QT.n (QT.ite ?_ QT.c))
      rcases μ.2.2 x1 (qix x0) with _ | b
      · exact QT.n
      · exact QT.ite QT.n QT.c
    · exact QT.c
  case iastore =>
    rcases st with _ | ⟨v0, t0⟩
    · exact QT.c
    rcases v0 with x0 | x0
    · rcases t0 with _ | ⟨v1, t1⟩
      · exact QT.c
      rcases v1 with x1 | x1
      · rcases t1 with _ | ⟨v2, t2⟩
        · exact QT.c
        rcases v2 with x2 | x2 | _ | x2
        · exact QT.c
        · exact QT.c
        · exact QT.c
        exact QT.ite (QT.cond QT.c QT.n) QT.c
      · exact QT.c
    · exact QT.c
  case bastore =>
    rcases st with _ | ⟨v0, t0⟩
    · exact QT.c
    rcases v0 with x0 | x0
    · rcases t0 with _ | ⟨v1, t1⟩
      · exact QT.c
      rcases v1 with x1 | x1
      · rcases t1 with _ | ⟨v2, t2⟩
        · exact QT.c
        rcases v2 with x2 | x2 | _ | x2
        · exact QT.c
        · exact QT.c
        · exact QT.c
        exact QT.ite (QT.cond QT.c QT.n) QT.c
      · exact QT.c
    · exact QT.c
  case lastore =>
    rcases st with _ | ⟨v0, t0⟩
    · exact QT.c
    rcases v0 with x0 | x0 | x0
    · exact QT.c
    · rcases t0 with _ | ⟨v1, t1⟩
      · exact QT.c
      rcases v1 with x1 | x1
      · rcases t1 with _ | ⟨v2, t2⟩
        · exact QT.c
        rcases v2 with x2 | x2 | _ | x2
        · exact QT.c
        · exact QT.c
        · exact QT.c
        exact QT.ite (QT.cond QT.c QT.n) QT.c
      · exact QT.c
    · exact QT.c
  case aastore =>
    rcases st with _ | ⟨x | x | _ | b, st⟩
    · exact QT.c
    · exact QT.c
    · exact QT.c
    · rcases st with _ | ⟨v0, t0⟩
      · exact QT.c
      rcases v0 with x0 | x0
      · rcases t0 with _ | ⟨v1, t1⟩
        · exact QT.c
        rcases v1 with x1 | x1 | _ | x1
        · exact QT.c
        · exact QT.c
        · exact QT.c
        exact QT.ite (QT.cond QT.c QT.n) QT.c
      · exact QT.c
    · rcases st with _ | ⟨v0, t0⟩
      · exact QT.c
      rcases v0 with x0 | x0
      · rcases t0 with _ | ⟨v1, t1⟩
        · exact QT.c
        rcases v1 with x1 | x1 | _ | x1
        · exact QT.c
        · exact QT.c
        · exact QT.c
        exact QT.ite (QT.cond QT.c QT.n) QT.c
      · exact QT.c
  case faload =>
    rcases st with _ | ⟨v0, t0⟩
    · exact QT.c
    rcases v0 with x0 | x0
    · rcases t0 with _ | ⟨v1, t1⟩
      · exact QT.c
      rcases v1 with x1 | x1 | _ | x1
      · exact QT.c
      · exact QT.c
      · exact QT.c
      exact QT.ite (QT.bI fun _ _ => QT.n) QT.c
    · exact QT.c
  case fload i =>
    rcases st with _ | ⟨v0, t0⟩
    · exact QT.c
    rcases v0 with x0 | x0 | _ | x0
    · exact QT.c
    · exact QT.c
    · exact QT.c
    exact QT.ite (QT.bI fun _ _ => QT.n) QT.c
  case invokeinterface y c =>
    show QT (fun nx jp => match qpop (c / 8 % 8) st [] with | some (av, st) => _ | none => none)
    rcases qpop (c / 8 % 8) st [] with _ | ⟨av, st⟩
    · exact QT.c
    refine QT.ite ?_ QT.c
    generalize c % 8 = q
    match q with
    | 0 => exact QT.bV fun _ => QT.n
    | 1 => exact QT.bI fun _ _ => QT.n
    | 2 => exact QT.bL fun _ _ => QT.n
    | 3 => exact QT.bR fun _ _ _ => QT.n
    | 4 => exact QT.bN (fun _ _ _ => QT.n) fun _ => QT.n
    | _ + 5 => exact QT.c
  case ireturn =>
    exact QT.c
  case freturn =>
    exact QT.c
  case lreturn =>
    exact QT.c
  case areturn =>
    exact QT.c
  case return_ =>
    exact QT.c
  all_goals exact QT.c
theorem qsem_tail (call : QC) (code : List QE) : ∀ (l : List QE) (b : Bool) (ls : QL) (st : List QV) (μ : QM),
    (∃ r, ∀ k, qsem call k code l b ls st μ = r) ∨ (∃ pc l' s' m', ∀ k, qsem call k code l b ls st μ = k pc l' s' m')
  | [], b, ls, st, μ => Or.inl ⟨none, fun _ => rfl⟩
  | e :: rest, b, ls, st, μ => by
    have main : (∃ r, ∀ k, qop call (qsem call k code rest true) (qjmp k code e.1) e.2.2 ls st μ = r) ∨ (∃ pc l' s' m', ∀ k, qop call (qsem call k code rest true) (qjmp k code e.1) e.2.2 ls st μ = k pc l' s' m') := by
      rcases qop_tail call e.2.2 ls st μ with ⟨r, h⟩ | ⟨l, s, m, h⟩ | ⟨o, l, s, m, h⟩
      · exact Or.inl ⟨r, fun k => h _ _⟩
      · rcases qsem_tail call code rest true l s m with ⟨r, h2⟩ | ⟨pc, l', s', m', h2⟩
        · exact Or.inl ⟨r, fun k => (h _ _).trans (h2 k)⟩
        · exact Or.inr ⟨pc, l', s', m', fun k => (h _ _).trans (h2 k)⟩
      · exact Or.inr ⟨_, _, _, _, fun k => h _ _⟩
    obtain ⟨pc, lv, o⟩ := e
    cases b
    · exact main
    · cases lv with
      | none => exact main
      | some m => exact Or.inr ⟨pc, qmask m ls, st, μ, fun _ => rfl⟩
theorem qrunF_mono (call : QC) (code : List QE) : ∀ (n m : Nat) (pc : Nat) (ls : QL) (st : List QV) (μ : QM) (r : Option QV × QM), n ≤ m → qrunF call code n pc ls st μ = some r → qrunF call code m pc ls st μ = some r
  | 0, m, pc, ls, st, μ, r, _, h => by cases h
  | n + 1, 0, pc, ls, st, μ, r, hl, h => absurd hl (by omega)
  | n + 1, m + 1, pc, ls, st, μ, r, hl, h => by
    have h : qsem call (qrunF call code n) code (qfrom code pc) false ls st μ = some r := h
    show qsem call (qrunF call code m) code (qfrom code pc) false ls st μ = some r
    rcases qsem_tail call code (qfrom code pc) false ls st μ with ⟨x, h2⟩ | ⟨pc', l', s', m', h2⟩
    · rw [h2] at h ⊢
      exact h
    · rw [h2] at h ⊢
      exact qrunF_mono call code n m pc' l' s' m' r (by omega) h
theorem qsup_eq {f : Nat → QR} (hm : ∀ n m r, n ≤ m → f n = some r → f m = some r) {n : Nat} {r : Option QV × QM} (h : f n = some r) : qsup f = some r := by
  have hex : ∃ n, (f n).isSome = true := ⟨n, by rw [h]; rfl⟩
  unfold qsup
  rw [dif_pos hex]
  have hc := hex.choose_spec
  generalize hex.choose = m at hc ⊢
  obtain ⟨r', hr'⟩ := Option.isSome_iff_exists.mp hc
  rcases Nat.le_total n m with hl | hl
  · exact hm _ _ _ hl h
  · rw [hr', ← hm _ _ _ hl hr', h]
theorem qsup_some {f : Nat → QR} {r : Option QV × QM} (h : qsup f = some r) : ∃ n, f n = some r := by
  unfold qsup at h
  by_cases hex : ∃ n, (f n).isSome = true
  · rw [dif_pos hex] at h
    exact ⟨_, h⟩
  · rw [dif_neg hex] at h
    cases h
theorem qsup_none {f : Nat → QR} (h : ∀ n, f n = none) : qsup f = none := by
  unfold qsup
  rw [dif_neg]
  rintro ⟨n, hn⟩
  rw [h n] at hn
  cases hn
/-- a run, one stretch on -/
theorem qrun_eq (call : QC) (code : List QE) (pc : Nat) (ls : QL) (st : List QV) (μ : QM) : qrun call code pc ls st μ = qsem call (qrun call code) code (qfrom code pc) false ls st μ := by
  have hm : ∀ pc ls st μ n m r, n ≤ m → qrunF call code n pc ls st μ = some r → qrunF call code m pc ls st μ = some r := fun pc ls st μ n m r => qrunF_mono call code n m pc ls st μ r
  rcases qsem_tail call code (qfrom code pc) false ls st μ with ⟨x, h⟩ | ⟨pc', l', s', m', h⟩
  · rw [h]
    cases x with
    | none =>
      refine qsup_none fun n => ?_
      cases n with
      | zero => rfl
      | succ n => exact h _
    | some r => exact qsup_eq (hm pc ls st μ) (n := 1) (h _)
  · rw [h]
    cases hx : qrun call code pc' l' s' m' with
    | none =>
      refine qsup_none fun n => ?_
      cases n with
      | zero => rfl
      | succ n =>
        have e : qrunF call code (n + 1) pc ls st μ = qrunF call code n pc' l' s' m' := h _
        rw [e]
        cases hy : qrunF call code n pc' l' s' m' with
        | none => rfl
        | some r =>
          have := qsup_eq (hm pc' l' s' m') hy
          unfold qrun at hx
          rw [this] at hx
          cases hx
    | some r =>
      obtain ⟨n, hn⟩ := qsup_some hx
      exact qsup_eq (hm pc ls st μ) (n := n + 1) ((h _).trans hn)
end
section
/-! the names behind the numbers: classes, fields, links, constants, methods; checked against the words of the tables -/
def qowns : List String := ["JealousByCalendar", "JealousByCalendar$Cause", "JealousByCalendar$Affair", "JealousByCalendar$Person", "JealousByCalendar$Plan", "JealousByCalendar$Choice", "JealousByCalendar$Course", "JealousByCalendarModel", "JealousByCalendarLaw", "java/lang/Integer"]
def qownS (o : Nat) : String := qowns.getD o ""
def qTl : List (List (String × String × String × Bool)) := [[("JealousByCalendar", "now", "LJealousByCalendar$Affair;", true), ("JealousByCalendar", "mind", "LJealousByCalendar$Affair;", true), ("JealousByCalendar", "picture", "LJealousByCalendar$Affair;", true), ("JealousByCalendar", "hasPicture", "Z", false), ("JealousByCalendar", "past", "[LJealousByCalendar$Affair;", true), ("JealousByCalendar", "pastCount", "I", false), ("JealousByCalendar", "letters", "[I", true), ("JealousByCalendar", "letterCount", "I", false), ("JealousByCalendar", "numbers", "[I", true), ("JealousByCalendar", "numberCount", "I", false), ("JealousByCalendar", "refusals", "[I", true), ("JealousByCalendar", "his", "LJealousByCalendar$Plan;", true), ("JealousByCalendar", "hers", "LJealousByCalendar$Plan;", true), ("JealousByCalendar", "hisSettled", "[I", true), ("JealousByCalendar", "hersSettled", "[I", true), ("JealousByCalendar", "ways", "[J", true), ("JealousByCalendar", "course", "LJealousByCalendar$Course;", true)], [("JealousByCalendar$Cause", "kind", "I", false), ("JealousByCalendar$Cause", "figure", "I", false), ("JealousByCalendar$Cause", "whose", "I", false), ("JealousByCalendar$Cause", "found", "I", false), ("JealousByCalendar$Cause", "used", "Z", false), ("JealousByCalendar$Cause", "lasting", "I", false), ("JealousByCalendar$Cause", "weight", "I", false)], [("JealousByCalendar$Affair", "day", "I", false), ("JealousByCalendar$Affair", "he", "LJealousByCalendar$Person;", true), ("JealousByCalendar$Affair", "she", "LJealousByCalendar$Person;", true), ("JealousByCalendar$Affair", "causes", "[LJealousByCalendar$Cause;", true), ("JealousByCalendar$Affair", "count", "I", false)], [("JealousByCalendar$Person", "weekday", "I", false), ("JealousByCalendar$Person", "purse", "I", false), ("JealousByCalendar$Person", "borrowed", "I", false), ("JealousByCalendar$Person", "owed", "I", false), ("JealousByCalendar$Person", "jealous", "Z", false)], [("JealousByCalendar$Plan", "dayOf", "[I", true), ("JealousByCalendar$Plan", "days", "I", false), ("JealousByCalendar$Plan", "byNumber", "[LJealousByCalendar$Choice;", true), ("JealousByCalendar$Plan", "byWeight", "[LJealousByCalendar$Choice;", true), ("JealousByCalendar$Plan", "size", "I", false), ("JealousByCalendar$Plan", "all", "I", false), ("JealousByCalendar$Plan", "taker", "[LJealousByCalendar$Choice;", true), ("JealousByCalendar$Plan", "seen", "I", false), ("JealousByCalendar$Plan", "kept", "I", false), ("JealousByCalendar$Plan", "hand", "[I", true), ("JealousByCalendar$Plan", "goodOn", "[I", true)], [("JealousByCalendar$Choice", "number", "I", false), ("JealousByCalendar$Choice", "weight", "I", false), ("JealousByCalendar$Choice", "lastDay", "I", false), ("JealousByCalendar$Choice", "goodDays", "I", false)], [("JealousByCalendar$Course", "payer", "[I", true), ("JealousByCalendar$Course", "weight", "[I", true), ("JealousByCalendar$Course", "isFine", "[Z", true), ("JealousByCalendar$Course", "steps", "I", false)], [("JealousByCalendarModel", "refused", "[I", true), ("JealousByCalendarModel", "weekday", "[I", true), ("JealousByCalendarModel", "purse", "[I", true), ("JealousByCalendarModel", "borrowed", "[I", true), ("JealousByCalendarModel", "owed", "[I", true), ("JealousByCalendarModel", "jealous", "[I", true), ("JealousByCalendarModel", "kind", "[I", true), ("JealousByCalendarModel", "figure", "[I", true), ("JealousByCalendarModel", "whose", "[I", true), ("JealousByCalendarModel", "found", "[I", true), ("JealousByCalendarModel", "used", "[I", true), ("JealousByCalendarModel", "causes", "I", false), ("JealousByCalendarModel", "day", "I", false), ("JealousByCalendarModel", "tape", "[I", true), ("JealousByCalendarModel", "letter", "[I", true), ("JealousByCalendarModel", "letterAt", "[I", true), ("JealousByCalendarModel", "told", "[I", true), ("JealousByCalendarModel", "taped", "I", false), ("JealousByCalendarModel", "at", "I", false), ("JealousByCalendarModel", "statements", "I", false), ("JealousByCalendarModel", "kept", "[I", true), ("JealousByCalendarModel", "hasImage", "Z", false), ("JealousByCalendarModel", "isKeeping", "Z", false), ("JealousByCalendarModel", "cursor", "I", false), ("JealousByCalendarModel", "backs", "I", false), ("JealousByCalendarModel", "need", "[I", true), ("JealousByCalendarModel", "hand", "[I", true), ("JealousByCalendarModel", "needs", "I", false), ("JealousByCalendarModel", "best", "[I", true), ("JealousByCalendarModel", "own", "I", false), ("JealousByCalendarModel", "ownHis", "I", false), ("JealousByCalendarModel", "settles", "[I", true), ("JealousByCalendarModel", "row", "[I", true), ("JealousByCalendarModel", "rowMany", "I", false), ("JealousByCalendarModel", "ways", "[J", true), ("JealousByCalendarModel", "couples", "[I", true), ("JealousByCalendarModel", "laidHis", "[I", true), ("JealousByCalendarModel", "hasBoth", "[I", true)]]
def qT (ci : Nat) : u_T := fun k => (qTl.getD ci []).getD k ("", "", "", false)
def qtyl : List (List FieldType) := [[.object "JealousByCalendar$Affair", .object "JealousByCalendar$Affair", .object "JealousByCalendar$Affair", .boolean, .array (.object "JealousByCalendar$Affair"), .int, .array .int, .int, .array .int, .int, .array .int, .object "JealousByCalendar$Plan", .object "JealousByCalendar$Plan", .array .int, .array .int, .array .long, .object "JealousByCalendar$Course"], [.int, .int, .int, .int, .boolean, .int, .int], [.int, .object "JealousByCalendar$Person", .object "JealousByCalendar$Person", .array (.object "JealousByCalendar$Cause"), .int], [.int, .int, .int, .int, .boolean], [.array .int, .int, .array (.object "JealousByCalendar$Choice"), .array (.object "JealousByCalendar$Choice"), .int, .int, .array (.object "JealousByCalendar$Choice"), .int, .int, .array .int, .array .int], [.int, .int, .int, .int], [.array .int, .array .int, .array .boolean, .int], [.array .int, .array .int, .array .int, .array .int, .array .int, .array .int, .array .int, .array .int, .array .int, .array .int, .array .int, .int, .int, .array .int, .array .int, .array .int, .array .int, .int, .int, .int, .array .int, .boolean, .boolean, .int, .int, .array .int, .array .int, .int, .array .int, .int, .int, .array .int, .array .int, .int, .array .long, .array .int, .array .int, .array .int]]
def qty (ci : Nat) : Nat → FieldType := fun k => (qtyl.getD ci []).getD k .int
def qNl : List Nat := [17, 7, 5, 5, 11, 4, 4, 38]
def qN (ci : Nat) : Nat := qNl.getD ci 0
def qcl : List vw_C := (List.range 8).map fun ci => (qownS ci, qT ci, qN ci)
/-- a kind's class, where it is one of objects -/
def qcis : List (Option Nat) := [some 0, some 1, some 2, some 3, none, some 4, some 5, none, none, none, none, none, none, some 6, none, none, none, none, none, none, none, none, none, none, some 7, none, none, none, none, none, none, none, none, none, none, none, none, none, none, none, none, none, none, none, none, none, none, none, none, none]
def qci (t : Nat) : Option Nat := qcis.getD t none
def qft : List (Nat × Nat × Nat × Bool × Nat) := [(0, 10, 0, false, 356), (0, 16, 1, false, 357), (0, 19, 2, false, 358), (0, 22, 4, false, 360), (0, 26, 6, false, 362), (0, 30, 8, false, 364), (0, 33, 10, false, 366), (0, 39, 11, false, 367), (0, 43, 12, false, 368), (0, 46, 13, false, 369), (0, 49, 14, false, 370), (0, 52, 15, false, 371), (0, 59, 16, false, 372), (0, 67, 7, false, 363), (0, 82, 5, false, 361), (0, 93, 192, true, 179), (0, 98, 193, true, 182), (0, 101, 194, true, 185), (0, 104, 195, true, 187), (0, 107, 196, true, 191), (0, 115, 64, true, 212), (0, 120, 65, true, 215), (0, 123, 66, true, 217), (0, 126, 67, true, 220), (0, 129, 68, true, 223), (0, 132, 69, true, 226), (0, 135, 70, true, 230), (0, 141, 128, true, 250), (0, 151, 132, true, 257), (0, 172, 3, false, 359), (0, 180, 9, false, 365), (0, 208, 325, true, 305), (0, 240, 321, true, 299), (0, 288, 322, true, 301), (0, 311, 129, true, 252), (0, 315, 130, true, 254), (0, 343, 328, true, 309), (2, 14, 129, false, 251), (2, 20, 130, false, 253), (2, 25, 131, false, 255), (2, 30, 128, false, 247), (2, 38, 132, false, 256), (2, 48, 68, true, 224), (2, 55, 66, true, 218), (2, 58, 70, true, 231), (2, 61, 64, true, 213), (2, 68, 192, true, 180), (2, 79, 196, true, 192), (2, 86, 193, true, 183), (2, 93, 195, true, 188), (2, 99, 67, true, 221), (1, 9, 64, false, 211), (1, 15, 65, false, 214), (1, 18, 66, false, 216), (1, 21, 67, false, 219), (1, 24, 68, false, 222), (1, 28, 69, false, 225), (1, 31, 70, false, 227), (6, 11, 832, false, 341), (6, 15, 833, false, 342), (6, 18, 834, false, 343), (6, 22, 835, false, 344), (6, 26, 128, true, 248), (6, 52, 70, true, 228), (3, 9, 193, false, 181), (3, 15, 192, false, 178), (3, 18, 194, false, 184), (3, 21, 195, false, 186), (3, 24, 196, false, 190), (4, 9, 320, false, 297), (4, 17, 322, false, 300), (4, 21, 323, false, 302), (4, 24, 326, false, 306), (4, 27, 329, false, 310), (4, 30, 330, false, 311), (4, 34, 384, true, 283), (4, 44, 196, true, 189), (4, 50, 321, false, 298), (4, 53, 128, true, 249), (4, 60, 325, false, 304), (4, 63, 324, false, 303), (4, 70, 70, true, 229), (4, 75, 385, true, 284), (4, 80, 386, true, 285), (4, 86, 387, true, 286), (4, 104, 328, false, 308), (4, 107, 327, false, 307), (7, 7, 1536, false, 1058), (7, 13, 1537, false, 1059), (7, 16, 1538, false, 1060), (7, 19, 1539, false, 1061), (7, 22, 1540, false, 1062), (7, 25, 1541, false, 1063), (7, 28, 1542, false, 1064), (7, 31, 1543, false, 1065), (7, 34, 1544, false, 1066), (7, 37, 1545, false, 1067), (7, 40, 1546, false, 1068), (7, 43, 1549, false, 1071), (7, 46, 1550, false, 1072), (7, 49, 1551, false, 1073), (7, 52, 1552, false, 1074), (7, 55, 1556, false, 1078), (7, 58, 1561, false, 1083), (7, 61, 1562, false, 1084), (7, 65, 1564, false, 1086), (7, 68, 1567, false, 1089), (7, 71, 1568, false, 1090), (7, 74, 1570, false, 1092), (7, 78, 1571, false, 1093), (7, 81, 1572, false, 1094), (7, 84, 1573, false, 1095), (7, 90, 1547, false, 1069), (7, 98, 1553, false, 1075), (7, 105, 1554, false, 1076), (7, 120, 1555, false, 1077), (7, 143, 1548, false, 1070), (7, 160, 1560, false, 1082), (7, 163, 1558, false, 1080), (7, 167, 1559, false, 1081), (7, 177, 1557, false, 1079), (7, 202, 1563, false, 1085), (7, 221, 1565, false, 1087), (7, 268, 1569, false, 1091), (7, 324, 1566, false, 1088)]
def qfw (o cp r : Nat) (nest : Bool) : Cond := match qci (r / 64) with
  | none => .declares ⟨"", "", ""⟩
  | some ci => if nest = true then .fieldLinkNest (qownS o) cp (qownS ci) (qT ci (r % 64)).2.1 (qT ci (r % 64)).2.2.1 "JealousByCalendar" else .fieldLink (qownS o) cp (qownS ci) (qT ci (r % 64)).2.1 (qT ci (r % 64)).2.2.1
set_option maxRecDepth 20000 in
theorem qft_ok : ∀ e ∈ qft, lw_tbl[e.2.2.2.2]? = some (qfw e.1 e.2.1 e.2.2.1 e.2.2.2.1) ∧ (qci (e.2.2.1 / 64)).isSome = true ∧ e.2.2.1 % 64 < qN ((qci (e.2.2.1 / 64)).getD 0) := by decide +kernel
def qct : List (Nat × Nat × Int × Nat) := [(0, 309, 1103515245, 907), (0, 310, 2147483647, 908), (0, 384, 1000000000, 848), (7, 64, 53248, 1057), (7, 87, 1000000000, 1383), (7, 258, -100000, 1416), (7, 348, 1103515245, 1612), (7, 349, 2147483647, 1613), (7, 350, 65536, 1614), (9, 265, 1431655765, 833), (9, 266, 858993459, 834), (9, 267, 252645135, 835)]
def qclt : List (Nat × Nat × Int × Nat) := [(0, 303, 2, 898), (0, 385, 4000000000000000000, 650), (7, 88, 4000000000000000000, 1440), (7, 302, 2, 1483)]
theorem qct_ok : ∀ e ∈ qct, lw_tbl[e.2.2.2]? = some (.constant (qownS e.1) e.2.1 (Int32.ofInt e.2.2.1)) := by decide +kernel
theorem qclt_ok : ∀ e ∈ qclt, lw_tbl[e.2.2.2]? = some (.constantLong (qownS e.1) e.2.1 (Int64.ofInt e.2.2.1)) := by decide +kernel
/-- a method: name, code, locals, return type, static, words (initialized, code, static or instance, selects), how many arguments (its own object counted) -/
abbrev QMI : Type := MethodName × ByteArray × Nat × Option FieldType × Bool × Nat × Nat × Nat × Nat × Nat
def qmi0 : List QMI := [(⟨"JealousByCalendar$Cause", "copyFrom", "(LJealousByCalendar$Cause;)V"⟩, prog_3_method_2_code, 2, none, false, 151, 449, 448, 6, 2),
  (⟨"JealousByCalendar$Cause", "become", "(IIII)V"⟩, prog_3_method_3_code, 5, none, false, 151, 490, 489, 14, 5),
  (⟨"JealousByCalendar$Cause", "lastDay", "()I"⟩, prog_3_method_4_code, 1, some .int, false, 151, 559, 558, 25, 1),
  (⟨"JealousByCalendar$Cause", "isFreshOn", "(I)Z"⟩, prog_3_method_5_code, 2, some .boolean, false, 151, 517, 516, 19, 2),
  (⟨"JealousByCalendar$Cause", "lastingOf", "(II)I"⟩, prog_3_method_6_code, 3, some .int, true, 151, 493, 492, 0, 2),
  (⟨"JealousByCalendar$Cause", "weightOf", "(II)I"⟩, prog_3_method_7_code, 3, some .int, true, 151, 496, 495, 0, 2),
  (⟨"JealousByCalendar$Person", "copyFrom", "(LJealousByCalendar$Person;)V"⟩, prog_6_method_2_code, 2, none, false, 150, 445, 444, 5, 2),
  (⟨"JealousByCalendar$Person", "isDueOn", "(I)Z"⟩, prog_6_method_3_code, 2, some .boolean, false, 150, 546, 545, 24, 2),
  (⟨"JealousByCalendar$Person", "endDay", "(I)V"⟩, prog_6_method_4_code, 2, none, false, 150, 542, 541, 23, 2),
  (⟨"JealousByCalendar$Affair", "copyFrom", "(LJealousByCalendar$Affair;)V"⟩, prog_2_method_2_code, 3, none, false, 149, 441, 440, 4, 2),
  (⟨"JealousByCalendar$Affair", "person", "(I)LJealousByCalendar$Person;"⟩, prog_2_method_3_code, 2, some (.object "JealousByCalendar$Person"), false, 149, 471, 470, 10, 2),
  (⟨"JealousByCalendar$Affair", "causeAt", "(I)LJealousByCalendar$Cause;"⟩, prog_2_method_4_code, 2, some (.object "JealousByCalendar$Cause"), false, 149, 504, 503, 16, 2),
  (⟨"JealousByCalendar$Affair", "bring", "(IIII)V"⟩, prog_2_method_5_code, 5, none, false, 149, 486, 485, 13, 5),
  (⟨"JealousByCalendar$Affair", "used", "()I"⟩, prog_2_method_6_code, 3, some .int, false, 149, 600, 599, 27, 1),
  (⟨"JealousByCalendar$Affair", "unused", "()I"⟩, prog_2_method_7_code, 1, some .int, false, 149, 874, 873, 71, 1),
  (⟨"JealousByCalendar$Affair", "unusedFor", "(I)I"⟩, prog_2_method_8_code, 4, some .int, false, 149, 670, 669, 39, 2),
  (⟨"JealousByCalendar$Affair", "weightUnused", "()I"⟩, prog_2_method_9_code, 3, some .int, false, 149, 604, 603, 28, 1),
  (⟨"JealousByCalendar$Affair", "isGood", "(LJealousByCalendar$Cause;I)Z"⟩, prog_2_method_10_code, 4, some .boolean, false, 149, 513, 512, 18, 3),
  (⟨"JealousByCalendar$Affair", "hasGoodOn", "(I)Z"⟩, prog_2_method_11_code, 3, some .boolean, false, 149, 961, 960, 78, 2),
  (⟨"JealousByCalendar$Affair", "isUsable", "(LJealousByCalendar$Cause;)Z"⟩, prog_2_method_12_code, 2, some .boolean, false, 149, 508, 507, 17, 2),
  (⟨"JealousByCalendar$Affair", "spend", "(LJealousByCalendar$Cause;)I"⟩, prog_2_method_13_code, 6, some .int, false, 149, 521, 520, 20, 2),
  (⟨"JealousByCalendar$Affair", "endDay", "()V"⟩, prog_2_method_14_code, 1, none, false, 149, 538, 537, 22, 1),
  (⟨"JealousByCalendar$Affair", "findLater", "(II)V"⟩, prog_2_method_15_code, 4, none, false, 149, 995, 994, 81, 3),
  (⟨"JealousByCalendar$Affair", "atHand", "(I)I"⟩, prog_2_method_16_code, 6, some .int, false, 149, 632, 631, 32, 2),
  (⟨"JealousByCalendar$Affair", "liveDay", "(I)I"⟩, prog_2_method_17_code, 3, some .int, false, 149, 628, 627, 31, 2),
  (⟨"JealousByCalendar$Affair", "liveTo", "(I)V"⟩, prog_2_method_18_code, 3, none, false, 149, 624, 623, 30, 2),
  (⟨"JealousByCalendar$Plan", "takeNeeded", "(LJealousByCalendar$Affair;III)V"⟩, prog_7_method_2_code, 8, none, false, 152, 756, 755, 55, 5),
  (⟨"JealousByCalendar$Plan", "takeDays", "([II)V"⟩, prog_7_method_3_code, 4, none, false, 152, 662, 661, 37, 3),
  (⟨"JealousByCalendar$Plan", "takeDay", "(I)V"⟩, prog_7_method_4_code, 2, none, false, 152, 666, 665, 38, 2),
  (⟨"JealousByCalendar$Plan", "takeCauses", "(LJealousByCalendar$Affair;I)V"⟩, prog_7_method_5_code, 6, none, false, 152, 674, 673, 40, 3),
  (⟨"JealousByCalendar$Plan", "freshDaysOf", "(LJealousByCalendar$Cause;)I"⟩, prog_7_method_6_code, 4, some .int, false, 152, 680, 679, 41, 2),
  (⟨"JealousByCalendar$Plan", "sortIn", "(LJealousByCalendar$Choice;)V"⟩, prog_7_method_7_code, 3, none, false, 152, 685, 684, 42, 2),
  (⟨"JealousByCalendar$Plan", "allDays", "()I"⟩, prog_7_method_8_code, 1, some .int, false, 152, 693, 692, 44, 1),
  (⟨"JealousByCalendar$Plan", "value", "()I"⟩, prog_7_method_9_code, 1, some .int, false, 152, 789, 788, 61, 1),
  (⟨"JealousByCalendar$Plan", "valueWithout", "(I)I"⟩, prog_7_method_10_code, 2, some .int, false, 152, 813, 812, 65, 2),
  (⟨"JealousByCalendar$Plan", "bestOf", "(II)I"⟩, prog_7_method_11_code, 6, some .int, false, 152, 793, 792, 62, 3),
  (⟨"JealousByCalendar$Plan", "findDay", "(LJealousByCalendar$Plan;LJealousByCalendar$Choice;I)Z"⟩, prog_7_method_12_code, 6, some .boolean, true, 152, 796, 795, 0, 3),
  (⟨"JealousByCalendar$Plan", "firstWay", "(I)I"⟩, prog_7_method_13_code, 6, some .int, false, 152, 800, 799, 63, 2),
  (⟨"JealousByCalendar$Plan", "firstOn", "(III)LJealousByCalendar$Choice;"⟩, prog_7_method_14_code, 8, some (.object "JealousByCalendar$Choice"), false, 152, 805, 804, 64, 4),
  (⟨"JealousByCalendar$Plan", "causesGoodOn", "(I)I"⟩, prog_7_method_15_code, 4, some .int, false, 152, 829, 828, 67, 2)]
def qmi1 : List QMI := [(⟨"JealousByCalendar$Plan", "shortDays", "()I"⟩, prog_7_method_16_code, 6, some .int, false, 152, 825, 824, 66, 1),
  (⟨"JealousByCalendar$Plan", "causesOfDays", "(II)I"⟩, prog_7_method_17_code, 5, some .int, false, 152, 839, 838, 68, 3),
  (⟨"JealousByCalendar$Plan", "layByHand", "()V"⟩, prog_7_method_18_code, 4, none, false, 152, 769, 768, 57, 1),
  (⟨"JealousByCalendar$Plan", "soonestOn", "(II)I"⟩, prog_7_method_19_code, 7, some .int, false, 152, 773, 772, 58, 3),
  (⟨"JealousByCalendar$Plan", "withoutByHand", "()I"⟩, prog_7_method_20_code, 3, some .int, false, 152, 777, 776, 59, 1),
  (⟨"JealousByCalendar$Plan", "firstWithoutByHand", "()I"⟩, prog_7_method_21_code, 2, some .int, false, 152, 781, 780, 60, 1),
  (⟨"JealousByCalendar$Plan", "longestByHand", "(Z)I"⟩, prog_7_method_22_code, 5, some .int, false, 152, 969, 968, 79, 2),
  (⟨"JealousByCalendar$Plan", "hasByHandOn", "(I)Z"⟩, prog_7_method_23_code, 3, some .boolean, false, 152, 978, 977, 80, 2),
  (⟨"JealousByCalendar$Plan", "weightOf", "(I)I"⟩, prog_7_method_24_code, 4, some .int, false, 152, 937, 936, 75, 2),
  (⟨"JealousByCalendar$Plan", "leadByTaking", "(LJealousByCalendar$Choice;)I"⟩, prog_7_method_25_code, 5, some .int, false, 152, 879, 878, 72, 2),
  (⟨"JealousByCalendar$Plan", "waysOf", "(I[J)J"⟩, prog_7_method_26_code, 5, some .long, false, 152, 689, 688, 43, 3),
  (⟨"JealousByCalendar$Plan", "spread", "(II[J)V"⟩, prog_7_method_27_code, 7, none, true, 152, 697, 696, 0, 3),
  (⟨"JealousByCalendar$Course", "follow", "(LJealousByCalendar$Affair;I)V"⟩, prog_5_method_2_code, 4, none, false, 154, 1004, 1003, 82, 3),
  (⟨"JealousByCalendar$Course", "followUse", "(LJealousByCalendar$Affair;I)V"⟩, prog_5_method_3_code, 4, none, false, 154, 1008, 1007, 83, 3),
  (⟨"JealousByCalendar$Course", "followEnd", "(LJealousByCalendar$Affair;I)V"⟩, prog_5_method_4_code, 3, none, false, 154, 1020, 1019, 85, 3),
  (⟨"JealousByCalendar$Course", "note", "(IIZ)V"⟩, prog_5_method_5_code, 4, none, false, 154, 1015, 1014, 84, 4),
  (⟨"JealousByCalendar$Course", "isCoveredBy", "(III)Z"⟩, prog_5_method_6_code, 9, some .boolean, false, 154, 1027, 1026, 86, 4),
  (⟨"JealousByCalendar", "feed", "(I)I"⟩, prog_1_method_2_code, 2, some .int, false, 148, 411, 409, 410, 2),
  (⟨"JealousByCalendar", "marriage", "()I"⟩, prog_1_method_3_code, 3, some .int, false, 148, 419, 417, 418, 1),
  (⟨"JealousByCalendar", "one", "(II)I"⟩, prog_1_method_4_code, 4, some .int, false, 148, 551, 549, 550, 3),
  (⟨"JealousByCalendar", "cause", "(II)I"⟩, prog_1_method_5_code, 4, some .int, false, 148, 555, 553, 554, 3),
  (⟨"JealousByCalendar", "set", "(III)I"⟩, prog_1_method_6_code, 6, some .int, false, 148, 564, 562, 563, 4),
  (⟨"JealousByCalendar", "add", "(IIII)I"⟩, prog_1_method_7_code, 5, some .int, false, 148, 568, 566, 567, 5),
  (⟨"JealousByCalendar", "use", "(I)I"⟩, prog_1_method_8_code, 3, some .int, false, 148, 572, 570, 571, 2),
  (⟨"JealousByCalendar", "end", "()I"⟩, prog_1_method_9_code, 1, some .int, false, 148, 580, 578, 579, 1),
  (⟨"JealousByCalendar", "back", "()I"⟩, prog_1_method_10_code, 2, some .int, false, 148, 584, 582, 583, 1),
  (⟨"JealousByCalendar", "image", "()I"⟩, prog_1_method_11_code, 1, some .int, false, 148, 588, 586, 587, 1),
  (⟨"JealousByCalendar", "restore", "()I"⟩, prog_1_method_12_code, 1, some .int, false, 148, 592, 590, 591, 1),
  (⟨"JealousByCalendar", "count", "(I)I"⟩, prog_1_method_13_code, 3, some .int, false, 148, 596, 594, 595, 2),
  (⟨"JealousByCalendar", "row", "(I)I"⟩, prog_1_method_14_code, 2, some .int, false, 148, 608, 606, 607, 2),
  (⟨"JealousByCalendar", "clear", "()I"⟩, prog_1_method_15_code, 2, some .int, false, 148, 612, 610, 611, 1),
  (⟨"JealousByCalendar", "judge", "(I)I"⟩, prog_1_method_16_code, 3, some .int, false, 148, 616, 614, 615, 2),
  (⟨"JealousByCalendar", "meant", "(II)J"⟩, prog_1_method_17_code, 6, some .long, false, 148, 645, 643, 644, 3),
  (⟨"JealousByCalendar", "law", "(I)I"⟩, prog_1_method_18_code, 6, some .int, false, 148, 705, 703, 704, 2),
  (⟨"JealousByCalendar", "friends", "(I)I"⟩, prog_1_method_19_code, 2, some .int, false, 148, 720, 718, 719, 2),
  (⟨"JealousByCalendar", "needed", "(II)I"⟩, prog_1_method_20_code, 4, some .int, false, 148, 736, 734, 735, 3),
  (⟨"JealousByCalendar", "byHand", "(III)I"⟩, prog_1_method_21_code, 6, some .int, false, 148, 761, 759, 760, 4),
  (⟨"JealousByCalendar", "laid", "(III)I"⟩, prog_1_method_22_code, 5, some .int, false, 148, 785, 783, 784, 4),
  (⟨"JealousByCalendar", "wasted", "(II)I"⟩, prog_1_method_23_code, 9, some .int, false, 148, 809, 807, 808, 3),
  (⟨"JealousByCalendar", "worth", "(II)I"⟩, prog_1_method_24_code, 6, some .int, false, 148, 817, 815, 816, 3)]
def qmi2 : List QMI := [(⟨"JealousByCalendar", "notAll", "(II)I"⟩, prog_1_method_25_code, 4, some .int, false, 148, 821, 819, 820, 3),
  (⟨"JealousByCalendar", "settled", "(III)I"⟩, prog_1_method_26_code, 5, some .int, false, 148, 843, 841, 842, 4),
  (⟨"JealousByCalendar", "bestWeekday", "(II)I"⟩, prog_1_method_27_code, 8, some .int, false, 148, 856, 854, 855, 3),
  (⟨"JealousByCalendar", "neither", "(I)I"⟩, prog_1_method_28_code, 5, some .int, false, 148, 860, 858, 859, 2),
  (⟨"JealousByCalendar", "turns", "(I)I"⟩, prog_1_method_29_code, 6, some .int, false, 148, 870, 868, 869, 2),
  (⟨"JealousByCalendar", "months", "(III)I"⟩, prog_1_method_30_code, 9, some .int, false, 148, 883, 881, 882, 4),
  (⟨"JealousByCalendar", "chance", "(III)J"⟩, prog_1_method_31_code, 6, some .long, false, 148, 890, 888, 889, 4),
  (⟨"JealousByCalendar", "keep", "(I)I"⟩, prog_1_method_32_code, 3, some .int, false, 148, 897, 895, 896, 2),
  (⟨"JealousByCalendar", "run", "(III)I"⟩, prog_1_method_33_code, 6, some .int, false, 148, 902, 900, 901, 4),
  (⟨"JealousByCalendar", "lots", "(II)I"⟩, prog_1_method_34_code, 8, some .int, false, 148, 906, 904, 905, 3),
  (⟨"JealousByCalendar", "gift", "(III)I"⟩, prog_1_method_35_code, 8, some .int, false, 148, 912, 910, 911, 4),
  (⟨"JealousByCalendar", "when", "(IIII)I"⟩, prog_1_method_36_code, 9, some .int, false, 148, 920, 918, 919, 5),
  (⟨"JealousByCalendar", "changed", "(I)I"⟩, prog_1_method_37_code, 9, some .int, false, 148, 924, 922, 923, 2),
  (⟨"JealousByCalendar", "alike", "(I)I"⟩, prog_1_method_38_code, 4, some .int, false, 148, 933, 931, 932, 2),
  (⟨"JealousByCalendar", "spare", "(II)I"⟩, prog_1_method_39_code, 5, some .int, false, 148, 948, 946, 947, 3),
  (⟨"JealousByCalendar", "over", "(I)I"⟩, prog_1_method_40_code, 3, some .int, false, 148, 957, 955, 956, 2),
  (⟨"JealousByCalendar", "streak", "(III)I"⟩, prog_1_method_41_code, 6, some .int, false, 148, 965, 963, 964, 4),
  (⟨"JealousByCalendar", "quarrel", "(II)I"⟩, prog_1_method_42_code, 7, some .int, false, 148, 974, 972, 973, 3),
  (⟨"JealousByCalendar", "swapped", "(I)I"⟩, prog_1_method_43_code, 3, some .int, false, 148, 982, 980, 981, 2),
  (⟨"JealousByCalendar", "usedOn", "(II)I"⟩, prog_1_method_44_code, 5, some .int, false, 148, 986, 984, 985, 3),
  (⟨"JealousByCalendar", "delay", "(II)I"⟩, prog_1_method_45_code, 6, some .int, false, 148, 991, 989, 990, 3),
  (⟨"JealousByCalendar", "need", "(II)I"⟩, prog_1_method_46_code, 6, some .int, false, 148, 1000, 998, 999, 3),
  (⟨"JealousByCalendar", "loss", "(II)I"⟩, prog_1_method_47_code, 4, some .int, false, 148, 1033, 1031, 1032, 3),
  (⟨"JealousByCalendar", "heavyDay", "(II)I"⟩, prog_1_method_48_code, 8, some .int, false, 148, 1049, 1047, 1048, 3),
  (⟨"JealousByCalendar", "refuse", "(I)I"⟩, prog_1_method_49_code, 3, some .int, false, 148, 415, 414, 0, 2),
  (⟨"JealousByCalendar", "refuseFar", "(I)I"⟩, prog_1_method_50_code, 2, some .int, false, 148, 847, 846, 69, 2),
  (⟨"JealousByCalendar", "refuseLong", "(I)J"⟩, prog_1_method_51_code, 2, some .long, false, 148, 649, 648, 34, 2),
  (⟨"JealousByCalendar", "faultOfDay", "(I)I"⟩, prog_1_method_52_code, 2, some .int, false, 148, 744, 743, 52, 2),
  (⟨"JealousByCalendar", "faultOfOneAndDay", "(II)I"⟩, prog_1_method_53_code, 3, some .int, false, 148, 740, 739, 51, 3),
  (⟨"JealousByCalendar", "faultOfDayWhat", "(II)I"⟩, prog_1_method_54_code, 4, some .int, false, 148, 952, 951, 77, 3),
  (⟨"JealousByCalendar", "faultOfOneDayWhat", "(IIII)I"⟩, prog_1_method_55_code, 6, some .int, false, 148, 765, 764, 56, 5),
  (⟨"JealousByCalendar", "isNobody", "(I)Z"⟩, prog_1_method_56_code, 1, some .boolean, true, 148, 464, 463, 0, 1),
  (⟨"JealousByCalendar", "isNoKind", "(I)Z"⟩, prog_1_method_57_code, 1, some .boolean, true, 148, 482, 481, 0, 1),
  (⟨"JealousByCalendar", "isNoWeekday", "(I)Z"⟩, prog_1_method_58_code, 1, some .boolean, true, 148, 467, 466, 0, 1),
  (⟨"JealousByCalendar", "otherThan", "(I)I"⟩, prog_1_method_59_code, 1, some .int, true, 148, 524, 523, 0, 1),
  (⟨"JealousByCalendar", "remember", "()V"⟩, prog_1_method_60_code, 3, none, false, 148, 576, 575, 26, 1),
  (⟨"JealousByCalendar", "firstMisplaced", "()I"⟩, prog_1_method_61_code, 5, some .int, false, 148, 423, 422, 1, 1),
  (⟨"JealousByCalendar", "tellStatements", "()I"⟩, prog_1_method_62_code, 3, some .int, false, 148, 437, 436, 3, 1),
  (⟨"JealousByCalendar", "tellStatement", "(I)Z"⟩, prog_1_method_63_code, 3, some .boolean, false, 148, 453, 452, 7, 2),
  (⟨"JealousByCalendar", "tellWeekday", "(II)Z"⟩, prog_1_method_64_code, 3, some .boolean, false, 148, 461, 460, 9, 3)]
def qmi3 : List QMI := [(⟨"JealousByCalendar", "tellPurse", "(II)Z"⟩, prog_1_method_65_code, 3, some .boolean, false, 148, 475, 474, 11, 3),
  (⟨"JealousByCalendar", "tellCause", "(IIII)Z"⟩, prog_1_method_66_code, 5, some .boolean, false, 148, 479, 478, 12, 5),
  (⟨"JealousByCalendar", "tellUse", "(I)Z"⟩, prog_1_method_67_code, 3, some .boolean, false, 148, 500, 499, 15, 2),
  (⟨"JealousByCalendar", "tellDays", "(I)Z"⟩, prog_1_method_68_code, 3, some .boolean, false, 148, 534, 533, 21, 2),
  (⟨"JealousByCalendar", "digitsBehind", "(I)I"⟩, prog_1_method_69_code, 1, some .int, true, 148, 430, 429, 0, 1),
  (⟨"JealousByCalendar", "letterAt", "(I)I"⟩, prog_1_method_70_code, 2, some .int, false, 148, 427, 426, 2, 2),
  (⟨"JealousByCalendar", "isDigit", "(I)Z"⟩, prog_1_method_71_code, 1, some .boolean, true, 148, 433, 432, 0, 1),
  (⟨"JealousByCalendar", "figureAt", "(II)I"⟩, prog_1_method_72_code, 5, some .int, false, 148, 457, 456, 8, 3),
  (⟨"JealousByCalendar", "planOf", "(I)LJealousByCalendar$Plan;"⟩, prog_1_method_73_code, 2, some (.object "JealousByCalendar$Plan"), false, 148, 658, 657, 36, 2),
  (⟨"JealousByCalendar", "prepared", "(LJealousByCalendar$Affair;II)LJealousByCalendar$Plan;"⟩, prog_1_method_74_code, 4, some (.object "JealousByCalendar$Plan"), false, 148, 748, 747, 53, 4),
  (⟨"JealousByCalendar", "preparedOn", "(LJealousByCalendar$Affair;III)LJealousByCalendar$Plan;"⟩, prog_1_method_75_code, 6, some (.object "JealousByCalendar$Plan"), false, 148, 752, 751, 54, 5),
  (⟨"JealousByCalendar", "valueOfBoth", "(LJealousByCalendar$Affair;I)I"⟩, prog_1_method_76_code, 4, some .int, false, 148, 928, 927, 74, 3),
  (⟨"JealousByCalendar", "settledOn", "(III)I"⟩, prog_1_method_77_code, 7, some .int, false, 148, 852, 851, 70, 4),
  (⟨"JealousByCalendar", "isBestChoice", "([III)Z"⟩, prog_1_method_78_code, 5, some .boolean, true, 148, 863, 862, 0, 3),
  (⟨"JealousByCalendar", "settledBeside", "([III)I"⟩, prog_1_method_79_code, 3, some .int, true, 148, 866, 865, 0, 3),
  (⟨"JealousByCalendar", "valueWithOneMore", "(IIIII)I"⟩, prog_1_method_80_code, 6, some .int, false, 148, 916, 915, 73, 6),
  (⟨"JealousByCalendar", "valueOfBothWithout", "(I)I"⟩, prog_1_method_81_code, 2, some .int, false, 148, 1041, 1040, 88, 2),
  (⟨"JealousByCalendar", "worstLoss", "()I"⟩, prog_1_method_82_code, 6, some .int, false, 148, 1037, 1036, 87, 1),
  (⟨"JealousByCalendar", "worstLossOfTwo", "()I"⟩, prog_1_method_83_code, 8, some .int, false, 148, 1045, 1044, 89, 1),
  (⟨"JealousByCalendar", "evenHeap", "(I)I"⟩, prog_1_method_84_code, 7, some .int, false, 148, 941, 940, 76, 2),
  (⟨"JealousByCalendar", "numberAt", "(I)I"⟩, prog_1_method_85_code, 2, some .int, false, 148, 641, 640, 33, 2),
  (⟨"JealousByCalendar", "mostInRow", "()I"⟩, prog_1_method_86_code, 3, some .int, false, 148, 709, 708, 46, 1),
  (⟨"JealousByCalendar", "isRowOfDays", "(I)Z"⟩, prog_1_method_87_code, 5, some .boolean, false, 148, 654, 653, 35, 2),
  (⟨"JealousByCalendar", "meantCauses", "(LJealousByCalendar$Plan;JZ)J"⟩, prog_1_method_88_code, 11, some .long, false, 148, 701, 700, 45, 4),
  (⟨"JealousByCalendar", "isRowByLaw", "(II)Z"⟩, prog_1_method_89_code, 5, some .boolean, false, 148, 716, 715, 47, 3),
  (⟨"JealousByCalendar", "couplesOn", "(I)I"⟩, prog_1_method_90_code, 4, some .int, false, 148, 728, 727, 49, 2),
  (⟨"JealousByCalendar", "fewestFriends", "()I"⟩, prog_1_method_91_code, 3, some .int, false, 148, 724, 723, 48, 1),
  (⟨"JealousByCalendar", "busiestWeekday", "()I"⟩, prog_1_method_92_code, 5, some .int, false, 148, 732, 731, 50, 1),
  (⟨"JealousByCalendar", "firstMistold", "(I)I"⟩, prog_1_method_93_code, 4, some .int, false, 148, 620, 619, 29, 2),
  (⟨"JealousByCalendar", "weekdaysIn", "(III)I"⟩, prog_1_method_94_code, 5, some .int, true, 148, 886, 885, 0, 3),
  (⟨"JealousByCalendar", "power", "(II)J"⟩, prog_1_method_95_code, 5, some .long, true, 148, 893, 892, 0, 2),
  (⟨"JealousByCalendar", "paidOf", "(III)I"⟩, prog_1_method_96_code, 3, some .int, true, 148, 527, 526, 0, 3),
  (⟨"JealousByCalendarModel", "no", "(I)I"⟩, prog_9_method_2_code, 2, some .int, false, 155, 1183, 1182, 90, 2),
  (⟨"JealousByCalendarModel", "lower", "(I)I"⟩, prog_9_method_3_code, 2, some .int, false, 155, 1382, 1381, 119, 2),
  (⟨"JealousByCalendarModel", "lowest", "(I)J"⟩, prog_9_method_4_code, 2, some .long, false, 155, 1439, 1438, 127, 2),
  (⟨"JealousByCalendarModel", "isIn", "(III)Z"⟩, prog_9_method_5_code, 3, some .boolean, true, 155, 1206, 1205, 0, 3),
  (⟨"JealousByCalendarModel", "bound", "(III)I"⟩, prog_9_method_6_code, 3, some .int, true, 155, 1179, 1178, 0, 3),
  (⟨"JealousByCalendarModel", "has", "(II)Z"⟩, prog_9_method_7_code, 2, some .boolean, true, 155, 1335, 1334, 0, 2),
  (⟨"JealousByCalendarModel", "bits", "(I)I"⟩, prog_9_method_8_code, 3, some .int, true, 155, 1370, 1369, 0, 1),
  (⟨"JealousByCalendarModel", "isOne", "(I)Z"⟩, prog_9_method_9_code, 1, some .boolean, true, 155, 1225, 1224, 0, 1)]
def qmi4 : List QMI := [(⟨"JealousByCalendarModel", "isCause", "(I)Z"⟩, prog_9_method_10_code, 2, some .boolean, false, 155, 1233, 1232, 100, 2),
  (⟨"JealousByCalendarModel", "feed", "(I)I"⟩, prog_9_method_11_code, 3, some .int, false, 155, 1176, 1174, 1175, 2),
  (⟨"JealousByCalendarModel", "next", "()I"⟩, prog_9_method_12_code, 1, some .int, false, 155, 1195, 1194, 92, 1),
  (⟨"JealousByCalendarModel", "readsDigits", "(II)Z"⟩, prog_9_method_13_code, 5, some .boolean, false, 155, 1203, 1202, 94, 3),
  (⟨"JealousByCalendarModel", "readsAll", "(II)Z"⟩, prog_9_method_14_code, 3, some .boolean, false, 155, 1199, 1198, 93, 3),
  (⟨"JealousByCalendarModel", "statement", "()Z"⟩, prog_9_method_15_code, 2, some .boolean, false, 155, 1191, 1190, 91, 1),
  (⟨"JealousByCalendarModel", "comes", "(I)Z"⟩, prog_9_method_16_code, 5, some .boolean, false, 155, 1222, 1221, 98, 2),
  (⟨"JealousByCalendarModel", "marriage", "()I"⟩, prog_9_method_17_code, 3, some .int, false, 155, 1187, 1185, 1186, 1),
  (⟨"JealousByCalendarModel", "passes", "([I)V"⟩, prog_9_method_18_code, 3, none, false, 155, 1214, 1213, 96, 2),
  (⟨"JealousByCalendarModel", "passOne", "(I)I"⟩, prog_9_method_19_code, 3, some .int, false, 155, 1218, 1217, 97, 2),
  (⟨"JealousByCalendarModel", "passesAll", "(IZ)V"⟩, prog_9_method_20_code, 3, none, false, 155, 1210, 1209, 95, 3),
  (⟨"JealousByCalendarModel", "keepsBack", "()V"⟩, prog_9_method_21_code, 2, none, false, 155, 1304, 1303, 109, 1),
  (⟨"JealousByCalendarModel", "back", "()I"⟩, prog_9_method_22_code, 1, some .int, false, 155, 1268, 1266, 1267, 1),
  (⟨"JealousByCalendarModel", "image", "()I"⟩, prog_9_method_23_code, 1, some .int, false, 155, 1272, 1270, 1271, 1),
  (⟨"JealousByCalendarModel", "restore", "()I"⟩, prog_9_method_24_code, 1, some .int, false, 155, 1276, 1274, 1275, 1),
  (⟨"JealousByCalendarModel", "keepsOf", "(I)I"⟩, prog_9_method_25_code, 3, some .int, false, 155, 1249, 1248, 104, 2),
  (⟨"JealousByCalendarModel", "weightOf", "(I)I"⟩, prog_9_method_26_code, 3, some .int, false, 155, 1257, 1256, 106, 2),
  (⟨"JealousByCalendarModel", "goodTill", "(I)I"⟩, prog_9_method_27_code, 2, some .int, false, 155, 1245, 1244, 103, 2),
  (⟨"JealousByCalendarModel", "isGood", "(II)Z"⟩, prog_9_method_28_code, 3, some .boolean, false, 155, 1241, 1240, 102, 3),
  (⟨"JealousByCalendarModel", "isSour", "(I)Z"⟩, prog_9_method_29_code, 2, some .boolean, false, 155, 1288, 1287, 108, 2),
  (⟨"JealousByCalendarModel", "adds", "(IIII)V"⟩, prog_9_method_30_code, 5, none, false, 155, 1229, 1228, 99, 5),
  (⟨"JealousByCalendarModel", "canUse", "(I)Z"⟩, prog_9_method_31_code, 2, some .boolean, false, 155, 1237, 1236, 101, 2),
  (⟨"JealousByCalendarModel", "lesser", "(II)I"⟩, prog_9_method_32_code, 2, some .int, true, 155, 1260, 1259, 0, 2),
  (⟨"JealousByCalendarModel", "uses", "(I)I"⟩, prog_9_method_33_code, 4, some .int, false, 155, 1253, 1252, 105, 2),
  (⟨"JealousByCalendarModel", "ends", "()V"⟩, prog_9_method_34_code, 2, none, false, 155, 1264, 1263, 107, 1),
  (⟨"JealousByCalendarModel", "one", "(II)I"⟩, prog_9_method_35_code, 3, some .int, false, 155, 1280, 1278, 1279, 3),
  (⟨"JealousByCalendarModel", "cause", "(II)I"⟩, prog_9_method_36_code, 3, some .int, false, 155, 1284, 1282, 1283, 3),
  (⟨"JealousByCalendarModel", "set", "(III)I"⟩, prog_9_method_37_code, 6, some .int, false, 155, 1292, 1290, 1291, 4),
  (⟨"JealousByCalendarModel", "add", "(IIII)I"⟩, prog_9_method_38_code, 6, some .int, false, 155, 1296, 1294, 1295, 5),
  (⟨"JealousByCalendarModel", "use", "(I)I"⟩, prog_9_method_39_code, 3, some .int, false, 155, 1300, 1298, 1299, 2),
  (⟨"JealousByCalendarModel", "end", "()I"⟩, prog_9_method_40_code, 1, some .int, false, 155, 1308, 1306, 1307, 1),
  (⟨"JealousByCalendarModel", "findNeeds", "(II)V"⟩, prog_9_method_41_code, 4, none, false, 155, 1320, 1319, 111, 3),
  (⟨"JealousByCalendarModel", "soonestSour", "(III)I"⟩, prog_9_method_42_code, 6, some .int, false, 155, 1332, 1331, 113, 4),
  (⟨"JealousByCalendarModel", "findHand", "(II)V"⟩, prog_9_method_43_code, 5, none, false, 155, 1328, 1327, 112, 3),
  (⟨"JealousByCalendarModel", "notWho", "(II)I"⟩, prog_9_method_44_code, 3, some .int, false, 155, 1316, 1315, 110, 3),
  (⟨"JealousByCalendarModel", "needed", "(II)I"⟩, prog_9_method_45_code, 4, some .int, false, 155, 1312, 1310, 1311, 3),
  (⟨"JealousByCalendarModel", "byHand", "(III)I"⟩, prog_9_method_46_code, 8, some .int, false, 155, 1324, 1322, 1323, 4),
  (⟨"JealousByCalendarModel", "valueWith", "(III)I"⟩, prog_9_method_47_code, 4, some .int, false, 155, 1355, 1354, 117, 4),
  (⟨"JealousByCalendarModel", "findOwn", "(I)V"⟩, prog_9_method_48_code, 5, none, false, 155, 1347, 1346, 115, 2),
  (⟨"JealousByCalendarModel", "laysDay", "(I)V"⟩, prog_9_method_49_code, 7, none, false, 155, 1351, 1350, 116, 2)]
def qmi5 : List QMI := [(⟨"JealousByCalendarModel", "findLaid", "(II)V"⟩, prog_9_method_50_code, 4, none, false, 155, 1343, 1342, 114, 3),
  (⟨"JealousByCalendarModel", "allCauses", "()I"⟩, prog_9_method_51_code, 1, some .int, false, 155, 1622, 1621, 146, 1),
  (⟨"JealousByCalendarModel", "laidValue", "(II)I"⟩, prog_9_method_52_code, 3, some .int, false, 155, 1391, 1390, 121, 3),
  (⟨"JealousByCalendarModel", "laid", "(III)I"⟩, prog_9_method_53_code, 9, some .int, false, 155, 1339, 1337, 1338, 4),
  (⟨"JealousByCalendarModel", "wasted", "(II)I"⟩, prog_9_method_54_code, 6, some .int, false, 155, 1359, 1357, 1358, 3),
  (⟨"JealousByCalendarModel", "worth", "(II)I"⟩, prog_9_method_55_code, 4, some .int, false, 155, 1363, 1361, 1362, 3),
  (⟨"JealousByCalendarModel", "goodFor", "(II)I"⟩, prog_9_method_56_code, 7, some .int, false, 155, 1374, 1373, 118, 3),
  (⟨"JealousByCalendarModel", "notAll", "(II)I"⟩, prog_9_method_57_code, 7, some .int, false, 155, 1367, 1365, 1366, 3),
  (⟨"JealousByCalendarModel", "settledBy", "(III)I"⟩, prog_9_method_58_code, 6, some .int, false, 155, 1387, 1386, 120, 4),
  (⟨"JealousByCalendarModel", "settled", "(III)I"⟩, prog_9_method_59_code, 5, some .int, false, 155, 1378, 1376, 1377, 4),
  (⟨"JealousByCalendarModel", "bestWeekday", "(II)I"⟩, prog_9_method_60_code, 6, some .int, false, 155, 1395, 1393, 1394, 3),
  (⟨"JealousByCalendarModel", "hasAt", "(III)I"⟩, prog_9_method_61_code, 4, some .int, false, 155, 1407, 1406, 123, 4),
  (⟨"JealousByCalendarModel", "rests", "(II)Z"⟩, prog_9_method_62_code, 4, some .boolean, false, 155, 1403, 1402, 122, 3),
  (⟨"JealousByCalendarModel", "neither", "(I)I"⟩, prog_9_method_63_code, 4, some .int, false, 155, 1399, 1397, 1398, 2),
  (⟨"JealousByCalendarModel", "unused", "()I"⟩, prog_9_method_64_code, 3, some .int, false, 155, 1420, 1419, 125, 1),
  (⟨"JealousByCalendarModel", "findTurns", "()V"⟩, prog_9_method_65_code, 4, none, false, 155, 1415, 1414, 124, 1),
  (⟨"JealousByCalendarModel", "turns", "(I)I"⟩, prog_9_method_66_code, 4, some .int, false, 155, 1411, 1409, 1410, 2),
  (⟨"JealousByCalendarModel", "weekdaysIn", "(III)I"⟩, prog_9_method_67_code, 5, some .int, true, 155, 1427, 1426, 0, 3),
  (⟨"JealousByCalendarModel", "months", "(III)I"⟩, prog_9_method_68_code, 10, some .int, false, 155, 1424, 1422, 1423, 4),
  (⟨"JealousByCalendarModel", "areDaysOf", "(I)Z"⟩, prog_9_method_69_code, 3, some .boolean, false, 155, 1435, 1434, 126, 2),
  (⟨"JealousByCalendarModel", "isMeant", "(III)Z"⟩, prog_9_method_70_code, 4, some .boolean, false, 155, 1448, 1447, 129, 4),
  (⟨"JealousByCalendarModel", "waysWithout", "(II)J"⟩, prog_9_method_71_code, 6, some .long, false, 155, 1444, 1443, 128, 3),
  (⟨"JealousByCalendarModel", "meant", "(II)J"⟩, prog_9_method_72_code, 13, some .long, false, 155, 1431, 1429, 1430, 3),
  (⟨"JealousByCalendarModel", "areUpTo", "(I)Z"⟩, prog_9_method_73_code, 3, some .boolean, false, 155, 1456, 1455, 130, 2),
  (⟨"JealousByCalendarModel", "isLaw", "(II)Z"⟩, prog_9_method_74_code, 4, some .boolean, false, 155, 1460, 1459, 131, 3),
  (⟨"JealousByCalendarModel", "law", "(I)I"⟩, prog_9_method_75_code, 7, some .int, false, 155, 1452, 1450, 1451, 2),
  (⟨"JealousByCalendarModel", "fewestFriends", "()I"⟩, prog_9_method_76_code, 4, some .int, false, 155, 1468, 1467, 132, 1),
  (⟨"JealousByCalendarModel", "friends", "(I)I"⟩, prog_9_method_77_code, 5, some .int, false, 155, 1464, 1462, 1463, 2),
  (⟨"JealousByCalendarModel", "divisor", "(JJ)J"⟩, prog_9_method_78_code, 10, some .long, true, 155, 1478, 1477, 0, 2),
  (⟨"JealousByCalendarModel", "power", "(JI)J"⟩, prog_9_method_79_code, 6, some .long, true, 155, 1475, 1474, 0, 2),
  (⟨"JealousByCalendarModel", "chance", "(III)J"⟩, prog_9_method_80_code, 9, some .long, false, 155, 1472, 1470, 1471, 4),
  (⟨"JealousByCalendarModel", "keep", "(I)I"⟩, prog_9_method_81_code, 4, some .int, false, 155, 1482, 1480, 1481, 2),
  (⟨"JealousByCalendarModel", "goesOne", "()V"⟩, prog_9_method_82_code, 3, none, false, 155, 1495, 1494, 134, 1),
  (⟨"JealousByCalendarModel", "goesTo", "(I)V"⟩, prog_9_method_83_code, 2, none, false, 155, 1491, 1490, 133, 2),
  (⟨"JealousByCalendarModel", "run", "(III)I"⟩, prog_9_method_84_code, 6, some .int, false, 155, 1487, 1485, 1486, 4),
  (⟨"JealousByCalendarModel", "notGift", "(IIII)I"⟩, prog_9_method_85_code, 5, some .int, false, 155, 1503, 1502, 135, 5),
  (⟨"JealousByCalendarModel", "laidWith", "(IIIII)I"⟩, prog_9_method_86_code, 7, some .int, false, 155, 1507, 1506, 136, 6),
  (⟨"JealousByCalendarModel", "gift", "(III)I"⟩, prog_9_method_87_code, 9, some .int, false, 155, 1499, 1497, 1498, 4),
  (⟨"JealousByCalendarModel", "when", "(IIII)I"⟩, prog_9_method_88_code, 10, some .int, false, 155, 1511, 1509, 1510, 5),
  (⟨"JealousByCalendarModel", "laidOfBoth", "(I)I"⟩, prog_9_method_89_code, 2, some .int, false, 155, 1519, 1518, 137, 2)]
def qmi6 : List QMI := [(⟨"JealousByCalendarModel", "changed", "(I)I"⟩, prog_9_method_90_code, 7, some .int, false, 155, 1515, 1513, 1514, 2),
  (⟨"JealousByCalendarModel", "apartBy", "(II)I"⟩, prog_9_method_91_code, 5, some .int, false, 155, 1527, 1526, 138, 3),
  (⟨"JealousByCalendarModel", "alike", "(I)I"⟩, prog_9_method_92_code, 6, some .int, false, 155, 1523, 1521, 1522, 2),
  (⟨"JealousByCalendarModel", "findBoth", "(I)V"⟩, prog_9_method_93_code, 3, none, false, 155, 1535, 1534, 139, 2),
  (⟨"JealousByCalendarModel", "spare", "(II)I"⟩, prog_9_method_94_code, 6, some .int, false, 155, 1531, 1529, 1530, 3),
  (⟨"JealousByCalendarModel", "lastGood", "()I"⟩, prog_9_method_95_code, 4, some .int, false, 155, 1543, 1542, 140, 1),
  (⟨"JealousByCalendarModel", "over", "(I)I"⟩, prog_9_method_96_code, 3, some .int, false, 155, 1539, 1537, 1538, 2),
  (⟨"JealousByCalendarModel", "streak", "(III)I"⟩, prog_9_method_97_code, 8, some .int, false, 155, 1547, 1545, 1546, 4),
  (⟨"JealousByCalendarModel", "quarrel", "(II)I"⟩, prog_9_method_98_code, 7, some .int, false, 155, 1551, 1549, 1550, 3),
  (⟨"JealousByCalendarModel", "swaps", "()V"⟩, prog_9_method_99_code, 2, none, false, 155, 1559, 1558, 141, 1),
  (⟨"JealousByCalendarModel", "swapped", "(I)I"⟩, prog_9_method_100_code, 5, some .int, false, 155, 1555, 1553, 1554, 2),
  (⟨"JealousByCalendarModel", "usesNow", "(I)I"⟩, prog_9_method_101_code, 2, some .int, false, 155, 1567, 1566, 142, 2),
  (⟨"JealousByCalendarModel", "usedOn", "(II)I"⟩, prog_9_method_102_code, 5, some .int, false, 155, 1563, 1561, 1562, 3),
  (⟨"JealousByCalendarModel", "laidLater", "(III)I"⟩, prog_9_method_103_code, 5, some .int, false, 155, 1575, 1574, 143, 4),
  (⟨"JealousByCalendarModel", "delay", "(II)I"⟩, prog_9_method_104_code, 7, some .int, false, 155, 1571, 1569, 1570, 3),
  (⟨"JealousByCalendarModel", "owedWith", "(III)I"⟩, prog_9_method_105_code, 5, some .int, false, 155, 1583, 1582, 144, 4),
  (⟨"JealousByCalendarModel", "need", "(II)I"⟩, prog_9_method_106_code, 5, some .int, false, 155, 1579, 1577, 1578, 3),
  (⟨"JealousByCalendarModel", "leftBoth", "(I)I"⟩, prog_9_method_107_code, 2, some .int, false, 155, 1591, 1590, 145, 2),
  (⟨"JealousByCalendarModel", "loss", "(II)I"⟩, prog_9_method_108_code, 8, some .int, false, 155, 1587, 1585, 1586, 3),
  (⟨"JealousByCalendarModel", "heavyDay", "(II)I"⟩, prog_9_method_109_code, 8, some .int, false, 155, 1595, 1593, 1594, 3),
  (⟨"JealousByCalendarModel", "row", "(I)I"⟩, prog_9_method_110_code, 3, some .int, false, 155, 1599, 1597, 1598, 2),
  (⟨"JealousByCalendarModel", "judge", "(I)I"⟩, prog_9_method_111_code, 6, some .int, false, 155, 1603, 1601, 1602, 2),
  (⟨"JealousByCalendarModel", "clear", "()I"⟩, prog_9_method_112_code, 2, some .int, false, 155, 1607, 1605, 1606, 1),
  (⟨"JealousByCalendarModel", "lots", "(II)I"⟩, prog_9_method_113_code, 8, some .int, false, 155, 1611, 1609, 1610, 3),
  (⟨"JealousByCalendarModel", "count", "(I)I"⟩, prog_9_method_114_code, 4, some .int, false, 155, 1618, 1616, 1617, 2),
  (⟨"java/lang/Integer", "bitCount", "(I)I"⟩, prog_10_method_49_code, 1, some .int, true, 157, 832, 831, 0, 1)]
def qmiOk (q : QMI) : Bool := match q with
  | (y, bytes, maxL, ret, st, i0, i1, i2, i3, n) =>
    decide (lw_tbl[i0]? = some (.initialized y.cls)) && decide (lw_tbl[i2]? = some (if st = true then .static y else .instanceMethod y)) &&
    (st || decide (lw_tbl[i3]? = some (.selects y.cls y y))) && plainFor y && decide (y.cls ≠ "java/lang/invoke/MethodHandle") && decide (y.cls ≠ "java/lang/invoke/VarHandle") && decide (y.name ≠ "<init>") &&
    decide ((parseMethodDescriptor y.desc).map (fun d => d.parameters.length + (if st = true then 0 else 1)) = some n) && decide (maxL ≤ 40)
set_option maxRecDepth 20000 in
theorem qmi0_ok : ∀ q ∈ qmi0, qmiOk q = true := by decide +kernel
set_option maxRecDepth 20000 in
theorem qmi1_ok : ∀ q ∈ qmi1, qmiOk q = true := by decide +kernel
set_option maxRecDepth 20000 in
theorem qmi2_ok : ∀ q ∈ qmi2, qmiOk q = true := by decide +kernel
set_option maxRecDepth 20000 in
theorem qmi3_ok : ∀ q ∈ qmi3, qmiOk q = true := by decide +kernel
set_option maxRecDepth 20000 in
theorem qmi4_ok : ∀ q ∈ qmi4, qmiOk q = true := by decide +kernel
set_option maxRecDepth 20000 in
theorem qmi5_ok : ∀ q ∈ qmi5, qmiOk q = true := by decide +kernel
set_option maxRecDepth 20000 in
theorem qmi6_ok : ∀ q ∈ qmi6, qmiOk q = true := by decide +kernel
set_option maxRecDepth 100000 in
theorem qmi0_cd : ∀ q ∈ qmi0, Cond.code q.1 q.2.1 q.2.2.1 q.2.2.2.1 ∈ lw_tbl := by
  unfold qmi0
  refine List.forall_mem_cons.mpr ⟨List.mem_of_getElem? (i := 449) rfl, ?_⟩
  refine List.forall_mem_cons.mpr ⟨List.mem_of_getElem? (i := 490) rfl, ?_⟩
  refine List.forall_mem_cons.mpr ⟨List.mem_of_getElem? (i := 559) rfl, ?_⟩
  refine List.forall_mem_cons.mpr ⟨List.mem_of_getElem? (i := 517) rfl, ?_⟩
  refine List.forall_mem_cons.mpr ⟨List.mem_of_getElem? (i := 493) rfl, ?_⟩
  refine List.forall_mem_cons.mpr ⟨List.mem_of_getElem? (i := 496) rfl, ?_⟩
  refine List.forall_mem_cons.mpr ⟨List.mem_of_getElem? (i := 445) rfl, ?_⟩
  refine List.forall_mem_cons.mpr ⟨List.mem_of_getElem? (i := 546) rfl, ?_⟩
  refine List.forall_mem_cons.mpr ⟨List.mem_of_getElem? (i := 542) rfl, ?_⟩
  refine List.forall_mem_cons.mpr ⟨List.mem_of_getElem? (i := 441) rfl, ?_⟩
  refine List.forall_mem_cons.mpr ⟨List.mem_of_getElem? (i := 471) rfl, ?_⟩
  refine List.forall_mem_cons.mpr ⟨List.mem_of_getElem? (i := 504) rfl, ?_⟩
  refine List.forall_mem_cons.mpr ⟨List.mem_of_getElem? (i := 486) rfl, ?_⟩
  refine List.forall_mem_cons.mpr ⟨List.mem_of_getElem? (i := 600) rfl, ?_⟩
  refine List.forall_mem_cons.mpr ⟨List.mem_of_getElem? (i := 874) rfl, ?_⟩
  refine List.forall_mem_cons.mpr ⟨List.mem_of_getElem? (i := 670) rfl, ?_⟩
  refine List.forall_mem_cons.mpr ⟨List.mem_of_getElem? (i := 604) rfl, ?_⟩
  refine List.forall_mem_cons.mpr ⟨List.mem_of_getElem? (i := 513) rfl, ?_⟩
  refine List.forall_mem_cons.mpr ⟨List.mem_of_getElem? (i := 961) rfl, ?_⟩
  refine List.forall_mem_cons.mpr ⟨List.mem_of_getElem? (i := 508) rfl, ?_⟩
  refine List.forall_mem_cons.mpr ⟨List.mem_of_getElem? (i := 521) rfl, ?_⟩
  refine List.forall_mem_cons.mpr ⟨List.mem_of_getElem? (i := 538) rfl, ?_⟩
  refine List.forall_mem_cons.mpr ⟨List.mem_of_getElem? (i := 995) rfl, ?_⟩
  refine List.forall_mem_cons.mpr ⟨List.mem_of_getElem? (i := 632) rfl, ?_⟩
  refine List.forall_mem_cons.mpr ⟨List.mem_of_getElem? (i := 628) rfl, ?_⟩
  refine List.forall_mem_cons.mpr ⟨List.mem_of_getElem? (i := 624) rfl, ?_⟩
  refine List.forall_mem_cons.mpr ⟨List.mem_of_getElem? (i := 756) rfl, ?_⟩
  refine List.forall_mem_cons.mpr ⟨List.mem_of_getElem? (i := 662) rfl, ?_⟩
  refine List.forall_mem_cons.mpr ⟨List.mem_of_getElem? (i := 666) rfl, ?_⟩
  refine List.forall_mem_cons.mpr ⟨List.mem_of_getElem? (i := 674) rfl, ?_⟩
  refine List.forall_mem_cons.mpr ⟨List.mem_of_getElem? (i := 680) rfl, ?_⟩
  refine List.forall_mem_cons.mpr ⟨List.mem_of_getElem? (i := 685) rfl, ?_⟩
  refine List.forall_mem_cons.mpr ⟨List.mem_of_getElem? (i := 693) rfl, ?_⟩
  refine List.forall_mem_cons.mpr ⟨List.mem_of_getElem? (i := 789) rfl, ?_⟩
  refine List.forall_mem_cons.mpr ⟨List.mem_of_getElem? (i := 813) rfl, ?_⟩
  refine List.forall_mem_cons.mpr ⟨List.mem_of_getElem? (i := 793) rfl, ?_⟩
  refine List.forall_mem_cons.mpr ⟨List.mem_of_getElem? (i := 796) rfl, ?_⟩
  refine List.forall_mem_cons.mpr ⟨List.mem_of_getElem? (i := 800) rfl, ?_⟩
  refine List.forall_mem_cons.mpr ⟨List.mem_of_getElem? (i := 805) rfl, ?_⟩
  refine List.forall_mem_cons.mpr ⟨List.mem_of_getElem? (i := 829) rfl, ?_⟩
  exact fun _ h => absurd h List.not_mem_nil
set_option maxRecDepth 100000 in
theorem qmi1_cd : ∀ q ∈ qmi1, Cond.code q.1 q.2.1 q.2.2.1 q.2.2.2.1 ∈ lw_tbl := by
  unfold qmi1
  refine List.forall_mem_cons.mpr ⟨List.mem_of_getElem? (i := 825) rfl, ?_⟩
  refine List.forall_mem_cons.mpr ⟨List.mem_of_getElem? (i := 839) rfl, ?_⟩
  refine List.forall_mem_cons.mpr ⟨List.mem_of_getElem? (i := 769) rfl, ?_⟩
  refine List.forall_mem_cons.mpr ⟨List.mem_of_getElem? (i := 773) rfl, ?_⟩
  refine List.forall_mem_cons.mpr ⟨List.mem_of_getElem? (i := 777) rfl, ?_⟩
  refine List.forall_mem_cons.mpr ⟨List.mem_of_getElem? (i := 781) rfl, ?_⟩
  refine List.forall_mem_cons.mpr ⟨List.mem_of_getElem? (i := 969) rfl, ?_⟩
  refine List.forall_mem_cons.mpr ⟨List.mem_of_getElem? (i := 978) rfl, ?_⟩
  refine List.forall_mem_cons.mpr ⟨List.mem_of_getElem? (i := 937) rfl, ?_⟩
  refine List.forall_mem_cons.mpr ⟨List.mem_of_getElem? (i := 879) rfl, ?_⟩
  refine List.forall_mem_cons.mpr ⟨List.mem_of_getElem? (i := 689) rfl, ?_⟩
  refine List.forall_mem_cons.mpr ⟨List.mem_of_getElem? (i := 697) rfl, ?_⟩
  refine List.forall_mem_cons.mpr ⟨List.mem_of_getElem? (i := 1004) rfl, ?_⟩
  refine List.forall_mem_cons.mpr ⟨List.mem_of_getElem? (i := 1008) rfl, ?_⟩
  refine List.forall_mem_cons.mpr ⟨List.mem_of_getElem? (i := 1020) rfl, ?_⟩
  refine List.forall_mem_cons.mpr ⟨List.mem_of_getElem? (i := 1015) rfl, ?_⟩
  refine List.forall_mem_cons.mpr ⟨List.mem_of_getElem? (i := 1027) rfl, ?_⟩
  refine List.forall_mem_cons.mpr ⟨List.mem_of_getElem? (i := 411) rfl, ?_⟩
  refine List.forall_mem_cons.mpr ⟨List.mem_of_getElem? (i := 419) rfl, ?_⟩
  refine List.forall_mem_cons.mpr ⟨List.mem_of_getElem? (i := 551) rfl, ?_⟩
  refine List.forall_mem_cons.mpr ⟨List.mem_of_getElem? (i := 555) rfl, ?_⟩
  refine List.forall_mem_cons.mpr ⟨List.mem_of_getElem? (i := 564) rfl, ?_⟩
  refine List.forall_mem_cons.mpr ⟨List.mem_of_getElem? (i := 568) rfl, ?_⟩
  refine List.forall_mem_cons.mpr ⟨List.mem_of_getElem? (i := 572) rfl, ?_⟩
  refine List.forall_mem_cons.mpr ⟨List.mem_of_getElem? (i := 580) rfl, ?_⟩
  refine List.forall_mem_cons.mpr ⟨List.mem_of_getElem? (i := 584) rfl, ?_⟩
  refine List.forall_mem_cons.mpr ⟨List.mem_of_getElem? (i := 588) rfl, ?_⟩
  refine List.forall_mem_cons.mpr ⟨List.mem_of_getElem? (i := 592) rfl, ?_⟩
  refine List.forall_mem_cons.mpr ⟨List.mem_of_getElem? (i := 596) rfl, ?_⟩
  refine List.forall_mem_cons.mpr ⟨List.mem_of_getElem? (i := 608) rfl, ?_⟩
  refine List.forall_mem_cons.mpr ⟨List.mem_of_getElem? (i := 612) rfl, ?_⟩
  refine List.forall_mem_cons.mpr ⟨List.mem_of_getElem? (i := 616) rfl, ?_⟩
  refine List.forall_mem_cons.mpr ⟨List.mem_of_getElem? (i := 645) rfl, ?_⟩
  refine List.forall_mem_cons.mpr ⟨List.mem_of_getElem? (i := 705) rfl, ?_⟩
  refine List.forall_mem_cons.mpr ⟨List.mem_of_getElem? (i := 720) rfl, ?_⟩
  refine List.forall_mem_cons.mpr ⟨List.mem_of_getElem? (i := 736) rfl, ?_⟩
  refine List.forall_mem_cons.mpr ⟨List.mem_of_getElem? (i := 761) rfl, ?_⟩
  refine List.forall_mem_cons.mpr ⟨List.mem_of_getElem? (i := 785) rfl, ?_⟩
  refine List.forall_mem_cons.mpr ⟨List.mem_of_getElem? (i := 809) rfl, ?_⟩
  refine List.forall_mem_cons.mpr ⟨List.mem_of_getElem? (i := 817) rfl, ?_⟩
  exact fun _ h => absurd h List.not_mem_nil
set_option maxRecDepth 100000 in
theorem qmi2_cd : ∀ q ∈ qmi2, Cond.code q.1 q.2.1 q.2.2.1 q.2.2.2.1 ∈ lw_tbl := by
  unfold qmi2
  refine List.forall_mem_cons.mpr ⟨List.mem_of_getElem? (i := 821) rfl, ?_⟩
  refine List.forall_mem_cons.mpr ⟨List.mem_of_getElem? (i := 843) rfl, ?_⟩
  refine List.forall_mem_cons.mpr ⟨List.mem_of_getElem? (i := 856) rfl, ?_⟩
  refine List.forall_mem_cons.mpr ⟨List.mem_of_getElem? (i := 860) rfl, ?_⟩
  refine List.forall_mem_cons.mpr ⟨List.mem_of_getElem? (i := 870) rfl, ?_⟩
  refine List.forall_mem_cons.mpr ⟨List.mem_of_getElem? (i := 883) rfl, ?_⟩
  refine List.forall_mem_cons.mpr ⟨List.mem_of_getElem? (i := 890) rfl, ?_⟩
  refine List.forall_mem_cons.mpr ⟨List.mem_of_getElem? (i := 897) rfl, ?_⟩
  refine List.forall_mem_cons.mpr ⟨List.mem_of_getElem? (i := 902) rfl, ?_⟩
  refine List.forall_mem_cons.mpr ⟨List.mem_of_getElem? (i := 906) rfl, ?_⟩
  refine List.forall_mem_cons.mpr ⟨List.mem_of_getElem? (i := 912) rfl, ?_⟩
  refine List.forall_mem_cons.mpr ⟨List.mem_of_getElem? (i := 920) rfl, ?_⟩
  refine List.forall_mem_cons.mpr ⟨List.mem_of_getElem? (i := 924) rfl, ?_⟩
  refine List.forall_mem_cons.mpr ⟨List.mem_of_getElem? (i := 933) rfl, ?_⟩
  refine List.forall_mem_cons.mpr ⟨List.mem_of_getElem? (i := 948) rfl, ?_⟩
  refine List.forall_mem_cons.mpr ⟨List.mem_of_getElem? (i := 957) rfl, ?_⟩
  refine List.forall_mem_cons.mpr ⟨List.mem_of_getElem? (i := 965) rfl, ?_⟩
  refine List.forall_mem_cons.mpr ⟨List.mem_of_getElem? (i := 974) rfl, ?_⟩
  refine List.forall_mem_cons.mpr ⟨List.mem_of_getElem? (i := 982) rfl, ?_⟩
  refine List.forall_mem_cons.mpr ⟨List.mem_of_getElem? (i := 986) rfl, ?_⟩
  refine List.forall_mem_cons.mpr ⟨List.mem_of_getElem? (i := 991) rfl, ?_⟩
  refine List.forall_mem_cons.mpr ⟨List.mem_of_getElem? (i := 1000) rfl, ?_⟩
  refine List.forall_mem_cons.mpr ⟨List.mem_of_getElem? (i := 1033) rfl, ?_⟩
  refine List.forall_mem_cons.mpr ⟨List.mem_of_getElem? (i := 1049) rfl, ?_⟩
  refine List.forall_mem_cons.mpr ⟨List.mem_of_getElem? (i := 415) rfl, ?_⟩
  refine List.forall_mem_cons.mpr ⟨List.mem_of_getElem? (i := 847) rfl, ?_⟩
  refine List.forall_mem_cons.mpr ⟨List.mem_of_getElem? (i := 649) rfl, ?_⟩
  refine List.forall_mem_cons.mpr ⟨List.mem_of_getElem? (i := 744) rfl, ?_⟩
  refine List.forall_mem_cons.mpr ⟨List.mem_of_getElem? (i := 740) rfl, ?_⟩
  refine List.forall_mem_cons.mpr ⟨List.mem_of_getElem? (i := 952) rfl, ?_⟩
  refine List.forall_mem_cons.mpr ⟨List.mem_of_getElem? (i := 765) rfl, ?_⟩
  refine List.forall_mem_cons.mpr ⟨List.mem_of_getElem? (i := 464) rfl, ?_⟩
  refine List.forall_mem_cons.mpr ⟨List.mem_of_getElem? (i := 482) rfl, ?_⟩
  refine List.forall_mem_cons.mpr ⟨List.mem_of_getElem? (i := 467) rfl, ?_⟩
  refine List.forall_mem_cons.mpr ⟨List.mem_of_getElem? (i := 524) rfl, ?_⟩
  refine List.forall_mem_cons.mpr ⟨List.mem_of_getElem? (i := 576) rfl, ?_⟩
  refine List.forall_mem_cons.mpr ⟨List.mem_of_getElem? (i := 423) rfl, ?_⟩
  refine List.forall_mem_cons.mpr ⟨List.mem_of_getElem? (i := 437) rfl, ?_⟩
  refine List.forall_mem_cons.mpr ⟨List.mem_of_getElem? (i := 453) rfl, ?_⟩
  refine List.forall_mem_cons.mpr ⟨List.mem_of_getElem? (i := 461) rfl, ?_⟩
  exact fun _ h => absurd h List.not_mem_nil
set_option maxRecDepth 100000 in
theorem qmi3_cd : ∀ q ∈ qmi3, Cond.code q.1 q.2.1 q.2.2.1 q.2.2.2.1 ∈ lw_tbl := by
  unfold qmi3
  refine List.forall_mem_cons.mpr ⟨List.mem_of_getElem? (i := 475) rfl, ?_⟩
  refine List.forall_mem_cons.mpr ⟨List.mem_of_getElem? (i := 479) rfl, ?_⟩
  refine List.forall_mem_cons.mpr ⟨List.mem_of_getElem? (i := 500) rfl, ?_⟩
  refine List.forall_mem_cons.mpr ⟨List.mem_of_getElem? (i := 534) rfl, ?_⟩
  refine List.forall_mem_cons.mpr ⟨List.mem_of_getElem? (i := 430) rfl, ?_⟩
  refine List.forall_mem_cons.mpr ⟨List.mem_of_getElem? (i := 427) rfl, ?_⟩
  refine List.forall_mem_cons.mpr ⟨List.mem_of_getElem? (i := 433) rfl, ?_⟩
  refine List.forall_mem_cons.mpr ⟨List.mem_of_getElem? (i := 457) rfl, ?_⟩
  refine List.forall_mem_cons.mpr ⟨List.mem_of_getElem? (i := 658) rfl, ?_⟩
  refine List.forall_mem_cons.mpr ⟨List.mem_of_getElem? (i := 748) rfl, ?_⟩
  refine List.forall_mem_cons.mpr ⟨List.mem_of_getElem? (i := 752) rfl, ?_⟩
  refine List.forall_mem_cons.mpr ⟨List.mem_of_getElem? (i := 928) rfl, ?_⟩
  refine List.forall_mem_cons.mpr ⟨List.mem_of_getElem? (i := 852) rfl, ?_⟩
  refine List.forall_mem_cons.mpr ⟨List.mem_of_getElem? (i := 863) rfl, ?_⟩
  refine List.forall_mem_cons.mpr ⟨List.mem_of_getElem? (i := 866) rfl, ?_⟩
  refine List.forall_mem_cons.mpr ⟨List.mem_of_getElem? (i := 916) rfl, ?_⟩
  refine List.forall_mem_cons.mpr ⟨List.mem_of_getElem? (i := 1041) rfl, ?_⟩
  refine List.forall_mem_cons.mpr ⟨List.mem_of_getElem? (i := 1037) rfl, ?_⟩
  refine List.forall_mem_cons.mpr ⟨List.mem_of_getElem? (i := 1045) rfl, ?_⟩
  refine List.forall_mem_cons.mpr ⟨List.mem_of_getElem? (i := 941) rfl, ?_⟩
  refine List.forall_mem_cons.mpr ⟨List.mem_of_getElem? (i := 641) rfl, ?_⟩
  refine List.forall_mem_cons.mpr ⟨List.mem_of_getElem? (i := 709) rfl, ?_⟩
  refine List.forall_mem_cons.mpr ⟨List.mem_of_getElem? (i := 654) rfl, ?_⟩
  refine List.forall_mem_cons.mpr ⟨List.mem_of_getElem? (i := 701) rfl, ?_⟩
  refine List.forall_mem_cons.mpr ⟨List.mem_of_getElem? (i := 716) rfl, ?_⟩
  refine List.forall_mem_cons.mpr ⟨List.mem_of_getElem? (i := 728) rfl, ?_⟩
  refine List.forall_mem_cons.mpr ⟨List.mem_of_getElem? (i := 724) rfl, ?_⟩
  refine List.forall_mem_cons.mpr ⟨List.mem_of_getElem? (i := 732) rfl, ?_⟩
  refine List.forall_mem_cons.mpr ⟨List.mem_of_getElem? (i := 620) rfl, ?_⟩
  refine List.forall_mem_cons.mpr ⟨List.mem_of_getElem? (i := 886) rfl, ?_⟩
  refine List.forall_mem_cons.mpr ⟨List.mem_of_getElem? (i := 893) rfl, ?_⟩
  refine List.forall_mem_cons.mpr ⟨List.mem_of_getElem? (i := 527) rfl, ?_⟩
  refine List.forall_mem_cons.mpr ⟨List.mem_of_getElem? (i := 1183) rfl, ?_⟩
  refine List.forall_mem_cons.mpr ⟨List.mem_of_getElem? (i := 1382) rfl, ?_⟩
  refine List.forall_mem_cons.mpr ⟨List.mem_of_getElem? (i := 1439) rfl, ?_⟩
  refine List.forall_mem_cons.mpr ⟨List.mem_of_getElem? (i := 1206) rfl, ?_⟩
  refine List.forall_mem_cons.mpr ⟨List.mem_of_getElem? (i := 1179) rfl, ?_⟩
  refine List.forall_mem_cons.mpr ⟨List.mem_of_getElem? (i := 1335) rfl, ?_⟩
  refine List.forall_mem_cons.mpr ⟨List.mem_of_getElem? (i := 1370) rfl, ?_⟩
  refine List.forall_mem_cons.mpr ⟨List.mem_of_getElem? (i := 1225) rfl, ?_⟩
  exact fun _ h => absurd h List.not_mem_nil
set_option maxRecDepth 100000 in
theorem qmi4_cd : ∀ q ∈ qmi4, Cond.code q.1 q.2.1 q.2.2.1 q.2.2.2.1 ∈ lw_tbl := by
  unfold qmi4
  refine List.forall_mem_cons.mpr ⟨List.mem_of_getElem? (i := 1233) rfl, ?_⟩
  refine List.forall_mem_cons.mpr ⟨List.mem_of_getElem? (i := 1176) rfl, ?_⟩
  refine List.forall_mem_cons.mpr ⟨List.mem_of_getElem? (i := 1195) rfl, ?_⟩
  refine List.forall_mem_cons.mpr ⟨List.mem_of_getElem? (i := 1203) rfl, ?_⟩
  refine List.forall_mem_cons.mpr ⟨List.mem_of_getElem? (i := 1199) rfl, ?_⟩
  refine List.forall_mem_cons.mpr ⟨List.mem_of_getElem? (i := 1191) rfl, ?_⟩
  refine List.forall_mem_cons.mpr ⟨List.mem_of_getElem? (i := 1222) rfl, ?_⟩
  refine List.forall_mem_cons.mpr ⟨List.mem_of_getElem? (i := 1187) rfl, ?_⟩
  refine List.forall_mem_cons.mpr ⟨List.mem_of_getElem? (i := 1214) rfl, ?_⟩
  refine List.forall_mem_cons.mpr ⟨List.mem_of_getElem? (i := 1218) rfl, ?_⟩
  refine List.forall_mem_cons.mpr ⟨List.mem_of_getElem? (i := 1210) rfl, ?_⟩
  refine List.forall_mem_cons.mpr ⟨List.mem_of_getElem? (i := 1304) rfl, ?_⟩
  refine List.forall_mem_cons.mpr ⟨List.mem_of_getElem? (i := 1268) rfl, ?_⟩
  refine List.forall_mem_cons.mpr ⟨List.mem_of_getElem? (i := 1272) rfl, ?_⟩
  refine List.forall_mem_cons.mpr ⟨List.mem_of_getElem? (i := 1276) rfl, ?_⟩
  refine List.forall_mem_cons.mpr ⟨List.mem_of_getElem? (i := 1249) rfl, ?_⟩
  refine List.forall_mem_cons.mpr ⟨List.mem_of_getElem? (i := 1257) rfl, ?_⟩
  refine List.forall_mem_cons.mpr ⟨List.mem_of_getElem? (i := 1245) rfl, ?_⟩
  refine List.forall_mem_cons.mpr ⟨List.mem_of_getElem? (i := 1241) rfl, ?_⟩
  refine List.forall_mem_cons.mpr ⟨List.mem_of_getElem? (i := 1288) rfl, ?_⟩
  refine List.forall_mem_cons.mpr ⟨List.mem_of_getElem? (i := 1229) rfl, ?_⟩
  refine List.forall_mem_cons.mpr ⟨List.mem_of_getElem? (i := 1237) rfl, ?_⟩
  refine List.forall_mem_cons.mpr ⟨List.mem_of_getElem? (i := 1260) rfl, ?_⟩
  refine List.forall_mem_cons.mpr ⟨List.mem_of_getElem? (i := 1253) rfl, ?_⟩
  refine List.forall_mem_cons.mpr ⟨List.mem_of_getElem? (i := 1264) rfl, ?_⟩
  refine List.forall_mem_cons.mpr ⟨List.mem_of_getElem? (i := 1280) rfl, ?_⟩
  refine List.forall_mem_cons.mpr ⟨List.mem_of_getElem? (i := 1284) rfl, ?_⟩
  refine List.forall_mem_cons.mpr ⟨List.mem_of_getElem? (i := 1292) rfl, ?_⟩
  refine List.forall_mem_cons.mpr ⟨List.mem_of_getElem? (i := 1296) rfl, ?_⟩
  refine List.forall_mem_cons.mpr ⟨List.mem_of_getElem? (i := 1300) rfl, ?_⟩
  refine List.forall_mem_cons.mpr ⟨List.mem_of_getElem? (i := 1308) rfl, ?_⟩
  refine List.forall_mem_cons.mpr ⟨List.mem_of_getElem? (i := 1320) rfl, ?_⟩
  refine List.forall_mem_cons.mpr ⟨List.mem_of_getElem? (i := 1332) rfl, ?_⟩
  refine List.forall_mem_cons.mpr ⟨List.mem_of_getElem? (i := 1328) rfl, ?_⟩
  refine List.forall_mem_cons.mpr ⟨List.mem_of_getElem? (i := 1316) rfl, ?_⟩
  refine List.forall_mem_cons.mpr ⟨List.mem_of_getElem? (i := 1312) rfl, ?_⟩
  refine List.forall_mem_cons.mpr ⟨List.mem_of_getElem? (i := 1324) rfl, ?_⟩
  refine List.forall_mem_cons.mpr ⟨List.mem_of_getElem? (i := 1355) rfl, ?_⟩
  refine List.forall_mem_cons.mpr ⟨List.mem_of_getElem? (i := 1347) rfl, ?_⟩
  refine List.forall_mem_cons.mpr ⟨List.mem_of_getElem? (i := 1351) rfl, ?_⟩
  exact fun _ h => absurd h List.not_mem_nil
set_option maxRecDepth 100000 in
theorem qmi5_cd : ∀ q ∈ qmi5, Cond.code q.1 q.2.1 q.2.2.1 q.2.2.2.1 ∈ lw_tbl := by
  unfold qmi5
  refine List.forall_mem_cons.mpr ⟨List.mem_of_getElem? (i := 1343) rfl, ?_⟩
  refine List.forall_mem_cons.mpr ⟨List.mem_of_getElem? (i := 1622) rfl, ?_⟩
  refine List.forall_mem_cons.mpr ⟨List.mem_of_getElem? (i := 1391) rfl, ?_⟩
  refine List.forall_mem_cons.mpr ⟨List.mem_of_getElem? (i := 1339) rfl, ?_⟩
  refine List.forall_mem_cons.mpr ⟨List.mem_of_getElem? (i := 1359) rfl, ?_⟩
  refine List.forall_mem_cons.mpr ⟨List.mem_of_getElem? (i := 1363) rfl, ?_⟩
  refine List.forall_mem_cons.mpr ⟨List.mem_of_getElem? (i := 1374) rfl, ?_⟩
  refine List.forall_mem_cons.mpr ⟨List.mem_of_getElem? (i := 1367) rfl, ?_⟩
  refine List.forall_mem_cons.mpr ⟨List.mem_of_getElem? (i := 1387) rfl, ?_⟩
  refine List.forall_mem_cons.mpr ⟨List.mem_of_getElem? (i := 1378) rfl, ?_⟩
  refine List.forall_mem_cons.mpr ⟨List.mem_of_getElem? (i := 1395) rfl, ?_⟩
  refine List.forall_mem_cons.mpr ⟨List.mem_of_getElem? (i := 1407) rfl, ?_⟩
  refine List.forall_mem_cons.mpr ⟨List.mem_of_getElem? (i := 1403) rfl, ?_⟩
  refine List.forall_mem_cons.mpr ⟨List.mem_of_getElem? (i := 1399) rfl, ?_⟩
  refine List.forall_mem_cons.mpr ⟨List.mem_of_getElem? (i := 1420) rfl, ?_⟩
  refine List.forall_mem_cons.mpr ⟨List.mem_of_getElem? (i := 1415) rfl, ?_⟩
  refine List.forall_mem_cons.mpr ⟨List.mem_of_getElem? (i := 1411) rfl, ?_⟩
  refine List.forall_mem_cons.mpr ⟨List.mem_of_getElem? (i := 1427) rfl, ?_⟩
  refine List.forall_mem_cons.mpr ⟨List.mem_of_getElem? (i := 1424) rfl, ?_⟩
  refine List.forall_mem_cons.mpr ⟨List.mem_of_getElem? (i := 1435) rfl, ?_⟩
  refine List.forall_mem_cons.mpr ⟨List.mem_of_getElem? (i := 1448) rfl, ?_⟩
  refine List.forall_mem_cons.mpr ⟨List.mem_of_getElem? (i := 1444) rfl, ?_⟩
  refine List.forall_mem_cons.mpr ⟨List.mem_of_getElem? (i := 1431) rfl, ?_⟩
  refine List.forall_mem_cons.mpr ⟨List.mem_of_getElem? (i := 1456) rfl, ?_⟩
  refine List.forall_mem_cons.mpr ⟨List.mem_of_getElem? (i := 1460) rfl, ?_⟩
  refine List.forall_mem_cons.mpr ⟨List.mem_of_getElem? (i := 1452) rfl, ?_⟩
  refine List.forall_mem_cons.mpr ⟨List.mem_of_getElem? (i := 1468) rfl, ?_⟩
  refine List.forall_mem_cons.mpr ⟨List.mem_of_getElem? (i := 1464) rfl, ?_⟩
  refine List.forall_mem_cons.mpr ⟨List.mem_of_getElem? (i := 1478) rfl, ?_⟩
  refine List.forall_mem_cons.mpr ⟨List.mem_of_getElem? (i := 1475) rfl, ?_⟩
  refine List.forall_mem_cons.mpr ⟨List.mem_of_getElem? (i := 1472) rfl, ?_⟩
  refine List.forall_mem_cons.mpr ⟨List.mem_of_getElem? (i := 1482) rfl, ?_⟩
  refine List.forall_mem_cons.mpr ⟨List.mem_of_getElem? (i := 1495) rfl, ?_⟩
  refine List.forall_mem_cons.mpr ⟨List.mem_of_getElem? (i := 1491) rfl, ?_⟩
  refine List.forall_mem_cons.mpr ⟨List.mem_of_getElem? (i := 1487) rfl, ?_⟩
  refine List.forall_mem_cons.mpr ⟨List.mem_of_getElem? (i := 1503) rfl, ?_⟩
  refine List.forall_mem_cons.mpr ⟨List.mem_of_getElem? (i := 1507) rfl, ?_⟩
  refine List.forall_mem_cons.mpr ⟨List.mem_of_getElem? (i := 1499) rfl, ?_⟩
  refine List.forall_mem_cons.mpr ⟨List.mem_of_getElem? (i := 1511) rfl, ?_⟩
  refine List.forall_mem_cons.mpr ⟨List.mem_of_getElem? (i := 1519) rfl, ?_⟩
  exact fun _ h => absurd h List.not_mem_nil
set_option maxRecDepth 100000 in
theorem qmi6_cd : ∀ q ∈ qmi6, Cond.code q.1 q.2.1 q.2.2.1 q.2.2.2.1 ∈ lw_tbl := by
  unfold qmi6
  refine List.forall_mem_cons.mpr ⟨List.mem_of_getElem? (i := 1515) rfl, ?_⟩
  refine List.forall_mem_cons.mpr ⟨List.mem_of_getElem? (i := 1527) rfl, ?_⟩
  refine List.forall_mem_cons.mpr ⟨List.mem_of_getElem? (i := 1523) rfl, ?_⟩
  refine List.forall_mem_cons.mpr ⟨List.mem_of_getElem? (i := 1535) rfl, ?_⟩
  refine List.forall_mem_cons.mpr ⟨List.mem_of_getElem? (i := 1531) rfl, ?_⟩
  refine List.forall_mem_cons.mpr ⟨List.mem_of_getElem? (i := 1543) rfl, ?_⟩
  refine List.forall_mem_cons.mpr ⟨List.mem_of_getElem? (i := 1539) rfl, ?_⟩
  refine List.forall_mem_cons.mpr ⟨List.mem_of_getElem? (i := 1547) rfl, ?_⟩
  refine List.forall_mem_cons.mpr ⟨List.mem_of_getElem? (i := 1551) rfl, ?_⟩
  refine List.forall_mem_cons.mpr ⟨List.mem_of_getElem? (i := 1559) rfl, ?_⟩
  refine List.forall_mem_cons.mpr ⟨List.mem_of_getElem? (i := 1555) rfl, ?_⟩
  refine List.forall_mem_cons.mpr ⟨List.mem_of_getElem? (i := 1567) rfl, ?_⟩
  refine List.forall_mem_cons.mpr ⟨List.mem_of_getElem? (i := 1563) rfl, ?_⟩
  refine List.forall_mem_cons.mpr ⟨List.mem_of_getElem? (i := 1575) rfl, ?_⟩
  refine List.forall_mem_cons.mpr ⟨List.mem_of_getElem? (i := 1571) rfl, ?_⟩
  refine List.forall_mem_cons.mpr ⟨List.mem_of_getElem? (i := 1583) rfl, ?_⟩
  refine List.forall_mem_cons.mpr ⟨List.mem_of_getElem? (i := 1579) rfl, ?_⟩
  refine List.forall_mem_cons.mpr ⟨List.mem_of_getElem? (i := 1591) rfl, ?_⟩
  refine List.forall_mem_cons.mpr ⟨List.mem_of_getElem? (i := 1587) rfl, ?_⟩
  refine List.forall_mem_cons.mpr ⟨List.mem_of_getElem? (i := 1595) rfl, ?_⟩
  refine List.forall_mem_cons.mpr ⟨List.mem_of_getElem? (i := 1599) rfl, ?_⟩
  refine List.forall_mem_cons.mpr ⟨List.mem_of_getElem? (i := 1603) rfl, ?_⟩
  refine List.forall_mem_cons.mpr ⟨List.mem_of_getElem? (i := 1607) rfl, ?_⟩
  refine List.forall_mem_cons.mpr ⟨List.mem_of_getElem? (i := 1611) rfl, ?_⟩
  refine List.forall_mem_cons.mpr ⟨List.mem_of_getElem? (i := 1618) rfl, ?_⟩
  refine List.forall_mem_cons.mpr ⟨List.mem_of_getElem? (i := 832) rfl, ?_⟩
  exact fun _ h => absurd h List.not_mem_nil
def qmis : List QMI := qmi0 ++ (qmi1 ++ (qmi2 ++ (qmi3 ++ (qmi4 ++ (qmi5 ++ (qmi6))))))
theorem qmis_ok : ∀ q ∈ qmis, qmiOk q = true ∧ Cond.code q.1 q.2.1 q.2.2.1 q.2.2.2.1 ∈ lw_tbl := by
  intro q h
  simp only [qmis, List.mem_append] at h
  rcases h with h | h | h | h | h | h | h
  · exact ⟨qmi0_ok q h, qmi0_cd q h⟩
  · exact ⟨qmi1_ok q h, qmi1_cd q h⟩
  · exact ⟨qmi2_ok q h, qmi2_cd q h⟩
  · exact ⟨qmi3_ok q h, qmi3_cd q h⟩
  · exact ⟨qmi4_ok q h, qmi4_cd q h⟩
  · exact ⟨qmi5_ok q h, qmi5_cd q h⟩
  · exact ⟨qmi6_ok q h, qmi6_cd q h⟩
def qmt : List (Nat × Nat × Nat × Bool × Nat) := [(0, 63, 104, false, 412), (0, 71, 116, false, 420), (0, 75, 117, false, 434), (0, 78, 9, true, 438), (0, 85, 111, false, 462), (0, 89, 10, true, 468), (0, 111, 11, true, 501), (0, 138, 2, true, 556), (0, 144, 17, true, 560), (0, 148, 112, false, 480), (0, 154, 12, true, 483), (0, 158, 19, true, 505), (0, 162, 115, false, 573), (0, 165, 20, true, 518), (0, 169, 21, true, 535), (0, 175, 13, true, 597), (0, 177, 16, true, 601), (0, 183, 148, false, 617), (0, 186, 106, false, 646), (0, 190, 142, false, 651), (0, 193, 128, false, 655), (0, 197, 27, true, 659), (0, 201, 15, true, 667), (0, 204, 29, true, 671), (0, 211, 50, true, 686), (0, 215, 143, false, 698), (0, 219, 141, false, 706), (0, 222, 144, false, 713), (0, 226, 146, false, 721), (0, 229, 147, false, 729), (0, 232, 108, false, 737), (0, 236, 129, false, 745), (0, 243, 110, false, 762), (0, 247, 42, true, 766), (0, 250, 44, true, 774), (0, 253, 45, true, 778), (0, 256, 33, true, 786), (0, 259, 37, true, 797), (0, 262, 34, true, 810), (0, 265, 107, false, 741), (0, 268, 40, true, 822), (0, 271, 113, false, 465), (0, 274, 105, false, 844), (0, 277, 132, false, 849), (0, 281, 133, false, 861), (0, 285, 14, true, 871), (0, 292, 49, true, 876), (0, 296, 149, false, 884), (0, 299, 150, false, 891), (0, 305, 25, true, 621), (0, 318, 135, false, 913), (0, 322, 131, false, 925), (0, 326, 114, false, 929), (0, 329, 48, true, 934), (0, 332, 139, false, 938), (0, 340, 109, false, 949), (0, 346, 265, false, 953), (0, 351, 18, true, 958), (0, 354, 46, true, 966), (0, 358, 47, true, 975), (0, 361, 23, true, 987), (0, 364, 22, true, 992), (0, 368, 52, true, 1001), (0, 371, 56, true, 1024), (0, 375, 137, false, 1034), (0, 378, 138, false, 1042), (0, 381, 24, true, 1050), (0, 387, 125, false, 424), (0, 390, 124, false, 428), (0, 393, 126, false, 431), (0, 396, 118, false, 450), (0, 399, 127, false, 454), (0, 402, 119, false, 458), (0, 405, 120, false, 472), (0, 408, 121, false, 476), (0, 412, 122, false, 497), (0, 415, 123, false, 531), (0, 418, 130, false, 749), (0, 422, 26, true, 753), (0, 426, 134, false, 864), (0, 430, 136, false, 1038), (0, 433, 140, false, 638), (0, 439, 145, false, 725), (2, 34, 6, true, 442), (2, 41, 0, true, 446), (2, 44, 1, true, 487), (2, 52, 13, false, 875), (2, 64, 10, false, 509), (2, 71, 3, true, 514), (2, 75, 17, false, 510), (2, 82, 114, true, 522), (2, 89, 151, true, 525), (2, 96, 8, true, 539), (2, 108, 7, true, 633), (2, 111, 2, true, 634), (2, 114, 23, false, 629), (2, 117, 11, false, 635), (2, 121, 20, false, 636), (2, 125, 24, false, 625), (2, 128, 21, false, 637), (1, 34, 4, false, 491), (1, 38, 5, false, 494), (6, 31, 53, false, 1005), (6, 35, 54, false, 1017), (6, 38, 21, true, 1023), (6, 41, 23, true, 1009), (6, 45, 11, true, 1010), (6, 49, 114, true, 1011), (6, 56, 55, false, 1012), (6, 60, 20, true, 1016), (6, 64, 10, true, 1021), (6, 68, 7, true, 1022), (6, 80, 151, true, 1029), (3, 28, 7, false, 543), (4, 38, 10, true, 757), (4, 56, 28, false, 663), (4, 66, 11, true, 675), (4, 76, 2, true, 676), (4, 82, 30, false, 677), (4, 89, 31, false, 682), (4, 93, 3, true, 681), (4, 97, 32, false, 690), (4, 100, 35, false, 790), (4, 110, 36, false, 794), (4, 114, 33, false, 801), (4, 117, 38, false, 802), (4, 126, 39, false, 826), (4, 130, 265, false, 830), (4, 135, 41, false, 836), (4, 138, 43, false, 770), (4, 144, 51, false, 695), (8, 13, 57, false, 408), (8, 17, 161, false, 1173), (8, 18, 58, false, 416), (8, 22, 167, false, 1184), (8, 23, 59, false, 548), (8, 27, 185, false, 1277), (8, 28, 60, false, 552), (8, 31, 186, false, 1281), (8, 32, 61, false, 561), (8, 36, 187, false, 1289), (8, 37, 62, false, 565), (8, 41, 188, false, 1293), (8, 42, 63, false, 569), (8, 45, 189, false, 1297), (8, 46, 64, false, 577), (8, 49, 190, false, 1305), (8, 50, 65, false, 581), (8, 53, 172, false, 1265), (8, 54, 75, false, 733), (8, 57, 195, false, 1309), (8, 58, 76, false, 758), (8, 61, 196, false, 1321), (8, 62, 77, false, 782), (8, 65, 203, false, 1336), (8, 66, 78, false, 806), (8, 69, 204, false, 1356), (8, 70, 79, false, 814), (8, 73, 205, false, 1360), (8, 74, 80, false, 818), (8, 77, 207, false, 1364), (8, 78, 81, false, 840), (8, 81, 209, false, 1375), (8, 82, 82, false, 853), (8, 85, 210, false, 1392), (8, 86, 83, false, 857), (8, 89, 213, false, 1396), (8, 90, 84, false, 867), (8, 93, 216, false, 1408), (8, 94, 85, false, 880), (8, 97, 218, false, 1421), (8, 98, 72, false, 642), (8, 102, 222, false, 1428), (8, 103, 73, false, 702), (8, 106, 225, false, 1449), (8, 107, 74, false, 717), (8, 110, 227, false, 1461), (8, 111, 86, false, 887), (8, 115, 230, false, 1469), (8, 116, 87, false, 894), (8, 119, 231, false, 1479), (8, 120, 88, false, 899), (8, 123, 234, false, 1484), (8, 124, 90, false, 909), (8, 127, 237, false, 1496), (8, 128, 91, false, 917), (8, 131, 238, false, 1508), (8, 132, 92, false, 921), (8, 135, 240, false, 1512), (8, 136, 93, false, 930), (8, 139, 242, false, 1520), (8, 140, 94, false, 945), (8, 143, 244, false, 1528), (8, 144, 95, false, 954), (8, 147, 246, false, 1536), (8, 148, 96, false, 962), (8, 151, 247, false, 1544), (8, 152, 97, false, 971), (8, 155, 248, false, 1548), (8, 156, 98, false, 979), (8, 159, 250, false, 1552), (8, 160, 99, false, 983), (8, 163, 252, false, 1560), (8, 164, 100, false, 988), (8, 167, 254, false, 1568), (8, 168, 101, false, 997), (8, 171, 256, false, 1576), (8, 172, 102, false, 1030), (8, 175, 258, false, 1584), (8, 176, 103, false, 1046), (8, 179, 259, false, 1592), (8, 180, 69, false, 605), (8, 183, 260, false, 1596), (8, 184, 71, false, 613), (8, 187, 261, false, 1600), (8, 188, 70, false, 609), (8, 191, 262, false, 1604), (8, 192, 89, false, 903), (8, 195, 263, false, 1608), (8, 196, 66, false, 585), (8, 199, 173, false, 1269), (8, 200, 67, false, 589), (8, 203, 174, false, 1273), (8, 204, 68, false, 593), (8, 207, 264, false, 1615), (7, 94, 156, false, 1177), (7, 101, 152, false, 1180), (7, 108, 162, false, 1192), (7, 112, 155, false, 1204), (7, 116, 163, false, 1200), (7, 123, 164, false, 1196), (7, 126, 159, false, 1223), (7, 130, 180, false, 1226), (7, 134, 160, false, 1230), (7, 137, 181, false, 1234), (7, 140, 183, false, 1250), (7, 146, 184, false, 1261), (7, 149, 165, false, 1188), (7, 153, 170, false, 1207), (7, 157, 166, false, 1219), (7, 170, 168, false, 1211), (7, 174, 169, false, 1215), (7, 180, 175, false, 1246), (7, 183, 177, false, 1242), (7, 186, 178, false, 1238), (7, 189, 176, false, 1254), (7, 192, 182, false, 1258), (7, 196, 179, false, 1285), (7, 199, 171, false, 1301), (7, 205, 157, false, 1333), (7, 208, 191, false, 1317), (7, 212, 192, false, 1329), (7, 215, 194, false, 1313), (7, 218, 193, false, 1325), (7, 224, 197, false, 1352), (7, 227, 198, false, 1344), (7, 231, 199, false, 1348), (7, 234, 200, false, 1340), (7, 237, 158, false, 1368), (7, 240, 206, false, 1371), (7, 243, 202, false, 1388), (7, 246, 153, false, 1379), (7, 249, 208, false, 1384), (7, 252, 211, false, 1404), (7, 255, 212, false, 1400), (7, 259, 215, false, 1412), (7, 262, 214, false, 1417), (7, 265, 217, false, 1425), (7, 271, 220, false, 1445), (7, 274, 219, false, 1432), (7, 277, 154, false, 1436), (7, 281, 221, false, 1441), (7, 285, 223, false, 1453), (7, 288, 224, false, 1457), (7, 291, 226, false, 1465), (7, 294, 229, false, 1473), (7, 298, 228, false, 1476), (7, 304, 232, false, 1492), (7, 307, 233, false, 1488), (7, 310, 235, false, 1500), (7, 314, 236, false, 1504), (7, 318, 239, false, 1516), (7, 321, 241, false, 1524), (7, 327, 243, false, 1532), (7, 330, 245, false, 1540), (7, 333, 249, false, 1556), (7, 336, 251, false, 1564), (7, 339, 253, false, 1572), (7, 342, 255, false, 1580), (7, 345, 257, false, 1588), (7, 351, 201, false, 1619)]
def qname (y : Nat) : MethodName := ((qmis[y]?).map (fun q => q.1)).getD ⟨"", "", ""⟩
def qmw (o cp y : Nat) (nest : Bool) : Cond := if nest = true then .methodLinkNest (qownS o) cp (qname y) "JealousByCalendar" else .methodLink (qownS o) cp (qname y)
set_option maxRecDepth 20000 in
theorem qmt_ok : ∀ e ∈ qmt, lw_tbl[e.2.2.2.2]? = some (qmw e.1 e.2.1 e.2.2.1 e.2.2.2.1) := by decide +kernel
def qxt : List (Nat × Nat × Nat × Nat) := [(0, 335, 2, 942), (0, 436, 0, 710), (0, 442, 1, 528), (2, 102, 1, 996), (6, 74, 1, 1028), (3, 32, 1, 547), (4, 121, 1, 694), (4, 141, 0, 970)]
def qxn (x : Nat) : MethodName := if x = 0 then Lib.Math.max.name else if x = 1 then Lib.Math.min.name else Lib.Math.abs.name
theorem qxt_ok : ∀ e ∈ qxt, e.2.2.1 < 3 ∧ lw_tbl[e.2.2.2]? = some (.methodLink (qownS e.1) e.2.1 (qxn e.2.2.1)) := by decide +kernel
theorem qx_max_st : Cond.static Lib.Math.max.name ∈ lw_tbl := List.mem_of_getElem? (i := 711) (by decide +kernel)
theorem qx_max_cd : Cond.code Lib.Math.max.name Lib.Math.max.code 2 (some .int) ∈ lw_tbl := List.mem_of_getElem? (i := 712) (by decide +kernel)
theorem qx_min_st : Cond.static Lib.Math.min.name ∈ lw_tbl := List.mem_of_getElem? (i := 529) (by decide +kernel)
theorem qx_min_cd : Cond.code Lib.Math.min.name Lib.Math.min.code 2 (some .int) ∈ lw_tbl := List.mem_of_getElem? (i := 530) (by decide +kernel)
theorem qx_abs_st : Cond.static Lib.Math.abs.name ∈ lw_tbl := List.mem_of_getElem? (i := 943) (by decide +kernel)
theorem qx_abs_cd : Cond.code Lib.Math.abs.name Lib.Math.abs.code 1 (some .int) ∈ lw_tbl := List.mem_of_getElem? (i := 944) (by decide +kernel)
theorem qx_ini : Cond.initialized "java/lang/Math" ∈ lw_tbl := List.mem_of_getElem? (i := 156) (by decide +kernel)
def gtb : List Cond := lw_tbl.filter goodWord
theorem gtb_of {w : Cond} (h : w ∈ lw_tbl) (hg : goodWord w = true) : w ∈ gtb := List.mem_filter.mpr ⟨h, hg⟩
theorem gtb_at {w : Cond} {i : Nat} (h : lw_tbl[i]? = some w) (hg : goodWord w = true) : w ∈ gtb := gtb_of (List.mem_of_getElem? h) hg
theorem gtb_good {big : List Cond} (h : ∀ w ∈ gtb, w ∈ big) : GoodIn big gtb := fun w hw => ⟨h w hw, good_of_word (List.mem_filter.mp hw).2⟩
theorem qcl_get {ci : Nat} (h : ci < 8) : qcl[ci]? = some (qownS ci, qT ci, qN ci) := by
  unfold qcl
  rw [List.getElem?_map, List.getElem?_range h]
  rfl
set_option maxRecDepth 20000 in
theorem qin : ∀ ci, ci < 8 → ∀ w ∈ u_ws (qownS ci) (qT ci) (qN ci), w ∈ lw_tbl ∧ goodWord w = true := by decide +kernel
theorem qnm : ∀ ci, ci < 8 → ∀ a, a < qN ci → ∀ b, b < qN ci → a ≠ b → (qT ci a).2.1 ≠ (qT ci b).2.1 := by decide +kernel
theorem qtyok : ∀ ci, ci < 8 → ∀ k, k < qN ci → parseFieldDescriptor (qT ci k).2.2.1 = some (qty ci k) := by decide +kernel
/-- the kinds of fields, told of the classes' tables: an int, a boolean that isn't final, or a final reference -/
def qfKc (t ci k : Nat) : Bool := decide ((qT ci k).1 = qownS ci) && ((decide (qfK t k = 0) && decide (qty ci k = .int) && !(qT ci k).2.2.2) || (decide (qfK t k = 1) && decide (qty ci k = .boolean) && !(qT ci k).2.2.2) || (decide (qfK t k = 2) && (qT ci k).2.2.2))
theorem qfK_all : ∀ t, t < 50 → ((qci t).map fun ci => decide (ci < 8) && (List.range (qN ci)).all (qfKc t ci)).getD true = true := by decide +kernel
end
section
/-! the pure memory as cells of the machine's heap -/
def qenc (ad : QA → Nat) : QV → Value
  | .inl x => .int x
  | .inr (.inl x) => .long x
  | .inr (.inr o) => va_rf (o.map ad)
def qokv (sc : Bool) : QV → Prop
  | .inr (.inr (some a)) => qdom a = true ∨ (sc = true ∧ a = (99, 0, 0))
  | _ => True
theorem qcat_enc (ad : QA → Nat) (v : QV) : (qenc ad v).category = qcat v := by rcases v with x | x | _ | x <;> rfl
theorem qwd_enc (ad : QA → Nat) : ∀ st : List QV, ((st.map (qenc ad)).map fun v => v.category).sum = qwd st
  | [] => rfl
  | v :: st => by
    have := qwd_enc ad st
    simp only [List.map_cons, List.sum_cons, qcat_enc, this]
    rfl
def qfv (ad : QA → Nat) (μ : QM) (a : QA) (k : Nat) : Value := match qfK a.1 k with
  | 0 => .int (μ.1 a k)
  | 1 => .int (qbz (μ.1 a k))
  | _ => va_rf ((qfR a k).map ad)
def qtk (t : Nat) : Nat := if qeK t = 1 then 0 else if qeK t = 2 then 1 else if qeK t = 3 then 2 else if qeT t = 1 then 3 else if qeT t = 6 then 4 else 5
def qtys (cA : Nat → ClassId) : List (ClassId × FieldType) := [(cA 0, .int), (cA 1, .long), (cA 2, .boolean), (cA 3, .object "JealousByCalendar$Cause"), (cA 4, .object "JealousByCalendar$Choice"), (cA 5, .object "JealousByCalendar$Affair")]
def qarrf (ad : QA → Nat) (μ : QM) (a : QA) : (Nat → Int32) ⊕ (Nat → Int64) ⊕ (Nat → UInt32) ⊕ (Nat → UInt64) ⊕ (Nat → Option Nat) :=
  if qeK a.1 = 2 then .inr (.inl (μ.2.1 a)) else if qeK a.1 = 4 then .inr (.inr (.inr (.inr (fun i => some (ad (qeT a.1, a.2.1, i)))))) else if qeK a.1 = 5 then .inr (.inr (.inr (.inr (fun i => (μ.2.2 a i).map ad)))) else .inl (μ.1 a)
def qcell (ad : QA → Nat) (cA : Nat → ClassId) (μ : QM) (a : QA) : va_E := match qci a.1 with
  | some ci => .inr (ci, (List.range (qN ci)).map (qfv ad μ a))
  | none => .inl (cA (qtk a.1), qeL a.1, qarrf ad μ a)
def qdoml : List QA := (List.range 50).flatMap fun t => (List.range (qbnd t).1).flatMap fun j => (List.range (qbnd t).2).map fun c => (t, j, c)
theorem qbnd_out {t : Nat} (h : 50 ≤ t) : qbnd t = (0, 0) := by
  unfold qbnd
  rw [List.getD_eq_getElem?_getD, List.getElem?_eq_none (show qbnds.length ≤ t from h)]
  rfl
theorem qdom_lt {a : QA} (h : qdom a = true) : a.1 < 50 := by
  by_cases h2 : a.1 < 50
  · exact h2
  · unfold qdom at h
    rw [qbnd_out (by omega)] at h
    simp at h
theorem qdom_mem (a : QA) : qdom a = true ↔ a ∈ qdoml := by
  obtain ⟨t, j, c⟩ := a
  constructor
  · intro h
    have ht := qdom_lt h
    simp only [qdom, Bool.and_eq_true, decide_eq_true_eq] at h
    exact List.mem_flatMap.mpr ⟨t, List.mem_range.mpr ht, List.mem_flatMap.mpr ⟨j, List.mem_range.mpr h.1, List.mem_map.mpr ⟨c, List.mem_range.mpr h.2, rfl⟩⟩⟩
  · intro h
    obtain ⟨t', -, h⟩ := List.mem_flatMap.mp h
    obtain ⟨j', hj, h⟩ := List.mem_flatMap.mp h
    obtain ⟨c', hc, h⟩ := List.mem_map.mp h
    cases h
    simp only [qdom, Bool.and_eq_true, decide_eq_true_eq]
    exact ⟨List.mem_range.mp hj, List.mem_range.mp hc⟩
def qnd : List QA → Bool
  | [] => true
  | a :: l => decide (a ∉ l) && qnd l
theorem qnd_inj : ∀ (l : List QA), qnd l = true → ∀ (i j : Nat) (a : QA), l[i]? = some a → l[j]? = some a → i = j
  | [], _, i, j, a, h, _ => by simp at h
  | b :: l, hn, i, j, a, h1, h2 => by
    simp only [qnd, Bool.and_eq_true, decide_eq_true_eq] at hn
    cases i with
    | zero =>
      cases j with
      | zero => rfl
      | succ j =>
        rw [List.getElem?_cons_zero] at h1
        rw [List.getElem?_cons_succ] at h2
        cases h1
        exact absurd (List.mem_of_getElem? h2) hn.1
    | succ i =>
      rw [List.getElem?_cons_succ] at h1
      cases j with
      | zero =>
        rw [List.getElem?_cons_zero] at h2
        cases h2
        exact absurd (List.mem_of_getElem? h1) hn.1
      | succ j =>
        rw [List.getElem?_cons_succ] at h2
        rw [qnd_inj l hn.2 i j a h1 h2]
theorem qdoml_nd : qnd qdoml = true := by decide +kernel
def qwld (ad : QA → Nat) (cA : Nat → ClassId) (μ : QM) : va_W := qdoml.map fun a => (ad a, qcell ad cA μ a)
theorem qw_get {ad : QA → Nat} {cA : Nat → ClassId} {μ : QM} {i : Nat} {a : QA} (h : qdoml[i]? = some a) : (qwld ad cA μ)[i]? = some (ad a, qcell ad cA μ a) := by
  unfold qwld
  rw [List.getElem?_map, h]
  rfl
theorem qw_at {a : QA} (h : qdom a = true) : ∃ i : Nat, qdoml[i]? = some a := List.getElem?_of_mem ((qdom_mem a).mp h)
theorem qw_set {ad : QA → Nat} {cA : Nat → ClassId} {μ μ' : QM} {i : Nat} {a : QA} {x : va_E} (hi : qdoml[i]? = some a) (hx : x = qcell ad cA μ' a) (h : ∀ b, b ≠ a → qcell ad cA μ' b = qcell ad cA μ b) :
    (qwld ad cA μ).set i (ad a, x) = qwld ad cA μ' := by
  subst hx
  have hl : i < qdoml.length := (List.getElem?_eq_some_iff.mp hi).1
  apply List.ext_getElem?
  intro j
  by_cases hj : j = i
  · subst hj
    rw [qw_get hi, List.getElem?_set_self]
    unfold qwld
    rw [List.length_map]
    exact hl
  · rw [List.getElem?_set_ne (Ne.symm hj)]
    cases hq : qdoml[j]? with
    | none =>
      unfold qwld
      rw [List.getElem?_map, List.getElem?_map, hq]
      rfl
    | some b =>
      have hb : b ≠ a := fun e => hj (qnd_inj _ qdoml_nd j i a (e ▸ hq) hi)
      rw [qw_get hq, qw_get hq, h b hb]
theorem qcell_eq {ad : QA → Nat} {cA : Nat → ClassId} {μ μ' : QM} {b : QA} (h1 : μ'.1 b = μ.1 b) (h2 : μ'.2.1 b = μ.2.1 b) (h3 : μ'.2.2 b = μ.2.2 b) : qcell ad cA μ' b = qcell ad cA μ b := by
  have e : qfv ad μ' b = qfv ad μ b := by
    funext k
    unfold qfv
    rw [h1]
  unfold qcell qarrf
  rw [e, h1, h2, h3]
theorem qsi_ne {μ : QM} {a b : QA} {k : Nat} {v : Int32} (h : b ≠ a) : (qsi μ a k v).1 b = μ.1 b := by
  funext j
  exact if_neg (fun e => h e.1)
theorem qsl_ne {μ : QM} {a b : QA} {k : Nat} {v : Int64} (h : b ≠ a) : (qsl μ a k v).2.1 b = μ.2.1 b := by
  funext j
  exact if_neg (fun e => h e.1)
theorem qsr_ne {μ : QM} {a b : QA} {k : Nat} {v : Option QA} (h : b ≠ a) : (qsr μ a k v).2.2 b = μ.2.2 b := by
  funext j
  exact if_neg (fun e => h e.1)
theorem qsi_up (μ : QM) (a : QA) (k : Nat) (v : Int32) : (qsi μ a k v).1 a = upd (μ.1 a) k v := by
  funext j
  unfold qsi upd
  by_cases h : j = k
  · simp [h]
  · simp [h]
theorem qsl_up (μ : QM) (a : QA) (k : Nat) (v : Int64) : (qsl μ a k v).2.1 a = vp_updL (μ.2.1 a) k v := by
  funext j
  unfold qsl vp_updL
  by_cases h : j = k
  · simp [h]
  · simp [h]
theorem qsr_up (μ : QM) (a : QA) (k : Nat) (v : Option QA) (ad : QA → Nat) : (fun i => ((qsr μ a k v).2.2 a i).map ad) = va_up (fun i => (μ.2.2 a i).map ad) k (v.map ad) := by
  funext j
  unfold qsr va_up
  by_cases h : j = k
  · simp [h]
  · simp [h]
def QW (ad : QA → Nat) (cA : Nat → ClassId) (D : va_G) (A : Nat → Prop) (H0 : Heap) (μ : QM) (H : Heap) (locs : List Loc) : Prop := va_P D qcl (qwld ad cA μ) H ∧ va_D A (qwld ad cA μ) ∧ va_S A H0 H locs
theorem QW.inj {ad : QA → Nat} {cA : Nat → ClassId} {D : va_G} {A : Nat → Prop} {H0 : Heap} {μ : QM} {H : Heap} {locs : List Loc} (h : QW ad cA D A H0 μ H locs) {a b : QA} (ha : qdom a = true) (hb : qdom b = true) (e : ad a = ad b) : a = b := by
  obtain ⟨i, hi⟩ := qw_at ha
  obtain ⟨j, hj⟩ := qw_at hb
  have := h.2.1.1 i j _ _ (qw_get hi) (qw_get hj) e
  subst this
  exact Option.some.inj (hi.symm.trans hj)
theorem QW.in {ad : QA → Nat} {cA : Nat → ClassId} {D : va_G} {A : Nat → Prop} {H0 : Heap} {μ : QM} {H : Heap} {locs : List Loc} (h : QW ad cA D A H0 μ H locs) {a : QA} (ha : qdom a = true) : A (ad a) := by
  obtain ⟨i, hi⟩ := qw_at ha
  exact h.2.1.2 i _ (qw_get hi)
/-! the locals -/
def QLr (ad : QA → Nat) (sc : Bool) (ls : Array Slot) (nL : Nat) (L : QL) : Prop := ls.size = nL ∧ lv_wf ls ∧ L.length = nL ∧ ∀ (i : Nat) (v : QV), L[i]? = some (some v) → qokv sc v ∧ ls[i]? = some (.val (qenc ad v))
def qtoL (ad : QA → Nat) (L : QL) : List (Nat × Value) := L.zipIdx.filterMap fun o => o.1.map fun v => (o.2, qenc ad v)
theorem mem_qtoL {ad : QA → Nat} {L : QL} {q : Nat × Value} : q ∈ qtoL ad L ↔ ∃ v, L[q.1]? = some (some v) ∧ q.2 = qenc ad v := by
  unfold qtoL
  rw [List.mem_filterMap]
  constructor
  · rintro ⟨⟨o, i⟩, h1, h2⟩
    have h1 := List.mk_mem_zipIdx_iff_getElem?.mp h1
    cases o with
    | none => simp at h2
    | some v =>
      simp only [Option.map_some, Option.some.injEq] at h2
      subst h2
      exact ⟨v, h1, rfl⟩
  · rintro ⟨v, h1, h2⟩
    refine ⟨(some v, q.1), List.mk_mem_zipIdx_iff_getElem?.mpr h1, ?_⟩
    simp only [Option.map_some, ← h2]
theorem QLr.has {ad : QA → Nat} {sc : Bool} {ls : Array Slot} {nL : Nat} {L : QL} (h : QLr ad sc ls nL L) : lv_has ls nL (qtoL ad L) := ⟨h.1, h.2.1, fun q hq => by
  obtain ⟨v, h1, h2⟩ := mem_qtoL.mp hq
  rw [h2]
  exact (h.2.2.2 q.1 v h1).2⟩
theorem qput_len (L : QL) (i : Nat) (v : QV) : (qput L i v).length = L.length := by
  unfold qput
  split
  · simp
  · split <;> simp
theorem qput_get {L : QL} {i : Nat} {v : QV} {j : Nat} {w : QV} (h : (qput L i v)[j]? = some (some w)) : (j = i ∧ w = v) ∨ (j ≠ i ∧ L[j]? = some (some w) ∧ ¬ (j + 1 = i ∧ qcat w = 2)) := by
  unfold qput at h
  split at h
  · by_cases hj : j = 0
    · subst hj
      by_cases hl : 0 < L.length
      · rw [List.getElem?_set_self hl] at h
        exact Or.inl ⟨rfl, (Option.some.inj (Option.some.inj h)).symm⟩
      · rw [List.getElem?_eq_none (by rw [List.length_set]; omega)] at h
        cases h
    · rw [List.getElem?_set_ne (Ne.symm hj)] at h
      exact Or.inr ⟨hj, h, by omega⟩
  · rename_i i
    have key : ∀ L' : QL, L'.length = L.length → (∀ j w, L'[j]? = some (some w) → j ≠ i + 1 → L[j]? = some (some w) ∧ ¬ (j + 1 = i + 1 ∧ qcat w = 2)) → (L'.set (i + 1) (some v))[j]? = some (some w) → (j = i + 1 ∧ w = v) ∨ (j ≠ i + 1 ∧ L[j]? = some (some w) ∧ ¬ (j + 1 = i + 1 ∧ qcat w = 2)) := by
      intro L' hl hk h
      by_cases hj : j = i + 1
      · subst hj
        by_cases hl2 : i + 1 < L'.length
        · rw [List.getElem?_set_self hl2] at h
          exact Or.inl ⟨rfl, (Option.some.inj (Option.some.inj h)).symm⟩
        · rw [List.getElem?_eq_none (by rw [List.length_set]; omega)] at h
          cases h
      · rw [List.getElem?_set_ne (Ne.symm hj)] at h
        exact Or.inr ⟨hj, (hk j w h hj).1, (hk j w h hj).2⟩
    split at h
    · rename_i x hx
      refine key _ (by simp) (fun j w h hj => ?_) h
      by_cases hji : j = i
      · subst hji
        have hl2 : j < L.length := (List.getElem?_eq_some_iff.mp hx).1
        rw [List.getElem?_set_self hl2] at h
        cases h
      · rw [List.getElem?_set_ne (Ne.symm hji)] at h
        exact ⟨h, by omega⟩
    · rename_i hx
      refine key _ rfl (fun j w h hj => ⟨h, ?_⟩) h
      rintro ⟨e, hc⟩
      have e : j = i := by omega
      subst e
      rcases w with x | x | x
      · cases hc
      · exact hx x h
      · cases hc
theorem QLr.put1 {ad : QA → Nat} {sc : Bool} {ls ls' : Array Slot} {nL : Nat} {L : QL} {i : Nat} {v : QV} (h : QLr ad sc ls nL L) (hv : qokv sc v)
    (hs : lv_has ls' nL ((i, qenc ad v) :: (qtoL ad L).filter (fun q => !(q.1 == i) && !(q.1 + 1 == i && q.2.category == 2)))) : QLr ad sc ls' nL (qput L i v) := by
  refine ⟨hs.1, hs.2.1, (qput_len L i v).trans h.2.2.1, fun j w hj => ?_⟩
  rcases qput_get hj with ⟨rfl, rfl⟩ | ⟨h1, h2, h3⟩
  · exact ⟨hv, hs.2.2 _ List.mem_cons_self⟩
  · refine ⟨(h.2.2.2 j w h2).1, hs.2.2 (j, qenc ad w) (List.mem_cons_of_mem _ (List.mem_filter.mpr ⟨mem_qtoL.mpr ⟨w, h2, rfl⟩, ?_⟩))⟩
    simp only [qcat_enc, Bool.and_eq_true, Bool.not_eq_true', beq_eq_false_iff_ne, ne_eq, Bool.and_eq_false_iff]
    refine ⟨h1, ?_⟩
    by_cases e : j + 1 = i
    · exact Or.inr fun z => h3 ⟨e, z⟩
    · exact Or.inl e
theorem QLr.put2 {ad : QA → Nat} {sc : Bool} {ls ls' : Array Slot} {nL : Nat} {L : QL} {i : Nat} {v : QV} (h : QLr ad sc ls nL L) (hv : qokv sc v)
    (hs : lv_has ls' nL ((i, qenc ad v) :: (qtoL ad L).filter (fun q => !(q.1 == i) && (!(q.1 == i + 1) && !(q.1 + 1 == i && q.2.category == 2))))) : QLr ad sc ls' nL ((qput L i v).set (i + 1) none) := by
  refine ⟨hs.1, hs.2.1, by rw [List.length_set]; exact (qput_len L i v).trans h.2.2.1, fun j w hj => ?_⟩
  have hji : j ≠ i + 1 := by
    intro e
    subst e
    by_cases hl : i + 1 < (qput L i v).length
    · rw [List.getElem?_set_self hl] at hj
      cases hj
    · rw [List.getElem?_eq_none (by rw [List.length_set]; omega)] at hj
      cases hj
  rw [List.getElem?_set_ne (Ne.symm hji)] at hj
  rcases qput_get hj with ⟨rfl, rfl⟩ | ⟨h1, h2, h3⟩
  · exact ⟨hv, hs.2.2 _ List.mem_cons_self⟩
  · refine ⟨(h.2.2.2 j w h2).1, hs.2.2 (j, qenc ad w) (List.mem_cons_of_mem _ (List.mem_filter.mpr ⟨mem_qtoL.mpr ⟨w, h2, rfl⟩, ?_⟩))⟩
    simp only [qcat_enc, Bool.and_eq_true, Bool.not_eq_true', beq_eq_false_iff_ne, ne_eq, Bool.and_eq_false_iff]
    refine ⟨h1, hji, ?_⟩
    by_cases e : j + 1 = i
    · exact Or.inr fun z => h3 ⟨e, z⟩
    · exact Or.inl e
theorem qmask_get : ∀ (b : List Bool) (L : QL) (i : Nat) (v : QV), (qmask b L)[i]? = some (some v) → L[i]? = some (some v)
  | [], L, i, v, h => h
  | _ :: _, [], i, v, h => by simp [qmask] at h
  | b :: bs, x :: L, 0, v, h => by
    simp only [qmask, List.getElem?_cons_zero] at h ⊢
    cases b
    · cases h
    · exact h
  | b :: bs, x :: L, i + 1, v, h => by
    simp only [qmask, List.getElem?_cons_succ] at h ⊢
    exact qmask_get bs L i v h
theorem qmask_len : ∀ (b : List Bool) (L : QL), (qmask b L).length = L.length
  | [], L => rfl
  | _ :: _, [] => rfl
  | b :: bs, x :: L => by simp only [qmask, List.length_cons, qmask_len bs L]
theorem QLr.mask {ad : QA → Nat} {sc : Bool} {ls : Array Slot} {nL : Nat} {L : QL} (h : QLr ad sc ls nL L) (b : List Bool) : QLr ad sc ls nL (qmask b L) :=
  ⟨h.1, h.2.1, (qmask_len b L).trans h.2.2.1, fun i v hi => h.2.2.2 i v (qmask_get b L i v hi)⟩
end
section
/-! the pure machine's steps are the machine's -/
def qnargs (y : Nat) : Nat := ((qmis[y]?).map fun q => q.2.2.2.2.2.2.2.2.2).getD 99
def qstat (y : Nat) : Bool := ((qmis[y]?).map fun q => q.2.2.2.2.1).getD false
def qalts (own : Nat) (ret : Option FieldType) (len : Nat) (o : Instr) : List (Instr × Nat) := match o with
  | .sipush n => [(.iconst n, 1)] ++ ((if (Int8.ofInt n).toInt32 = Int32.ofInt n then [(.bipush n, 2)] else []) ++ ((if (Int16.ofInt n).toInt32 = Int32.ofInt n then [(.sipush n, 3)] else []) ++ qct.flatMap fun e => if e.1 = own ∧ e.2.2.1 = n then [(.ldc e.2.1, 2), (.ldc_w e.2.1, 3)] else []))
  | .goto_w n => (if n = 0 then [(.lconst 0, 1)] else if n = 1 then [(.lconst 1, 1)] else []) ++ qclt.flatMap fun e => if e.1 = own ∧ e.2.2.1 = n then [(.ldc2_w e.2.1, 3)] else []
  | .iload i => (if h : i < 4 then [(.iload_n ⟨i, h⟩, 1)] else []) ++ [(.iload i, 2)]
  | .lload i => (if h : i < 4 then [(.lload_n ⟨i, h⟩, 1)] else []) ++ [(.lload i, 2)]
  | .aload i => (if h : i < 4 then [(.aload_n ⟨i, h⟩, 1)] else []) ++ [(.aload i, 2)]
  | .istore i => (if h : i < 4 then [(.istore_n ⟨i, h⟩, 1)] else []) ++ [(.istore i, 2)]
  | .lstore i => (if h : i < 4 then [(.lstore_n ⟨i, h⟩, 1)] else []) ++ [(.lstore i, 2)]
  | .astore i => (if h : i < 4 then [(.astore_n ⟨i, h⟩, 1)] else []) ++ [(.astore i, 2)]
  | .iinc i n => [(.iinc i n, 3)]
  | .getfield r => qft.flatMap fun e => if e.1 = own ∧ e.2.2.1 = r ∧ own ≠ 8 then [(.getfield e.2.1, 3)] else []
  | .putfield r => qft.flatMap fun e => if e.1 = own ∧ e.2.2.1 = r ∧ own ≠ 8 then [(.putfield e.2.1, 3)] else []
  | .invokeinterface y c => qmt.flatMap fun e => if e.1 = own ∧ e.2.2.1 = y ∧ c / 8 % 8 = qnargs y then [(if qstat y = true then .invokestatic e.2.1 else .invokevirtual e.2.1, 3)] else []
  | .fadd => qxt.flatMap fun e => if e.1 = own ∧ e.2.2.1 = 0 then [(.invokestatic e.2.1, 3)] else []
  | .fsub => qxt.flatMap fun e => if e.1 = own ∧ e.2.2.1 = 1 then [(.invokestatic e.2.1, 3)] else []
  | .fneg => qxt.flatMap fun e => if e.1 = own ∧ e.2.2.1 = 2 then [(.invokestatic e.2.1, 3)] else []
  | .faload => [(.iaload, 1)]
  | .fload _ => [(.arraylength, 1)]
  | .ireturn => if ret = some .int then [(.ireturn, 1)] else []
  | .freturn => if ret = some .boolean then [(.ireturn, 1)] else []
  | .lreturn => if ret = some .long then [(.lreturn, 1)] else []
  | .areturn => (match ret with
    | some (.object _) => [(.areturn, 1)]
    | _ => [])
  | .return_ => if ret = none then [(.return_, 1)] else []
  | .ifCond c off => [(.ifCond c off, 3)]
  | .if_icmp c off => [(.if_icmp c off, 3)]
  | .if_acmp c off => if own ≠ 8 then [(.if_acmp c off, 3)] else []
  | .ifnull off => [(.ifnull off, 3)]
  | .ifnonnull off => [(.ifnonnull off, 3)]
  | .goto off => [(.goto off, 3)]
  | .tableswitch d lo hi offs => if hi - lo + 1 = (offs.toList.length : Nat) ∧ -2147483648 ≤ lo ∧ hi < 2147483648 then [(.tableswitch d lo hi offs, len)] else []
  | .lookupswitch d ps => if (ps.toList.zip (ps.toList.drop 1)).all (fun (a, next) => a.1 < next.1) = true ∧ ps.toList.all (fun q => decide (-2147483648 ≤ q.1) && decide (q.1 < 2147483648)) = true then [(.lookupswitch d ps, len)] else []
  | .aconst_null => [(.aconst_null, 1)]
  | .dup => [(.dup, 1)]
  | .dup2 => [(.dup2, 1)]
  | .pop => [(.pop, 1)]
  | .iadd => [(.iadd, 1)]
  | .isub => [(.isub, 1)]
  | .imul => [(.imul, 1)]
  | .iand => [(.iand, 1)]
  | .ior => [(.ior, 1)]
  | .ixor => [(.ixor, 1)]
  | .ishl => [(.ishl, 1)]
  | .ishr => [(.ishr, 1)]
  | .iushr => [(.iushr, 1)]
  | .idiv => [(.idiv, 1)]
  | .irem => [(.irem, 1)]
  | .ineg => [(.ineg, 1)]
  | .ladd => [(.ladd, 1)]
  | .lsub => [(.lsub, 1)]
  | .lmul => [(.lmul, 1)]
  | .lor => [(.lor, 1)]
  | .ldiv => [(.ldiv, 1)]
  | .lrem => [(.lrem, 1)]
  | .lshl => [(.lshl, 1)]
  | .i2l => [(.i2l, 1)]
  | .lcmp => [(.lcmp, 1)]
  | .arraylength => if own ≠ 8 then [(.arraylength, 1)] else []
  | .iaload => if own ≠ 8 then [(.iaload, 1)] else []
  | .baload => if own ≠ 8 then [(.baload, 1)] else []
  | .laload => if own ≠ 8 then [(.laload, 1)] else []
  | .aaload => if own ≠ 8 then [(.aaload, 1)] else []
  | .iastore => if own ≠ 8 then [(.iastore, 1)] else []
  | .bastore => if own ≠ 8 then [(.bastore, 1)] else []
  | .lastore => if own ≠ 8 then [(.lastore, 1)] else []
  | .aastore => if own ≠ 8 then [(.aastore, 1)] else []
  | _ => []
def qoffs (o : Instr) : List Int := match o with
  | .ifCond _ off => [off]
  | .if_icmp _ off => [off]
  | .if_acmp _ off => [off]
  | .ifnull off => [off]
  | .ifnonnull off => [off]
  | .goto off => [off]
  | .tableswitch d _ _ offs => d :: offs.toList
  | .lookupswitch d ps => d :: ps.toList.map (fun q => q.2)
  | _ => []
theorem q_no {P : Prop} {r : Option QV × QM} (h : (none : QR) = some r) : P := by cases h
theorem qsw_tab {jp : Int → QR} {x : Int32} {d : Int} {res : Option QV × QM} : ∀ (offs : List Int) (lo : Int), -2147483648 ≤ lo → lo + offs.length ≤ 2147483648 → qsw jp x d (qtab lo offs) = some res →
    ((x.toInt < lo ∨ lo + offs.length ≤ x.toInt) ∧ jp d = some res) ∨ (∃ (i : Nat) (off : Int), offs[i]? = some off ∧ x.toInt = lo + i ∧ jp off = some res)
  | [], lo, _, _, h => Or.inl ⟨by rw [List.length_nil]; omega, h⟩
  | o :: r, lo, h1, h2, h => by
    rw [List.length_cons] at h2
    have hx : (Int32.ofInt lo).toInt = lo := Int32.toInt_ofInt_of_le (by omega) (by omega)
    by_cases hc : x = Int32.ofInt lo
    · simp only [qtab, qsw, if_pos hc] at h
      exact Or.inr ⟨0, o, rfl, by rw [hc, hx]; omega, h⟩
    · simp only [qtab, qsw, if_neg hc] at h
      have hne : x.toInt ≠ lo := fun q => hc (Int32.toInt_inj.mp (by rw [hx]; exact q))
      rcases qsw_tab r (lo + 1) (by omega) (by omega) h with ⟨h3, h4⟩ | ⟨i, off, h3, h4, h5⟩
      · exact Or.inl ⟨by rw [List.length_cons]; omega, h4⟩
      · exact Or.inr ⟨i + 1, off, h3, by omega, h5⟩
theorem qsw_lk {jp : Int → QR} {x : Int32} {d : Int} {res : Option QV × QM} : ∀ (ps : List (Int × Int)), ps.all (fun q => decide (-2147483648 ≤ q.1) && decide (q.1 < 2147483648)) = true → qsw jp x d ps = some res →
    ∃ off, Op.lookupswitch.offset ps d x.toInt = off ∧ off ∈ d :: ps.map (fun q => q.2) ∧ jp off = some res
  | [], _, h => ⟨d, rfl, List.mem_cons_self, h⟩
  | (a, o) :: r, hr, h => by
    simp only [List.all_cons, Bool.and_eq_true, decide_eq_true_eq] at hr
    have hx : (Int32.ofInt a).toInt = a := Int32.toInt_ofInt_of_le (by omega) (by omega)
    by_cases hc : x = Int32.ofInt a
    · simp only [qsw, if_pos hc] at h
      refine ⟨o, ?_, by simp, h⟩
      rw [Op.lookupswitch.offset_cons, if_pos]
      rw [hc, hx]
    · simp only [qsw, if_neg hc] at h
      obtain ⟨off, h1, h2, h3⟩ := qsw_lk r hr.2 h
      refine ⟨off, ?_, ?_, h3⟩
      · rw [lv_osw hc hx]; exact h1
      · simp only [List.map_cons, List.mem_cons] at h2 ⊢
        rcases h2 with h2 | h2
        · exact Or.inl h2
        · exact Or.inr (Or.inr h2)
theorem q_if {b : Bool} {r : QR} {res : Option QV × QM} (h : (bif b then none else r) = some res) : b = false ∧ r = some res := by
  cases b
  · exact ⟨rfl, h⟩
  · cases h
theorem q_ite {c : Prop} [i : Decidable c] {r : QR} {res : Option QV × QM} (h : (if c then r else none) = some res) : c ∧ r = some res := by
  by_cases hc : c
  · rw [if_pos hc] at h; exact ⟨hc, h⟩
  · rw [if_neg hc] at h; cases h
theorem q_iteN {c : Prop} [i : Decidable c] {r : QR} {res : Option QV × QM} (h : (if c then none else r) = some res) : ¬ c ∧ r = some res := by
  by_cases hc : c
  · rw [if_pos hc] at h; cases h
  · rw [if_neg hc] at h; exact ⟨hc, h⟩
theorem qoob_in {x : Int32} {n : Nat} (h : qoob x n = false) : vp_in x n := by
  unfold qoob at h
  simp only [Bool.or_eq_false_iff, decide_eq_false_iff_not] at h
  exact fun q => q.elim h.1 h.2
theorem q_cons {sc : Bool} {v : QV} {st : List QV} (hv : qokv sc v) (h : ∀ u ∈ st, qokv sc u) : ∀ u ∈ v :: st, qokv sc u := fun u hu => (List.mem_cons.mp hu).elim (fun e => e ▸ hv) (h u)
theorem q_tl {sc : Bool} {v : QV} {st : List QV} (h : ∀ u ∈ v :: st, qokv sc u) : ∀ u ∈ st, qokv sc u := fun u hu => h u (List.mem_cons_of_mem _ hu)
theorem qpop_spec : ∀ (n : Nat) (st acc av st' : List QV), qpop n st acc = some (av, st') → ∃ pre : List QV, st = pre ++ st' ∧ av = pre.reverse ++ acc ∧ pre.length = n
  | 0, st, acc, av, st', h => by
    cases h
    exact ⟨[], rfl, rfl, rfl⟩
  | n + 1, [], acc, av, st', h => by cases h
  | n + 1, v :: st, acc, av, st', h => by
    obtain ⟨pre, h1, h2, h3⟩ := qpop_spec n st (v :: acc) av st' h
    exact ⟨v :: pre, by rw [h1]; rfl, by rw [h2]; simp, by rw [List.length_cons, h3]⟩
theorem q_flat {α : Type} {l : List α} {f : α → List (Instr × Nat)} {x : Instr × Nat} (h : x ∈ l.flatMap f) : ∃ e ∈ l, x ∈ f e := List.mem_flatMap.mp h
theorem q_one {c : Prop} [i : Decidable c] {x y : Instr × Nat} (h : x ∈ if c then [y] else []) : c ∧ x = y := by
  by_cases hc : c
  · rw [if_pos hc] at h; exact ⟨hc, List.mem_singleton.mp h⟩
  · rw [if_neg hc] at h; cases h
theorem q_done {c : Prop} [i : Decidable c] {f : c → Instr × Nat} {x y : Instr × Nat} (h : x ∈ (if h : c then [f h] else []) ++ [y]) : (∃ hc : c, x = f hc) ∨ x = y := by
  rcases List.mem_append.mp h with h | h
  · by_cases hc : c
    · rw [dif_pos hc] at h; exact Or.inl ⟨hc, List.mem_singleton.mp h⟩
    · rw [dif_neg hc] at h; cases h
  · exact Or.inr (List.mem_singleton.mp h)
/-- what the tables say of a kind of objects -/
theorem qfK_of {t ci k : Nat} (ht : t < 50) (h : qci t = some ci) (hk : k < qN ci) : ci < 8 ∧ (qT ci k).1 = qownS ci ∧ ((qfK t k = 0 ∧ qty ci k = .int ∧ (qT ci k).2.2.2 = false) ∨ (qfK t k = 1 ∧ qty ci k = .boolean ∧ (qT ci k).2.2.2 = false) ∨ (qfK t k = 2 ∧ (qT ci k).2.2.2 = true)) := by
  have h1 := qfK_all t ht
  rw [h] at h1
  simp only [Option.map_some, Option.getD_some, Bool.and_eq_true, decide_eq_true_eq, List.all_eq_true, List.mem_range] at h1
  obtain ⟨h2, h3⟩ := h1
  have h4 := h3 k hk
  simp only [qfKc, Bool.and_eq_true, Bool.or_eq_true, Bool.not_eq_true', decide_eq_true_eq] at h4
  refine ⟨h2, h4.1, ?_⟩
  rcases h4.2 with (⟨⟨a, b⟩, c⟩ | ⟨⟨a, b⟩, c⟩) | ⟨a, b⟩
  · exact Or.inl ⟨a, b, c⟩
  · exact Or.inr (Or.inl ⟨a, b, c⟩)
  · exact Or.inr (Or.inr ⟨a, b⟩)
theorem qci_none : ∀ t, t < 50 → (qeK t ≠ 0 → qci t = none) := by decide +kernel
theorem qtk_ok : ∀ t, t < 50 → qeK t ≠ 0 → (qeK t = 1 ∧ qtk t = 0) ∨ (qeK t = 2 ∧ qtk t = 1) ∨ (qeK t = 3 ∧ qtk t = 2) ∨ ((qeK t = 4 ∨ qeK t = 5) ∧ (qtk t = 3 ∧ qeT t = 1 ∨ qtk t = 4 ∧ qeT t = 6 ∨ qtk t = 5 ∧ qeT t = 2)) := by decide +kernel
theorem qel_ok : ∀ t, t < 50 → qeK t = 4 → (qbnd (qeT t)).1 = (qbnd t).1 ∧ (qbnd (qeT t)).2 = qeL t := by decide +kernel
def qfrok (t k : Nat) : Bool := match (qfrs.getD t []).getD k none with
  | none => true
  | some (t', b, j, c) => decide (t' < 50) && (bif b then decide ((qbnd t').1 = (qbnd t).1) else decide (j < (qbnd t').1)) && decide (c < (qbnd t').2)
theorem qfr_ok : ∀ t, t < 50 → ∀ k, k < 38 → qfrok t k = true := by decide +kernel
theorem qN_le : ∀ ci, ci < 8 → qN ci ≤ 38 := by decide +kernel
theorem qfR_dom {a b : QA} {k : Nat} (ha : qdom a = true) (hk : k < 38) (h : qfR a k = some b) : qdom b = true := by
  have h1 := qfr_ok a.1 (qdom_lt ha) k hk
  unfold qfrok at h1
  unfold qfR at h
  cases hq : (qfrs.getD a.1 []).getD k none with
  | none => rw [hq] at h; cases h
  | some x =>
    obtain ⟨t', bb, j, c⟩ := x
    rw [hq] at h h1
    simp only [Option.some.injEq] at h
    subst h
    simp only [qdom, Bool.and_eq_true, decide_eq_true_eq] at ha h1 ⊢
    cases bb
    · simp only [cond_false, decide_eq_true_eq] at h1 ⊢
      exact ⟨h1.1.2, h1.2⟩
    · simp only [cond_true, decide_eq_true_eq] at h1 ⊢
      exact ⟨by rw [h1.1.2]; exact ha.1, h1.2⟩
theorem qbz_eq {x : Int32} (h : x = 0 ∨ x = 1) : qbz x = x := by
  rcases h with rfl | rfl <;> decide
theorem qbz_01 (x : Int32) : qbz x = 0 ∨ qbz x = 1 := by
  unfold qbz
  by_cases h : x = 0
  · exact Or.inl (if_pos h)
  · exact Or.inr (if_neg h)
section QS
variable {p : Program} {l : Launch} {e : Env} {R : Room} {s : State} {m : MethodId} {args : Array Value} {below : List Frame} {meth : Method} {c : Code} {Q : State → Prop} {cells slots : Nat}
variable {own : Nat} {cc : ByteArray} {nL : Nat} {ret : Option FieldType} {D : va_G} {cA : Nat → ClassId} {ad : QA → Nat} {A : Nat → Prop} {H0 : Heap} {sc : Bool} {res : Option QV × QM}
def qisN : Cond → Bool
  | .fieldLinkNest .. => true
  | .methodLinkNest .. => true
  | _ => false
/-- the links of nest mates: they hold as the tables warm -/
def qNst (s : State) : Prop := ∀ w ∈ lw_tbl, qisN w = true → va_Nw w s
theorem qNst.warm {s U : State} (hW : s.WarmedH U.vm) (h : qNst s) : qNst U := by
  intro w hw hn
  have h1 := h w hw hn
  cases w <;> first | exact va_Nw.warmF hW h1 | exact va_Nw.warmM hW h1 | (cases hn)
theorem qNst.same {s U : State} (hvm : s.vm = U.vm) (h : qNst s) : qNst U := by
  intro w hw hn
  have h1 := h w hw hn
  cases w <;> first | exact va_Nw.same rfl hvm h1 | (cases hn)
theorem qNst.of {s : State} {args : Array Value} (h : ∀ w ∈ lw_tbl, w.before args s = true) : qNst s := by
  intro w hw hn
  have h1 := h w hw
  cases w <;> first | exact va_Nw.of rfl h1 | (cases hn)
def qEnv (p : Program) (s : State) (m : MethodId) (args : Array Value) (c : Code) (cc : ByteArray) (nL own : Nat) (D : va_G) (cA : Nat → ClassId) : Prop :=
  p.tables.exec = Jvm.exec ∧ c.code = cc ∧ c.maxLocals = nL ∧ s.vm.findClass (qownS own) = some m.cls ∧ (∀ w ∈ gtb, w.before args s = true) ∧ va_K D qcl (qtys cA) s ∧ qNst s
/-- one state's whole -/
def qSt (ad : QA → Nat) (sc : Bool) (nL : Nat) (cA : Nat → ClassId) (D : va_G) (A : Nat → Prop) (H0 : Heap) (ls : Array Slot) (L : QL) (st : List QV) (μ : QM) (H : Heap) (locs : List Loc) : Prop :=
  QLr ad sc ls nL L ∧ (∀ v ∈ st, qokv sc v) ∧ QW ad cA D A H0 μ H locs
set_option maxHeartbeats 8000000 in
set_option maxRecDepth 20000 in
theorem qop_sound (E : qEnv p s m args c cc nL own D cA) (hs8 : sc = true → own = 8) (hR : 1 ≤ R.frames ∧ 21 ≤ R.locals ∧ cells ≤ R.cells ∧ slots ≤ R.slots) {call : QC} {nx : QL → List QV → QM → QR} {jp : Int → QL → List QV → QM → QR} {o ins : Instr} {pc len : Nat} {ls : Array Slot} {L : QL} {st : List QV} {μ : QM} {H : Heap} {locs : List Loc}
    (hd : decode cc pc = .ok (ins, len)) (hm : (ins, len) ∈ qalts own ret len o) (hjo : ∀ off ∈ qoffs o, 0 ≤ (pc : Int) + off)
    (hS : qSt ad sc nL cA D A H0 ls L st μ H locs)
    (HC : ∀ (y cp : Nat) (q : QMI) (nest : Bool) (idx : Nat), qmis[y]? = some q → (own, cp, y, nest, idx) ∈ qmt → decode cc pc = .ok (if q.2.2.2.2.1 = true then .invokestatic cp else .invokevirtual cp, 3) → ∀ (av rest : List QV) (r : Option QV) (μ' : QM), av.length = q.2.2.2.2.2.2.2.2.2 → call y av μ = some (r, μ') → (∀ v ∈ av, qokv sc v) → qwd rest ≤ 8 →
      (∀ (H' : Heap) (locs' : List Loc), QW ad cA D A H0 μ' H' locs' → W p l e R s m args below meth c H' locs' cells slots Q (F0 m (pc + 3) ls ((r.map (qenc ad)).toList ++ rest.map (qenc ad)))) →
      W p l e R s m args below meth c H locs cells slots Q (F0 m pc ls ((av.map (qenc ad)).reverse ++ rest.map (qenc ad))))
    (HS1 : sc = true → ∀ (i x : Int32) (μ' : QM) (rest : List Value), call 9999 [qI i] μ = some (some (.inl x), μ') → decode cc pc = .ok (.iaload, 1) → W p l e R s m args below meth c H locs cells slots Q (F0 m (pc + 1) ls (.int x :: rest)) → W p l e R s m args below meth c H locs cells slots Q (F0 m pc ls (.int i :: .ref (ad (99, 0, 0)) :: rest)))
    (HS2 : sc = true → ∀ (x : Int32) (μ' : QM) (rest : List Value), call 9998 [] μ = some (some (.inl x), μ') → decode cc pc = .ok (.arraylength, 1) → W p l e R s m args below meth c H locs cells slots Q (F0 m (pc + 1) ls (.int x :: rest)) → W p l e R s m args below meth c H locs cells slots Q (F0 m pc ls (.ref (ad (99, 0, 0)) :: rest)))
    (HRi : ∀ x : Int32, decode cc pc = .ok (.ireturn, 1) → (ret = some .int ∨ (ret = some .boolean ∧ (x = 0 ∨ x = 1))) → res = (some (qI x), μ) → W p l e R s m args below meth c H locs cells slots Q (F0 m pc ls [.int x]))
    (HRl : ∀ x : Int64, decode cc pc = .ok (.lreturn, 1) → ret = some .long → res = (some (qL x), μ) → W p l e R s m args below meth c H locs cells slots Q (F0 m pc ls [.long x]))
    (HRa : ∀ x : Option QA, decode cc pc = .ok (.areturn, 1) → (∃ n, ret = some (.object n)) → res = (some (qO x), μ) → W p l e R s m args below meth c H locs cells slots Q (F0 m pc ls [va_rf (x.map ad)]))
    (HRv : decode cc pc = .ok (.return_, 1) → ret = none → res = (none, μ) → W p l e R s m args below meth c H locs cells slots Q (F0 m pc ls []))
    (Hnx : ∀ (ls : Array Slot) (L : QL) (st : List QV) (μ : QM) (H : Heap) (locs : List Loc), qSt ad sc nL cA D A H0 ls L st μ H locs → nx L st μ = some res → W p l e R s m args below meth c H locs cells slots Q (F0 m (pc + len) ls (st.map (qenc ad))))
    (Hjp : ∀ (off : Int) (t : Nat) (st : List QV), off ∈ qoffs o → (pc : Int) + off = (t : Int) → qSt ad sc nL cA D A H0 ls L st μ H locs → jp off L st μ = some res → W p l e R s m args below meth c H locs cells slots Q (F0 m t ls (st.map (qenc ad))))
    (h : qop call nx jp o L st μ = some res) : W p l e R s m args below meth c H locs cells slots Q (F0 m pc ls (st.map (qenc ad))) := by
  obtain ⟨hx, hb, hml, hown, hts, hK, hNs⟩ := E
  obtain ⟨hL, hst, hW⟩ := hS
  have jt : ∀ off ∈ qoffs o, ∃ t : Nat, (pc : Int) + off = (t : Int) := fun off ho => ⟨((pc : Int) + off).toNat, (Int.toNat_of_nonneg (hjo off ho)).symm⟩
  cases o
  case sipush n =>
    have hN := Hnx _ _ _ _ _ _ ⟨hL, q_cons (v := qI (Int32.ofInt n)) trivial hst, hW⟩ h
    rcases List.mem_append.mp hm with hm | hm
    · cases List.mem_singleton.mp hm
      exact lv_iconst hx hb hd rfl hN
    rcases List.mem_append.mp hm with hm | hm
    · obtain ⟨h1, h2⟩ := q_one hm
      cases h2
      exact lv_bipush hx hb hd h1 hN
    rcases List.mem_append.mp hm with hm | hm
    · obtain ⟨h1, h2⟩ := q_one hm
      cases h2
      exact lv_sipush hx hb hd h1 hN
    · obtain ⟨⟨o1, cp, v, idx⟩, he, h2⟩ := q_flat hm
      have h0 := qct_ok _ he
      by_cases hc : o1 = own ∧ v = n
      · rw [if_pos hc] at h2
        obtain ⟨rfl, rfl⟩ := hc
        rcases List.mem_cons.mp h2 with h2 | h2
        · cases h2
          exact lv_ldc hx hb hown (hts _ (gtb_at h0 rfl)) hd hN
        · cases List.mem_singleton.mp h2
          exact lv_ldcw hx hb hown (hts _ (gtb_at h0 rfl)) hd hN
      · rw [if_neg hc] at h2
        cases h2
  case goto_w n =>
    have hN := Hnx _ _ _ _ _ _ ⟨hL, q_cons (v := qL (Int64.ofInt n)) trivial hst, hW⟩ h
    rcases List.mem_append.mp hm with hm | hm
    · by_cases h0 : n = 0
      · rw [if_pos h0] at hm
        cases List.mem_singleton.mp hm
        subst h0
        exact lv_lconst hx hb hd rfl hN
      · rw [if_neg h0] at hm
        obtain ⟨h1, h2⟩ := q_one hm
        cases h2
        subst h1
        exact lv_lconst hx hb hd rfl hN
    · obtain ⟨⟨o1, cp, v, idx⟩, he, hm2⟩ := q_flat hm
      have h0 := qclt_ok _ he
      obtain ⟨⟨e1, e2⟩, h2⟩ := q_one hm2
      dsimp only at e1 e2 h0
      subst e1
      subst e2
      cases h2
      exact lv_ldc2 hx hb hown (hts _ (gtb_at h0 rfl)) hd hN
  case aconst_null =>
    cases List.mem_singleton.mp hm
    exact lv_null hx hb hd (Hnx _ _ _ _ _ _ ⟨hL, q_cons (v := qO none) trivial hst, hW⟩ h)
  case iload i =>
    rcases hq : L[i]? with _ | _ | x | x | x
    · simp only [qop, hq] at h
      exact q_no h
    · simp only [qop, hq] at h
      exact q_no h
    · simp only [qop, hq] at h
      obtain ⟨hv, hl⟩ := hL.2.2.2 _ _ hq
      have hN := Hnx _ _ _ _ _ _ ⟨hL, q_cons hv hst, hW⟩ h
      rcases q_done hm with ⟨hc, h2⟩ | h2
      · cases h2
        exact lv_iload_n hx hb hd rfl hl hN
      · cases h2
        exact lv_iload hx hb hd hl hN
    · simp only [qop, hq] at h
      exact q_no h
    · simp only [qop, hq] at h
      exact q_no h
  case lload i =>
    rcases hq : L[i]? with _ | _ | x | x | x
    · simp only [qop, hq] at h
      exact q_no h
    · simp only [qop, hq] at h
      exact q_no h
    · simp only [qop, hq] at h
      exact q_no h
    · simp only [qop, hq] at h
      obtain ⟨hv, hl⟩ := hL.2.2.2 _ _ hq
      have hN := Hnx _ _ _ _ _ _ ⟨hL, q_cons hv hst, hW⟩ h
      rcases q_done hm with ⟨hc, h2⟩ | h2
      · cases h2
        exact lv_lload_n hx hb hd rfl hl hN
      · cases h2
        exact lv_lload hx hb hd hl hN
    · simp only [qop, hq] at h
      exact q_no h
  case aload i =>
    rcases hq : L[i]? with _ | _ | x | x | x
    · simp only [qop, hq] at h
      exact q_no h
    · simp only [qop, hq] at h
      exact q_no h
    · simp only [qop, hq] at h
      exact q_no h
    · simp only [qop, hq] at h
      exact q_no h
    · simp only [qop, hq] at h
      obtain ⟨hv, hl⟩ := hL.2.2.2 _ _ hq
      have hN := Hnx _ _ _ _ _ _ ⟨hL, q_cons hv hst, hW⟩ h
      rcases q_done hm with ⟨hc, h2⟩ | h2
      · cases h2
        rcases x with _ | x
        · exact lv_aload_nN hx hb hd rfl hl hN
        · exact lv_aload_n hx hb hd rfl hl hN
      · cases h2
        rcases x with _ | x
        · exact lv_aloadN hx hb hd hl hN
        · exact lv_aload hx hb hd hl hN
  case istore i =>
    rcases st with _ | ⟨v0, t0⟩
    · exact q_no h
    rcases v0 with x0 | x0
    · obtain ⟨hi, h⟩ := q_ite h
      rw [hL.2.2.1] at hi
      have hv := hst _ List.mem_cons_self
      rcases q_done hm with ⟨hc, h2⟩ | h2
      · cases h2
        exact lv_istore_n hx hb hd rfl hL.has hi rfl (fun ls2 hl2 => Hnx _ _ _ _ _ _ ⟨hL.put1 hv hl2, q_tl hst, hW⟩ h)
      · cases h2
        exact lv_istore hx hb hd hL.has hi rfl (fun ls2 hl2 => Hnx _ _ _ _ _ _ ⟨hL.put1 hv hl2, q_tl hst, hW⟩ h)
    · exact q_no h
  case lstore i =>
    rcases st with _ | ⟨v0, t0⟩
    · exact q_no h
    rcases v0 with x0 | x0 | x0
    · exact q_no h
    · obtain ⟨hi, h⟩ := q_ite h
      rw [hL.2.2.1] at hi
      have hv := hst _ List.mem_cons_self
      rcases q_done hm with ⟨hc, h2⟩ | h2
      · cases h2
        exact lv_lstore_n hx hb hd rfl hL.has hi rfl (fun ls2 hl2 => Hnx _ _ _ _ _ _ ⟨hL.put2 hv hl2, q_tl hst, hW⟩ h)
      · cases h2
        exact lv_lstore hx hb hd hL.has hi rfl (fun ls2 hl2 => Hnx _ _ _ _ _ _ ⟨hL.put2 hv hl2, q_tl hst, hW⟩ h)
    · exact q_no h
  case astore i =>
    rcases st with _ | ⟨v0, t0⟩
    · exact q_no h
    rcases v0 with x0 | x0 | x0
    · exact q_no h
    · exact q_no h
    · obtain ⟨hi, h⟩ := q_ite h
      rw [hL.2.2.1] at hi
      have hv := hst _ List.mem_cons_self
      rcases q_done hm with ⟨hc, h2⟩ | h2
      · cases h2
        rcases x0 with _ | x0
        · exact lv_astore_nN hx hb hd rfl hL.has hi rfl (fun ls2 hl2 => Hnx _ _ _ _ _ _ ⟨hL.put1 hv hl2, q_tl hst, hW⟩ h)
        · exact lv_astore_n hx hb hd rfl hL.has hi rfl (fun ls2 hl2 => Hnx _ _ _ _ _ _ ⟨hL.put1 hv hl2, q_tl hst, hW⟩ h)
      · cases h2
        rcases x0 with _ | x0
        · exact lv_astoreN hx hb hd hL.has hi rfl (fun ls2 hl2 => Hnx _ _ _ _ _ _ ⟨hL.put1 hv hl2, q_tl hst, hW⟩ h)
        · exact lv_astore hx hb hd hL.has hi rfl (fun ls2 hl2 => Hnx _ _ _ _ _ _ ⟨hL.put1 hv hl2, q_tl hst, hW⟩ h)
  case iinc i n =>
    rcases hq : L[i]? with _ | _ | x | x | x
    · simp only [qop, hq] at h
      exact q_no h
    · simp only [qop, hq] at h
      exact q_no h
    · simp only [qop, hq] at h
      have hmem := (mem_qtoL (ad := ad) (L := L) (q := (i, Value.int x))).mpr ⟨qI x, hq, rfl⟩
      obtain ⟨k, hk⟩ := List.getElem?_of_mem hmem
      have hi : i < nL := by rw [← hL.2.2.1]; exact (List.getElem?_eq_some_iff.mp hq).1
      cases List.mem_singleton.mp hm
      exact lv_iinc hx hb hd hL.has hk rfl hi rfl (fun ls2 hl2 => Hnx _ _ _ _ _ _ ⟨hL.put1 (v := qI (x + Int32.ofInt n)) trivial hl2, hst, hW⟩ h)
    · simp only [qop, hq] at h
      exact q_no h
    · simp only [qop, hq] at h
      exact q_no h
  case dup =>
    cases List.mem_singleton.mp hm
    rcases st with _ | ⟨x | x | x, st⟩
    · exact q_no h
    · exact lv_dup hx hb hd rfl (Hnx _ _ _ _ _ _ ⟨hL, q_cons (v := qI x) trivial hst, hW⟩ h)
    · exact q_no h
    · exact lv_dup hx hb hd (by rw [qcat_enc]; rfl) (Hnx _ _ _ _ _ _ ⟨hL, q_cons (v := qO x) (hst _ List.mem_cons_self) hst, hW⟩ h)
  case pop =>
    cases List.mem_singleton.mp hm
    rcases st with _ | ⟨x | x | x, st⟩
    · exact q_no h
    · exact lv_pop hx hb hd rfl (Hnx _ _ _ _ _ _ ⟨hL, q_tl hst, hW⟩ h)
    · exact q_no h
    · exact lv_pop hx hb hd (by rw [qcat_enc]; rfl) (Hnx _ _ _ _ _ _ ⟨hL, q_tl hst, hW⟩ h)
  case dup2 =>
    cases List.mem_singleton.mp hm
    rcases st with _ | ⟨v0, t0⟩
    · exact q_no h
    rcases v0 with x0 | x0
    · rcases t0 with _ | ⟨v1, t1⟩
      · exact q_no h
      rcases v1 with x1 | x1 | x1
      · exact q_no h
      · exact q_no h
      · exact lv_dup2_11 hx hb hd rfl (by rw [qcat_enc]; rfl) (Hnx _ _ _ _ _ _ ⟨hL, q_cons (v := qI x0) trivial (q_cons (v := qO x1) (hst _ (List.mem_cons_of_mem _ List.mem_cons_self)) hst), hW⟩ h)
    · exact q_no h
  case iadd =>
    cases List.mem_singleton.mp hm
    rcases st with _ | ⟨v0, t0⟩
    · exact q_no h
    rcases v0 with x0 | x0
    · rcases t0 with _ | ⟨v1, t1⟩
      · exact q_no h
      rcases v1 with x1 | x1
      · exact lv_iadd hx hb hd (Hnx _ _ _ _ _ _ ⟨hL, q_cons (v := qI (x1 + x0)) trivial (q_tl (q_tl hst)), hW⟩ h)
      · exact q_no h
    · exact q_no h
  case isub =>
    cases List.mem_singleton.mp hm
    rcases st with _ | ⟨v0, t0⟩
    · exact q_no h
    rcases v0 with x0 | x0
    · rcases t0 with _ | ⟨v1, t1⟩
      · exact q_no h
      rcases v1 with x1 | x1
      · exact lv_isub hx hb hd (Hnx _ _ _ _ _ _ ⟨hL, q_cons (v := qI (x1 - x0)) trivial (q_tl (q_tl hst)), hW⟩ h)
      · exact q_no h
    · exact q_no h
  case imul =>
    cases List.mem_singleton.mp hm
    rcases st with _ | ⟨v0, t0⟩
    · exact q_no h
    rcases v0 with x0 | x0
    · rcases t0 with _ | ⟨v1, t1⟩
      · exact q_no h
      rcases v1 with x1 | x1
      · exact lv_imul hx hb hd (Hnx _ _ _ _ _ _ ⟨hL, q_cons (v := qI (x1 * x0)) trivial (q_tl (q_tl hst)), hW⟩ h)
      · exact q_no h
    · exact q_no h
  case iand =>
    cases List.mem_singleton.mp hm
    rcases st with _ | ⟨v0, t0⟩
    · exact q_no h
    rcases v0 with x0 | x0
    · rcases t0 with _ | ⟨v1, t1⟩
      · exact q_no h
      rcases v1 with x1 | x1
      · exact lv_iand hx hb hd (Hnx _ _ _ _ _ _ ⟨hL, q_cons (v := qI (x1 &&& x0)) trivial (q_tl (q_tl hst)), hW⟩ h)
      · exact q_no h
    · exact q_no h
  case ior =>
    cases List.mem_singleton.mp hm
    rcases st with _ | ⟨v0, t0⟩
    · exact q_no h
    rcases v0 with x0 | x0
    · rcases t0 with _ | ⟨v1, t1⟩
      · exact q_no h
      rcases v1 with x1 | x1
      · exact lv_ior hx hb hd (Hnx _ _ _ _ _ _ ⟨hL, q_cons (v := qI (x1 ||| x0)) trivial (q_tl (q_tl hst)), hW⟩ h)
      · exact q_no h
    · exact q_no h
  case ixor =>
    cases List.mem_singleton.mp hm
    rcases st with _ | ⟨v0, t0⟩
    · exact q_no h
    rcases v0 with x0 | x0
    · rcases t0 with _ | ⟨v1, t1⟩
      · exact q_no h
      rcases v1 with x1 | x1
      · exact lv_ixor hx hb hd (Hnx _ _ _ _ _ _ ⟨hL, q_cons (v := qI (x1 ^^^ x0)) trivial (q_tl (q_tl hst)), hW⟩ h)
      · exact q_no h
    · exact q_no h
  case ishl =>
    cases List.mem_singleton.mp hm
    rcases st with _ | ⟨v0, t0⟩
    · exact q_no h
    rcases v0 with x0 | x0
    · rcases t0 with _ | ⟨v1, t1⟩
      · exact q_no h
      rcases v1 with x1 | x1
      · exact lv_ishl hx hb hd (Hnx _ _ _ _ _ _ ⟨hL, q_cons (v := qI (x1 <<< (x0 &&& 31))) trivial (q_tl (q_tl hst)), hW⟩ h)
      · exact q_no h
    · exact q_no h
  case ishr =>
    cases List.mem_singleton.mp hm
    rcases st with _ | ⟨v0, t0⟩
    · exact q_no h
    rcases v0 with x0 | x0
    · rcases t0 with _ | ⟨v1, t1⟩
      · exact q_no h
      rcases v1 with x1 | x1
      · exact lv_ishr hx hb hd (Hnx _ _ _ _ _ _ ⟨hL, q_cons (v := qI (x1 >>> (x0 &&& 31))) trivial (q_tl (q_tl hst)), hW⟩ h)
      · exact q_no h
    · exact q_no h
  case iushr =>
    cases List.mem_singleton.mp hm
    rcases st with _ | ⟨v0, t0⟩
    · exact q_no h
    rcases v0 with x0 | x0
    · rcases t0 with _ | ⟨v1, t1⟩
      · exact q_no h
      rcases v1 with x1 | x1
      · exact lv_iushr hx hb hd rfl (Hnx _ _ _ _ _ _ ⟨hL, q_cons (v := qI (x1.toUInt32 >>> (x0.toUInt32 &&& Int32.toUInt32 31)).toInt32) trivial (q_tl (q_tl hst)), hW⟩ h)
      · exact q_no h
    · exact q_no h
  case idiv =>
    cases List.mem_singleton.mp hm
    rcases st with _ | ⟨v0, t0⟩
    · exact q_no h
    rcases v0 with x0 | x0
    · rcases t0 with _ | ⟨v1, t1⟩
      · exact q_no h
      rcases v1 with x1 | x1
      · obtain ⟨hne, h⟩ := q_iteN h
        exact lv_idiv hx hb hd hne (Hnx _ _ _ _ _ _ ⟨hL, q_cons (v := qI (x1 / x0)) trivial (q_tl (q_tl hst)), hW⟩ h)
      · exact q_no h
    · exact q_no h
  case irem =>
    cases List.mem_singleton.mp hm
    rcases st with _ | ⟨v0, t0⟩
    · exact q_no h
    rcases v0 with x0 | x0
    · rcases t0 with _ | ⟨v1, t1⟩
      · exact q_no h
      rcases v1 with x1 | x1
      · obtain ⟨hne, h⟩ := q_iteN h
        exact lv_irem hx hb hd hne (Hnx _ _ _ _ _ _ ⟨hL, q_cons (v := qI (x1 - x1 / x0 * x0)) trivial (q_tl (q_tl hst)), hW⟩ h)
      · exact q_no h
    · exact q_no h
  case ineg =>
    cases List.mem_singleton.mp hm
    rcases st with _ | ⟨v0, t0⟩
    · exact q_no h
    rcases v0 with x0 | x0
    · exact lv_ineg hx hb hd (Hnx _ _ _ _ _ _ ⟨hL, q_cons (v := qI (-x0)) trivial (q_tl hst), hW⟩ h)
    · exact q_no h
  case ladd =>
    cases List.mem_singleton.mp hm
    rcases st with _ | ⟨v0, t0⟩
    · exact q_no h
    rcases v0 with x0 | x0 | x0
    · exact q_no h
    · rcases t0 with _ | ⟨v1, t1⟩
      · exact q_no h
      rcases v1 with x1 | x1 | x1
      · exact q_no h
      · exact lv_ladd hx hb hd (Hnx _ _ _ _ _ _ ⟨hL, q_cons (v := qL (x1 + x0)) trivial (q_tl (q_tl hst)), hW⟩ h)
      · exact q_no h
    · exact q_no h
  case lsub =>
    cases List.mem_singleton.mp hm
    rcases st with _ | ⟨v0, t0⟩
    · exact q_no h
    rcases v0 with x0 | x0 | x0
    · exact q_no h
    · rcases t0 with _ | ⟨v1, t1⟩
      · exact q_no h
      rcases v1 with x1 | x1 | x1
      · exact q_no h
      · exact lv_lsub hx hb hd (Hnx _ _ _ _ _ _ ⟨hL, q_cons (v := qL (x1 - x0)) trivial (q_tl (q_tl hst)), hW⟩ h)
      · exact q_no h
    · exact q_no h
  case lmul =>
    cases List.mem_singleton.mp hm
    rcases st with _ | ⟨v0, t0⟩
    · exact q_no h
    rcases v0 with x0 | x0 | x0
    · exact q_no h
    · rcases t0 with _ | ⟨v1, t1⟩
      · exact q_no h
      rcases v1 with x1 | x1 | x1
      · exact q_no h
      · exact lv_lmul hx hb hd (Hnx _ _ _ _ _ _ ⟨hL, q_cons (v := qL (x1 * x0)) trivial (q_tl (q_tl hst)), hW⟩ h)
      · exact q_no h
    · exact q_no h
  case lor =>
    cases List.mem_singleton.mp hm
    rcases st with _ | ⟨v0, t0⟩
    · exact q_no h
    rcases v0 with x0 | x0 | x0
    · exact q_no h
    · rcases t0 with _ | ⟨v1, t1⟩
      · exact q_no h
      rcases v1 with x1 | x1 | x1
      · exact q_no h
      · exact lv_lor hx hb hd (Hnx _ _ _ _ _ _ ⟨hL, q_cons (v := qL (x1 ||| x0)) trivial (q_tl (q_tl hst)), hW⟩ h)
      · exact q_no h
    · exact q_no h
  case ldiv =>
    cases List.mem_singleton.mp hm
    rcases st with _ | ⟨v0, t0⟩
    · exact q_no h
    rcases v0 with x0 | x0 | x0
    · exact q_no h
    · rcases t0 with _ | ⟨v1, t1⟩
      · exact q_no h
      rcases v1 with x1 | x1 | x1
      · exact q_no h
      · obtain ⟨hne, h⟩ := q_iteN h
        exact lv_ldiv hx hb hd hne (Hnx _ _ _ _ _ _ ⟨hL, q_cons (v := qL (x1 / x0)) trivial (q_tl (q_tl hst)), hW⟩ h)
      · exact q_no h
    · exact q_no h
  case lrem =>
    cases List.mem_singleton.mp hm
    rcases st with _ | ⟨v0, t0⟩
    · exact q_no h
    rcases v0 with x0 | x0 | x0
    · exact q_no h
    · rcases t0 with _ | ⟨v1, t1⟩
      · exact q_no h
      rcases v1 with x1 | x1 | x1
      · exact q_no h
      · obtain ⟨hne, h⟩ := q_iteN h
        exact lv_lrem hx hb hd hne (Hnx _ _ _ _ _ _ ⟨hL, q_cons (v := qL (x1 - x1 / x0 * x0)) trivial (q_tl (q_tl hst)), hW⟩ h)
      · exact q_no h
    · exact q_no h
  case lshl =>
    cases List.mem_singleton.mp hm
    rcases st with _ | ⟨v0, t0⟩
    · exact q_no h
    rcases v0 with x0 | x0
    · rcases t0 with _ | ⟨v1, t1⟩
      · exact q_no h
      rcases v1 with x1 | x1 | x1
      · exact q_no h
      · exact lv_lshl hx hb hd rfl (Hnx _ _ _ _ _ _ ⟨hL, q_cons (v := qL (x1 <<< (x0.toInt64 &&& 63))) trivial (q_tl (q_tl hst)), hW⟩ h)
      · exact q_no h
    · exact q_no h
  case i2l =>
    cases List.mem_singleton.mp hm
    rcases st with _ | ⟨v0, t0⟩
    · exact q_no h
    rcases v0 with x0 | x0
    · exact lv_i2l hx hb hd rfl (Hnx _ _ _ _ _ _ ⟨hL, q_cons (v := qL x0.toInt64) trivial (q_tl hst), hW⟩ h)
    · exact q_no h
  case lcmp =>
    cases List.mem_singleton.mp hm
    rcases st with _ | ⟨v0, t0⟩
    · exact q_no h
    rcases v0 with x0 | x0 | x0
    · exact q_no h
    · rcases t0 with _ | ⟨v1, t1⟩
      · exact q_no h
      rcases v1 with x1 | x1 | x1
      · exact q_no h
      · exact W.lcmp hx hb hd (Hnx _ _ _ _ _ _ ⟨hL, q_cons (v := qI (lg_cmp x1 x0)) trivial (q_tl (q_tl hst)), hW⟩ h)
      · exact q_no h
    · exact q_no h
  case fadd =>
    obtain ⟨⟨o1, cp, v, idx⟩, he, hm2⟩ := q_flat hm
    have h0 := (qxt_ok _ he).2
    obtain ⟨⟨e1, hv0⟩, h2⟩ := q_one hm2
    dsimp only at h0 hv0 e1
    subst hv0
    subst e1
    cases h2
    rcases st with _ | ⟨v0, t0⟩
    · exact q_no h
    rcases v0 with x0 | x0
    · rcases t0 with _ | ⟨v1, t1⟩
      · exact q_no h
      rcases v1 with x1 | x1
      · obtain ⟨hwd, h⟩ := q_ite h
        exact va_mmax hx hb (hml.trans hL.1.symm) hown (hts _ (gtb_at h0 rfl)) (hts _ (gtb_of qx_max_st rfl)) (hts _ (gtb_of qx_ini rfl)) (hts _ (gtb_of qx_max_cd rfl)) hR.1 (by rw [qwd_enc]; omega) hR.2.2.1 hR.2.2.2 hd (Hnx _ _ _ _ _ _ ⟨hL, q_cons (v := qI (if x1 < x0 then x0 else x1)) trivial (q_tl (q_tl hst)), hW⟩ h)
      · exact q_no h
    · exact q_no h
  case fsub =>
    obtain ⟨⟨o1, cp, v, idx⟩, he, hm2⟩ := q_flat hm
    have h0 := (qxt_ok _ he).2
    obtain ⟨⟨e1, hv0⟩, h2⟩ := q_one hm2
    dsimp only at h0 hv0 e1
    subst hv0
    subst e1
    cases h2
    rcases st with _ | ⟨v0, t0⟩
    · exact q_no h
    rcases v0 with x0 | x0
    · rcases t0 with _ | ⟨v1, t1⟩
      · exact q_no h
      rcases v1 with x1 | x1
      · obtain ⟨hwd, h⟩ := q_ite h
        exact va_mmin hx hb (hml.trans hL.1.symm) hown (hts _ (gtb_at h0 rfl)) (hts _ (gtb_of qx_min_st rfl)) (hts _ (gtb_of qx_ini rfl)) (hts _ (gtb_of qx_min_cd rfl)) hR.1 (by rw [qwd_enc]; omega) hR.2.2.1 hR.2.2.2 hd (Hnx _ _ _ _ _ _ ⟨hL, q_cons (v := qI (if x0 < x1 then x0 else x1)) trivial (q_tl (q_tl hst)), hW⟩ h)
      · exact q_no h
    · exact q_no h
  case fneg =>
    obtain ⟨⟨o1, cp, v, idx⟩, he, hm2⟩ := q_flat hm
    have h0 := (qxt_ok _ he).2
    obtain ⟨⟨e1, hv0⟩, h2⟩ := q_one hm2
    dsimp only at h0 hv0 e1
    subst hv0
    subst e1
    cases h2
    rcases st with _ | ⟨v0, t0⟩
    · exact q_no h
    rcases v0 with x0 | x0
    · obtain ⟨hwd, h⟩ := q_ite h
      exact va_mabs hx hb (hml.trans hL.1.symm) hown (hts _ (gtb_at h0 rfl)) (hts _ (gtb_of qx_abs_st rfl)) (hts _ (gtb_of qx_ini rfl)) (hts _ (gtb_of qx_abs_cd rfl)) hR.1 (by rw [qwd_enc]; omega) hR.2.2.1 hR.2.2.2 hd (Hnx _ _ _ _ _ _ ⟨hL, q_cons (v := qI (if 0 ≤ x0 then x0 else 0 - x0)) trivial (q_tl hst), hW⟩ h)
    · exact q_no h
  case ifCond c off =>
    cases List.mem_singleton.mp hm
    rcases st with _ | ⟨v0, t0⟩
    · exact q_no h
    rcases v0 with x0 | x0
    · obtain ⟨t, ht⟩ := jt off (List.mem_singleton.mpr rfl)
      cases c <;> simp only [qop, qcond] at h
      · refine lv_if_eq hx hb hd ht (fun hc => ?_) (fun hc => ?_)
        · rw [if_pos hc] at h
          exact Hjp off t _ (List.mem_singleton.mpr rfl) ht ⟨hL, (q_tl hst), hW⟩ h
        · rw [if_neg hc] at h
          exact Hnx _ _ _ _ _ _ ⟨hL, (q_tl hst), hW⟩ h
      · refine lv_if_ne hx hb hd ht (fun hc => ?_) (fun hc => ?_)
        · rw [if_neg hc] at h
          exact Hjp off t _ (List.mem_singleton.mpr rfl) ht ⟨hL, (q_tl hst), hW⟩ h
        · rw [if_pos hc] at h
          exact Hnx _ _ _ _ _ _ ⟨hL, (q_tl hst), hW⟩ h
      · refine lv_if_lt hx hb hd ht (fun hc => ?_) (fun hc => ?_)
        · rw [if_pos hc] at h
          exact Hjp off t _ (List.mem_singleton.mpr rfl) ht ⟨hL, (q_tl hst), hW⟩ h
        · rw [if_neg hc] at h
          exact Hnx _ _ _ _ _ _ ⟨hL, (q_tl hst), hW⟩ h
      · refine lv_if_ge hx hb hd ht (fun hc => ?_) (fun hc => ?_)
        · rw [if_pos hc] at h
          exact Hjp off t _ (List.mem_singleton.mpr rfl) ht ⟨hL, (q_tl hst), hW⟩ h
        · rw [if_neg hc] at h
          exact Hnx _ _ _ _ _ _ ⟨hL, (q_tl hst), hW⟩ h
      · refine lv_if_gt hx hb hd ht (fun hc => ?_) (fun hc => ?_)
        · rw [if_pos hc] at h
          exact Hjp off t _ (List.mem_singleton.mpr rfl) ht ⟨hL, (q_tl hst), hW⟩ h
        · rw [if_neg hc] at h
          exact Hnx _ _ _ _ _ _ ⟨hL, (q_tl hst), hW⟩ h
      · refine lv_if_le hx hb hd ht (fun hc => ?_) (fun hc => ?_)
        · rw [if_pos hc] at h
          exact Hjp off t _ (List.mem_singleton.mpr rfl) ht ⟨hL, (q_tl hst), hW⟩ h
        · rw [if_neg hc] at h
          exact Hnx _ _ _ _ _ _ ⟨hL, (q_tl hst), hW⟩ h
    · exact q_no h
  case if_icmp c off =>
    cases List.mem_singleton.mp hm
    rcases st with _ | ⟨v0, t0⟩
    · exact q_no h
    rcases v0 with x0 | x0
    · rcases t0 with _ | ⟨v1, t1⟩
      · exact q_no h
      rcases v1 with x1 | x1
      · obtain ⟨t, ht⟩ := jt off (List.mem_singleton.mpr rfl)
        cases c <;> simp only [qop, qcond] at h
        · refine lv_icmp_eq hx hb hd ht (fun hc => ?_) (fun hc => ?_)
          · rw [if_pos hc] at h
            exact Hjp off t _ (List.mem_singleton.mpr rfl) ht ⟨hL, (q_tl (q_tl hst)), hW⟩ h
          · rw [if_neg hc] at h
            exact Hnx _ _ _ _ _ _ ⟨hL, (q_tl (q_tl hst)), hW⟩ h
        · refine lv_icmp_ne hx hb hd ht (fun hc => ?_) (fun hc => ?_)
          · rw [if_neg hc] at h
            exact Hjp off t _ (List.mem_singleton.mpr rfl) ht ⟨hL, (q_tl (q_tl hst)), hW⟩ h
          · rw [if_pos hc] at h
            exact Hnx _ _ _ _ _ _ ⟨hL, (q_tl (q_tl hst)), hW⟩ h
        · refine lv_icmp_lt hx hb hd ht (fun hc => ?_) (fun hc => ?_)
          · rw [if_pos hc] at h
            exact Hjp off t _ (List.mem_singleton.mpr rfl) ht ⟨hL, (q_tl (q_tl hst)), hW⟩ h
          · rw [if_neg hc] at h
            exact Hnx _ _ _ _ _ _ ⟨hL, (q_tl (q_tl hst)), hW⟩ h
        · refine lv_icmp_ge hx hb hd ht (fun hc => ?_) (fun hc => ?_)
          · rw [if_pos hc] at h
            exact Hjp off t _ (List.mem_singleton.mpr rfl) ht ⟨hL, (q_tl (q_tl hst)), hW⟩ h
          · rw [if_neg hc] at h
            exact Hnx _ _ _ _ _ _ ⟨hL, (q_tl (q_tl hst)), hW⟩ h
        · refine lv_icmp_gt hx hb hd ht (fun hc => ?_) (fun hc => ?_)
          · rw [if_pos hc] at h
            exact Hjp off t _ (List.mem_singleton.mpr rfl) ht ⟨hL, (q_tl (q_tl hst)), hW⟩ h
          · rw [if_neg hc] at h
            exact Hnx _ _ _ _ _ _ ⟨hL, (q_tl (q_tl hst)), hW⟩ h
        · refine lv_icmp_le hx hb hd ht (fun hc => ?_) (fun hc => ?_)
          · rw [if_pos hc] at h
            exact Hjp off t _ (List.mem_singleton.mpr rfl) ht ⟨hL, (q_tl (q_tl hst)), hW⟩ h
          · rw [if_neg hc] at h
            exact Hnx _ _ _ _ _ _ ⟨hL, (q_tl (q_tl hst)), hW⟩ h
      · exact q_no h
    · exact q_no h
  case if_acmp c off =>
    obtain ⟨h8, hm1⟩ := q_one hm
    cases hm1
    have hsc : ¬ sc = true := fun z => h8 (hs8 z)
    obtain ⟨t, ht⟩ := jt off (List.mem_singleton.mpr rfl)
    rcases st with _ | ⟨v0, t0⟩
    · exact q_no h
    rcases v0 with x0 | x0 | x0
    · exact q_no h
    · exact q_no h
    · rcases t0 with _ | ⟨v1, t1⟩
      · exact q_no h
      rcases v1 with x1 | x1 | x1
      · exact q_no h
      · exact q_no h
      · have hinj : x1.map ad = x0.map ad → x1 = x0 := by
          intro he
          have ok1 := hst _ (List.mem_cons_of_mem _ List.mem_cons_self)
          have ok0 := hst _ List.mem_cons_self
          rcases x1 with _ | x1 <;> rcases x0 with _ | x0
          · rfl
          · cases he
          · cases he
          · rcases ok1 with ok1 | ⟨z, -⟩
            · rcases ok0 with ok0 | ⟨z, -⟩
              · exact congrArg some (hW.inj ok1 ok0 (Option.some.inj he))
              · exact absurd z hsc
            · exact absurd z hsc
        cases c <;> simp only [qop] at h
        · refine lv_acmp_eq hx hb hd ht (fun hc => ?_) (fun hc => ?_)
          · rw [if_pos (hinj hc)] at h
            exact Hjp off t _ (List.mem_singleton.mpr rfl) ht ⟨hL, (q_tl (q_tl hst)), hW⟩ h
          · rw [if_neg (fun e => hc (by rw [e]))] at h
            exact Hnx _ _ _ _ _ _ ⟨hL, (q_tl (q_tl hst)), hW⟩ h
        · refine lv_acmp_ne hx hb hd ht (fun hc => ?_) (fun hc => ?_)
          · rw [if_neg (fun e => hc (by rw [e]))] at h
            exact Hjp off t _ (List.mem_singleton.mpr rfl) ht ⟨hL, (q_tl (q_tl hst)), hW⟩ h
          · rw [if_pos (hinj hc)] at h
            exact Hnx _ _ _ _ _ _ ⟨hL, (q_tl (q_tl hst)), hW⟩ h
  case ifnull off =>
    cases List.mem_singleton.mp hm
    obtain ⟨t, ht⟩ := jt off (List.mem_singleton.mpr rfl)
    rcases st with _ | ⟨x | x | _ | x, st⟩
    · exact q_no h
    · exact q_no h
    · exact q_no h
    · exact lv_ifnullN hx hb hd ht (Hjp off t _ (List.mem_singleton.mpr rfl) ht ⟨hL, q_tl hst, hW⟩ h)
    · exact lv_ifnull hx hb hd (Hnx _ _ _ _ _ _ ⟨hL, q_tl hst, hW⟩ h)
  case ifnonnull off =>
    cases List.mem_singleton.mp hm
    obtain ⟨t, ht⟩ := jt off (List.mem_singleton.mpr rfl)
    rcases st with _ | ⟨x | x | _ | x, st⟩
    · exact q_no h
    · exact q_no h
    · exact q_no h
    · exact lv_ifnonnullN hx hb hd (Hnx _ _ _ _ _ _ ⟨hL, q_tl hst, hW⟩ h)
    · exact lv_ifnonnull hx hb hd ht (Hjp off t _ (List.mem_singleton.mpr rfl) ht ⟨hL, q_tl hst, hW⟩ h)
  case goto off =>
    cases List.mem_singleton.mp hm
    obtain ⟨t, ht⟩ := jt off (List.mem_singleton.mpr rfl)
    exact lv_goto hx hb hd ht (Hjp off t _ (List.mem_singleton.mpr rfl) ht ⟨hL, hst, hW⟩ h)
  case tableswitch d lo hi offs =>
    obtain ⟨⟨hn, hlo, hhi⟩, h2⟩ := q_one hm
    cases h2
    rcases st with _ | ⟨v0, t0⟩
    · exact q_no h
    rcases v0 with x0 | x0
    · rcases qsw_tab offs.toList lo hlo (by omega) h with ⟨h3, h4⟩ | ⟨i, off, h3, h4, h5⟩
      · obtain ⟨t, ht⟩ := jt d List.mem_cons_self
        exact lv_tableOut hx hb hd (by omega) ht (Hjp d t _ List.mem_cons_self ht ⟨hL, q_tl hst, hW⟩ h4)
      · have hmem : off ∈ qoffs (.tableswitch d lo hi offs) := List.mem_cons_of_mem _ (List.mem_of_getElem? h3)
        obtain ⟨t, ht⟩ := jt off hmem
        have hi2 : i < offs.toList.length := (List.getElem?_eq_some_iff.mp h3).1
        refine lv_tableIn hx hb hd (by omega) (by omega) (off := off) ?_ ht (Hjp off t _ hmem ht ⟨hL, q_tl hst, hW⟩ h5)
        rw [show (x0.toInt - lo).toNat = i by omega, ← Array.getElem?_toList]
        exact h3
    · exact q_no h
  case lookupswitch d ps =>
    obtain ⟨⟨hp, hr⟩, h2⟩ := q_one hm
    cases h2
    rcases st with _ | ⟨v0, t0⟩
    · exact q_no h
    rcases v0 with x0 | x0
    · obtain ⟨off, h3, h4, h5⟩ := qsw_lk ps.toList hr h
      obtain ⟨t, ht⟩ := jt off h4
      exact lv_lookup hx hb hd hp h3 ht (Hjp off t _ h4 ht ⟨hL, q_tl hst, hW⟩ h5)
    · exact q_no h
  case getfield r =>
    obtain ⟨⟨o1, cp, r1, nest, idx⟩, he, hm2⟩ := q_flat hm
    obtain ⟨h0, hci, hk⟩ := qft_ok _ he
    obtain ⟨⟨e1, e2, h8⟩, h2⟩ := q_one hm2
    dsimp only at h0 hci hk e1 e2
    subst e1
    subst e2
    cases h2
    have hsc : ¬ sc = true := fun z => h8 (hs8 z)
    rcases st with _ | ⟨v0, t0⟩
    · exact q_no h
    rcases v0 with x0 | x0 | _ | x0
    · exact q_no h
    · exact q_no h
    · exact q_no h
    · obtain ⟨hta, h⟩ := q_ite h
      obtain ⟨ci, hci⟩ := Option.isSome_iff_exists.mp hci
      rw [hci] at hk
      change r1 % 64 < qN ci at hk
      have hdom : qdom x0 = true := by
        rcases hst _ List.mem_cons_self with z | ⟨z, -⟩
        · exact z
        · exact absurd z hsc
      have hlt : r1 / 64 < 50 := by rw [← hta]; exact qdom_lt hdom
      obtain ⟨hci8, hdec, hkind⟩ := qfK_of hlt hci hk
      have hk38 : r1 % 64 < 38 := Nat.lt_of_lt_of_le hk (qN_le ci hci8)
      obtain ⟨i, hi⟩ := qw_at hdom
      have hcell : ∀ μ : QM, qcell ad cA μ x0 = .inr (ci, (List.range (qN ci)).map (qfv ad μ x0)) := fun μ => by unfold qcell; rw [hta, hci]
      have hget := qw_get (ad := ad) (cA := cA) (μ := μ) hi
      rw [hcell] at hget
      have hin : ∀ w ∈ u_ws (qownS ci) (qT ci) (qN ci), w ∈ gtb := fun w hw => gtb_of (qin ci hci8 w hw).1 (qin ci hci8 w hw).2
      have hv : ((List.range (qN ci)).map (qfv ad μ x0))[r1 % 64]? = some (qfv ad μ x0 (r1 % 64)) := by rw [List.getElem?_map, List.getElem?_range hk]; rfl
      have key : W p l e R s m args below meth c H locs cells slots Q (F0 m (pc + 3) ls (qfv ad μ x0 (r1 % 64) :: t0.map (qenc ad))) := by
        rcases hkind with ⟨h3, -, -⟩ | ⟨h3, -, -⟩ | ⟨h3, -⟩
        · simp only [h3] at h
          rw [show qfv ad μ x0 (r1 % 64) = .int (μ.1 x0 (r1 % 64)) by unfold qfv; rw [hta, h3]; rfl]
          exact Hnx _ _ _ _ _ _ ⟨hL, q_cons (v := qI (μ.1 x0 (r1 % 64))) trivial (q_tl hst), hW⟩ h
        · simp only [h3] at h
          rw [show qfv ad μ x0 (r1 % 64) = .int (qbz (μ.1 x0 (r1 % 64))) by unfold qfv; rw [hta, h3]; rfl]
          exact Hnx _ _ _ _ _ _ ⟨hL, q_cons (v := qI (qbz (μ.1 x0 (r1 % 64)))) trivial (q_tl hst), hW⟩ h
        · simp only [h3] at h
          rw [show qfv ad μ x0 (r1 % 64) = va_rf ((qfR x0 (r1 % 64)).map ad) by unfold qfv; rw [hta, h3]; rfl]
          refine Hnx _ _ _ _ _ _ ⟨hL, q_cons (v := qO (qfR x0 (r1 % 64))) ?_ (q_tl hst), hW⟩ h
          cases hq : qfR x0 (r1 % 64) with
          | none => trivial
          | some b => exact Or.inl (qfR_dom hdom hk38 hq)
      cases nest
      · exact va_get (D := D) hx hb hts hin hown hK hW.1 i hget (qcl_get hci8) (r1 % 64) hk (hts _ (gtb_at (by rw [h0]; unfold qfw; rw [hci]; rfl) rfl)) (fun x hx2 => by rw [hdec] at hx2; exact hx2) hv hd key
      · exact va_getN (D := D) hx hb hts hin hown hK hW.1 i hget (qcl_get hci8) (r1 % 64) hk (va_Nw.use rfl (hNs _ (List.mem_of_getElem? (by rw [h0]; unfold qfw; rw [hci]; rfl)) rfl)) (fun x hx2 => by rw [hdec] at hx2; exact hx2) hv hd key
  case putfield r =>
    obtain ⟨⟨o1, cp, r1, nest, idx⟩, he, hm2⟩ := q_flat hm
    obtain ⟨h0, hci, hk⟩ := qft_ok _ he
    obtain ⟨⟨e1, e2, h8⟩, h2⟩ := q_one hm2
    dsimp only at h0 hci hk e1 e2
    subst e1
    subst e2
    cases h2
    have hsc : ¬ sc = true := fun z => h8 (hs8 z)
    rcases st with _ | ⟨v0, t0⟩
    · exact q_no h
    rcases v0 with x0 | x0
    · rcases t0 with _ | ⟨v1, t1⟩
      · exact q_no h
      rcases v1 with x1 | x1 | _ | x1
      · exact q_no h
      · exact q_no h
      · exact q_no h
      · obtain ⟨hta, h⟩ := q_ite h
        obtain ⟨ci, hci⟩ := Option.isSome_iff_exists.mp hci
        rw [hci] at hk
        change r1 % 64 < qN ci at hk
        have hdom : qdom x1 = true := by
          rcases hst _ (List.mem_cons_of_mem _ List.mem_cons_self) with z | ⟨z, -⟩
          · exact z
          · exact absurd z hsc
        have hlt : r1 / 64 < 50 := by rw [← hta]; exact qdom_lt hdom
        obtain ⟨hci8, hdec, hkind⟩ := qfK_of hlt hci hk
        have hk38 : r1 % 64 < 38 := Nat.lt_of_lt_of_le hk (qN_le ci hci8)
        obtain ⟨i, hi⟩ := qw_at hdom
        have hcell : ∀ μ : QM, qcell ad cA μ x1 = .inr (ci, (List.range (qN ci)).map (qfv ad μ x1)) := fun μ => by unfold qcell; rw [hta, hci]
        have hget := qw_get (ad := ad) (cA := cA) (μ := μ) hi
        rw [hcell] at hget
        have hin : ∀ w ∈ u_ws (qownS ci) (qT ci) (qN ci), w ∈ gtb := fun w hw => gtb_of (qin ci hci8 w hw).1 (qin ci hci8 w hw).2
        have hfl : r1 % 64 < ((List.range (qN ci)).map (qfv ad μ x1)).length := by rw [List.length_map, List.length_range]; exact hk
        have put : ∀ (ty : FieldType), (qT ci (r1 % 64)).2.2.2 = false → qty ci (r1 % 64) = ty → narrow ty (.int x0) = .int x0 → fits ty (.int x0) = true → qfv ad (qsi μ x1 (r1 % 64) x0) x1 (r1 % 64) = .int x0 → nx L t1 (qsi μ x1 (r1 % 64) x0) = some res → W p l e R s m args below meth c H locs cells slots Q (F0 m pc ls (.int x0 :: .ref (ad x1) :: t1.map (qenc ad))) := by
          intro ty hfin hty hn hft hv h
          have hd2 : parseFieldDescriptor (qT ci (r1 % 64)).2.2.1 = some ty := by rw [qtyok ci hci8 _ hk, hty]
          have hset : (qwld ad cA μ).set i (ad x1, .inr (ci, ((List.range (qN ci)).map (qfv ad μ x1)).set (r1 % 64) (.int x0))) = qwld ad cA (qsi μ x1 (r1 % 64) x0) := by
            refine qw_set hi ?_ (fun b hb => qcell_eq (qsi_ne hb) rfl rfl)
            rw [hcell]
            refine congrArg (fun z => Sum.inr (ci, z)) (List.ext_getElem? fun j => ?_)
            by_cases hj : j = r1 % 64
            · subst hj
              rw [List.getElem?_set_self hfl, List.getElem?_map, List.getElem?_range hk]
              exact congrArg some hv.symm
            · rw [List.getElem?_set_ne (Ne.symm hj), List.getElem?_map, List.getElem?_map]
              cases hq : (List.range (qN ci))[j]? with
              | none => rfl
              | some j2 =>
                have hj2 : j2 = j := by
                  obtain ⟨hlt2, he2⟩ := List.getElem?_eq_some_iff.mp hq
                  rw [← he2, List.getElem_range]
                subst hj2
                simp only [Option.map_some, Option.some.injEq]
                unfold qfv
                rw [show (qsi μ x1 (r1 % 64) x0).1 x1 j2 = μ.1 x1 j2 from if_neg (fun e => hj e.2)]
          cases nest
          · refine va_put (D := D) hx hb hts hin (qty ci) (qtyok ci hci8) (qnm ci hci8) hown hK hW.1 hW.2.1 hW.2.2 i hget (qcl_get hci8) (r1 % 64) hk (hts _ (gtb_at (by rw [h0]; unfold qfw; rw [hci]; rfl) rfl)) (fun x hx2 => by rw [hdec] at hx2; exact hx2) hfin hd2 hn hft hfl hd (fun H1 locs1 hP hD2 hS2 => ?_)
            rw [hset] at hP hD2
            exact Hnx _ _ _ _ _ _ ⟨hL, q_tl (q_tl hst), hP, hD2, hS2⟩ h
          · refine va_putN (D := D) hx hb hts hin (qty ci) (qtyok ci hci8) (qnm ci hci8) hown hK hW.1 hW.2.1 hW.2.2 i hget (qcl_get hci8) (r1 % 64) hk (va_Nw.use rfl (hNs _ (List.mem_of_getElem? (by rw [h0]; unfold qfw; rw [hci]; rfl)) rfl)) (fun x hx2 => by rw [hdec] at hx2; exact hx2) hfin hd2 hn hft hfl hd (fun H1 locs1 hP hD2 hS2 => ?_)
            rw [hset] at hP hD2
            exact Hnx _ _ _ _ _ _ ⟨hL, q_tl (q_tl hst), hP, hD2, hS2⟩ h
        have hnew : (qsi μ x1 (r1 % 64) x0).1 x1 (r1 % 64) = x0 := if_pos ⟨rfl, rfl⟩
        rcases hkind with ⟨h3, hty, hfin⟩ | ⟨h3, hty, hfin⟩ | ⟨h3, -⟩
        · simp only [h3] at h
          exact put .int hfin hty rfl rfl (by unfold qfv; rw [hta, h3, hnew]; rfl) h
        · simp only [h3] at h
          obtain ⟨h01, h⟩ := q_ite h
          refine put .boolean hfin hty ?_ ?_ (by unfold qfv; rw [hta, h3, hnew]; simp only [qbz_eq h01]) h
          · rcases h01 with rfl | rfl <;> rfl
          · rcases h01 with rfl | rfl <;> rfl
        · simp only [h3] at h
          exact q_no h
    · exact q_no h
  case arraylength =>
    obtain ⟨h8, hm1⟩ := q_one hm
    cases hm1
    have hsc : ¬ sc = true := fun z => h8 (hs8 z)
    rcases st with _ | ⟨v0, t0⟩
    · exact q_no h
    rcases v0 with x0 | x0 | _ | x0
    · exact q_no h
    · exact q_no h
    · exact q_no h
    · obtain ⟨hne, h⟩ := q_iteN h
      have hdom : qdom x0 = true := by
        rcases hst _ List.mem_cons_self with z | ⟨z, -⟩
        · exact z
        · exact absurd z hsc
      have hlt := qdom_lt hdom
      have hcell : ∀ μ : QM, qcell ad cA μ x0 = .inl (cA (qtk x0.1), qeL x0.1, qarrf ad μ x0) := fun μ => by unfold qcell; rw [qci_none x0.1 hlt hne]
      obtain ⟨i, hi⟩ := qw_at hdom
      have hget := qw_get (ad := ad) (cA := cA) (μ := μ) hi
      rw [hcell] at hget
      have hN := Hnx _ _ _ _ _ _ ⟨hL, q_cons (v := qI (Int32.ofInt (qeL x0.1 : Nat))) trivial (q_tl hst), hW⟩ h
      rcases qtk_ok x0.1 hlt hne with ⟨-, hk⟩ | ⟨-, hk⟩ | ⟨-, hk⟩ | ⟨-, ⟨hk, -⟩ | ⟨hk, -⟩ | ⟨hk, -⟩⟩ <;> rw [hk] at hget
      · exact va_alen hx hb hK hW.1 i 0 hget rfl rfl hd hN
      · exact va_alen hx hb hK hW.1 i 1 hget rfl rfl hd hN
      · exact va_alen hx hb hK hW.1 i 2 hget rfl rfl hd hN
      · exact va_alen hx hb hK hW.1 i 3 hget rfl rfl hd hN
      · exact va_alen hx hb hK hW.1 i 4 hget rfl rfl hd hN
      · exact va_alen hx hb hK hW.1 i 5 hget rfl rfl hd hN
  case iaload =>
    obtain ⟨h8, hm1⟩ := q_one hm
    cases hm1
    have hsc : ¬ sc = true := fun z => h8 (hs8 z)
    rcases st with _ | ⟨v0, t0⟩
    · exact q_no h
    rcases v0 with x0 | x0
    · rcases t0 with _ | ⟨v1, t1⟩
      · exact q_no h
      rcases v1 with x1 | x1 | _ | x1
      · exact q_no h
      · exact q_no h
      · exact q_no h
      · obtain ⟨hk, h⟩ := q_ite h
        obtain ⟨hoob, h⟩ := q_if h
        have hne : qeK x1.1 ≠ 0 := by rw [hk]; decide
        have hdom : qdom x1 = true := by
          rcases hst _ (List.mem_cons_of_mem _ List.mem_cons_self) with z | ⟨z, -⟩
          · exact z
          · exact absurd z hsc
        have hlt := qdom_lt hdom
        have hcell : ∀ μ : QM, qcell ad cA μ x1 = .inl (cA (qtk x1.1), qeL x1.1, qarrf ad μ x1) := fun μ => by unfold qcell; rw [qci_none x1.1 hlt hne]
        obtain ⟨i, hi⟩ := qw_at hdom
        have hget := qw_get (ad := ad) (cA := cA) (μ := μ) hi
        rw [hcell] at hget
        have hf : ∀ μ : QM, qarrf ad μ x1 = .inl (μ.1 x1) := fun μ => by unfold qarrf; simp [hk]
        rw [hf] at hget
        have htk : qtk x1.1 = 0 := by unfold qtk; simp [hk]
        rw [htk] at hget
        exact va_iald hx hb hK hW.1 i 0 hget rfl (qoob_in hoob) hd (Hnx _ _ _ _ _ _ ⟨hL, q_cons (v := qI (μ.1 x1 (qix x0))) trivial (q_tl (q_tl hst)), hW⟩ h)
    · exact q_no h
  case baload =>
    obtain ⟨h8, hm1⟩ := q_one hm
    cases hm1
    have hsc : ¬ sc = true := fun z => h8 (hs8 z)
    rcases st with _ | ⟨v0, t0⟩
    · exact q_no h
    rcases v0 with x0 | x0
    · rcases t0 with _ | ⟨v1, t1⟩
      · exact q_no h
      rcases v1 with x1 | x1 | _ | x1
      · exact q_no h
      · exact q_no h
      · exact q_no h
      · obtain ⟨hk, h⟩ := q_ite h
        obtain ⟨hoob, h⟩ := q_if h
        have hne : qeK x1.1 ≠ 0 := by rw [hk]; decide
        have hdom : qdom x1 = true := by
          rcases hst _ (List.mem_cons_of_mem _ List.mem_cons_self) with z | ⟨z, -⟩
          · exact z
          · exact absurd z hsc
        have hlt := qdom_lt hdom
        have hcell : ∀ μ : QM, qcell ad cA μ x1 = .inl (cA (qtk x1.1), qeL x1.1, qarrf ad μ x1) := fun μ => by unfold qcell; rw [qci_none x1.1 hlt hne]
        obtain ⟨i, hi⟩ := qw_at hdom
        have hget := qw_get (ad := ad) (cA := cA) (μ := μ) hi
        rw [hcell] at hget
        have hf : ∀ μ : QM, qarrf ad μ x1 = .inl (μ.1 x1) := fun μ => by unfold qarrf; simp [hk]
        rw [hf] at hget
        have htk : qtk x1.1 = 2 := by unfold qtk; simp [hk]
        rw [htk] at hget
        exact va_zald hx hb hK hW.1 i 2 hget rfl (qoob_in hoob) hd (Hnx _ _ _ _ _ _ ⟨hL, q_cons (v := qI (μ.1 x1 (qix x0))) trivial (q_tl (q_tl hst)), hW⟩ h)
    · exact q_no h
  case laload =>
    obtain ⟨h8, hm1⟩ := q_one hm
    cases hm1
    have hsc : ¬ sc = true := fun z => h8 (hs8 z)
    rcases st with _ | ⟨v0, t0⟩
    · exact q_no h
    rcases v0 with x0 | x0
    · rcases t0 with _ | ⟨v1, t1⟩
      · exact q_no h
      rcases v1 with x1 | x1 | _ | x1
      · exact q_no h
      · exact q_no h
      · exact q_no h
      · obtain ⟨hk, h⟩ := q_ite h
        obtain ⟨hoob, h⟩ := q_if h
        have hne : qeK x1.1 ≠ 0 := by rw [hk]; decide
        have hdom : qdom x1 = true := by
          rcases hst _ (List.mem_cons_of_mem _ List.mem_cons_self) with z | ⟨z, -⟩
          · exact z
          · exact absurd z hsc
        have hlt := qdom_lt hdom
        have hcell : ∀ μ : QM, qcell ad cA μ x1 = .inl (cA (qtk x1.1), qeL x1.1, qarrf ad μ x1) := fun μ => by unfold qcell; rw [qci_none x1.1 hlt hne]
        obtain ⟨i, hi⟩ := qw_at hdom
        have hget := qw_get (ad := ad) (cA := cA) (μ := μ) hi
        rw [hcell] at hget
        have hf : ∀ μ : QM, qarrf ad μ x1 = .inr (.inl (μ.2.1 x1)) := fun μ => by unfold qarrf; simp [hk]
        rw [hf] at hget
        have htk : qtk x1.1 = 1 := by unfold qtk; simp [hk]
        rw [htk] at hget
        exact va_lald hx hb hK hW.1 i 1 hget rfl (qoob_in hoob) hd (Hnx _ _ _ _ _ _ ⟨hL, q_cons (v := qL (μ.2.1 x1 (qix x0))) trivial (q_tl (q_tl hst)), hW⟩ h)
    · exact q_no h
  case iastore =>
    obtain ⟨h8, hm1⟩ := q_one hm
    cases hm1
    have hsc : ¬ sc = true := fun z => h8 (hs8 z)
    rcases st with _ | ⟨v0, t0⟩
    · exact q_no h
    rcases v0 with x0 | x0
    · rcases t0 with _ | ⟨v1, t1⟩
      · exact q_no h
      rcases v1 with x1 | x1
      · rcases t1 with _ | ⟨v2, t2⟩
        · exact q_no h
        rcases v2 with x2 | x2 | _ | x2
        · exact q_no h
        · exact q_no h
        · exact q_no h
        · obtain ⟨hk, h⟩ := q_ite h
          obtain ⟨hoob, h⟩ := q_if h
          have hne : qeK x2.1 ≠ 0 := by rw [hk]; decide
          have hdom : qdom x2 = true := by
            rcases hst _ (List.mem_cons_of_mem _ (List.mem_cons_of_mem _ List.mem_cons_self)) with z | ⟨z, -⟩
            · exact z
            · exact absurd z hsc
          have hlt := qdom_lt hdom
          have hcell : ∀ μ : QM, qcell ad cA μ x2 = .inl (cA (qtk x2.1), qeL x2.1, qarrf ad μ x2) := fun μ => by unfold qcell; rw [qci_none x2.1 hlt hne]
          obtain ⟨i, hi⟩ := qw_at hdom
          have hget := qw_get (ad := ad) (cA := cA) (μ := μ) hi
          rw [hcell] at hget
          have hf : ∀ μ : QM, qarrf ad μ x2 = .inl (μ.1 x2) := fun μ => by unfold qarrf; simp [hk]
          rw [hf] at hget
          have htk : qtk x2.1 = 0 := by unfold qtk; simp [hk]
          rw [htk] at hget
          refine va_iast hx hb hK hW.1 hW.2.1 hW.2.2 i 0 hget rfl (qoob_in hoob) hd (fun H1 locs1 hP hD2 hS2 => ?_)
          have hset : (qwld ad cA μ).set i (ad x2, .inl (cA 0, qeL x2.1, .inl (upd (μ.1 x2) (qix x1) x0))) = qwld ad cA (qsi μ x2 (qix x1) x0) := by
            refine qw_set hi ?_ (fun b hb => qcell_eq (qsi_ne hb) rfl rfl)
            rw [hcell, htk, hf]
            rw [qsi_up]
          rw [hset] at hP hD2
          exact Hnx _ _ _ _ _ _ ⟨hL, q_tl (q_tl (q_tl hst)), hP, hD2, hS2⟩ h
      · exact q_no h
    · exact q_no h
  case bastore =>
    obtain ⟨h8, hm1⟩ := q_one hm
    cases hm1
    have hsc : ¬ sc = true := fun z => h8 (hs8 z)
    rcases st with _ | ⟨v0, t0⟩
    · exact q_no h
    rcases v0 with x0 | x0
    · rcases t0 with _ | ⟨v1, t1⟩
      · exact q_no h
      rcases v1 with x1 | x1
      · rcases t1 with _ | ⟨v2, t2⟩
        · exact q_no h
        rcases v2 with x2 | x2 | _ | x2
        · exact q_no h
        · exact q_no h
        · exact q_no h
        · obtain ⟨⟨hk, h01⟩, h⟩ := q_ite h
          obtain ⟨hoob, h⟩ := q_if h
          have hne : qeK x2.1 ≠ 0 := by rw [hk]; decide
          have hdom : qdom x2 = true := by
            rcases hst _ (List.mem_cons_of_mem _ (List.mem_cons_of_mem _ List.mem_cons_self)) with z | ⟨z, -⟩
            · exact z
            · exact absurd z hsc
          have hlt := qdom_lt hdom
          have hcell : ∀ μ : QM, qcell ad cA μ x2 = .inl (cA (qtk x2.1), qeL x2.1, qarrf ad μ x2) := fun μ => by unfold qcell; rw [qci_none x2.1 hlt hne]
          obtain ⟨i, hi⟩ := qw_at hdom
          have hget := qw_get (ad := ad) (cA := cA) (μ := μ) hi
          rw [hcell] at hget
          have hf : ∀ μ : QM, qarrf ad μ x2 = .inl (μ.1 x2) := fun μ => by unfold qarrf; simp [hk]
          rw [hf] at hget
          have htk : qtk x2.1 = 2 := by unfold qtk; simp [hk]
          rw [htk] at hget
          refine va_zast hx hb hK hW.1 hW.2.1 hW.2.2 i 2 hget rfl (qoob_in hoob) hd (fun H1 locs1 hP hD2 hS2 => ?_)
          have hset : (qwld ad cA μ).set i (ad x2, .inl (cA 2, qeL x2.1, .inl (upd (μ.1 x2) (qix x1) (vp_nar .boolean x0)))) = qwld ad cA (qsi μ x2 (qix x1) x0) := by
            refine qw_set hi ?_ (fun b hb => qcell_eq (qsi_ne hb) rfl rfl)
            rw [hcell, htk, hf]
            rw [qsi_up]
            rcases h01 with rfl | rfl <;> rfl
          rw [hset] at hP hD2
          exact Hnx _ _ _ _ _ _ ⟨hL, q_tl (q_tl (q_tl hst)), hP, hD2, hS2⟩ h
      · exact q_no h
    · exact q_no h
  case lastore =>
    obtain ⟨h8, hm1⟩ := q_one hm
    cases hm1
    have hsc : ¬ sc = true := fun z => h8 (hs8 z)
    rcases st with _ | ⟨v0, t0⟩
    · exact q_no h
    rcases v0 with x0 | x0 | x0
    · exact q_no h
    · rcases t0 with _ | ⟨v1, t1⟩
      · exact q_no h
      rcases v1 with x1 | x1
      · rcases t1 with _ | ⟨v2, t2⟩
        · exact q_no h
        rcases v2 with x2 | x2 | _ | x2
        · exact q_no h
        · exact q_no h
        · exact q_no h
        · obtain ⟨hk, h⟩ := q_ite h
          obtain ⟨hoob, h⟩ := q_if h
          have hne : qeK x2.1 ≠ 0 := by rw [hk]; decide
          have hdom : qdom x2 = true := by
            rcases hst _ (List.mem_cons_of_mem _ (List.mem_cons_of_mem _ List.mem_cons_self)) with z | ⟨z, -⟩
            · exact z
            · exact absurd z hsc
          have hlt := qdom_lt hdom
          have hcell : ∀ μ : QM, qcell ad cA μ x2 = .inl (cA (qtk x2.1), qeL x2.1, qarrf ad μ x2) := fun μ => by unfold qcell; rw [qci_none x2.1 hlt hne]
          obtain ⟨i, hi⟩ := qw_at hdom
          have hget := qw_get (ad := ad) (cA := cA) (μ := μ) hi
          rw [hcell] at hget
          have hf : ∀ μ : QM, qarrf ad μ x2 = .inr (.inl (μ.2.1 x2)) := fun μ => by unfold qarrf; simp [hk]
          rw [hf] at hget
          have htk : qtk x2.1 = 1 := by unfold qtk; simp [hk]
          rw [htk] at hget
          refine va_last hx hb hK hW.1 hW.2.1 hW.2.2 i 1 hget rfl (qoob_in hoob) hd (fun H1 locs1 hP hD2 hS2 => ?_)
          have hset : (qwld ad cA μ).set i (ad x2, .inl (cA 1, qeL x2.1, .inr (.inl (vp_updL (μ.2.1 x2) (qix x1) x0)))) = qwld ad cA (qsl μ x2 (qix x1) x0) := by
            refine qw_set hi ?_ (fun b hb => qcell_eq rfl (qsl_ne hb) rfl)
            rw [hcell, htk, hf]
            rw [qsl_up]
          rw [hset] at hP hD2
          exact Hnx _ _ _ _ _ _ ⟨hL, q_tl (q_tl (q_tl hst)), hP, hD2, hS2⟩ h
      · exact q_no h
    · exact q_no h
  case aaload =>
    obtain ⟨h8, hm1⟩ := q_one hm
    cases hm1
    have hsc : ¬ sc = true := fun z => h8 (hs8 z)
    rcases st with _ | ⟨v0, t0⟩
    · exact q_no h
    rcases v0 with x0 | x0
    · rcases t0 with _ | ⟨v1, t1⟩
      · exact q_no h
      rcases v1 with x1 | x1 | _ | x1
      · exact q_no h
      · exact q_no h
      · exact q_no h
      · obtain ⟨hoob, h⟩ := q_if h
        by_cases hk : qeK x1.1 = 4
        · rw [if_pos hk] at h
          have hne : qeK x1.1 ≠ 0 := by rw [hk]; decide
          have hdom : qdom x1 = true := by
            rcases hst _ (List.mem_cons_of_mem _ List.mem_cons_self) with z | ⟨z, -⟩
            · exact z
            · exact absurd z hsc
          have hlt := qdom_lt hdom
          have hcell : ∀ μ : QM, qcell ad cA μ x1 = .inl (cA (qtk x1.1), qeL x1.1, qarrf ad μ x1) := fun μ => by unfold qcell; rw [qci_none x1.1 hlt hne]
          obtain ⟨i, hi⟩ := qw_at hdom
          have hget := qw_get (ad := ad) (cA := cA) (μ := μ) hi
          rw [hcell] at hget
          have hf : ∀ μ : QM, qarrf ad μ x1 = .inr (.inr (.inr (.inr (fun i => some (ad (qeT x1.1, x1.2.1, i)))))) := fun μ => by unfold qarrf; simp [hk]
          rw [hf] at hget
          have hin := qoob_in hoob
          have hlt2 : qix x0 < qeL x1.1 := Nat.lt_of_not_le fun z => hin (Or.inr z)
          have hok : qokv sc (qR (qeT x1.1, x1.2.1, qix x0)) := by
            refine Or.inl ?_
            obtain ⟨e1, e2⟩ := qel_ok x1.1 hlt hk
            simp only [qdom, Bool.and_eq_true, decide_eq_true_eq] at hdom ⊢
            exact ⟨by rw [e1]; exact hdom.1, by rw [e2]; exact hlt2⟩
          have hN := Hnx _ _ _ _ _ _ ⟨hL, q_cons hok (q_tl (q_tl hst)), hW⟩ h
          rcases qtk_ok x1.1 hlt hne with ⟨z, -⟩ | ⟨z, -⟩ | ⟨z, -⟩ | ⟨-, ⟨hq, -⟩ | ⟨hq, -⟩ | ⟨hq, -⟩⟩
          · rw [hk] at z; cases z
          · rw [hk] at z; cases z
          · rw [hk] at z; cases z
          · rw [hq] at hget
            exact va_aldq hx hb hK hW.1 i 3 hget rfl hin hd hN
          · rw [hq] at hget
            exact va_aldq hx hb hK hW.1 i 4 hget rfl hin hd hN
          · rw [hq] at hget
            exact va_aldq hx hb hK hW.1 i 5 hget rfl hin hd hN
        · rw [if_neg hk] at h
          obtain ⟨hk, h⟩ := q_ite h
          have hne : qeK x1.1 ≠ 0 := by rw [hk]; decide
          have hdom : qdom x1 = true := by
            rcases hst _ (List.mem_cons_of_mem _ List.mem_cons_self) with z | ⟨z, -⟩
            · exact z
            · exact absurd z hsc
          have hlt := qdom_lt hdom
          have hcell : ∀ μ : QM, qcell ad cA μ x1 = .inl (cA (qtk x1.1), qeL x1.1, qarrf ad μ x1) := fun μ => by unfold qcell; rw [qci_none x1.1 hlt hne]
          obtain ⟨i, hi⟩ := qw_at hdom
          have hget := qw_get (ad := ad) (cA := cA) (μ := μ) hi
          rw [hcell] at hget
          have hf : ∀ μ : QM, qarrf ad μ x1 = .inr (.inr (.inr (.inr (fun i => (μ.2.2 x1 i).map ad)))) := fun μ => by unfold qarrf; simp [hk]
          rw [hf] at hget
          have hin := qoob_in hoob
          have hN : W p l e R s m args below meth c H locs cells slots Q (F0 m (pc + 1) ls (va_rf ((μ.2.2 x1 (qix x0)).map ad) :: t1.map (qenc ad))) := by
            cases hq : μ.2.2 x1 (qix x0) with
            | none =>
              rw [hq] at h
              exact Hnx _ _ _ _ _ _ ⟨hL, q_cons (v := qO none) trivial (q_tl (q_tl hst)), hW⟩ h
            | some b =>
              rw [hq] at h
              obtain ⟨⟨hb1, hb2⟩, h⟩ := q_ite h
              obtain ⟨b1, b2, b3⟩ := b
              dsimp only at hb1 h
              rw [← hb1] at h
              exact Hnx _ _ _ _ _ _ ⟨hL, q_cons (v := qR (b1, b2, b3)) (Or.inl hb2) (q_tl (q_tl hst)), hW⟩ h
          rcases qtk_ok x1.1 hlt hne with ⟨z, -⟩ | ⟨z, -⟩ | ⟨z, -⟩ | ⟨-, ⟨hq, -⟩ | ⟨hq, -⟩ | ⟨hq, -⟩⟩
          · rw [hk] at z; cases z
          · rw [hk] at z; cases z
          · rw [hk] at z; cases z
          · rw [hq] at hget
            exact va_aldq hx hb hK hW.1 i 3 hget rfl hin hd hN
          · rw [hq] at hget
            exact va_aldq hx hb hK hW.1 i 4 hget rfl hin hd hN
          · rw [hq] at hget
            exact va_aldq hx hb hK hW.1 i 5 hget rfl hin hd hN
    · exact q_no h
  case aastore =>
    obtain ⟨h8, hm1⟩ := q_one hm
    cases hm1
    have hsc : ¬ sc = true := fun z => h8 (hs8 z)
    rcases st with _ | ⟨x | x | _ | x0, t0⟩
    · exact q_no h
    · exact q_no h
    · exact q_no h
    · rcases t0 with _ | ⟨v1, t1⟩
      · exact q_no h
      rcases v1 with x1 | x1
      · rcases t1 with _ | ⟨v2, t2⟩
        · exact q_no h
        rcases v2 with x2 | x2 | _ | x2
        · exact q_no h
        · exact q_no h
        · exact q_no h
        obtain ⟨hk, h⟩ := q_ite h
        obtain ⟨hoob, h⟩ := q_if h
        have hne : qeK x2.1 ≠ 0 := by rw [hk]; decide
        have hdom : qdom x2 = true := by
          rcases hst _ (List.mem_cons_of_mem _ (List.mem_cons_of_mem _ List.mem_cons_self)) with z | ⟨z, -⟩
          · exact z
          · exact absurd z hsc
        have hlt := qdom_lt hdom
        have hcell : ∀ μ : QM, qcell ad cA μ x2 = .inl (cA (qtk x2.1), qeL x2.1, qarrf ad μ x2) := fun μ => by unfold qcell; rw [qci_none x2.1 hlt hne]
        obtain ⟨i, hi⟩ := qw_at hdom
        have hget := qw_get (ad := ad) (cA := cA) (μ := μ) hi
        rw [hcell] at hget
        have hf : ∀ μ : QM, qarrf ad μ x2 = .inr (.inr (.inr (.inr (fun i => (μ.2.2 x2 i).map ad)))) := fun μ => by unfold qarrf; simp [hk]
        rw [hf] at hget
        have hset : ∀ t0 : Nat, qtk x2.1 = t0 → (qwld ad cA μ).set i (ad x2, .inl (cA t0, qeL x2.1, .inr (.inr (.inr (.inr (va_up (fun i => (μ.2.2 x2 i).map ad) (qix x1) none)))))) = qwld ad cA (qsr μ x2 (qix x1) none) := by
          intro t0 ht0
          refine qw_set hi ?_ (fun b hb => qcell_eq rfl rfl (qsr_ne hb))
          rw [hcell, ht0, hf, qsr_up]
          rfl
        have hN : ∀ (H1 : Heap) (locs1 : List Loc), QW ad cA D A H0 (qsr μ x2 (qix x1) none) H1 locs1 → W p l e R s m args below meth c H1 locs1 cells slots Q (F0 m (pc + 1) ls (t2.map (qenc ad))) := fun H1 locs1 hw => Hnx _ _ _ _ _ _ ⟨hL, q_tl (q_tl (q_tl hst)), hw⟩ h
        rcases qtk_ok x2.1 hlt hne with ⟨z, -⟩ | ⟨z, -⟩ | ⟨z, -⟩ | ⟨-, ⟨hq, -⟩ | ⟨hq, -⟩ | ⟨hq, -⟩⟩
        · rw [hk] at z; cases z
        · rw [hk] at z; cases z
        · rw [hk] at z; cases z
        · have hs := hset 3 hq
          rw [hq] at hget
          exact va_astqN hx hb hK hW.1 hW.2.1 hW.2.2 i 3 hget rfl (qoob_in hoob) hd (fun H1 locs1 hP hD2 hS2 => hN H1 locs1 ⟨hs ▸ hP, hs ▸ hD2, hS2⟩)
        · have hs := hset 4 hq
          rw [hq] at hget
          exact va_astqN hx hb hK hW.1 hW.2.1 hW.2.2 i 4 hget rfl (qoob_in hoob) hd (fun H1 locs1 hP hD2 hS2 => hN H1 locs1 ⟨hs ▸ hP, hs ▸ hD2, hS2⟩)
        · have hs := hset 5 hq
          rw [hq] at hget
          exact va_astqN hx hb hK hW.1 hW.2.1 hW.2.2 i 5 hget rfl (qoob_in hoob) hd (fun H1 locs1 hP hD2 hS2 => hN H1 locs1 ⟨hs ▸ hP, hs ▸ hD2, hS2⟩)
      · exact q_no h
    · rcases t0 with _ | ⟨v1, t1⟩
      · exact q_no h
      rcases v1 with x1 | x1
      · rcases t1 with _ | ⟨v2, t2⟩
        · exact q_no h
        rcases v2 with x2 | x2 | _ | x2
        · exact q_no h
        · exact q_no h
        · exact q_no h
        obtain ⟨⟨hk, hbt⟩, h⟩ := q_ite h
        obtain ⟨hoob, h⟩ := q_if h
        have hne : qeK x2.1 ≠ 0 := by rw [hk]; decide
        have hdom : qdom x2 = true := by
          rcases hst _ (List.mem_cons_of_mem _ (List.mem_cons_of_mem _ List.mem_cons_self)) with z | ⟨z, -⟩
          · exact z
          · exact absurd z hsc
        have hlt := qdom_lt hdom
        have hcell : ∀ μ : QM, qcell ad cA μ x2 = .inl (cA (qtk x2.1), qeL x2.1, qarrf ad μ x2) := fun μ => by unfold qcell; rw [qci_none x2.1 hlt hne]
        obtain ⟨i, hi⟩ := qw_at hdom
        have hget := qw_get (ad := ad) (cA := cA) (μ := μ) hi
        rw [hcell] at hget
        have hf : ∀ μ : QM, qarrf ad μ x2 = .inr (.inr (.inr (.inr (fun i => (μ.2.2 x2 i).map ad)))) := fun μ => by unfold qarrf; simp [hk]
        rw [hf] at hget
        have hset : ∀ t0 : Nat, qtk x2.1 = t0 → (qwld ad cA μ).set i (ad x2, .inl (cA t0, qeL x2.1, .inr (.inr (.inr (.inr (va_up (fun i => (μ.2.2 x2 i).map ad) (qix x1) (some (ad x0)))))))) = qwld ad cA (qsr μ x2 (qix x1) (some x0)) := by
          intro t0 ht0
          refine qw_set hi ?_ (fun b hb => qcell_eq rfl rfl (qsr_ne hb))
          rw [hcell, ht0, hf, qsr_up]
          rfl
        have hdb : qdom x0 = true := by
          rcases hst _ List.mem_cons_self with z | ⟨z, -⟩
          · exact z
          · exact absurd z hsc
        obtain ⟨ib, hib⟩ := qw_at hdb
        have hgb := qw_get (ad := ad) (cA := cA) (μ := μ) hib
        have hN : ∀ (H1 : Heap) (locs1 : List Loc), QW ad cA D A H0 (qsr μ x2 (qix x1) (some x0)) H1 locs1 → W p l e R s m args below meth c H1 locs1 cells slots Q (F0 m (pc + 1) ls (t2.map (qenc ad))) := fun H1 locs1 hw => Hnx _ _ _ _ _ _ ⟨hL, q_tl (q_tl (q_tl hst)), hw⟩ h
        rcases qtk_ok x2.1 hlt hne with ⟨z, -⟩ | ⟨z, -⟩ | ⟨z, -⟩ | ⟨-, ⟨hq, ht⟩ | ⟨hq, ht⟩ | ⟨hq, ht⟩⟩
        · rw [hk] at z; cases z
        · rw [hk] at z; cases z
        · rw [hk] at z; cases z
        · have hs := hset 3 hq
          rw [hq] at hget
          rw [ht] at hbt
          rw [show qcell ad cA μ x0 = .inr (1, (List.range (qN 1)).map (qfv ad μ x0)) by unfold qcell; rw [hbt]; rfl] at hgb
          exact va_astq (r := (qownS 1, qT 1, qN 1)) hx hb hK hW.1 hW.2.1 hW.2.2 i 3 ib 1 hget rfl hgb (qcl_get (by decide)) (qoob_in hoob) hd (fun H1 locs1 hP hD2 hS2 => hN H1 locs1 ⟨hs ▸ hP, hs ▸ hD2, hS2⟩)
        · have hs := hset 4 hq
          rw [hq] at hget
          rw [ht] at hbt
          rw [show qcell ad cA μ x0 = .inr (5, (List.range (qN 5)).map (qfv ad μ x0)) by unfold qcell; rw [hbt]; rfl] at hgb
          exact va_astq (r := (qownS 5, qT 5, qN 5)) hx hb hK hW.1 hW.2.1 hW.2.2 i 4 ib 5 hget rfl hgb (qcl_get (by decide)) (qoob_in hoob) hd (fun H1 locs1 hP hD2 hS2 => hN H1 locs1 ⟨hs ▸ hP, hs ▸ hD2, hS2⟩)
        · have hs := hset 5 hq
          rw [hq] at hget
          rw [ht] at hbt
          rw [show qcell ad cA μ x0 = .inr (2, (List.range (qN 2)).map (qfv ad μ x0)) by unfold qcell; rw [hbt]; rfl] at hgb
          exact va_astq (r := (qownS 2, qT 2, qN 2)) hx hb hK hW.1 hW.2.1 hW.2.2 i 5 ib 2 hget rfl hgb (qcl_get (by decide)) (qoob_in hoob) hd (fun H1 locs1 hP hD2 hS2 => hN H1 locs1 ⟨hs ▸ hP, hs ▸ hD2, hS2⟩)
      · exact q_no h
  case faload =>
    cases List.mem_singleton.mp hm
    rcases st with _ | ⟨v0, t0⟩
    · exact q_no h
    rcases v0 with x0 | x0
    · rcases t0 with _ | ⟨v1, t1⟩
      · exact q_no h
      rcases v1 with x1 | x1 | _ | x1
      · exact q_no h
      · exact q_no h
      · exact q_no h
      · obtain ⟨ha, h⟩ := q_ite h
        subst ha
        have h : qbI (call 9999 [qI x0] μ) (fun x _ => nx L (qI x :: t1) μ) = some res := h
        rcases hq : call 9999 [qI x0] μ with _ | ⟨_ | v | v | v, μ2⟩
        · rw [hq] at h; exact q_no h
        · rw [hq] at h; exact q_no h
        · rw [hq] at h
          rcases hst _ (List.mem_cons_of_mem _ List.mem_cons_self) with z | ⟨z, -⟩
          · exact absurd z (by decide)
          · exact HS1 z x0 v μ2 _ hq hd (Hnx _ _ _ _ _ _ ⟨hL, q_cons (v := qI v) trivial (q_tl (q_tl hst)), hW⟩ h)
        · rw [hq] at h; exact q_no h
        · rw [hq] at h; exact q_no h
    · exact q_no h
  case fload i =>
    cases List.mem_singleton.mp hm
    rcases st with _ | ⟨v0, t0⟩
    · exact q_no h
    rcases v0 with x0 | x0 | _ | x0
    · exact q_no h
    · exact q_no h
    · exact q_no h
    · obtain ⟨ha, h⟩ := q_ite h
      subst ha
      have h : qbI (call 9998 [] μ) (fun x _ => nx L (qI x :: t0) μ) = some res := h
      rcases hq : call 9998 [] μ with _ | ⟨_ | v | v | v, μ2⟩
      · rw [hq] at h; exact q_no h
      · rw [hq] at h; exact q_no h
      · rw [hq] at h
        rcases hst _ List.mem_cons_self with z | ⟨z, -⟩
        · exact absurd z (by decide)
        · exact HS2 z v μ2 _ hq hd (Hnx _ _ _ _ _ _ ⟨hL, q_cons (v := qI v) trivial (q_tl hst), hW⟩ h)
      · rw [hq] at h; exact q_no h
      · rw [hq] at h; exact q_no h
  case invokeinterface y cn =>
    obtain ⟨⟨o1, cp, y1, nest, idx⟩, he, hm2⟩ := q_flat hm
    obtain ⟨⟨e1, e2, hn⟩, h2⟩ := q_one hm2
    dsimp only at e1 e2
    subst e1
    subst e2
    rcases hp : qpop (cn / 8 % 8) st [] with _ | ⟨av, st2⟩
    · simp only [qop, hp] at h
      exact q_no h
    simp only [qop, hp] at h
    obtain ⟨hwd, h⟩ := q_ite h
    obtain ⟨pre, hp1, hp2, hp3⟩ := qpop_spec _ _ _ _ _ hp
    rw [List.append_nil] at hp2
    cases hq : qmis[y1]? with
    | none =>
      have hz : qnargs y1 = 99 := by unfold qnargs; rw [hq]; rfl
      omega
    | some q =>
      have hnq : qnargs y1 = q.2.2.2.2.2.2.2.2.2 := by unfold qnargs; rw [hq]; rfl
      have hsq : qstat y1 = q.2.2.2.2.1 := by unfold qstat; rw [hq]; rfl
      rw [hsq] at h2
      cases h2
      have hav : ∀ v ∈ av, qokv sc v := fun v hv => hst v (by rw [hp1]; rw [hp2] at hv; exact List.mem_append_left _ (List.mem_reverse.mp hv))
      have hrest : ∀ v ∈ st2, qokv sc v := fun v hv => hst v (by rw [hp1]; exact List.mem_append_right _ hv)
      have hlen : av.length = q.2.2.2.2.2.2.2.2.2 := by rw [hp2, List.length_reverse, hp3, hn, hnq]
      have hstk : st.map (qenc ad) = (av.map (qenc ad)).reverse ++ st2.map (qenc ad) := by rw [hp1, hp2, List.map_append, List.map_reverse, List.reverse_reverse]
      rw [hstk]
      have HC2 := HC y1 cp q nest idx hq he hd av st2
      generalize hk : cn % 8 = kd at h
      rcases hcl : call y1 av μ with _ | ⟨r, μ2⟩
      · rw [hcl] at h
        match kd, h with
        | 0, h => exact q_no h
        | 1, h => exact q_no h
        | 2, h => exact q_no h
        | 3, h => exact q_no h
        | 4, h => exact q_no h
        | _ + 5, h => exact q_no h
      rw [hcl] at h
      refine HC2 r μ2 hlen hcl hav hwd (fun H2 locs2 hW2 => ?_)
      match kd, h with
      | 0, h =>
        rcases r with _ | v
        · exact Hnx _ _ _ _ _ _ ⟨hL, hrest, hW2⟩ h
        · exact q_no h
      | 1, h =>
        rcases r with _ | v | v | v
        · exact q_no h
        · exact Hnx _ _ _ _ _ _ ⟨hL, q_cons (v := qI v) trivial hrest, hW2⟩ h
        · exact q_no h
        · exact q_no h
      | 2, h =>
        rcases r with _ | v | v | v
        · exact q_no h
        · exact q_no h
        · exact Hnx _ _ _ _ _ _ ⟨hL, q_cons (v := qL v) trivial hrest, hW2⟩ h
        · exact q_no h
      | 3, h =>
        rcases r with _ | v | v | _ | v
        · exact q_no h
        · exact q_no h
        · exact q_no h
        · exact q_no h
        · obtain ⟨⟨h1, h2⟩, h⟩ := q_ite h
          obtain ⟨v1, v2, v3⟩ := v
          dsimp only at h1 h
          rw [← h1] at h
          exact Hnx _ _ _ _ _ _ ⟨hL, q_cons (v := qR (v1, v2, v3)) (Or.inl h2) hrest, hW2⟩ h
      | 4, h =>
        rcases r with _ | v | v | _ | v
        · exact q_no h
        · exact q_no h
        · exact q_no h
        · exact Hnx _ _ _ _ _ _ ⟨hL, q_cons (v := qO none) trivial hrest, hW2⟩ h
        · obtain ⟨⟨h1, h2⟩, h⟩ := q_ite h
          obtain ⟨v1, v2, v3⟩ := v
          dsimp only at h1 h
          rw [← h1] at h
          exact Hnx _ _ _ _ _ _ ⟨hL, q_cons (v := qR (v1, v2, v3)) (Or.inl h2) hrest, hW2⟩ h
      | _ + 5, h => exact q_no h
  case ireturn =>
    obtain ⟨hr, h2⟩ := q_one hm
    cases h2
    rcases st with _ | ⟨v0, t0⟩
    · exact q_no h
    rcases v0 with x0 | x0
    · rcases t0 with _ | ⟨z, zs⟩
      · exact HRi x0 hd (Or.inl hr) (Option.some.inj h).symm
      · exact q_no h
    · exact q_no h
  case freturn =>
    obtain ⟨hr, h2⟩ := q_one hm
    cases h2
    rcases st with _ | ⟨v0, t0⟩
    · exact q_no h
    rcases v0 with x0 | x0
    · rcases t0 with _ | ⟨z, zs⟩
      · obtain ⟨h01, h⟩ := q_ite h
        exact HRi x0 hd (Or.inr ⟨hr, h01⟩) (Option.some.inj h).symm
      · exact q_no h
    · exact q_no h
  case lreturn =>
    obtain ⟨hr, h2⟩ := q_one hm
    cases h2
    rcases st with _ | ⟨v0, t0⟩
    · exact q_no h
    rcases v0 with x0 | x0 | x0
    · exact q_no h
    · rcases t0 with _ | ⟨z, zs⟩
      · exact HRl x0 hd hr (Option.some.inj h).symm
      · exact q_no h
    · exact q_no h
  case areturn =>
    rcases ret with _ | ty
    · cases hm
    cases ty with
    | object nm =>
      cases List.mem_singleton.mp hm
      rcases st with _ | ⟨v0, t0⟩
      · exact q_no h
      rcases v0 with x0 | x0 | x0
      · exact q_no h
      · exact q_no h
      · rcases t0 with _ | ⟨z, zs⟩
        · exact HRa x0 hd ⟨nm, rfl⟩ (Option.some.inj h).symm
        · exact q_no h
    | _ => cases hm
  case return_ =>
    obtain ⟨hr, h2⟩ := q_one hm
    cases h2
    rcases st with _ | ⟨z, zs⟩
    · exact HRv hd hr (Option.some.inj h).symm
    · exact q_no h
  all_goals exact q_no h
end QS
end
section
/-! runs and calls of the pure machine are the machine's: contracts out of the pure calls -/
abbrev QP : Type := Nat × List Nat × Nat × List QE
def qchkL (own : Nat) (ret : Option FieldType) (bytes : ByteArray) : List QE → Bool
  | [] => true
  | e :: rest => (match decode bytes e.1 with
    | .ok (ins, len) => (qalts own ret len e.2.2).any (fun x => decide (x = (ins, len))) && (qoffs e.2.2).all (fun off => decide (0 ≤ (e.1 : Int) + off)) && (match rest with
      | [] => true
      | e2 :: _ => decide (e2.1 = e.1 + len))
    | .error _ => false) && qchkL own ret bytes rest
theorem qchkL_head {own : Nat} {ret : Option FieldType} {bytes : ByteArray} {e : QE} {rest : List QE} (h : qchkL own ret bytes (e :: rest) = true) :
    ∃ (ins : Instr) (len : Nat), decode bytes e.1 = .ok (ins, len) ∧ (ins, len) ∈ qalts own ret len e.2.2 ∧ (∀ off ∈ qoffs e.2.2, 0 ≤ (e.1 : Int) + off) ∧ (∀ (e2 : QE) (r2 : List QE), rest = e2 :: r2 → e2.1 = e.1 + len) ∧ qchkL own ret bytes rest = true := by
  rw [qchkL, Bool.and_eq_true] at h
  obtain ⟨h1, h2⟩ := h
  cases hd : decode bytes e.1 with
  | error x => rw [hd] at h1; cases h1
  | ok x =>
    obtain ⟨ins, len⟩ := x
    rw [hd] at h1
    simp only [Bool.and_eq_true, decide_eq_true_eq, List.all_eq_true, List.any_eq_true] at h1
    obtain ⟨⟨⟨x, h3, h6⟩, h4⟩, h5⟩ := h1
    subst h6
    refine ⟨ins, len, rfl, h3, h4, fun e2 r2 hr => ?_, h2⟩
    subst hr
    simpa using h5
theorem qfrom_spec {own : Nat} {ret : Option FieldType} {bytes : ByteArray} {pc : Nat} : ∀ (code : List QE), qchkL own ret bytes code = true → qfrom code pc = [] ∨ ∃ e rest, qfrom code pc = e :: rest ∧ e.1 = pc ∧ qchkL own ret bytes (e :: rest) = true
  | [], _ => Or.inl rfl
  | e :: code, h => by
    unfold qfrom
    rw [List.dropWhile_cons]
    by_cases hp : e.1 = pc
    · rw [if_neg (by simp [hp])]
      exact Or.inr ⟨e, code, rfl, hp, h⟩
    · rw [if_pos (by simp [hp])]
      obtain ⟨-, -, -, -, -, -, h2⟩ := qchkL_head h
      exact qfrom_spec code h2
section QR2
variable {p : Program} {l : Launch} {e : Env} {R : Room} {s : State} {m : MethodId} {args : Array Value} {below : List Frame} {meth : Method} {c : Code} {Q : State → Prop} {cells slots : Nat}
variable {own : Nat} {cc : ByteArray} {nL : Nat} {ret : Option FieldType} {D : va_G} {cA : Nat → ClassId} {ad : QA → Nat} {A : Nat → Prop} {H0 : Heap} {sc : Bool} {res : Option QV × QM}
/-- what a frame's calls, its reads of the script and its returns give -/
def qCtx (p : Program) (l : Launch) (e : Env) (R : Room) (s : State) (m : MethodId) (args : Array Value) (below : List Frame) (meth : Method) (c : Code) (Q : State → Prop) (cells slots own : Nat) (cc : ByteArray) (nL : Nat) (ret : Option FieldType) (D : va_G) (cA : Nat → ClassId) (ad : QA → Nat) (A : Nat → Prop) (H0 : Heap) (sc : Bool) (res : Option QV × QM) (call : QC) : Prop :=
  (∀ (pc : Nat) (ls : Array Slot) (μ : QM) (H : Heap) (locs : List Loc), ls.size = nL → QW ad cA D A H0 μ H locs → ∀ (y cp : Nat) (q : QMI) (nest : Bool) (idx : Nat), qmis[y]? = some q → (own, cp, y, nest, idx) ∈ qmt → decode cc pc = .ok (if q.2.2.2.2.1 = true then .invokestatic cp else .invokevirtual cp, 3) → ∀ (av rest : List QV) (r : Option QV) (μ' : QM), av.length = q.2.2.2.2.2.2.2.2.2 → call y av μ = some (r, μ') → (∀ v ∈ av, qokv sc v) → qwd rest ≤ 8 →
      (∀ (H' : Heap) (locs' : List Loc), QW ad cA D A H0 μ' H' locs' → W p l e R s m args below meth c H' locs' cells slots Q (F0 m (pc + 3) ls ((r.map (qenc ad)).toList ++ rest.map (qenc ad)))) →
      W p l e R s m args below meth c H locs cells slots Q (F0 m pc ls ((av.map (qenc ad)).reverse ++ rest.map (qenc ad)))) ∧
  (∀ (pc : Nat) (ls : Array Slot) (μ : QM) (H : Heap) (locs : List Loc), QW ad cA D A H0 μ H locs → sc = true → ∀ (i x : Int32) (μ' : QM) (rest : List Value), call 9999 [qI i] μ = some (some (.inl x), μ') → decode cc pc = .ok (.iaload, 1) → W p l e R s m args below meth c H locs cells slots Q (F0 m (pc + 1) ls (.int x :: rest)) → W p l e R s m args below meth c H locs cells slots Q (F0 m pc ls (.int i :: .ref (ad (99, 0, 0)) :: rest))) ∧
  (∀ (pc : Nat) (ls : Array Slot) (μ : QM) (H : Heap) (locs : List Loc), QW ad cA D A H0 μ H locs → sc = true → ∀ (x : Int32) (μ' : QM) (rest : List Value), call 9998 [] μ = some (some (.inl x), μ') → decode cc pc = .ok (.arraylength, 1) → W p l e R s m args below meth c H locs cells slots Q (F0 m (pc + 1) ls (.int x :: rest)) → W p l e R s m args below meth c H locs cells slots Q (F0 m pc ls (.ref (ad (99, 0, 0)) :: rest))) ∧
  (∀ (pc : Nat) (ls : Array Slot) (μ : QM) (H : Heap) (locs : List Loc), QW ad cA D A H0 μ H locs →
    (∀ x : Int32, decode cc pc = .ok (.ireturn, 1) → (ret = some .int ∨ (ret = some .boolean ∧ (x = 0 ∨ x = 1))) → res = (some (qI x), μ) → W p l e R s m args below meth c H locs cells slots Q (F0 m pc ls [.int x])) ∧
    (∀ x : Int64, decode cc pc = .ok (.lreturn, 1) → ret = some .long → res = (some (qL x), μ) → W p l e R s m args below meth c H locs cells slots Q (F0 m pc ls [.long x])) ∧
    (∀ x : Option QA, decode cc pc = .ok (.areturn, 1) → (∃ n, ret = some (.object n)) → res = (some (qO x), μ) → W p l e R s m args below meth c H locs cells slots Q (F0 m pc ls [va_rf (x.map ad)])) ∧
    (decode cc pc = .ok (.return_, 1) → ret = none → res = (none, μ) → W p l e R s m args below meth c H locs cells slots Q (F0 m pc ls [])))
theorem qsem_sound (E : qEnv p s m args c cc nL own D cA) (hs8 : sc = true → own = 8) (hR : 1 ≤ R.frames ∧ 21 ≤ R.locals ∧ cells ≤ R.cells ∧ slots ≤ R.slots) {call : QC}
    (X : qCtx p l e R s m args below meth c Q cells slots own cc nL ret D cA ad A H0 sc res call) {k : Nat → QL → List QV → QM → QR} {code : List QE}
    (Hk : ∀ (pc : Nat) (ls : Array Slot) (L : QL) (st : List QV) (μ : QM) (H : Heap) (locs : List Loc), qSt ad sc nL cA D A H0 ls L st μ H locs → k pc L st μ = some res → W p l e R s m args below meth c H locs cells slots Q (F0 m pc ls (st.map (qenc ad)))) :
    ∀ (rest : List QE) (e1 : QE), qchkL own ret cc (e1 :: rest) = true → ∀ (b : Bool) (ls : Array Slot) (L : QL) (st : List QV) (μ : QM) (H : Heap) (locs : List Loc), qSt ad sc nL cA D A H0 ls L st μ H locs → qsem call k code (e1 :: rest) b L st μ = some res →
      W p l e R s m args below meth c H locs cells slots Q (F0 m e1.1 ls (st.map (qenc ad))) := by
  intro rest
  induction rest with
  | nil =>
    intro e1 hchk b ls L st μ H locs hS h
    obtain ⟨ins, len, hd, hm, hjo, hnext, hrest⟩ := qchkL_head hchk
    have main : qop call (qsem call k code [] true) (qjmp k code e1.1) e1.2.2 L st μ = some res → W p l e R s m args below meth c H locs cells slots Q (F0 m e1.1 ls (st.map (qenc ad))) := by
      intro h
      refine qop_sound E hs8 hR hd hm hjo hS (fun y cp q nest idx hq he hdd => X.1 e1.1 ls μ H locs hS.1.1 hS.2.2 y cp q nest idx hq he hdd) (X.2.1 e1.1 ls μ H locs hS.2.2) (X.2.2.1 e1.1 ls μ H locs hS.2.2) (X.2.2.2 e1.1 ls μ H locs hS.2.2).1 (X.2.2.2 e1.1 ls μ H locs hS.2.2).2.1 (X.2.2.2 e1.1 ls μ H locs hS.2.2).2.2.1 (X.2.2.2 e1.1 ls μ H locs hS.2.2).2.2.2 ?_ ?_ h
      · intro ls2 L2 st2 μ2 H2 locs2 hS2 h2
        exact q_no h2
      · intro off t st2 ho ht hS2 h2
        unfold qjmp at h2
        rw [ht] at h2
        exact Hk t ls _ st2 μ H locs ⟨hS2.1.mask _, hS2.2⟩ h2
    obtain ⟨pc, lv, o⟩ := e1
    cases b with
    | false => exact main h
    | true =>
      cases lv with
      | none => exact main h
      | some mk => exact Hk pc ls _ st μ H locs ⟨hS.1.mask _, hS.2⟩ h
  | cons e2 rest ih =>
    intro e1 hchk b ls L st μ H locs hS h
    obtain ⟨ins, len, hd, hm, hjo, hnext, hrest⟩ := qchkL_head hchk
    have main : qop call (qsem call k code (e2 :: rest) true) (qjmp k code e1.1) e1.2.2 L st μ = some res → W p l e R s m args below meth c H locs cells slots Q (F0 m e1.1 ls (st.map (qenc ad))) := by
      intro h
      refine qop_sound E hs8 hR hd hm hjo hS (fun y cp q nest idx hq he hdd => X.1 e1.1 ls μ H locs hS.1.1 hS.2.2 y cp q nest idx hq he hdd) (X.2.1 e1.1 ls μ H locs hS.2.2) (X.2.2.1 e1.1 ls μ H locs hS.2.2) (X.2.2.2 e1.1 ls μ H locs hS.2.2).1 (X.2.2.2 e1.1 ls μ H locs hS.2.2).2.1 (X.2.2.2 e1.1 ls μ H locs hS.2.2).2.2.1 (X.2.2.2 e1.1 ls μ H locs hS.2.2).2.2.2 ?_ ?_ h
      · intro ls2 L2 st2 μ2 H2 locs2 hS2 h2
        rw [← hnext e2 rest rfl]
        exact ih e2 hrest true ls2 L2 st2 μ2 H2 locs2 hS2 h2
      · intro off t st2 ho ht hS2 h2
        unfold qjmp at h2
        rw [ht] at h2
        exact Hk t ls _ st2 μ H locs ⟨hS2.1.mask _, hS2.2⟩ h2
    obtain ⟨pc, lv, o⟩ := e1
    cases b with
    | false => exact main h
    | true =>
      cases lv with
      | none => exact main h
      | some mk => exact Hk pc ls _ st μ H locs ⟨hS.1.mask _, hS.2⟩ h
theorem qrunF_sound (E : qEnv p s m args c cc nL own D cA) (hs8 : sc = true → own = 8) (hR : 1 ≤ R.frames ∧ 21 ≤ R.locals ∧ cells ≤ R.cells ∧ slots ≤ R.slots) {call : QC}
    (X : qCtx p l e R s m args below meth c Q cells slots own cc nL ret D cA ad A H0 sc res call) {code : List QE} (hchk : qchkL own ret cc code = true) :
    ∀ (n pc : Nat) (ls : Array Slot) (L : QL) (st : List QV) (μ : QM) (H : Heap) (locs : List Loc), qSt ad sc nL cA D A H0 ls L st μ H locs → qrunF call code n pc L st μ = some res → W p l e R s m args below meth c H locs cells slots Q (F0 m pc ls (st.map (qenc ad)))
  | 0, pc, ls, L, st, μ, H, locs, hS, h => q_no h
  | n + 1, pc, ls, L, st, μ, H, locs, hS, h => by
    have h3 : qsem call (qrunF call code n) code (qfrom code pc) false L st μ = some res := h
    rcases qfrom_spec (pc := pc) code hchk with h0 | ⟨e1, rest, h0, h1, h2⟩
    · rw [h0] at h3
      exact q_no h3
    · rw [h0] at h3
      rw [← h1]
      exact qsem_sound E hs8 hR X (qrunF_sound E hs8 hR X hchk n) rest e1 h2 false ls L st μ H locs hS h3
theorem qrun_sound (E : qEnv p s m args c cc nL own D cA) (hs8 : sc = true → own = 8) (hR : 1 ≤ R.frames ∧ 21 ≤ R.locals ∧ cells ≤ R.cells ∧ slots ≤ R.slots) {call : QC}
    (X : qCtx p l e R s m args below meth c Q cells slots own cc nL ret D cA ad A H0 sc res call) {code : List QE} (hchk : qchkL own ret cc code = true)
    {pc : Nat} {ls : Array Slot} {L : QL} {st : List QV} {μ : QM} {H : Heap} {locs : List Loc} (hS : qSt ad sc nL cA D A H0 ls L st μ H locs) (h : qrun call code pc L st μ = some res) : W p l e R s m args below meth c H locs cells slots Q (F0 m pc ls (st.map (qenc ad))) := by
  obtain ⟨n, hn⟩ := qsup_some h
  exact qrunF_sound E hs8 hR X hchk n pc ls L st μ H locs hS hn
end QR2
/-! the pure calls -/
def qarg1 (sg : Nat) : QV → Bool
  | .inl _ => sg == 0
  | .inr (.inl _) => sg == 1
  | .inr (.inr none) => false
  | .inr (.inr (some a)) => (a.1 + 2 == sg || sg == 1000) && qdom a
def qargs : List Nat → List QV → Bool
  | [], [] => true
  | s :: ss, v :: vs => qarg1 s v && qargs ss vs
  | _, _ => false
def qexp : List QV → QL
  | [] => []
  | v :: vs => match v with
    | .inr (.inl x) => some (qL x) :: none :: qexp vs
    | v => some v :: qexp vs
def qent (nL : Nat) (av : List QV) : QL := qexp av ++ List.replicate (nL - (qexp av).length) none
noncomputable def qcall (ps : List QP) : Nat → QC
  | 0 => fun _ _ _ => none
  | d + 1 => fun y av μ => match ps[y]? with
    | none => none
    | some pr => bif qargs pr.2.1 av && decide ((qexp av).length ≤ pr.2.2.1) then qrun (qcall ps d) pr.2.2.2 0 (qent pr.2.2.1 av) [] μ else none
theorem qargs_ok : ∀ (sg : List Nat) (av : List QV), qargs sg av = true → ∀ v ∈ av, qokv false v
  | [], [], _, v, hv => by cases hv
  | [], _ :: _, h, v, hv => by cases h
  | _ :: _, [], h, v, hv => by cases h
  | s :: ss, u :: vs, h, v, hv => by
    simp only [qargs, Bool.and_eq_true] at h
    rcases List.mem_cons.mp hv with rfl | hv
    · rcases v with x | x | _ | a
      · trivial
      · trivial
      · trivial
      · have h1 := h.1
        simp only [qarg1, Bool.and_eq_true] at h1
        exact Or.inl h1.2
    · exact qargs_ok ss vs h.2 v hv
theorem qexp_len (ad : QA → Nat) : ∀ av : List QV, (lg_sl (av.map (qenc ad))).length = (qexp av).length
  | [] => rfl
  | v :: av => by
    have ih := qexp_len ad av
    unfold lg_sl at ih ⊢
    rw [List.map_cons, List.flatMap_cons, List.length_append, ih]
    rcases v with x | x | _ | a
    · simp only [qexp, List.length_cons]; rw [if_neg (by rw [qcat_enc]; show ¬ (1 = 2); decide)]; simp; omega
    · simp only [qexp, List.length_cons]; rw [if_pos (by rfl)]; simp; omega
    · simp only [qexp, List.length_cons]; rw [if_neg (by rw [qcat_enc]; show ¬ (1 = 2); decide)]; simp; omega
    · simp only [qexp, List.length_cons]; rw [if_neg (by rw [qcat_enc]; show ¬ (1 = 2); decide)]; simp; omega
theorem lva1 {k : Nat} {v : Value} {vs : List Value} (h : v.category = 1) : lv_args k (v :: vs) = (k, v) :: lv_args (k + 1) vs := by
  rw [lv_args, if_neg (by omega)]
theorem lva2 {k : Nat} {v : Value} {vs : List Value} (h : v.category = 2) : lv_args k (v :: vs) = (k, v) :: lv_args (k + 2) vs := by
  rw [lv_args, if_pos h]
theorem qexp_get (ad : QA → Nat) : ∀ (av : List QV) (k i : Nat) (v : QV), (qexp av)[i]? = some (some v) → v ∈ av ∧ (k + i, qenc ad v) ∈ lv_args k (av.map (qenc ad))
  | [], k, i, v, h => by simp [qexp] at h
  | u :: av, k, i, v, h => by
    have one : qcat u = 1 → (some u :: qexp av)[i]? = some (some v) → v ∈ u :: av ∧ (k + i, qenc ad v) ∈ lv_args k ((u :: av).map (qenc ad)) := by
      intro hc h
      rw [List.map_cons, lva1 (by rw [qcat_enc]; exact hc)]
      cases i with
      | zero =>
        rw [List.getElem?_cons_zero] at h
        cases h
        exact ⟨List.mem_cons_self, List.mem_cons_self⟩
      | succ i =>
        rw [List.getElem?_cons_succ] at h
        obtain ⟨h1, h2⟩ := qexp_get ad av (k + 1) i v h
        refine ⟨List.mem_cons_of_mem _ h1, List.mem_cons_of_mem _ ?_⟩
        rw [show k + (i + 1) = k + 1 + i by omega]
        exact h2
    rcases u with x | x | x
    · exact one rfl h
    · rw [List.map_cons, lva2 (by rfl)]
      match i, h with
      | 0, h =>
        cases h
        exact ⟨List.mem_cons_self, List.mem_cons_self⟩
      | 1, h => cases h
      | i + 2, h =>
        obtain ⟨h1, h2⟩ := qexp_get ad av (k + 2) i v h
        refine ⟨List.mem_cons_of_mem _ h1, List.mem_cons_of_mem _ ?_⟩
        rw [show k + (i + 2) = k + 2 + i by omega]
        exact h2
    · exact one rfl h
theorem qent_ok {ad : QA → Nat} {nL : Nat} {av : List QV} (hl : (qexp av).length ≤ nL) (hv : ∀ v ∈ av, qokv false v) {ls : Array Slot} (h : lv_has ls nL (lv_args 0 (av.map (qenc ad)))) : QLr ad false ls nL (qent nL av) := by
  refine ⟨h.1, h.2.1, by unfold qent; rw [List.length_append, List.length_replicate]; omega, fun i v hi => ?_⟩
  have hi2 : (qexp av)[i]? = some (some v) := by
    unfold qent at hi
    by_cases hlt : i < (qexp av).length
    · rw [List.getElem?_append_left hlt] at hi
      exact hi
    · rw [List.getElem?_append_right (by omega)] at hi
      have := List.eq_of_mem_replicate (List.mem_of_getElem? hi)
      cases this
  obtain ⟨h1, h2⟩ := qexp_get ad av 0 i v hi2
  rw [Nat.zero_add] at h2
  exact ⟨hv v h1, h.2.2 _ h2⟩
def qrm (d : Nat) : Room := { frames := d, cells := 0, slots := 0, locals := 64 * d }
def qPre (ad : QA → Nat) (cA : Nat → ClassId) (D : va_G) (μ : QM) : State → Prop := fun U => va_P D qcl (qwld ad cA μ) U.heap ∧ va_K D qcl (qtys cA) U ∧ va_D (fun _ => True) (qwld ad cA μ) ∧ qNst U
def qfree (ad : QA → Nat) : Nat → Prop := fun q => ∃ a, qdom a = true ∧ q = ad a
def qPost (ad : QA → Nat) (cA : Nat → ClassId) (D : va_G) (r : Option QV) (μ' : QM) : Array Value → State → Outcome → State → Prop := fun _ st oc t => oc = .returned (r.map (qenc ad)) ∧ va_P D qcl (qwld ad cA μ') t.heap ∧ va_F (qfree ad) st t
def qws (q : QMI) : List Cond := Cond.code q.1 q.2.1 q.2.2.1 q.2.2.2.1 :: gtb
def qMet (l : Launch) (ad : QA → Nat) (cA : Nat → ClassId) (D : va_G) (d : Nat) (q : QMI) (av : List QV) (μ : QM) (r : Option QV) (μ' : QM) : Prop :=
  Met l q.1 (qws q) (qrm d) (va_Pc (av.map (qenc ad)) (qPre ad cA D μ)) (qPost ad cA D r μ') 0 0 (qfree ad)
theorem qPre.blind {ad : QA → Nat} {cA : Nat → ClassId} {D : va_G} {μ : QM} {as : List Value} : FrameBlind (va_Pc as (qPre ad cA D μ)) := by
  intro a U g mk h
  obtain ⟨h0, h1, h2, h3, h4⟩ := h
  exact ⟨h0, h1, va_K.moved (u := U) (U := U.calling g mk a) (Vm.Alike.refl U.vm) h2, h3, qNst.same (s := U) (U := U.calling g mk a) rfl h4⟩
theorem qwld_D {ad : QA → Nat} {cA : Nat → ClassId} {μ μ' : QM} {A : Nat → Prop} (h : va_D A (qwld ad cA μ)) : va_D A (qwld ad cA μ') := by
  have key : ∀ (k : Nat) (q : Nat × va_E), (qwld ad cA μ')[k]? = some q → ∃ q0, (qwld ad cA μ)[k]? = some q0 ∧ q0.1 = q.1 := by
    intro k q hk
    unfold qwld at hk ⊢
    rw [List.getElem?_map] at hk ⊢
    cases hq : qdoml[k]? with
    | none => rw [hq] at hk; cases hk
    | some a =>
      rw [hq] at hk
      cases hk
      exact ⟨_, rfl, rfl⟩
  refine ⟨fun i j x y hi hj hxy => ?_, fun k q hk => ?_⟩
  · obtain ⟨x0, h1, h2⟩ := key i x hi
    obtain ⟨y0, h3, h4⟩ := key j y hj
    exact h.1 i j x0 y0 h1 h3 (h2.trans (hxy.trans h4.symm))
  · obtain ⟨q0, h1, h2⟩ := key k q hk
    rw [← h2]
    exact h.2 k q0 h1
section QR3
variable {p : Program} {l : Launch} {e : Env} {R : Room} {s : State} {m : MethodId} {args : Array Value} {below : List Frame} {meth : Method} {c : Code} {Q : State → Prop} {cells slots : Nat}
variable {own : Nat} {cc : ByteArray} {nL : Nat} {D : va_G} {cA : Nat → ClassId} {ad : QA → Nat} {A : Nat → Prop} {H0 : Heap}
/-- a call, by the callee's contract -/
theorem q_call (E : qEnv p s m args c cc nL own D cA) {d : Nat} (hR : d + 1 ≤ R.frames ∧ 64 * (d + 1) ≤ R.locals ∧ cells ≤ R.cells ∧ slots ≤ R.slots)
    {pc : Nat} {ls : Array Slot} {μ : QM} {H : Heap} {locs : List Loc} (hsz : ls.size = nL) (hW : QW ad cA D A H0 μ H locs) {y cp : Nat} {q : QMI} {nest : Bool} {idx : Nat}
    (hq : qmis[y]? = some q) (he : (own, cp, y, nest, idx) ∈ qmt) (hd : decode cc pc = .ok (if q.2.2.2.2.1 = true then .invokestatic cp else .invokevirtual cp, 3))
    {av rest : List QV} {r : Option QV} {μ' : QM} (hlen : av.length = q.2.2.2.2.2.2.2.2.2) (hM : qMet l ad cA D d q av μ r μ')
    (hrec : q.2.2.2.2.1 = false → ∃ (a : QA) (av' : List QV) (ci : Nat), av = qR a :: av' ∧ qdom a = true ∧ qci a.1 = some ci ∧ ci < 8 ∧ qownS ci = q.1.cls)
    (hwd : qwd rest ≤ 8)
    (kk : ∀ (H' : Heap) (locs' : List Loc), QW ad cA D A H0 μ' H' locs' → W p l e R s m args below meth c H' locs' cells slots Q (F0 m (pc + 3) ls ((r.map (qenc ad)).toList ++ rest.map (qenc ad)))) :
    W p l e R s m args below meth c H locs cells slots Q (F0 m pc ls ((av.map (qenc ad)).reverse ++ rest.map (qenc ad))) := by
  obtain ⟨hx, hb, hml, hown, hts, hK, hNs⟩ := E
  obtain ⟨hok, hcd⟩ := qmis_ok q (List.mem_of_getElem? hq)
  have h0 := qmt_ok _ he
  dsimp only at h0
  have hnm : qname y = q.1 := by unfold qname; rw [hq]; rfl
  obtain ⟨yn, bytes, maxL, ret, st, i0, i1, i2, i3, n⟩ := q
  simp only [qmiOk, Bool.and_eq_true, Bool.or_eq_true, decide_eq_true_eq] at hok
  obtain ⟨⟨⟨⟨⟨⟨⟨⟨hini, hin⟩, hsel⟩, hpl⟩, hy1⟩, hy2⟩, hyi⟩, hdesc⟩, hmx⟩ := hok
  dsimp only at hlen hd hrec hnm hcd hM
  have hrms : (qrm d).frames + 1 ≤ R.frames ∧ 8 + (maxL + 11) + (qrm d).locals ≤ R.locals := by
    unfold qrm
    dsimp only
    omega
  have hG : GoodIn gtb (qws (yn, bytes, maxL, ret, st, i0, i1, i2, i3, n)) := by
    intro w hw
    rcases List.mem_cons.mp hw with rfl | hw
    · exact ⟨gtb_of hcd rfl, Or.inl rfl⟩
    · exact gtb_good (fun _ h => h) w hw
  have hini2 : (Cond.initialized yn.cls).before args s = true := hts _ (gtb_at hini rfl)
  have hfr : ∀ q, qfree ad q → A q := by
    rintro q ⟨a, ha, rfl⟩
    exact hW.in ha
  have hPre : ∀ U : State, U.heap = H → s.WarmedH U.vm → va_Pc (av.map (qenc ad)) (qPre ad cA D μ) (av.map (qenc ad)).toArray U := fun U hU hWm => ⟨rfl, by rw [hU]; exact hW.1, va_K.moved hWm.alike hK, hW.2.1.weaken (fun _ _ _ _ => trivial), hNs.warm hWm⟩
  have fin : ∀ (As : Array Value) (st0 : List Value), va_Run p l e R s m args below meth c H locs cells slots 0 0 (F0 m pc ls st0) (rest.map (qenc ad)) (qPost ad cA D r μ' As) (qfree ad) → W p l e R s m args below meth c H locs cells slots Q (F0 m pc ls st0) := by
    intro As st0 hr T hT X
    obtain ⟨v, st₀, t, T', L, h0, X', hL, e1, e2, ⟨hv, hP, hz, hk⟩, st⟩ := hr T hT X
    cases hv
    rw [h0] at hz hk
    have hS := hW.2.2
    obtain ⟨t2, a1, b1⟩ := kk T'.heap (locs ++ L) ⟨by rw [e1]; exact hP, qwld_D hW.2.1, ⟨Nat.le_trans hS.1 (by rw [e1]; exact hz), fun q h1 h2 => by rw [e1, hk q (Nat.lt_of_lt_of_le h1 hS.1) (fun z => h2 (hfr q z))]; exact hS.2.1 q h1 h2, fun q hq => by
      rcases List.mem_append.mp hq with h | h
      · exact hS.2.2 q h
      · exact hfr _ (hL q h)⟩⟩ T' rfl X'
    exact ⟨t2, st t2 a1, b1⟩
  have CF : CallFix p m c cc nL s args gtb (qownS own) := ⟨hx, hb, hml, hown, hts⟩
  have hwd2 : 2 * (F0 m pc ls ([] : List Value)).monitorRoom + ((rest.map (qenc ad)).map fun v => v.category).sum ≤ 8 := lv_room (by rw [qwd_enc]; exact hwd)
  cases st with
  | true =>
    have hd : decode cc pc = .ok (.invokestatic cp, 3) := hd
    have hstt : (Cond.static yn).before args s = true := hts _ (gtb_at hin rfl)
    have hds : (parseMethodDescriptor yn.desc).map (fun d => d.parameters.length) = some n := by simpa using hdesc
    refine fin (av.map (qenc ad)).toArray _ ?_
    cases nest with
    | false =>
      have hl : (Cond.methodLink (qownS own) cp yn).before args s = true := hts _ (gtb_at (by rw [h0]; unfold qmw; rw [hnm]; rfl) rfl)
      exact va_runS CF hM ⟨callB_of n hts hG rfl rfl rfl hini2 hl ⟨hy1, hy2, hds⟩ hrms, hstt⟩ ⟨qPre.blind, hPre⟩ rfl (by rw [List.length_map]; exact hlen) hsz rfl hwd2 hd ⟨hR.2.2.1, hR.2.2.2⟩
    | true =>
      have hl : va_Nw (.methodLinkNest (qownS own) cp yn "JealousByCalendar") s := hNs _ (List.mem_of_getElem? (by rw [h0]; unfold qmw; rw [hnm]; rfl)) rfl
      exact va_runSN CF hM ⟨va_cnB n hts hG rfl rfl rfl hl hini2 ⟨hy1, hy2, hds⟩ hrms, hstt, trivial⟩ ⟨qPre.blind, hPre⟩ rfl (by rw [List.length_map]; exact hlen) hsz rfl hwd2 hd ⟨hR.2.2.1, hR.2.2.2⟩
  | false =>
    have hd : decode cc pc = .ok (.invokevirtual cp, 3) := hd
    obtain ⟨a, av', ci, hav, hdom, hci, hci8, hcls⟩ := hrec rfl
    subst hav
    have hinst : (Cond.instanceMethod yn).before args s = true := hts _ (gtb_at hin rfl)
    have hsl : (Cond.selects yn.cls yn yn).before args s = true := hts _ (gtb_at (hsel.elim (fun h => by cases h) (fun h => h)) rfl)
    have hds : (parseMethodDescriptor yn.desc).map (fun d => d.parameters.length) = some (av'.map (qenc ad)).length := by
      rw [List.length_map]
      rw [List.length_cons] at hlen
      cases hpd : parseMethodDescriptor yn.desc with
      | none => rw [hpd] at hdesc; simp at hdesc
      | some x =>
        rw [hpd] at hdesc
        simp at hdesc ⊢
        omega
    obtain ⟨i, hi⟩ := qw_at hdom
    have hget := qw_get (ad := ad) (cA := cA) (μ := μ) hi
    rw [show qcell ad cA μ a = .inr (ci, (List.range (qN ci)).map (qfv ad μ a)) by unfold qcell; rw [hci]] at hget
    have hrc := va_recv hK hW.1 (qcl_get hci8) hget
    rw [hcls] at hrc
    have hstk : ((qR a :: av').map (qenc ad)).reverse ++ rest.map (qenc ad) = (av'.map (qenc ad)).reverse ++ .ref (ad a) :: rest.map (qenc ad) := by
      rw [List.map_cons, List.reverse_cons, List.append_assoc]
      rfl
    refine fin (Value.ref (ad a) :: av'.map (qenc ad)).toArray _ ?_
    rw [hstk]
    cases nest with
    | false =>
      have hl : (Cond.methodLink (qownS own) cp yn).before args s = true := hts _ (gtb_at (by rw [h0]; unfold qmw; rw [hnm]; rfl) rfl)
      exact va_runV CF hM ⟨callB_of _ hts hG rfl rfl rfl hini2 hl ⟨hy1, hy2, hds⟩ hrms, hinst, hsl⟩ ⟨qPre.blind, hrc, hPre⟩ rfl rfl hsz rfl hwd2 hd ⟨hR.2.2.1, hR.2.2.2⟩
    | true =>
      have hl : va_Nw (.methodLinkNest (qownS own) cp yn "JealousByCalendar") s := hNs _ (List.mem_of_getElem? (by rw [h0]; unfold qmw; rw [hnm]; rfl)) rfl
      exact va_runVN CF hM ⟨va_cnB _ hts hG rfl rfl rfl hl hini2 ⟨hy1, hy2, hds⟩ hrms, hinst, hsl⟩ ⟨qPre.blind, hrc, hPre⟩ rfl rfl hsz rfl hwd2 hd ⟨hR.2.2.1, hR.2.2.2⟩
end QR3
/-- a program's row fits its method -/
def qpok (y : Nat) (pr : QP) : Bool := match qmis[y]? with
  | none => false
  | some q => decide (qownS pr.1 = q.1.cls) && decide (pr.1 ≠ 8) && decide (pr.2.2.1 = q.2.2.1) && decide (pr.2.1.length = q.2.2.2.2.2.2.2.2.2) && (q.2.2.2.2.1 || (match pr.2.1 with
      | sg :: _ => decide (2 ≤ sg) && decide (sg < 52) && decide (qci (sg - 2) = some pr.1) && decide (pr.1 < 8)
      | [] => false)) && qchkL pr.1 q.2.2.2.1 q.2.1 pr.2.2.2
theorem qargs_len : ∀ (sg : List Nat) (av : List QV), qargs sg av = true → av.length = sg.length
  | [], [], _ => rfl
  | [], _ :: _, h => by cases h
  | _ :: _, [], h => by cases h
  | s :: ss, u :: vs, h => by
    simp only [qargs, Bool.and_eq_true] at h
    rw [List.length_cons, List.length_cons, qargs_len ss vs h.2]
theorem qmet (l : Launch) (ad : QA → Nat) (cA : Nat → ClassId) (D : va_G) (ps : List QP) (hps : ∀ (y : Nat) (pr : QP), ps[y]? = some pr → qpok y pr = true) (hps2 : ps.length ≤ 9998) :
    ∀ (d y : Nat) (av : List QV) (μ : QM) (r : Option QV) (μ' : QM), qcall ps d y av μ = some (r, μ') → ∃ (q : QMI) (pr : QP), qmis[y]? = some q ∧ ps[y]? = some pr ∧ qpok y pr = true ∧ qargs pr.2.1 av = true ∧ qMet l ad cA D d q av μ r μ'
  | 0, y, av, μ, r, μ', h => q_no h
  | d + 1, y, av, μ, r, μ', h => by
    rw [qcall] at h
    dsimp only at h
    cases hp : ps[y]? with
    | none => rw [hp] at h; exact q_no h
    | some pr =>
      rw [hp] at h
      have hk := hps y pr hp
      cases hga : (qargs pr.2.1 av && decide ((qexp av).length ≤ pr.2.2.1)) with
      | false => simp only [hga] at h; exact q_no h
      | true =>
        simp only [hga] at h
        have h : qrun (qcall ps d) pr.2.2.2 0 (qent pr.2.2.1 av) [] μ = some (r, μ') := h
        rw [Bool.and_eq_true, decide_eq_true_eq] at hga
        obtain ⟨hga, hexl⟩ := hga
        have hk0 := hk
        unfold qpok at hk
        cases hq : qmis[y]? with
        | none => rw [hq] at hk; cases hk
        | some q =>
          rw [hq] at hk
          simp only [Bool.and_eq_true, decide_eq_true_eq] at hk
          obtain ⟨⟨⟨⟨⟨k1, k2⟩, k3⟩, k4⟩, k5⟩, k6⟩ := hk
          refine ⟨q, pr, rfl, rfl, hk0, hga, ?_⟩
          obtain ⟨hok, hcd⟩ := qmis_ok q (List.mem_of_getElem? hq)
          have hpl : plainFor q.1 = true := by
            obtain ⟨yn, bytes, maxL, ret, st, i0, i1, i2, i3, n⟩ := q
            simp only [qmiOk, Bool.and_eq_true, Bool.or_eq_true, decide_eq_true_eq] at hok
            exact hok.1.1.1.1.1.2
          refine va_MetF (cc := q.2.1) (maxL := q.2.2.1) (ret := q.2.2.2.1) hpl rfl ?_
          intro p e s m args below meth c s₁ B hml hv
          obtain ⟨rfl, hP, hK, hD0, hN⟩ := hv
          have hts := atoms_spec (ws := qws q) B.pre
          have hown : s.vm.findClass (qownS pr.1) = some m.cls := by rw [k1]; exact findClass_of_methodNamed B.named
          have E : qEnv p s m (av.map (qenc ad)).toArray c q.2.1 q.2.2.1 pr.1 D cA := ⟨B.exec, B.bytes, hml, hown, fun w hw => hts w (List.mem_cons_of_mem _ hw), hK, hN⟩
          have hlocks := B.notSynchronized
          have hret := B.returns
          have hW : QW ad cA D (qfree ad) s.heap μ s.heap [] := ⟨hP, ⟨hD0.1, fun k x hx => by
            unfold qwld at hx
            rw [List.getElem?_map] at hx
            cases hz : qdoml[k]? with
            | none => rw [hz] at hx; cases hx
            | some a =>
              rw [hz] at hx
              cases hx
              exact ⟨a, (qdom_mem a).mpr (List.mem_of_getElem? hz), rfl⟩⟩, va_S.rf⟩
          have X : qCtx p l e (headSpec (qws q) (qrm (d + 1))).room s m (av.map (qenc ad)).toArray below meth c (MQ below (qPost ad cA D r μ') (av.map (qenc ad)).toArray s 0 0 (qfree ad)) 0 0 pr.1 q.2.1 q.2.2.1 q.2.2.2.1 D cA ad (qfree ad) s.heap false (r, μ') (qcall ps d) := by
            have hroom : (headSpec (qws q) (qrm (d + 1))).room = qrm (d + 1) := rfl
            refine ⟨fun pc ls μ1 H locs hsz hW1 y1 cp q1 nest idx hq1 he hdd av1 rest r1 μ2 hlen hcl hokv hwd kk => ?_, fun _ _ _ _ _ _ z => (by cases z), fun _ _ _ _ _ _ z => (by cases z), fun pc ls μ1 H locs hW1 => ⟨fun x hdg hr he => ?_, fun x hdg hr he => ?_, fun x hdg hr he => ?_, fun hdg hr he => ?_⟩⟩
            · obtain ⟨q2, pr2, hq2, hp2, hk2, hga2, hM2⟩ := qmet l ad cA D ps hps hps2 d y1 av1 μ1 r1 μ2 hcl
              cases hq1.symm.trans hq2
              refine q_call E (d := d) ⟨by rw [hroom]; exact Nat.le_refl _, by rw [hroom]; exact Nat.le_refl _, Nat.zero_le _, Nat.zero_le _⟩ hsz hW1 hq1 he hdd hlen hM2 ?_ hwd kk
              intro hst
              unfold qpok at hk2
              rw [hq1] at hk2
              simp only [Bool.and_eq_true, decide_eq_true_eq, hst, Bool.false_or] at hk2
              obtain ⟨⟨⟨⟨⟨j1, -⟩, -⟩, -⟩, j5⟩, -⟩ := hk2
              cases hsg : pr2.2.1 with
              | nil => rw [hsg] at j5; cases j5
              | cons sg ss =>
                rw [hsg] at j5 hga2
                simp only [Bool.and_eq_true, decide_eq_true_eq] at j5
                obtain ⟨⟨⟨j6, j7⟩, j8⟩, j9⟩ := j5
                cases av1 with
                | nil => cases hga2
                | cons u us =>
                  simp only [qargs, Bool.and_eq_true] at hga2
                  rcases u with x | x | _ | a
                  · simp only [qarg1, beq_iff_eq] at hga2; omega
                  · simp only [qarg1, beq_iff_eq] at hga2; omega
                  · simp [qarg1] at hga2
                  · simp only [qarg1, Bool.and_eq_true, Bool.or_eq_true, beq_iff_eq] at hga2
                    obtain ⟨⟨h1, h2⟩, -⟩ := hga2
                    refine ⟨a, us, pr2.1, rfl, h2, ?_, j9, j1⟩
                    rw [show a.1 = sg - 2 by omega]
                    exact j8
            · cases he
              have hF := hW1.2.2
              rcases hr with hr | ⟨hr, h01⟩
              · exact W.zret (ty := .int) B.exec B.bytes (hret.trans hr) rfl (fun t ht _ => ⟨rfl, by rw [ht]; exact hW1.1, hF.F ht⟩) hF.2.2 hdg hlocks
              · exact W.zret (ty := .boolean) B.exec B.bytes (hret.trans hr) (by rcases h01 with rfl | rfl <;> rfl) (fun t ht _ => ⟨rfl, by rw [ht]; exact hW1.1, hF.F ht⟩) hF.2.2 hdg hlocks
            · cases he
              have hF := hW1.2.2
              exact W.lret B.exec B.bytes (hret.trans hr) (fun t ht _ => ⟨rfl, by rw [ht]; exact hW1.1, hF.F ht⟩) hF.2.2 hdg hlocks
            · cases he
              have hF := hW1.2.2
              obtain ⟨n, hr⟩ := hr
              exact W.aret B.exec B.bytes (hret.trans hr) (Or.inl ⟨n, rfl⟩) (by rcases x with _ | a; exact Or.inl rfl; exact Or.inr ⟨_, rfl⟩) (fun t ht _ => ⟨rfl, by rw [ht]; exact hW1.1, hF.F ht⟩) hF.2.2 hdg hlocks
            · cases he
              have hF := hW1.2.2
              exact W.vret B.exec B.bytes (hret.trans hr) (fun t ht _ => ⟨rfl, by rw [ht]; exact hW1.1, hF.F ht⟩) hF.2.2 hdg hlocks
          have hl := lv_entry (av.map (qenc ad)) (n := q.2.2.1) (by rw [qexp_len, ← k3]; exact hexl)
          rw [lg_entry_eq]
          generalize (lg_sl (av.map (qenc ad)) ++ List.replicate (q.2.2.1 - (lg_sl (av.map (qenc ad))).length) Slot.unset).toArray = ls at hl ⊢
          have hL : QLr ad false ls q.2.2.1 (qent pr.2.2.1 av) := by
            rw [k3]
            exact qent_ok (by rw [← k3]; exact hexl) (qargs_ok _ _ hga) hl
          exact qrun_sound E (fun z => (by cases z)) ⟨Nat.le_add_left 1 d, by show 21 ≤ 64 * (d + 1); omega, Nat.zero_le _, Nat.zero_le _⟩ X k6 (st := []) ⟨hL, fun v hv => (by cases hv), hW⟩ h
end
