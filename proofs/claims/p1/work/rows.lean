section
-- ===== PART A: goes FIRST, ahead of the names: the tables' words, and 'selects' of the private methods out of them =====
/-- a private method of a class that the tables say can be made, by its rows of tables_1 -/
def lw_okq (q : MethodName × Nat) : Prop := (q.1.cls ≠ "java/lang/invoke/MethodHandle" ∧ q.1.cls ≠ "java/lang/invoke/VarHandle") ∧ Cond.instantiable q.1.cls q.2 ∈ tables_1 ∧ Cond.privateMethod q.1 ∈ tables_1 ∧ Cond.instanceMethod q.1 ∈ tables_1
theorem lw_p0 : lw_okq (⟨"BoundedSchemes$TypeRoom", "clear", "()V"⟩, 7) := ⟨⟨by decide +kernel, by decide +kernel⟩, List.mem_of_getElem? (i := 45) (by decide +kernel), List.mem_of_getElem? (i := 346) (by decide +kernel), List.mem_of_getElem? (i := 347) (by decide +kernel)⟩
theorem lw_p1 : lw_okq (⟨"BoundedSchemes$Reader", "readWholeType", "(I)I"⟩, 13) := ⟨⟨by decide +kernel, by decide +kernel⟩, List.mem_of_getElem? (i := 138) (by decide +kernel), List.mem_of_getElem? (i := 350) (by decide +kernel), List.mem_of_getElem? (i := 351) (by decide +kernel)⟩
theorem lw_p2 : lw_okq (⟨"BoundedSchemes$Reader", "begin", "(I)V"⟩, 13) := ⟨⟨by decide +kernel, by decide +kernel⟩, List.mem_of_getElem? (i := 138) (by decide +kernel), List.mem_of_getElem? (i := 354) (by decide +kernel), List.mem_of_getElem? (i := 355) (by decide +kernel)⟩
theorem lw_p3 : lw_okq (⟨"BoundedSchemes$Reader", "outerType", "(I)I"⟩, 13) := ⟨⟨by decide +kernel, by decide +kernel⟩, List.mem_of_getElem? (i := 138) (by decide +kernel), List.mem_of_getElem? (i := 361) (by decide +kernel), List.mem_of_getElem? (i := 362) (by decide +kernel)⟩
theorem lw_p4 : lw_okq (⟨"BoundedSchemes$Reader", "anyType", "(I)I"⟩, 13) := ⟨⟨by decide +kernel, by decide +kernel⟩, List.mem_of_getElem? (i := 138) (by decide +kernel), List.mem_of_getElem? (i := 365) (by decide +kernel), List.mem_of_getElem? (i := 366) (by decide +kernel)⟩
theorem lw_p5 : lw_okq (⟨"BoundedSchemes$Reader", "take", "(C)Z"⟩, 13) := ⟨⟨by decide +kernel, by decide +kernel⟩, List.mem_of_getElem? (i := 138) (by decide +kernel), List.mem_of_getElem? (i := 369) (by decide +kernel), List.mem_of_getElem? (i := 370) (by decide +kernel)⟩
theorem lw_p6 : lw_okq (⟨"BoundedSchemes$Reader", "next", "()C"⟩, 13) := ⟨⟨by decide +kernel, by decide +kernel⟩, List.mem_of_getElem? (i := 138) (by decide +kernel), List.mem_of_getElem? (i := 373) (by decide +kernel), List.mem_of_getElem? (i := 374) (by decide +kernel)⟩
theorem lw_p7 : lw_okq (⟨"BoundedSchemes$Reader", "takeBetween", "(CC)C"⟩, 13) := ⟨⟨by decide +kernel, by decide +kernel⟩, List.mem_of_getElem? (i := 138) (by decide +kernel), List.mem_of_getElem? (i := 377) (by decide +kernel), List.mem_of_getElem? (i := 378) (by decide +kernel)⟩
theorem lw_p8 : lw_okq (⟨"BoundedSchemes$Reader", "levelOf", "(C)I"⟩, 13) := ⟨⟨by decide +kernel, by decide +kernel⟩, List.mem_of_getElem? (i := 138) (by decide +kernel), List.mem_of_getElem? (i := 381) (by decide +kernel), List.mem_of_getElem? (i := 382) (by decide +kernel)⟩
theorem lw_p9 : lw_okq (⟨"BoundedSchemes$TypeRoom", "variable", "(I)I"⟩, 7) := ⟨⟨by decide +kernel, by decide +kernel⟩, List.mem_of_getElem? (i := 45) (by decide +kernel), List.mem_of_getElem? (i := 385) (by decide +kernel), List.mem_of_getElem? (i := 386) (by decide +kernel)⟩
theorem lw_p10 : lw_okq (⟨"BoundedSchemes$TypeRoom", "make", "(IIII)I"⟩, 7) := ⟨⟨by decide +kernel, by decide +kernel⟩, List.mem_of_getElem? (i := 45) (by decide +kernel), List.mem_of_getElem? (i := 389) (by decide +kernel), List.mem_of_getElem? (i := 390) (by decide +kernel)⟩
theorem lw_p11 : lw_okq (⟨"BoundedSchemes$TypeRoom", "grow", "()Z"⟩, 7) := ⟨⟨by decide +kernel, by decide +kernel⟩, List.mem_of_getElem? (i := 45) (by decide +kernel), List.mem_of_getElem? (i := 393) (by decide +kernel), List.mem_of_getElem? (i := 394) (by decide +kernel)⟩
theorem lw_p12 : lw_okq (⟨"BoundedSchemes$Reader", "recordParts", "(ZII)I"⟩, 13) := ⟨⟨by decide +kernel, by decide +kernel⟩, List.mem_of_getElem? (i := 138) (by decide +kernel), List.mem_of_getElem? (i := 415) (by decide +kernel), List.mem_of_getElem? (i := 416) (by decide +kernel)⟩
theorem lw_p13 : lw_okq (⟨"BoundedSchemes$Reader", "takeLabel", "(II)I"⟩, 13) := ⟨⟨by decide +kernel, by decide +kernel⟩, List.mem_of_getElem? (i := 138) (by decide +kernel), List.mem_of_getElem? (i := 419) (by decide +kernel), List.mem_of_getElem? (i := 420) (by decide +kernel)⟩
theorem lw_p14 : lw_okq (⟨"BoundedSchemes$Reader", "recordPart", "(ZI)I"⟩, 13) := ⟨⟨by decide +kernel, by decide +kernel⟩, List.mem_of_getElem? (i := 138) (by decide +kernel), List.mem_of_getElem? (i := 423) (by decide +kernel), List.mem_of_getElem? (i := 424) (by decide +kernel)⟩
theorem lw_p15 : lw_okq (⟨"BoundedSchemes$Reader", "anyTerm", "(I)I"⟩, 13) := ⟨⟨by decide +kernel, by decide +kernel⟩, List.mem_of_getElem? (i := 138) (by decide +kernel), List.mem_of_getElem? (i := 427) (by decide +kernel), List.mem_of_getElem? (i := 428) (by decide +kernel)⟩
def lw_privs_1 : List (MethodName × Nat) := [(⟨"BoundedSchemes$TypeRoom", "clear", "()V"⟩, 7), (⟨"BoundedSchemes$Reader", "readWholeType", "(I)I"⟩, 13), (⟨"BoundedSchemes$Reader", "begin", "(I)V"⟩, 13), (⟨"BoundedSchemes$Reader", "outerType", "(I)I"⟩, 13), (⟨"BoundedSchemes$Reader", "anyType", "(I)I"⟩, 13), (⟨"BoundedSchemes$Reader", "take", "(C)Z"⟩, 13), (⟨"BoundedSchemes$Reader", "next", "()C"⟩, 13), (⟨"BoundedSchemes$Reader", "takeBetween", "(CC)C"⟩, 13), (⟨"BoundedSchemes$Reader", "levelOf", "(C)I"⟩, 13), (⟨"BoundedSchemes$TypeRoom", "variable", "(I)I"⟩, 7), (⟨"BoundedSchemes$TypeRoom", "make", "(IIII)I"⟩, 7), (⟨"BoundedSchemes$TypeRoom", "grow", "()Z"⟩, 7), (⟨"BoundedSchemes$Reader", "recordParts", "(ZII)I"⟩, 13), (⟨"BoundedSchemes$Reader", "takeLabel", "(II)I"⟩, 13), (⟨"BoundedSchemes$Reader", "recordPart", "(ZI)I"⟩, 13), (⟨"BoundedSchemes$Reader", "anyTerm", "(I)I"⟩, 13)]
theorem lw_r1 : ∀ q ∈ lw_privs_1, lw_okq q := List.forall_mem_cons.mpr ⟨lw_p0, List.forall_mem_cons.mpr ⟨lw_p1, List.forall_mem_cons.mpr ⟨lw_p2, List.forall_mem_cons.mpr ⟨lw_p3, List.forall_mem_cons.mpr ⟨lw_p4, List.forall_mem_cons.mpr ⟨lw_p5, List.forall_mem_cons.mpr ⟨lw_p6, List.forall_mem_cons.mpr ⟨lw_p7, List.forall_mem_cons.mpr ⟨lw_p8, List.forall_mem_cons.mpr ⟨lw_p9, List.forall_mem_cons.mpr ⟨lw_p10, List.forall_mem_cons.mpr ⟨lw_p11, List.forall_mem_cons.mpr ⟨lw_p12, List.forall_mem_cons.mpr ⟨lw_p13, List.forall_mem_cons.mpr ⟨lw_p14, List.forall_mem_cons.mpr ⟨lw_p15, fun _ h => absurd h List.not_mem_nil⟩⟩⟩⟩⟩⟩⟩⟩⟩⟩⟩⟩⟩⟩⟩⟩
theorem lw_p16 : lw_okq (⟨"BoundedSchemes$Term", "add", "(II)I"⟩, 7) := ⟨⟨by decide +kernel, by decide +kernel⟩, List.mem_of_getElem? (i := 100) (by decide +kernel), List.mem_of_getElem? (i := 431) (by decide +kernel), List.mem_of_getElem? (i := 432) (by decide +kernel)⟩
theorem lw_p17 : lw_okq (⟨"BoundedSchemes$Reader", "binderOf", "(C)I"⟩, 13) := ⟨⟨by decide +kernel, by decide +kernel⟩, List.mem_of_getElem? (i := 138) (by decide +kernel), List.mem_of_getElem? (i := 435) (by decide +kernel), List.mem_of_getElem? (i := 436) (by decide +kernel)⟩
theorem lw_p18 : lw_okq (⟨"BoundedSchemes$Term", "fill", "(IIIII)V"⟩, 7) := ⟨⟨by decide +kernel, by decide +kernel⟩, List.mem_of_getElem? (i := 100) (by decide +kernel), List.mem_of_getElem? (i := 439) (by decide +kernel), List.mem_of_getElem? (i := 440) (by decide +kernel)⟩
theorem lw_p19 : lw_okq (⟨"BoundedSchemes$Reader", "holdingTerm", "(II)I"⟩, 13) := ⟨⟨by decide +kernel, by decide +kernel⟩, List.mem_of_getElem? (i := 138) (by decide +kernel), List.mem_of_getElem? (i := 443) (by decide +kernel), List.mem_of_getElem? (i := 444) (by decide +kernel)⟩
theorem lw_p20 : lw_okq (⟨"BoundedSchemes$Reader", "function", "(II)I"⟩, 13) := ⟨⟨by decide +kernel, by decide +kernel⟩, List.mem_of_getElem? (i := 138) (by decide +kernel), List.mem_of_getElem? (i := 447) (by decide +kernel), List.mem_of_getElem? (i := 448) (by decide +kernel)⟩
theorem lw_p21 : lw_okq (⟨"BoundedSchemes$Reader", "openName", "(CI)V"⟩, 13) := ⟨⟨by decide +kernel, by decide +kernel⟩, List.mem_of_getElem? (i := 138) (by decide +kernel), List.mem_of_getElem? (i := 451) (by decide +kernel), List.mem_of_getElem? (i := 452) (by decide +kernel)⟩
theorem lw_p22 : lw_okq (⟨"BoundedSchemes$Reader", "application", "(II)I"⟩, 13) := ⟨⟨by decide +kernel, by decide +kernel⟩, List.mem_of_getElem? (i := 138) (by decide +kernel), List.mem_of_getElem? (i := 455) (by decide +kernel), List.mem_of_getElem? (i := 456) (by decide +kernel)⟩
theorem lw_p23 : lw_okq (⟨"BoundedSchemes$Reader", "general", "(II)I"⟩, 13) := ⟨⟨by decide +kernel, by decide +kernel⟩, List.mem_of_getElem? (i := 138) (by decide +kernel), List.mem_of_getElem? (i := 459) (by decide +kernel), List.mem_of_getElem? (i := 460) (by decide +kernel)⟩
theorem lw_p24 : lw_okq (⟨"BoundedSchemes$Reader", "openType", "(C)V"⟩, 13) := ⟨⟨by decide +kernel, by decide +kernel⟩, List.mem_of_getElem? (i := 138) (by decide +kernel), List.mem_of_getElem? (i := 463) (by decide +kernel), List.mem_of_getElem? (i := 464) (by decide +kernel)⟩
theorem lw_p25 : lw_okq (⟨"BoundedSchemes$Reader", "special", "(II)I"⟩, 13) := ⟨⟨by decide +kernel, by decide +kernel⟩, List.mem_of_getElem? (i := 138) (by decide +kernel), List.mem_of_getElem? (i := 467) (by decide +kernel), List.mem_of_getElem? (i := 468) (by decide +kernel)⟩
theorem lw_p26 : lw_okq (⟨"BoundedSchemes$Reader", "selection", "(II)I"⟩, 13) := ⟨⟨by decide +kernel, by decide +kernel⟩, List.mem_of_getElem? (i := 138) (by decide +kernel), List.mem_of_getElem? (i := 471) (by decide +kernel), List.mem_of_getElem? (i := 472) (by decide +kernel)⟩
theorem lw_p27 : lw_okq (⟨"BoundedSchemes$Reader", "choice", "(II)I"⟩, 13) := ⟨⟨by decide +kernel, by decide +kernel⟩, List.mem_of_getElem? (i := 138) (by decide +kernel), List.mem_of_getElem? (i := 475) (by decide +kernel), List.mem_of_getElem? (i := 476) (by decide +kernel)⟩
theorem lw_p28 : lw_okq (⟨"BoundedSchemes$Reader", "functionType", "(I)I"⟩, 13) := ⟨⟨by decide +kernel, by decide +kernel⟩, List.mem_of_getElem? (i := 138) (by decide +kernel), List.mem_of_getElem? (i := 480) (by decide +kernel), List.mem_of_getElem? (i := 481) (by decide +kernel)⟩
theorem lw_p29 : lw_okq (⟨"BoundedSchemes$Reader", "schemeType", "(I)I"⟩, 13) := ⟨⟨by decide +kernel, by decide +kernel⟩, List.mem_of_getElem? (i := 138) (by decide +kernel), List.mem_of_getElem? (i := 484) (by decide +kernel), List.mem_of_getElem? (i := 485) (by decide +kernel)⟩
theorem lw_p30 : lw_okq (⟨"BoundedSchemes$Reader", "end", "(I)V"⟩, 13) := ⟨⟨by decide +kernel, by decide +kernel⟩, List.mem_of_getElem? (i := 138) (by decide +kernel), List.mem_of_getElem? (i := 488) (by decide +kernel), List.mem_of_getElem? (i := 489) (by decide +kernel)⟩
theorem lw_p31 : lw_okq (⟨"BoundedSchemes$TypeRoom", "keep", "(ILBoundedSchemes$KeptType;)V"⟩, 7) := ⟨⟨by decide +kernel, by decide +kernel⟩, List.mem_of_getElem? (i := 45) (by decide +kernel), List.mem_of_getElem? (i := 492) (by decide +kernel), List.mem_of_getElem? (i := 493) (by decide +kernel)⟩
def lw_privs_2 : List (MethodName × Nat) := [(⟨"BoundedSchemes$Term", "add", "(II)I"⟩, 7), (⟨"BoundedSchemes$Reader", "binderOf", "(C)I"⟩, 13), (⟨"BoundedSchemes$Term", "fill", "(IIIII)V"⟩, 7), (⟨"BoundedSchemes$Reader", "holdingTerm", "(II)I"⟩, 13), (⟨"BoundedSchemes$Reader", "function", "(II)I"⟩, 13), (⟨"BoundedSchemes$Reader", "openName", "(CI)V"⟩, 13), (⟨"BoundedSchemes$Reader", "application", "(II)I"⟩, 13), (⟨"BoundedSchemes$Reader", "general", "(II)I"⟩, 13), (⟨"BoundedSchemes$Reader", "openType", "(C)V"⟩, 13), (⟨"BoundedSchemes$Reader", "special", "(II)I"⟩, 13), (⟨"BoundedSchemes$Reader", "selection", "(II)I"⟩, 13), (⟨"BoundedSchemes$Reader", "choice", "(II)I"⟩, 13), (⟨"BoundedSchemes$Reader", "functionType", "(I)I"⟩, 13), (⟨"BoundedSchemes$Reader", "schemeType", "(I)I"⟩, 13), (⟨"BoundedSchemes$Reader", "end", "(I)V"⟩, 13), (⟨"BoundedSchemes$TypeRoom", "keep", "(ILBoundedSchemes$KeptType;)V"⟩, 7)]
theorem lw_r2 : ∀ q ∈ lw_privs_2, lw_okq q := List.forall_mem_cons.mpr ⟨lw_p16, List.forall_mem_cons.mpr ⟨lw_p17, List.forall_mem_cons.mpr ⟨lw_p18, List.forall_mem_cons.mpr ⟨lw_p19, List.forall_mem_cons.mpr ⟨lw_p20, List.forall_mem_cons.mpr ⟨lw_p21, List.forall_mem_cons.mpr ⟨lw_p22, List.forall_mem_cons.mpr ⟨lw_p23, List.forall_mem_cons.mpr ⟨lw_p24, List.forall_mem_cons.mpr ⟨lw_p25, List.forall_mem_cons.mpr ⟨lw_p26, List.forall_mem_cons.mpr ⟨lw_p27, List.forall_mem_cons.mpr ⟨lw_p28, List.forall_mem_cons.mpr ⟨lw_p29, List.forall_mem_cons.mpr ⟨lw_p30, List.forall_mem_cons.mpr ⟨lw_p31, fun _ h => absurd h List.not_mem_nil⟩⟩⟩⟩⟩⟩⟩⟩⟩⟩⟩⟩⟩⟩⟩⟩
theorem lw_p32 : lw_okq (⟨"BoundedSchemes$TypeRoom", "pack", "(ILBoundedSchemes$KeptType;I)V"⟩, 7) := ⟨⟨by decide +kernel, by decide +kernel⟩, List.mem_of_getElem? (i := 45) (by decide +kernel), List.mem_of_getElem? (i := 496) (by decide +kernel), List.mem_of_getElem? (i := 497) (by decide +kernel)⟩
theorem lw_p33 : lw_okq (⟨"BoundedSchemes$KeptType", "append", "(I)V"⟩, 3) := ⟨⟨by decide +kernel, by decide +kernel⟩, List.mem_of_getElem? (i := 24) (by decide +kernel), List.mem_of_getElem? (i := 500) (by decide +kernel), List.mem_of_getElem? (i := 501) (by decide +kernel)⟩
theorem lw_p34 : lw_okq (⟨"BoundedSchemes$TypeRoom", "part", "(II)I"⟩, 7) := ⟨⟨by decide +kernel, by decide +kernel⟩, List.mem_of_getElem? (i := 45) (by decide +kernel), List.mem_of_getElem? (i := 504) (by decide +kernel), List.mem_of_getElem? (i := 505) (by decide +kernel)⟩
theorem lw_p35 : lw_okq (⟨"BoundedSchemes$Reader", "readWholeTerm", "(ILBoundedSchemes$Term;)V"⟩, 13) := ⟨⟨by decide +kernel, by decide +kernel⟩, List.mem_of_getElem? (i := 138) (by decide +kernel), List.mem_of_getElem? (i := 512) (by decide +kernel), List.mem_of_getElem? (i := 513) (by decide +kernel)⟩
theorem lw_p36 : lw_okq (⟨"BoundedSchemes", "takeSpareAsTerm", "()V"⟩, 15) := ⟨⟨by decide +kernel, by decide +kernel⟩, List.mem_of_getElem? (i := 15) (by decide +kernel), List.mem_of_getElem? (i := 516) (by decide +kernel), List.mem_of_getElem? (i := 517) (by decide +kernel)⟩
theorem lw_p37 : lw_okq (⟨"BoundedSchemes$Checker", "begin", "(LBoundedSchemes$Term;)V"⟩, 3) := ⟨⟨by decide +kernel, by decide +kernel⟩, List.mem_of_getElem? (i := 187) (by decide +kernel), List.mem_of_getElem? (i := 520) (by decide +kernel), List.mem_of_getElem? (i := 521) (by decide +kernel)⟩
theorem lw_p38 : lw_okq (⟨"BoundedSchemes$Checker", "find", "(III)I"⟩, 3) := ⟨⟨by decide +kernel, by decide +kernel⟩, List.mem_of_getElem? (i := 187) (by decide +kernel), List.mem_of_getElem? (i := 524) (by decide +kernel), List.mem_of_getElem? (i := 525) (by decide +kernel)⟩
theorem lw_p39 : lw_okq (⟨"BoundedSchemes$Checker", "findByRule", "(III)I"⟩, 3) := ⟨⟨by decide +kernel, by decide +kernel⟩, List.mem_of_getElem? (i := 187) (by decide +kernel), List.mem_of_getElem? (i := 528) (by decide +kernel), List.mem_of_getElem? (i := 529) (by decide +kernel)⟩
theorem lw_p40 : lw_okq (⟨"BoundedSchemes$Checker", "ofVariable", "(II)I"⟩, 3) := ⟨⟨by decide +kernel, by decide +kernel⟩, List.mem_of_getElem? (i := 187) (by decide +kernel), List.mem_of_getElem? (i := 532) (by decide +kernel), List.mem_of_getElem? (i := 533) (by decide +kernel)⟩
theorem lw_p41 : lw_okq (⟨"BoundedSchemes$TypeRoom", "lift", "(IIII)I"⟩, 7) := ⟨⟨by decide +kernel, by decide +kernel⟩, List.mem_of_getElem? (i := 45) (by decide +kernel), List.mem_of_getElem? (i := 536) (by decide +kernel), List.mem_of_getElem? (i := 537) (by decide +kernel)⟩
theorem lw_p42 : lw_okq (⟨"BoundedSchemes$TypeRoom", "isVariable", "(I)Z"⟩, 7) := ⟨⟨by decide +kernel, by decide +kernel⟩, List.mem_of_getElem? (i := 45) (by decide +kernel), List.mem_of_getElem? (i := 540) (by decide +kernel), List.mem_of_getElem? (i := 541) (by decide +kernel)⟩
theorem lw_p43 : lw_okq (⟨"BoundedSchemes$TypeRoom", "levelOf", "(I)I"⟩, 7) := ⟨⟨by decide +kernel, by decide +kernel⟩, List.mem_of_getElem? (i := 45) (by decide +kernel), List.mem_of_getElem? (i := 544) (by decide +kernel), List.mem_of_getElem? (i := 545) (by decide +kernel)⟩
theorem lw_p44 : lw_okq (⟨"BoundedSchemes$TypeRoom", "remake", "(IIII)I"⟩, 7) := ⟨⟨by decide +kernel, by decide +kernel⟩, List.mem_of_getElem? (i := 45) (by decide +kernel), List.mem_of_getElem? (i := 550) (by decide +kernel), List.mem_of_getElem? (i := 551) (by decide +kernel)⟩
theorem lw_p45 : lw_okq (⟨"BoundedSchemes$Checker", "ofFunction", "(III)I"⟩, 3) := ⟨⟨by decide +kernel, by decide +kernel⟩, List.mem_of_getElem? (i := 187) (by decide +kernel), List.mem_of_getElem? (i := 554) (by decide +kernel), List.mem_of_getElem? (i := 555) (by decide +kernel)⟩
theorem lw_p46 : lw_okq (⟨"BoundedSchemes$Checker", "ofApplication", "(III)I"⟩, 3) := ⟨⟨by decide +kernel, by decide +kernel⟩, List.mem_of_getElem? (i := 187) (by decide +kernel), List.mem_of_getElem? (i := 560) (by decide +kernel), List.mem_of_getElem? (i := 561) (by decide +kernel)⟩
theorem lw_p47 : lw_okq (⟨"BoundedSchemes$TypeRoom", "exposed", "(II)I"⟩, 7) := ⟨⟨by decide +kernel, by decide +kernel⟩, List.mem_of_getElem? (i := 45) (by decide +kernel), List.mem_of_getElem? (i := 564) (by decide +kernel), List.mem_of_getElem? (i := 565) (by decide +kernel)⟩
def lw_privs_3 : List (MethodName × Nat) := [(⟨"BoundedSchemes$TypeRoom", "pack", "(ILBoundedSchemes$KeptType;I)V"⟩, 7), (⟨"BoundedSchemes$KeptType", "append", "(I)V"⟩, 3), (⟨"BoundedSchemes$TypeRoom", "part", "(II)I"⟩, 7), (⟨"BoundedSchemes$Reader", "readWholeTerm", "(ILBoundedSchemes$Term;)V"⟩, 13), (⟨"BoundedSchemes", "takeSpareAsTerm", "()V"⟩, 15), (⟨"BoundedSchemes$Checker", "begin", "(LBoundedSchemes$Term;)V"⟩, 3), (⟨"BoundedSchemes$Checker", "find", "(III)I"⟩, 3), (⟨"BoundedSchemes$Checker", "findByRule", "(III)I"⟩, 3), (⟨"BoundedSchemes$Checker", "ofVariable", "(II)I"⟩, 3), (⟨"BoundedSchemes$TypeRoom", "lift", "(IIII)I"⟩, 7), (⟨"BoundedSchemes$TypeRoom", "isVariable", "(I)Z"⟩, 7), (⟨"BoundedSchemes$TypeRoom", "levelOf", "(I)I"⟩, 7), (⟨"BoundedSchemes$TypeRoom", "remake", "(IIII)I"⟩, 7), (⟨"BoundedSchemes$Checker", "ofFunction", "(III)I"⟩, 3), (⟨"BoundedSchemes$Checker", "ofApplication", "(III)I"⟩, 3), (⟨"BoundedSchemes$TypeRoom", "exposed", "(II)I"⟩, 7)]
theorem lw_r3 : ∀ q ∈ lw_privs_3, lw_okq q := List.forall_mem_cons.mpr ⟨lw_p32, List.forall_mem_cons.mpr ⟨lw_p33, List.forall_mem_cons.mpr ⟨lw_p34, List.forall_mem_cons.mpr ⟨lw_p35, List.forall_mem_cons.mpr ⟨lw_p36, List.forall_mem_cons.mpr ⟨lw_p37, List.forall_mem_cons.mpr ⟨lw_p38, List.forall_mem_cons.mpr ⟨lw_p39, List.forall_mem_cons.mpr ⟨lw_p40, List.forall_mem_cons.mpr ⟨lw_p41, List.forall_mem_cons.mpr ⟨lw_p42, List.forall_mem_cons.mpr ⟨lw_p43, List.forall_mem_cons.mpr ⟨lw_p44, List.forall_mem_cons.mpr ⟨lw_p45, List.forall_mem_cons.mpr ⟨lw_p46, List.forall_mem_cons.mpr ⟨lw_p47, fun _ h => absurd h List.not_mem_nil⟩⟩⟩⟩⟩⟩⟩⟩⟩⟩⟩⟩⟩⟩⟩⟩
theorem lw_p48 : lw_okq (⟨"BoundedSchemes$TypeRoom", "boundOf", "(II)I"⟩, 7) := ⟨⟨by decide +kernel, by decide +kernel⟩, List.mem_of_getElem? (i := 45) (by decide +kernel), List.mem_of_getElem? (i := 568) (by decide +kernel), List.mem_of_getElem? (i := 569) (by decide +kernel)⟩
theorem lw_p49 : lw_okq (⟨"BoundedSchemes$TypeRoom", "isBelow", "(IIII)Z"⟩, 7) := ⟨⟨by decide +kernel, by decide +kernel⟩, List.mem_of_getElem? (i := 45) (by decide +kernel), List.mem_of_getElem? (i := 572) (by decide +kernel), List.mem_of_getElem? (i := 573) (by decide +kernel)⟩
theorem lw_p50 : lw_okq (⟨"BoundedSchemes$TypeRoom", "isBelowForm", "(IIII)Z"⟩, 7) := ⟨⟨by decide +kernel, by decide +kernel⟩, List.mem_of_getElem? (i := 45) (by decide +kernel), List.mem_of_getElem? (i := 576) (by decide +kernel), List.mem_of_getElem? (i := 577) (by decide +kernel)⟩
theorem lw_p51 : lw_okq (⟨"BoundedSchemes$TypeRoom", "areRecords", "(II)Z"⟩, 7) := ⟨⟨by decide +kernel, by decide +kernel⟩, List.mem_of_getElem? (i := 45) (by decide +kernel), List.mem_of_getElem? (i := 580) (by decide +kernel), List.mem_of_getElem? (i := 581) (by decide +kernel)⟩
theorem lw_p52 : lw_okq (⟨"BoundedSchemes$TypeRoom", "isRecord", "(I)Z"⟩, 7) := ⟨⟨by decide +kernel, by decide +kernel⟩, List.mem_of_getElem? (i := 45) (by decide +kernel), List.mem_of_getElem? (i := 584) (by decide +kernel), List.mem_of_getElem? (i := 585) (by decide +kernel)⟩
theorem lw_p53 : lw_okq (⟨"BoundedSchemes$TypeRoom", "isRecordBelow", "(IIII)Z"⟩, 7) := ⟨⟨by decide +kernel, by decide +kernel⟩, List.mem_of_getElem? (i := 45) (by decide +kernel), List.mem_of_getElem? (i := 588) (by decide +kernel), List.mem_of_getElem? (i := 589) (by decide +kernel)⟩
theorem lw_p54 : lw_okq (⟨"BoundedSchemes$TypeRoom", "haveSameBound", "(II)Z"⟩, 7) := ⟨⟨by decide +kernel, by decide +kernel⟩, List.mem_of_getElem? (i := 45) (by decide +kernel), List.mem_of_getElem? (i := 593) (by decide +kernel), List.mem_of_getElem? (i := 594) (by decide +kernel)⟩
theorem lw_p55 : lw_okq (⟨"BoundedSchemes$TypeRoom", "isSame", "(III)Z"⟩, 7) := ⟨⟨by decide +kernel, by decide +kernel⟩, List.mem_of_getElem? (i := 45) (by decide +kernel), List.mem_of_getElem? (i := 597) (by decide +kernel), List.mem_of_getElem? (i := 598) (by decide +kernel)⟩
theorem lw_p56 : lw_okq (⟨"BoundedSchemes$TypeRoom", "openOne", "(II)Z"⟩, 7) := ⟨⟨by decide +kernel, by decide +kernel⟩, List.mem_of_getElem? (i := 45) (by decide +kernel), List.mem_of_getElem? (i := 601) (by decide +kernel), List.mem_of_getElem? (i := 602) (by decide +kernel)⟩
theorem lw_p57 : lw_okq (⟨"BoundedSchemes$Checker", "ofGeneral", "(III)I"⟩, 3) := ⟨⟨by decide +kernel, by decide +kernel⟩, List.mem_of_getElem? (i := 187) (by decide +kernel), List.mem_of_getElem? (i := 605) (by decide +kernel), List.mem_of_getElem? (i := 606) (by decide +kernel)⟩
theorem lw_p58 : lw_okq (⟨"BoundedSchemes$Checker", "ofSpecial", "(III)I"⟩, 3) := ⟨⟨by decide +kernel, by decide +kernel⟩, List.mem_of_getElem? (i := 187) (by decide +kernel), List.mem_of_getElem? (i := 610) (by decide +kernel), List.mem_of_getElem? (i := 611) (by decide +kernel)⟩
theorem lw_p59 : lw_okq (⟨"BoundedSchemes$TypeRoom", "replace", "(IIIII)I"⟩, 7) := ⟨⟨by decide +kernel, by decide +kernel⟩, List.mem_of_getElem? (i := 45) (by decide +kernel), List.mem_of_getElem? (i := 614) (by decide +kernel), List.mem_of_getElem? (i := 615) (by decide +kernel)⟩
theorem lw_p60 : lw_okq (⟨"BoundedSchemes$Checker", "ofRecord", "(III)I"⟩, 3) := ⟨⟨by decide +kernel, by decide +kernel⟩, List.mem_of_getElem? (i := 187) (by decide +kernel), List.mem_of_getElem? (i := 619) (by decide +kernel), List.mem_of_getElem? (i := 620) (by decide +kernel)⟩
theorem lw_p61 : lw_okq (⟨"BoundedSchemes$Checker", "ofPart", "(IIII)I"⟩, 3) := ⟨⟨by decide +kernel, by decide +kernel⟩, List.mem_of_getElem? (i := 187) (by decide +kernel), List.mem_of_getElem? (i := 623) (by decide +kernel), List.mem_of_getElem? (i := 624) (by decide +kernel)⟩
theorem lw_p62 : lw_okq (⟨"BoundedSchemes$Term", "holds", "(II)Z"⟩, 7) := ⟨⟨by decide +kernel, by decide +kernel⟩, List.mem_of_getElem? (i := 100) (by decide +kernel), List.mem_of_getElem? (i := 627) (by decide +kernel), List.mem_of_getElem? (i := 628) (by decide +kernel)⟩
theorem lw_p63 : lw_okq (⟨"BoundedSchemes$Term", "part", "(II)I"⟩, 7) := ⟨⟨by decide +kernel, by decide +kernel⟩, List.mem_of_getElem? (i := 100) (by decide +kernel), List.mem_of_getElem? (i := 631) (by decide +kernel), List.mem_of_getElem? (i := 632) (by decide +kernel)⟩
def lw_privs_4 : List (MethodName × Nat) := [(⟨"BoundedSchemes$TypeRoom", "boundOf", "(II)I"⟩, 7), (⟨"BoundedSchemes$TypeRoom", "isBelow", "(IIII)Z"⟩, 7), (⟨"BoundedSchemes$TypeRoom", "isBelowForm", "(IIII)Z"⟩, 7), (⟨"BoundedSchemes$TypeRoom", "areRecords", "(II)Z"⟩, 7), (⟨"BoundedSchemes$TypeRoom", "isRecord", "(I)Z"⟩, 7), (⟨"BoundedSchemes$TypeRoom", "isRecordBelow", "(IIII)Z"⟩, 7), (⟨"BoundedSchemes$TypeRoom", "haveSameBound", "(II)Z"⟩, 7), (⟨"BoundedSchemes$TypeRoom", "isSame", "(III)Z"⟩, 7), (⟨"BoundedSchemes$TypeRoom", "openOne", "(II)Z"⟩, 7), (⟨"BoundedSchemes$Checker", "ofGeneral", "(III)I"⟩, 3), (⟨"BoundedSchemes$Checker", "ofSpecial", "(III)I"⟩, 3), (⟨"BoundedSchemes$TypeRoom", "replace", "(IIIII)I"⟩, 7), (⟨"BoundedSchemes$Checker", "ofRecord", "(III)I"⟩, 3), (⟨"BoundedSchemes$Checker", "ofPart", "(IIII)I"⟩, 3), (⟨"BoundedSchemes$Term", "holds", "(II)Z"⟩, 7), (⟨"BoundedSchemes$Term", "part", "(II)I"⟩, 7)]
theorem lw_r4 : ∀ q ∈ lw_privs_4, lw_okq q := List.forall_mem_cons.mpr ⟨lw_p48, List.forall_mem_cons.mpr ⟨lw_p49, List.forall_mem_cons.mpr ⟨lw_p50, List.forall_mem_cons.mpr ⟨lw_p51, List.forall_mem_cons.mpr ⟨lw_p52, List.forall_mem_cons.mpr ⟨lw_p53, List.forall_mem_cons.mpr ⟨lw_p54, List.forall_mem_cons.mpr ⟨lw_p55, List.forall_mem_cons.mpr ⟨lw_p56, List.forall_mem_cons.mpr ⟨lw_p57, List.forall_mem_cons.mpr ⟨lw_p58, List.forall_mem_cons.mpr ⟨lw_p59, List.forall_mem_cons.mpr ⟨lw_p60, List.forall_mem_cons.mpr ⟨lw_p61, List.forall_mem_cons.mpr ⟨lw_p62, List.forall_mem_cons.mpr ⟨lw_p63, fun _ h => absurd h List.not_mem_nil⟩⟩⟩⟩⟩⟩⟩⟩⟩⟩⟩⟩⟩⟩⟩⟩
theorem lw_p64 : lw_okq (⟨"BoundedSchemes$Checker", "ofSelection", "(III)I"⟩, 3) := ⟨⟨by decide +kernel, by decide +kernel⟩, List.mem_of_getElem? (i := 187) (by decide +kernel), List.mem_of_getElem? (i := 635) (by decide +kernel), List.mem_of_getElem? (i := 636) (by decide +kernel)⟩
theorem lw_p65 : lw_okq (⟨"BoundedSchemes$Checker", "ofChoice", "(III)I"⟩, 3) := ⟨⟨by decide +kernel, by decide +kernel⟩, List.mem_of_getElem? (i := 187) (by decide +kernel), List.mem_of_getElem? (i := 642) (by decide +kernel), List.mem_of_getElem? (i := 643) (by decide +kernel)⟩
theorem lw_p66 : lw_okq (⟨"BoundedSchemes$TypeRoom", "joinOf", "(IIII)I"⟩, 7) := ⟨⟨by decide +kernel, by decide +kernel⟩, List.mem_of_getElem? (i := 45) (by decide +kernel), List.mem_of_getElem? (i := 646) (by decide +kernel), List.mem_of_getElem? (i := 647) (by decide +kernel)⟩
theorem lw_p67 : lw_okq (⟨"BoundedSchemes$TypeRoom", "joinOfForms", "(IIII)I"⟩, 7) := ⟨⟨by decide +kernel, by decide +kernel⟩, List.mem_of_getElem? (i := 45) (by decide +kernel), List.mem_of_getElem? (i := 650) (by decide +kernel), List.mem_of_getElem? (i := 651) (by decide +kernel)⟩
theorem lw_p68 : lw_okq (⟨"BoundedSchemes$TypeRoom", "joinOfParts", "(IIIII)I"⟩, 7) := ⟨⟨by decide +kernel, by decide +kernel⟩, List.mem_of_getElem? (i := 45) (by decide +kernel), List.mem_of_getElem? (i := 654) (by decide +kernel), List.mem_of_getElem? (i := 655) (by decide +kernel)⟩
theorem lw_p69 : lw_okq (⟨"BoundedSchemes$TypeRoom", "meetOf", "(IIII)I"⟩, 7) := ⟨⟨by decide +kernel, by decide +kernel⟩, List.mem_of_getElem? (i := 45) (by decide +kernel), List.mem_of_getElem? (i := 659) (by decide +kernel), List.mem_of_getElem? (i := 660) (by decide +kernel)⟩
theorem lw_p70 : lw_okq (⟨"BoundedSchemes$TypeRoom", "meetOfForms", "(IIII)I"⟩, 7) := ⟨⟨by decide +kernel, by decide +kernel⟩, List.mem_of_getElem? (i := 45) (by decide +kernel), List.mem_of_getElem? (i := 663) (by decide +kernel), List.mem_of_getElem? (i := 664) (by decide +kernel)⟩
theorem lw_p71 : lw_okq (⟨"BoundedSchemes$TypeRoom", "meetOfRecords", "(IIII)I"⟩, 7) := ⟨⟨by decide +kernel, by decide +kernel⟩, List.mem_of_getElem? (i := 45) (by decide +kernel), List.mem_of_getElem? (i := 667) (by decide +kernel), List.mem_of_getElem? (i := 668) (by decide +kernel)⟩
theorem lw_p72 : lw_okq (⟨"BoundedSchemes$TypeRoom", "meetOfParts", "(IIIII)I"⟩, 7) := ⟨⟨by decide +kernel, by decide +kernel⟩, List.mem_of_getElem? (i := 45) (by decide +kernel), List.mem_of_getElem? (i := 671) (by decide +kernel), List.mem_of_getElem? (i := 672) (by decide +kernel)⟩
theorem lw_p73 : lw_okq (⟨"BoundedSchemes", "hasType", "(I)Z"⟩, 15) := ⟨⟨by decide +kernel, by decide +kernel⟩, List.mem_of_getElem? (i := 15) (by decide +kernel), List.mem_of_getElem? (i := 679) (by decide +kernel), List.mem_of_getElem? (i := 680) (by decide +kernel)⟩
theorem lw_p74 : lw_okq (⟨"BoundedSchemes", "keptBelow", "(LBoundedSchemes$KeptType;LBoundedSchemes$KeptType;)Z"⟩, 15) := ⟨⟨by decide +kernel, by decide +kernel⟩, List.mem_of_getElem? (i := 15) (by decide +kernel), List.mem_of_getElem? (i := 683) (by decide +kernel), List.mem_of_getElem? (i := 684) (by decide +kernel)⟩
theorem lw_p75 : lw_okq (⟨"BoundedSchemes$TypeRoom", "unpack", "(LBoundedSchemes$KeptType;)I"⟩, 7) := ⟨⟨by decide +kernel, by decide +kernel⟩, List.mem_of_getElem? (i := 45) (by decide +kernel), List.mem_of_getElem? (i := 687) (by decide +kernel), List.mem_of_getElem? (i := 688) (by decide +kernel)⟩
theorem lw_p76 : lw_okq (⟨"BoundedSchemes$TypeRoom", "unpackNext", "(LBoundedSchemes$KeptType;I)I"⟩, 7) := ⟨⟨by decide +kernel, by decide +kernel⟩, List.mem_of_getElem? (i := 45) (by decide +kernel), List.mem_of_getElem? (i := 691) (by decide +kernel), List.mem_of_getElem? (i := 692) (by decide +kernel)⟩
theorem lw_p77 : lw_okq (⟨"BoundedSchemes", "keepMade", "(II)I"⟩, 15) := ⟨⟨by decide +kernel, by decide +kernel⟩, List.mem_of_getElem? (i := 15) (by decide +kernel), List.mem_of_getElem? (i := 706) (by decide +kernel), List.mem_of_getElem? (i := 707) (by decide +kernel)⟩
theorem lw_p78 : lw_okq (⟨"BoundedSchemes$Page", "begin", "()V"⟩, 4) := ⟨⟨by decide +kernel, by decide +kernel⟩, List.mem_of_getElem? (i := 79) (by decide +kernel), List.mem_of_getElem? (i := 723) (by decide +kernel), List.mem_of_getElem? (i := 724) (by decide +kernel)⟩
theorem lw_p79 : lw_okq (⟨"BoundedSchemes$TypeRoom", "writeOn", "(LBoundedSchemes$Page;III)V"⟩, 7) := ⟨⟨by decide +kernel, by decide +kernel⟩, List.mem_of_getElem? (i := 45) (by decide +kernel), List.mem_of_getElem? (i := 727) (by decide +kernel), List.mem_of_getElem? (i := 728) (by decide +kernel)⟩
def lw_privs_5 : List (MethodName × Nat) := [(⟨"BoundedSchemes$Checker", "ofSelection", "(III)I"⟩, 3), (⟨"BoundedSchemes$Checker", "ofChoice", "(III)I"⟩, 3), (⟨"BoundedSchemes$TypeRoom", "joinOf", "(IIII)I"⟩, 7), (⟨"BoundedSchemes$TypeRoom", "joinOfForms", "(IIII)I"⟩, 7), (⟨"BoundedSchemes$TypeRoom", "joinOfParts", "(IIIII)I"⟩, 7), (⟨"BoundedSchemes$TypeRoom", "meetOf", "(IIII)I"⟩, 7), (⟨"BoundedSchemes$TypeRoom", "meetOfForms", "(IIII)I"⟩, 7), (⟨"BoundedSchemes$TypeRoom", "meetOfRecords", "(IIII)I"⟩, 7), (⟨"BoundedSchemes$TypeRoom", "meetOfParts", "(IIIII)I"⟩, 7), (⟨"BoundedSchemes", "hasType", "(I)Z"⟩, 15), (⟨"BoundedSchemes", "keptBelow", "(LBoundedSchemes$KeptType;LBoundedSchemes$KeptType;)Z"⟩, 15), (⟨"BoundedSchemes$TypeRoom", "unpack", "(LBoundedSchemes$KeptType;)I"⟩, 7), (⟨"BoundedSchemes$TypeRoom", "unpackNext", "(LBoundedSchemes$KeptType;I)I"⟩, 7), (⟨"BoundedSchemes", "keepMade", "(II)I"⟩, 15), (⟨"BoundedSchemes$Page", "begin", "()V"⟩, 4), (⟨"BoundedSchemes$TypeRoom", "writeOn", "(LBoundedSchemes$Page;III)V"⟩, 7)]
theorem lw_r5 : ∀ q ∈ lw_privs_5, lw_okq q := List.forall_mem_cons.mpr ⟨lw_p64, List.forall_mem_cons.mpr ⟨lw_p65, List.forall_mem_cons.mpr ⟨lw_p66, List.forall_mem_cons.mpr ⟨lw_p67, List.forall_mem_cons.mpr ⟨lw_p68, List.forall_mem_cons.mpr ⟨lw_p69, List.forall_mem_cons.mpr ⟨lw_p70, List.forall_mem_cons.mpr ⟨lw_p71, List.forall_mem_cons.mpr ⟨lw_p72, List.forall_mem_cons.mpr ⟨lw_p73, List.forall_mem_cons.mpr ⟨lw_p74, List.forall_mem_cons.mpr ⟨lw_p75, List.forall_mem_cons.mpr ⟨lw_p76, List.forall_mem_cons.mpr ⟨lw_p77, List.forall_mem_cons.mpr ⟨lw_p78, List.forall_mem_cons.mpr ⟨lw_p79, fun _ h => absurd h List.not_mem_nil⟩⟩⟩⟩⟩⟩⟩⟩⟩⟩⟩⟩⟩⟩⟩⟩
theorem lw_p80 : lw_okq (⟨"BoundedSchemes$Page", "put", "(C)V"⟩, 4) := ⟨⟨by decide +kernel, by decide +kernel⟩, List.mem_of_getElem? (i := 79) (by decide +kernel), List.mem_of_getElem? (i := 734) (by decide +kernel), List.mem_of_getElem? (i := 735) (by decide +kernel)⟩
theorem lw_p81 : lw_okq (⟨"BoundedSchemes$TypeRoom", "writeRecordOn", "(LBoundedSchemes$Page;III)V"⟩, 7) := ⟨⟨by decide +kernel, by decide +kernel⟩, List.mem_of_getElem? (i := 45) (by decide +kernel), List.mem_of_getElem? (i := 739) (by decide +kernel), List.mem_of_getElem? (i := 740) (by decide +kernel)⟩
theorem lw_p82 : lw_okq (⟨"BoundedSchemes$Page", "show", "()I"⟩, 4) := ⟨⟨by decide +kernel, by decide +kernel⟩, List.mem_of_getElem? (i := 79) (by decide +kernel), List.mem_of_getElem? (i := 743) (by decide +kernel), List.mem_of_getElem? (i := 744) (by decide +kernel)⟩
theorem lw_p83 : lw_okq (⟨"BoundedSchemes$Page", "isOver", "()Z"⟩, 4) := ⟨⟨by decide +kernel, by decide +kernel⟩, List.mem_of_getElem? (i := 79) (by decide +kernel), List.mem_of_getElem? (i := 747) (by decide +kernel), List.mem_of_getElem? (i := 748) (by decide +kernel)⟩
theorem lw_p84 : lw_okq (⟨"BoundedSchemes$KeptType", "copyFrom", "(LBoundedSchemes$KeptType;)V"⟩, 3) := ⟨⟨by decide +kernel, by decide +kernel⟩, List.mem_of_getElem? (i := 24) (by decide +kernel), List.mem_of_getElem? (i := 759) (by decide +kernel), List.mem_of_getElem? (i := 760) (by decide +kernel)⟩
theorem lw_p85 : lw_okq (⟨"BoundedSchemes", "termHasType", "()Z"⟩, 15) := ⟨⟨by decide +kernel, by decide +kernel⟩, List.mem_of_getElem? (i := 15) (by decide +kernel), List.mem_of_getElem? (i := 767) (by decide +kernel), List.mem_of_getElem? (i := 768) (by decide +kernel)⟩
theorem lw_p86 : lw_okq (⟨"BoundedSchemes$Machine", "run", "(LBoundedSchemes$Term;)V"⟩, 17) := ⟨⟨by decide +kernel, by decide +kernel⟩, List.mem_of_getElem? (i := 204) (by decide +kernel), List.mem_of_getElem? (i := 775) (by decide +kernel), List.mem_of_getElem? (i := 776) (by decide +kernel)⟩
theorem lw_p87 : lw_okq (⟨"BoundedSchemes$Machine", "goTo", "(II)V"⟩, 17) := ⟨⟨by decide +kernel, by decide +kernel⟩, List.mem_of_getElem? (i := 204) (by decide +kernel), List.mem_of_getElem? (i := 779) (by decide +kernel), List.mem_of_getElem? (i := 780) (by decide +kernel)⟩
theorem lw_p88 : lw_okq (⟨"BoundedSchemes$Machine", "enter", "()V"⟩, 17) := ⟨⟨by decide +kernel, by decide +kernel⟩, List.mem_of_getElem? (i := 204) (by decide +kernel), List.mem_of_getElem? (i := 784) (by decide +kernel), List.mem_of_getElem? (i := 785) (by decide +kernel)⟩
theorem lw_p89 : lw_okq (⟨"BoundedSchemes$Machine", "valueOf", "(I)I"⟩, 17) := ⟨⟨by decide +kernel, by decide +kernel⟩, List.mem_of_getElem? (i := 204) (by decide +kernel), List.mem_of_getElem? (i := 788) (by decide +kernel), List.mem_of_getElem? (i := 789) (by decide +kernel)⟩
theorem lw_p90 : lw_okq (⟨"BoundedSchemes$Values", "make", "(II)I"⟩, 5) := ⟨⟨by decide +kernel, by decide +kernel⟩, List.mem_of_getElem? (i := 210) (by decide +kernel), List.mem_of_getElem? (i := 792) (by decide +kernel), List.mem_of_getElem? (i := 793) (by decide +kernel)⟩
theorem lw_p91 : lw_okq (⟨"BoundedSchemes$Values", "grow", "()Z"⟩, 5) := ⟨⟨by decide +kernel, by decide +kernel⟩, List.mem_of_getElem? (i := 210) (by decide +kernel), List.mem_of_getElem? (i := 796) (by decide +kernel), List.mem_of_getElem? (i := 797) (by decide +kernel)⟩
theorem lw_p92 : lw_okq (⟨"BoundedSchemes$Machine", "enterRecord", "()V"⟩, 17) := ⟨⟨by decide +kernel, by decide +kernel⟩, List.mem_of_getElem? (i := 204) (by decide +kernel), List.mem_of_getElem? (i := 802) (by decide +kernel), List.mem_of_getElem? (i := 803) (by decide +kernel)⟩
theorem lw_p93 : lw_okq (⟨"BoundedSchemes$Term", "labelFrom", "(II)I"⟩, 7) := ⟨⟨by decide +kernel, by decide +kernel⟩, List.mem_of_getElem? (i := 100) (by decide +kernel), List.mem_of_getElem? (i := 806) (by decide +kernel), List.mem_of_getElem? (i := 807) (by decide +kernel)⟩
theorem lw_p94 : lw_okq (⟨"BoundedSchemes$Machine", "push", "(II)V"⟩, 17) := ⟨⟨by decide +kernel, by decide +kernel⟩, List.mem_of_getElem? (i := 204) (by decide +kernel), List.mem_of_getElem? (i := 811) (by decide +kernel), List.mem_of_getElem? (i := 812) (by decide +kernel)⟩
theorem lw_p95 : lw_okq (⟨"BoundedSchemes$Machine", "grow", "()Z"⟩, 17) := ⟨⟨by decide +kernel, by decide +kernel⟩, List.mem_of_getElem? (i := 204) (by decide +kernel), List.mem_of_getElem? (i := 815) (by decide +kernel), List.mem_of_getElem? (i := 816) (by decide +kernel)⟩
def lw_privs_6 : List (MethodName × Nat) := [(⟨"BoundedSchemes$Page", "put", "(C)V"⟩, 4), (⟨"BoundedSchemes$TypeRoom", "writeRecordOn", "(LBoundedSchemes$Page;III)V"⟩, 7), (⟨"BoundedSchemes$Page", "show", "()I"⟩, 4), (⟨"BoundedSchemes$Page", "isOver", "()Z"⟩, 4), (⟨"BoundedSchemes$KeptType", "copyFrom", "(LBoundedSchemes$KeptType;)V"⟩, 3), (⟨"BoundedSchemes", "termHasType", "()Z"⟩, 15), (⟨"BoundedSchemes$Machine", "run", "(LBoundedSchemes$Term;)V"⟩, 17), (⟨"BoundedSchemes$Machine", "goTo", "(II)V"⟩, 17), (⟨"BoundedSchemes$Machine", "enter", "()V"⟩, 17), (⟨"BoundedSchemes$Machine", "valueOf", "(I)I"⟩, 17), (⟨"BoundedSchemes$Values", "make", "(II)I"⟩, 5), (⟨"BoundedSchemes$Values", "grow", "()Z"⟩, 5), (⟨"BoundedSchemes$Machine", "enterRecord", "()V"⟩, 17), (⟨"BoundedSchemes$Term", "labelFrom", "(II)I"⟩, 7), (⟨"BoundedSchemes$Machine", "push", "(II)V"⟩, 17), (⟨"BoundedSchemes$Machine", "grow", "()Z"⟩, 17)]
theorem lw_r6 : ∀ q ∈ lw_privs_6, lw_okq q := List.forall_mem_cons.mpr ⟨lw_p80, List.forall_mem_cons.mpr ⟨lw_p81, List.forall_mem_cons.mpr ⟨lw_p82, List.forall_mem_cons.mpr ⟨lw_p83, List.forall_mem_cons.mpr ⟨lw_p84, List.forall_mem_cons.mpr ⟨lw_p85, List.forall_mem_cons.mpr ⟨lw_p86, List.forall_mem_cons.mpr ⟨lw_p87, List.forall_mem_cons.mpr ⟨lw_p88, List.forall_mem_cons.mpr ⟨lw_p89, List.forall_mem_cons.mpr ⟨lw_p90, List.forall_mem_cons.mpr ⟨lw_p91, List.forall_mem_cons.mpr ⟨lw_p92, List.forall_mem_cons.mpr ⟨lw_p93, List.forall_mem_cons.mpr ⟨lw_p94, List.forall_mem_cons.mpr ⟨lw_p95, fun _ h => absurd h List.not_mem_nil⟩⟩⟩⟩⟩⟩⟩⟩⟩⟩⟩⟩⟩⟩⟩⟩
theorem lw_p96 : lw_okq (⟨"BoundedSchemes$Machine", "countStep", "()Z"⟩, 17) := ⟨⟨by decide +kernel, by decide +kernel⟩, List.mem_of_getElem? (i := 204) (by decide +kernel), List.mem_of_getElem? (i := 822) (by decide +kernel), List.mem_of_getElem? (i := 823) (by decide +kernel)⟩
theorem lw_p97 : lw_okq (⟨"BoundedSchemes$Machine", "goOn", "(I)V"⟩, 17) := ⟨⟨by decide +kernel, by decide +kernel⟩, List.mem_of_getElem? (i := 204) (by decide +kernel), List.mem_of_getElem? (i := 826) (by decide +kernel), List.mem_of_getElem? (i := 827) (by decide +kernel)⟩
theorem lw_p98 : lw_okq (⟨"BoundedSchemes$Machine", "goOnApplication", "(I)V"⟩, 17) := ⟨⟨by decide +kernel, by decide +kernel⟩, List.mem_of_getElem? (i := 204) (by decide +kernel), List.mem_of_getElem? (i := 830) (by decide +kernel), List.mem_of_getElem? (i := 831) (by decide +kernel)⟩
theorem lw_p99 : lw_okq (⟨"BoundedSchemes$Machine", "isOfKind", "(II)Z"⟩, 17) := ⟨⟨by decide +kernel, by decide +kernel⟩, List.mem_of_getElem? (i := 204) (by decide +kernel), List.mem_of_getElem? (i := 834) (by decide +kernel), List.mem_of_getElem? (i := 835) (by decide +kernel)⟩
theorem lw_p100 : lw_okq (⟨"BoundedSchemes$Machine", "newScope", "(III)I"⟩, 17) := ⟨⟨by decide +kernel, by decide +kernel⟩, List.mem_of_getElem? (i := 204) (by decide +kernel), List.mem_of_getElem? (i := 838) (by decide +kernel), List.mem_of_getElem? (i := 839) (by decide +kernel)⟩
theorem lw_p101 : lw_okq (⟨"BoundedSchemes$Values", "part", "(II)I"⟩, 5) := ⟨⟨by decide +kernel, by decide +kernel⟩, List.mem_of_getElem? (i := 210) (by decide +kernel), List.mem_of_getElem? (i := 842) (by decide +kernel), List.mem_of_getElem? (i := 843) (by decide +kernel)⟩
theorem lw_p102 : lw_okq (⟨"BoundedSchemes$Machine", "goOnRecord", "(I)V"⟩, 17) := ⟨⟨by decide +kernel, by decide +kernel⟩, List.mem_of_getElem? (i := 204) (by decide +kernel), List.mem_of_getElem? (i := 846) (by decide +kernel), List.mem_of_getElem? (i := 847) (by decide +kernel)⟩
theorem lw_p103 : lw_okq (⟨"BoundedSchemes$Values", "setPart", "(III)V"⟩, 5) := ⟨⟨by decide +kernel, by decide +kernel⟩, List.mem_of_getElem? (i := 210) (by decide +kernel), List.mem_of_getElem? (i := 850) (by decide +kernel), List.mem_of_getElem? (i := 851) (by decide +kernel)⟩
theorem lw_p104 : lw_okq (⟨"BoundedSchemes$Machine", "writeOn", "(LBoundedSchemes$Page;II)V"⟩, 17) := ⟨⟨by decide +kernel, by decide +kernel⟩, List.mem_of_getElem? (i := 204) (by decide +kernel), List.mem_of_getElem? (i := 867) (by decide +kernel), List.mem_of_getElem? (i := 868) (by decide +kernel)⟩
theorem lw_p105 : lw_okq (⟨"BoundedSchemes$Machine", "writeRecordOn", "(LBoundedSchemes$Page;II)V"⟩, 17) := ⟨⟨by decide +kernel, by decide +kernel⟩, List.mem_of_getElem? (i := 204) (by decide +kernel), List.mem_of_getElem? (i := 873) (by decide +kernel), List.mem_of_getElem? (i := 874) (by decide +kernel)⟩
theorem lw_p106 : lw_okq (⟨"BoundedSchemesModel", "isSlot", "(I)Z"⟩, 66) := ⟨⟨by decide +kernel, by decide +kernel⟩, List.mem_of_getElem? (i := 879) (by decide +kernel), List.mem_of_getElem? (i := 1093) (by decide +kernel), List.mem_of_getElem? (i := 1094) (by decide +kernel)⟩
theorem lw_p107 : lw_okq (⟨"BoundedSchemesModel", "read", "(I)I"⟩, 66) := ⟨⟨by decide +kernel, by decide +kernel⟩, List.mem_of_getElem? (i := 879) (by decide +kernel), List.mem_of_getElem? (i := 1097) (by decide +kernel), List.mem_of_getElem? (i := 1098) (by decide +kernel)⟩
theorem lw_p108 : lw_okq (⟨"BoundedSchemesModel", "expect", "(IIII)V"⟩, 66) := ⟨⟨by decide +kernel, by decide +kernel⟩, List.mem_of_getElem? (i := 879) (by decide +kernel), List.mem_of_getElem? (i := 1101) (by decide +kernel), List.mem_of_getElem? (i := 1102) (by decide +kernel)⟩
theorem lw_p109 : lw_okq (⟨"BoundedSchemesModel", "take", "(II)Z"⟩, 66) := ⟨⟨by decide +kernel, by decide +kernel⟩, List.mem_of_getElem? (i := 879) (by decide +kernel), List.mem_of_getElem? (i := 1105) (by decide +kernel), List.mem_of_getElem? (i := 1106) (by decide +kernel)⟩
theorem lw_p110 : lw_okq (⟨"BoundedSchemesModel", "beginType", "(IIII)Z"⟩, 66) := ⟨⟨by decide +kernel, by decide +kernel⟩, List.mem_of_getElem? (i := 879) (by decide +kernel), List.mem_of_getElem? (i := 1109) (by decide +kernel), List.mem_of_getElem? (i := 1110) (by decide +kernel)⟩
theorem lw_p111 : lw_okq (⟨"BoundedSchemesModel", "add", "(IIII)I"⟩, 66) := ⟨⟨by decide +kernel, by decide +kernel⟩, List.mem_of_getElem? (i := 879) (by decide +kernel), List.mem_of_getElem? (i := 1113) (by decide +kernel), List.mem_of_getElem? (i := 1114) (by decide +kernel)⟩
def lw_privs_7 : List (MethodName × Nat) := [(⟨"BoundedSchemes$Machine", "countStep", "()Z"⟩, 17), (⟨"BoundedSchemes$Machine", "goOn", "(I)V"⟩, 17), (⟨"BoundedSchemes$Machine", "goOnApplication", "(I)V"⟩, 17), (⟨"BoundedSchemes$Machine", "isOfKind", "(II)Z"⟩, 17), (⟨"BoundedSchemes$Machine", "newScope", "(III)I"⟩, 17), (⟨"BoundedSchemes$Values", "part", "(II)I"⟩, 5), (⟨"BoundedSchemes$Machine", "goOnRecord", "(I)V"⟩, 17), (⟨"BoundedSchemes$Values", "setPart", "(III)V"⟩, 5), (⟨"BoundedSchemes$Machine", "writeOn", "(LBoundedSchemes$Page;II)V"⟩, 17), (⟨"BoundedSchemes$Machine", "writeRecordOn", "(LBoundedSchemes$Page;II)V"⟩, 17), (⟨"BoundedSchemesModel", "isSlot", "(I)Z"⟩, 66), (⟨"BoundedSchemesModel", "read", "(I)I"⟩, 66), (⟨"BoundedSchemesModel", "expect", "(IIII)V"⟩, 66), (⟨"BoundedSchemesModel", "take", "(II)Z"⟩, 66), (⟨"BoundedSchemesModel", "beginType", "(IIII)Z"⟩, 66), (⟨"BoundedSchemesModel", "add", "(IIII)I"⟩, 66)]
theorem lw_r7 : ∀ q ∈ lw_privs_7, lw_okq q := List.forall_mem_cons.mpr ⟨lw_p96, List.forall_mem_cons.mpr ⟨lw_p97, List.forall_mem_cons.mpr ⟨lw_p98, List.forall_mem_cons.mpr ⟨lw_p99, List.forall_mem_cons.mpr ⟨lw_p100, List.forall_mem_cons.mpr ⟨lw_p101, List.forall_mem_cons.mpr ⟨lw_p102, List.forall_mem_cons.mpr ⟨lw_p103, List.forall_mem_cons.mpr ⟨lw_p104, List.forall_mem_cons.mpr ⟨lw_p105, List.forall_mem_cons.mpr ⟨lw_p106, List.forall_mem_cons.mpr ⟨lw_p107, List.forall_mem_cons.mpr ⟨lw_p108, List.forall_mem_cons.mpr ⟨lw_p109, List.forall_mem_cons.mpr ⟨lw_p110, List.forall_mem_cons.mpr ⟨lw_p111, fun _ h => absurd h List.not_mem_nil⟩⟩⟩⟩⟩⟩⟩⟩⟩⟩⟩⟩⟩⟩⟩⟩
theorem lw_p112 : lw_okq (⟨"BoundedSchemesModel", "open", "(III)I"⟩, 66) := ⟨⟨by decide +kernel, by decide +kernel⟩, List.mem_of_getElem? (i := 879) (by decide +kernel), List.mem_of_getElem? (i := 1117) (by decide +kernel), List.mem_of_getElem? (i := 1118) (by decide +kernel)⟩
theorem lw_p113 : lw_okq (⟨"BoundedSchemesModel", "beginTerm", "(IIII)Z"⟩, 66) := ⟨⟨by decide +kernel, by decide +kernel⟩, List.mem_of_getElem? (i := 879) (by decide +kernel), List.mem_of_getElem? (i := 1121) (by decide +kernel), List.mem_of_getElem? (i := 1122) (by decide +kernel)⟩
theorem lw_p114 : lw_okq (⟨"BoundedSchemesModel", "label", "(IIII)Z"⟩, 66) := ⟨⟨by decide +kernel, by decide +kernel⟩, List.mem_of_getElem? (i := 879) (by decide +kernel), List.mem_of_getElem? (i := 1125) (by decide +kernel), List.mem_of_getElem? (i := 1126) (by decide +kernel)⟩
theorem lw_p115 : lw_okq (⟨"BoundedSchemesModel", "sound", "()Z"⟩, 66) := ⟨⟨by decide +kernel, by decide +kernel⟩, List.mem_of_getElem? (i := 879) (by decide +kernel), List.mem_of_getElem? (i := 1129) (by decide +kernel), List.mem_of_getElem? (i := 1130) (by decide +kernel)⟩
theorem lw_p116 : lw_okq (⟨"BoundedSchemesModel", "binder", "(III)I"⟩, 66) := ⟨⟨by decide +kernel, by decide +kernel⟩, List.mem_of_getElem? (i := 879) (by decide +kernel), List.mem_of_getElem? (i := 1133) (by decide +kernel), List.mem_of_getElem? (i := 1134) (by decide +kernel)⟩
theorem lw_p117 : lw_okq (⟨"BoundedSchemesModel", "behind", "(I)I"⟩, 66) := ⟨⟨by decide +kernel, by decide +kernel⟩, List.mem_of_getElem? (i := 879) (by decide +kernel), List.mem_of_getElem? (i := 1137) (by decide +kernel), List.mem_of_getElem? (i := 1138) (by decide +kernel)⟩
theorem lw_p118 : lw_okq (⟨"BoundedSchemesModel", "partsOf", "(I)I"⟩, 66) := ⟨⟨by decide +kernel, by decide +kernel⟩, List.mem_of_getElem? (i := 879) (by decide +kernel), List.mem_of_getElem? (i := 1141) (by decide +kernel), List.mem_of_getElem? (i := 1142) (by decide +kernel)⟩
theorem lw_p119 : lw_okq (⟨"BoundedSchemesModel", "fill", "(II)V"⟩, 66) := ⟨⟨by decide +kernel, by decide +kernel⟩, List.mem_of_getElem? (i := 879) (by decide +kernel), List.mem_of_getElem? (i := 1145) (by decide +kernel), List.mem_of_getElem? (i := 1146) (by decide +kernel)⟩
theorem lw_p120 : lw_okq (⟨"BoundedSchemesModel", "depthOf", "(I)I"⟩, 66) := ⟨⟨by decide +kernel, by decide +kernel⟩, List.mem_of_getElem? (i := 879) (by decide +kernel), List.mem_of_getElem? (i := 1149) (by decide +kernel), List.mem_of_getElem? (i := 1150) (by decide +kernel)⟩
theorem lw_p121 : lw_okq (⟨"BoundedSchemesModel", "keepTerm", "()V"⟩, 66) := ⟨⟨by decide +kernel, by decide +kernel⟩, List.mem_of_getElem? (i := 879) (by decide +kernel), List.mem_of_getElem? (i := 1157) (by decide +kernel), List.mem_of_getElem? (i := 1158) (by decide +kernel)⟩
theorem lw_p122 : lw_okq (⟨"BoundedSchemesModel", "holds", "(I)Z"⟩, 66) := ⟨⟨by decide +kernel, by decide +kernel⟩, List.mem_of_getElem? (i := 879) (by decide +kernel), List.mem_of_getElem? (i := 1165) (by decide +kernel), List.mem_of_getElem? (i := 1166) (by decide +kernel)⟩
theorem lw_p123 : lw_okq (⟨"BoundedSchemesModel", "begin", "()V"⟩, 66) := ⟨⟨by decide +kernel, by decide +kernel⟩, List.mem_of_getElem? (i := 879) (by decide +kernel), List.mem_of_getElem? (i := 1169) (by decide +kernel), List.mem_of_getElem? (i := 1170) (by decide +kernel)⟩
theorem lw_p124 : lw_okq (⟨"BoundedSchemesModel", "under", "(IIIIII)Z"⟩, 66) := ⟨⟨by decide +kernel, by decide +kernel⟩, List.mem_of_getElem? (i := 879) (by decide +kernel), List.mem_of_getElem? (i := 1173) (by decide +kernel), List.mem_of_getElem? (i := 1174) (by decide +kernel)⟩
theorem lw_p125 : lw_okq (⟨"BoundedSchemesModel", "pose", "(IIIIII)V"⟩, 66) := ⟨⟨by decide +kernel, by decide +kernel⟩, List.mem_of_getElem? (i := 879) (by decide +kernel), List.mem_of_getElem? (i := 1177) (by decide +kernel), List.mem_of_getElem? (i := 1178) (by decide +kernel)⟩
theorem lw_p126 : lw_okq (⟨"BoundedSchemesModel", "settle", "(IIIIII)Z"⟩, 66) := ⟨⟨by decide +kernel, by decide +kernel⟩, List.mem_of_getElem? (i := 879) (by decide +kernel), List.mem_of_getElem? (i := 1181) (by decide +kernel), List.mem_of_getElem? (i := 1182) (by decide +kernel)⟩
theorem lw_p127 : lw_okq (⟨"BoundedSchemesModel", "cell", "(II)I"⟩, 66) := ⟨⟨by decide +kernel, by decide +kernel⟩, List.mem_of_getElem? (i := 879) (by decide +kernel), List.mem_of_getElem? (i := 1185) (by decide +kernel), List.mem_of_getElem? (i := 1186) (by decide +kernel)⟩
def lw_privs_8 : List (MethodName × Nat) := [(⟨"BoundedSchemesModel", "open", "(III)I"⟩, 66), (⟨"BoundedSchemesModel", "beginTerm", "(IIII)Z"⟩, 66), (⟨"BoundedSchemesModel", "label", "(IIII)Z"⟩, 66), (⟨"BoundedSchemesModel", "sound", "()Z"⟩, 66), (⟨"BoundedSchemesModel", "binder", "(III)I"⟩, 66), (⟨"BoundedSchemesModel", "behind", "(I)I"⟩, 66), (⟨"BoundedSchemesModel", "partsOf", "(I)I"⟩, 66), (⟨"BoundedSchemesModel", "fill", "(II)V"⟩, 66), (⟨"BoundedSchemesModel", "depthOf", "(I)I"⟩, 66), (⟨"BoundedSchemesModel", "keepTerm", "()V"⟩, 66), (⟨"BoundedSchemesModel", "holds", "(I)Z"⟩, 66), (⟨"BoundedSchemesModel", "begin", "()V"⟩, 66), (⟨"BoundedSchemesModel", "under", "(IIIIII)Z"⟩, 66), (⟨"BoundedSchemesModel", "pose", "(IIIIII)V"⟩, 66), (⟨"BoundedSchemesModel", "settle", "(IIIIII)Z"⟩, 66), (⟨"BoundedSchemesModel", "cell", "(II)I"⟩, 66)]
theorem lw_r8 : ∀ q ∈ lw_privs_8, lw_okq q := List.forall_mem_cons.mpr ⟨lw_p112, List.forall_mem_cons.mpr ⟨lw_p113, List.forall_mem_cons.mpr ⟨lw_p114, List.forall_mem_cons.mpr ⟨lw_p115, List.forall_mem_cons.mpr ⟨lw_p116, List.forall_mem_cons.mpr ⟨lw_p117, List.forall_mem_cons.mpr ⟨lw_p118, List.forall_mem_cons.mpr ⟨lw_p119, List.forall_mem_cons.mpr ⟨lw_p120, List.forall_mem_cons.mpr ⟨lw_p121, List.forall_mem_cons.mpr ⟨lw_p122, List.forall_mem_cons.mpr ⟨lw_p123, List.forall_mem_cons.mpr ⟨lw_p124, List.forall_mem_cons.mpr ⟨lw_p125, List.forall_mem_cons.mpr ⟨lw_p126, List.forall_mem_cons.mpr ⟨lw_p127, fun _ h => absurd h List.not_mem_nil⟩⟩⟩⟩⟩⟩⟩⟩⟩⟩⟩⟩⟩⟩⟩⟩
theorem lw_p128 : lw_okq (⟨"BoundedSchemesModel", "boundOf", "(III)I"⟩, 66) := ⟨⟨by decide +kernel, by decide +kernel⟩, List.mem_of_getElem? (i := 879) (by decide +kernel), List.mem_of_getElem? (i := 1189) (by decide +kernel), List.mem_of_getElem? (i := 1190) (by decide +kernel)⟩
theorem lw_p129 : lw_okq (⟨"BoundedSchemesModel", "widened", "(IIII)I"⟩, 66) := ⟨⟨by decide +kernel, by decide +kernel⟩, List.mem_of_getElem? (i := 879) (by decide +kernel), List.mem_of_getElem? (i := 1193) (by decide +kernel), List.mem_of_getElem? (i := 1194) (by decide +kernel)⟩
theorem lw_p130 : lw_okq (⟨"BoundedSchemesModel", "fresh", "()I"⟩, 66) := ⟨⟨by decide +kernel, by decide +kernel⟩, List.mem_of_getElem? (i := 879) (by decide +kernel), List.mem_of_getElem? (i := 1197) (by decide +kernel), List.mem_of_getElem? (i := 1198) (by decide +kernel)⟩
theorem lw_p131 : lw_okq (⟨"BoundedSchemesModel", "copy", "(IIII)V"⟩, 66) := ⟨⟨by decide +kernel, by decide +kernel⟩, List.mem_of_getElem? (i := 879) (by decide +kernel), List.mem_of_getElem? (i := 1201) (by decide +kernel), List.mem_of_getElem? (i := 1202) (by decide +kernel)⟩
theorem lw_p132 : lw_okq (⟨"BoundedSchemesModel", "end", "(II)I"⟩, 66) := ⟨⟨by decide +kernel, by decide +kernel⟩, List.mem_of_getElem? (i := 879) (by decide +kernel), List.mem_of_getElem? (i := 1205) (by decide +kernel), List.mem_of_getElem? (i := 1206) (by decide +kernel)⟩
theorem lw_p133 : lw_okq (⟨"BoundedSchemesModel", "field", "(III)I"⟩, 66) := ⟨⟨by decide +kernel, by decide +kernel⟩, List.mem_of_getElem? (i := 879) (by decide +kernel), List.mem_of_getElem? (i := 1212) (by decide +kernel), List.mem_of_getElem? (i := 1213) (by decide +kernel)⟩
theorem lw_p134 : lw_okq (⟨"BoundedSchemesModel", "equal", "(IIII)Z"⟩, 66) := ⟨⟨by decide +kernel, by decide +kernel⟩, List.mem_of_getElem? (i := 879) (by decide +kernel), List.mem_of_getElem? (i := 1216) (by decide +kernel), List.mem_of_getElem? (i := 1217) (by decide +kernel)⟩
theorem lw_p135 : lw_okq (⟨"BoundedSchemesModel", "context", "(III)I"⟩, 66) := ⟨⟨by decide +kernel, by decide +kernel⟩, List.mem_of_getElem? (i := 879) (by decide +kernel), List.mem_of_getElem? (i := 1220) (by decide +kernel), List.mem_of_getElem? (i := 1221) (by decide +kernel)⟩
theorem lw_p136 : lw_okq (⟨"BoundedSchemesModel", "combined", "(IIII)I"⟩, 66) := ⟨⟨by decide +kernel, by decide +kernel⟩, List.mem_of_getElem? (i := 879) (by decide +kernel), List.mem_of_getElem? (i := 1232) (by decide +kernel), List.mem_of_getElem? (i := 1233) (by decide +kernel)⟩
theorem lw_p137 : lw_okq (⟨"BoundedSchemesModel", "combine", "(IIIII)I"⟩, 66) := ⟨⟨by decide +kernel, by decide +kernel⟩, List.mem_of_getElem? (i := 879) (by decide +kernel), List.mem_of_getElem? (i := 1236) (by decide +kernel), List.mem_of_getElem? (i := 1237) (by decide +kernel)⟩
theorem lw_p138 : lw_okq (⟨"BoundedSchemesModel", "aim", "(IIIIIII)I"⟩, 66) := ⟨⟨by decide +kernel, by decide +kernel⟩, List.mem_of_getElem? (i := 879) (by decide +kernel), List.mem_of_getElem? (i := 1240) (by decide +kernel), List.mem_of_getElem? (i := 1241) (by decide +kernel)⟩
theorem lw_p139 : lw_okq (⟨"BoundedSchemesModel", "part", "(I)V"⟩, 66) := ⟨⟨by decide +kernel, by decide +kernel⟩, List.mem_of_getElem? (i := 879) (by decide +kernel), List.mem_of_getElem? (i := 1244) (by decide +kernel), List.mem_of_getElem? (i := 1245) (by decide +kernel)⟩
theorem lw_p140 : lw_okq (⟨"BoundedSchemesModel", "reach", "(III)V"⟩, 66) := ⟨⟨by decide +kernel, by decide +kernel⟩, List.mem_of_getElem? (i := 879) (by decide +kernel), List.mem_of_getElem? (i := 1248) (by decide +kernel), List.mem_of_getElem? (i := 1249) (by decide +kernel)⟩
theorem lw_p141 : lw_okq (⟨"BoundedSchemesModel", "fields", "(II)V"⟩, 66) := ⟨⟨by decide +kernel, by decide +kernel⟩, List.mem_of_getElem? (i := 879) (by decide +kernel), List.mem_of_getElem? (i := 1252) (by decide +kernel), List.mem_of_getElem? (i := 1253) (by decide +kernel)⟩
theorem lw_p142 : lw_okq (⟨"BoundedSchemesModel", "top", "()I"⟩, 66) := ⟨⟨by decide +kernel, by decide +kernel⟩, List.mem_of_getElem? (i := 879) (by decide +kernel), List.mem_of_getElem? (i := 1256) (by decide +kernel), List.mem_of_getElem? (i := 1257) (by decide +kernel)⟩
theorem lw_p143 : lw_okq (⟨"BoundedSchemesModel", "whole", "(I)V"⟩, 66) := ⟨⟨by decide +kernel, by decide +kernel⟩, List.mem_of_getElem? (i := 879) (by decide +kernel), List.mem_of_getElem? (i := 1260) (by decide +kernel), List.mem_of_getElem? (i := 1261) (by decide +kernel)⟩
def lw_privs_9 : List (MethodName × Nat) := [(⟨"BoundedSchemesModel", "boundOf", "(III)I"⟩, 66), (⟨"BoundedSchemesModel", "widened", "(IIII)I"⟩, 66), (⟨"BoundedSchemesModel", "fresh", "()I"⟩, 66), (⟨"BoundedSchemesModel", "copy", "(IIII)V"⟩, 66), (⟨"BoundedSchemesModel", "end", "(II)I"⟩, 66), (⟨"BoundedSchemesModel", "field", "(III)I"⟩, 66), (⟨"BoundedSchemesModel", "equal", "(IIII)Z"⟩, 66), (⟨"BoundedSchemesModel", "context", "(III)I"⟩, 66), (⟨"BoundedSchemesModel", "combined", "(IIII)I"⟩, 66), (⟨"BoundedSchemesModel", "combine", "(IIIII)I"⟩, 66), (⟨"BoundedSchemesModel", "aim", "(IIIIIII)I"⟩, 66), (⟨"BoundedSchemesModel", "part", "(I)V"⟩, 66), (⟨"BoundedSchemesModel", "reach", "(III)V"⟩, 66), (⟨"BoundedSchemesModel", "fields", "(II)V"⟩, 66), (⟨"BoundedSchemesModel", "top", "()I"⟩, 66), (⟨"BoundedSchemesModel", "whole", "(I)V"⟩, 66)]
theorem lw_r9 : ∀ q ∈ lw_privs_9, lw_okq q := List.forall_mem_cons.mpr ⟨lw_p128, List.forall_mem_cons.mpr ⟨lw_p129, List.forall_mem_cons.mpr ⟨lw_p130, List.forall_mem_cons.mpr ⟨lw_p131, List.forall_mem_cons.mpr ⟨lw_p132, List.forall_mem_cons.mpr ⟨lw_p133, List.forall_mem_cons.mpr ⟨lw_p134, List.forall_mem_cons.mpr ⟨lw_p135, List.forall_mem_cons.mpr ⟨lw_p136, List.forall_mem_cons.mpr ⟨lw_p137, List.forall_mem_cons.mpr ⟨lw_p138, List.forall_mem_cons.mpr ⟨lw_p139, List.forall_mem_cons.mpr ⟨lw_p140, List.forall_mem_cons.mpr ⟨lw_p141, List.forall_mem_cons.mpr ⟨lw_p142, List.forall_mem_cons.mpr ⟨lw_p143, fun _ h => absurd h List.not_mem_nil⟩⟩⟩⟩⟩⟩⟩⟩⟩⟩⟩⟩⟩⟩⟩⟩
theorem lw_p144 : lw_okq (⟨"BoundedSchemesModel", "before", "(II)V"⟩, 66) := ⟨⟨by decide +kernel, by decide +kernel⟩, List.mem_of_getElem? (i := 879) (by decide +kernel), List.mem_of_getElem? (i := 1276) (by decide +kernel), List.mem_of_getElem? (i := 1277) (by decide +kernel)⟩
theorem lw_p145 : lw_okq (⟨"BoundedSchemesModel", "put", "(I)V"⟩, 66) := ⟨⟨by decide +kernel, by decide +kernel⟩, List.mem_of_getElem? (i := 879) (by decide +kernel), List.mem_of_getElem? (i := 1280) (by decide +kernel), List.mem_of_getElem? (i := 1281) (by decide +kernel)⟩
theorem lw_p146 : lw_okq (⟨"BoundedSchemesModel", "bindersAround", "(III)I"⟩, 66) := ⟨⟨by decide +kernel, by decide +kernel⟩, List.mem_of_getElem? (i := 879) (by decide +kernel), List.mem_of_getElem? (i := 1284) (by decide +kernel), List.mem_of_getElem? (i := 1285) (by decide +kernel)⟩
theorem lw_p147 : lw_okq (⟨"BoundedSchemesModel", "types", "()I"⟩, 66) := ⟨⟨by decide +kernel, by decide +kernel⟩, List.mem_of_getElem? (i := 879) (by decide +kernel), List.mem_of_getElem? (i := 1296) (by decide +kernel), List.mem_of_getElem? (i := 1297) (by decide +kernel)⟩
theorem lw_p148 : lw_okq (⟨"BoundedSchemesModel", "prepare", "()V"⟩, 66) := ⟨⟨by decide +kernel, by decide +kernel⟩, List.mem_of_getElem? (i := 879) (by decide +kernel), List.mem_of_getElem? (i := 1300) (by decide +kernel), List.mem_of_getElem? (i := 1301) (by decide +kernel)⟩
theorem lw_p149 : lw_okq (⟨"BoundedSchemesModel", "rule", "(I)Z"⟩, 66) := ⟨⟨by decide +kernel, by decide +kernel⟩, List.mem_of_getElem? (i := 879) (by decide +kernel), List.mem_of_getElem? (i := 1304) (by decide +kernel), List.mem_of_getElem? (i := 1305) (by decide +kernel)⟩
theorem lw_p150 : lw_okq (⟨"BoundedSchemesModel", "gets", "(III)Z"⟩, 66) := ⟨⟨by decide +kernel, by decide +kernel⟩, List.mem_of_getElem? (i := 879) (by decide +kernel), List.mem_of_getElem? (i := 1308) (by decide +kernel), List.mem_of_getElem? (i := 1309) (by decide +kernel)⟩
theorem lw_p151 : lw_okq (⟨"BoundedSchemesModel", "recordType", "(I)Z"⟩, 66) := ⟨⟨by decide +kernel, by decide +kernel⟩, List.mem_of_getElem? (i := 879) (by decide +kernel), List.mem_of_getElem? (i := 1312) (by decide +kernel), List.mem_of_getElem? (i := 1313) (by decide +kernel)⟩
theorem lw_p152 : lw_okq (⟨"BoundedSchemesModel", "binding", "(IIII)Z"⟩, 66) := ⟨⟨by decide +kernel, by decide +kernel⟩, List.mem_of_getElem? (i := 879) (by decide +kernel), List.mem_of_getElem? (i := 1316) (by decide +kernel), List.mem_of_getElem? (i := 1317) (by decide +kernel)⟩
theorem lw_p153 : lw_okq (⟨"BoundedSchemesModel", "application", "(IIII)Z"⟩, 66) := ⟨⟨by decide +kernel, by decide +kernel⟩, List.mem_of_getElem? (i := 879) (by decide +kernel), List.mem_of_getElem? (i := 1320) (by decide +kernel), List.mem_of_getElem? (i := 1321) (by decide +kernel)⟩
theorem lw_p154 : lw_okq (⟨"BoundedSchemesModel", "expose", "(III)V"⟩, 66) := ⟨⟨by decide +kernel, by decide +kernel⟩, List.mem_of_getElem? (i := 879) (by decide +kernel), List.mem_of_getElem? (i := 1324) (by decide +kernel), List.mem_of_getElem? (i := 1325) (by decide +kernel)⟩
theorem lw_p155 : lw_okq (⟨"BoundedSchemesModel", "instance", "(IIIII)Z"⟩, 66) := ⟨⟨by decide +kernel, by decide +kernel⟩, List.mem_of_getElem? (i := 879) (by decide +kernel), List.mem_of_getElem? (i := 1328) (by decide +kernel), List.mem_of_getElem? (i := 1329) (by decide +kernel)⟩
theorem lw_p156 : lw_okq (⟨"BoundedSchemesModel", "go", "(II)V"⟩, 66) := ⟨⟨by decide +kernel, by decide +kernel⟩, List.mem_of_getElem? (i := 879) (by decide +kernel), List.mem_of_getElem? (i := 1340) (by decide +kernel), List.mem_of_getElem? (i := 1341) (by decide +kernel)⟩
theorem lw_p157 : lw_okq (⟨"BoundedSchemesModel", "run", "(I)I"⟩, 66) := ⟨⟨by decide +kernel, by decide +kernel⟩, List.mem_of_getElem? (i := 879) (by decide +kernel), List.mem_of_getElem? (i := 1344) (by decide +kernel), List.mem_of_getElem? (i := 1345) (by decide +kernel)⟩
theorem lw_p158 : lw_okq (⟨"BoundedSchemesModel", "back", "(Z)I"⟩, 66) := ⟨⟨by decide +kernel, by decide +kernel⟩, List.mem_of_getElem? (i := 879) (by decide +kernel), List.mem_of_getElem? (i := 1348) (by decide +kernel), List.mem_of_getElem? (i := 1349) (by decide +kernel)⟩
theorem lw_p159 : lw_okq (⟨"BoundedSchemesModel", "fillField", "(I)V"⟩, 66) := ⟨⟨by decide +kernel, by decide +kernel⟩, List.mem_of_getElem? (i := 879) (by decide +kernel), List.mem_of_getElem? (i := 1352) (by decide +kernel), List.mem_of_getElem? (i := 1353) (by decide +kernel)⟩
def lw_privs_10 : List (MethodName × Nat) := [(⟨"BoundedSchemesModel", "before", "(II)V"⟩, 66), (⟨"BoundedSchemesModel", "put", "(I)V"⟩, 66), (⟨"BoundedSchemesModel", "bindersAround", "(III)I"⟩, 66), (⟨"BoundedSchemesModel", "types", "()I"⟩, 66), (⟨"BoundedSchemesModel", "prepare", "()V"⟩, 66), (⟨"BoundedSchemesModel", "rule", "(I)Z"⟩, 66), (⟨"BoundedSchemesModel", "gets", "(III)Z"⟩, 66), (⟨"BoundedSchemesModel", "recordType", "(I)Z"⟩, 66), (⟨"BoundedSchemesModel", "binding", "(IIII)Z"⟩, 66), (⟨"BoundedSchemesModel", "application", "(IIII)Z"⟩, 66), (⟨"BoundedSchemesModel", "expose", "(III)V"⟩, 66), (⟨"BoundedSchemesModel", "instance", "(IIIII)Z"⟩, 66), (⟨"BoundedSchemesModel", "go", "(II)V"⟩, 66), (⟨"BoundedSchemesModel", "run", "(I)I"⟩, 66), (⟨"BoundedSchemesModel", "back", "(Z)I"⟩, 66), (⟨"BoundedSchemesModel", "fillField", "(I)V"⟩, 66)]
theorem lw_r10 : ∀ q ∈ lw_privs_10, lw_okq q := List.forall_mem_cons.mpr ⟨lw_p144, List.forall_mem_cons.mpr ⟨lw_p145, List.forall_mem_cons.mpr ⟨lw_p146, List.forall_mem_cons.mpr ⟨lw_p147, List.forall_mem_cons.mpr ⟨lw_p148, List.forall_mem_cons.mpr ⟨lw_p149, List.forall_mem_cons.mpr ⟨lw_p150, List.forall_mem_cons.mpr ⟨lw_p151, List.forall_mem_cons.mpr ⟨lw_p152, List.forall_mem_cons.mpr ⟨lw_p153, List.forall_mem_cons.mpr ⟨lw_p154, List.forall_mem_cons.mpr ⟨lw_p155, List.forall_mem_cons.mpr ⟨lw_p156, List.forall_mem_cons.mpr ⟨lw_p157, List.forall_mem_cons.mpr ⟨lw_p158, List.forall_mem_cons.mpr ⟨lw_p159, fun _ h => absurd h List.not_mem_nil⟩⟩⟩⟩⟩⟩⟩⟩⟩⟩⟩⟩⟩⟩⟩⟩
theorem lw_p160 : lw_okq (⟨"BoundedSchemesModel", "answer", "(I)V"⟩, 66) := ⟨⟨by decide +kernel, by decide +kernel⟩, List.mem_of_getElem? (i := 879) (by decide +kernel), List.mem_of_getElem? (i := 1356) (by decide +kernel), List.mem_of_getElem? (i := 1357) (by decide +kernel)⟩
theorem lw_p161 : lw_okq (⟨"BoundedSchemesModel", "enter", "(Z)I"⟩, 66) := ⟨⟨by decide +kernel, by decide +kernel⟩, List.mem_of_getElem? (i := 879) (by decide +kernel), List.mem_of_getElem? (i := 1360) (by decide +kernel), List.mem_of_getElem? (i := 1361) (by decide +kernel)⟩
theorem lw_p162 : lw_okq (⟨"BoundedSchemesModel", "keep", "(III)I"⟩, 66) := ⟨⟨by decide +kernel, by decide +kernel⟩, List.mem_of_getElem? (i := 879) (by decide +kernel), List.mem_of_getElem? (i := 1364) (by decide +kernel), List.mem_of_getElem? (i := 1365) (by decide +kernel)⟩
theorem lw_p163 : lw_okq (⟨"BoundedSchemesModel", "wait", "(IIII)V"⟩, 66) := ⟨⟨by decide +kernel, by decide +kernel⟩, List.mem_of_getElem? (i := 879) (by decide +kernel), List.mem_of_getElem? (i := 1368) (by decide +kernel), List.mem_of_getElem? (i := 1369) (by decide +kernel)⟩
theorem lw_p164 : lw_okq (⟨"BoundedSchemesModel", "show", "(II)I"⟩, 66) := ⟨⟨by decide +kernel, by decide +kernel⟩, List.mem_of_getElem? (i := 879) (by decide +kernel), List.mem_of_getElem? (i := 1384) (by decide +kernel), List.mem_of_getElem? (i := 1385) (by decide +kernel)⟩
def lw_privs_11 : List (MethodName × Nat) := [(⟨"BoundedSchemesModel", "answer", "(I)V"⟩, 66), (⟨"BoundedSchemesModel", "enter", "(Z)I"⟩, 66), (⟨"BoundedSchemesModel", "keep", "(III)I"⟩, 66), (⟨"BoundedSchemesModel", "wait", "(IIII)V"⟩, 66), (⟨"BoundedSchemesModel", "show", "(II)I"⟩, 66)]
theorem lw_r11 : ∀ q ∈ lw_privs_11, lw_okq q := List.forall_mem_cons.mpr ⟨lw_p160, List.forall_mem_cons.mpr ⟨lw_p161, List.forall_mem_cons.mpr ⟨lw_p162, List.forall_mem_cons.mpr ⟨lw_p163, List.forall_mem_cons.mpr ⟨lw_p164, fun _ h => absurd h List.not_mem_nil⟩⟩⟩⟩⟩
def lw_privs : List (MethodName × Nat) := lw_privs_1 ++ (lw_privs_2 ++ (lw_privs_3 ++ (lw_privs_4 ++ (lw_privs_5 ++ (lw_privs_6 ++ (lw_privs_7 ++ (lw_privs_8 ++ (lw_privs_9 ++ (lw_privs_10 ++ (lw_privs_11))))))))))
def lw_tbl : List Cond := k2_sels lw_privs ++ tables_1
theorem lw_privs_ok : ∀ q ∈ lw_privs, lw_okq q := by
  show ∀ q ∈ lw_privs_1 ++ (lw_privs_2 ++ (lw_privs_3 ++ (lw_privs_4 ++ (lw_privs_5 ++ (lw_privs_6 ++ (lw_privs_7 ++ (lw_privs_8 ++ (lw_privs_9 ++ (lw_privs_10 ++ (lw_privs_11)))))))))), lw_okq q
  exact List.forall_mem_append.mpr ⟨lw_r1, List.forall_mem_append.mpr ⟨lw_r2, List.forall_mem_append.mpr ⟨lw_r3, List.forall_mem_append.mpr ⟨lw_r4, List.forall_mem_append.mpr ⟨lw_r5, List.forall_mem_append.mpr ⟨lw_r6, List.forall_mem_append.mpr ⟨lw_r7, List.forall_mem_append.mpr ⟨lw_r8, List.forall_mem_append.mpr ⟨lw_r9, List.forall_mem_append.mpr ⟨lw_r10, lw_r11⟩⟩⟩⟩⟩⟩⟩⟩⟩⟩
-- ===== end of PART A; then your names; then what follows =====
end
section
/-! TABLES of the picture machine (by program): classes, fields, links, methods. -/
def pm_ko (t : FieldType) : Nat := match t with
  | .int => 0
  | .boolean => 1
  | .char => 2
  | .byte => 2
  | .short => 2
  | .object _ => 3
  | .array _ => 3
  | _ => 9
def pm_T0 : u_T := fun k => ([("BoundedSchemes", "text", "[C", true), ("BoundedSchemes", "slots", "[LBoundedSchemes$KeptType;", true), ("BoundedSchemes", "termType", "LBoundedSchemes$KeptType;", true), ("BoundedSchemes", "room", "LBoundedSchemes$TypeRoom;", true), ("BoundedSchemes", "page", "LBoundedSchemes$Page;", true), ("BoundedSchemes", "reader", "LBoundedSchemes$Reader;", true), ("BoundedSchemes", "checker", "LBoundedSchemes$Checker;", true), ("BoundedSchemes", "machine", "LBoundedSchemes$Machine;", true), ("BoundedSchemes", "length", "I", false), ("BoundedSchemes", "term", "LBoundedSchemes$Term;", false), ("BoundedSchemes", "spare", "LBoundedSchemes$Term;", false), ("BoundedSchemes", "hasTerm", "Z", false), ("BoundedSchemes", "breakPlace", "I", false), ("BoundedSchemes", "running", "Z", false), ("BoundedSchemes", "stepsMade", "I", false)] : List (String × String × String × Bool)).getD k ("", "", "", false)
def pm_ft0 (k : Nat) : FieldType := ([.array .char, .array (.object "BoundedSchemes$KeptType"), .object "BoundedSchemes$KeptType", .object "BoundedSchemes$TypeRoom", .object "BoundedSchemes$Page", .object "BoundedSchemes$Reader", .object "BoundedSchemes$Checker", .object "BoundedSchemes$Machine", .int, .object "BoundedSchemes$Term", .object "BoundedSchemes$Term", .boolean, .int, .boolean, .int] : List FieldType).getD k .int
def pm_fk0 (k : Nat) : Nat := ([3, 3, 3, 3, 3, 3, 3, 3, 0, 3, 3, 1, 0, 1, 0] : List Nat).getD k 0
def pm_fin0 (k : Nat) : Bool := ([true, true, true, true, true, true, true, true, false, false, false, false, false, false, false] : List Bool).getD k false
def pm_lx0 : List Nat := [468, 470, 472, 474, 476, 478, 480, 482, 484, 486, 488, 490, 492, 494, 496]
def pm_T1 : u_T := fun k => ([("BoundedSchemes$KeptType", "codes", "[I", true), ("BoundedSchemes$KeptType", "count", "I", false), ("BoundedSchemes$KeptType", "cursor", "I", false)] : List (String × String × String × Bool)).getD k ("", "", "", false)
def pm_ft1 (k : Nat) : FieldType := ([.array .int, .int, .int] : List FieldType).getD k .int
def pm_fk1 (k : Nat) : Nat := ([3, 0, 0] : List Nat).getD k 0
def pm_fin1 (k : Nat) : Bool := ([true, false, false] : List Bool).getD k false
def pm_lx1 : List Nat := [200, 202, 204]
def pm_T2 : u_T := fun k => ([("BoundedSchemes$TypeRoom", "code", "[I", false), ("BoundedSchemes$TypeRoom", "first", "[I", false), ("BoundedSchemes$TypeRoom", "second", "[I", false), ("BoundedSchemes$TypeRoom", "third", "[I", false), ("BoundedSchemes$TypeRoom", "size", "[I", false), ("BoundedSchemes$TypeRoom", "bounds", "[I", true), ("BoundedSchemes$TypeRoom", "count", "I", false)] : List (String × String × String × Bool)).getD k ("", "", "", false)
def pm_ft2 (k : Nat) : FieldType := ([.array .int, .array .int, .array .int, .array .int, .array .int, .array .int, .int] : List FieldType).getD k .int
def pm_fk2 (k : Nat) : Nat := ([3, 3, 3, 3, 3, 3, 0] : List Nat).getD k 0
def pm_fin2 (k : Nat) : Bool := ([false, false, false, false, false, true, false] : List Bool).getD k false
def pm_lx2 : List Nat := [228, 230, 232, 234, 236, 238, 240]
def pm_T3 : u_T := fun k => ([("BoundedSchemes$Page", "shown", "[C", true), ("BoundedSchemes$Page", "draft", "[C", true), ("BoundedSchemes$Page", "count", "I", false), ("BoundedSchemes$Page", "drafted", "I", false)] : List (String × String × String × Bool)).getD k ("", "", "", false)
def pm_ft3 (k : Nat) : FieldType := ([.array .char, .array .char, .int, .int] : List FieldType).getD k .int
def pm_fk3 (k : Nat) : Nat := ([3, 3, 0, 0] : List Nat).getD k 0
def pm_fin3 (k : Nat) : Bool := ([true, true, false, false] : List Bool).getD k false
def pm_lx3 : List Nat := [255, 257, 259, 261]
def pm_T4 : u_T := fun k => ([("BoundedSchemes$Term", "kind", "[I", true), ("BoundedSchemes$Term", "place", "[I", true), ("BoundedSchemes$Term", "mark", "[I", true), ("BoundedSchemes$Term", "first", "[I", true), ("BoundedSchemes$Term", "second", "[I", true), ("BoundedSchemes$Term", "third", "[I", true), ("BoundedSchemes$Term", "count", "I", false)] : List (String × String × String × Bool)).getD k ("", "", "", false)
def pm_ft4 (k : Nat) : FieldType := ([.array .int, .array .int, .array .int, .array .int, .array .int, .array .int, .int] : List FieldType).getD k .int
def pm_fk4 (k : Nat) : Nat := ([3, 3, 3, 3, 3, 3, 0] : List Nat).getD k 0
def pm_fin4 (k : Nat) : Bool := ([true, true, true, true, true, true, false] : List Bool).getD k false
def pm_lx4 : List Nat := [287, 289, 291, 293, 295, 297, 299]
def pm_T5 : u_T := fun k => ([("BoundedSchemes$Reader", "room", "LBoundedSchemes$TypeRoom;", true), ("BoundedSchemes$Reader", "typeNames", "[C", true), ("BoundedSchemes$Reader", "names", "[C", true), ("BoundedSchemes$Reader", "binders", "[I", true), ("BoundedSchemes$Reader", "text", "[C", true), ("BoundedSchemes$Reader", "term", "LBoundedSchemes$Term;", false), ("BoundedSchemes$Reader", "length", "I", false), ("BoundedSchemes$Reader", "at", "I", false), ("BoundedSchemes$Reader", "openTypes", "I", false), ("BoundedSchemes$Reader", "openNames", "I", false), ("BoundedSchemes$Reader", "fault", "I", false), ("BoundedSchemes$Reader", "closed", "Z", false), ("BoundedSchemes$Reader", "tooLarge", "Z", false)] : List (String × String × String × Bool)).getD k ("", "", "", false)
def pm_ft5 (k : Nat) : FieldType := ([.object "BoundedSchemes$TypeRoom", .array .char, .array .char, .array .int, .array .char, .object "BoundedSchemes$Term", .int, .int, .int, .int, .int, .boolean, .boolean] : List FieldType).getD k .int
def pm_fk5 (k : Nat) : Nat := ([3, 3, 3, 3, 3, 3, 0, 0, 0, 0, 0, 1, 1] : List Nat).getD k 0
def pm_fin5 (k : Nat) : Bool := ([true, true, true, true, true, false, false, false, false, false, false, false, false] : List Bool).getD k false
def pm_lx5 : List Nat := [324, 326, 328, 330, 332, 334, 336, 338, 340, 342, 344, 346, 348]
def pm_T6 : u_T := fun k => ([("BoundedSchemes$Checker", "room", "LBoundedSchemes$TypeRoom;", true), ("BoundedSchemes$Checker", "term", "LBoundedSchemes$Term;", false), ("BoundedSchemes$Checker", "breakPlace", "I", false)] : List (String × String × String × Bool)).getD k ("", "", "", false)
def pm_ft6 (k : Nat) : FieldType := ([.object "BoundedSchemes$TypeRoom", .object "BoundedSchemes$Term", .int] : List FieldType).getD k .int
def pm_fk6 (k : Nat) : Nat := ([3, 3, 0] : List Nat).getD k 0
def pm_fin6 (k : Nat) : Bool := ([true, false, false] : List Bool).getD k false
def pm_lx6 : List Nat := [361, 363, 365]
def pm_T7 : u_T := fun k => ([("BoundedSchemes$Machine", "frameNode", "[I", false), ("BoundedSchemes$Machine", "frameScope", "[I", false), ("BoundedSchemes$Machine", "frameValue", "[I", false), ("BoundedSchemes$Machine", "frameLabel", "[I", false), ("BoundedSchemes$Machine", "scopeBinder", "[I", true), ("BoundedSchemes$Machine", "scopeValue", "[I", true), ("BoundedSchemes$Machine", "scopeOuter", "[I", true), ("BoundedSchemes$Machine", "values", "LBoundedSchemes$Values;", true), ("BoundedSchemes$Machine", "term", "LBoundedSchemes$Term;", false), ("BoundedSchemes$Machine", "frames", "I", false), ("BoundedSchemes$Machine", "scopes", "I", false), ("BoundedSchemes$Machine", "node", "I", false), ("BoundedSchemes$Machine", "scope", "I", false), ("BoundedSchemes$Machine", "current", "I", false), ("BoundedSchemes$Machine", "stopped", "Z", false), ("BoundedSchemes$Machine", "steps", "I", false), ("BoundedSchemes$Machine", "result", "I", false)] : List (String × String × String × Bool)).getD k ("", "", "", false)
def pm_ft7 (k : Nat) : FieldType := ([.array .int, .array .int, .array .int, .array .int, .array .int, .array .int, .array .int, .object "BoundedSchemes$Values", .object "BoundedSchemes$Term", .int, .int, .int, .int, .int, .boolean, .int, .int] : List FieldType).getD k .int
def pm_fk7 (k : Nat) : Nat := ([3, 3, 3, 3, 3, 3, 3, 3, 3, 0, 0, 0, 0, 0, 1, 0, 0] : List Nat).getD k 0
def pm_fin7 (k : Nat) : Bool := ([false, false, false, false, true, true, true, true, false, false, false, false, false, false, false, false, false] : List Bool).getD k false
def pm_lx7 : List Nat := [418, 420, 422, 424, 426, 428, 430, 432, 434, 436, 438, 440, 442, 444, 446, 448, 450]
def pm_T8 : u_T := fun k => ([("BoundedSchemes$Values", "node", "[I", false), ("BoundedSchemes$Values", "x", "[I", false), ("BoundedSchemes$Values", "y", "[I", false), ("BoundedSchemes$Values", "z", "[I", false), ("BoundedSchemes$Values", "count", "I", false)] : List (String × String × String × Bool)).getD k ("", "", "", false)
def pm_ft8 (k : Nat) : FieldType := ([.array .int, .array .int, .array .int, .array .int, .int] : List FieldType).getD k .int
def pm_fk8 (k : Nat) : Nat := ([3, 3, 3, 3, 0] : List Nat).getD k 0
def pm_fin8 (k : Nat) : Bool := ([false, false, false, false, false] : List Bool).getD k false
def pm_lx8 : List Nat := [388, 390, 392, 394, 396]
def pm_T9 : u_T := fun k => ([("BoundedSchemesModel", "length", "I", false), ("BoundedSchemesModel", "text", "[I", true), ("BoundedSchemesModel", "written", "I", false), ("BoundedSchemesModel", "page", "[I", true), ("BoundedSchemesModel", "termNodes", "I", false), ("BoundedSchemesModel", "nodes", "I", false), ("BoundedSchemesModel", "op", "[I", true), ("BoundedSchemesModel", "arg", "[I", true), ("BoundedSchemesModel", "place", "[I", true), ("BoundedSchemesModel", "scope", "[I", true), ("BoundedSchemesModel", "binds", "[I", true), ("BoundedSchemesModel", "scopes", "I", false), ("BoundedSchemesModel", "outer", "[I", true), ("BoundedSchemesModel", "kind", "[I", true), ("BoundedSchemesModel", "name", "[I", true), ("BoundedSchemesModel", "owner", "[I", true), ("BoundedSchemesModel", "expected", "I", false), ("BoundedSchemesModel", "code", "[I", true), ("BoundedSchemesModel", "deep", "[I", true), ("BoundedSchemesModel", "within", "[I", true), ("BoundedSchemesModel", "whose", "[I", true), ("BoundedSchemesModel", "has", "[Z", true), ("BoundedSchemesModel", "used", "I", false), ("BoundedSchemesModel", "cells", "[I", true), ("BoundedSchemesModel", "contexts", "I", false), ("BoundedSchemesModel", "around", "[I", true), ("BoundedSchemesModel", "level", "[I", true), ("BoundedSchemesModel", "bound", "[I", true), ("BoundedSchemesModel", "contextOf", "[I", true), ("BoundedSchemesModel", "termScopes", "I", false), ("BoundedSchemesModel", "typed", "[Z", true), ("BoundedSchemesModel", "breaks", "[Z", true), ("BoundedSchemesModel", "bareRow", "I", false), ("BoundedSchemesModel", "bareAt", "I", false), ("BoundedSchemesModel", "tasks", "I", false), ("BoundedSchemesModel", "task", "[I", true), ("BoundedSchemesModel", "goals", "I", false), ("BoundedSchemesModel", "goal", "[I", true), ("BoundedSchemesModel", "build", "[I", true), ("BoundedSchemesModel", "first", "[I", true), ("BoundedSchemesModel", "state", "[I", true), ("BoundedSchemesModel", "resultRow", "[I", true), ("BoundedSchemesModel", "resultAt", "[I", true), ("BoundedSchemesModel", "running", "Z", false), ("BoundedSchemesModel", "atValue", "Z", false), ("BoundedSchemesModel", "made", "I", false), ("BoundedSchemesModel", "node", "I", false), ("BoundedSchemesModel", "environment", "I", false), ("BoundedSchemesModel", "result", "I", false), ("BoundedSchemesModel", "returns", "Z", false), ("BoundedSchemesModel", "envs", "I", false), ("BoundedSchemesModel", "envScope", "[I", true), ("BoundedSchemesModel", "envValue", "[I", true), ("BoundedSchemesModel", "envNext", "[I", true), ("BoundedSchemesModel", "values", "I", false), ("BoundedSchemesModel", "valueKind", "[I", true), ("BoundedSchemesModel", "valueNode", "[I", true), ("BoundedSchemesModel", "valueEnv", "[I", true), ("BoundedSchemesModel", "parts", "[I", true), ("BoundedSchemesModel", "frames", "I", false), ("BoundedSchemesModel", "frameKind", "[I", true), ("BoundedSchemesModel", "frameNode", "[I", true), ("BoundedSchemesModel", "frameEnv", "[I", true), ("BoundedSchemesModel", "frameValue", "[I", true), ("BoundedSchemesModel", "print", "[I", true), ("BoundedSchemesModel", "out", "[I", true)] : List (String × String × String × Bool)).getD k ("", "", "", false)
def pm_ft9 (k : Nat) : FieldType := ([.int, .array .int, .int, .array .int, .int, .int, .array .int, .array .int, .array .int, .array .int, .array .int, .int, .array .int, .array .int, .array .int, .array .int, .int, .array .int, .array .int, .array .int, .array .int, .array .boolean, .int, .array .int, .int, .array .int, .array .int, .array .int, .array .int, .int, .array .boolean, .array .boolean, .int, .int, .int, .array .int, .int, .array .int, .array .int, .array .int, .array .int, .array .int, .array .int, .boolean, .boolean, .int, .int, .int, .int, .boolean, .int, .array .int, .array .int, .array .int, .int, .array .int, .array .int, .array .int, .array .int, .int, .array .int, .array .int, .array .int, .array .int, .array .int, .array .int] : List FieldType).getD k .int
def pm_fk9 (k : Nat) : Nat := ([0, 3, 0, 3, 0, 0, 3, 3, 3, 3, 3, 0, 3, 3, 3, 3, 0, 3, 3, 3, 3, 3, 0, 3, 0, 3, 3, 3, 3, 0, 3, 3, 0, 0, 0, 3, 0, 3, 3, 3, 3, 3, 3, 1, 1, 0, 0, 0, 0, 1, 0, 3, 3, 3, 0, 3, 3, 3, 3, 0, 3, 3, 3, 3, 3, 3] : List Nat).getD k 0
def pm_fin9 (k : Nat) : Bool := ([false, true, false, true, false, false, true, true, true, true, true, false, true, true, true, true, false, true, true, true, true, true, false, true, false, true, true, true, true, false, true, true, false, false, false, true, false, true, true, true, true, true, true, false, false, false, false, false, false, false, false, true, true, true, false, true, true, true, true, false, true, true, true, true, true, true] : List Bool).getD k false
def pm_lx9 : List Nat := [1115, 1117, 1119, 1121, 1123, 1125, 1127, 1129, 1131, 1133, 1135, 1137, 1139, 1141, 1143, 1145, 1147, 1149, 1151, 1153, 1155, 1157, 1159, 1161, 1163, 1165, 1167, 1169, 1171, 1173, 1175, 1177, 1179, 1181, 1183, 1185, 1187, 1189, 1191, 1193, 1195, 1197, 1199, 1201, 1203, 1205, 1207, 1209, 1211, 1213, 1215, 1217, 1219, 1221, 1223, 1225, 1227, 1229, 1231, 1233, 1235, 1237, 1239, 1241, 1243, 1245]
abbrev pm_cl : List vw_C := [("BoundedSchemes", pm_T0, 15), ("BoundedSchemes$KeptType", pm_T1, 3), ("BoundedSchemes$TypeRoom", pm_T2, 7), ("BoundedSchemes$Page", pm_T3, 4), ("BoundedSchemes$Term", pm_T4, 7), ("BoundedSchemes$Reader", pm_T5, 13), ("BoundedSchemes$Checker", pm_T6, 3), ("BoundedSchemes$Machine", pm_T7, 17), ("BoundedSchemes$Values", pm_T8, 5), ("BoundedSchemesModel", pm_T9, 66)]
def pm_ft (c : Nat) : Nat → FieldType := match c with
  | 0 => pm_ft0
  | 1 => pm_ft1
  | 2 => pm_ft2
  | 3 => pm_ft3
  | 4 => pm_ft4
  | 5 => pm_ft5
  | 6 => pm_ft6
  | 7 => pm_ft7
  | 8 => pm_ft8
  | 9 => pm_ft9
  | _ => fun _ => .int
def pm_fk (c : Nat) : Nat → Nat := match c with
  | 0 => pm_fk0
  | 1 => pm_fk1
  | 2 => pm_fk2
  | 3 => pm_fk3
  | 4 => pm_fk4
  | 5 => pm_fk5
  | 6 => pm_fk6
  | 7 => pm_fk7
  | 8 => pm_fk8
  | 9 => pm_fk9
  | _ => fun _ => 0
def pm_fin (c : Nat) : Nat → Bool := match c with
  | 0 => pm_fin0
  | 1 => pm_fin1
  | 2 => pm_fin2
  | 3 => pm_fin3
  | 4 => pm_fin4
  | 5 => pm_fin5
  | 6 => pm_fin6
  | 7 => pm_fin7
  | 8 => pm_fin8
  | 9 => pm_fin9
  | _ => fun _ => false
def pm_nf (c : Nat) : Nat := ([15, 3, 7, 4, 7, 13, 3, 17, 5, 66] : List Nat).getD c 0
def pm_on (o : Nat) : String := (["BoundedSchemes", "BoundedSchemes$KeptType", "BoundedSchemes$TypeRoom", "BoundedSchemes$Page", "BoundedSchemes$Term", "BoundedSchemes$Reader", "BoundedSchemes$Checker", "BoundedSchemes$Machine", "BoundedSchemes$Values", "BoundedSchemesModel", "BoundedSchemesLaw", "java/util/Arrays"] : List String).getD o ""
def pm_own (o c : Nat) : Bool := decide (o = c)
def pm_fl0 : List (Nat × Nat × Nat × Nat × Bool) := [(145, 1, 1, 197, true), (201, 2, 4, 225, true), (160, 3, 0, 250, true), (159, 3, 2, 253, true), (93, 5, 10, 318, true), (96, 5, 11, 320, true), (100, 5, 12, 322, true), (118, 6, 2, 360, true), (183, 7, 15, 415, true), (191, 7, 16, 417, true), (9, 0, 0, 453, false), (15, 0, 1, 454, false), (20, 0, 2, 455, false), (27, 0, 3, 456, false), (34, 0, 4, 457, false), (57, 0, 5, 458, false), (66, 0, 6, 459, false), (75, 0, 7, 460, false), (79, 0, 8, 461, false), (41, 0, 9, 462, false), (45, 0, 10, 463, false), (163, 0, 11, 464, false), (48, 0, 12, 465, false), (177, 0, 13, 466, false), (180, 0, 14, 467, false)]
def pm_ml0 : List (Nat × Nat × Nat × Bool) := [(19, 23, 190, true), (26, 26, 211, true), (33, 62, 245, true), (40, 67, 266, true), (54, 73, 304, true), (63, 100, 353, true), (72, 113, 370, true), (82, 17, 507, false), (86, 27, 510, true), (89, 74, 514, true), (103, 37, 656, true), (107, 75, 676, true), (111, 22, 680, false), (205, 101, 684, true), (114, 102, 688, true), (119, 18, 843, false), (122, 20, 847, false), (126, 39, 851, true), (197, 48, 859, true), (130, 41, 864, true), (134, 52, 869, true), (138, 21, 870, false), (142, 55, 878, true), (148, 63, 887, true), (151, 59, 891, true), (155, 66, 907, true), (166, 24, 923, true), (170, 19, 931, false), (174, 114, 939, true), (194, 127, 1031, true)]
def pm_bl0 : List (Nat × Nat × Nat) := [(1, 1, 184), (186, 2, 1022)]
def pm_fl1 : List (Nat × Nat × Nat × Nat × Bool) := [(9, 1, 0, 194, false), (15, 1, 1, 196, false)]
def pm_ml1 : List (Nat × Nat × Nat × Bool) := []
def pm_bl1 : List (Nat × Nat × Nat) := [(3, 1, 193)]
def pm_fl2 : List (Nat × Nat × Nat × Nat × Bool) := [(83, 1, 0, 195, true), (62, 1, 1, 198, true), (76, 1, 2, 199, true), (11, 2, 0, 215, false), (15, 2, 1, 217, false), (18, 2, 2, 219, false), (21, 2, 3, 221, false), (24, 2, 4, 222, false), (27, 2, 5, 226, false), (30, 2, 6, 227, false)]
def pm_ml2 : List (Nat × Nat × Nat × Bool) := [(54, 28, 553, false), (34, 29, 557, false), (48, 211, 562, false), (38, 31, 576, false), (65, 38, 660, false), (69, 25, 664, true), (73, 34, 668, false), (90, 35, 704, false), (93, 36, 708, false), (97, 30, 712, false), (100, 42, 713, false), (103, 43, 714, false), (110, 45, 732, false), (113, 49, 740, false), (117, 32, 744, false), (58, 33, 748, false), (120, 50, 752, false), (123, 48, 756, false), (126, 51, 757, false), (86, 41, 761, false), (129, 47, 765, false), (106, 44, 782, false), (132, 53, 814, false), (135, 54, 818, false), (141, 52, 822, false), (138, 55, 823, false), (144, 56, 827, false), (147, 57, 831, false), (150, 58, 835, false), (79, 40, 855, false), (153, 61, 895, false), (157, 64, 898, true), (163, 59, 902, false), (167, 60, 903, false)]
def pm_bl2 : List (Nat × Nat × Nat) := [(3, 1, 214), (42, 2, 561)]
def pm_fl3 : List (Nat × Nat × Nat × Nat × Bool) := [(9, 3, 0, 249, false), (15, 3, 1, 251, false), (26, 3, 2, 252, false), (18, 3, 3, 254, false)]
def pm_ml3 : List (Nat × Nat × Nat × Bool) := [(22, 65, 911, false)]
def pm_bl3 : List (Nat × Nat × Nat) := [(3, 1, 248)]
def pm_fl4 : List (Nat × Nat × Nat × Nat × Bool) := [(9, 4, 0, 270, false), (15, 4, 1, 273, false), (18, 4, 2, 275, false), (21, 4, 3, 278, false), (24, 4, 4, 281, false), (27, 4, 5, 284, false), (30, 4, 6, 285, false)]
def pm_ml4 : List (Nat × Nat × Nat × Bool) := [(34, 70, 974, false)]
def pm_bl4 : List (Nat × Nat × Nat) := [(3, 1, 269)]
def pm_fl5 : List (Nat × Nat × Nat × Nat × Bool) := [(88, 2, 4, 224, true), (44, 4, 6, 286, true), (22, 5, 0, 308, false), (9, 5, 1, 309, false), (15, 5, 2, 310, false), (18, 5, 3, 311, false), (26, 5, 4, 312, false), (29, 5, 5, 313, false), (59, 5, 6, 314, false), (62, 5, 7, 315, false), (65, 5, 8, 316, false), (68, 5, 9, 317, false), (78, 5, 10, 319, false), (71, 5, 11, 321, false), (75, 5, 12, 323, false)]
def pm_ml5 : List (Nat × Nat × Nat × Bool) := [(33, 76, 518, false), (37, 86, 525, false), (85, 87, 529, false), (93, 79, 533, false), (81, 78, 537, false), (97, 80, 541, false), (101, 84, 545, false), (105, 30, 549, true), (108, 90, 579, false), (126, 81, 583, false), (129, 91, 587, false), (50, 92, 591, false), (137, 68, 595, true), (140, 85, 599, false), (133, 69, 603, true), (143, 93, 607, false), (146, 94, 611, false), (164, 83, 615, false), (149, 95, 619, false), (152, 96, 623, false), (122, 82, 627, false), (155, 97, 631, false), (158, 98, 635, false), (161, 99, 639, false), (118, 28, 643, true), (112, 88, 644, false), (115, 89, 648, false), (41, 77, 652, false)]
def pm_bl5 : List (Nat × Nat × Nat) := [(3, 1, 307), (53, 2, 522)]
def pm_fl6 : List (Nat × Nat × Nat × Nat × Bool) := [(88, 2, 0, 216, true), (91, 2, 1, 218, true), (96, 2, 2, 220, true), (27, 2, 4, 223, true), (38, 4, 0, 271, true), (33, 4, 1, 274, true), (69, 4, 2, 276, true), (66, 4, 3, 279, true), (76, 4, 4, 283, true), (9, 6, 0, 357, false), (15, 6, 1, 358, false), (19, 6, 2, 359, false)]
def pm_ml6 : List (Nat × Nat × Nat × Bool) := [(23, 103, 692, false), (41, 104, 696, false), (72, 42, 700, true), (45, 105, 718, false), (79, 102, 722, false), (82, 28, 723, true), (48, 106, 724, false), (85, 46, 728, true), (92, 48, 736, true), (51, 107, 769, false), (97, 47, 773, true), (54, 108, 774, false), (101, 44, 778, true), (57, 109, 783, false), (105, 110, 787, false), (108, 70, 791, true), (111, 71, 795, true), (60, 111, 799, false), (114, 33, 803, true), (118, 31, 804, true), (119, 34, 805, true), (63, 112, 806, false), (120, 52, 810, true)]
def pm_bl6 : List (Nat × Nat × Nat) := [(3, 1, 356)]
def pm_fl7 : List (Nat × Nat × Nat × Nat × Bool) := [(85, 4, 0, 272, true), (108, 4, 2, 277, true), (90, 4, 3, 280, true), (111, 4, 4, 282, true), (144, 8, 0, 381, true), (146, 8, 1, 383, true), (48, 8, 4, 387, true), (11, 7, 0, 399, false), (15, 7, 1, 400, false), (18, 7, 2, 401, false), (21, 7, 3, 402, false), (24, 7, 4, 403, false), (27, 7, 5, 404, false), (30, 7, 6, 405, false), (36, 7, 7, 406, false), (40, 7, 8, 407, false), (44, 7, 9, 408, false), (51, 7, 10, 409, false), (79, 7, 11, 410, false), (82, 7, 12, 411, false), (69, 7, 13, 412, false), (57, 7, 14, 413, false), (54, 7, 15, 414, false), (61, 7, 16, 416, false)]
def pm_ml7 : List (Nat × Nat × Nat × Bool) := [(35, 129, 376, true), (64, 115, 943, false), (72, 117, 948, false), (93, 119, 952, false), (97, 130, 956, true), (101, 118, 966, false), (117, 72, 970, true), (114, 120, 975, false), (123, 121, 979, false), (131, 211, 984, false), (120, 71, 985, true), (104, 116, 986, false), (75, 122, 990, false), (137, 124, 994, false), (140, 123, 998, false), (153, 125, 1002, false), (149, 132, 1006, true), (150, 126, 1010, false), (157, 133, 1014, true), (161, 65, 1035, true), (166, 64, 1036, true), (170, 128, 1037, false), (174, 70, 1041, true), (177, 127, 1042, false)]
def pm_bl7 : List (Nat × Nat × Nat) := [(5, 1, 373), (126, 2, 983)]
def pm_fl8 : List (Nat × Nat × Nat × Nat × Bool) := [(13, 8, 0, 380, false), (17, 8, 1, 382, false), (20, 8, 2, 384, false), (23, 8, 3, 385, false), (26, 8, 4, 386, false)]
def pm_ml8 : List (Nat × Nat × Nat × Bool) := [(30, 131, 960, false), (40, 211, 965, false)]
def pm_bl8 : List (Nat × Nat × Nat) := [(5, 1, 379), (34, 2, 964)]
def pm_fl9 : List (Nat × Nat × Nat × Nat × Bool) := [(144, 9, 0, 1049, false), (7, 9, 1, 1050, false), (309, 9, 2, 1051, false), (13, 9, 3, 1052, false), (283, 9, 4, 1053, false), (150, 9, 5, 1054, false), (16, 9, 6, 1055, false), (19, 9, 7, 1056, false), (22, 9, 8, 1057, false), (25, 9, 9, 1058, false), (28, 9, 10, 1059, false), (153, 9, 11, 1060, false), (31, 9, 12, 1061, false), (34, 9, 13, 1062, false), (37, 9, 14, 1063, false), (40, 9, 15, 1064, false), (147, 9, 16, 1065, false), (43, 9, 17, 1066, false), (46, 9, 18, 1067, false), (49, 9, 19, 1068, false), (52, 9, 20, 1069, false), (55, 9, 21, 1070, false), (59, 9, 22, 1071, false), (63, 9, 23, 1072, false), (212, 9, 24, 1073, false), (66, 9, 25, 1074, false), (69, 9, 26, 1075, false), (72, 9, 27, 1076, false), (75, 9, 28, 1077, false), (286, 9, 29, 1078, false), (78, 9, 30, 1079, false), (81, 9, 31, 1080, false), (321, 9, 32, 1081, false), (324, 9, 33, 1082, false), (218, 9, 34, 1083, false), (84, 9, 35, 1084, false), (241, 9, 36, 1085, false), (87, 9, 37, 1086, false), (90, 9, 38, 1087, false), (93, 9, 39, 1088, false), (96, 9, 40, 1089, false), (99, 9, 41, 1090, false), (102, 9, 42, 1091, false), (292, 9, 43, 1092, false), (356, 9, 44, 1093, false), (359, 9, 45, 1094, false), (377, 9, 46, 1095, false), (380, 9, 47, 1096, false), (386, 9, 48, 1097, false), (383, 9, 49, 1098, false), (362, 9, 50, 1099, false), (105, 9, 51, 1100, false), (108, 9, 52, 1101, false), (111, 9, 53, 1102, false), (365, 9, 54, 1103, false), (114, 9, 55, 1104, false), (117, 9, 56, 1105, false), (120, 9, 57, 1106, false), (123, 9, 58, 1107, false), (368, 9, 59, 1108, false), (126, 9, 60, 1109, false), (129, 9, 61, 1110, false), (132, 9, 62, 1111, false), (135, 9, 63, 1112, false), (138, 9, 64, 1113, false), (141, 9, 65, 1114, false)]
def pm_ml9 : List (Nat × Nat × Nat × Bool) := [(269, 170, 1257, false), (273, 143, 1261, false), (160, 136, 1265, false), (178, 142, 1269, false), (168, 139, 1273, false), (156, 137, 1277, false), (164, 138, 1281, false), (172, 140, 1285, false), (175, 141, 1289, false), (276, 148, 1293, false), (186, 146, 1297, false), (189, 145, 1301, false), (182, 144, 1305, false), (280, 155, 1309, false), (202, 147, 1313, false), (289, 174, 1321, false), (296, 171, 1329, false), (299, 172, 1333, false), (244, 161, 1337, false), (221, 160, 1341, false), (225, 162, 1345, false), (192, 149, 1349, false), (229, 158, 1353, false), (215, 156, 1357, false), (205, 150, 1361, false), (209, 153, 1365, false), (199, 152, 1369, false), (196, 151, 1373, false), (232, 159, 1376, false), (235, 154, 1380, false), (238, 157, 1384, false), (306, 178, 1396, false), (302, 169, 1400, false), (255, 163, 1404, false), (262, 166, 1408, false), (247, 164, 1412, false), (251, 167, 1416, false), (259, 165, 1420, false), (266, 168, 1424, false), (315, 183, 1440, false), (312, 182, 1444, false), (318, 184, 1448, false), (353, 195, 1460, false), (347, 187, 1464, false), (350, 194, 1468, false), (330, 189, 1472, false), (338, 191, 1476, false), (341, 190, 1480, false), (344, 193, 1484, false), (327, 188, 1488, false), (334, 192, 1492, false), (371, 199, 1504, false), (374, 206, 1508, false), (401, 205, 1512, false), (398, 204, 1516, false), (389, 200, 1520, false), (405, 203, 1524, false), (392, 201, 1528, false), (395, 202, 1532, false), (408, 210, 1548, false)]
def pm_bl9 : List (Nat × Nat × Nat) := [(1, 1, 1048)]
def pm_fl10 : List (Nat × Nat × Nat × Nat × Bool) := []
def pm_ml10 : List (Nat × Nat × Nat × Bool) := [(9, 0, 181, false), (13, 1, 499, false), (18, 2, 503, false), (23, 3, 672, false), (28, 4, 839, false), (33, 5, 860, false), (37, 6, 865, false), (42, 7, 874, false), (46, 8, 879, false), (50, 9, 883, false), (54, 10, 915, false), (58, 11, 919, false), (62, 12, 927, false), (67, 13, 935, false), (72, 14, 1018, false), (76, 15, 1023, false), (80, 16, 1027, false), (12, 134, 1045, false), (17, 135, 1249, false), (22, 173, 1253, false), (27, 175, 1317, false), (32, 176, 1325, false), (36, 177, 1388, false), (41, 179, 1392, false), (45, 180, 1428, false), (49, 181, 1432, false), (53, 185, 1436, false), (57, 186, 1452, false), (61, 196, 1456, false), (66, 197, 1496, false), (71, 198, 1500, false), (75, 207, 1536, false), (79, 208, 1540, false), (83, 209, 1544, false)]
def pm_bl10 : List (Nat × Nat × Nat) := []
def pm_fl11 : List (Nat × Nat × Nat × Nat × Bool) := []
def pm_ml11 : List (Nat × Nat × Nat × Bool) := []
def pm_bl11 : List (Nat × Nat × Nat) := [(304, 2, 572), (150, 3, 573)]
def pm_fl (c : Nat) : List (Nat × Nat × Nat × Nat × Bool) := match c with
  | 0 => pm_fl0
  | 1 => pm_fl1
  | 2 => pm_fl2
  | 3 => pm_fl3
  | 4 => pm_fl4
  | 5 => pm_fl5
  | 6 => pm_fl6
  | 7 => pm_fl7
  | 8 => pm_fl8
  | 9 => pm_fl9
  | 10 => pm_fl10
  | 11 => pm_fl11
  | _ => []
def pm_ml (c : Nat) : List (Nat × Nat × Nat × Bool) := match c with
  | 0 => pm_ml0
  | 1 => pm_ml1
  | 2 => pm_ml2
  | 3 => pm_ml3
  | 4 => pm_ml4
  | 5 => pm_ml5
  | 6 => pm_ml6
  | 7 => pm_ml7
  | 8 => pm_ml8
  | 9 => pm_ml9
  | 10 => pm_ml10
  | 11 => pm_ml11
  | _ => []
def pm_bl (c : Nat) : List (Nat × Nat × Nat) := match c with
  | 0 => pm_bl0
  | 1 => pm_bl1
  | 2 => pm_bl2
  | 3 => pm_bl3
  | 4 => pm_bl4
  | 5 => pm_bl5
  | 6 => pm_bl6
  | 7 => pm_bl7
  | 8 => pm_bl8
  | 9 => pm_bl9
  | 10 => pm_bl10
  | 11 => pm_bl11
  | _ => []
def pm_nl : List ((Nat × Nat) × Nat × Nat) := [((10, 7), 0, 179), ((0, 13), 1, 187), ((0, 24), 2, 209), ((0, 31), 3, 243), ((0, 38), 4, 264), ((0, 52), 5, 302), ((0, 61), 6, 351), ((0, 70), 7, 368), ((7, 33), 8, 374), ((10, 10), 9, 1043)]
def pm_qc : Nat := 1
def pm_dl : List ((Nat × Nat) × Int32 × Nat) := [((7, 68), 1000000, 947)]
def pm_lk {α : Type} (l : List (Nat × α)) (i : Nat) : Option α := match l with
  | [] => none
  | (j, v) :: l => if i = j then some v else pm_lk l i
def pm_lk2 {α : Type} (l : List ((Nat × Nat) × α)) (o i : Nat) : Option α := match l with
  | [] => none
  | ((p, j), v) :: l => if o = p ∧ i = j then some v else pm_lk2 l o i
theorem pm_lk_mem {α : Type} {i : Nat} {v : α} : ∀ {l : List (Nat × α)}, pm_lk l i = some v → (i, v) ∈ l
  | [], h => by cases h
  | (j, w) :: l, h => by
    unfold pm_lk at h
    split at h
    · rename_i e
      cases h
      subst e
      exact List.mem_cons_self
    · exact List.mem_cons_of_mem _ (pm_lk_mem h)
theorem pm_lk2_mem {α : Type} {o i : Nat} {v : α} : ∀ {l : List ((Nat × Nat) × α)}, pm_lk2 l o i = some v → ((o, i), v) ∈ l
  | [], h => by cases h
  | ((p, j), w) :: l, h => by
    unfold pm_lk2 at h
    split at h
    · rename_i e
      cases h
      obtain ⟨rfl, rfl⟩ := e
      exact List.mem_cons_self
    · exact List.mem_cons_of_mem _ (pm_lk2_mem h)
def pm_fld (o i : Nat) : Option (Nat × Nat) := match pm_lk (pm_fl o) i with
  | some (c, f, _) => some (c, f)
  | none => none
def pm_mth (o i : Nat) : Option Nat := match pm_lk (pm_ml o) i with
  | some (j, _) => some j
  | none => none
def pm_bi (o i : Nat) : Nat := match pm_lk (pm_bl o) i with
  | some (k, _) => k
  | none => 0
def pm_new (o i : Nat) : Option Nat := match pm_lk2 pm_nl o i with
  | some (c, _) => some c
  | none => none
def pm_anw (o i : Nat) : Bool := match pm_new o i with
  | some c => decide (c = pm_qc)
  | none => false
def pm_ldc (o i : Nat) : Option Int32 := match pm_lk2 pm_dl o i with
  | some (v, _) => some v
  | none => none
def pm_nk : Nat := 4
def pm_ty (k : Nat) : FieldType := match k with
  | 0 => .int
  | 1 => .char
  | 2 => .boolean
  | _ => .object "BoundedSchemes$KeptType"
theorem pm_nk0 : 0 < pm_nk := by decide
theorem pm_nk1 : 1 < pm_nk := by decide
theorem pm_nk2 : 2 < pm_nk := by decide
theorem pm_nk3 : 3 < pm_nk := by decide
theorem pm_nk10 : pm_nk ≤ 10 := by decide
def pm_cnt : Nat := 212
def pm_y_0 : List (MethodName) := [⟨"BoundedSchemes", "<init>", "()V"⟩, ⟨"BoundedSchemes", "type", "(C)Z"⟩, ⟨"BoundedSchemes", "readType", "(I)I"⟩, ⟨"BoundedSchemes", "readTerm", "()I"⟩, ⟨"BoundedSchemes", "below", "(II)I"⟩, ⟨"BoundedSchemes", "same", "(II)I"⟩, ⟨"BoundedSchemes", "join", "(III)I"⟩, ⟨"BoundedSchemes", "meet", "(III)I"⟩, ⟨"BoundedSchemes", "size", "(I)I"⟩, ⟨"BoundedSchemes", "write", "(I)I"⟩, ⟨"BoundedSchemes", "charAt", "(I)I"⟩, ⟨"BoundedSchemes", "typeOf", "(I)I"⟩, ⟨"BoundedSchemes", "fits", "(I)Z"⟩, ⟨"BoundedSchemes", "start", "()Z"⟩, ⟨"BoundedSchemes", "step", "(I)I"⟩, ⟨"BoundedSchemes", "steps", "()I"⟩]
def pm_y_1 : List (MethodName) := [⟨"BoundedSchemes", "value", "()I"⟩, ⟨"BoundedSchemes", "isSlot", "(I)Z"⟩, ⟨"BoundedSchemes", "hasType", "(I)Z"⟩, ⟨"BoundedSchemes", "termHasType", "()Z"⟩, ⟨"BoundedSchemes", "keptBelow", "(LBoundedSchemes$KeptType;LBoundedSchemes$KeptType;)Z"⟩, ⟨"BoundedSchemes", "keepMade", "(II)I"⟩, ⟨"BoundedSchemes", "takeSpareAsTerm", "()V"⟩, ⟨"BoundedSchemes$KeptType", "<init>", "()V"⟩, ⟨"BoundedSchemes$KeptType", "copyFrom", "(LBoundedSchemes$KeptType;)V"⟩, ⟨"BoundedSchemes$KeptType", "append", "(I)V"⟩, ⟨"BoundedSchemes$TypeRoom", "<init>", "()V"⟩, ⟨"BoundedSchemes$TypeRoom", "clear", "()V"⟩, ⟨"BoundedSchemes$TypeRoom", "make", "(IIII)I"⟩, ⟨"BoundedSchemes$TypeRoom", "grow", "()Z"⟩, ⟨"BoundedSchemes$TypeRoom", "variable", "(I)I"⟩, ⟨"BoundedSchemes$TypeRoom", "holds", "(II)Z"⟩]
def pm_y_2 : List (MethodName) := [⟨"BoundedSchemes$TypeRoom", "areRecords", "(II)Z"⟩, ⟨"BoundedSchemes$TypeRoom", "isRecord", "(I)Z"⟩, ⟨"BoundedSchemes$TypeRoom", "part", "(II)I"⟩, ⟨"BoundedSchemes$TypeRoom", "isVariable", "(I)Z"⟩, ⟨"BoundedSchemes$TypeRoom", "levelOf", "(I)I"⟩, ⟨"BoundedSchemes$TypeRoom", "keep", "(ILBoundedSchemes$KeptType;)V"⟩, ⟨"BoundedSchemes$TypeRoom", "pack", "(ILBoundedSchemes$KeptType;I)V"⟩, ⟨"BoundedSchemes$TypeRoom", "unpack", "(LBoundedSchemes$KeptType;)I"⟩, ⟨"BoundedSchemes$TypeRoom", "unpackNext", "(LBoundedSchemes$KeptType;I)I"⟩, ⟨"BoundedSchemes$TypeRoom", "isSame", "(III)Z"⟩, ⟨"BoundedSchemes$TypeRoom", "lift", "(IIII)I"⟩, ⟨"BoundedSchemes$TypeRoom", "remake", "(IIII)I"⟩, ⟨"BoundedSchemes$TypeRoom", "replace", "(IIIII)I"⟩, ⟨"BoundedSchemes$TypeRoom", "boundOf", "(II)I"⟩, ⟨"BoundedSchemes$TypeRoom", "exposed", "(II)I"⟩, ⟨"BoundedSchemes$TypeRoom", "openOne", "(II)Z"⟩]
def pm_y_3 : List (MethodName) := [⟨"BoundedSchemes$TypeRoom", "isBelow", "(IIII)Z"⟩, ⟨"BoundedSchemes$TypeRoom", "isBelowForm", "(IIII)Z"⟩, ⟨"BoundedSchemes$TypeRoom", "isRecordBelow", "(IIII)Z"⟩, ⟨"BoundedSchemes$TypeRoom", "haveSameBound", "(II)Z"⟩, ⟨"BoundedSchemes$TypeRoom", "joinOf", "(IIII)I"⟩, ⟨"BoundedSchemes$TypeRoom", "joinOfForms", "(IIII)I"⟩, ⟨"BoundedSchemes$TypeRoom", "joinOfParts", "(IIIII)I"⟩, ⟨"BoundedSchemes$TypeRoom", "meetOf", "(IIII)I"⟩, ⟨"BoundedSchemes$TypeRoom", "meetOfForms", "(IIII)I"⟩, ⟨"BoundedSchemes$TypeRoom", "meetOfRecords", "(IIII)I"⟩, ⟨"BoundedSchemes$TypeRoom", "meetOfParts", "(IIIII)I"⟩, ⟨"BoundedSchemes$TypeRoom", "writeOn", "(LBoundedSchemes$Page;III)V"⟩, ⟨"BoundedSchemes$TypeRoom", "writeRecordOn", "(LBoundedSchemes$Page;III)V"⟩, ⟨"BoundedSchemes$TypeRoom", "nameOf", "(I)C"⟩, ⟨"BoundedSchemes$Page", "<init>", "()V"⟩, ⟨"BoundedSchemes$Page", "begin", "()V"⟩]
def pm_y_4 : List (MethodName) := [⟨"BoundedSchemes$Page", "put", "(C)V"⟩, ⟨"BoundedSchemes$Page", "isOver", "()Z"⟩, ⟨"BoundedSchemes$Page", "show", "()I"⟩, ⟨"BoundedSchemes$Term", "<init>", "()V"⟩, ⟨"BoundedSchemes$Term", "add", "(II)I"⟩, ⟨"BoundedSchemes$Term", "fill", "(IIIII)V"⟩, ⟨"BoundedSchemes$Term", "holds", "(II)Z"⟩, ⟨"BoundedSchemes$Term", "part", "(II)I"⟩, ⟨"BoundedSchemes$Term", "labelFrom", "(II)I"⟩, ⟨"BoundedSchemes$Reader", "<init>", "(LBoundedSchemes$TypeRoom;[CLBoundedSchemes$Term;)V"⟩, ⟨"BoundedSchemes$Reader", "readWholeType", "(I)I"⟩, ⟨"BoundedSchemes$Reader", "readWholeTerm", "(ILBoundedSchemes$Term;)V"⟩, ⟨"BoundedSchemes$Reader", "begin", "(I)V"⟩, ⟨"BoundedSchemes$Reader", "end", "(I)V"⟩, ⟨"BoundedSchemes$Reader", "next", "()C"⟩, ⟨"BoundedSchemes$Reader", "take", "(C)Z"⟩]
def pm_y_5 : List (MethodName) := [⟨"BoundedSchemes$Reader", "takeBetween", "(CC)C"⟩, ⟨"BoundedSchemes$Reader", "takeLabel", "(II)I"⟩, ⟨"BoundedSchemes$Reader", "openType", "(C)V"⟩, ⟨"BoundedSchemes$Reader", "openName", "(CI)V"⟩, ⟨"BoundedSchemes$Reader", "levelOf", "(C)I"⟩, ⟨"BoundedSchemes$Reader", "binderOf", "(C)I"⟩, ⟨"BoundedSchemes$Reader", "outerType", "(I)I"⟩, ⟨"BoundedSchemes$Reader", "anyType", "(I)I"⟩, ⟨"BoundedSchemes$Reader", "functionType", "(I)I"⟩, ⟨"BoundedSchemes$Reader", "schemeType", "(I)I"⟩, ⟨"BoundedSchemes$Reader", "recordParts", "(ZII)I"⟩, ⟨"BoundedSchemes$Reader", "recordPart", "(ZI)I"⟩, ⟨"BoundedSchemes$Reader", "anyTerm", "(I)I"⟩, ⟨"BoundedSchemes$Reader", "holdingTerm", "(II)I"⟩, ⟨"BoundedSchemes$Reader", "function", "(II)I"⟩, ⟨"BoundedSchemes$Reader", "application", "(II)I"⟩]
def pm_y_6 : List (MethodName) := [⟨"BoundedSchemes$Reader", "general", "(II)I"⟩, ⟨"BoundedSchemes$Reader", "special", "(II)I"⟩, ⟨"BoundedSchemes$Reader", "selection", "(II)I"⟩, ⟨"BoundedSchemes$Reader", "choice", "(II)I"⟩, ⟨"BoundedSchemes$Checker", "<init>", "(LBoundedSchemes$TypeRoom;LBoundedSchemes$Term;)V"⟩, ⟨"BoundedSchemes$Checker", "begin", "(LBoundedSchemes$Term;)V"⟩, ⟨"BoundedSchemes$Checker", "find", "(III)I"⟩, ⟨"BoundedSchemes$Checker", "findByRule", "(III)I"⟩, ⟨"BoundedSchemes$Checker", "ofVariable", "(II)I"⟩, ⟨"BoundedSchemes$Checker", "ofFunction", "(III)I"⟩, ⟨"BoundedSchemes$Checker", "ofApplication", "(III)I"⟩, ⟨"BoundedSchemes$Checker", "ofGeneral", "(III)I"⟩, ⟨"BoundedSchemes$Checker", "ofSpecial", "(III)I"⟩, ⟨"BoundedSchemes$Checker", "ofRecord", "(III)I"⟩, ⟨"BoundedSchemes$Checker", "ofPart", "(IIII)I"⟩, ⟨"BoundedSchemes$Checker", "ofSelection", "(III)I"⟩]
def pm_y_7 : List (MethodName) := [⟨"BoundedSchemes$Checker", "ofChoice", "(III)I"⟩, ⟨"BoundedSchemes$Machine", "<init>", "(LBoundedSchemes$Term;)V"⟩, ⟨"BoundedSchemes$Machine", "run", "(LBoundedSchemes$Term;)V"⟩, ⟨"BoundedSchemes$Machine", "goTo", "(II)V"⟩, ⟨"BoundedSchemes$Machine", "countStep", "()Z"⟩, ⟨"BoundedSchemes$Machine", "enter", "()V"⟩, ⟨"BoundedSchemes$Machine", "enterRecord", "()V"⟩, ⟨"BoundedSchemes$Machine", "valueOf", "(I)I"⟩, ⟨"BoundedSchemes$Machine", "push", "(II)V"⟩, ⟨"BoundedSchemes$Machine", "grow", "()Z"⟩, ⟨"BoundedSchemes$Machine", "goOn", "(I)V"⟩, ⟨"BoundedSchemes$Machine", "isOfKind", "(II)Z"⟩, ⟨"BoundedSchemes$Machine", "goOnApplication", "(I)V"⟩, ⟨"BoundedSchemes$Machine", "newScope", "(III)I"⟩, ⟨"BoundedSchemes$Machine", "goOnRecord", "(I)V"⟩, ⟨"BoundedSchemes$Machine", "writeOn", "(LBoundedSchemes$Page;II)V"⟩]
def pm_y_8 : List (MethodName) := [⟨"BoundedSchemes$Machine", "writeRecordOn", "(LBoundedSchemes$Page;II)V"⟩, ⟨"BoundedSchemes$Values", "<init>", "()V"⟩, ⟨"BoundedSchemes$Values", "make", "(II)I"⟩, ⟨"BoundedSchemes$Values", "grow", "()Z"⟩, ⟨"BoundedSchemes$Values", "part", "(II)I"⟩, ⟨"BoundedSchemes$Values", "setPart", "(III)V"⟩, ⟨"BoundedSchemesModel", "<init>", "()V"⟩, ⟨"BoundedSchemesModel", "type", "(C)Z"⟩, ⟨"BoundedSchemesModel", "expect", "(IIII)V"⟩, ⟨"BoundedSchemesModel", "add", "(IIII)I"⟩, ⟨"BoundedSchemesModel", "open", "(III)I"⟩, ⟨"BoundedSchemesModel", "beginType", "(IIII)Z"⟩, ⟨"BoundedSchemesModel", "beginTerm", "(IIII)Z"⟩, ⟨"BoundedSchemesModel", "label", "(IIII)Z"⟩, ⟨"BoundedSchemesModel", "take", "(II)Z"⟩, ⟨"BoundedSchemesModel", "read", "(I)I"⟩]
def pm_y_9 : List (MethodName) := [⟨"BoundedSchemesModel", "partsOf", "(I)I"⟩, ⟨"BoundedSchemesModel", "behind", "(I)I"⟩, ⟨"BoundedSchemesModel", "binder", "(III)I"⟩, ⟨"BoundedSchemesModel", "depthOf", "(I)I"⟩, ⟨"BoundedSchemesModel", "sound", "()Z"⟩, ⟨"BoundedSchemesModel", "cell", "(II)I"⟩, ⟨"BoundedSchemesModel", "fresh", "()I"⟩, ⟨"BoundedSchemesModel", "labels", "(I)I"⟩, ⟨"BoundedSchemesModel", "end", "(II)I"⟩, ⟨"BoundedSchemesModel", "copy", "(IIII)V"⟩, ⟨"BoundedSchemesModel", "equal", "(IIII)Z"⟩, ⟨"BoundedSchemesModel", "fill", "(II)V"⟩, ⟨"BoundedSchemesModel", "widened", "(IIII)I"⟩, ⟨"BoundedSchemesModel", "context", "(III)I"⟩, ⟨"BoundedSchemesModel", "boundOf", "(III)I"⟩, ⟨"BoundedSchemesModel", "field", "(III)I"⟩]
def pm_y_10 : List (MethodName) := [⟨"BoundedSchemesModel", "pose", "(IIIIII)V"⟩, ⟨"BoundedSchemesModel", "under", "(IIIIII)Z"⟩, ⟨"BoundedSchemesModel", "settle", "(IIIIII)Z"⟩, ⟨"BoundedSchemesModel", "aim", "(IIIIIII)I"⟩, ⟨"BoundedSchemesModel", "reach", "(III)V"⟩, ⟨"BoundedSchemesModel", "top", "()I"⟩, ⟨"BoundedSchemesModel", "part", "(I)V"⟩, ⟨"BoundedSchemesModel", "fields", "(II)V"⟩, ⟨"BoundedSchemesModel", "whole", "(I)V"⟩, ⟨"BoundedSchemesModel", "combine", "(IIIII)I"⟩, ⟨"BoundedSchemesModel", "isSlot", "(I)Z"⟩, ⟨"BoundedSchemesModel", "holds", "(I)Z"⟩, ⟨"BoundedSchemesModel", "begin", "()V"⟩, ⟨"BoundedSchemesModel", "readType", "(I)I"⟩, ⟨"BoundedSchemesModel", "keepTerm", "()V"⟩, ⟨"BoundedSchemesModel", "readTerm", "()I"⟩]
def pm_y_11 : List (MethodName) := [⟨"BoundedSchemesModel", "below", "(II)I"⟩, ⟨"BoundedSchemesModel", "same", "(II)I"⟩, ⟨"BoundedSchemesModel", "combined", "(IIII)I"⟩, ⟨"BoundedSchemesModel", "join", "(III)I"⟩, ⟨"BoundedSchemesModel", "meet", "(III)I"⟩, ⟨"BoundedSchemesModel", "size", "(I)I"⟩, ⟨"BoundedSchemesModel", "put", "(I)V"⟩, ⟨"BoundedSchemesModel", "before", "(II)V"⟩, ⟨"BoundedSchemesModel", "bindersAround", "(III)I"⟩, ⟨"BoundedSchemesModel", "write", "(I)I"⟩, ⟨"BoundedSchemesModel", "charAt", "(I)I"⟩, ⟨"BoundedSchemesModel", "prepare", "()V"⟩, ⟨"BoundedSchemesModel", "expose", "(III)V"⟩, ⟨"BoundedSchemesModel", "gets", "(III)Z"⟩, ⟨"BoundedSchemesModel", "binding", "(IIII)Z"⟩, ⟨"BoundedSchemesModel", "recordType", "(I)Z"⟩]
def pm_y_12 : List (MethodName) := [⟨"BoundedSchemesModel", "instance", "(IIIII)Z"⟩, ⟨"BoundedSchemesModel", "application", "(IIII)Z"⟩, ⟨"BoundedSchemesModel", "rule", "(I)Z"⟩, ⟨"BoundedSchemesModel", "types", "()I"⟩, ⟨"BoundedSchemesModel", "typeOf", "(I)I"⟩, ⟨"BoundedSchemesModel", "fits", "(I)Z"⟩, ⟨"BoundedSchemesModel", "start", "()Z"⟩, ⟨"BoundedSchemesModel", "go", "(II)V"⟩, ⟨"BoundedSchemesModel", "answer", "(I)V"⟩, ⟨"BoundedSchemesModel", "keep", "(III)I"⟩, ⟨"BoundedSchemesModel", "wait", "(IIII)V"⟩, ⟨"BoundedSchemesModel", "enter", "(Z)I"⟩, ⟨"BoundedSchemesModel", "fillField", "(I)V"⟩, ⟨"BoundedSchemesModel", "back", "(Z)I"⟩, ⟨"BoundedSchemesModel", "run", "(I)I"⟩, ⟨"BoundedSchemesModel", "step", "(I)I"⟩]
def pm_y_13 : List (MethodName) := [⟨"BoundedSchemesModel", "steps", "()I"⟩, ⟨"BoundedSchemesModel", "value", "()I"⟩, ⟨"BoundedSchemesModel", "show", "(II)I"⟩, ⟨"java/util/Arrays", "copyOf", "([II)[I"⟩, ⟨"BoundedSchemesLaw", "law", "([I)Z"⟩]
def pm_y (j : Nat) : MethodName := (match j / 16 with
  | 0 => pm_y_0
  | 1 => pm_y_1
  | 2 => pm_y_2
  | 3 => pm_y_3
  | 4 => pm_y_4
  | 5 => pm_y_5
  | 6 => pm_y_6
  | 7 => pm_y_7
  | 8 => pm_y_8
  | 9 => pm_y_9
  | 10 => pm_y_10
  | 11 => pm_y_11
  | 12 => pm_y_12
  | 13 => pm_y_13
  | _ => []).getD (j % 16) ⟨"", "", ""⟩
def pm_code_0 : List (ByteArray) := [prog_1_method_1_code, prog_1_method_2_code, prog_1_method_3_code, prog_1_method_4_code, prog_1_method_5_code, prog_1_method_6_code, prog_1_method_7_code, prog_1_method_8_code, prog_1_method_9_code, prog_1_method_10_code, prog_1_method_11_code, prog_1_method_12_code, prog_1_method_13_code, prog_1_method_14_code, prog_1_method_15_code, prog_1_method_16_code]
def pm_code_1 : List (ByteArray) := [prog_1_method_17_code, prog_1_method_18_code, prog_1_method_19_code, prog_1_method_20_code, prog_1_method_21_code, prog_1_method_22_code, prog_1_method_23_code, prog_3_method_1_code, prog_3_method_2_code, prog_3_method_3_code, prog_8_method_1_code, prog_8_method_2_code, prog_8_method_3_code, prog_8_method_4_code, prog_8_method_5_code, prog_8_method_6_code]
def pm_code_2 : List (ByteArray) := [prog_8_method_7_code, prog_8_method_8_code, prog_8_method_9_code, prog_8_method_10_code, prog_8_method_11_code, prog_8_method_12_code, prog_8_method_13_code, prog_8_method_14_code, prog_8_method_15_code, prog_8_method_16_code, prog_8_method_17_code, prog_8_method_18_code, prog_8_method_19_code, prog_8_method_20_code, prog_8_method_21_code, prog_8_method_22_code]
def pm_code_3 : List (ByteArray) := [prog_8_method_23_code, prog_8_method_24_code, prog_8_method_25_code, prog_8_method_26_code, prog_8_method_27_code, prog_8_method_28_code, prog_8_method_29_code, prog_8_method_30_code, prog_8_method_31_code, prog_8_method_32_code, prog_8_method_33_code, prog_8_method_34_code, prog_8_method_35_code, prog_8_method_36_code, prog_5_method_1_code, prog_5_method_2_code]
def pm_code_4 : List (ByteArray) := [prog_5_method_3_code, prog_5_method_4_code, prog_5_method_5_code, prog_7_method_1_code, prog_7_method_2_code, prog_7_method_3_code, prog_7_method_4_code, prog_7_method_5_code, prog_7_method_6_code, prog_6_method_1_code, prog_6_method_2_code, prog_6_method_3_code, prog_6_method_4_code, prog_6_method_5_code, prog_6_method_6_code, prog_6_method_7_code]
def pm_code_5 : List (ByteArray) := [prog_6_method_8_code, prog_6_method_9_code, prog_6_method_10_code, prog_6_method_11_code, prog_6_method_12_code, prog_6_method_13_code, prog_6_method_14_code, prog_6_method_15_code, prog_6_method_16_code, prog_6_method_17_code, prog_6_method_18_code, prog_6_method_19_code, prog_6_method_20_code, prog_6_method_21_code, prog_6_method_22_code, prog_6_method_23_code]
def pm_code_6 : List (ByteArray) := [prog_6_method_24_code, prog_6_method_25_code, prog_6_method_26_code, prog_6_method_27_code, prog_2_method_1_code, prog_2_method_2_code, prog_2_method_3_code, prog_2_method_4_code, prog_2_method_5_code, prog_2_method_6_code, prog_2_method_7_code, prog_2_method_8_code, prog_2_method_9_code, prog_2_method_10_code, prog_2_method_11_code, prog_2_method_12_code]
def pm_code_7 : List (ByteArray) := [prog_2_method_13_code, prog_4_method_1_code, prog_4_method_2_code, prog_4_method_3_code, prog_4_method_4_code, prog_4_method_5_code, prog_4_method_6_code, prog_4_method_7_code, prog_4_method_8_code, prog_4_method_9_code, prog_4_method_10_code, prog_4_method_11_code, prog_4_method_12_code, prog_4_method_13_code, prog_4_method_14_code, prog_4_method_15_code]
def pm_code_8 : List (ByteArray) := [prog_4_method_16_code, prog_9_method_1_code, prog_9_method_2_code, prog_9_method_3_code, prog_9_method_4_code, prog_9_method_5_code, prog_11_method_1_code, prog_11_method_2_code, prog_11_method_3_code, prog_11_method_4_code, prog_11_method_5_code, prog_11_method_6_code, prog_11_method_7_code, prog_11_method_8_code, prog_11_method_9_code, prog_11_method_10_code]
def pm_code_9 : List (ByteArray) := [prog_11_method_11_code, prog_11_method_12_code, prog_11_method_13_code, prog_11_method_14_code, prog_11_method_15_code, prog_11_method_16_code, prog_11_method_17_code, prog_11_method_18_code, prog_11_method_19_code, prog_11_method_20_code, prog_11_method_21_code, prog_11_method_22_code, prog_11_method_23_code, prog_11_method_24_code, prog_11_method_25_code, prog_11_method_26_code]
def pm_code_10 : List (ByteArray) := [prog_11_method_27_code, prog_11_method_28_code, prog_11_method_29_code, prog_11_method_30_code, prog_11_method_31_code, prog_11_method_32_code, prog_11_method_33_code, prog_11_method_34_code, prog_11_method_35_code, prog_11_method_36_code, prog_11_method_37_code, prog_11_method_38_code, prog_11_method_39_code, prog_11_method_40_code, prog_11_method_41_code, prog_11_method_42_code]
def pm_code_11 : List (ByteArray) := [prog_11_method_43_code, prog_11_method_44_code, prog_11_method_45_code, prog_11_method_46_code, prog_11_method_47_code, prog_11_method_48_code, prog_11_method_49_code, prog_11_method_50_code, prog_11_method_51_code, prog_11_method_52_code, prog_11_method_53_code, prog_11_method_54_code, prog_11_method_55_code, prog_11_method_56_code, prog_11_method_57_code, prog_11_method_58_code]
def pm_code_12 : List (ByteArray) := [prog_11_method_59_code, prog_11_method_60_code, prog_11_method_61_code, prog_11_method_62_code, prog_11_method_63_code, prog_11_method_64_code, prog_11_method_65_code, prog_11_method_66_code, prog_11_method_67_code, prog_11_method_68_code, prog_11_method_69_code, prog_11_method_70_code, prog_11_method_71_code, prog_11_method_72_code, prog_11_method_73_code, prog_11_method_74_code]
def pm_code_13 : List (ByteArray) := [prog_11_method_75_code, prog_11_method_76_code, prog_11_method_77_code, prog_15_method_123_code, code]
def pm_code (j : Nat) : ByteArray := (match j / 16 with
  | 0 => pm_code_0
  | 1 => pm_code_1
  | 2 => pm_code_2
  | 3 => pm_code_3
  | 4 => pm_code_4
  | 5 => pm_code_5
  | 6 => pm_code_6
  | 7 => pm_code_7
  | 8 => pm_code_8
  | 9 => pm_code_9
  | 10 => pm_code_10
  | 11 => pm_code_11
  | 12 => pm_code_12
  | 13 => pm_code_13
  | _ => []).getD (j % 16) ByteArray.empty
def pm_max_0 : List (Nat) := [2, 2, 3, 2, 3, 5, 6, 7, 2, 2, 2, 2, 2, 1, 3, 1]
def pm_max_1 : List (Nat) := [1, 1, 2, 1, 5, 4, 2, 1, 3, 2, 1, 1, 6, 2, 2, 2]
def pm_max_2 : List (Nat) := [3, 2, 3, 2, 2, 3, 5, 2, 7, 5, 8, 5, 10, 4, 5, 3]
def pm_max_3 : List (Nat) := [7, 7, 6, 3, 8, 7, 6, 5, 7, 8, 6, 5, 7, 1, 1, 1]
def pm_max_4 : List (Nat) := [2, 1, 2, 1, 4, 6, 3, 3, 4, 4, 3, 3, 2, 2, 1, 2]
def pm_max_5 : List (Nat) := [4, 4, 2, 3, 3, 3, 3, 3, 4, 5, 14, 3, 5, 3, 6, 5]
def pm_max_6 : List (Nat) := [6, 5, 5, 6, 3, 2, 5, 4, 5, 5, 7, 6, 7, 7, 5, 8]
def pm_max_7 : List (Nat) := [6, 2, 3, 3, 1, 1, 3, 4, 3, 2, 3, 3, 4, 5, 5, 5]
def pm_max_8 : List (Nat) := [6, 1, 4, 2, 3, 4, 1, 2, 5, 5, 4, 7, 7, 7, 8, 3]
def pm_max_9 : List (Nat) := [3, 4, 5, 4, 2, 3, 1, 1, 6, 7, 8, 6, 8, 4, 5, 6]
def pm_max_10 : List (Nat) := [8, 11, 12, 9, 4, 2, 14, 11, 10, 8, 2, 2, 1, 3, 2, 2]
def pm_max_11 : List (Nat) := [3, 3, 7, 4, 4, 2, 2, 8, 6, 7, 2, 4, 4, 5, 5, 6]
def pm_max_12 : List (Nat) := [15, 9, 7, 8, 3, 2, 1, 3, 2, 4, 5, 5, 8, 6, 4, 3]
def pm_max_13 : List (Nat) := [1, 5, 6, 3, 4]
def pm_max (j : Nat) : Nat := (match j / 16 with
  | 0 => pm_max_0
  | 1 => pm_max_1
  | 2 => pm_max_2
  | 3 => pm_max_3
  | 4 => pm_max_4
  | 5 => pm_max_5
  | 6 => pm_max_6
  | 7 => pm_max_7
  | 8 => pm_max_8
  | 9 => pm_max_9
  | 10 => pm_max_10
  | 11 => pm_max_11
  | 12 => pm_max_12
  | 13 => pm_max_13
  | _ => []).getD (j % 16) 0
def pm_rt_0 : List (Option FieldType) := [none, some .boolean, some .int, some .int, some .int, some .int, some .int, some .int, some .int, some .int, some .int, some .int, some .boolean, some .boolean, some .int, some .int]
def pm_rt_1 : List (Option FieldType) := [some .int, some .boolean, some .boolean, some .boolean, some .boolean, some .int, none, none, none, none, none, none, some .int, some .boolean, some .int, some .boolean]
def pm_rt_2 : List (Option FieldType) := [some .boolean, some .boolean, some .int, some .boolean, some .int, none, none, some .int, some .int, some .boolean, some .int, some .int, some .int, some .int, some .int, some .boolean]
def pm_rt_3 : List (Option FieldType) := [some .boolean, some .boolean, some .boolean, some .boolean, some .int, some .int, some .int, some .int, some .int, some .int, some .int, none, none, some .char, none, none]
def pm_rt_4 : List (Option FieldType) := [none, some .boolean, some .int, none, some .int, none, some .boolean, some .int, some .int, none, some .int, none, none, none, some .char, some .boolean]
def pm_rt_5 : List (Option FieldType) := [some .char, some .int, none, none, some .int, some .int, some .int, some .int, some .int, some .int, some .int, some .int, some .int, some .int, some .int, some .int]
def pm_rt_6 : List (Option FieldType) := [some .int, some .int, some .int, some .int, none, none, some .int, some .int, some .int, some .int, some .int, some .int, some .int, some .int, some .int, some .int]
def pm_rt_7 : List (Option FieldType) := [some .int, none, none, none, some .boolean, none, none, some .int, none, some .boolean, none, some .boolean, none, some .int, none, none]
def pm_rt_8 : List (Option FieldType) := [none, none, some .int, some .boolean, some .int, none, none, some .boolean, none, some .int, some .int, some .boolean, some .boolean, some .boolean, some .boolean, some .int]
def pm_rt_9 : List (Option FieldType) := [some .int, some .int, some .int, some .int, some .boolean, some .int, some .int, some .int, some .int, none, some .boolean, none, some .int, some .int, some .int, some .int]
def pm_rt_10 : List (Option FieldType) := [none, some .boolean, some .boolean, some .int, none, some .int, none, none, none, some .int, some .boolean, some .boolean, none, some .int, none, some .int]
def pm_rt_11 : List (Option FieldType) := [some .int, some .int, some .int, some .int, some .int, some .int, none, none, some .int, some .int, some .int, none, none, some .boolean, some .boolean, some .boolean]
def pm_rt_12 : List (Option FieldType) := [some .boolean, some .boolean, some .boolean, some .int, some .int, some .boolean, some .boolean, none, none, some .int, none, some .int, none, some .int, some .int, some .int]
def pm_rt_13 : List (Option FieldType) := [some .int, some .int, some .int, some (.array .int), some .boolean]
def pm_rt (j : Nat) : Option FieldType := (match j / 16 with
  | 0 => pm_rt_0
  | 1 => pm_rt_1
  | 2 => pm_rt_2
  | 3 => pm_rt_3
  | 4 => pm_rt_4
  | 5 => pm_rt_5
  | 6 => pm_rt_6
  | 7 => pm_rt_7
  | 8 => pm_rt_8
  | 9 => pm_rt_9
  | 10 => pm_rt_10
  | 11 => pm_rt_11
  | 12 => pm_rt_12
  | 13 => pm_rt_13
  | _ => []).getD (j % 16) none
def pm_np_0 : List (Nat) := [0, 1, 1, 0, 2, 2, 3, 3, 1, 1, 1, 1, 1, 0, 1, 0]
def pm_np_1 : List (Nat) := [0, 1, 1, 0, 2, 2, 0, 0, 1, 1, 0, 0, 4, 0, 1, 2]
def pm_np_2 : List (Nat) := [2, 1, 2, 1, 1, 2, 3, 1, 2, 3, 4, 4, 5, 2, 2, 2]
def pm_np_3 : List (Nat) := [4, 4, 4, 2, 4, 4, 5, 4, 4, 4, 5, 4, 4, 1, 0, 0]
def pm_np_4 : List (Nat) := [1, 0, 0, 0, 2, 5, 2, 2, 2, 3, 1, 2, 1, 1, 0, 1]
def pm_np_5 : List (Nat) := [2, 2, 1, 2, 1, 1, 1, 1, 1, 1, 3, 2, 1, 2, 2, 2]
def pm_np_6 : List (Nat) := [2, 2, 2, 2, 2, 1, 3, 3, 2, 3, 3, 3, 3, 3, 4, 3]
def pm_np_7 : List (Nat) := [3, 1, 1, 2, 0, 0, 0, 1, 2, 0, 1, 2, 1, 3, 1, 3]
def pm_np_8 : List (Nat) := [3, 0, 2, 0, 2, 3, 0, 1, 4, 4, 3, 4, 4, 4, 2, 1]
def pm_np_9 : List (Nat) := [1, 1, 3, 1, 0, 2, 0, 1, 2, 4, 4, 2, 4, 3, 3, 3]
def pm_np_10 : List (Nat) := [6, 6, 6, 7, 3, 0, 1, 2, 1, 5, 1, 1, 0, 1, 0, 0]
def pm_np_11 : List (Nat) := [2, 2, 4, 3, 3, 1, 1, 2, 3, 1, 1, 0, 3, 3, 4, 1]
def pm_np_12 : List (Nat) := [5, 4, 1, 0, 1, 1, 0, 2, 1, 3, 4, 1, 1, 1, 1, 1]
def pm_np_13 : List (Nat) := [0, 0, 2, 2, 1]
def pm_np (j : Nat) : Nat := (match j / 16 with
  | 0 => pm_np_0
  | 1 => pm_np_1
  | 2 => pm_np_2
  | 3 => pm_np_3
  | 4 => pm_np_4
  | 5 => pm_np_5
  | 6 => pm_np_6
  | 7 => pm_np_7
  | 8 => pm_np_8
  | 9 => pm_np_9
  | 10 => pm_np_10
  | 11 => pm_np_11
  | 12 => pm_np_12
  | 13 => pm_np_13
  | _ => []).getD (j % 16) 0
def pm_kd_0 : List (Nat) := [2, 1, 1, 1, 1, 1, 1, 1, 1, 1, 1, 1, 1, 1, 1, 1]
def pm_kd_1 : List (Nat) := [1, 0, 1, 1, 1, 1, 1, 2, 1, 1, 2, 1, 1, 1, 1, 0]
def pm_kd_2 : List (Nat) := [1, 1, 1, 1, 1, 1, 1, 1, 1, 1, 1, 1, 1, 1, 1, 1]
def pm_kd_3 : List (Nat) := [1, 1, 1, 1, 1, 1, 1, 1, 1, 1, 1, 1, 1, 0, 2, 1]
def pm_kd_4 : List (Nat) := [1, 1, 1, 2, 1, 1, 1, 1, 1, 2, 1, 1, 1, 1, 1, 1]
def pm_kd_5 : List (Nat) := [1, 1, 1, 1, 1, 1, 1, 1, 1, 1, 1, 1, 1, 1, 1, 1]
def pm_kd_6 : List (Nat) := [1, 1, 1, 1, 2, 1, 1, 1, 1, 1, 1, 1, 1, 1, 1, 1]
def pm_kd_7 : List (Nat) := [1, 2, 1, 1, 1, 1, 1, 1, 1, 1, 1, 1, 1, 1, 1, 1]
def pm_kd_8 : List (Nat) := [1, 2, 1, 1, 1, 1, 2, 1, 1, 1, 1, 1, 1, 1, 1, 1]
def pm_kd_9 : List (Nat) := [1, 1, 1, 1, 1, 1, 1, 0, 1, 1, 1, 1, 1, 1, 1, 1]
def pm_kd_10 : List (Nat) := [1, 1, 1, 1, 1, 1, 1, 1, 1, 1, 1, 1, 1, 1, 1, 1]
def pm_kd_11 : List (Nat) := [1, 1, 1, 1, 1, 1, 1, 1, 1, 1, 1, 1, 1, 1, 1, 1]
def pm_kd_12 : List (Nat) := [1, 1, 1, 1, 1, 1, 1, 1, 1, 1, 1, 1, 1, 1, 1, 1]
def pm_kd_13 : List (Nat) := [1, 1, 1, 0, 0]
def pm_kd (j : Nat) : Nat := (match j / 16 with
  | 0 => pm_kd_0
  | 1 => pm_kd_1
  | 2 => pm_kd_2
  | 3 => pm_kd_3
  | 4 => pm_kd_4
  | 5 => pm_kd_5
  | 6 => pm_kd_6
  | 7 => pm_kd_7
  | 8 => pm_kd_8
  | 9 => pm_kd_9
  | 10 => pm_kd_10
  | 11 => pm_kd_11
  | 12 => pm_kd_12
  | 13 => pm_kd_13
  | _ => []).getD (j % 16) 0
def pm_ow_0 : List (Nat) := [0, 0, 0, 0, 0, 0, 0, 0, 0, 0, 0, 0, 0, 0, 0, 0]
def pm_ow_1 : List (Nat) := [0, 0, 0, 0, 0, 0, 0, 1, 1, 1, 2, 2, 2, 2, 2, 2]
def pm_ow_2 : List (Nat) := [2, 2, 2, 2, 2, 2, 2, 2, 2, 2, 2, 2, 2, 2, 2, 2]
def pm_ow_3 : List (Nat) := [2, 2, 2, 2, 2, 2, 2, 2, 2, 2, 2, 2, 2, 2, 3, 3]
def pm_ow_4 : List (Nat) := [3, 3, 3, 4, 4, 4, 4, 4, 4, 5, 5, 5, 5, 5, 5, 5]
def pm_ow_5 : List (Nat) := [5, 5, 5, 5, 5, 5, 5, 5, 5, 5, 5, 5, 5, 5, 5, 5]
def pm_ow_6 : List (Nat) := [5, 5, 5, 5, 6, 6, 6, 6, 6, 6, 6, 6, 6, 6, 6, 6]
def pm_ow_7 : List (Nat) := [6, 7, 7, 7, 7, 7, 7, 7, 7, 7, 7, 7, 7, 7, 7, 7]
def pm_ow_8 : List (Nat) := [7, 8, 8, 8, 8, 8, 9, 9, 9, 9, 9, 9, 9, 9, 9, 9]
def pm_ow_9 : List (Nat) := [9, 9, 9, 9, 9, 9, 9, 9, 9, 9, 9, 9, 9, 9, 9, 9]
def pm_ow_10 : List (Nat) := [9, 9, 9, 9, 9, 9, 9, 9, 9, 9, 9, 9, 9, 9, 9, 9]
def pm_ow_11 : List (Nat) := [9, 9, 9, 9, 9, 9, 9, 9, 9, 9, 9, 9, 9, 9, 9, 9]
def pm_ow_12 : List (Nat) := [9, 9, 9, 9, 9, 9, 9, 9, 9, 9, 9, 9, 9, 9, 9, 9]
def pm_ow_13 : List (Nat) := [9, 9, 9, 11, 10]
def pm_ow (j : Nat) : Nat := (match j / 16 with
  | 0 => pm_ow_0
  | 1 => pm_ow_1
  | 2 => pm_ow_2
  | 3 => pm_ow_3
  | 4 => pm_ow_4
  | 5 => pm_ow_5
  | 6 => pm_ow_6
  | 7 => pm_ow_7
  | 8 => pm_ow_8
  | 9 => pm_ow_9
  | 10 => pm_ow_10
  | 11 => pm_ow_11
  | 12 => pm_ow_12
  | 13 => pm_ow_13
  | _ => []).getD (j % 16) 0
def pm_mc_0 : List (Nat) := [0, 0, 0, 0, 0, 0, 0, 0, 0, 0, 0, 0, 0, 0, 0, 0]
def pm_mc_1 : List (Nat) := [0, 0, 0, 0, 0, 0, 0, 1, 1, 1, 2, 2, 2, 2, 2, 2]
def pm_mc_2 : List (Nat) := [2, 2, 2, 2, 2, 2, 2, 2, 2, 2, 2, 2, 2, 2, 2, 2]
def pm_mc_3 : List (Nat) := [2, 2, 2, 2, 2, 2, 2, 2, 2, 2, 2, 2, 2, 2, 3, 3]
def pm_mc_4 : List (Nat) := [3, 3, 3, 4, 4, 4, 4, 4, 4, 5, 5, 5, 5, 5, 5, 5]
def pm_mc_5 : List (Nat) := [5, 5, 5, 5, 5, 5, 5, 5, 5, 5, 5, 5, 5, 5, 5, 5]
def pm_mc_6 : List (Nat) := [5, 5, 5, 5, 6, 6, 6, 6, 6, 6, 6, 6, 6, 6, 6, 6]
def pm_mc_7 : List (Nat) := [6, 7, 7, 7, 7, 7, 7, 7, 7, 7, 7, 7, 7, 7, 7, 7]
def pm_mc_8 : List (Nat) := [7, 8, 8, 8, 8, 8, 9, 9, 9, 9, 9, 9, 9, 9, 9, 9]
def pm_mc_9 : List (Nat) := [9, 9, 9, 9, 9, 9, 9, 9, 9, 9, 9, 9, 9, 9, 9, 9]
def pm_mc_10 : List (Nat) := [9, 9, 9, 9, 9, 9, 9, 9, 9, 9, 9, 9, 9, 9, 9, 9]
def pm_mc_11 : List (Nat) := [9, 9, 9, 9, 9, 9, 9, 9, 9, 9, 9, 9, 9, 9, 9, 9]
def pm_mc_12 : List (Nat) := [9, 9, 9, 9, 9, 9, 9, 9, 9, 9, 9, 9, 9, 9, 9, 9]
def pm_mc_13 : List (Nat) := [9, 9, 9, 0, 0]
def pm_mc (j : Nat) : Nat := (match j / 16 with
  | 0 => pm_mc_0
  | 1 => pm_mc_1
  | 2 => pm_mc_2
  | 3 => pm_mc_3
  | 4 => pm_mc_4
  | 5 => pm_mc_5
  | 6 => pm_mc_6
  | 7 => pm_mc_7
  | 8 => pm_mc_8
  | 9 => pm_mc_9
  | 10 => pm_mc_10
  | 11 => pm_mc_11
  | 12 => pm_mc_12
  | 13 => pm_mc_13
  | _ => []).getD (j % 16) 0
def pm_rk_0 : List (Nat) := [0, 2, 1, 1, 1, 1, 1, 1, 1, 1, 1, 1, 2, 2, 1, 1]
def pm_rk_1 : List (Nat) := [1, 2, 2, 2, 2, 1, 0, 0, 0, 0, 0, 0, 1, 2, 1, 2]
def pm_rk_2 : List (Nat) := [2, 2, 1, 2, 1, 0, 0, 1, 1, 2, 1, 1, 1, 1, 1, 2]
def pm_rk_3 : List (Nat) := [2, 2, 2, 2, 1, 1, 1, 1, 1, 1, 1, 0, 0, 4, 0, 0]
def pm_rk_4 : List (Nat) := [0, 2, 1, 0, 1, 0, 2, 1, 1, 0, 1, 0, 0, 0, 4, 2]
def pm_rk_5 : List (Nat) := [4, 1, 0, 0, 1, 1, 1, 1, 1, 1, 1, 1, 1, 1, 1, 1]
def pm_rk_6 : List (Nat) := [1, 1, 1, 1, 0, 0, 1, 1, 1, 1, 1, 1, 1, 1, 1, 1]
def pm_rk_7 : List (Nat) := [1, 0, 0, 0, 2, 0, 0, 1, 0, 2, 0, 2, 0, 1, 0, 0]
def pm_rk_8 : List (Nat) := [0, 0, 1, 2, 1, 0, 0, 2, 0, 1, 1, 2, 2, 2, 2, 1]
def pm_rk_9 : List (Nat) := [1, 1, 1, 1, 2, 1, 1, 1, 1, 0, 2, 0, 1, 1, 1, 1]
def pm_rk_10 : List (Nat) := [0, 2, 2, 1, 0, 1, 0, 0, 0, 1, 2, 2, 0, 1, 0, 1]
def pm_rk_11 : List (Nat) := [1, 1, 1, 1, 1, 1, 0, 0, 1, 1, 1, 0, 0, 2, 2, 2]
def pm_rk_12 : List (Nat) := [2, 2, 2, 1, 1, 2, 2, 0, 0, 1, 0, 1, 0, 1, 1, 1]
def pm_rk_13 : List (Nat) := [1, 1, 1, 3, 2]
def pm_rk (j : Nat) : Nat := (match j / 16 with
  | 0 => pm_rk_0
  | 1 => pm_rk_1
  | 2 => pm_rk_2
  | 3 => pm_rk_3
  | 4 => pm_rk_4
  | 5 => pm_rk_5
  | 6 => pm_rk_6
  | 7 => pm_rk_7
  | 8 => pm_rk_8
  | 9 => pm_rk_9
  | 10 => pm_rk_10
  | 11 => pm_rk_11
  | 12 => pm_rk_12
  | 13 => pm_rk_13
  | _ => []).getD (j % 16) 0
def pm_ix_0 : List (Nat × Nat × Nat) := [(183, 182, 0), (502, 500, 501), (506, 504, 505), (675, 673, 674), (842, 840, 841), (863, 861, 862), (868, 866, 867), (877, 875, 876), (882, 880, 881), (886, 884, 885), (918, 916, 917), (922, 920, 921), (930, 928, 929), (938, 936, 937), (1021, 1019, 1020), (1026, 1024, 1025)]
def pm_ix_1 : List (Nat × Nat × Nat) := [(1030, 1028, 1029), (509, 508, 0), (846, 845, 73), (934, 933, 85), (850, 849, 74), (873, 872, 77), (683, 682, 36), (192, 191, 0), (926, 925, 84), (667, 666, 33), (213, 212, 0), (513, 512, 0), (556, 555, 10), (560, 559, 11), (552, 551, 9), (578, 577, 0)]
def pm_ix_2 : List (Nat × Nat × Nat) := [(747, 746, 51), (751, 750, 52), (671, 670, 34), (707, 706, 42), (711, 710, 43), (659, 658, 31), (663, 662, 32), (854, 853, 75), (858, 857, 76), (764, 763, 55), (703, 702, 41), (717, 716, 44), (781, 780, 59), (735, 734, 48), (731, 730, 47), (768, 767, 56)]
def pm_ix_3 : List (Nat × Nat × Nat) := [(739, 738, 49), (743, 742, 50), (755, 754, 53), (760, 759, 54), (813, 812, 66), (817, 816, 67), (821, 820, 68), (826, 825, 69), (830, 829, 70), (834, 833, 71), (838, 837, 72), (894, 893, 79), (906, 905, 81), (897, 896, 0), (247, 246, 0), (890, 889, 78)]
def pm_ix_4 : List (Nat × Nat × Nat) := [(901, 900, 80), (914, 913, 83), (910, 909, 82), (268, 267, 0), (598, 597, 16), (606, 605, 18), (794, 793, 62), (798, 797, 63), (973, 972, 93), (306, 305, 0), (517, 516, 1), (679, 678, 35), (521, 520, 2), (655, 654, 30), (540, 539, 6), (536, 535, 5)]
def pm_ix_5 : List (Nat × Nat × Nat) := [(544, 543, 7), (586, 585, 13), (630, 629, 24), (618, 617, 21), (548, 547, 8), (602, 601, 17), (528, 527, 3), (532, 531, 4), (647, 646, 28), (651, 650, 29), (582, 581, 12), (590, 589, 14), (594, 593, 15), (610, 609, 19), (614, 613, 20), (622, 621, 22)]
def pm_ix_6 : List (Nat × Nat × Nat) := [(626, 625, 23), (634, 633, 25), (638, 637, 26), (642, 641, 27), (355, 354, 0), (687, 686, 37), (691, 690, 38), (695, 694, 39), (699, 698, 40), (721, 720, 45), (727, 726, 46), (772, 771, 57), (777, 776, 58), (786, 785, 60), (790, 789, 61), (802, 801, 64)]
def pm_ix_7 : List (Nat × Nat × Nat) := [(809, 808, 65), (372, 371, 0), (942, 941, 86), (946, 945, 87), (989, 988, 96), (951, 950, 88), (969, 968, 92), (955, 954, 89), (978, 977, 94), (982, 981, 95), (993, 992, 97), (1001, 1000, 99), (997, 996, 98), (1005, 1004, 100), (1013, 1012, 102), (1034, 1033, 104)]
def pm_ix_8 : List (Nat × Nat × Nat) := [(1040, 1039, 105), (378, 377, 0), (959, 958, 90), (963, 962, 91), (1009, 1008, 101), (1017, 1016, 103), (1047, 1046, 0), (1252, 1250, 1251), (1268, 1267, 108), (1280, 1279, 111), (1284, 1283, 112), (1276, 1275, 110), (1288, 1287, 113), (1292, 1291, 114), (1272, 1271, 109), (1264, 1263, 107)]
def pm_ix_9 : List (Nat × Nat × Nat) := [(1308, 1307, 118), (1304, 1303, 117), (1300, 1299, 116), (1316, 1315, 120), (1296, 1295, 115), (1352, 1351, 127), (1364, 1363, 130), (1375, 1374, 0), (1372, 1371, 132), (1368, 1367, 131), (1383, 1382, 134), (1312, 1311, 119), (1360, 1359, 129), (1387, 1386, 135), (1356, 1355, 128), (1379, 1378, 133)]
def pm_ix_10 : List (Nat × Nat × Nat) := [(1344, 1343, 125), (1340, 1339, 124), (1348, 1347, 126), (1407, 1406, 138), (1415, 1414, 140), (1423, 1422, 142), (1411, 1410, 139), (1419, 1418, 141), (1427, 1426, 143), (1403, 1402, 137), (1260, 1259, 106), (1332, 1331, 122), (1336, 1335, 123), (1256, 1254, 1255), (1324, 1323, 121), (1320, 1318, 1319)]
def pm_ix_11 : List (Nat × Nat × Nat) := [(1328, 1326, 1327), (1391, 1389, 1390), (1399, 1398, 136), (1395, 1393, 1394), (1431, 1429, 1430), (1435, 1433, 1434), (1447, 1446, 145), (1443, 1442, 144), (1451, 1450, 146), (1439, 1437, 1438), (1455, 1453, 1454), (1467, 1466, 148), (1491, 1490, 154), (1475, 1474, 150), (1483, 1482, 152), (1479, 1478, 151)]
def pm_ix_12 : List (Nat × Nat × Nat) := [(1495, 1494, 155), (1487, 1486, 153), (1471, 1470, 149), (1463, 1462, 147), (1459, 1457, 1458), (1499, 1497, 1498), (1503, 1501, 1502), (1507, 1506, 156), (1523, 1522, 160), (1531, 1530, 162), (1535, 1534, 163), (1527, 1526, 161), (1519, 1518, 159), (1515, 1514, 158), (1511, 1510, 157), (1539, 1537, 1538)]
def pm_ix_13 : List (Nat × Nat × Nat) := [(1543, 1541, 1542), (1547, 1545, 1546), (1551, 1550, 164), (564, 563, 0), (0, 0, 0)]
def pm_ix (j : Nat) : Nat × Nat × Nat := (match j / 16 with
  | 0 => pm_ix_0
  | 1 => pm_ix_1
  | 2 => pm_ix_2
  | 3 => pm_ix_3
  | 4 => pm_ix_4
  | 5 => pm_ix_5
  | 6 => pm_ix_6
  | 7 => pm_ix_7
  | 8 => pm_ix_8
  | 9 => pm_ix_9
  | 10 => pm_ix_10
  | 11 => pm_ix_11
  | 12 => pm_ix_12
  | 13 => pm_ix_13
  | _ => []).getD (j % 16) (0, 0, 0)
end
section
/-! The methods' code stands among the words of the claim. -/
def pm_cwP (j : Nat) : Prop := Jvm.Cond.code (pm_y j) (pm_code j) (pm_max j) (pm_rt j) ∈ lw_tbl
theorem pm_tb1 {w : Jvm.Cond} (h : w ∈ tables_1_1) : w ∈ lw_tbl := List.mem_append_right _ (List.mem_append_left _ h)
theorem pm_tb2 {w : Jvm.Cond} (h : w ∈ tables_1_2) : w ∈ lw_tbl := List.mem_append_right _ (List.mem_append_right _ (List.mem_append_left _ h))
theorem pm_tb3 {w : Jvm.Cond} (h : w ∈ tables_1_3) : w ∈ lw_tbl := List.mem_append_right _ (List.mem_append_right _ (List.mem_append_right _ (List.mem_append_left _ h)))
theorem pm_tb4 {w : Jvm.Cond} (h : w ∈ tables_1_4) : w ∈ lw_tbl := List.mem_append_right _ (List.mem_append_right _ (List.mem_append_right _ (List.mem_append_right _ (List.mem_append_left _ h))))
theorem pm_tb5 {w : Jvm.Cond} (h : w ∈ tables_1_5) : w ∈ lw_tbl := List.mem_append_right _ (List.mem_append_right _ (List.mem_append_right _ (List.mem_append_right _ (List.mem_append_right _ (List.mem_append_left _ h)))))
theorem pm_tb6 {w : Jvm.Cond} (h : w ∈ tables_1_6) : w ∈ lw_tbl := List.mem_append_right _ (List.mem_append_right _ (List.mem_append_right _ (List.mem_append_right _ (List.mem_append_right _ (List.mem_append_right _ (h))))))
set_option maxRecDepth 20000 in
theorem pm_cw0 : pm_cwP 0 := show Jvm.Cond.code ⟨"BoundedSchemes", "<init>", "()V"⟩ prog_1_method_1_code 2 (none) ∈ lw_tbl from pm_tb1 (List.mem_of_getElem? (i := 18) rfl)
set_option maxRecDepth 20000 in
theorem pm_cw1 : pm_cwP 1 := show Jvm.Cond.code ⟨"BoundedSchemes", "type", "(C)Z"⟩ prog_1_method_2_code 2 (some .boolean) ∈ lw_tbl from pm_tb2 (List.mem_of_getElem? (i := 97) rfl)
set_option maxRecDepth 20000 in
theorem pm_cw2 : pm_cwP 2 := show Jvm.Cond.code ⟨"BoundedSchemes", "readType", "(I)I"⟩ prog_1_method_3_code 3 (some .int) ∈ lw_tbl from pm_tb2 (List.mem_of_getElem? (i := 101) rfl)
set_option maxRecDepth 20000 in
theorem pm_cw3 : pm_cwP 3 := show Jvm.Cond.code ⟨"BoundedSchemes", "readTerm", "()I"⟩ prog_1_method_4_code 2 (some .int) ∈ lw_tbl from pm_tb3 (List.mem_of_getElem? (i := 30) rfl)
set_option maxRecDepth 20000 in
theorem pm_cw4 : pm_cwP 4 := show Jvm.Cond.code ⟨"BoundedSchemes", "below", "(II)I"⟩ prog_1_method_5_code 3 (some .int) ∈ lw_tbl from pm_tb3 (List.mem_of_getElem? (i := 197) rfl)
set_option maxRecDepth 20000 in
theorem pm_cw5 : pm_cwP 5 := show Jvm.Cond.code ⟨"BoundedSchemes", "same", "(II)I"⟩ prog_1_method_6_code 5 (some .int) ∈ lw_tbl from pm_tb3 (List.mem_of_getElem? (i := 218) rfl)
set_option maxRecDepth 20000 in
theorem pm_cw6 : pm_cwP 6 := show Jvm.Cond.code ⟨"BoundedSchemes", "join", "(III)I"⟩ prog_1_method_7_code 6 (some .int) ∈ lw_tbl from pm_tb3 (List.mem_of_getElem? (i := 223) rfl)
set_option maxRecDepth 20000 in
theorem pm_cw7 : pm_cwP 7 := show Jvm.Cond.code ⟨"BoundedSchemes", "meet", "(III)I"⟩ prog_1_method_8_code 7 (some .int) ∈ lw_tbl from pm_tb3 (List.mem_of_getElem? (i := 232) rfl)
set_option maxRecDepth 20000 in
theorem pm_cw8 : pm_cwP 8 := show Jvm.Cond.code ⟨"BoundedSchemes", "size", "(I)I"⟩ prog_1_method_9_code 2 (some .int) ∈ lw_tbl from pm_tb3 (List.mem_of_getElem? (i := 237) rfl)
set_option maxRecDepth 20000 in
theorem pm_cw9 : pm_cwP 9 := show Jvm.Cond.code ⟨"BoundedSchemes", "write", "(I)I"⟩ prog_1_method_10_code 2 (some .int) ∈ lw_tbl from pm_tb4 (List.mem_of_getElem? (i := 1) rfl)
set_option maxRecDepth 20000 in
theorem pm_cw10 : pm_cwP 10 := show Jvm.Cond.code ⟨"BoundedSchemes", "charAt", "(I)I"⟩ prog_1_method_11_code 2 (some .int) ∈ lw_tbl from pm_tb4 (List.mem_of_getElem? (i := 33) rfl)
set_option maxRecDepth 20000 in
theorem pm_cw11 : pm_cwP 11 := show Jvm.Cond.code ⟨"BoundedSchemes", "typeOf", "(I)I"⟩ prog_1_method_12_code 2 (some .int) ∈ lw_tbl from pm_tb4 (List.mem_of_getElem? (i := 37) rfl)
set_option maxRecDepth 20000 in
theorem pm_cw12 : pm_cwP 12 := show Jvm.Cond.code ⟨"BoundedSchemes", "fits", "(I)Z"⟩ prog_1_method_13_code 2 (some .boolean) ∈ lw_tbl from pm_tb4 (List.mem_of_getElem? (i := 45) rfl)
set_option maxRecDepth 20000 in
theorem pm_cw13 : pm_cwP 13 := show Jvm.Cond.code ⟨"BoundedSchemes", "start", "()Z"⟩ prog_1_method_14_code 1 (some .boolean) ∈ lw_tbl from pm_tb4 (List.mem_of_getElem? (i := 53) rfl)
set_option maxRecDepth 20000 in
theorem pm_cw14 : pm_cwP 14 := show Jvm.Cond.code ⟨"BoundedSchemes", "step", "(I)I"⟩ prog_1_method_15_code 3 (some .int) ∈ lw_tbl from pm_tb4 (List.mem_of_getElem? (i := 136) rfl)
set_option maxRecDepth 20000 in
theorem pm_cw15 : pm_cwP 15 := show Jvm.Cond.code ⟨"BoundedSchemes", "steps", "()I"⟩ prog_1_method_16_code 1 (some .int) ∈ lw_tbl from pm_tb4 (List.mem_of_getElem? (i := 141) rfl)
set_option maxRecDepth 20000 in
theorem pm_cw16 : pm_cwP 16 := show Jvm.Cond.code ⟨"BoundedSchemes", "value", "()I"⟩ prog_1_method_17_code 1 (some .int) ∈ lw_tbl from pm_tb4 (List.mem_of_getElem? (i := 145) rfl)
set_option maxRecDepth 20000 in
theorem pm_cw17 : pm_cwP 17 := show Jvm.Cond.code ⟨"BoundedSchemes", "isSlot", "(I)Z"⟩ prog_1_method_18_code 1 (some .boolean) ∈ lw_tbl from pm_tb2 (List.mem_of_getElem? (i := 104) rfl)
set_option maxRecDepth 20000 in
theorem pm_cw18 : pm_cwP 18 := show Jvm.Cond.code ⟨"BoundedSchemes", "hasType", "(I)Z"⟩ prog_1_method_19_code 2 (some .boolean) ∈ lw_tbl from pm_tb3 (List.mem_of_getElem? (i := 201) rfl)
set_option maxRecDepth 20000 in
theorem pm_cw19 : pm_cwP 19 := show Jvm.Cond.code ⟨"BoundedSchemes", "termHasType", "()Z"⟩ prog_1_method_20_code 1 (some .boolean) ∈ lw_tbl from pm_tb4 (List.mem_of_getElem? (i := 49) rfl)
set_option maxRecDepth 20000 in
theorem pm_cw20 : pm_cwP 20 := show Jvm.Cond.code ⟨"BoundedSchemes", "keptBelow", "(LBoundedSchemes$KeptType;LBoundedSchemes$KeptType;)Z"⟩ prog_1_method_21_code 5 (some .boolean) ∈ lw_tbl from pm_tb3 (List.mem_of_getElem? (i := 205) rfl)
set_option maxRecDepth 20000 in
theorem pm_cw21 : pm_cwP 21 := show Jvm.Cond.code ⟨"BoundedSchemes", "keepMade", "(II)I"⟩ prog_1_method_22_code 4 (some .int) ∈ lw_tbl from pm_tb3 (List.mem_of_getElem? (i := 228) rfl)
set_option maxRecDepth 20000 in
theorem pm_cw22 : pm_cwP 22 := show Jvm.Cond.code ⟨"BoundedSchemes", "takeSpareAsTerm", "()V"⟩ prog_1_method_23_code 2 (none) ∈ lw_tbl from pm_tb3 (List.mem_of_getElem? (i := 38) rfl)
set_option maxRecDepth 20000 in
theorem pm_cw23 : pm_cwP 23 := show Jvm.Cond.code ⟨"BoundedSchemes$KeptType", "<init>", "()V"⟩ prog_3_method_1_code 1 (none) ∈ lw_tbl from pm_tb1 (List.mem_of_getElem? (i := 27) rfl)
set_option maxRecDepth 20000 in
theorem pm_cw24 : pm_cwP 24 := show Jvm.Cond.code ⟨"BoundedSchemes$KeptType", "copyFrom", "(LBoundedSchemes$KeptType;)V"⟩ prog_3_method_2_code 3 (none) ∈ lw_tbl from pm_tb4 (List.mem_of_getElem? (i := 41) rfl)
set_option maxRecDepth 20000 in
theorem pm_cw25 : pm_cwP 25 := show Jvm.Cond.code ⟨"BoundedSchemes$KeptType", "append", "(I)V"⟩ prog_3_method_3_code 2 (none) ∈ lw_tbl from pm_tb3 (List.mem_of_getElem? (i := 22) rfl)
set_option maxRecDepth 20000 in
theorem pm_cw26 : pm_cwP 26 := show Jvm.Cond.code ⟨"BoundedSchemes$TypeRoom", "<init>", "()V"⟩ prog_8_method_1_code 1 (none) ∈ lw_tbl from pm_tb1 (List.mem_of_getElem? (i := 48) rfl)
set_option maxRecDepth 20000 in
theorem pm_cw27 : pm_cwP 27 := show Jvm.Cond.code ⟨"BoundedSchemes$TypeRoom", "clear", "()V"⟩ prog_8_method_2_code 1 (none) ∈ lw_tbl from pm_tb2 (List.mem_of_getElem? (i := 108) rfl)
set_option maxRecDepth 20000 in
theorem pm_cw28 : pm_cwP 28 := show Jvm.Cond.code ⟨"BoundedSchemes$TypeRoom", "make", "(IIII)I"⟩ prog_8_method_3_code 6 (some .int) ∈ lw_tbl from pm_tb2 (List.mem_of_getElem? (i := 151) rfl)
set_option maxRecDepth 20000 in
theorem pm_cw29 : pm_cwP 29 := show Jvm.Cond.code ⟨"BoundedSchemes$TypeRoom", "grow", "()Z"⟩ prog_8_method_4_code 2 (some .boolean) ∈ lw_tbl from pm_tb2 (List.mem_of_getElem? (i := 155) rfl)
set_option maxRecDepth 20000 in
theorem pm_cw30 : pm_cwP 30 := show Jvm.Cond.code ⟨"BoundedSchemes$TypeRoom", "variable", "(I)I"⟩ prog_8_method_5_code 2 (some .int) ∈ lw_tbl from pm_tb2 (List.mem_of_getElem? (i := 147) rfl)
set_option maxRecDepth 20000 in
theorem pm_cw31 : pm_cwP 31 := show Jvm.Cond.code ⟨"BoundedSchemes$TypeRoom", "holds", "(II)Z"⟩ prog_8_method_6_code 2 (some .boolean) ∈ lw_tbl from pm_tb2 (List.mem_of_getElem? (i := 173) rfl)
set_option maxRecDepth 20000 in
theorem pm_cw32 : pm_cwP 32 := show Jvm.Cond.code ⟨"BoundedSchemes$TypeRoom", "areRecords", "(II)Z"⟩ prog_8_method_7_code 3 (some .boolean) ∈ lw_tbl from pm_tb3 (List.mem_of_getElem? (i := 102) rfl)
set_option maxRecDepth 20000 in
theorem pm_cw33 : pm_cwP 33 := show Jvm.Cond.code ⟨"BoundedSchemes$TypeRoom", "isRecord", "(I)Z"⟩ prog_8_method_8_code 2 (some .boolean) ∈ lw_tbl from pm_tb3 (List.mem_of_getElem? (i := 106) rfl)
set_option maxRecDepth 20000 in
theorem pm_cw34 : pm_cwP 34 := show Jvm.Cond.code ⟨"BoundedSchemes$TypeRoom", "part", "(II)I"⟩ prog_8_method_9_code 3 (some .int) ∈ lw_tbl from pm_tb3 (List.mem_of_getElem? (i := 26) rfl)
set_option maxRecDepth 20000 in
theorem pm_cw35 : pm_cwP 35 := show Jvm.Cond.code ⟨"BoundedSchemes$TypeRoom", "isVariable", "(I)Z"⟩ prog_8_method_10_code 2 (some .boolean) ∈ lw_tbl from pm_tb3 (List.mem_of_getElem? (i := 62) rfl)
set_option maxRecDepth 20000 in
theorem pm_cw36 : pm_cwP 36 := show Jvm.Cond.code ⟨"BoundedSchemes$TypeRoom", "levelOf", "(I)I"⟩ prog_8_method_11_code 2 (some .int) ∈ lw_tbl from pm_tb3 (List.mem_of_getElem? (i := 66) rfl)
set_option maxRecDepth 20000 in
theorem pm_cw37 : pm_cwP 37 := show Jvm.Cond.code ⟨"BoundedSchemes$TypeRoom", "keep", "(ILBoundedSchemes$KeptType;)V"⟩ prog_8_method_12_code 3 (none) ∈ lw_tbl from pm_tb3 (List.mem_of_getElem? (i := 14) rfl)
set_option maxRecDepth 20000 in
theorem pm_cw38 : pm_cwP 38 := show Jvm.Cond.code ⟨"BoundedSchemes$TypeRoom", "pack", "(ILBoundedSchemes$KeptType;I)V"⟩ prog_8_method_13_code 5 (none) ∈ lw_tbl from pm_tb3 (List.mem_of_getElem? (i := 18) rfl)
set_option maxRecDepth 20000 in
theorem pm_cw39 : pm_cwP 39 := show Jvm.Cond.code ⟨"BoundedSchemes$TypeRoom", "unpack", "(LBoundedSchemes$KeptType;)I"⟩ prog_8_method_14_code 2 (some .int) ∈ lw_tbl from pm_tb3 (List.mem_of_getElem? (i := 209) rfl)
set_option maxRecDepth 20000 in
theorem pm_cw40 : pm_cwP 40 := show Jvm.Cond.code ⟨"BoundedSchemes$TypeRoom", "unpackNext", "(LBoundedSchemes$KeptType;I)I"⟩ prog_8_method_15_code 7 (some .int) ∈ lw_tbl from pm_tb3 (List.mem_of_getElem? (i := 213) rfl)
set_option maxRecDepth 20000 in
theorem pm_cw41 : pm_cwP 41 := show Jvm.Cond.code ⟨"BoundedSchemes$TypeRoom", "isSame", "(III)Z"⟩ prog_8_method_16_code 5 (some .boolean) ∈ lw_tbl from pm_tb3 (List.mem_of_getElem? (i := 119) rfl)
set_option maxRecDepth 20000 in
theorem pm_cw42 : pm_cwP 42 := show Jvm.Cond.code ⟨"BoundedSchemes$TypeRoom", "lift", "(IIII)I"⟩ prog_8_method_17_code 8 (some .int) ∈ lw_tbl from pm_tb3 (List.mem_of_getElem? (i := 58) rfl)
set_option maxRecDepth 20000 in
theorem pm_cw43 : pm_cwP 43 := show Jvm.Cond.code ⟨"BoundedSchemes$TypeRoom", "remake", "(IIII)I"⟩ prog_8_method_18_code 5 (some .int) ∈ lw_tbl from pm_tb3 (List.mem_of_getElem? (i := 72) rfl)
set_option maxRecDepth 20000 in
theorem pm_cw44 : pm_cwP 44 := show Jvm.Cond.code ⟨"BoundedSchemes$TypeRoom", "replace", "(IIIII)I"⟩ prog_8_method_19_code 10 (some .int) ∈ lw_tbl from pm_tb3 (List.mem_of_getElem? (i := 136) rfl)
set_option maxRecDepth 20000 in
theorem pm_cw45 : pm_cwP 45 := show Jvm.Cond.code ⟨"BoundedSchemes$TypeRoom", "boundOf", "(II)I"⟩ prog_8_method_20_code 4 (some .int) ∈ lw_tbl from pm_tb3 (List.mem_of_getElem? (i := 90) rfl)
set_option maxRecDepth 20000 in
theorem pm_cw46 : pm_cwP 46 := show Jvm.Cond.code ⟨"BoundedSchemes$TypeRoom", "exposed", "(II)I"⟩ prog_8_method_21_code 5 (some .int) ∈ lw_tbl from pm_tb3 (List.mem_of_getElem? (i := 86) rfl)
set_option maxRecDepth 20000 in
theorem pm_cw47 : pm_cwP 47 := show Jvm.Cond.code ⟨"BoundedSchemes$TypeRoom", "openOne", "(II)Z"⟩ prog_8_method_22_code 3 (some .boolean) ∈ lw_tbl from pm_tb3 (List.mem_of_getElem? (i := 123) rfl)
set_option maxRecDepth 20000 in
theorem pm_cw48 : pm_cwP 48 := show Jvm.Cond.code ⟨"BoundedSchemes$TypeRoom", "isBelow", "(IIII)Z"⟩ prog_8_method_23_code 7 (some .boolean) ∈ lw_tbl from pm_tb3 (List.mem_of_getElem? (i := 94) rfl)
set_option maxRecDepth 20000 in
theorem pm_cw49 : pm_cwP 49 := show Jvm.Cond.code ⟨"BoundedSchemes$TypeRoom", "isBelowForm", "(IIII)Z"⟩ prog_8_method_24_code 7 (some .boolean) ∈ lw_tbl from pm_tb3 (List.mem_of_getElem? (i := 98) rfl)
set_option maxRecDepth 20000 in
theorem pm_cw50 : pm_cwP 50 := show Jvm.Cond.code ⟨"BoundedSchemes$TypeRoom", "isRecordBelow", "(IIII)Z"⟩ prog_8_method_25_code 6 (some .boolean) ∈ lw_tbl from pm_tb3 (List.mem_of_getElem? (i := 110) rfl)
set_option maxRecDepth 20000 in
theorem pm_cw51 : pm_cwP 51 := show Jvm.Cond.code ⟨"BoundedSchemes$TypeRoom", "haveSameBound", "(II)Z"⟩ prog_8_method_26_code 3 (some .boolean) ∈ lw_tbl from pm_tb3 (List.mem_of_getElem? (i := 115) rfl)
set_option maxRecDepth 20000 in
theorem pm_cw52 : pm_cwP 52 := show Jvm.Cond.code ⟨"BoundedSchemes$TypeRoom", "joinOf", "(IIII)I"⟩ prog_8_method_27_code 8 (some .int) ∈ lw_tbl from pm_tb3 (List.mem_of_getElem? (i := 168) rfl)
set_option maxRecDepth 20000 in
theorem pm_cw53 : pm_cwP 53 := show Jvm.Cond.code ⟨"BoundedSchemes$TypeRoom", "joinOfForms", "(IIII)I"⟩ prog_8_method_28_code 7 (some .int) ∈ lw_tbl from pm_tb3 (List.mem_of_getElem? (i := 172) rfl)
set_option maxRecDepth 20000 in
theorem pm_cw54 : pm_cwP 54 := show Jvm.Cond.code ⟨"BoundedSchemes$TypeRoom", "joinOfParts", "(IIIII)I"⟩ prog_8_method_29_code 6 (some .int) ∈ lw_tbl from pm_tb3 (List.mem_of_getElem? (i := 176) rfl)
set_option maxRecDepth 20000 in
theorem pm_cw55 : pm_cwP 55 := show Jvm.Cond.code ⟨"BoundedSchemes$TypeRoom", "meetOf", "(IIII)I"⟩ prog_8_method_30_code 5 (some .int) ∈ lw_tbl from pm_tb3 (List.mem_of_getElem? (i := 181) rfl)
set_option maxRecDepth 20000 in
theorem pm_cw56 : pm_cwP 56 := show Jvm.Cond.code ⟨"BoundedSchemes$TypeRoom", "meetOfForms", "(IIII)I"⟩ prog_8_method_31_code 7 (some .int) ∈ lw_tbl from pm_tb3 (List.mem_of_getElem? (i := 185) rfl)
set_option maxRecDepth 20000 in
theorem pm_cw57 : pm_cwP 57 := show Jvm.Cond.code ⟨"BoundedSchemes$TypeRoom", "meetOfRecords", "(IIII)I"⟩ prog_8_method_32_code 8 (some .int) ∈ lw_tbl from pm_tb3 (List.mem_of_getElem? (i := 189) rfl)
set_option maxRecDepth 20000 in
theorem pm_cw58 : pm_cwP 58 := show Jvm.Cond.code ⟨"BoundedSchemes$TypeRoom", "meetOfParts", "(IIIII)I"⟩ prog_8_method_33_code 6 (some .int) ∈ lw_tbl from pm_tb3 (List.mem_of_getElem? (i := 193) rfl)
set_option maxRecDepth 20000 in
theorem pm_cw59 : pm_cwP 59 := show Jvm.Cond.code ⟨"BoundedSchemes$TypeRoom", "writeOn", "(LBoundedSchemes$Page;III)V"⟩ prog_8_method_34_code 5 (none) ∈ lw_tbl from pm_tb4 (List.mem_of_getElem? (i := 9) rfl)
set_option maxRecDepth 20000 in
theorem pm_cw60 : pm_cwP 60 := show Jvm.Cond.code ⟨"BoundedSchemes$TypeRoom", "writeRecordOn", "(LBoundedSchemes$Page;III)V"⟩ prog_8_method_35_code 7 (none) ∈ lw_tbl from pm_tb4 (List.mem_of_getElem? (i := 21) rfl)
set_option maxRecDepth 20000 in
theorem pm_cw61 : pm_cwP 61 := show Jvm.Cond.code ⟨"BoundedSchemes$TypeRoom", "nameOf", "(I)C"⟩ prog_8_method_36_code 1 (some .char) ∈ lw_tbl from pm_tb4 (List.mem_of_getElem? (i := 12) rfl)
set_option maxRecDepth 20000 in
theorem pm_cw62 : pm_cwP 62 := show Jvm.Cond.code ⟨"BoundedSchemes$Page", "<init>", "()V"⟩ prog_5_method_1_code 1 (none) ∈ lw_tbl from pm_tb1 (List.mem_of_getElem? (i := 82) rfl)
set_option maxRecDepth 20000 in
theorem pm_cw63 : pm_cwP 63 := show Jvm.Cond.code ⟨"BoundedSchemes$Page", "begin", "()V"⟩ prog_5_method_2_code 1 (none) ∈ lw_tbl from pm_tb4 (List.mem_of_getElem? (i := 5) rfl)
set_option maxRecDepth 20000 in
theorem pm_cw64 : pm_cwP 64 := show Jvm.Cond.code ⟨"BoundedSchemes$Page", "put", "(C)V"⟩ prog_5_method_3_code 2 (none) ∈ lw_tbl from pm_tb4 (List.mem_of_getElem? (i := 16) rfl)
set_option maxRecDepth 20000 in
theorem pm_cw65 : pm_cwP 65 := show Jvm.Cond.code ⟨"BoundedSchemes$Page", "isOver", "()Z"⟩ prog_5_method_4_code 1 (some .boolean) ∈ lw_tbl from pm_tb4 (List.mem_of_getElem? (i := 29) rfl)
set_option maxRecDepth 20000 in
theorem pm_cw66 : pm_cwP 66 := show Jvm.Cond.code ⟨"BoundedSchemes$Page", "show", "()I"⟩ prog_5_method_5_code 2 (some .int) ∈ lw_tbl from pm_tb4 (List.mem_of_getElem? (i := 25) rfl)
set_option maxRecDepth 20000 in
theorem pm_cw67 : pm_cwP 67 := show Jvm.Cond.code ⟨"BoundedSchemes$Term", "<init>", "()V"⟩ prog_7_method_1_code 1 (none) ∈ lw_tbl from pm_tb1 (List.mem_of_getElem? (i := 103) rfl)
set_option maxRecDepth 20000 in
theorem pm_cw68 : pm_cwP 68 := show Jvm.Cond.code ⟨"BoundedSchemes$Term", "add", "(II)I"⟩ prog_7_method_2_code 4 (some .int) ∈ lw_tbl from pm_tb2 (List.mem_of_getElem? (i := 193) rfl)
set_option maxRecDepth 20000 in
theorem pm_cw69 : pm_cwP 69 := show Jvm.Cond.code ⟨"BoundedSchemes$Term", "fill", "(IIIII)V"⟩ prog_7_method_3_code 6 (none) ∈ lw_tbl from pm_tb2 (List.mem_of_getElem? (i := 201) rfl)
set_option maxRecDepth 20000 in
theorem pm_cw70 : pm_cwP 70 := show Jvm.Cond.code ⟨"BoundedSchemes$Term", "holds", "(II)Z"⟩ prog_7_method_4_code 3 (some .boolean) ∈ lw_tbl from pm_tb3 (List.mem_of_getElem? (i := 149) rfl)
set_option maxRecDepth 20000 in
theorem pm_cw71 : pm_cwP 71 := show Jvm.Cond.code ⟨"BoundedSchemes$Term", "part", "(II)I"⟩ prog_7_method_5_code 3 (some .int) ∈ lw_tbl from pm_tb3 (List.mem_of_getElem? (i := 153) rfl)
set_option maxRecDepth 20000 in
theorem pm_cw72 : pm_cwP 72 := show Jvm.Cond.code ⟨"BoundedSchemes$Term", "labelFrom", "(II)I"⟩ prog_7_method_6_code 4 (some .int) ∈ lw_tbl from pm_tb4 (List.mem_of_getElem? (i := 88) rfl)
set_option maxRecDepth 20000 in
theorem pm_cw73 : pm_cwP 73 := show Jvm.Cond.code ⟨"BoundedSchemes$Reader", "<init>", "(LBoundedSchemes$TypeRoom;[CLBoundedSchemes$Term;)V"⟩ prog_6_method_1_code 4 (none) ∈ lw_tbl from pm_tb1 (List.mem_of_getElem? (i := 141) rfl)
set_option maxRecDepth 20000 in
theorem pm_cw74 : pm_cwP 74 := show Jvm.Cond.code ⟨"BoundedSchemes$Reader", "readWholeType", "(I)I"⟩ prog_6_method_2_code 3 (some .int) ∈ lw_tbl from pm_tb2 (List.mem_of_getElem? (i := 112) rfl)
set_option maxRecDepth 20000 in
theorem pm_cw75 : pm_cwP 75 := show Jvm.Cond.code ⟨"BoundedSchemes$Reader", "readWholeTerm", "(ILBoundedSchemes$Term;)V"⟩ prog_6_method_3_code 3 (none) ∈ lw_tbl from pm_tb3 (List.mem_of_getElem? (i := 34) rfl)
set_option maxRecDepth 20000 in
theorem pm_cw76 : pm_cwP 76 := show Jvm.Cond.code ⟨"BoundedSchemes$Reader", "begin", "(I)V"⟩ prog_6_method_4_code 2 (none) ∈ lw_tbl from pm_tb2 (List.mem_of_getElem? (i := 116) rfl)
set_option maxRecDepth 20000 in
theorem pm_cw77 : pm_cwP 77 := show Jvm.Cond.code ⟨"BoundedSchemes$Reader", "end", "(I)V"⟩ prog_6_method_5_code 2 (none) ∈ lw_tbl from pm_tb3 (List.mem_of_getElem? (i := 10) rfl)
set_option maxRecDepth 20000 in
theorem pm_cw78 : pm_cwP 78 := show Jvm.Cond.code ⟨"BoundedSchemes$Reader", "next", "()C"⟩ prog_6_method_6_code 1 (some .char) ∈ lw_tbl from pm_tb2 (List.mem_of_getElem? (i := 135) rfl)
set_option maxRecDepth 20000 in
theorem pm_cw79 : pm_cwP 79 := show Jvm.Cond.code ⟨"BoundedSchemes$Reader", "take", "(C)Z"⟩ prog_6_method_7_code 2 (some .boolean) ∈ lw_tbl from pm_tb2 (List.mem_of_getElem? (i := 131) rfl)
set_option maxRecDepth 20000 in
theorem pm_cw80 : pm_cwP 80 := show Jvm.Cond.code ⟨"BoundedSchemes$Reader", "takeBetween", "(CC)C"⟩ prog_6_method_8_code 4 (some .char) ∈ lw_tbl from pm_tb2 (List.mem_of_getElem? (i := 139) rfl)
set_option maxRecDepth 20000 in
theorem pm_cw81 : pm_cwP 81 := show Jvm.Cond.code ⟨"BoundedSchemes$Reader", "takeLabel", "(II)I"⟩ prog_6_method_9_code 4 (some .int) ∈ lw_tbl from pm_tb2 (List.mem_of_getElem? (i := 181) rfl)
set_option maxRecDepth 20000 in
theorem pm_cw82 : pm_cwP 82 := show Jvm.Cond.code ⟨"BoundedSchemes$Reader", "openType", "(C)V"⟩ prog_6_method_10_code 2 (none) ∈ lw_tbl from pm_tb2 (List.mem_of_getElem? (i := 225) rfl)
set_option maxRecDepth 20000 in
theorem pm_cw83 : pm_cwP 83 := show Jvm.Cond.code ⟨"BoundedSchemes$Reader", "openName", "(CI)V"⟩ prog_6_method_11_code 3 (none) ∈ lw_tbl from pm_tb2 (List.mem_of_getElem? (i := 213) rfl)
set_option maxRecDepth 20000 in
theorem pm_cw84 : pm_cwP 84 := show Jvm.Cond.code ⟨"BoundedSchemes$Reader", "levelOf", "(C)I"⟩ prog_6_method_12_code 3 (some .int) ∈ lw_tbl from pm_tb2 (List.mem_of_getElem? (i := 143) rfl)
set_option maxRecDepth 20000 in
theorem pm_cw85 : pm_cwP 85 := show Jvm.Cond.code ⟨"BoundedSchemes$Reader", "binderOf", "(C)I"⟩ prog_6_method_13_code 3 (some .int) ∈ lw_tbl from pm_tb2 (List.mem_of_getElem? (i := 197) rfl)
set_option maxRecDepth 20000 in
theorem pm_cw86 : pm_cwP 86 := show Jvm.Cond.code ⟨"BoundedSchemes$Reader", "outerType", "(I)I"⟩ prog_6_method_14_code 3 (some .int) ∈ lw_tbl from pm_tb2 (List.mem_of_getElem? (i := 123) rfl)
set_option maxRecDepth 20000 in
theorem pm_cw87 : pm_cwP 87 := show Jvm.Cond.code ⟨"BoundedSchemes$Reader", "anyType", "(I)I"⟩ prog_6_method_15_code 3 (some .int) ∈ lw_tbl from pm_tb2 (List.mem_of_getElem? (i := 127) rfl)
set_option maxRecDepth 20000 in
theorem pm_cw88 : pm_cwP 88 := show Jvm.Cond.code ⟨"BoundedSchemes$Reader", "functionType", "(I)I"⟩ prog_6_method_16_code 4 (some .int) ∈ lw_tbl from pm_tb3 (List.mem_of_getElem? (i := 2) rfl)
set_option maxRecDepth 20000 in
theorem pm_cw89 : pm_cwP 89 := show Jvm.Cond.code ⟨"BoundedSchemes$Reader", "schemeType", "(I)I"⟩ prog_6_method_17_code 5 (some .int) ∈ lw_tbl from pm_tb3 (List.mem_of_getElem? (i := 6) rfl)
set_option maxRecDepth 20000 in
theorem pm_cw90 : pm_cwP 90 := show Jvm.Cond.code ⟨"BoundedSchemes$Reader", "recordParts", "(ZII)I"⟩ prog_6_method_18_code 14 (some .int) ∈ lw_tbl from pm_tb2 (List.mem_of_getElem? (i := 177) rfl)
set_option maxRecDepth 20000 in
theorem pm_cw91 : pm_cwP 91 := show Jvm.Cond.code ⟨"BoundedSchemes$Reader", "recordPart", "(ZI)I"⟩ prog_6_method_19_code 3 (some .int) ∈ lw_tbl from pm_tb2 (List.mem_of_getElem? (i := 185) rfl)
set_option maxRecDepth 20000 in
theorem pm_cw92 : pm_cwP 92 := show Jvm.Cond.code ⟨"BoundedSchemes$Reader", "anyTerm", "(I)I"⟩ prog_6_method_20_code 5 (some .int) ∈ lw_tbl from pm_tb2 (List.mem_of_getElem? (i := 189) rfl)
set_option maxRecDepth 20000 in
theorem pm_cw93 : pm_cwP 93 := show Jvm.Cond.code ⟨"BoundedSchemes$Reader", "holdingTerm", "(II)I"⟩ prog_6_method_21_code 3 (some .int) ∈ lw_tbl from pm_tb2 (List.mem_of_getElem? (i := 205) rfl)
set_option maxRecDepth 20000 in
theorem pm_cw94 : pm_cwP 94 := show Jvm.Cond.code ⟨"BoundedSchemes$Reader", "function", "(II)I"⟩ prog_6_method_22_code 6 (some .int) ∈ lw_tbl from pm_tb2 (List.mem_of_getElem? (i := 209) rfl)
set_option maxRecDepth 20000 in
theorem pm_cw95 : pm_cwP 95 := show Jvm.Cond.code ⟨"BoundedSchemes$Reader", "application", "(II)I"⟩ prog_6_method_23_code 5 (some .int) ∈ lw_tbl from pm_tb2 (List.mem_of_getElem? (i := 217) rfl)
set_option maxRecDepth 20000 in
theorem pm_cw96 : pm_cwP 96 := show Jvm.Cond.code ⟨"BoundedSchemes$Reader", "general", "(II)I"⟩ prog_6_method_24_code 6 (some .int) ∈ lw_tbl from pm_tb2 (List.mem_of_getElem? (i := 221) rfl)
set_option maxRecDepth 20000 in
theorem pm_cw97 : pm_cwP 97 := show Jvm.Cond.code ⟨"BoundedSchemes$Reader", "special", "(II)I"⟩ prog_6_method_25_code 5 (some .int) ∈ lw_tbl from pm_tb2 (List.mem_of_getElem? (i := 229) rfl)
set_option maxRecDepth 20000 in
theorem pm_cw98 : pm_cwP 98 := show Jvm.Cond.code ⟨"BoundedSchemes$Reader", "selection", "(II)I"⟩ prog_6_method_26_code 5 (some .int) ∈ lw_tbl from pm_tb2 (List.mem_of_getElem? (i := 233) rfl)
set_option maxRecDepth 20000 in
theorem pm_cw99 : pm_cwP 99 := show Jvm.Cond.code ⟨"BoundedSchemes$Reader", "choice", "(II)I"⟩ prog_6_method_27_code 6 (some .int) ∈ lw_tbl from pm_tb2 (List.mem_of_getElem? (i := 237) rfl)
set_option maxRecDepth 20000 in
theorem pm_cw100 : pm_cwP 100 := show Jvm.Cond.code ⟨"BoundedSchemes$Checker", "<init>", "(LBoundedSchemes$TypeRoom;LBoundedSchemes$Term;)V"⟩ prog_2_method_1_code 3 (none) ∈ lw_tbl from pm_tb1 (List.mem_of_getElem? (i := 190) rfl)
set_option maxRecDepth 20000 in
theorem pm_cw101 : pm_cwP 101 := show Jvm.Cond.code ⟨"BoundedSchemes$Checker", "begin", "(LBoundedSchemes$Term;)V"⟩ prog_2_method_2_code 2 (none) ∈ lw_tbl from pm_tb3 (List.mem_of_getElem? (i := 42) rfl)
set_option maxRecDepth 20000 in
theorem pm_cw102 : pm_cwP 102 := show Jvm.Cond.code ⟨"BoundedSchemes$Checker", "find", "(III)I"⟩ prog_2_method_3_code 5 (some .int) ∈ lw_tbl from pm_tb3 (List.mem_of_getElem? (i := 46) rfl)
set_option maxRecDepth 20000 in
theorem pm_cw103 : pm_cwP 103 := show Jvm.Cond.code ⟨"BoundedSchemes$Checker", "findByRule", "(III)I"⟩ prog_2_method_4_code 4 (some .int) ∈ lw_tbl from pm_tb3 (List.mem_of_getElem? (i := 50) rfl)
set_option maxRecDepth 20000 in
theorem pm_cw104 : pm_cwP 104 := show Jvm.Cond.code ⟨"BoundedSchemes$Checker", "ofVariable", "(II)I"⟩ prog_2_method_5_code 5 (some .int) ∈ lw_tbl from pm_tb3 (List.mem_of_getElem? (i := 54) rfl)
set_option maxRecDepth 20000 in
theorem pm_cw105 : pm_cwP 105 := show Jvm.Cond.code ⟨"BoundedSchemes$Checker", "ofFunction", "(III)I"⟩ prog_2_method_6_code 5 (some .int) ∈ lw_tbl from pm_tb3 (List.mem_of_getElem? (i := 76) rfl)
set_option maxRecDepth 20000 in
theorem pm_cw106 : pm_cwP 106 := show Jvm.Cond.code ⟨"BoundedSchemes$Checker", "ofApplication", "(III)I"⟩ prog_2_method_7_code 7 (some .int) ∈ lw_tbl from pm_tb3 (List.mem_of_getElem? (i := 82) rfl)
set_option maxRecDepth 20000 in
theorem pm_cw107 : pm_cwP 107 := show Jvm.Cond.code ⟨"BoundedSchemes$Checker", "ofGeneral", "(III)I"⟩ prog_2_method_8_code 6 (some .int) ∈ lw_tbl from pm_tb3 (List.mem_of_getElem? (i := 127) rfl)
set_option maxRecDepth 20000 in
theorem pm_cw108 : pm_cwP 108 := show Jvm.Cond.code ⟨"BoundedSchemes$Checker", "ofSpecial", "(III)I"⟩ prog_2_method_9_code 7 (some .int) ∈ lw_tbl from pm_tb3 (List.mem_of_getElem? (i := 132) rfl)
set_option maxRecDepth 20000 in
theorem pm_cw109 : pm_cwP 109 := show Jvm.Cond.code ⟨"BoundedSchemes$Checker", "ofRecord", "(III)I"⟩ prog_2_method_10_code 7 (some .int) ∈ lw_tbl from pm_tb3 (List.mem_of_getElem? (i := 141) rfl)
set_option maxRecDepth 20000 in
theorem pm_cw110 : pm_cwP 110 := show Jvm.Cond.code ⟨"BoundedSchemes$Checker", "ofPart", "(IIII)I"⟩ prog_2_method_11_code 5 (some .int) ∈ lw_tbl from pm_tb3 (List.mem_of_getElem? (i := 145) rfl)
set_option maxRecDepth 20000 in
theorem pm_cw111 : pm_cwP 111 := show Jvm.Cond.code ⟨"BoundedSchemes$Checker", "ofSelection", "(III)I"⟩ prog_2_method_12_code 8 (some .int) ∈ lw_tbl from pm_tb3 (List.mem_of_getElem? (i := 157) rfl)
set_option maxRecDepth 20000 in
theorem pm_cw112 : pm_cwP 112 := show Jvm.Cond.code ⟨"BoundedSchemes$Checker", "ofChoice", "(III)I"⟩ prog_2_method_13_code 6 (some .int) ∈ lw_tbl from pm_tb3 (List.mem_of_getElem? (i := 164) rfl)
set_option maxRecDepth 20000 in
theorem pm_cw113 : pm_cwP 113 := show Jvm.Cond.code ⟨"BoundedSchemes$Machine", "<init>", "(LBoundedSchemes$Term;)V"⟩ prog_4_method_1_code 2 (none) ∈ lw_tbl from pm_tb1 (List.mem_of_getElem? (i := 207) rfl)
set_option maxRecDepth 20000 in
theorem pm_cw114 : pm_cwP 114 := show Jvm.Cond.code ⟨"BoundedSchemes$Machine", "run", "(LBoundedSchemes$Term;)V"⟩ prog_4_method_2_code 3 (none) ∈ lw_tbl from pm_tb4 (List.mem_of_getElem? (i := 57) rfl)
set_option maxRecDepth 20000 in
theorem pm_cw115 : pm_cwP 115 := show Jvm.Cond.code ⟨"BoundedSchemes$Machine", "goTo", "(II)V"⟩ prog_4_method_3_code 3 (none) ∈ lw_tbl from pm_tb4 (List.mem_of_getElem? (i := 61) rfl)
set_option maxRecDepth 20000 in
theorem pm_cw116 : pm_cwP 116 := show Jvm.Cond.code ⟨"BoundedSchemes$Machine", "countStep", "()Z"⟩ prog_4_method_4_code 1 (some .boolean) ∈ lw_tbl from pm_tb4 (List.mem_of_getElem? (i := 104) rfl)
set_option maxRecDepth 20000 in
theorem pm_cw117 : pm_cwP 117 := show Jvm.Cond.code ⟨"BoundedSchemes$Machine", "enter", "()V"⟩ prog_4_method_5_code 1 (none) ∈ lw_tbl from pm_tb4 (List.mem_of_getElem? (i := 66) rfl)
set_option maxRecDepth 20000 in
theorem pm_cw118 : pm_cwP 118 := show Jvm.Cond.code ⟨"BoundedSchemes$Machine", "enterRecord", "()V"⟩ prog_4_method_6_code 3 (none) ∈ lw_tbl from pm_tb4 (List.mem_of_getElem? (i := 84) rfl)
set_option maxRecDepth 20000 in
theorem pm_cw119 : pm_cwP 119 := show Jvm.Cond.code ⟨"BoundedSchemes$Machine", "valueOf", "(I)I"⟩ prog_4_method_7_code 4 (some .int) ∈ lw_tbl from pm_tb4 (List.mem_of_getElem? (i := 70) rfl)
set_option maxRecDepth 20000 in
theorem pm_cw120 : pm_cwP 120 := show Jvm.Cond.code ⟨"BoundedSchemes$Machine", "push", "(II)V"⟩ prog_4_method_8_code 3 (none) ∈ lw_tbl from pm_tb4 (List.mem_of_getElem? (i := 93) rfl)
set_option maxRecDepth 20000 in
theorem pm_cw121 : pm_cwP 121 := show Jvm.Cond.code ⟨"BoundedSchemes$Machine", "grow", "()Z"⟩ prog_4_method_9_code 2 (some .boolean) ∈ lw_tbl from pm_tb4 (List.mem_of_getElem? (i := 97) rfl)
set_option maxRecDepth 20000 in
theorem pm_cw122 : pm_cwP 122 := show Jvm.Cond.code ⟨"BoundedSchemes$Machine", "goOn", "(I)V"⟩ prog_4_method_10_code 3 (none) ∈ lw_tbl from pm_tb4 (List.mem_of_getElem? (i := 108) rfl)
set_option maxRecDepth 20000 in
theorem pm_cw123 : pm_cwP 123 := show Jvm.Cond.code ⟨"BoundedSchemes$Machine", "isOfKind", "(II)Z"⟩ prog_4_method_11_code 3 (some .boolean) ∈ lw_tbl from pm_tb4 (List.mem_of_getElem? (i := 116) rfl)
set_option maxRecDepth 20000 in
theorem pm_cw124 : pm_cwP 124 := show Jvm.Cond.code ⟨"BoundedSchemes$Machine", "goOnApplication", "(I)V"⟩ prog_4_method_12_code 4 (none) ∈ lw_tbl from pm_tb4 (List.mem_of_getElem? (i := 112) rfl)
set_option maxRecDepth 20000 in
theorem pm_cw125 : pm_cwP 125 := show Jvm.Cond.code ⟨"BoundedSchemes$Machine", "newScope", "(III)I"⟩ prog_4_method_13_code 5 (some .int) ∈ lw_tbl from pm_tb4 (List.mem_of_getElem? (i := 120) rfl)
set_option maxRecDepth 20000 in
theorem pm_cw126 : pm_cwP 126 := show Jvm.Cond.code ⟨"BoundedSchemes$Machine", "goOnRecord", "(I)V"⟩ prog_4_method_14_code 5 (none) ∈ lw_tbl from pm_tb4 (List.mem_of_getElem? (i := 128) rfl)
set_option maxRecDepth 20000 in
theorem pm_cw127 : pm_cwP 127 := show Jvm.Cond.code ⟨"BoundedSchemes$Machine", "writeOn", "(LBoundedSchemes$Page;II)V"⟩ prog_4_method_15_code 5 (none) ∈ lw_tbl from pm_tb4 (List.mem_of_getElem? (i := 149) rfl)
set_option maxRecDepth 20000 in
theorem pm_cw128 : pm_cwP 128 := show Jvm.Cond.code ⟨"BoundedSchemes$Machine", "writeRecordOn", "(LBoundedSchemes$Page;II)V"⟩ prog_4_method_16_code 6 (none) ∈ lw_tbl from pm_tb4 (List.mem_of_getElem? (i := 155) rfl)
set_option maxRecDepth 20000 in
theorem pm_cw129 : pm_cwP 129 := show Jvm.Cond.code ⟨"BoundedSchemes$Values", "<init>", "()V"⟩ prog_9_method_1_code 1 (none) ∈ lw_tbl from pm_tb1 (List.mem_of_getElem? (i := 213) rfl)
set_option maxRecDepth 20000 in
theorem pm_cw130 : pm_cwP 130 := show Jvm.Cond.code ⟨"BoundedSchemes$Values", "make", "(II)I"⟩ prog_9_method_2_code 4 (some .int) ∈ lw_tbl from pm_tb4 (List.mem_of_getElem? (i := 74) rfl)
set_option maxRecDepth 20000 in
theorem pm_cw131 : pm_cwP 131 := show Jvm.Cond.code ⟨"BoundedSchemes$Values", "grow", "()Z"⟩ prog_9_method_3_code 2 (some .boolean) ∈ lw_tbl from pm_tb4 (List.mem_of_getElem? (i := 78) rfl)
set_option maxRecDepth 20000 in
theorem pm_cw132 : pm_cwP 132 := show Jvm.Cond.code ⟨"BoundedSchemes$Values", "part", "(II)I"⟩ prog_9_method_4_code 3 (some .int) ∈ lw_tbl from pm_tb4 (List.mem_of_getElem? (i := 124) rfl)
set_option maxRecDepth 20000 in
theorem pm_cw133 : pm_cwP 133 := show Jvm.Cond.code ⟨"BoundedSchemes$Values", "setPart", "(III)V"⟩ prog_9_method_5_code 4 (none) ∈ lw_tbl from pm_tb4 (List.mem_of_getElem? (i := 132) rfl)
set_option maxRecDepth 20000 in
theorem pm_cw134 : pm_cwP 134 := show Jvm.Cond.code ⟨"BoundedSchemesModel", "<init>", "()V"⟩ prog_11_method_1_code 1 (none) ∈ lw_tbl from pm_tb4 (List.mem_of_getElem? (i := 162) rfl)
set_option maxRecDepth 20000 in
theorem pm_cw135 : pm_cwP 135 := show Jvm.Cond.code ⟨"BoundedSchemesModel", "type", "(C)Z"⟩ prog_11_method_2_code 2 (some .boolean) ∈ lw_tbl from pm_tb5 (List.mem_of_getElem? (i := 127) rfl)
set_option maxRecDepth 20000 in
theorem pm_cw136 : pm_cwP 136 := show Jvm.Cond.code ⟨"BoundedSchemesModel", "expect", "(IIII)V"⟩ prog_11_method_3_code 5 (none) ∈ lw_tbl from pm_tb5 (List.mem_of_getElem? (i := 143) rfl)
set_option maxRecDepth 20000 in
theorem pm_cw137 : pm_cwP 137 := show Jvm.Cond.code ⟨"BoundedSchemesModel", "add", "(IIII)I"⟩ prog_11_method_4_code 5 (some .int) ∈ lw_tbl from pm_tb5 (List.mem_of_getElem? (i := 155) rfl)
set_option maxRecDepth 20000 in
theorem pm_cw138 : pm_cwP 138 := show Jvm.Cond.code ⟨"BoundedSchemesModel", "open", "(III)I"⟩ prog_11_method_5_code 4 (some .int) ∈ lw_tbl from pm_tb5 (List.mem_of_getElem? (i := 159) rfl)
set_option maxRecDepth 20000 in
theorem pm_cw139 : pm_cwP 139 := show Jvm.Cond.code ⟨"BoundedSchemesModel", "beginType", "(IIII)Z"⟩ prog_11_method_6_code 7 (some .boolean) ∈ lw_tbl from pm_tb5 (List.mem_of_getElem? (i := 151) rfl)
set_option maxRecDepth 20000 in
theorem pm_cw140 : pm_cwP 140 := show Jvm.Cond.code ⟨"BoundedSchemesModel", "beginTerm", "(IIII)Z"⟩ prog_11_method_7_code 7 (some .boolean) ∈ lw_tbl from pm_tb5 (List.mem_of_getElem? (i := 163) rfl)
set_option maxRecDepth 20000 in
theorem pm_cw141 : pm_cwP 141 := show Jvm.Cond.code ⟨"BoundedSchemesModel", "label", "(IIII)Z"⟩ prog_11_method_8_code 7 (some .boolean) ∈ lw_tbl from pm_tb5 (List.mem_of_getElem? (i := 167) rfl)
set_option maxRecDepth 20000 in
theorem pm_cw142 : pm_cwP 142 := show Jvm.Cond.code ⟨"BoundedSchemesModel", "take", "(II)Z"⟩ prog_11_method_9_code 8 (some .boolean) ∈ lw_tbl from pm_tb5 (List.mem_of_getElem? (i := 147) rfl)
set_option maxRecDepth 20000 in
theorem pm_cw143 : pm_cwP 143 := show Jvm.Cond.code ⟨"BoundedSchemesModel", "read", "(I)I"⟩ prog_11_method_10_code 3 (some .int) ∈ lw_tbl from pm_tb5 (List.mem_of_getElem? (i := 139) rfl)
set_option maxRecDepth 20000 in
theorem pm_cw144 : pm_cwP 144 := show Jvm.Cond.code ⟨"BoundedSchemesModel", "partsOf", "(I)I"⟩ prog_11_method_11_code 3 (some .int) ∈ lw_tbl from pm_tb5 (List.mem_of_getElem? (i := 183) rfl)
set_option maxRecDepth 20000 in
theorem pm_cw145 : pm_cwP 145 := show Jvm.Cond.code ⟨"BoundedSchemesModel", "behind", "(I)I"⟩ prog_11_method_12_code 4 (some .int) ∈ lw_tbl from pm_tb5 (List.mem_of_getElem? (i := 179) rfl)
set_option maxRecDepth 20000 in
theorem pm_cw146 : pm_cwP 146 := show Jvm.Cond.code ⟨"BoundedSchemesModel", "binder", "(III)I"⟩ prog_11_method_13_code 5 (some .int) ∈ lw_tbl from pm_tb5 (List.mem_of_getElem? (i := 175) rfl)
set_option maxRecDepth 20000 in
theorem pm_cw147 : pm_cwP 147 := show Jvm.Cond.code ⟨"BoundedSchemesModel", "depthOf", "(I)I"⟩ prog_11_method_14_code 4 (some .int) ∈ lw_tbl from pm_tb5 (List.mem_of_getElem? (i := 191) rfl)
set_option maxRecDepth 20000 in
theorem pm_cw148 : pm_cwP 148 := show Jvm.Cond.code ⟨"BoundedSchemesModel", "sound", "()Z"⟩ prog_11_method_15_code 2 (some .boolean) ∈ lw_tbl from pm_tb5 (List.mem_of_getElem? (i := 171) rfl)
set_option maxRecDepth 20000 in
theorem pm_cw149 : pm_cwP 149 := show Jvm.Cond.code ⟨"BoundedSchemesModel", "cell", "(II)I"⟩ prog_11_method_16_code 3 (some .int) ∈ lw_tbl from pm_tb5 (List.mem_of_getElem? (i := 227) rfl)
set_option maxRecDepth 20000 in
theorem pm_cw150 : pm_cwP 150 := show Jvm.Cond.code ⟨"BoundedSchemesModel", "fresh", "()I"⟩ prog_11_method_17_code 1 (some .int) ∈ lw_tbl from pm_tb5 (List.mem_of_getElem? (i := 239) rfl)
set_option maxRecDepth 20000 in
theorem pm_cw151 : pm_cwP 151 := show Jvm.Cond.code ⟨"BoundedSchemesModel", "labels", "(I)I"⟩ prog_11_method_18_code 1 (some .int) ∈ lw_tbl from pm_tb6 (List.mem_of_getElem? (i := 10) rfl)
set_option maxRecDepth 20000 in
theorem pm_cw152 : pm_cwP 152 := show Jvm.Cond.code ⟨"BoundedSchemesModel", "end", "(II)I"⟩ prog_11_method_19_code 6 (some .int) ∈ lw_tbl from pm_tb6 (List.mem_of_getElem? (i := 7) rfl)
set_option maxRecDepth 20000 in
theorem pm_cw153 : pm_cwP 153 := show Jvm.Cond.code ⟨"BoundedSchemesModel", "copy", "(IIII)V"⟩ prog_11_method_20_code 7 (none) ∈ lw_tbl from pm_tb6 (List.mem_of_getElem? (i := 3) rfl)
set_option maxRecDepth 20000 in
theorem pm_cw154 : pm_cwP 154 := show Jvm.Cond.code ⟨"BoundedSchemesModel", "equal", "(IIII)Z"⟩ prog_11_method_21_code 8 (some .boolean) ∈ lw_tbl from pm_tb6 (List.mem_of_getElem? (i := 18) rfl)
set_option maxRecDepth 20000 in
theorem pm_cw155 : pm_cwP 155 := show Jvm.Cond.code ⟨"BoundedSchemesModel", "fill", "(II)V"⟩ prog_11_method_22_code 6 (none) ∈ lw_tbl from pm_tb5 (List.mem_of_getElem? (i := 187) rfl)
set_option maxRecDepth 20000 in
theorem pm_cw156 : pm_cwP 156 := show Jvm.Cond.code ⟨"BoundedSchemesModel", "widened", "(IIII)I"⟩ prog_11_method_23_code 8 (some .int) ∈ lw_tbl from pm_tb5 (List.mem_of_getElem? (i := 235) rfl)
set_option maxRecDepth 20000 in
theorem pm_cw157 : pm_cwP 157 := show Jvm.Cond.code ⟨"BoundedSchemesModel", "context", "(III)I"⟩ prog_11_method_24_code 4 (some .int) ∈ lw_tbl from pm_tb6 (List.mem_of_getElem? (i := 22) rfl)
set_option maxRecDepth 20000 in
theorem pm_cw158 : pm_cwP 158 := show Jvm.Cond.code ⟨"BoundedSchemesModel", "boundOf", "(III)I"⟩ prog_11_method_25_code 5 (some .int) ∈ lw_tbl from pm_tb5 (List.mem_of_getElem? (i := 231) rfl)
set_option maxRecDepth 20000 in
theorem pm_cw159 : pm_cwP 159 := show Jvm.Cond.code ⟨"BoundedSchemesModel", "field", "(III)I"⟩ prog_11_method_26_code 6 (some .int) ∈ lw_tbl from pm_tb6 (List.mem_of_getElem? (i := 14) rfl)
set_option maxRecDepth 20000 in
theorem pm_cw160 : pm_cwP 160 := show Jvm.Cond.code ⟨"BoundedSchemesModel", "pose", "(IIIIII)V"⟩ prog_11_method_27_code 8 (none) ∈ lw_tbl from pm_tb5 (List.mem_of_getElem? (i := 219) rfl)
set_option maxRecDepth 20000 in
theorem pm_cw161 : pm_cwP 161 := show Jvm.Cond.code ⟨"BoundedSchemesModel", "under", "(IIIIII)Z"⟩ prog_11_method_28_code 11 (some .boolean) ∈ lw_tbl from pm_tb5 (List.mem_of_getElem? (i := 215) rfl)
set_option maxRecDepth 20000 in
theorem pm_cw162 : pm_cwP 162 := show Jvm.Cond.code ⟨"BoundedSchemesModel", "settle", "(IIIIII)Z"⟩ prog_11_method_29_code 12 (some .boolean) ∈ lw_tbl from pm_tb5 (List.mem_of_getElem? (i := 223) rfl)
set_option maxRecDepth 20000 in
theorem pm_cw163 : pm_cwP 163 := show Jvm.Cond.code ⟨"BoundedSchemesModel", "aim", "(IIIIIII)I"⟩ prog_11_method_30_code 9 (some .int) ∈ lw_tbl from pm_tb6 (List.mem_of_getElem? (i := 42) rfl)
set_option maxRecDepth 20000 in
theorem pm_cw164 : pm_cwP 164 := show Jvm.Cond.code ⟨"BoundedSchemesModel", "reach", "(III)V"⟩ prog_11_method_31_code 4 (none) ∈ lw_tbl from pm_tb6 (List.mem_of_getElem? (i := 50) rfl)
set_option maxRecDepth 20000 in
theorem pm_cw165 : pm_cwP 165 := show Jvm.Cond.code ⟨"BoundedSchemesModel", "top", "()I"⟩ prog_11_method_32_code 2 (some .int) ∈ lw_tbl from pm_tb6 (List.mem_of_getElem? (i := 58) rfl)
set_option maxRecDepth 20000 in
theorem pm_cw166 : pm_cwP 166 := show Jvm.Cond.code ⟨"BoundedSchemesModel", "part", "(I)V"⟩ prog_11_method_33_code 14 (none) ∈ lw_tbl from pm_tb6 (List.mem_of_getElem? (i := 46) rfl)
set_option maxRecDepth 20000 in
theorem pm_cw167 : pm_cwP 167 := show Jvm.Cond.code ⟨"BoundedSchemesModel", "fields", "(II)V"⟩ prog_11_method_34_code 11 (none) ∈ lw_tbl from pm_tb6 (List.mem_of_getElem? (i := 54) rfl)
set_option maxRecDepth 20000 in
theorem pm_cw168 : pm_cwP 168 := show Jvm.Cond.code ⟨"BoundedSchemesModel", "whole", "(I)V"⟩ prog_11_method_35_code 10 (none) ∈ lw_tbl from pm_tb6 (List.mem_of_getElem? (i := 62) rfl)
set_option maxRecDepth 20000 in
theorem pm_cw169 : pm_cwP 169 := show Jvm.Cond.code ⟨"BoundedSchemesModel", "combine", "(IIIII)I"⟩ prog_11_method_36_code 8 (some .int) ∈ lw_tbl from pm_tb6 (List.mem_of_getElem? (i := 38) rfl)
set_option maxRecDepth 20000 in
theorem pm_cw170 : pm_cwP 170 := show Jvm.Cond.code ⟨"BoundedSchemesModel", "isSlot", "(I)Z"⟩ prog_11_method_37_code 2 (some .boolean) ∈ lw_tbl from pm_tb5 (List.mem_of_getElem? (i := 135) rfl)
set_option maxRecDepth 20000 in
theorem pm_cw171 : pm_cwP 171 := show Jvm.Cond.code ⟨"BoundedSchemesModel", "holds", "(I)Z"⟩ prog_11_method_38_code 2 (some .boolean) ∈ lw_tbl from pm_tb5 (List.mem_of_getElem? (i := 207) rfl)
set_option maxRecDepth 20000 in
theorem pm_cw172 : pm_cwP 172 := show Jvm.Cond.code ⟨"BoundedSchemesModel", "begin", "()V"⟩ prog_11_method_39_code 1 (none) ∈ lw_tbl from pm_tb5 (List.mem_of_getElem? (i := 211) rfl)
set_option maxRecDepth 20000 in
theorem pm_cw173 : pm_cwP 173 := show Jvm.Cond.code ⟨"BoundedSchemesModel", "readType", "(I)I"⟩ prog_11_method_40_code 3 (some .int) ∈ lw_tbl from pm_tb5 (List.mem_of_getElem? (i := 131) rfl)
set_option maxRecDepth 20000 in
theorem pm_cw174 : pm_cwP 174 := show Jvm.Cond.code ⟨"BoundedSchemesModel", "keepTerm", "()V"⟩ prog_11_method_41_code 2 (none) ∈ lw_tbl from pm_tb5 (List.mem_of_getElem? (i := 199) rfl)
set_option maxRecDepth 20000 in
theorem pm_cw175 : pm_cwP 175 := show Jvm.Cond.code ⟨"BoundedSchemesModel", "readTerm", "()I"⟩ prog_11_method_42_code 2 (some .int) ∈ lw_tbl from pm_tb5 (List.mem_of_getElem? (i := 195) rfl)
set_option maxRecDepth 20000 in
theorem pm_cw176 : pm_cwP 176 := show Jvm.Cond.code ⟨"BoundedSchemesModel", "below", "(II)I"⟩ prog_11_method_43_code 3 (some .int) ∈ lw_tbl from pm_tb5 (List.mem_of_getElem? (i := 203) rfl)
set_option maxRecDepth 20000 in
theorem pm_cw177 : pm_cwP 177 := show Jvm.Cond.code ⟨"BoundedSchemesModel", "same", "(II)I"⟩ prog_11_method_44_code 3 (some .int) ∈ lw_tbl from pm_tb6 (List.mem_of_getElem? (i := 26) rfl)
set_option maxRecDepth 20000 in
theorem pm_cw178 : pm_cwP 178 := show Jvm.Cond.code ⟨"BoundedSchemesModel", "combined", "(IIII)I"⟩ prog_11_method_45_code 7 (some .int) ∈ lw_tbl from pm_tb6 (List.mem_of_getElem? (i := 34) rfl)
set_option maxRecDepth 20000 in
theorem pm_cw179 : pm_cwP 179 := show Jvm.Cond.code ⟨"BoundedSchemesModel", "join", "(III)I"⟩ prog_11_method_46_code 4 (some .int) ∈ lw_tbl from pm_tb6 (List.mem_of_getElem? (i := 30) rfl)
set_option maxRecDepth 20000 in
theorem pm_cw180 : pm_cwP 180 := show Jvm.Cond.code ⟨"BoundedSchemesModel", "meet", "(III)I"⟩ prog_11_method_47_code 4 (some .int) ∈ lw_tbl from pm_tb6 (List.mem_of_getElem? (i := 66) rfl)
set_option maxRecDepth 20000 in
theorem pm_cw181 : pm_cwP 181 := show Jvm.Cond.code ⟨"BoundedSchemesModel", "size", "(I)I"⟩ prog_11_method_48_code 2 (some .int) ∈ lw_tbl from pm_tb6 (List.mem_of_getElem? (i := 70) rfl)
set_option maxRecDepth 20000 in
theorem pm_cw182 : pm_cwP 182 := show Jvm.Cond.code ⟨"BoundedSchemesModel", "put", "(I)V"⟩ prog_11_method_49_code 2 (none) ∈ lw_tbl from pm_tb6 (List.mem_of_getElem? (i := 82) rfl)
set_option maxRecDepth 20000 in
theorem pm_cw183 : pm_cwP 183 := show Jvm.Cond.code ⟨"BoundedSchemesModel", "before", "(II)V"⟩ prog_11_method_50_code 8 (none) ∈ lw_tbl from pm_tb6 (List.mem_of_getElem? (i := 78) rfl)
set_option maxRecDepth 20000 in
theorem pm_cw184 : pm_cwP 184 := show Jvm.Cond.code ⟨"BoundedSchemesModel", "bindersAround", "(III)I"⟩ prog_11_method_51_code 6 (some .int) ∈ lw_tbl from pm_tb6 (List.mem_of_getElem? (i := 86) rfl)
set_option maxRecDepth 20000 in
theorem pm_cw185 : pm_cwP 185 := show Jvm.Cond.code ⟨"BoundedSchemesModel", "write", "(I)I"⟩ prog_11_method_52_code 7 (some .int) ∈ lw_tbl from pm_tb6 (List.mem_of_getElem? (i := 74) rfl)
set_option maxRecDepth 20000 in
theorem pm_cw186 : pm_cwP 186 := show Jvm.Cond.code ⟨"BoundedSchemesModel", "charAt", "(I)I"⟩ prog_11_method_53_code 2 (some .int) ∈ lw_tbl from pm_tb6 (List.mem_of_getElem? (i := 90) rfl)
set_option maxRecDepth 20000 in
theorem pm_cw187 : pm_cwP 187 := show Jvm.Cond.code ⟨"BoundedSchemesModel", "prepare", "()V"⟩ prog_11_method_54_code 4 (none) ∈ lw_tbl from pm_tb6 (List.mem_of_getElem? (i := 102) rfl)
set_option maxRecDepth 20000 in
theorem pm_cw188 : pm_cwP 188 := show Jvm.Cond.code ⟨"BoundedSchemesModel", "expose", "(III)V"⟩ prog_11_method_55_code 4 (none) ∈ lw_tbl from pm_tb6 (List.mem_of_getElem? (i := 126) rfl)
set_option maxRecDepth 20000 in
theorem pm_cw189 : pm_cwP 189 := show Jvm.Cond.code ⟨"BoundedSchemesModel", "gets", "(III)Z"⟩ prog_11_method_56_code 5 (some .boolean) ∈ lw_tbl from pm_tb6 (List.mem_of_getElem? (i := 110) rfl)
set_option maxRecDepth 20000 in
theorem pm_cw190 : pm_cwP 190 := show Jvm.Cond.code ⟨"BoundedSchemesModel", "binding", "(IIII)Z"⟩ prog_11_method_57_code 5 (some .boolean) ∈ lw_tbl from pm_tb6 (List.mem_of_getElem? (i := 118) rfl)
set_option maxRecDepth 20000 in
theorem pm_cw191 : pm_cwP 191 := show Jvm.Cond.code ⟨"BoundedSchemesModel", "recordType", "(I)Z"⟩ prog_11_method_58_code 6 (some .boolean) ∈ lw_tbl from pm_tb6 (List.mem_of_getElem? (i := 114) rfl)
set_option maxRecDepth 20000 in
theorem pm_cw192 : pm_cwP 192 := show Jvm.Cond.code ⟨"BoundedSchemesModel", "instance", "(IIIII)Z"⟩ prog_11_method_59_code 15 (some .boolean) ∈ lw_tbl from pm_tb6 (List.mem_of_getElem? (i := 130) rfl)
set_option maxRecDepth 20000 in
theorem pm_cw193 : pm_cwP 193 := show Jvm.Cond.code ⟨"BoundedSchemesModel", "application", "(IIII)Z"⟩ prog_11_method_60_code 9 (some .boolean) ∈ lw_tbl from pm_tb6 (List.mem_of_getElem? (i := 122) rfl)
set_option maxRecDepth 20000 in
theorem pm_cw194 : pm_cwP 194 := show Jvm.Cond.code ⟨"BoundedSchemesModel", "rule", "(I)Z"⟩ prog_11_method_61_code 7 (some .boolean) ∈ lw_tbl from pm_tb6 (List.mem_of_getElem? (i := 106) rfl)
set_option maxRecDepth 20000 in
theorem pm_cw195 : pm_cwP 195 := show Jvm.Cond.code ⟨"BoundedSchemesModel", "types", "()I"⟩ prog_11_method_62_code 8 (some .int) ∈ lw_tbl from pm_tb6 (List.mem_of_getElem? (i := 98) rfl)
set_option maxRecDepth 20000 in
theorem pm_cw196 : pm_cwP 196 := show Jvm.Cond.code ⟨"BoundedSchemesModel", "typeOf", "(I)I"⟩ prog_11_method_63_code 3 (some .int) ∈ lw_tbl from pm_tb6 (List.mem_of_getElem? (i := 94) rfl)
set_option maxRecDepth 20000 in
theorem pm_cw197 : pm_cwP 197 := show Jvm.Cond.code ⟨"BoundedSchemesModel", "fits", "(I)Z"⟩ prog_11_method_64_code 2 (some .boolean) ∈ lw_tbl from pm_tb6 (List.mem_of_getElem? (i := 134) rfl)
set_option maxRecDepth 20000 in
theorem pm_cw198 : pm_cwP 198 := show Jvm.Cond.code ⟨"BoundedSchemesModel", "start", "()Z"⟩ prog_11_method_65_code 1 (some .boolean) ∈ lw_tbl from pm_tb6 (List.mem_of_getElem? (i := 138) rfl)
set_option maxRecDepth 20000 in
theorem pm_cw199 : pm_cwP 199 := show Jvm.Cond.code ⟨"BoundedSchemesModel", "go", "(II)V"⟩ prog_11_method_66_code 3 (none) ∈ lw_tbl from pm_tb6 (List.mem_of_getElem? (i := 142) rfl)
set_option maxRecDepth 20000 in
theorem pm_cw200 : pm_cwP 200 := show Jvm.Cond.code ⟨"BoundedSchemesModel", "answer", "(I)V"⟩ prog_11_method_67_code 2 (none) ∈ lw_tbl from pm_tb6 (List.mem_of_getElem? (i := 158) rfl)
set_option maxRecDepth 20000 in
theorem pm_cw201 : pm_cwP 201 := show Jvm.Cond.code ⟨"BoundedSchemesModel", "keep", "(III)I"⟩ prog_11_method_68_code 4 (some .int) ∈ lw_tbl from pm_tb6 (List.mem_of_getElem? (i := 166) rfl)
set_option maxRecDepth 20000 in
theorem pm_cw202 : pm_cwP 202 := show Jvm.Cond.code ⟨"BoundedSchemesModel", "wait", "(IIII)V"⟩ prog_11_method_69_code 5 (none) ∈ lw_tbl from pm_tb6 (List.mem_of_getElem? (i := 170) rfl)
set_option maxRecDepth 20000 in
theorem pm_cw203 : pm_cwP 203 := show Jvm.Cond.code ⟨"BoundedSchemesModel", "enter", "(Z)I"⟩ prog_11_method_70_code 5 (some .int) ∈ lw_tbl from pm_tb6 (List.mem_of_getElem? (i := 162) rfl)
set_option maxRecDepth 20000 in
theorem pm_cw204 : pm_cwP 204 := show Jvm.Cond.code ⟨"BoundedSchemesModel", "fillField", "(I)V"⟩ prog_11_method_71_code 8 (none) ∈ lw_tbl from pm_tb6 (List.mem_of_getElem? (i := 154) rfl)
set_option maxRecDepth 20000 in
theorem pm_cw205 : pm_cwP 205 := show Jvm.Cond.code ⟨"BoundedSchemesModel", "back", "(Z)I"⟩ prog_11_method_72_code 6 (some .int) ∈ lw_tbl from pm_tb6 (List.mem_of_getElem? (i := 150) rfl)
set_option maxRecDepth 20000 in
theorem pm_cw206 : pm_cwP 206 := show Jvm.Cond.code ⟨"BoundedSchemesModel", "run", "(I)I"⟩ prog_11_method_73_code 4 (some .int) ∈ lw_tbl from pm_tb6 (List.mem_of_getElem? (i := 146) rfl)
set_option maxRecDepth 20000 in
theorem pm_cw207 : pm_cwP 207 := show Jvm.Cond.code ⟨"BoundedSchemesModel", "step", "(I)I"⟩ prog_11_method_74_code 3 (some .int) ∈ lw_tbl from pm_tb6 (List.mem_of_getElem? (i := 174) rfl)
set_option maxRecDepth 20000 in
theorem pm_cw208 : pm_cwP 208 := show Jvm.Cond.code ⟨"BoundedSchemesModel", "steps", "()I"⟩ prog_11_method_75_code 1 (some .int) ∈ lw_tbl from pm_tb6 (List.mem_of_getElem? (i := 178) rfl)
set_option maxRecDepth 20000 in
theorem pm_cw209 : pm_cwP 209 := show Jvm.Cond.code ⟨"BoundedSchemesModel", "value", "()I"⟩ prog_11_method_76_code 5 (some .int) ∈ lw_tbl from pm_tb6 (List.mem_of_getElem? (i := 182) rfl)
set_option maxRecDepth 20000 in
theorem pm_cw210 : pm_cwP 210 := show Jvm.Cond.code ⟨"BoundedSchemesModel", "show", "(II)I"⟩ prog_11_method_77_code 6 (some .int) ∈ lw_tbl from pm_tb6 (List.mem_of_getElem? (i := 186) rfl)
set_option maxRecDepth 20000 in
theorem pm_cw211 : pm_cwP 211 := show Jvm.Cond.code ⟨"java/util/Arrays", "copyOf", "([II)[I"⟩ prog_15_method_123_code 3 (some (.array .int)) ∈ lw_tbl from pm_tb2 (List.mem_of_getElem? (i := 159) rfl)
theorem pm_cwL0 : ∀ j ∈ ([0, 1, 2, 3, 4, 5, 6, 7, 8, 9, 10, 11, 12, 13, 14, 15] : List Nat), pm_cwP j := List.forall_mem_cons.mpr ⟨pm_cw0, List.forall_mem_cons.mpr ⟨pm_cw1, List.forall_mem_cons.mpr ⟨pm_cw2, List.forall_mem_cons.mpr ⟨pm_cw3, List.forall_mem_cons.mpr ⟨pm_cw4, List.forall_mem_cons.mpr ⟨pm_cw5, List.forall_mem_cons.mpr ⟨pm_cw6, List.forall_mem_cons.mpr ⟨pm_cw7, List.forall_mem_cons.mpr ⟨pm_cw8, List.forall_mem_cons.mpr ⟨pm_cw9, List.forall_mem_cons.mpr ⟨pm_cw10, List.forall_mem_cons.mpr ⟨pm_cw11, List.forall_mem_cons.mpr ⟨pm_cw12, List.forall_mem_cons.mpr ⟨pm_cw13, List.forall_mem_cons.mpr ⟨pm_cw14, List.forall_mem_cons.mpr ⟨pm_cw15, fun _ h => absurd h List.not_mem_nil⟩⟩⟩⟩⟩⟩⟩⟩⟩⟩⟩⟩⟩⟩⟩⟩
theorem pm_cwL1 : ∀ j ∈ ([16, 17, 18, 19, 20, 21, 22, 23, 24, 25, 26, 27, 28, 29, 30, 31] : List Nat), pm_cwP j := List.forall_mem_cons.mpr ⟨pm_cw16, List.forall_mem_cons.mpr ⟨pm_cw17, List.forall_mem_cons.mpr ⟨pm_cw18, List.forall_mem_cons.mpr ⟨pm_cw19, List.forall_mem_cons.mpr ⟨pm_cw20, List.forall_mem_cons.mpr ⟨pm_cw21, List.forall_mem_cons.mpr ⟨pm_cw22, List.forall_mem_cons.mpr ⟨pm_cw23, List.forall_mem_cons.mpr ⟨pm_cw24, List.forall_mem_cons.mpr ⟨pm_cw25, List.forall_mem_cons.mpr ⟨pm_cw26, List.forall_mem_cons.mpr ⟨pm_cw27, List.forall_mem_cons.mpr ⟨pm_cw28, List.forall_mem_cons.mpr ⟨pm_cw29, List.forall_mem_cons.mpr ⟨pm_cw30, List.forall_mem_cons.mpr ⟨pm_cw31, fun _ h => absurd h List.not_mem_nil⟩⟩⟩⟩⟩⟩⟩⟩⟩⟩⟩⟩⟩⟩⟩⟩
theorem pm_cwL2 : ∀ j ∈ ([32, 33, 34, 35, 36, 37, 38, 39, 40, 41, 42, 43, 44, 45, 46, 47] : List Nat), pm_cwP j := List.forall_mem_cons.mpr ⟨pm_cw32, List.forall_mem_cons.mpr ⟨pm_cw33, List.forall_mem_cons.mpr ⟨pm_cw34, List.forall_mem_cons.mpr ⟨pm_cw35, List.forall_mem_cons.mpr ⟨pm_cw36, List.forall_mem_cons.mpr ⟨pm_cw37, List.forall_mem_cons.mpr ⟨pm_cw38, List.forall_mem_cons.mpr ⟨pm_cw39, List.forall_mem_cons.mpr ⟨pm_cw40, List.forall_mem_cons.mpr ⟨pm_cw41, List.forall_mem_cons.mpr ⟨pm_cw42, List.forall_mem_cons.mpr ⟨pm_cw43, List.forall_mem_cons.mpr ⟨pm_cw44, List.forall_mem_cons.mpr ⟨pm_cw45, List.forall_mem_cons.mpr ⟨pm_cw46, List.forall_mem_cons.mpr ⟨pm_cw47, fun _ h => absurd h List.not_mem_nil⟩⟩⟩⟩⟩⟩⟩⟩⟩⟩⟩⟩⟩⟩⟩⟩
theorem pm_cwL3 : ∀ j ∈ ([48, 49, 50, 51, 52, 53, 54, 55, 56, 57, 58, 59, 60, 61, 62, 63] : List Nat), pm_cwP j := List.forall_mem_cons.mpr ⟨pm_cw48, List.forall_mem_cons.mpr ⟨pm_cw49, List.forall_mem_cons.mpr ⟨pm_cw50, List.forall_mem_cons.mpr ⟨pm_cw51, List.forall_mem_cons.mpr ⟨pm_cw52, List.forall_mem_cons.mpr ⟨pm_cw53, List.forall_mem_cons.mpr ⟨pm_cw54, List.forall_mem_cons.mpr ⟨pm_cw55, List.forall_mem_cons.mpr ⟨pm_cw56, List.forall_mem_cons.mpr ⟨pm_cw57, List.forall_mem_cons.mpr ⟨pm_cw58, List.forall_mem_cons.mpr ⟨pm_cw59, List.forall_mem_cons.mpr ⟨pm_cw60, List.forall_mem_cons.mpr ⟨pm_cw61, List.forall_mem_cons.mpr ⟨pm_cw62, List.forall_mem_cons.mpr ⟨pm_cw63, fun _ h => absurd h List.not_mem_nil⟩⟩⟩⟩⟩⟩⟩⟩⟩⟩⟩⟩⟩⟩⟩⟩
theorem pm_cwL4 : ∀ j ∈ ([64, 65, 66, 67, 68, 69, 70, 71, 72, 73, 74, 75, 76, 77, 78, 79] : List Nat), pm_cwP j := List.forall_mem_cons.mpr ⟨pm_cw64, List.forall_mem_cons.mpr ⟨pm_cw65, List.forall_mem_cons.mpr ⟨pm_cw66, List.forall_mem_cons.mpr ⟨pm_cw67, List.forall_mem_cons.mpr ⟨pm_cw68, List.forall_mem_cons.mpr ⟨pm_cw69, List.forall_mem_cons.mpr ⟨pm_cw70, List.forall_mem_cons.mpr ⟨pm_cw71, List.forall_mem_cons.mpr ⟨pm_cw72, List.forall_mem_cons.mpr ⟨pm_cw73, List.forall_mem_cons.mpr ⟨pm_cw74, List.forall_mem_cons.mpr ⟨pm_cw75, List.forall_mem_cons.mpr ⟨pm_cw76, List.forall_mem_cons.mpr ⟨pm_cw77, List.forall_mem_cons.mpr ⟨pm_cw78, List.forall_mem_cons.mpr ⟨pm_cw79, fun _ h => absurd h List.not_mem_nil⟩⟩⟩⟩⟩⟩⟩⟩⟩⟩⟩⟩⟩⟩⟩⟩
theorem pm_cwL5 : ∀ j ∈ ([80, 81, 82, 83, 84, 85, 86, 87, 88, 89, 90, 91, 92, 93, 94, 95] : List Nat), pm_cwP j := List.forall_mem_cons.mpr ⟨pm_cw80, List.forall_mem_cons.mpr ⟨pm_cw81, List.forall_mem_cons.mpr ⟨pm_cw82, List.forall_mem_cons.mpr ⟨pm_cw83, List.forall_mem_cons.mpr ⟨pm_cw84, List.forall_mem_cons.mpr ⟨pm_cw85, List.forall_mem_cons.mpr ⟨pm_cw86, List.forall_mem_cons.mpr ⟨pm_cw87, List.forall_mem_cons.mpr ⟨pm_cw88, List.forall_mem_cons.mpr ⟨pm_cw89, List.forall_mem_cons.mpr ⟨pm_cw90, List.forall_mem_cons.mpr ⟨pm_cw91, List.forall_mem_cons.mpr ⟨pm_cw92, List.forall_mem_cons.mpr ⟨pm_cw93, List.forall_mem_cons.mpr ⟨pm_cw94, List.forall_mem_cons.mpr ⟨pm_cw95, fun _ h => absurd h List.not_mem_nil⟩⟩⟩⟩⟩⟩⟩⟩⟩⟩⟩⟩⟩⟩⟩⟩
theorem pm_cwL6 : ∀ j ∈ ([96, 97, 98, 99, 100, 101, 102, 103, 104, 105, 106, 107, 108, 109, 110, 111] : List Nat), pm_cwP j := List.forall_mem_cons.mpr ⟨pm_cw96, List.forall_mem_cons.mpr ⟨pm_cw97, List.forall_mem_cons.mpr ⟨pm_cw98, List.forall_mem_cons.mpr ⟨pm_cw99, List.forall_mem_cons.mpr ⟨pm_cw100, List.forall_mem_cons.mpr ⟨pm_cw101, List.forall_mem_cons.mpr ⟨pm_cw102, List.forall_mem_cons.mpr ⟨pm_cw103, List.forall_mem_cons.mpr ⟨pm_cw104, List.forall_mem_cons.mpr ⟨pm_cw105, List.forall_mem_cons.mpr ⟨pm_cw106, List.forall_mem_cons.mpr ⟨pm_cw107, List.forall_mem_cons.mpr ⟨pm_cw108, List.forall_mem_cons.mpr ⟨pm_cw109, List.forall_mem_cons.mpr ⟨pm_cw110, List.forall_mem_cons.mpr ⟨pm_cw111, fun _ h => absurd h List.not_mem_nil⟩⟩⟩⟩⟩⟩⟩⟩⟩⟩⟩⟩⟩⟩⟩⟩
theorem pm_cwL7 : ∀ j ∈ ([112, 113, 114, 115, 116, 117, 118, 119, 120, 121, 122, 123, 124, 125, 126, 127] : List Nat), pm_cwP j := List.forall_mem_cons.mpr ⟨pm_cw112, List.forall_mem_cons.mpr ⟨pm_cw113, List.forall_mem_cons.mpr ⟨pm_cw114, List.forall_mem_cons.mpr ⟨pm_cw115, List.forall_mem_cons.mpr ⟨pm_cw116, List.forall_mem_cons.mpr ⟨pm_cw117, List.forall_mem_cons.mpr ⟨pm_cw118, List.forall_mem_cons.mpr ⟨pm_cw119, List.forall_mem_cons.mpr ⟨pm_cw120, List.forall_mem_cons.mpr ⟨pm_cw121, List.forall_mem_cons.mpr ⟨pm_cw122, List.forall_mem_cons.mpr ⟨pm_cw123, List.forall_mem_cons.mpr ⟨pm_cw124, List.forall_mem_cons.mpr ⟨pm_cw125, List.forall_mem_cons.mpr ⟨pm_cw126, List.forall_mem_cons.mpr ⟨pm_cw127, fun _ h => absurd h List.not_mem_nil⟩⟩⟩⟩⟩⟩⟩⟩⟩⟩⟩⟩⟩⟩⟩⟩
theorem pm_cwL8 : ∀ j ∈ ([128, 129, 130, 131, 132, 133, 134, 135, 136, 137, 138, 139, 140, 141, 142, 143] : List Nat), pm_cwP j := List.forall_mem_cons.mpr ⟨pm_cw128, List.forall_mem_cons.mpr ⟨pm_cw129, List.forall_mem_cons.mpr ⟨pm_cw130, List.forall_mem_cons.mpr ⟨pm_cw131, List.forall_mem_cons.mpr ⟨pm_cw132, List.forall_mem_cons.mpr ⟨pm_cw133, List.forall_mem_cons.mpr ⟨pm_cw134, List.forall_mem_cons.mpr ⟨pm_cw135, List.forall_mem_cons.mpr ⟨pm_cw136, List.forall_mem_cons.mpr ⟨pm_cw137, List.forall_mem_cons.mpr ⟨pm_cw138, List.forall_mem_cons.mpr ⟨pm_cw139, List.forall_mem_cons.mpr ⟨pm_cw140, List.forall_mem_cons.mpr ⟨pm_cw141, List.forall_mem_cons.mpr ⟨pm_cw142, List.forall_mem_cons.mpr ⟨pm_cw143, fun _ h => absurd h List.not_mem_nil⟩⟩⟩⟩⟩⟩⟩⟩⟩⟩⟩⟩⟩⟩⟩⟩
theorem pm_cwL9 : ∀ j ∈ ([144, 145, 146, 147, 148, 149, 150, 151, 152, 153, 154, 155, 156, 157, 158, 159] : List Nat), pm_cwP j := List.forall_mem_cons.mpr ⟨pm_cw144, List.forall_mem_cons.mpr ⟨pm_cw145, List.forall_mem_cons.mpr ⟨pm_cw146, List.forall_mem_cons.mpr ⟨pm_cw147, List.forall_mem_cons.mpr ⟨pm_cw148, List.forall_mem_cons.mpr ⟨pm_cw149, List.forall_mem_cons.mpr ⟨pm_cw150, List.forall_mem_cons.mpr ⟨pm_cw151, List.forall_mem_cons.mpr ⟨pm_cw152, List.forall_mem_cons.mpr ⟨pm_cw153, List.forall_mem_cons.mpr ⟨pm_cw154, List.forall_mem_cons.mpr ⟨pm_cw155, List.forall_mem_cons.mpr ⟨pm_cw156, List.forall_mem_cons.mpr ⟨pm_cw157, List.forall_mem_cons.mpr ⟨pm_cw158, List.forall_mem_cons.mpr ⟨pm_cw159, fun _ h => absurd h List.not_mem_nil⟩⟩⟩⟩⟩⟩⟩⟩⟩⟩⟩⟩⟩⟩⟩⟩
theorem pm_cwL10 : ∀ j ∈ ([160, 161, 162, 163, 164, 165, 166, 167, 168, 169, 170, 171, 172, 173, 174, 175] : List Nat), pm_cwP j := List.forall_mem_cons.mpr ⟨pm_cw160, List.forall_mem_cons.mpr ⟨pm_cw161, List.forall_mem_cons.mpr ⟨pm_cw162, List.forall_mem_cons.mpr ⟨pm_cw163, List.forall_mem_cons.mpr ⟨pm_cw164, List.forall_mem_cons.mpr ⟨pm_cw165, List.forall_mem_cons.mpr ⟨pm_cw166, List.forall_mem_cons.mpr ⟨pm_cw167, List.forall_mem_cons.mpr ⟨pm_cw168, List.forall_mem_cons.mpr ⟨pm_cw169, List.forall_mem_cons.mpr ⟨pm_cw170, List.forall_mem_cons.mpr ⟨pm_cw171, List.forall_mem_cons.mpr ⟨pm_cw172, List.forall_mem_cons.mpr ⟨pm_cw173, List.forall_mem_cons.mpr ⟨pm_cw174, List.forall_mem_cons.mpr ⟨pm_cw175, fun _ h => absurd h List.not_mem_nil⟩⟩⟩⟩⟩⟩⟩⟩⟩⟩⟩⟩⟩⟩⟩⟩
theorem pm_cwL11 : ∀ j ∈ ([176, 177, 178, 179, 180, 181, 182, 183, 184, 185, 186, 187, 188, 189, 190, 191] : List Nat), pm_cwP j := List.forall_mem_cons.mpr ⟨pm_cw176, List.forall_mem_cons.mpr ⟨pm_cw177, List.forall_mem_cons.mpr ⟨pm_cw178, List.forall_mem_cons.mpr ⟨pm_cw179, List.forall_mem_cons.mpr ⟨pm_cw180, List.forall_mem_cons.mpr ⟨pm_cw181, List.forall_mem_cons.mpr ⟨pm_cw182, List.forall_mem_cons.mpr ⟨pm_cw183, List.forall_mem_cons.mpr ⟨pm_cw184, List.forall_mem_cons.mpr ⟨pm_cw185, List.forall_mem_cons.mpr ⟨pm_cw186, List.forall_mem_cons.mpr ⟨pm_cw187, List.forall_mem_cons.mpr ⟨pm_cw188, List.forall_mem_cons.mpr ⟨pm_cw189, List.forall_mem_cons.mpr ⟨pm_cw190, List.forall_mem_cons.mpr ⟨pm_cw191, fun _ h => absurd h List.not_mem_nil⟩⟩⟩⟩⟩⟩⟩⟩⟩⟩⟩⟩⟩⟩⟩⟩
theorem pm_cwL12 : ∀ j ∈ ([192, 193, 194, 195, 196, 197, 198, 199, 200, 201, 202, 203, 204, 205, 206, 207] : List Nat), pm_cwP j := List.forall_mem_cons.mpr ⟨pm_cw192, List.forall_mem_cons.mpr ⟨pm_cw193, List.forall_mem_cons.mpr ⟨pm_cw194, List.forall_mem_cons.mpr ⟨pm_cw195, List.forall_mem_cons.mpr ⟨pm_cw196, List.forall_mem_cons.mpr ⟨pm_cw197, List.forall_mem_cons.mpr ⟨pm_cw198, List.forall_mem_cons.mpr ⟨pm_cw199, List.forall_mem_cons.mpr ⟨pm_cw200, List.forall_mem_cons.mpr ⟨pm_cw201, List.forall_mem_cons.mpr ⟨pm_cw202, List.forall_mem_cons.mpr ⟨pm_cw203, List.forall_mem_cons.mpr ⟨pm_cw204, List.forall_mem_cons.mpr ⟨pm_cw205, List.forall_mem_cons.mpr ⟨pm_cw206, List.forall_mem_cons.mpr ⟨pm_cw207, fun _ h => absurd h List.not_mem_nil⟩⟩⟩⟩⟩⟩⟩⟩⟩⟩⟩⟩⟩⟩⟩⟩
theorem pm_cwL13 : ∀ j ∈ ([208, 209, 210, 211] : List Nat), pm_cwP j := List.forall_mem_cons.mpr ⟨pm_cw208, List.forall_mem_cons.mpr ⟨pm_cw209, List.forall_mem_cons.mpr ⟨pm_cw210, List.forall_mem_cons.mpr ⟨pm_cw211, fun _ h => absurd h List.not_mem_nil⟩⟩⟩⟩
theorem pm_cw {j : Nat} (h : j < pm_cnt) : Jvm.Cond.code (pm_y j) (pm_code j) (pm_max j) (pm_rt j) ∈ lw_tbl := by
  have h : j < 212 := h
  show pm_cwP j
  by_cases h0 : j < 16
  · exact pm_cwL0 j (by simp only [List.mem_cons, List.not_mem_nil, or_false]; omega)
  by_cases h1 : j < 32
  · exact pm_cwL1 j (by simp only [List.mem_cons, List.not_mem_nil, or_false]; omega)
  by_cases h2 : j < 48
  · exact pm_cwL2 j (by simp only [List.mem_cons, List.not_mem_nil, or_false]; omega)
  by_cases h3 : j < 64
  · exact pm_cwL3 j (by simp only [List.mem_cons, List.not_mem_nil, or_false]; omega)
  by_cases h4 : j < 80
  · exact pm_cwL4 j (by simp only [List.mem_cons, List.not_mem_nil, or_false]; omega)
  by_cases h5 : j < 96
  · exact pm_cwL5 j (by simp only [List.mem_cons, List.not_mem_nil, or_false]; omega)
  by_cases h6 : j < 112
  · exact pm_cwL6 j (by simp only [List.mem_cons, List.not_mem_nil, or_false]; omega)
  by_cases h7 : j < 128
  · exact pm_cwL7 j (by simp only [List.mem_cons, List.not_mem_nil, or_false]; omega)
  by_cases h8 : j < 144
  · exact pm_cwL8 j (by simp only [List.mem_cons, List.not_mem_nil, or_false]; omega)
  by_cases h9 : j < 160
  · exact pm_cwL9 j (by simp only [List.mem_cons, List.not_mem_nil, or_false]; omega)
  by_cases h10 : j < 176
  · exact pm_cwL10 j (by simp only [List.mem_cons, List.not_mem_nil, or_false]; omega)
  by_cases h11 : j < 192
  · exact pm_cwL11 j (by simp only [List.mem_cons, List.not_mem_nil, or_false]; omega)
  by_cases h12 : j < 208
  · exact pm_cwL12 j (by simp only [List.mem_cons, List.not_mem_nil, or_false]; omega)
  by_cases h13 : j < 212
  · exact pm_cwL13 j (by simp only [List.mem_cons, List.not_mem_nil, or_false]; omega)
  omega
end
section
/-! The tables agree with the words of the claim (by the kernel, in one go a list). -/
theorem pm_mem {i : Nat} {w : Jvm.Cond} (h : lw_tbl[i]? = some w) : w ∈ lw_tbl := List.mem_of_getElem? h
/-- a field's link -/
def pm_chF (o : Nat) (x : Nat × Nat × Nat × Nat × Bool) : Bool := match pm_cl[x.2.1]? with
  | some (_, T, N) => decide (N = pm_nf x.2.1) && (decide (x.2.2.1 < N) && (decide ((T x.2.2.1).2.2.2 = pm_fin x.2.1 x.2.2.1) && ((!pm_own o x.2.1 || (decide ((T x.2.2.1).1 = pm_on o) && !x.2.2.2.2)) && (if x.2.2.2.2 then decide (lw_tbl[x.2.2.2.1]? = some (.fieldLinkNest (pm_on o) x.1 (T x.2.2.1).1 (T x.2.2.1).2.1 (T x.2.2.1).2.2.1 "BoundedSchemes")) else decide (lw_tbl[x.2.2.2.1]? = some (.fieldLink (pm_on o) x.1 (T x.2.2.1).1 (T x.2.2.1).2.1 (T x.2.2.1).2.2.1))))))
  | none => false
theorem pm_alF0 : (pm_fl 0).all (pm_chF 0) = true := by decide +kernel
theorem pm_alF1 : (pm_fl 1).all (pm_chF 1) = true := by decide +kernel
theorem pm_alF2 : (pm_fl 2).all (pm_chF 2) = true := by decide +kernel
theorem pm_alF3 : (pm_fl 3).all (pm_chF 3) = true := by decide +kernel
theorem pm_alF4 : (pm_fl 4).all (pm_chF 4) = true := by decide +kernel
theorem pm_alF5 : (pm_fl 5).all (pm_chF 5) = true := by decide +kernel
theorem pm_alF6 : (pm_fl 6).all (pm_chF 6) = true := by decide +kernel
theorem pm_alF7 : (pm_fl 7).all (pm_chF 7) = true := by decide +kernel
theorem pm_alF8 : (pm_fl 8).all (pm_chF 8) = true := by decide +kernel
theorem pm_alF9 : (pm_fl 9).all (pm_chF 9) = true := by decide +kernel
theorem pm_alF10 : (pm_fl 10).all (pm_chF 10) = true := by decide +kernel
theorem pm_alF11 : (pm_fl 11).all (pm_chF 11) = true := by decide +kernel
theorem pm_alF (o : Nat) : (pm_fl o).all (pm_chF o) = true := by
  match o with
  | 0 => exact pm_alF0
  | 1 => exact pm_alF1
  | 2 => exact pm_alF2
  | 3 => exact pm_alF3
  | 4 => exact pm_alF4
  | 5 => exact pm_alF5
  | 6 => exact pm_alF6
  | 7 => exact pm_alF7
  | 8 => exact pm_alF8
  | 9 => exact pm_alF9
  | 10 => exact pm_alF10
  | 11 => exact pm_alF11
  | n + 12 => rfl
theorem pm_okF {o i c f : Nat} (h : pm_fld o i = some (c, f)) : ∃ (C : String) (T : u_T), pm_cl[c]? = some (C, T, pm_nf c) ∧ f < pm_nf c ∧ (Jvm.Cond.fieldLink (pm_on o) i (T f).1 (T f).2.1 (T f).2.2.1 ∈ lw_tbl ∨ ∃ host, Jvm.Cond.fieldLinkNest (pm_on o) i (T f).1 (T f).2.1 (T f).2.2.1 host ∈ lw_tbl) ∧ (T f).2.2.2 = pm_fin c f ∧ (pm_own o c = true → (T f).1 = pm_on o ∧ Jvm.Cond.fieldLink (pm_on o) i (T f).1 (T f).2.1 (T f).2.2.1 ∈ lw_tbl) := by
  unfold pm_fld at h
  split at h
  · rename_i c' f' r hl
    cases h
    have h1 := List.all_eq_true.mp (pm_alF o) _ (pm_lk_mem hl)
    unfold pm_chF at h1
    simp only at h1
    split at h1
    · rename_i C T N hc
      simp only [Bool.and_eq_true, decide_eq_true_eq] at h1
      obtain ⟨rfl, h2, h3, h4, h5⟩ := h1
      refine ⟨C, T, hc, h2, ?_, h3, ?_⟩
      · split at h5
        · exact Or.inr ⟨_, pm_mem (of_decide_eq_true h5)⟩
        · exact Or.inl (pm_mem (of_decide_eq_true h5))
      · intro ho
        rw [ho] at h4
        simp only [Bool.not_true, Bool.false_or, Bool.and_eq_true, decide_eq_true_eq, Bool.not_eq_true'] at h4
        rw [h4.2] at h5
        exact ⟨h4.1, pm_mem (of_decide_eq_true (by simpa using h5))⟩
    · cases h1
  · cases h
theorem pm_chC0 : (List.range 15).all (fun k => decide (lw_tbl[pm_lx0.getD k 0]? = some (u_lay "BoundedSchemes" pm_T0 k)) && (decide (parseFieldDescriptor (pm_T0 k).2.2.1 = some (pm_ft0 k)) && (decide (pm_fk0 k = pm_ko (pm_ft0 k)) && decide (pm_fk0 k < 4)))) = true := by decide +kernel
theorem pm_chN0 : ∀ a, a < 15 → ∀ b, b < 15 → a ≠ b → (pm_T0 a).2.1 ≠ (pm_T0 b).2.1 := by decide +kernel
theorem pm_chC1 : (List.range 3).all (fun k => decide (lw_tbl[pm_lx1.getD k 0]? = some (u_lay "BoundedSchemes$KeptType" pm_T1 k)) && (decide (parseFieldDescriptor (pm_T1 k).2.2.1 = some (pm_ft1 k)) && (decide (pm_fk1 k = pm_ko (pm_ft1 k)) && decide (pm_fk1 k < 4)))) = true := by decide +kernel
theorem pm_chN1 : ∀ a, a < 3 → ∀ b, b < 3 → a ≠ b → (pm_T1 a).2.1 ≠ (pm_T1 b).2.1 := by decide +kernel
theorem pm_chC2 : (List.range 7).all (fun k => decide (lw_tbl[pm_lx2.getD k 0]? = some (u_lay "BoundedSchemes$TypeRoom" pm_T2 k)) && (decide (parseFieldDescriptor (pm_T2 k).2.2.1 = some (pm_ft2 k)) && (decide (pm_fk2 k = pm_ko (pm_ft2 k)) && decide (pm_fk2 k < 4)))) = true := by decide +kernel
theorem pm_chN2 : ∀ a, a < 7 → ∀ b, b < 7 → a ≠ b → (pm_T2 a).2.1 ≠ (pm_T2 b).2.1 := by decide +kernel
theorem pm_chC3 : (List.range 4).all (fun k => decide (lw_tbl[pm_lx3.getD k 0]? = some (u_lay "BoundedSchemes$Page" pm_T3 k)) && (decide (parseFieldDescriptor (pm_T3 k).2.2.1 = some (pm_ft3 k)) && (decide (pm_fk3 k = pm_ko (pm_ft3 k)) && decide (pm_fk3 k < 4)))) = true := by decide +kernel
theorem pm_chN3 : ∀ a, a < 4 → ∀ b, b < 4 → a ≠ b → (pm_T3 a).2.1 ≠ (pm_T3 b).2.1 := by decide +kernel
theorem pm_chC4 : (List.range 7).all (fun k => decide (lw_tbl[pm_lx4.getD k 0]? = some (u_lay "BoundedSchemes$Term" pm_T4 k)) && (decide (parseFieldDescriptor (pm_T4 k).2.2.1 = some (pm_ft4 k)) && (decide (pm_fk4 k = pm_ko (pm_ft4 k)) && decide (pm_fk4 k < 4)))) = true := by decide +kernel
theorem pm_chN4 : ∀ a, a < 7 → ∀ b, b < 7 → a ≠ b → (pm_T4 a).2.1 ≠ (pm_T4 b).2.1 := by decide +kernel
theorem pm_chC5 : (List.range 13).all (fun k => decide (lw_tbl[pm_lx5.getD k 0]? = some (u_lay "BoundedSchemes$Reader" pm_T5 k)) && (decide (parseFieldDescriptor (pm_T5 k).2.2.1 = some (pm_ft5 k)) && (decide (pm_fk5 k = pm_ko (pm_ft5 k)) && decide (pm_fk5 k < 4)))) = true := by decide +kernel
theorem pm_chN5 : ∀ a, a < 13 → ∀ b, b < 13 → a ≠ b → (pm_T5 a).2.1 ≠ (pm_T5 b).2.1 := by decide +kernel
theorem pm_chC6 : (List.range 3).all (fun k => decide (lw_tbl[pm_lx6.getD k 0]? = some (u_lay "BoundedSchemes$Checker" pm_T6 k)) && (decide (parseFieldDescriptor (pm_T6 k).2.2.1 = some (pm_ft6 k)) && (decide (pm_fk6 k = pm_ko (pm_ft6 k)) && decide (pm_fk6 k < 4)))) = true := by decide +kernel
theorem pm_chN6 : ∀ a, a < 3 → ∀ b, b < 3 → a ≠ b → (pm_T6 a).2.1 ≠ (pm_T6 b).2.1 := by decide +kernel
theorem pm_chC7 : (List.range 17).all (fun k => decide (lw_tbl[pm_lx7.getD k 0]? = some (u_lay "BoundedSchemes$Machine" pm_T7 k)) && (decide (parseFieldDescriptor (pm_T7 k).2.2.1 = some (pm_ft7 k)) && (decide (pm_fk7 k = pm_ko (pm_ft7 k)) && decide (pm_fk7 k < 4)))) = true := by decide +kernel
theorem pm_chN7 : ∀ a, a < 17 → ∀ b, b < 17 → a ≠ b → (pm_T7 a).2.1 ≠ (pm_T7 b).2.1 := by decide +kernel
theorem pm_chC8 : (List.range 5).all (fun k => decide (lw_tbl[pm_lx8.getD k 0]? = some (u_lay "BoundedSchemes$Values" pm_T8 k)) && (decide (parseFieldDescriptor (pm_T8 k).2.2.1 = some (pm_ft8 k)) && (decide (pm_fk8 k = pm_ko (pm_ft8 k)) && decide (pm_fk8 k < 4)))) = true := by decide +kernel
theorem pm_chN8 : ∀ a, a < 5 → ∀ b, b < 5 → a ≠ b → (pm_T8 a).2.1 ≠ (pm_T8 b).2.1 := by decide +kernel
theorem pm_chC9 : (List.range 66).all (fun k => decide (lw_tbl[pm_lx9.getD k 0]? = some (u_lay "BoundedSchemesModel" pm_T9 k)) && (decide (parseFieldDescriptor (pm_T9 k).2.2.1 = some (pm_ft9 k)) && (decide (pm_fk9 k = pm_ko (pm_ft9 k)) && decide (pm_fk9 k < 4)))) = true := by decide +kernel
theorem pm_chN9 : ∀ a, a < 66 → ∀ b, b < 66 → a ≠ b → (pm_T9 a).2.1 ≠ (pm_T9 b).2.1 := by decide +kernel
theorem pm_chW {C : String} {T : u_T} {N : Nat} {lx : List Nat} {ft : Nat → FieldType} {fk : Nat → Nat} (h : (List.range N).all (fun k => decide (lw_tbl[lx.getD k 0]? = some (u_lay C T k)) && (decide (parseFieldDescriptor (T k).2.2.1 = some (ft k)) && (decide (fk k = pm_ko (ft k)) && decide (fk k < 4)))) = true) : (∀ w ∈ u_ws C T N, w ∈ lw_tbl) ∧ (∀ k, k < N → parseFieldDescriptor (T k).2.2.1 = some (ft k) ∧ fk k = pm_ko (ft k) ∧ fk k < 4) := by
  rw [List.all_eq_true] at h
  refine ⟨fun w hw => ?_, fun k hk => ?_⟩
  · obtain ⟨k, hk, rfl⟩ := List.mem_map.mp hw
    have h1 := h k hk
    simp only [Bool.and_eq_true, decide_eq_true_eq] at h1
    exact pm_mem h1.1
  · have h1 := h k (List.mem_range.mpr hk)
    simp only [Bool.and_eq_true, decide_eq_true_eq] at h1
    exact h1.2
theorem pm_okC {c : Nat} {C : String} {T : u_T} {N : Nat} (h : pm_cl[c]? = some (C, T, N)) : N = pm_nf c ∧ (∀ w ∈ u_ws C T N, w ∈ lw_tbl) ∧ (∀ k, k < N → parseFieldDescriptor (T k).2.2.1 = some (pm_ft c k) ∧ pm_fk c k = pm_ko (pm_ft c k) ∧ pm_fk c k < 4) ∧ (∀ a, a < N → ∀ b, b < N → a ≠ b → (T a).2.1 ≠ (T b).2.1) ∧ Jvm.Cond.instantiable C N ∈ lw_tbl ∧ Jvm.Cond.initialized C ∈ lw_tbl := by
  match c, h with
  | 0, h => cases h; exact ⟨rfl, (pm_chW pm_chC0).1, (pm_chW pm_chC0).2, pm_chN0, pm_mem (i := 180) (by decide +kernel), pm_mem (i := 166) (by decide +kernel)⟩
  | 1, h => cases h; exact ⟨rfl, (pm_chW pm_chC1).1, (pm_chW pm_chC1).2, pm_chN1, pm_mem (i := 189) (by decide +kernel), pm_mem (i := 167) (by decide +kernel)⟩
  | 2, h => cases h; exact ⟨rfl, (pm_chW pm_chC2).1, (pm_chW pm_chC2).2, pm_chN2, pm_mem (i := 210) (by decide +kernel), pm_mem (i := 168) (by decide +kernel)⟩
  | 3, h => cases h; exact ⟨rfl, (pm_chW pm_chC3).1, (pm_chW pm_chC3).2, pm_chN3, pm_mem (i := 244) (by decide +kernel), pm_mem (i := 169) (by decide +kernel)⟩
  | 4, h => cases h; exact ⟨rfl, (pm_chW pm_chC4).1, (pm_chW pm_chC4).2, pm_chN4, pm_mem (i := 265) (by decide +kernel), pm_mem (i := 170) (by decide +kernel)⟩
  | 5, h => cases h; exact ⟨rfl, (pm_chW pm_chC5).1, (pm_chW pm_chC5).2, pm_chN5, pm_mem (i := 303) (by decide +kernel), pm_mem (i := 171) (by decide +kernel)⟩
  | 6, h => cases h; exact ⟨rfl, (pm_chW pm_chC6).1, (pm_chW pm_chC6).2, pm_chN6, pm_mem (i := 352) (by decide +kernel), pm_mem (i := 172) (by decide +kernel)⟩
  | 7, h => cases h; exact ⟨rfl, (pm_chW pm_chC7).1, (pm_chW pm_chC7).2, pm_chN7, pm_mem (i := 369) (by decide +kernel), pm_mem (i := 173) (by decide +kernel)⟩
  | 8, h => cases h; exact ⟨rfl, (pm_chW pm_chC8).1, (pm_chW pm_chC8).2, pm_chN8, pm_mem (i := 375) (by decide +kernel), pm_mem (i := 174) (by decide +kernel)⟩
  | 9, h => cases h; exact ⟨rfl, (pm_chW pm_chC9).1, (pm_chW pm_chC9).2, pm_chN9, pm_mem (i := 1044) (by decide +kernel), pm_mem (i := 175) (by decide +kernel)⟩
  | n + 10, h => simp [pm_cl] at h
theorem pm_okD {o i : Nat} {v : Int32} (h : pm_ldc o i = some v) : Jvm.Cond.constant (pm_on o) i v ∈ lw_tbl := by
  have hall : pm_dl.all (fun x => decide (lw_tbl[x.2.2]? = some (.constant (pm_on x.1.1) x.1.2 x.2.1))) = true := by decide +kernel
  unfold pm_ldc at h
  split at h
  · rename_i v' r hl
    cases h
    exact pm_mem (of_decide_eq_true (List.all_eq_true.mp hall _ (pm_lk2_mem hl)))
  · cases h
theorem pm_okN {o i c : Nat} (h : pm_new o i = some c) : ∃ (C : String) (T : u_T), pm_cl[c]? = some (C, T, pm_nf c) ∧ Jvm.Cond.classLink (pm_on o) i C ∈ lw_tbl := by
  have hall : pm_nl.all (fun x => match pm_cl[x.2.1]? with
    | some (C, _, N) => decide (N = pm_nf x.2.1) && decide (lw_tbl[x.2.2]? = some (.classLink (pm_on x.1.1) x.1.2 C))
    | none => false) = true := by decide +kernel
  unfold pm_new at h
  split at h
  · rename_i c' r hl
    cases h
    have h1 := List.all_eq_true.mp hall _ (pm_lk2_mem hl)
    simp only at h1
    split at h1
    · rename_i C T N hc
      simp only [Bool.and_eq_true, decide_eq_true_eq] at h1
      obtain ⟨rfl, h2⟩ := h1
      exact ⟨C, T, hc, pm_mem h2⟩
    · cases h1
  · cases h
theorem pm_okQ : ∃ T : u_T, pm_cl[pm_qc]? = some ("BoundedSchemes$KeptType", T, pm_nf pm_qc) := ⟨_, rfl⟩
theorem pm_okA {o i : Nat} (h : pm_anw o i = true) : Jvm.Cond.classLink (pm_on o) i "BoundedSchemes$KeptType" ∈ lw_tbl ∧ Jvm.Cond.arrayOver (.object "BoundedSchemes$KeptType") ∈ lw_tbl := by
  unfold pm_anw at h
  split at h
  · rename_i c hc
    have e := of_decide_eq_true h
    subst e
    obtain ⟨C, T, h1, h2⟩ := pm_okN hc
    obtain ⟨T2, h3⟩ := pm_okQ
    cases h1.symm.trans h3
    exact ⟨h2, pm_mem (i := 188) (by decide +kernel)⟩
  · cases h
theorem pm_okAI : Jvm.Cond.arrayClass .int ∈ lw_tbl := pm_mem (i := 208) (by decide +kernel)
theorem pm_okAC : Jvm.Cond.arrayClass .char ∈ lw_tbl := pm_mem (i := 207) (by decide +kernel)
theorem pm_okAZ : Jvm.Cond.arrayClass .boolean ∈ lw_tbl := pm_mem (i := 1248) (by decide +kernel)
theorem pm_okO1 : Jvm.Cond.instanceMethod Lib.objectInit ∈ lw_tbl := pm_mem (i := 185) (by decide +kernel)
theorem pm_okO2 : Jvm.Cond.code Lib.objectInit ⟨#[0xb1]⟩ 1 none ∈ lw_tbl := pm_mem (i := 186) (by decide +kernel)
def pm_chB (o : Nat) (x : Nat × Nat × Nat) : Bool := match x.2.1 with
  | 1 => decide (lw_tbl[x.2.2]? = some (.methodLink (pm_on o) x.1 Lib.objectInit))
  | 2 => decide (lw_tbl[x.2.2]? = some (.methodLink (pm_on o) x.1 Lib.Math.min.name))
  | 3 => decide (lw_tbl[x.2.2]? = some (.methodLink (pm_on o) x.1 arraycopyName))
  | _ => false
theorem pm_alB0 : (pm_bl 0).all (pm_chB 0) = true := by decide +kernel
theorem pm_alB1 : (pm_bl 1).all (pm_chB 1) = true := by decide +kernel
theorem pm_alB2 : (pm_bl 2).all (pm_chB 2) = true := by decide +kernel
theorem pm_alB3 : (pm_bl 3).all (pm_chB 3) = true := by decide +kernel
theorem pm_alB4 : (pm_bl 4).all (pm_chB 4) = true := by decide +kernel
theorem pm_alB5 : (pm_bl 5).all (pm_chB 5) = true := by decide +kernel
theorem pm_alB6 : (pm_bl 6).all (pm_chB 6) = true := by decide +kernel
theorem pm_alB7 : (pm_bl 7).all (pm_chB 7) = true := by decide +kernel
theorem pm_alB8 : (pm_bl 8).all (pm_chB 8) = true := by decide +kernel
theorem pm_alB9 : (pm_bl 9).all (pm_chB 9) = true := by decide +kernel
theorem pm_alB10 : (pm_bl 10).all (pm_chB 10) = true := by decide +kernel
theorem pm_alB11 : (pm_bl 11).all (pm_chB 11) = true := by decide +kernel
theorem pm_alB (o : Nat) : (pm_bl o).all (pm_chB o) = true := by
  match o with
  | 0 => exact pm_alB0
  | 1 => exact pm_alB1
  | 2 => exact pm_alB2
  | 3 => exact pm_alB3
  | 4 => exact pm_alB4
  | 5 => exact pm_alB5
  | 6 => exact pm_alB6
  | 7 => exact pm_alB7
  | 8 => exact pm_alB8
  | 9 => exact pm_alB9
  | 10 => exact pm_alB10
  | 11 => exact pm_alB11
  | n + 12 => rfl
theorem pm_biK {o i k : Nat} (h : pm_bi o i = k + 1) : ∃ r, pm_chB o (i, k + 1, r) = true := by
  unfold pm_bi at h
  split at h
  · rename_i k' r hl
    subst h
    exact ⟨_, List.all_eq_true.mp (pm_alB o) _ (pm_lk_mem hl)⟩
  · cases h
theorem pm_okO {o i : Nat} (h : pm_bi o i = 1) : Jvm.Cond.methodLink (pm_on o) i Lib.objectInit ∈ lw_tbl := by
  obtain ⟨r, h1⟩ := pm_biK (k := 0) h
  exact pm_mem (of_decide_eq_true h1)
theorem pm_okMin {o i : Nat} (h : pm_bi o i = 2) : Jvm.Cond.methodLink (pm_on o) i Lib.Math.min.name ∈ lw_tbl ∧ Jvm.Cond.static Lib.Math.min.name ∈ lw_tbl ∧ Jvm.Cond.initialized "java/lang/Math" ∈ lw_tbl ∧ Jvm.Cond.code Lib.Math.min.name Lib.Math.min.code 2 (some .int) ∈ lw_tbl := by
  obtain ⟨r, h1⟩ := pm_biK (k := 1) h
  exact ⟨pm_mem (of_decide_eq_true h1), pm_mem (i := 523) (by decide +kernel), pm_mem (i := 176) (by decide +kernel), pm_mem (i := 524) (by decide +kernel)⟩
theorem pm_okCpy {o i : Nat} (h : pm_bi o i = 3) : Jvm.Cond.methodLink (pm_on o) i arraycopyName ∈ lw_tbl ∧ Jvm.Cond.native arraycopyName ∈ lw_tbl ∧ Jvm.Cond.static arraycopyName ∈ lw_tbl ∧ Jvm.Cond.initialized "java/lang/System" ∈ lw_tbl := by
  obtain ⟨r, h1⟩ := pm_biK (k := 2) h
  exact ⟨pm_mem (of_decide_eq_true h1), pm_mem (i := 575) (by decide +kernel), pm_mem (i := 574) (by decide +kernel), pm_mem (i := 178) (by decide +kernel)⟩
def pm_chM (j : Nat) : Bool := (plainName (pm_y j).cls && (decide ((pm_y j).cls ≠ "java/lang/invoke/MethodHandle") && (decide ((pm_y j).cls ≠ "java/lang/invoke/VarHandle") && (decide ((parseMethodDescriptor (pm_y j).desc).map (fun d => d.parameters.length) = some (pm_np j)) && (decide ((pm_y j).cls = pm_on (pm_ow j)) && (decide (pm_max j ≤ 40) && (match pm_kd j with
  | 0 => decide (lw_tbl[(pm_ix j).2.1]? = some (.static (pm_y j)))
  | 1 => decide (lw_tbl[(pm_ix j).2.1]? = some (.instanceMethod (pm_y j))) && (match pm_cl[pm_mc j]? with
    | some (C, _, N) => decide (N = pm_nf (pm_mc j)) && decide (lw_tbl[(pm_ix j).2.2]? = some (.selects C (pm_y j) (pm_y j)))
    | none => false)
  | 2 => decide (lw_tbl[(pm_ix j).2.1]? = some (.instanceMethod (pm_y j))) && (decide ((pm_y j).name = "<init>") && decide (pm_rt j = none))
  | _ => false)))))))
def pm_chR (j : Nat) : Bool := match pm_rk j with
  | 0 => decide (pm_rt j = none)
  | 1 => decide (pm_rt j = some .int)
  | 2 => decide (pm_rt j = some .boolean)
  | 3 => decide (pm_rt j = some (.array .int))
  | 4 => decide (pm_rt j = some .char)
  | _ => false
/-- classes that are initialised -/
def pm_ii (o : Nat) : Nat := ([166, 167, 168, 169, 170, 171, 172, 173, 174, 175, 165, 177] : List Nat).getD o 0
def pm_chI : Bool := (List.range 12).all (fun o => decide (lw_tbl[pm_ii o]? = some (.initialized (pm_on o))))
theorem pm_chI_ok : pm_chI = true := by decide +kernel
theorem pm_chR_ok : (List.range (pm_cnt + 1)).all pm_chR = true := by decide +kernel
theorem pm_chO_ok : (List.range (pm_cnt + 1)).all (fun j => decide (pm_ow j < 12)) = true := by decide +kernel
theorem pm_alM0 : (List.range 20).all (fun k => pm_chM (0 + k)) = true := by decide +kernel
theorem pm_alM1 : (List.range 20).all (fun k => pm_chM (20 + k)) = true := by decide +kernel
theorem pm_alM2 : (List.range 20).all (fun k => pm_chM (40 + k)) = true := by decide +kernel
theorem pm_alM3 : (List.range 20).all (fun k => pm_chM (60 + k)) = true := by decide +kernel
theorem pm_alM4 : (List.range 20).all (fun k => pm_chM (80 + k)) = true := by decide +kernel
theorem pm_alM5 : (List.range 20).all (fun k => pm_chM (100 + k)) = true := by decide +kernel
theorem pm_alM6 : (List.range 20).all (fun k => pm_chM (120 + k)) = true := by decide +kernel
theorem pm_alM7 : (List.range 20).all (fun k => pm_chM (140 + k)) = true := by decide +kernel
theorem pm_alM8 : (List.range 20).all (fun k => pm_chM (160 + k)) = true := by decide +kernel
theorem pm_alM9 : (List.range 20).all (fun k => pm_chM (180 + k)) = true := by decide +kernel
theorem pm_alM10 : (List.range 12).all (fun k => pm_chM (200 + k)) = true := by decide +kernel
theorem pm_alM {j : Nat} (h : j < pm_cnt) : pm_chM j = true := by
  have h : j < 212 := h
  by_cases h0 : j < 20
  · have := List.all_eq_true.mp pm_alM0 (j - 0) (List.mem_range.mpr (by omega))
    rw [show 0 + (j - 0) = j by omega] at this
    exact this
  by_cases h1 : j < 40
  · have := List.all_eq_true.mp pm_alM1 (j - 20) (List.mem_range.mpr (by omega))
    rw [show 20 + (j - 20) = j by omega] at this
    exact this
  by_cases h2 : j < 60
  · have := List.all_eq_true.mp pm_alM2 (j - 40) (List.mem_range.mpr (by omega))
    rw [show 40 + (j - 40) = j by omega] at this
    exact this
  by_cases h3 : j < 80
  · have := List.all_eq_true.mp pm_alM3 (j - 60) (List.mem_range.mpr (by omega))
    rw [show 60 + (j - 60) = j by omega] at this
    exact this
  by_cases h4 : j < 100
  · have := List.all_eq_true.mp pm_alM4 (j - 80) (List.mem_range.mpr (by omega))
    rw [show 80 + (j - 80) = j by omega] at this
    exact this
  by_cases h5 : j < 120
  · have := List.all_eq_true.mp pm_alM5 (j - 100) (List.mem_range.mpr (by omega))
    rw [show 100 + (j - 100) = j by omega] at this
    exact this
  by_cases h6 : j < 140
  · have := List.all_eq_true.mp pm_alM6 (j - 120) (List.mem_range.mpr (by omega))
    rw [show 120 + (j - 120) = j by omega] at this
    exact this
  by_cases h7 : j < 160
  · have := List.all_eq_true.mp pm_alM7 (j - 140) (List.mem_range.mpr (by omega))
    rw [show 140 + (j - 140) = j by omega] at this
    exact this
  by_cases h8 : j < 180
  · have := List.all_eq_true.mp pm_alM8 (j - 160) (List.mem_range.mpr (by omega))
    rw [show 160 + (j - 160) = j by omega] at this
    exact this
  by_cases h9 : j < 200
  · have := List.all_eq_true.mp pm_alM9 (j - 180) (List.mem_range.mpr (by omega))
    rw [show 180 + (j - 180) = j by omega] at this
    exact this
  by_cases h10 : j < 212
  · have := List.all_eq_true.mp pm_alM10 (j - 200) (List.mem_range.mpr (by omega))
    rw [show 200 + (j - 200) = j by omega] at this
    exact this
  omega
theorem pm_okI {o : Nat} (h : o < 12) : Jvm.Cond.initialized (pm_on o) ∈ lw_tbl := pm_mem (of_decide_eq_true (List.all_eq_true.mp pm_chI_ok o (List.mem_range.mpr h)))
theorem pm_okM {j : Nat} (h : j < pm_cnt) : Jvm.Cond.code (pm_y j) (pm_code j) (pm_max j) (pm_rt j) ∈ lw_tbl ∧ plainName (pm_y j).cls = true ∧ Jvm.Cond.initialized (pm_y j).cls ∈ lw_tbl ∧ ((pm_y j).cls ≠ "java/lang/invoke/MethodHandle" ∧ (pm_y j).cls ≠ "java/lang/invoke/VarHandle") ∧ (∀ sig, parseMethodDescriptor (pm_y j).desc = some sig → pm_np j = sig.parameters.length) ∧ (pm_y j).cls = pm_on (pm_ow j) ∧ (pm_kd j ≠ 0 → Jvm.Cond.instanceMethod (pm_y j) ∈ lw_tbl) ∧ (pm_kd j = 0 → Jvm.Cond.static (pm_y j) ∈ lw_tbl) ∧ (pm_kd j = 1 → ∃ (C : String) (T : u_T), pm_cl[pm_mc j]? = some (C, T, pm_nf (pm_mc j)) ∧ Jvm.Cond.selects C (pm_y j) (pm_y j) ∈ lw_tbl) ∧ (pm_kd j = 2 → (pm_y j).name = "<init>" ∧ pm_rt j = none) ∧ pm_max j ≤ 40 ∧ ((pm_rk j = 0 → pm_rt j = none) ∧ (pm_rk j = 1 → pm_rt j = some .int) ∧ (pm_rk j = 2 → pm_rt j = some .boolean) ∧ (pm_rk j = 3 → ∃ rt, pm_rt j = some rt ∧ ((∃ n, rt = .object n) ∨ ∃ t, rt = .array t)) ∧ (pm_rk j = 4 → pm_rt j = some .char)) := by
  have hm := pm_alM h
  have hr := List.all_eq_true.mp pm_chR_ok j (List.mem_range.mpr (by omega))
  have ho := of_decide_eq_true (List.all_eq_true.mp pm_chO_ok j (List.mem_range.mpr (by omega)))
  unfold pm_chM at hm
  simp only [Bool.and_eq_true, decide_eq_true_eq] at hm
  obtain ⟨h2, h3, h4, h5, h6, h7, h8⟩ := hm
  refine ⟨pm_cw h, h2, by rw [h6]; exact pm_okI ho, ⟨h3, h4⟩, fun sig hs => ?_, h6, fun hk => ?_, fun hk => ?_, fun hk => ?_, fun hk => ?_, h7, fun hk => ?_, fun hk => ?_, fun hk => ?_, fun hk => ?_, fun hk => ?_⟩
  · rw [hs] at h5
    exact (Option.some.inj h5).symm
  · split at h8
    · rename_i e; exact absurd e hk
    · simp only [Bool.and_eq_true, decide_eq_true_eq] at h8; exact pm_mem h8.1
    · simp only [Bool.and_eq_true, decide_eq_true_eq] at h8; exact pm_mem h8.1
    · cases h8
  · rw [hk] at h8
    exact pm_mem (of_decide_eq_true h8)
  · rw [hk] at h8
    simp only [Bool.and_eq_true] at h8
    obtain ⟨-, h9⟩ := h8
    split at h9
    · rename_i C T N hc
      simp only [Bool.and_eq_true, decide_eq_true_eq] at h9
      obtain ⟨rfl, h10⟩ := h9
      exact ⟨C, T, hc, pm_mem h10⟩
    · cases h9
  · rw [hk] at h8
    simp only [Bool.and_eq_true, decide_eq_true_eq] at h8
    exact h8.2
  all_goals (unfold pm_chR at hr; rw [hk] at hr; have hr := of_decide_eq_true hr; first | exact hr | exact ⟨_, hr, Or.inr ⟨_, rfl⟩⟩)
def pm_chL (o : Nat) (x : Nat × Nat × Nat × Bool) : Bool := decide (x.2.1 < pm_cnt) && (if x.2.2.2 then decide (lw_tbl[x.2.2.1]? = some (.methodLinkNest (pm_on o) x.1 (pm_y x.2.1) "BoundedSchemes")) else decide (lw_tbl[x.2.2.1]? = some (.methodLink (pm_on o) x.1 (pm_y x.2.1))))
theorem pm_alL0 : (pm_ml 0).all (pm_chL 0) = true := by decide +kernel
theorem pm_alL1 : (pm_ml 1).all (pm_chL 1) = true := by decide +kernel
theorem pm_alL2 : (pm_ml 2).all (pm_chL 2) = true := by decide +kernel
theorem pm_alL3 : (pm_ml 3).all (pm_chL 3) = true := by decide +kernel
theorem pm_alL4 : (pm_ml 4).all (pm_chL 4) = true := by decide +kernel
theorem pm_alL5 : (pm_ml 5).all (pm_chL 5) = true := by decide +kernel
theorem pm_alL6 : (pm_ml 6).all (pm_chL 6) = true := by decide +kernel
theorem pm_alL7 : (pm_ml 7).all (pm_chL 7) = true := by decide +kernel
theorem pm_alL8 : (pm_ml 8).all (pm_chL 8) = true := by decide +kernel
theorem pm_alL9 : (pm_ml 9).all (pm_chL 9) = true := by decide +kernel
theorem pm_alL10 : (pm_ml 10).all (pm_chL 10) = true := by decide +kernel
theorem pm_alL11 : (pm_ml 11).all (pm_chL 11) = true := by decide +kernel
theorem pm_alL (o : Nat) : (pm_ml o).all (pm_chL o) = true := by
  match o with
  | 0 => exact pm_alL0
  | 1 => exact pm_alL1
  | 2 => exact pm_alL2
  | 3 => exact pm_alL3
  | 4 => exact pm_alL4
  | 5 => exact pm_alL5
  | 6 => exact pm_alL6
  | 7 => exact pm_alL7
  | 8 => exact pm_alL8
  | 9 => exact pm_alL9
  | 10 => exact pm_alL10
  | 11 => exact pm_alL11
  | n + 12 => rfl
theorem pm_okL {o i j : Nat} (h : pm_mth o i = some j) : j < pm_cnt ∧ (Jvm.Cond.methodLink (pm_on o) i (pm_y j) ∈ lw_tbl ∨ ∃ host, Jvm.Cond.methodLinkNest (pm_on o) i (pm_y j) host ∈ lw_tbl) := by
  unfold pm_mth at h
  split at h
  · rename_i j' r hl
    cases h
    have h1 := List.all_eq_true.mp (pm_alL o) _ (pm_lk_mem hl)
    unfold pm_chL at h1
    simp only [Bool.and_eq_true, decide_eq_true_eq] at h1
    refine ⟨h1.1, ?_⟩
    have h2 := h1.2
    split at h2
    · exact Or.inr ⟨_, pm_mem (of_decide_eq_true h2)⟩
    · exact Or.inl (pm_mem (of_decide_eq_true h2))
  · cases h
end
section
/-! THE PICTURE MACHINE: the same bytecode, run over a picture of the heap: a cell is its place (1, 2, .. in the order of making; 0 is the script), its ints and its references are rows of functions. -/
/-- ints, references (0: null), kinds (below 10: an array; 10 + c: an object of class c), lengths, how many cells, how many slots -/
abbrev pm_S : Type := (Nat → Nat → Int32) × (Nat → Nat → Nat) × (Nat → Nat) × (Nat → Nat) × Nat × Nat
abbrev pm_L : Type := List (Option Value)
/-- the script: its length and its ints; only the law's own frame has it -/
abbrev pm_X : Type := Option (Nat × (Nat → Int32))
abbrev pm_R : Type := Option (Option Value × pm_S)
abbrev pm_O : Type := Nat → List Value → pm_S → pm_R
abbrev pm_N : Type := Option (Nat × pm_L × List Value × pm_S)
def pm_u {α : Type} (f : Nat → α) (p : Nat) (v : α) : Nat → α := fun q => if q = p then v else f q
theorem pm_us {α : Type} (f : Nat → α) (p : Nat) (v : α) : pm_u f p v p = v := by simp [pm_u]
theorem pm_un {α : Type} (f : Nat → α) {p q : Nat} (v : α) (h : q ≠ p) : pm_u f p v q = f q := by simp [pm_u, h]
def pm_ld (ls : pm_L) (i : Nat) : Option Value := match ls[i]? with
  | some (some (.int x)) => some (.int x)
  | some (some (.ref x)) => some (.ref x)
  | _ => none
def pm_vc (v : Value) : Bool := match v with
  | .int _ => true
  | .ref _ => true
  | .null => true
  | _ => false
def pm_bin (i : Jvm.ClassFile.Instr) (x y : Int32) : Option Int32 := match i with
  | .iadd => some (x + y)
  | .isub => some (x - y)
  | .imul => some (x * y)
  | .iand => some (x &&& y)
  | .ior => some (x ||| y)
  | .ixor => some (x ^^^ y)
  | .ishl => some (x <<< (y &&& 31))
  | .ishr => some (x >>> (y &&& 31))
  | .iushr => some ((x.toUInt32 >>> (y.toUInt32 &&& Int32.toUInt32 31)).toInt32)
  | .idiv => if y = 0 then none else some (x / y)
  | .irem => if y = 0 then none else some (x - x / y * y)
  | _ => none
def pm_cmp (c : Jvm.ClassFile.Cond) (x y : Int32) : Bool := match c with
  | .eq => decide (x = y)
  | .ne => !decide (x = y)
  | .lt => decide (x < y)
  | .ge => decide (y ≤ x)
  | .gt => decide (y < x)
  | .le => decide (x ≤ y)
def pm_tgt (pc : Nat) (off : Int) : Nat := ((pc : Int) + off).toNat
def pm_tok (pc : Nat) (off : Int) : Bool := decide (0 ≤ (pc : Int) + off)
/-- a reference field's value -/
def pm_rv (r : Nat) : Value := if r = 0 then .null else .ref r
/-- where a value of that kind of field may go in: an int's (0), a boolean's (1) -/
def pm_fi (k : Nat) (x : Int32) : Bool := match k with
  | 0 => true
  | 1 => decide (x = 0) || decide (x = 1)
  | _ => false
def pm_inb (i : Int32) (n : Nat) : Bool := decide (¬ i < 0) && decide (i.toNatClampNeg < n)
/-- the stack alone -/
def pm_stk (i : Jvm.ClassFile.Instr) (st : List Value) : Option (List Value) := match i with
  | .iconst k => some (.int (Int32.ofInt k) :: st)
  | .dup => match st with
    | a :: st => if pm_vc a then some (a :: a :: st) else none
    | _ => none
  | .pop => match st with
    | a :: st => if pm_vc a then some st else none
    | _ => none
  | .dup_x1 => match st with
    | a :: b :: st => if pm_vc a && pm_vc b then some (a :: b :: a :: st) else none
    | _ => none
  | .dup_x2 => match st with
    | a :: b :: d :: st => if pm_vc a && (pm_vc b && pm_vc d) then some (a :: b :: d :: a :: st) else none
    | _ => none
  | .dup2 => match st with
    | a :: b :: st => if pm_vc a && pm_vc b then some (a :: b :: a :: b :: st) else none
    | _ => none
  | .ineg => match st with
    | .int x :: st => some (.int (-x) :: st)
    | _ => none
  | .i2c => match st with
    | .int x :: st => some (.int ((x.toUInt32 % 65536).toInt32) :: st)
    | _ => none
  | .aconst_null => some (.null :: st)
  | _ => match st with
    | .int y :: .int x :: st => match pm_bin i x y with
      | some z => some (.int z :: st)
      | none => none
    | _ => none
/-- a jump: where to, and the stack behind it -/
def pm_jmp (pc len : Nat) (i : Jvm.ClassFile.Instr) (st : List Value) : Option (Nat × List Value) := match i with
  | .ifCond c off => match st with
    | .int x :: st => if len = 3 && pm_tok pc off then some (if pm_cmp c x 0 then (pm_tgt pc off, st) else (pc + 3, st)) else none
    | _ => none
  | .if_icmp c off => match st with
    | .int y :: .int x :: st => if len = 3 && pm_tok pc off then some (if pm_cmp c x y then (pm_tgt pc off, st) else (pc + 3, st)) else none
    | _ => none
  | .goto off => if len = 3 && pm_tok pc off then some (pm_tgt pc off, st) else none
  | .tableswitch dflt lo hi offs => match st with
    | .int x :: st => if decide (x.toInt < lo) || decide (hi < x.toInt) then (if pm_tok pc dflt then some (pm_tgt pc dflt, st) else none) else (match offs[(x.toInt - lo).toNat]? with
      | some off => if pm_tok pc off then some (pm_tgt pc off, st) else none
      | none => none)
    | _ => none
  | .lookupswitch dflt ps => match st with
    | .int x :: st => if (ps.toList.zip (ps.toList.drop 1)).all (fun (a, next) => a.1 < next.1) && pm_tok pc (Op.lookupswitch.offset ps.toList dflt x.toInt) then some (pm_tgt pc (Op.lookupswitch.offset ps.toList dflt x.toInt), st) else none
    | _ => none
  | _ => none
/-- a local that is written: which, with what, and the stack behind it -/
def pm_loc (i : Jvm.ClassFile.Instr) (ls : pm_L) (st : List Value) : Option (Nat × Value × List Value) := match i with
  | .istore k => match st with
    | .int x :: st => some (k, .int x, st)
    | _ => none
  | .istore_n k => match st with
    | .int x :: st => some (k.val, .int x, st)
    | _ => none
  | .astore k => match st with
    | .ref x :: st => some (k, .ref x, st)
    | _ => none
  | .astore_n k => match st with
    | .ref x :: st => some (k.val, .ref x, st)
    | _ => none
  | .iinc k n => match pm_ld ls k with
    | some (.int x) => some (k, .int (x + Int32.ofInt n), st)
    | _ => none
  | _ => none
/-- what is pushed: locals, constants, fields, elements, lengths -/
def pm_rd (X : pm_X) (o : Nat) (i : Jvm.ClassFile.Instr) (ls : pm_L) (st : List Value) (σ : pm_S) : Option (Value × List Value) := match i with
  | .bipush k => some (.int (Int8.ofInt k).toInt32, st)
  | .sipush k => some (.int (Int16.ofInt k).toInt32, st)
  | .ldc k => match pm_ldc o k with
    | some v => some (.int v, st)
    | none => none
  | .iload k => match pm_ld ls k with
    | some (.int x) => some (.int x, st)
    | _ => none
  | .iload_n k => match pm_ld ls k.val with
    | some (.int x) => some (.int x, st)
    | _ => none
  | .aload k => match pm_ld ls k with
    | some (.ref x) => some (.ref x, st)
    | _ => none
  | .aload_n k => match pm_ld ls k.val with
    | some (.ref x) => some (.ref x, st)
    | _ => none
  | .getfield k => match st with
    | .ref p :: st => match pm_fld o k with
      | some (c, f) => if decide (1 ≤ p) && (decide (p ≤ σ.2.2.2.2.1) && decide (σ.2.2.1 p = 10 + c)) then some (if pm_fk c f = 3 then pm_rv (σ.2.1 p f) else .int (σ.1 p f), st) else none
      | none => none
    | _ => none
  | .iaload => match st with
    | .int j :: .ref p :: st => if p = 0 then (match X with
      | some x => if pm_inb j x.1 then some (.int (x.2 j.toNatClampNeg), st) else none
      | none => none) else if decide (p ≤ σ.2.2.2.2.1) && (decide (σ.2.2.1 p = 0) && pm_inb j (σ.2.2.2.1 p)) then some (.int (σ.1 p j.toNatClampNeg), st) else none
    | _ => none
  | .caload => match st with
    | .int j :: .ref p :: st => if decide (1 ≤ p) && (decide (p ≤ σ.2.2.2.2.1) && (decide (σ.2.2.1 p = 1) && pm_inb j (σ.2.2.2.1 p))) then some (.int (σ.1 p j.toNatClampNeg), st) else none
    | _ => none
  | .baload => match st with
    | .int j :: .ref p :: st => if decide (1 ≤ p) && (decide (p ≤ σ.2.2.2.2.1) && (decide (σ.2.2.1 p = 2) && pm_inb j (σ.2.2.2.1 p))) then some (.int (σ.1 p j.toNatClampNeg), st) else none
    | _ => none
  | .aaload => match st with
    | .int j :: .ref p :: st => if decide (1 ≤ p) && (decide (p ≤ σ.2.2.2.2.1) && (decide (σ.2.2.1 p = 3) && pm_inb j (σ.2.2.2.1 p))) then some (pm_rv (σ.2.1 p j.toNatClampNeg), st) else none
    | _ => none
  | .arraylength => match st with
    | .ref p :: st => if p = 0 then (match X with
      | some x => some (.int (Int32.ofNat x.1), st)
      | none => none) else if decide (p ≤ σ.2.2.2.2.1) && decide (σ.2.2.1 p < pm_nk) then some (.int (Int32.ofNat (σ.2.2.2.1 p)), st) else none
    | _ => none
  | _ => none
/-- a cell that is written: the picture and the stack behind it -/
def pm_wr (o kd : Nat) (i : Jvm.ClassFile.Instr) (st : List Value) (σ : pm_S) : Option (pm_S × List Value) := match i with
  | .putfield k => match st with
    | .int x :: .ref p :: st => match pm_fld o k with
      | some (c, f) => if decide (1 ≤ p) && (decide (p ≤ σ.2.2.2.2.1) && (decide (σ.2.2.1 p = 10 + c) && (pm_fi (pm_fk c f) x && (!pm_fin c f || (decide (kd = 2) && pm_own o c))))) then some ((pm_u σ.1 p (upd (σ.1 p) f x), σ.2), st) else none
      | none => none
    | .ref x :: .ref p :: st => match pm_fld o k with
      | some (c, f) => if decide (1 ≤ p) && (decide (p ≤ σ.2.2.2.2.1) && (decide (σ.2.2.1 p = 10 + c) && (decide (1 ≤ x) && (decide (pm_fk c f = 3) && (!pm_fin c f || (decide (kd = 2) && pm_own o c)))))) then some ((σ.1, pm_u σ.2.1 p (pm_u (σ.2.1 p) f x), σ.2.2), st) else none
      | none => none
    | _ => none
  | .iastore => match st with
    | .int x :: .int j :: .ref p :: st => if decide (1 ≤ p) && (decide (p ≤ σ.2.2.2.2.1) && (decide (σ.2.2.1 p = 0) && pm_inb j (σ.2.2.2.1 p))) then some ((pm_u σ.1 p (upd (σ.1 p) j.toNatClampNeg x), σ.2), st) else none
    | _ => none
  | .castore => match st with
    | .int x :: .int j :: .ref p :: st => if decide (1 ≤ p) && (decide (p ≤ σ.2.2.2.2.1) && (decide (σ.2.2.1 p = 1) && pm_inb j (σ.2.2.2.1 p))) then some ((pm_u σ.1 p (upd (σ.1 p) j.toNatClampNeg (vp_nar .char x)), σ.2), st) else none
    | _ => none
  | .bastore => match st with
    | .int x :: .int j :: .ref p :: st => if decide (1 ≤ p) && (decide (p ≤ σ.2.2.2.2.1) && (decide (σ.2.2.1 p = 2) && pm_inb j (σ.2.2.2.1 p))) then some ((pm_u σ.1 p (upd (σ.1 p) j.toNatClampNeg (vp_nar .boolean x)), σ.2), st) else none
    | _ => none
  | .aastore => match st with
    | .ref x :: .int j :: .ref p :: st => if decide (1 ≤ p) && (decide (p ≤ σ.2.2.2.2.1) && (decide (σ.2.2.1 p = 3) && (pm_inb j (σ.2.2.2.1 p) && (decide (1 ≤ x) && (decide (x ≤ σ.2.2.2.2.1) && decide (σ.2.2.1 x = 10 + pm_qc)))))) then some ((σ.1, pm_u σ.2.1 p (pm_u (σ.2.1 p) j.toNatClampNeg x), σ.2.2), st) else none
    | _ => none
  | _ => none
/-- a cell that is made: its kind, its length (an object: 0), its slots, the stack behind it -/
def pm_mk (o : Nat) (i : Jvm.ClassFile.Instr) (st : List Value) : Option (Nat × Nat × Nat × List Value) := match i with
  | .new k => match pm_new o k with
    | some c => some (10 + c, 0, pm_nf c, st)
    | none => none
  | .newarray .int => match st with
    | .int n :: st => if decide (¬ n < 0) && decide (n.toNatClampNeg ≤ 100000) then some (0, n.toNatClampNeg, n.toNatClampNeg, st) else none
    | _ => none
  | .newarray .char => match st with
    | .int n :: st => if decide (¬ n < 0) && decide (n.toNatClampNeg ≤ 100000) then some (1, n.toNatClampNeg, n.toNatClampNeg, st) else none
    | _ => none
  | .newarray .boolean => match st with
    | .int n :: st => if decide (¬ n < 0) && decide (n.toNatClampNeg ≤ 100000) then some (2, n.toNatClampNeg, n.toNatClampNeg, st) else none
    | _ => none
  | .anewarray k => match st with
    | .int n :: st => if pm_anw o k && (decide (¬ n < 0) && decide (n.toNatClampNeg ≤ 100000)) then some (3, n.toNatClampNeg, n.toNatClampNeg, st) else none
    | _ => none
  | _ => none
/-- the picture behind a making -/
def pm_mkS (σ : pm_S) (k len sl : Nat) : pm_S := (pm_u σ.1 (σ.2.2.2.2.1 + 1) (fun _ => 0), pm_u σ.2.1 (σ.2.2.2.2.1 + 1) (fun _ => 0), pm_u σ.2.2.1 (σ.2.2.2.2.1 + 1) k, pm_u σ.2.2.2.1 (σ.2.2.2.2.1 + 1) len, σ.2.2.2.2.1 + 1, σ.2.2.2.2.2 + sl)
def pm_len (i : Jvm.ClassFile.Instr) : Nat := match i with
  | .bipush _ => 2
  | .sipush _ => 3
  | .ldc _ => 2
  | .iload _ => 2
  | .aload _ => 2
  | .istore _ => 2
  | .astore _ => 2
  | .iinc _ _ => 3
  | .getfield _ => 3
  | .putfield _ => 3
  | .new _ => 3
  | .newarray _ => 2
  | .anewarray _ => 3
  | .invokevirtual _ => 3
  | .invokespecial _ => 3
  | .invokestatic _ => 3
  | _ => 1
/-- the methods of the JDK that the machine knows by itself: Object() (1), Math.min (2), System.arraycopy of ints (3) -/
def pm_jdk (o : Nat) (i : Jvm.ClassFile.Instr) (st : List Value) (σ : pm_S) : Option (pm_S × List Value) := match i with
  | .invokespecial k => if pm_bi o k = 1 then (match st with
    | .ref _ :: st => if decide (st.length ≤ 8) && st.all pm_vc then some (σ, st) else none
    | _ => none) else none
  | .invokestatic k => if pm_bi o k = 2 then (match st with
    | .int y :: .int x :: st => if decide (st.length ≤ 8) && st.all pm_vc then some (σ, .int (if y < x then y else x) :: st) else none
    | _ => none) else if pm_bi o k = 3 then (match st with
    | .int n :: .int dp :: .ref q :: .int sp :: .ref p :: st => if decide (st.length ≤ 8) && (st.all pm_vc && (decide (1 ≤ p) && (decide (p ≤ σ.2.2.2.2.1) && (decide (σ.2.2.1 p = 0) && (decide (1 ≤ q) && (decide (q ≤ σ.2.2.2.2.1) && (decide (σ.2.2.1 q = 0) && (decide (¬ sp < 0) && (decide (¬ dp < 0) && (decide (¬ n < 0) && (decide (sp.toNatClampNeg + n.toNatClampNeg ≤ σ.2.2.2.1 p) && decide (dp.toNatClampNeg + n.toNatClampNeg ≤ σ.2.2.2.1 q)))))))))))) then some ((pm_u σ.1 q (va_cpy (σ.1 p) (σ.1 q) sp.toNatClampNeg dp.toNatClampNeg n.toNatClampNeg), σ.2), st) else none
    | _ => none) else none
  | _ => none
/-- one instruction that is neither a call of a method nor a return -/
def pm_step (X : pm_X) (o kd pc len : Nat) (i : Jvm.ClassFile.Instr) (ls : pm_L) (st : List Value) (σ : pm_S) : pm_N :=
  match pm_jmp pc len i st with
  | some (t, st') => some (t, ls, st', σ)
  | none => if len = pm_len i then (match pm_rd X o i ls st σ with
    | some (v, st') => some (pc + pm_len i, ls, v :: st', σ)
    | none => match pm_loc i ls st with
      | some (k, v, st') => if k < ls.length then some (pc + pm_len i, ls.set k (some v), st', σ) else none
      | none => match pm_wr o kd i st σ with
        | some (σ', st') => some (pc + pm_len i, ls, st', σ')
        | none => match pm_mk o i st with
          | some (k, n, sl, st') => some (pc + pm_len i, ls, .ref (σ.2.2.2.2.1 + 1) :: st', pm_mkS σ k n sl)
          | none => match pm_jdk o i st σ with
            | some (σ', st') => some (pc + pm_len i, ls, st', σ')
            | none => match pm_stk i st with
              | some st' => some (pc + pm_len i, ls, st', σ)
              | none => none) else none
/-- a call: which method, its arguments, the rest of the stack -/
def pm_inv (o : Nat) (i : Jvm.ClassFile.Instr) (st : List Value) (σ : pm_S) : Option (Nat × List Value × List Value) := match i with
  | .invokevirtual k => match pm_mth o k with
    | some j => match st.drop (pm_np j) with
      | .ref p :: rest => if decide (pm_kd j = 1) && (decide (pm_np j ≤ st.length) && (decide (1 ≤ p) && (decide (p ≤ σ.2.2.2.2.1) && (decide (σ.2.2.1 p = 10 + pm_mc j) && (decide (rest.length ≤ 8) && st.all pm_vc))))) then some (j, .ref p :: (st.take (pm_np j)).reverse, rest) else none
      | _ => none
    | none => none
  | .invokespecial k => match pm_mth o k with
    | some j => match st.drop (pm_np j) with
      | .ref p :: rest => if decide (pm_kd j = 2) && (decide (pm_np j ≤ st.length) && (decide (1 ≤ p) && (decide (rest.length ≤ 8) && st.all pm_vc))) then some (j, .ref p :: (st.take (pm_np j)).reverse, rest) else none
      | _ => none
    | none => none
  | .invokestatic k => match pm_mth o k with
    | some j => if decide (pm_kd j = 0) && (decide (pm_np j ≤ st.length) && (decide ((st.drop (pm_np j)).length ≤ 8) && st.all pm_vc)) then some (j, (st.take (pm_np j)).reverse, st.drop (pm_np j)) else none
    | none => none
  | _ => none
/-- a return: its answer -/
def pm_ret (rk : Nat) (i : Jvm.ClassFile.Instr) (st : List Value) : Option (Option Value) := match i with
  | .return_ => if rk = 0 then (match st with
    | [] => some none
    | _ => none) else none
  | .ireturn => if rk = 1 then (match st with
    | [.int x] => some (some (.int x))
    | _ => none) else if rk = 2 then (match st with
    | [.int x] => if decide (x = 0) || decide (x = 1) then some (some (.int x)) else none
    | _ => none) else if rk = 4 then (match st with
    | [.int x] => if decide (¬ x < 0) && decide (x ≤ 65535) then some (some (.int x)) else none
    | _ => none) else none
  | .areturn => if rk = 3 then (match st with
    | [.ref x] => some (some (.ref x))
    | _ => none) else none
  | _ => none
def pm_exec (X : pm_X) (C : pm_O) : Nat → Nat → Nat → pm_L → List Value → pm_S → pm_R
  | 0, _, _, _, _, _ => none
  | f + 1, mi, pc, ls, st, σ => match decode (pm_code mi) pc with
    | .ok (i, len) => match pm_ret (pm_rk mi) i st with
      | some r => if len = 1 then some (r, σ) else none
      | none => match pm_inv (pm_ow mi) i st σ with
        | some (j, as, rest) => if len = 3 then (match C j as σ with
          | some (r, σ') => pm_exec X C f mi (pc + 3) ls (r.toList ++ rest) σ'
          | none => none) else none
        | none => match pm_step X (pm_ow mi) (pm_kd mi) pc len i ls st σ with
          | some (pc', ls', st', σ') => pm_exec X C f mi pc' ls' st' σ'
          | none => none
    | .error _ => none
def pm_in (j : Nat) (as : List Value) : pm_L := as.map some ++ List.replicate (pm_max j - as.length) none
def pm_call (F : Nat) : Nat → pm_O
  | 0 => fun _ _ _ => none
  | d + 1 => fun j as σ => if decide (j < pm_cnt) && (decide (as.length ≤ pm_max j) && as.all pm_vc) then pm_exec none (pm_call F d) F j 0 (pm_in j as) [] σ else none
end
section
/-! THE PICTURE AND THE MACHINE'S HEAP: what it is that a heap holds a picture. -/
def pm_ok (w : Jvm.Cond) : Bool := goodWord w || (match w with
  | .fieldLinkNest .. => true
  | .methodLinkNest .. => true
  | .arrayOver (.object _) => true
  | _ => false)
def pm_Tb (U : State) : Prop := ∀ w ∈ lw_tbl, pm_ok w = true → ∀ a : Array Value, w.before a U = true
theorem pm_Tb.moved {s U : State} (hW : s.WarmedH U.vm) (h : pm_Tb s) : pm_Tb U := by
  intro w hw hk a
  by_cases hg : goodWord w = true
  · exact word_at hW (good_of_word hg) (h w hw hk a)
  · have hb := h w hw hk #[]
    simp only [pm_ok, Bool.eq_false_iff.mpr hg, Bool.false_or] at hk
    split at hk
    · exact va_Nw.use rfl (va_Nw.warmF hW hb)
    · exact va_Nw.use rfl (va_Nw.warmM hW hb)
    · exact va_AO.use (va_AO.moved hW.alike hb)
    · cases hk
/-- the address of a place -/
def pm_a (b : Nat) (HL : Heap) (p : Nat) : Nat := if p = 0 then b else HL.size + (p - 1)
theorem pm_a_pos {b : Nat} {HL : Heap} {p : Nat} (h : 1 ≤ p) : pm_a b HL p = HL.size + (p - 1) := by
  unfold pm_a
  rw [if_neg (by omega)]
def pm_v (b : Nat) (HL : Heap) (v : Value) : Value := match v with
  | .ref p => .ref (pm_a b HL p)
  | .int x => .int x
  | .null => .null
  | .long x => .long x
  | .float x => .float x
  | .double x => .double x
  | .retAddr x => .retAddr x
theorem pm_v_cat (b : Nat) (HL : Heap) (v : Value) : (pm_v b HL v).category = v.category := by cases v <;> rfl
theorem pm_vc_cat {v : Value} (b : Nat) (HL : Heap) (h : pm_vc v = true) : (pm_v b HL v).category = 1 := by
  cases v <;> first | rfl | cases h
def pm_ro (HL : Heap) (r : Nat) : Option Nat := if r = 0 then none else some (HL.size + (r - 1))
theorem pm_v_rv (b : Nat) (HL : Heap) (r : Nat) : pm_v b HL (pm_rv r) = va_rf (pm_ro HL r) := by
  unfold pm_rv pm_ro
  by_cases h : r = 0
  · rw [if_pos h, if_pos h]; rfl
  · rw [if_neg h, if_neg h]
    show Value.ref (pm_a b HL r) = .ref (HL.size + (r - 1))
    rw [pm_a_pos (by omega)]
def pm_fs (HL : Heap) (σ : pm_S) (c p : Nat) : List Value := (List.range (pm_nf c)).map (fun k => if pm_fk c k = 3 then va_rf (pm_ro HL (σ.2.1 p k)) else .int (σ.1 p k))
def pm_e (kA : Nat → ClassId) (HL : Heap) (σ : pm_S) (p : Nat) : va_E :=
  if σ.2.2.1 p < 10 then (if σ.2.2.1 p = 3 then .inl (kA 3, σ.2.2.2.1 p, .inr (.inr (.inr (.inr (fun j => pm_ro HL (σ.2.1 p j)))))) else .inl (kA (σ.2.2.1 p), σ.2.2.2.1 p, .inl (σ.1 p))) else .inr (σ.2.2.1 p - 10, pm_fs HL σ (σ.2.2.1 p - 10) p)
def pm_w (kA : Nat → ClassId) (HL : Heap) (σ : pm_S) : va_W := (List.range σ.2.2.2.2.1).map (fun j => (HL.size + j, pm_e kA HL σ (j + 1)))
theorem pm_w_at {kA : Nat → ClassId} {HL : Heap} {σ : pm_S} {p : Nat} (h1 : 1 ≤ p) (h2 : p ≤ σ.2.2.2.2.1) : (pm_w kA HL σ)[p - 1]? = some (HL.size + (p - 1), pm_e kA HL σ p) := by
  unfold pm_w
  rw [List.getElem?_map, List.getElem?_range (by omega)]
  simp only [Option.map_some]
  rw [show p - 1 + 1 = p by omega]
theorem pm_w_D {kA : Nat → ClassId} {HL : Heap} {σ : pm_S} : va_D (fun q => HL.size ≤ q) (pm_w kA HL σ) := by
  have key : ∀ (k : Nat) (q : Nat × va_E), (pm_w kA HL σ)[k]? = some q → q.1 = HL.size + k := by
    intro k q hk
    unfold pm_w at hk
    rw [List.getElem?_map] at hk
    cases hr : (List.range σ.2.2.2.2.1)[k]? with
    | none => rw [hr] at hk; cases hk
    | some j =>
      rw [hr] at hk
      cases hk
      have := List.getElem?_eq_some_iff.mp hr
      obtain ⟨hl, he⟩ := this
      rw [List.getElem_range] at he
      rw [he]
  refine ⟨fun i j p q hi hj hpq => ?_, fun k q hk => ?_⟩
  · have h1 := key i p hi
    have h2 := key j q hj
    omega
  · have h1 := key k q hk
    show HL.size ≤ q.1
    omega
theorem pm_w_set {kA : Nat → ClassId} {HL : Heap} {σ σ' : pm_S} {p : Nat} {e : va_E} (h1 : 1 ≤ p) (hn : σ'.2.2.2.2.1 = σ.2.2.2.2.1) (he : pm_e kA HL σ' p = e) (ho : ∀ q, q ≠ p → pm_e kA HL σ' q = pm_e kA HL σ q) : (pm_w kA HL σ).set (p - 1) (HL.size + (p - 1), e) = pm_w kA HL σ' := by
  apply List.ext_getElem?
  intro k
  unfold pm_w
  rw [List.getElem?_set, hn]
  by_cases hk : p - 1 = k
  · rw [if_pos hk]
    subst hk
    by_cases hl : p - 1 < σ.2.2.2.2.1
    · rw [if_pos (by simpa using hl), List.getElem?_map, List.getElem?_range hl]
      simp only [Option.map_some]
      rw [show p - 1 + 1 = p by omega, he]
    · rw [if_neg (by simpa using hl), List.getElem?_map, List.getElem?_eq_none (by simpa using hl)]
      rfl
  · rw [if_neg hk, List.getElem?_map, List.getElem?_map]
    by_cases hl : k < σ.2.2.2.2.1
    · rw [List.getElem?_range hl]
      simp only [Option.map_some]
      rw [ho (k + 1) (by omega)]
    · rw [List.getElem?_eq_none (by simpa using hl)]
      rfl
theorem pm_w_push {kA : Nat → ClassId} {HL : Heap} {σ σ' : pm_S} {e : va_E} (hn : σ'.2.2.2.2.1 = σ.2.2.2.2.1 + 1) (he : pm_e kA HL σ' (σ.2.2.2.2.1 + 1) = e) (ho : ∀ q, q ≤ σ.2.2.2.2.1 → pm_e kA HL σ' q = pm_e kA HL σ q) : pm_w kA HL σ ++ [(HL.size + σ.2.2.2.2.1, e)] = pm_w kA HL σ' := by
  unfold pm_w
  rw [hn, List.range_succ, List.map_append]
  congr 1
  · apply List.map_congr_left
    intro j hj
    rw [ho (j + 1) (by have := List.mem_range.mp hj; omega)]
  · simp only [List.map_cons, List.map_nil, he]
def pm_tys (kA : Nat → ClassId) : List (ClassId × FieldType) := (List.range pm_nk).map (fun k => (kA k, pm_ty k))
theorem pm_tys_at {kA : Nat → ClassId} {k : Nat} (h : k < pm_nk) : (pm_tys kA)[k]? = some (kA k, pm_ty k) := by
  unfold pm_tys
  rw [List.getElem?_map, List.getElem?_range h]
  rfl
/-- a state that holds the picture -/
def pm_Wd (D : va_G) (kA : Nat → ClassId) (HL : Heap) (σ : pm_S) (U : State) : Prop :=
  pm_Tb U ∧ va_K D pm_cl (pm_tys kA) U ∧ va_S (fun q => HL.size ≤ q) HL U.heap [] ∧ U.heap.size = HL.size + σ.2.2.2.2.1 ∧ va_P D pm_cl (pm_w kA HL σ) U.heap
theorem pm_Wd.moved {D : va_G} {kA : Nat → ClassId} {HL : Heap} {σ : pm_S} {s U : State} (hW : s.WarmedH U.vm) (hh : U.heap = s.heap) (h : pm_Wd D kA HL σ s) : pm_Wd D kA HL σ U := by
  obtain ⟨h1, h2, h5, h6, h7⟩ := h
  exact ⟨h1.moved hW, va_K.moved hW.alike h2, by rw [hh]; exact h5, by rw [hh]; exact h6, by rw [hh]; exact h7⟩
/-- the locals -/
def pm_pr (b : Nat) (HL : Heap) (ls : pm_L) : List (Nat × Value) := (List.range ls.length).filterMap (fun i => (pm_ld ls i).map (fun v => (i, pm_v b HL v)))
theorem pm_ld_lt {ls : pm_L} {i : Nat} {v : Value} (h : pm_ld ls i = some v) : i < ls.length := by
  unfold pm_ld at h
  cases hi : ls[i]? with
  | none => rw [hi] at h; cases h
  | some x => exact (List.getElem?_eq_some_iff.mp hi).1
theorem pm_ld_vc {ls : pm_L} {i : Nat} {v : Value} (h : pm_ld ls i = some v) : pm_vc v = true := by
  unfold pm_ld at h
  split at h <;> cases h <;> rfl
theorem pm_pr_mem {b : Nat} {HL : Heap} {ls : pm_L} {q : Nat × Value} : q ∈ pm_pr b HL ls ↔ ∃ v, pm_ld ls q.1 = some v ∧ q.2 = pm_v b HL v := by
  unfold pm_pr
  rw [List.mem_filterMap]
  constructor
  · rintro ⟨i, -, hi⟩
    cases hv : pm_ld ls i with
    | none => rw [hv] at hi; cases hi
    | some v => rw [hv] at hi; cases hi; exact ⟨v, hv, rfl⟩
  · rintro ⟨v, h1, h2⟩
    refine ⟨q.1, List.mem_range.mpr (pm_ld_lt h1), ?_⟩
    rw [h1]
    show some (q.1, pm_v b HL v) = some q
    rw [← h2]
theorem pm_ld_set {ls : pm_L} {i : Nat} {v : Value} {j : Nat} {w : Value} (h : pm_ld (ls.set i (some v)) j = some w) : (j = i ∧ w = v) ∨ (j ≠ i ∧ pm_ld ls j = some w) := by
  unfold pm_ld at h ⊢
  rw [List.getElem?_set] at h
  by_cases hij : i = j
  · left
    rw [if_pos hij] at h
    refine ⟨hij.symm, ?_⟩
    split at h <;> rename_i hx <;> (first | cases h | skip)
    · split at hx <;> cases hx; rfl
    · split at hx <;> cases hx; rfl
  · right
    rw [if_neg hij] at h
    exact ⟨fun e => hij e.symm, h⟩
theorem pm_pr_set {b : Nat} {HL : Heap} {ls : pm_L} {i nL : Nat} {v : Value} {l1 : Array Slot} (h : lv_has l1 nL ((i, pm_v b HL v) :: (pm_pr b HL ls).filter (fun q => !(q.1 == i) && !(q.1 + 1 == i && q.2.category == 2)))) : lv_has l1 nL (pm_pr b HL (ls.set i (some v))) := by
  refine ⟨h.1, h.2.1, fun q hq => h.2.2 q ?_⟩
  obtain ⟨w, h1, h2⟩ := pm_pr_mem.mp hq
  rcases pm_ld_set h1 with ⟨e1, e2⟩ | ⟨e1, e2⟩
  · rw [List.mem_cons]
    left
    rw [← e1, ← e2, ← h2]
  · rw [List.mem_cons]
    right
    rw [List.mem_filter]
    refine ⟨pm_pr_mem.mpr ⟨w, e2, h2⟩, ?_⟩
    have hc : q.2.category = 1 := by rw [h2]; exact pm_vc_cat b HL (pm_ld_vc e2)
    simp [e1, hc]
theorem pm_pr_at {b : Nat} {HL : Heap} {ls : pm_L} {i nL : Nat} {v : Value} {l1 : Array Slot} (h : lv_has l1 nL (pm_pr b HL ls)) (hv : pm_ld ls i = some v) : l1[i]? = some (.val (pm_v b HL v)) :=
  h.2.2 (i, pm_v b HL v) (pm_pr_mem.mpr ⟨v, hv, rfl⟩)
theorem pm_args_at {b : Nat} {HL : Heap} : ∀ (as : List Value) (k i : Nat) (v : Value), as.all pm_vc = true → as[i]? = some v → (k + i, pm_v b HL v) ∈ lv_args k (as.map (pm_v b HL))
  | [], _, _, _, _, h => by simp at h
  | a :: as, k, i, v, hv, h => by
    simp only [List.all_cons, Bool.and_eq_true] at hv
    show _ ∈ (k, pm_v b HL a) :: lv_args (if (pm_v b HL a).category = 2 then k + 2 else k + 1) (as.map (pm_v b HL))
    rw [pm_vc_cat b HL hv.1, if_neg (by decide)]
    cases i with
    | zero =>
      rw [List.getElem?_cons_zero] at h
      cases h
      exact List.mem_cons_self
    | succ i =>
      rw [List.getElem?_cons_succ] at h
      have := pm_args_at (b := b) (HL := HL) as (k + 1) i v hv.2 h
      rw [show k + 1 + i = k + (i + 1) by omega] at this
      exact List.mem_cons_of_mem _ this
theorem pm_sl_len {b : Nat} {HL : Heap} : ∀ (as : List Value), as.all pm_vc = true → (lg_sl (as.map (pm_v b HL))).length = as.length
  | [], _ => rfl
  | a :: as, hv => by
    simp only [List.all_cons, Bool.and_eq_true] at hv
    have ih := pm_sl_len (b := b) (HL := HL) as hv.2
    unfold lg_sl at ih ⊢
    rw [List.map_cons, List.flatMap_cons, List.length_append, ih, pm_vc_cat b HL hv.1, if_neg (by decide)]
    simp only [List.length_cons, List.length_nil]
    omega
theorem pm_in_has {b : Nat} {HL : Heap} {j : Nat} {as : List Value} (h1 : as.length ≤ pm_max j) (h2 : as.all pm_vc = true) : lv_has ((lg_sl (as.map (pm_v b HL)) ++ List.replicate (pm_max j - (lg_sl (as.map (pm_v b HL))).length) Slot.unset).toArray) (pm_max j) (pm_pr b HL (pm_in j as)) := by
  have h := lv_entry (as.map (pm_v b HL)) (n := pm_max j) (by rw [pm_sl_len as h2]; exact h1)
  refine ⟨h.1, h.2.1, fun q hq => h.2.2 q ?_⟩
  obtain ⟨v, e1, e2⟩ := pm_pr_mem.mp hq
  have hin : as[q.1]? = some v := by
    unfold pm_ld pm_in at e1
    by_cases hl : q.1 < as.length
    · rw [List.getElem?_append_left (by simpa using hl), List.getElem?_map] at e1
      cases ha : as[q.1]? with
      | none => rw [ha] at e1; cases e1
      | some w =>
        rw [ha] at e1
        simp only [Option.map_some] at e1
        split at e1 <;> rename_i hx <;> (first | cases e1 | skip) <;> cases hx <;> rfl
    · rw [List.getElem?_append_right (by simpa using hl)] at e1
      exfalso
      by_cases hr : q.1 - (as.map some).length < pm_max j - as.length
      · rw [List.getElem?_replicate, if_pos hr] at e1
        cases e1
      · rw [List.getElem?_replicate, if_neg hr] at e1
        cases e1
  have := pm_args_at (b := b) (HL := HL) as 0 q.1 v h2 hin
  rw [Nat.zero_add, ← e2] at this
  exact this
theorem pm_in_len {j : Nat} {as : List Value} (h1 : as.length ≤ pm_max j) : (pm_in j as).length = pm_max j := by
  unfold pm_in
  rw [List.length_append, List.length_map, List.length_replicate]
  omega
end
section
/-! SOUNDNESS: an instruction of the picture machine is that instruction of the machine. -/
section PmW
variable {p : Program} {l : Launch} {e : Env} {R : Room} {s : State} {m : MethodId} {args : Array Value} {below : List Frame} {meth : Method} {c : Code} {H : Heap} {locs : List Loc} {cells slots : Nat} {Q : State → Prop}
variable {D : va_G} {kA : Nat → ClassId} {b : Nat} {X : pm_X} {HL : Heap} {cc : ByteArray} {pc : Nat} {la : Array Slot}
set_option maxHeartbeats 4000000 in
theorem pm_stk_w {i : Jvm.ClassFile.Instr} {st st' : List Value} (hx : p.tables.exec = Jvm.exec) (hb : c.code = cc) (hd : decode cc pc = .ok (i, pm_len i)) (h : pm_stk i st = some st')
    (k : W p l e R s m args below meth c H locs cells slots Q (F0 m (pc + pm_len i) la (st'.map (pm_v b HL)))) : W p l e R s m args below meth c H locs cells slots Q (F0 m pc la (st.map (pm_v b HL))) := by
  cases i with
  | iconst n => cases h; exact lv_iconst hx hb hd rfl k
  | aconst_null => cases h; exact lv_null hx hb hd k
  | dup =>
    match st, h with
    | a :: st, h =>
      simp only [pm_stk] at h
      split at h
      · rename_i hv; cases h; exact lv_dup hx hb hd (pm_vc_cat b HL hv) k
      · cases h
  | pop =>
    match st, h with
    | a :: st, h =>
      simp only [pm_stk] at h
      split at h
      · rename_i hv; cases h; exact lv_pop hx hb hd (pm_vc_cat b HL hv) k
      · cases h
  | dup_x1 =>
    match st, h with
    | a :: a2 :: st, h =>
      simp only [pm_stk] at h
      split at h
      · rename_i hv; cases h; rw [Bool.and_eq_true] at hv; exact lv_dup_x1 hx hb hd (pm_vc_cat b HL hv.1) (pm_vc_cat b HL hv.2) k
      · cases h
  | dup_x2 =>
    match st, h with
    | a :: a2 :: a3 :: st, h =>
      simp only [pm_stk] at h
      split at h
      · rename_i hv; cases h; rw [Bool.and_eq_true, Bool.and_eq_true] at hv; exact lv_dup_x2 hx hb hd (pm_vc_cat b HL hv.1) (pm_vc_cat b HL hv.2.1) (pm_vc_cat b HL hv.2.2) k
      · cases h
  | dup2 =>
    match st, h with
    | a :: a2 :: st, h =>
      simp only [pm_stk] at h
      split at h
      · rename_i hv; cases h; rw [Bool.and_eq_true] at hv; exact lv_dup2_11 hx hb hd (pm_vc_cat b HL hv.1) (pm_vc_cat b HL hv.2) k
      · cases h
  | ineg =>
    match st, h with
    | .int x :: st, h => cases h; exact lv_ineg hx hb hd k
  | i2c =>
    match st, h with
    | .int x :: st, h => cases h; exact lv_i2c hx hb hd rfl k
  | iadd =>
    match st, h with
    | .int y :: .int x :: st, h => cases h; exact lv_iadd hx hb hd k
  | isub =>
    match st, h with
    | .int y :: .int x :: st, h => cases h; exact lv_isub hx hb hd k
  | imul =>
    match st, h with
    | .int y :: .int x :: st, h => cases h; exact lv_imul hx hb hd k
  | iand =>
    match st, h with
    | .int y :: .int x :: st, h => cases h; exact lv_iand hx hb hd k
  | ior =>
    match st, h with
    | .int y :: .int x :: st, h => cases h; exact lv_ior hx hb hd k
  | ixor =>
    match st, h with
    | .int y :: .int x :: st, h => cases h; exact lv_ixor hx hb hd k
  | ishl =>
    match st, h with
    | .int y :: .int x :: st, h => cases h; exact lv_ishl hx hb hd k
  | ishr =>
    match st, h with
    | .int y :: .int x :: st, h => cases h; exact lv_ishr hx hb hd k
  | iushr =>
    match st, h with
    | .int y :: .int x :: st, h => cases h; exact lv_iushr hx hb hd rfl k
  | idiv =>
    match st, h with
    | .int y :: .int x :: st, h =>
      simp only [pm_stk, pm_bin] at h
      by_cases hy : y = 0
      · simp [hy] at h
      · simp only [hy, if_false] at h
        cases h
        exact lv_idiv hx hb hd hy k
  | irem =>
    match st, h with
    | .int y :: .int x :: st, h =>
      simp only [pm_stk, pm_bin] at h
      by_cases hy : y = 0
      · simp [hy] at h
      · simp only [hy, if_false] at h
        cases h
        exact lv_irem hx hb hd hy k
  | _ =>
    exfalso
    revert h
    unfold pm_stk pm_bin
    dsimp only
    split <;> simp
theorem pm_tok_eq {pc : Nat} {off : Int} (h : pm_tok pc off = true) : (pc : Int) + off = ((pm_tgt pc off : Nat) : Int) := by
  unfold pm_tok at h
  unfold pm_tgt
  rw [Int.toNat_of_nonneg (of_decide_eq_true h)]
set_option maxHeartbeats 4000000 in
theorem pm_jmp_w {i : Jvm.ClassFile.Instr} {len t : Nat} {st st' : List Value} (hx : p.tables.exec = Jvm.exec) (hb : c.code = cc) (hd : decode cc pc = .ok (i, len)) (h : pm_jmp pc len i st = some (t, st'))
    (k : W p l e R s m args below meth c H locs cells slots Q (F0 m t la (st'.map (pm_v b HL)))) : W p l e R s m args below meth c H locs cells slots Q (F0 m pc la (st.map (pm_v b HL))) := by
  cases i with
  | ifCond cd off =>
    match st, h with
    | .int x :: st, h2 =>
      simp only [pm_jmp] at h2
      split at h2
      · rename_i hc
        rw [Bool.and_eq_true, decide_eq_true_eq] at hc
        obtain ⟨hl, ht⟩ := hc
        subst hl
        have ht := pm_tok_eq ht
        cases cd
        · refine lv_if_eq (tgt := pm_tgt pc off) hx hb hd ht (fun q => ?_) (fun q => ?_)
          · have hcm : pm_cmp .eq x 0 = true := by simp [pm_cmp, q]
            rw [if_pos hcm] at h2; cases h2; exact k
          · have hcm : ¬ pm_cmp .eq x 0 = true := by simp [pm_cmp, q]
            rw [if_neg hcm] at h2; cases h2; exact k
        · refine lv_if_ne (tgt := pm_tgt pc off) hx hb hd ht (fun q => ?_) (fun q => ?_)
          · have hcm : pm_cmp .ne x 0 = true := by simp [pm_cmp, q]
            rw [if_pos hcm] at h2; cases h2; exact k
          · have hcm : ¬ pm_cmp .ne x 0 = true := by simp [pm_cmp, q]
            rw [if_neg hcm] at h2; cases h2; exact k
        · refine lv_if_lt (tgt := pm_tgt pc off) hx hb hd ht (fun q => ?_) (fun q => ?_)
          · have hcm : pm_cmp .lt x 0 = true := by simp [pm_cmp, q]
            rw [if_pos hcm] at h2; cases h2; exact k
          · have hcm : ¬ pm_cmp .lt x 0 = true := by simp [pm_cmp, q]
            rw [if_neg hcm] at h2; cases h2; exact k
        · refine lv_if_ge (tgt := pm_tgt pc off) hx hb hd ht (fun q => ?_) (fun q => ?_)
          · have hcm : pm_cmp .ge x 0 = true := by simp [pm_cmp, q]
            rw [if_pos hcm] at h2; cases h2; exact k
          · have hcm : ¬ pm_cmp .ge x 0 = true := by simp [pm_cmp, q]
            rw [if_neg hcm] at h2; cases h2; exact k
        · refine lv_if_gt (tgt := pm_tgt pc off) hx hb hd ht (fun q => ?_) (fun q => ?_)
          · have hcm : pm_cmp .gt x 0 = true := by simp [pm_cmp, q]
            rw [if_pos hcm] at h2; cases h2; exact k
          · have hcm : ¬ pm_cmp .gt x 0 = true := by simp [pm_cmp, q]
            rw [if_neg hcm] at h2; cases h2; exact k
        · refine lv_if_le (tgt := pm_tgt pc off) hx hb hd ht (fun q => ?_) (fun q => ?_)
          · have hcm : pm_cmp .le x 0 = true := by simp [pm_cmp, q]
            rw [if_pos hcm] at h2; cases h2; exact k
          · have hcm : ¬ pm_cmp .le x 0 = true := by simp [pm_cmp, q]
            rw [if_neg hcm] at h2; cases h2; exact k
      · cases h2
  | if_icmp cd off =>
    match st, h with
    | .int y :: .int x :: st, h2 =>
      simp only [pm_jmp] at h2
      split at h2
      · rename_i hc
        rw [Bool.and_eq_true, decide_eq_true_eq] at hc
        obtain ⟨hl, ht⟩ := hc
        subst hl
        have ht := pm_tok_eq ht
        cases cd
        · refine lv_icmp_eq (tgt := pm_tgt pc off) hx hb hd ht (fun q => ?_) (fun q => ?_)
          · have hcm : pm_cmp .eq x y = true := by simp [pm_cmp, q]
            rw [if_pos hcm] at h2; cases h2; exact k
          · have hcm : ¬ pm_cmp .eq x y = true := by simp [pm_cmp, q]
            rw [if_neg hcm] at h2; cases h2; exact k
        · refine lv_icmp_ne (tgt := pm_tgt pc off) hx hb hd ht (fun q => ?_) (fun q => ?_)
          · have hcm : pm_cmp .ne x y = true := by simp [pm_cmp, q]
            rw [if_pos hcm] at h2; cases h2; exact k
          · have hcm : ¬ pm_cmp .ne x y = true := by simp [pm_cmp, q]
            rw [if_neg hcm] at h2; cases h2; exact k
        · refine lv_icmp_lt (tgt := pm_tgt pc off) hx hb hd ht (fun q => ?_) (fun q => ?_)
          · have hcm : pm_cmp .lt x y = true := by simp [pm_cmp, q]
            rw [if_pos hcm] at h2; cases h2; exact k
          · have hcm : ¬ pm_cmp .lt x y = true := by simp [pm_cmp, q]
            rw [if_neg hcm] at h2; cases h2; exact k
        · refine lv_icmp_ge (tgt := pm_tgt pc off) hx hb hd ht (fun q => ?_) (fun q => ?_)
          · have hcm : pm_cmp .ge x y = true := by simp [pm_cmp, q]
            rw [if_pos hcm] at h2; cases h2; exact k
          · have hcm : ¬ pm_cmp .ge x y = true := by simp [pm_cmp, q]
            rw [if_neg hcm] at h2; cases h2; exact k
        · refine lv_icmp_gt (tgt := pm_tgt pc off) hx hb hd ht (fun q => ?_) (fun q => ?_)
          · have hcm : pm_cmp .gt x y = true := by simp [pm_cmp, q]
            rw [if_pos hcm] at h2; cases h2; exact k
          · have hcm : ¬ pm_cmp .gt x y = true := by simp [pm_cmp, q]
            rw [if_neg hcm] at h2; cases h2; exact k
        · refine lv_icmp_le (tgt := pm_tgt pc off) hx hb hd ht (fun q => ?_) (fun q => ?_)
          · have hcm : pm_cmp .le x y = true := by simp [pm_cmp, q]
            rw [if_pos hcm] at h2; cases h2; exact k
          · have hcm : ¬ pm_cmp .le x y = true := by simp [pm_cmp, q]
            rw [if_neg hcm] at h2; cases h2; exact k
      · cases h2
  | goto off =>
    simp only [pm_jmp] at h
    split at h
    · rename_i hc
      rw [Bool.and_eq_true, decide_eq_true_eq] at hc
      obtain ⟨hl, ht⟩ := hc
      subst hl
      cases h
      exact lv_goto hx hb hd (pm_tok_eq ht) k
    · cases h
  | tableswitch dflt lo hi offs =>
    match st, h with
    | .int x :: st, h2 =>
      simp only [pm_jmp] at h2
      split at h2
      · rename_i hc
        rw [Bool.or_eq_true, decide_eq_true_eq, decide_eq_true_eq] at hc
        split at h2
        · rename_i ht
          cases h2
          exact lv_tableOut hx hb hd hc (pm_tok_eq ht) k
        · cases h2
      · rename_i hc
        rw [Bool.or_eq_true, decide_eq_true_eq, decide_eq_true_eq, not_or] at hc
        split at h2
        · rename_i off ho
          split at h2
          · rename_i ht
            cases h2
            exact lv_tableIn hx hb hd hc.1 hc.2 ho (pm_tok_eq ht) k
          · cases h2
        · cases h2
  | lookupswitch dflt ps =>
    match st, h with
    | .int x :: st, h2 =>
      simp only [pm_jmp] at h2
      split at h2
      · rename_i hc
        rw [Bool.and_eq_true] at hc
        cases h2
        exact lv_lookup hx hb hd hc.1 rfl (pm_tok_eq hc.2) k
      · cases h2
  | _ => cases h
theorem pm_inb_of {i : Int32} {n : Nat} (h : pm_inb i n = true) : vp_in i n := by
  unfold pm_inb at h
  rw [Bool.and_eq_true, decide_eq_true_eq, decide_eq_true_eq] at h
  intro q
  rcases q with q | q
  · exact h.1 q
  · omega
theorem pm_lays {C : String} {T : u_T} {N : Nat} (hTb : pm_Tb s) (hin : ∀ w ∈ u_ws C T N, w ∈ lw_tbl) : ∀ w ∈ u_ws C T N, w.before args s = true := by
  intro w hw
  refine hTb w (hin w hw) ?_ args
  obtain ⟨k, -, rfl⟩ := List.mem_map.mp hw
  unfold u_lay
  split <;> rfl
theorem pm_fs_at {σ : pm_S} {ci f q : Nat} (h : f < pm_nf ci) : (pm_fs HL σ ci q)[f]? = some (if pm_fk ci f = 3 then va_rf (pm_ro HL (σ.2.1 q f)) else .int (σ.1 q f)) := by
  unfold pm_fs
  rw [List.getElem?_map, List.getElem?_range h]
  rfl
theorem pm_fv {σ : pm_S} {ci f q : Nat} : pm_v b HL (if pm_fk ci f = 3 then pm_rv (σ.2.1 q f) else .int (σ.1 q f)) = (if pm_fk ci f = 3 then va_rf (pm_ro HL (σ.2.1 q f)) else .int (σ.1 q f)) := by
  split
  · exact pm_v_rv b HL _
  · rfl
theorem pm_e_obj {σ : pm_S} {q ci : Nat} (h : σ.2.2.1 q = 10 + ci) : pm_e kA HL σ q = .inr (ci, pm_fs HL σ ci q) := by
  unfold pm_e
  rw [if_neg (by omega), h, Nat.add_sub_cancel_left]
theorem pm_e_int {σ : pm_S} {q k : Nat} (h : σ.2.2.1 q = k) (hk : k < 10) (h3 : k ≠ 3) : pm_e kA HL σ q = .inl (kA k, σ.2.2.2.1 q, .inl (σ.1 q)) := by
  unfold pm_e
  rw [if_pos (by omega), if_neg (by omega), h]
theorem pm_e_ref {σ : pm_S} {q : Nat} (h : σ.2.2.1 q = 3) : pm_e kA HL σ q = .inl (kA 3, σ.2.2.2.1 q, .inr (.inr (.inr (.inr (fun j => pm_ro HL (σ.2.1 q j)))))) := by
  unfold pm_e
  rw [if_pos (by omega), if_pos h]
theorem pm_word {w : Jvm.Cond} (hTb : pm_Tb s) (h : w ∈ lw_tbl) (hk : pm_ok w = true) : w.before args s = true := hTb w h hk args
/-- what a frame of method 'mi' knows of its state -/
def pm_Fr (D : va_G) (kA : Nat → ClassId) (b : Nat) (X : pm_X) (HL : Heap) (mi : Nat) (p : Program) (R : Room) (s : State) (m : MethodId) (meth : Method) (c : Code) : Prop :=
  p.tables.exec = Jvm.exec ∧ c.code = pm_code mi ∧ c.maxLocals = pm_max mi ∧ s.vm.findClass (pm_on (pm_ow mi)) = some m.cls ∧ pm_Tb s ∧ va_K D pm_cl (pm_tys kA) s ∧ (∀ x, X = some x → va_X b x.1 x.2 s HL ∧ b < HL.size) ∧ (pm_kd mi = 2 → meth.name = "<init>") ∧ 1 ≤ R.frames ∧ 64 ≤ R.locals
/-- what the heap and the locals hold -/
def pm_Re (D : va_G) (kA : Nat → ClassId) (b : Nat) (HL : Heap) (mi : Nat) (σ : pm_S) (ls : pm_L) (H : Heap) (locs : List Loc) (la : Array Slot) : Prop :=
  va_P D pm_cl (pm_w kA HL σ) H ∧ va_S (fun q => HL.size ≤ q) HL H locs ∧ H.size = HL.size + σ.2.2.2.2.1 ∧ lv_has la (pm_max mi) (pm_pr b HL ls) ∧ ls.length = pm_max mi
set_option maxHeartbeats 4000000 in
theorem pm_rd_w {mi : Nat} {i : Jvm.ClassFile.Instr} {ls : pm_L} {st st' : List Value} {v : Value} {σ : pm_S} (hF : pm_Fr D kA b X HL mi p R s m meth c) (hR : pm_Re D kA b HL mi σ ls H locs la) (hd : decode (pm_code mi) pc = .ok (i, pm_len i)) (h : pm_rd X (pm_ow mi) i ls st σ = some (v, st'))
    (k : W p l e R s m args below meth c H locs cells slots Q (F0 m (pc + pm_len i) la (pm_v b HL v :: st'.map (pm_v b HL)))) : W p l e R s m args below meth c H locs cells slots Q (F0 m pc la (st.map (pm_v b HL))) := by
  obtain ⟨hx, hb, hml, hown, hTb, hK, hX, -, -, -⟩ := hF
  obtain ⟨hP, hS, hz, hl, -⟩ := hR
  cases i with
  | bipush n => cases h; exact lv_bipush hx hb hd rfl k
  | sipush n => cases h; exact lv_sipush hx hb hd rfl k
  | ldc n =>
    simp only [pm_rd] at h
    split at h
    · rename_i w hw
      cases h
      exact lv_ldc hx hb hown (pm_word hTb (pm_okD hw) rfl) hd k
    · cases h
  | iload n =>
    simp only [pm_rd] at h
    split at h
    · rename_i x hw; cases h; exact lv_iload hx hb hd (pm_pr_at hl hw) k
    · cases h
  | iload_n n =>
    simp only [pm_rd] at h
    split at h
    · rename_i x hw; cases h; exact lv_iload_n hx hb hd rfl (pm_pr_at hl hw) k
    · cases h
  | aload n =>
    simp only [pm_rd] at h
    split at h
    · rename_i x hw; cases h; exact lv_aload hx hb hd (pm_pr_at hl hw) k
    · cases h
  | aload_n n =>
    simp only [pm_rd] at h
    split at h
    · rename_i x hw; cases h; exact lv_aload_n hx hb hd rfl (pm_pr_at hl hw) k
    · cases h
  | getfield n =>
    match st, h with
    | .ref q :: st, h =>
      simp only [pm_rd] at h
      split at h
      · rename_i ci f hw
        split at h
        · rename_i hc
          simp only [Bool.and_eq_true, decide_eq_true_eq] at hc
          obtain ⟨h1, h2, h3⟩ := hc
          simp only [Option.some.injEq, Prod.mk.injEq] at h
          obtain ⟨hv, rfl⟩ := h
          rw [← hv, pm_fv] at k
          obtain ⟨C, T, o1, o2, o3, -⟩ := pm_okF hw
          obtain ⟨-, c2, -⟩ := pm_okC o1
          have he := pm_w_at (kA := kA) (HL := HL) h1 h2
          rw [pm_e_obj h3] at he
          have hts := pm_lays (args := args) hTb c2
          show W p l e R s m args below meth c H locs cells slots Q (F0 m pc la (.ref (pm_a b HL q) :: st.map (pm_v b HL)))
          rw [pm_a_pos h1]
          rcases o3 with o3 | ⟨host, o3⟩
          · exact va_get hx hb hts (fun w h => h) hown hK hP (q - 1) he o1 f o2 (pm_word hTb o3 rfl) (fun x h => h) (pm_fs_at o2) hd k
          · exact va_getN hx hb hts (fun w h => h) hown hK hP (q - 1) he o1 f o2 (pm_word hTb o3 rfl) (fun x h => h) (pm_fs_at o2) hd k
        · cases h
      · cases h
  | iaload =>
    match st, h with
    | .int j :: .ref q :: st, h =>
      simp only [pm_rd] at h
      split at h
      · rename_i hq
        subst hq
        split at h
        · split at h
          · rename_i hi
            cases h
            obtain ⟨hX, hbl⟩ := hX _ rfl
            exact va_sld hx hb hX hbl (Nat.not_le.mpr hbl) hS (pm_inb_of hi) hd k
          · cases h
        · cases h
      · rename_i hq
        split at h
        · rename_i hc
          simp only [Bool.and_eq_true, decide_eq_true_eq] at hc
          obtain ⟨h2, h3, h4⟩ := hc
          simp only [Option.some.injEq, Prod.mk.injEq] at h
          obtain ⟨rfl, rfl⟩ := h
          have h1 : 1 ≤ q := Nat.pos_of_ne_zero hq
          have he := pm_w_at (kA := kA) (HL := HL) h1 h2
          rw [pm_e_int h3 (by decide) (by decide)] at he
          show W p l e R s m args below meth c H locs cells slots Q (F0 m pc la (.int j :: .ref (pm_a b HL q) :: st.map (pm_v b HL)))
          rw [pm_a_pos h1]
          exact va_iald hx hb hK hP (q - 1) 0 he (pm_tys_at pm_nk0) (pm_inb_of h4) hd k
        · cases h
  | caload =>
    match st, h with
    | .int j :: .ref q :: st, h =>
      simp only [pm_rd] at h
      split at h
      · rename_i hc
        simp only [Bool.and_eq_true, decide_eq_true_eq] at hc
        obtain ⟨h1, h2, h3, h4⟩ := hc
        simp only [Option.some.injEq, Prod.mk.injEq] at h
        obtain ⟨rfl, rfl⟩ := h
        have he := pm_w_at (kA := kA) (HL := HL) h1 h2
        rw [pm_e_int h3 (by decide) (by decide)] at he
        show W p l e R s m args below meth c H locs cells slots Q (F0 m pc la (.int j :: .ref (pm_a b HL q) :: st.map (pm_v b HL)))
        rw [pm_a_pos h1]
        exact va_cald hx hb hK hP (q - 1) 1 he (pm_tys_at pm_nk1) (pm_inb_of h4) hd k
      · cases h
  | baload =>
    match st, h with
    | .int j :: .ref q :: st, h =>
      simp only [pm_rd] at h
      split at h
      · rename_i hc
        simp only [Bool.and_eq_true, decide_eq_true_eq] at hc
        obtain ⟨h1, h2, h3, h4⟩ := hc
        simp only [Option.some.injEq, Prod.mk.injEq] at h
        obtain ⟨rfl, rfl⟩ := h
        have he := pm_w_at (kA := kA) (HL := HL) h1 h2
        rw [pm_e_int h3 (by decide) (by decide)] at he
        show W p l e R s m args below meth c H locs cells slots Q (F0 m pc la (.int j :: .ref (pm_a b HL q) :: st.map (pm_v b HL)))
        rw [pm_a_pos h1]
        exact va_zald hx hb hK hP (q - 1) 2 he (pm_tys_at pm_nk2) (pm_inb_of h4) hd k
      · cases h
  | aaload =>
    match st, h with
    | .int j :: .ref q :: st, h =>
      simp only [pm_rd] at h
      split at h
      · rename_i hc
        simp only [Bool.and_eq_true, decide_eq_true_eq] at hc
        obtain ⟨h1, h2, h3, h4⟩ := hc
        simp only [Option.some.injEq, Prod.mk.injEq] at h
        obtain ⟨rfl, rfl⟩ := h
        rw [pm_v_rv] at k
        have he := pm_w_at (kA := kA) (HL := HL) h1 h2
        rw [pm_e_ref h3] at he
        show W p l e R s m args below meth c H locs cells slots Q (F0 m pc la (.int j :: .ref (pm_a b HL q) :: st.map (pm_v b HL)))
        rw [pm_a_pos h1]
        exact va_aldq hx hb hK hP (q - 1) 3 he (pm_tys_at pm_nk3) (pm_inb_of h4) hd k
      · cases h
  | arraylength =>
    match st, h with
    | .ref q :: st, h =>
      simp only [pm_rd] at h
      split at h
      · rename_i hq
        subst hq
        split at h
        · cases h
          obtain ⟨hX, hbl⟩ := hX _ rfl
          exact va_slen hx hb hX hbl (Nat.not_le.mpr hbl) hS hd k
        · cases h
      · rename_i hq
        split at h
        · rename_i hc
          simp only [Bool.and_eq_true, decide_eq_true_eq] at hc
          obtain ⟨h2, h3⟩ := hc
          simp only [Option.some.injEq, Prod.mk.injEq] at h
          obtain ⟨rfl, rfl⟩ := h
          have h1 : 1 ≤ q := Nat.pos_of_ne_zero hq
          have he := pm_w_at (kA := kA) (HL := HL) h1 h2
          show W p l e R s m args below meth c H locs cells slots Q (F0 m pc la (.ref (pm_a b HL q) :: st.map (pm_v b HL)))
          rw [pm_a_pos h1]
          by_cases hk3 : σ.2.2.1 q = 3
          · rw [pm_e_ref hk3] at he
            exact va_alen hx hb hK hP (q - 1) 3 he (pm_tys_at pm_nk3) rfl hd k
          · rw [pm_e_int rfl (Nat.lt_of_lt_of_le h3 pm_nk10) hk3] at he
            exact va_alen hx hb hK hP (q - 1) (σ.2.2.1 q) he (pm_tys_at h3) rfl hd k
        · cases h
  | _ => cases h
set_option maxHeartbeats 4000000 in
theorem pm_loc_w {mi : Nat} {i : Jvm.ClassFile.Instr} {ls : pm_L} {st st' : List Value} {n : Nat} {v : Value} {σ : pm_S} (hF : pm_Fr D kA b X HL mi p R s m meth c) (hR : pm_Re D kA b HL mi σ ls H locs la) (hd : decode (pm_code mi) pc = .ok (i, pm_len i)) (h : pm_loc i ls st = some (n, v, st')) (hn : n < ls.length)
    (k : ∀ la', pm_Re D kA b HL mi σ (ls.set n (some v)) H locs la' → W p l e R s m args below meth c H locs cells slots Q (F0 m (pc + pm_len i) la' (st'.map (pm_v b HL)))) : W p l e R s m args below meth c H locs cells slots Q (F0 m pc la (st.map (pm_v b HL))) := by
  obtain ⟨hx, hb, hml, hown, hTb, hK, hX, -, -, -⟩ := hF
  obtain ⟨hP, hS, hz, hl, hlen⟩ := hR
  rw [hlen] at hn
  have kk : ∀ la', lv_has la' (pm_max mi) ((n, pm_v b HL v) :: (pm_pr b HL ls).filter (fun q => !(q.1 == n) && !(q.1 + 1 == n && q.2.category == 2))) → W p l e R s m args below meth c H locs cells slots Q (F0 m (pc + pm_len i) la' (st'.map (pm_v b HL))) :=
    fun la' h' => k la' ⟨hP, hS, hz, pm_pr_set h', by rw [List.length_set]; exact hlen⟩
  cases i with
  | istore j =>
    match st, h with
    | .int x :: st, h => cases h; exact lv_istore hx hb hd hl hn rfl kk
  | istore_n j =>
    match st, h with
    | .int x :: st, h => cases h; exact lv_istore_n hx hb hd rfl hl hn rfl kk
  | astore j =>
    match st, h with
    | .ref x :: st, h => cases h; exact lv_astore hx hb hd hl hn rfl kk
  | astore_n j =>
    match st, h with
    | .ref x :: st, h => cases h; exact lv_astore_n hx hb hd rfl hl hn rfl kk
  | iinc j x =>
    simp only [pm_loc] at h
    split at h
    · rename_i y hy
      cases h
      obtain ⟨q, hq⟩ := List.getElem?_of_mem (pm_pr_mem (b := b) (HL := HL) (q := (n, .int y)).mpr ⟨_, hy, rfl⟩)
      exact lv_iinc hx hb hd hl hq rfl hn rfl kk
    · cases h
  | _ => cases h
theorem pm_e_same {σ σ' : pm_S} {q : Nat} (h1 : σ'.1 q = σ.1 q) (h2 : σ'.2.1 q = σ.2.1 q) (h3 : σ'.2.2.1 q = σ.2.2.1 q) (h4 : σ'.2.2.2.1 q = σ.2.2.2.1 q) : pm_e kA HL σ' q = pm_e kA HL σ q := by
  unfold pm_e pm_fs
  rw [h1, h2, h3, h4]
theorem pm_fs_seti {σ : pm_S} {ci f q : Nat} {x : Int32} (hf : f < pm_nf ci) (hk : pm_fk ci f ≠ 3) : pm_fs HL (pm_u σ.1 q (upd (σ.1 q) f x), σ.2) ci q = (pm_fs HL σ ci q).set f (.int x) := by
  apply List.ext_getElem?
  intro k
  rw [List.getElem?_set]
  unfold pm_fs
  by_cases hl : k < pm_nf ci
  · rw [List.getElem?_map, List.getElem?_range hl]
    by_cases hkf : f = k
    · subst hkf
      rw [if_pos rfl, if_pos (by simpa using hf)]
      simp only [Option.map_some, if_neg hk]
      rw [pm_us]
      simp [upd]
    · rw [if_neg hkf, List.getElem?_map, List.getElem?_range hl]
      simp only [Option.map_some]
      rw [pm_us]
      have hkf' : ¬ k = f := fun e => hkf e.symm
      simp [upd, hkf']
  · rw [List.getElem?_eq_none (by simpa using hl)]
    by_cases hkf : f = k
    · omega
    · rw [if_neg hkf, List.getElem?_eq_none (by simpa using hl)]
theorem pm_fs_setr {σ : pm_S} {ci f q x : Nat} (hf : f < pm_nf ci) (hk : pm_fk ci f = 3) : pm_fs HL (σ.1, pm_u σ.2.1 q (pm_u (σ.2.1 q) f x), σ.2.2) ci q = (pm_fs HL σ ci q).set f (va_rf (pm_ro HL x)) := by
  apply List.ext_getElem?
  intro k
  rw [List.getElem?_set]
  unfold pm_fs
  by_cases hl : k < pm_nf ci
  · rw [List.getElem?_map, List.getElem?_range hl]
    by_cases hkf : f = k
    · subst hkf
      rw [if_pos rfl, if_pos (by simpa using hf)]
      simp only [Option.map_some, if_pos hk]
      rw [pm_us, pm_us]
    · rw [if_neg hkf, List.getElem?_map, List.getElem?_range hl]
      simp only [Option.map_some]
      rw [pm_us, pm_un _ _ (fun e => hkf e.symm)]
  · rw [List.getElem?_eq_none (by simpa using hl)]
    by_cases hkf : f = k
    · omega
    · rw [if_neg hkf, List.getElem?_eq_none (by simpa using hl)]
theorem pm_fi_ok {ty : FieldType} {x : Int32} (h : pm_fi (pm_ko ty) x = true) : narrow ty (.int x) = .int x ∧ fits ty (.int x) = true := by
  cases ty with
  | int => exact ⟨rfl, rfl⟩
  | boolean =>
    have h' : (decide (x = 0) || decide (x = 1)) = true := h
    rw [Bool.or_eq_true, decide_eq_true_eq, decide_eq_true_eq] at h'
    rcases h' with rfl | rfl
    · exact ⟨rfl, rfl⟩
    · exact ⟨rfl, rfl⟩
  | _ => cases h
theorem pm_ko_ref {ty : FieldType} {v : Value} (h : pm_ko ty = 3) (hv : v = .null ∨ ∃ a, v = .ref a) : narrow ty v = v ∧ fits ty v = true := by
  rcases hv with rfl | ⟨a, rfl⟩ <;> cases ty <;> first | exact ⟨rfl, rfl⟩ | cases h
theorem pm_S_self {A : Nat → Prop} (hS : va_S A HL H locs) : va_S A H H locs := ⟨Nat.le_refl _, fun _ _ _ => rfl, hS.2.2⟩
theorem pm_S_trans {A : Nat → Prop} {H1 : Heap} {locs1 : List Loc} (hS : va_S A HL H locs) (h1 : va_S A H H1 locs1) : va_S A HL H1 locs1 :=
  ⟨Nat.le_trans hS.1 h1.1, fun q hq hn => (h1.2.1 q (Nat.lt_of_lt_of_le hq hS.1) hn).trans (hS.2.1 q hq hn), h1.2.2⟩
/-- the heap is no larger than the cells that are counted -/
theorem pm_size {g : JFrame} (kk : H.size ≤ s.heap.size + cells → W p l e R s m args below meth c H locs cells slots Q g) : W p l e R s m args below meth c H locs cells slots Q g :=
  fun T hT X => kk (by rw [← hT]; exact X.heapSize) T hT X
theorem pm_keep {A : Nat → Prop} {n : Nat} {g : JFrame} {H1 : Heap} {locs1 : List Loc} (hS : va_S A HL H locs) (hz : H.size = HL.size + n) (hcs : s.heap.size + cells = HL.size + n) (h1 : va_S A H H1 locs1)
    (k : va_S A HL H1 locs1 → H1.size = HL.size + n → W p l e R s m args below meth c H1 locs1 cells slots Q g) : W p l e R s m args below meth c H1 locs1 cells slots Q g :=
  pm_size fun hle => k (pm_S_trans hS h1) (by have := h1.1; omega)
set_option maxHeartbeats 4000000 in
theorem pm_wr_w {mi : Nat} {i : Jvm.ClassFile.Instr} {ls : pm_L} {st st' : List Value} {σ σ' : pm_S} (hF : pm_Fr D kA b X HL mi p R s m meth c) (hR : pm_Re D kA b HL mi σ ls H locs la) (hcs : s.heap.size + cells = HL.size + σ.2.2.2.2.1) (hd : decode (pm_code mi) pc = .ok (i, pm_len i)) (h : pm_wr (pm_ow mi) (pm_kd mi) i st σ = some (σ', st'))
    (k : ∀ H' locs', pm_Re D kA b HL mi σ' ls H' locs' la → W p l e R s m args below meth c H' locs' cells slots Q (F0 m (pc + pm_len i) la (st'.map (pm_v b HL)))) : W p l e R s m args below meth c H locs cells slots Q (F0 m pc la (st.map (pm_v b HL))) := by
  obtain ⟨hx, hb, hml, hown, hTb, hK, hX, hin, -, -⟩ := hF
  obtain ⟨hP, hS, hz, hl, hlen⟩ := hR
  have hD := pm_w_D (kA := kA) (HL := HL) (σ := σ)
  have hS0 := pm_S_self hS
  cases i with
  | putfield n =>
    match st, h with
    | .int x :: .ref q :: st, h =>
      simp only [pm_wr] at h
      split at h
      · rename_i ci f hw
        split at h
        · rename_i hc
          simp only [Bool.and_eq_true, decide_eq_true_eq, Bool.or_eq_true, Bool.not_eq_true'] at hc
          obtain ⟨h1, h2, h3, h4, h5⟩ := hc
          simp only [Option.some.injEq, Prod.mk.injEq] at h
          obtain ⟨rfl, rfl⟩ := h
          obtain ⟨C, T, o1, o2, o3, o4, o5⟩ := pm_okF hw
          obtain ⟨-, c2, c3, c4, -⟩ := pm_okC o1
          have hko := (c3 f o2).2.1
          have hk3 : pm_fk ci f ≠ 3 := fun e => by rw [e] at h4; cases h4
          obtain ⟨n1, n2⟩ := pm_fi_ok (ty := pm_ft ci f) (x := x) (by rw [← hko]; exact h4)
          have he := pm_w_at (kA := kA) (HL := HL) h1 h2
          rw [pm_e_obj h3] at he
          have hts := pm_lays (args := args) hTb c2
          have hll : f < (pm_fs HL σ ci q).length := by simpa [pm_fs] using o2
          have hset : (pm_w kA HL σ).set (q - 1) (HL.size + (q - 1), .inr (ci, (pm_fs HL σ ci q).set f (.int x))) = pm_w kA HL (pm_u σ.1 q (upd (σ.1 q) f x), σ.2) :=
            pm_w_set h1 rfl ((pm_e_obj (σ := (pm_u σ.1 q (upd (σ.1 q) f x), σ.2)) h3).trans (by rw [pm_fs_seti o2 hk3])) (fun r hr => pm_e_same (pm_un _ _ hr) rfl rfl rfl)
          show W p l e R s m args below meth c H locs cells slots Q (F0 m pc la (.int x :: .ref (pm_a b HL q) :: st.map (pm_v b HL)))
          rw [pm_a_pos h1]
          have kk : ∀ (H1 : Heap) (locs1 : List Loc), va_P D pm_cl ((pm_w kA HL σ).set (q - 1) (HL.size + (q - 1), .inr (ci, (pm_fs HL σ ci q).set f (.int x)))) H1 → va_D (fun r => HL.size ≤ r) ((pm_w kA HL σ).set (q - 1) (HL.size + (q - 1), .inr (ci, (pm_fs HL σ ci q).set f (.int x)))) → va_S (fun r => HL.size ≤ r) H H1 locs1 → W p l e R s m args below meth c H1 locs1 cells slots Q (F0 m (pc + 3) la (st.map (pm_v b HL))) := by
            intro H1 locs1 hP1 _ hS1
            rw [hset] at hP1
            exact pm_keep hS hz hcs hS1 fun hS2 hz2 => k H1 locs1 ⟨hP1, hS2, hz2, hl, hlen⟩
          by_cases hfin : pm_fin ci f = true
          · have h6 : pm_kd mi = 2 ∧ pm_own (pm_ow mi) ci = true := h5.resolve_left (by rw [hfin]; decide)
            obtain ⟨o6, o7⟩ := o5 h6.2
            exact va_putF hx hb hts (fun w h => h) (pm_ft ci) (fun k hk => (c3 k hk).1) c4 hown hK hP hD hS0 (q - 1) he o1 f o2 (pm_word hTb o7 rfl) (fun x h => h) (o4.trans hfin) (hin h6.1) o6 (c3 f o2).1 n1 n2 hll hd kk
          · have hfin : pm_fin ci f = false := Bool.eq_false_iff.mpr hfin
            rcases o3 with o3 | ⟨host, o3⟩
            · exact va_put hx hb hts (fun w h => h) (pm_ft ci) (fun k hk => (c3 k hk).1) c4 hown hK hP hD hS0 (q - 1) he o1 f o2 (pm_word hTb o3 rfl) (fun x h => h) (o4.trans hfin) (c3 f o2).1 n1 n2 hll hd kk
            · exact va_putN hx hb hts (fun w h => h) (pm_ft ci) (fun k hk => (c3 k hk).1) c4 hown hK hP hD hS0 (q - 1) he o1 f o2 (pm_word hTb o3 rfl) (fun x h => h) (o4.trans hfin) (c3 f o2).1 n1 n2 hll hd kk
        · cases h
      · cases h
    | .ref x :: .ref q :: st, h =>
      simp only [pm_wr] at h
      split at h
      · rename_i ci f hw
        split at h
        · rename_i hc
          simp only [Bool.and_eq_true, decide_eq_true_eq, Bool.or_eq_true, Bool.not_eq_true'] at hc
          obtain ⟨h1, h2, h3, hx1, h4, h5⟩ := hc
          simp only [Option.some.injEq, Prod.mk.injEq] at h
          obtain ⟨rfl, rfl⟩ := h
          obtain ⟨C, T, o1, o2, o3, o4, o5⟩ := pm_okF hw
          obtain ⟨-, c2, c3, c4, -⟩ := pm_okC o1
          have hko := (c3 f o2).2.1
          obtain ⟨n1, n2⟩ := pm_ko_ref (ty := pm_ft ci f) (v := .ref (pm_a b HL x)) (by rw [← hko]; exact h4) (Or.inr ⟨_, rfl⟩)
          have he := pm_w_at (kA := kA) (HL := HL) h1 h2
          rw [pm_e_obj h3] at he
          have hts := pm_lays (args := args) hTb c2
          have hll : f < (pm_fs HL σ ci q).length := by simpa [pm_fs] using o2
          have hv : va_rf (pm_ro HL x) = .ref (pm_a b HL x) := by
            unfold pm_ro
            rw [if_neg (Nat.ne_of_gt hx1), pm_a_pos hx1]; rfl
          have hset : (pm_w kA HL σ).set (q - 1) (HL.size + (q - 1), .inr (ci, (pm_fs HL σ ci q).set f (.ref (pm_a b HL x)))) = pm_w kA HL (σ.1, pm_u σ.2.1 q (pm_u (σ.2.1 q) f x), σ.2.2) :=
            pm_w_set h1 rfl ((pm_e_obj (σ := (σ.1, pm_u σ.2.1 q (pm_u (σ.2.1 q) f x), σ.2.2)) h3).trans (by rw [pm_fs_setr o2 h4, hv])) (fun r hr => pm_e_same rfl (pm_un _ _ hr) rfl rfl)
          show W p l e R s m args below meth c H locs cells slots Q (F0 m pc la (.ref (pm_a b HL x) :: .ref (pm_a b HL q) :: st.map (pm_v b HL)))
          rw [pm_a_pos h1]
          have kk : ∀ (H1 : Heap) (locs1 : List Loc), va_P D pm_cl ((pm_w kA HL σ).set (q - 1) (HL.size + (q - 1), .inr (ci, (pm_fs HL σ ci q).set f (.ref (pm_a b HL x))))) H1 → va_D (fun r => HL.size ≤ r) ((pm_w kA HL σ).set (q - 1) (HL.size + (q - 1), .inr (ci, (pm_fs HL σ ci q).set f (.ref (pm_a b HL x))))) → va_S (fun r => HL.size ≤ r) H H1 locs1 → W p l e R s m args below meth c H1 locs1 cells slots Q (F0 m (pc + 3) la (st.map (pm_v b HL))) := by
            intro H1 locs1 hP1 _ hS1
            rw [hset] at hP1
            exact pm_keep hS hz hcs hS1 fun hS2 hz2 => k H1 locs1 ⟨hP1, hS2, hz2, hl, hlen⟩
          by_cases hfin : pm_fin ci f = true
          · have h6 : pm_kd mi = 2 ∧ pm_own (pm_ow mi) ci = true := h5.resolve_left (by rw [hfin]; decide)
            obtain ⟨o6, o7⟩ := o5 h6.2
            exact va_putF hx hb hts (fun w h => h) (pm_ft ci) (fun k hk => (c3 k hk).1) c4 hown hK hP hD hS0 (q - 1) he o1 f o2 (pm_word hTb o7 rfl) (fun x h => h) (o4.trans hfin) (hin h6.1) o6 (c3 f o2).1 n1 n2 hll hd kk
          · have hfin : pm_fin ci f = false := Bool.eq_false_iff.mpr hfin
            rcases o3 with o3 | ⟨host, o3⟩
            · exact va_put hx hb hts (fun w h => h) (pm_ft ci) (fun k hk => (c3 k hk).1) c4 hown hK hP hD hS0 (q - 1) he o1 f o2 (pm_word hTb o3 rfl) (fun x h => h) (o4.trans hfin) (c3 f o2).1 n1 n2 hll hd kk
            · exact va_putN hx hb hts (fun w h => h) (pm_ft ci) (fun k hk => (c3 k hk).1) c4 hown hK hP hD hS0 (q - 1) he o1 f o2 (pm_word hTb o3 rfl) (fun x h => h) (o4.trans hfin) (c3 f o2).1 n1 n2 hll hd kk
        · cases h
      · cases h
  | iastore =>
    match st, h with
    | .int x :: .int j :: .ref q :: st, h =>
      simp only [pm_wr] at h
      split at h
      · rename_i hc
        simp only [Bool.and_eq_true, decide_eq_true_eq] at hc
        obtain ⟨h1, h2, h3, h4⟩ := hc
        simp only [Option.some.injEq, Prod.mk.injEq] at h
        obtain ⟨rfl, rfl⟩ := h
        have he := pm_w_at (kA := kA) (HL := HL) h1 h2
        rw [pm_e_int h3 (by decide) (by decide)] at he
        have hset : (pm_w kA HL σ).set (q - 1) (HL.size + (q - 1), .inl (kA 0, σ.2.2.2.1 q, .inl (upd (σ.1 q) j.toNatClampNeg x))) = pm_w kA HL (pm_u σ.1 q (upd (σ.1 q) j.toNatClampNeg x), σ.2) :=
          pm_w_set h1 rfl ((pm_e_int (σ := (pm_u σ.1 q (upd (σ.1 q) j.toNatClampNeg x), σ.2)) (k := 0) h3 (by decide) (by decide)).trans (by simp [pm_us])) (fun r hr => pm_e_same (pm_un _ _ hr) rfl rfl rfl)
        show W p l e R s m args below meth c H locs cells slots Q (F0 m pc la (.int x :: .int j :: .ref (pm_a b HL q) :: st.map (pm_v b HL)))
        rw [pm_a_pos h1]
        refine va_iast hx hb hK hP hD hS0 (q - 1) 0 he (pm_tys_at pm_nk0) (pm_inb_of h4) hd fun H1 locs1 hP1 _ hS1 => ?_
        rw [hset] at hP1
        exact pm_keep hS hz hcs hS1 fun hS2 hz2 => k H1 locs1 ⟨hP1, hS2, hz2, hl, hlen⟩
      · cases h
  | castore =>
    match st, h with
    | .int x :: .int j :: .ref q :: st, h =>
      simp only [pm_wr] at h
      split at h
      · rename_i hc
        simp only [Bool.and_eq_true, decide_eq_true_eq] at hc
        obtain ⟨h1, h2, h3, h4⟩ := hc
        simp only [Option.some.injEq, Prod.mk.injEq] at h
        obtain ⟨rfl, rfl⟩ := h
        have he := pm_w_at (kA := kA) (HL := HL) h1 h2
        rw [pm_e_int h3 (by decide) (by decide)] at he
        have hset : (pm_w kA HL σ).set (q - 1) (HL.size + (q - 1), .inl (kA 1, σ.2.2.2.1 q, .inl (upd (σ.1 q) j.toNatClampNeg (vp_nar .char x)))) = pm_w kA HL (pm_u σ.1 q (upd (σ.1 q) j.toNatClampNeg (vp_nar .char x)), σ.2) :=
          pm_w_set h1 rfl ((pm_e_int (σ := (pm_u σ.1 q (upd (σ.1 q) j.toNatClampNeg (vp_nar .char x)), σ.2)) (k := 1) h3 (by decide) (by decide)).trans (by simp [pm_us])) (fun r hr => pm_e_same (pm_un _ _ hr) rfl rfl rfl)
        show W p l e R s m args below meth c H locs cells slots Q (F0 m pc la (.int x :: .int j :: .ref (pm_a b HL q) :: st.map (pm_v b HL)))
        rw [pm_a_pos h1]
        refine va_cast hx hb hK hP hD hS0 (q - 1) 1 he (pm_tys_at pm_nk1) (pm_inb_of h4) hd fun H1 locs1 hP1 _ hS1 => ?_
        rw [hset] at hP1
        exact pm_keep hS hz hcs hS1 fun hS2 hz2 => k H1 locs1 ⟨hP1, hS2, hz2, hl, hlen⟩
      · cases h
  | bastore =>
    match st, h with
    | .int x :: .int j :: .ref q :: st, h =>
      simp only [pm_wr] at h
      split at h
      · rename_i hc
        simp only [Bool.and_eq_true, decide_eq_true_eq] at hc
        obtain ⟨h1, h2, h3, h4⟩ := hc
        simp only [Option.some.injEq, Prod.mk.injEq] at h
        obtain ⟨rfl, rfl⟩ := h
        have he := pm_w_at (kA := kA) (HL := HL) h1 h2
        rw [pm_e_int h3 (by decide) (by decide)] at he
        have hset : (pm_w kA HL σ).set (q - 1) (HL.size + (q - 1), .inl (kA 2, σ.2.2.2.1 q, .inl (upd (σ.1 q) j.toNatClampNeg (vp_nar .boolean x)))) = pm_w kA HL (pm_u σ.1 q (upd (σ.1 q) j.toNatClampNeg (vp_nar .boolean x)), σ.2) :=
          pm_w_set h1 rfl ((pm_e_int (σ := (pm_u σ.1 q (upd (σ.1 q) j.toNatClampNeg (vp_nar .boolean x)), σ.2)) (k := 2) h3 (by decide) (by decide)).trans (by simp [pm_us])) (fun r hr => pm_e_same (pm_un _ _ hr) rfl rfl rfl)
        show W p l e R s m args below meth c H locs cells slots Q (F0 m pc la (.int x :: .int j :: .ref (pm_a b HL q) :: st.map (pm_v b HL)))
        rw [pm_a_pos h1]
        refine va_zast hx hb hK hP hD hS0 (q - 1) 2 he (pm_tys_at pm_nk2) (pm_inb_of h4) hd fun H1 locs1 hP1 _ hS1 => ?_
        rw [hset] at hP1
        exact pm_keep hS hz hcs hS1 fun hS2 hz2 => k H1 locs1 ⟨hP1, hS2, hz2, hl, hlen⟩
      · cases h
  | aastore =>
    match st, h with
    | .ref x :: .int j :: .ref q :: st, h =>
      simp only [pm_wr] at h
      split at h
      · rename_i hc
        simp only [Bool.and_eq_true, decide_eq_true_eq] at hc
        obtain ⟨h1, h2, h3, h4, x1, x2, x3⟩ := hc
        simp only [Option.some.injEq, Prod.mk.injEq] at h
        obtain ⟨rfl, rfl⟩ := h
        have he := pm_w_at (kA := kA) (HL := HL) h1 h2
        rw [pm_e_ref h3] at he
        have hv := pm_w_at (kA := kA) (HL := HL) x1 x2
        rw [pm_e_obj x3] at hv
        obtain ⟨T, hqc⟩ := pm_okQ
        have hset : (pm_w kA HL σ).set (q - 1) (HL.size + (q - 1), .inl (kA 3, σ.2.2.2.1 q, .inr (.inr (.inr (.inr (va_up (fun j => pm_ro HL (σ.2.1 q j)) j.toNatClampNeg (some (HL.size + (x - 1))))))))) = pm_w kA HL (σ.1, pm_u σ.2.1 q (pm_u (σ.2.1 q) j.toNatClampNeg x), σ.2.2) := by
          refine pm_w_set h1 rfl ?_ (fun r hr => pm_e_same rfl (pm_un _ _ hr) rfl rfl)
          refine (pm_e_ref (σ := (σ.1, pm_u σ.2.1 q (pm_u (σ.2.1 q) j.toNatClampNeg x), σ.2.2)) h3).trans ?_
          congr 7
          funext t
          show pm_ro HL (pm_u σ.2.1 q (pm_u (σ.2.1 q) j.toNatClampNeg x) q t) = va_up (fun j => pm_ro HL (σ.2.1 q j)) j.toNatClampNeg (some (HL.size + (x - 1))) t
          rw [pm_us]
          unfold va_up
          by_cases ht : t = j.toNatClampNeg
          · rw [if_pos ht, ht, pm_us]
            unfold pm_ro
            rw [if_neg (Nat.ne_of_gt x1)]
          · rw [if_neg ht, pm_un _ _ ht]
        show W p l e R s m args below meth c H locs cells slots Q (F0 m pc la (.ref (pm_a b HL x) :: .int j :: .ref (pm_a b HL q) :: st.map (pm_v b HL)))
        rw [pm_a_pos h1, pm_a_pos x1]
        refine va_astq hx hb hK hP hD hS0 (q - 1) 3 (x - 1) pm_qc he (pm_tys_at pm_nk3) hv hqc (pm_inb_of h4) hd fun H1 locs1 hP1 _ hS1 => ?_
        rw [hset] at hP1
        exact pm_keep hS hz hcs hS1 fun hS2 hz2 => k H1 locs1 ⟨hP1, hS2, hz2, hl, hlen⟩
      · cases h
  | _ => cases h
theorem pm_w_len {σ : pm_S} : (pm_w kA HL σ).length = σ.2.2.2.2.1 := by simp [pm_w]
theorem pm_fresh {σ : pm_S} {q : Nat} {x : va_E} {H1 : Heap} (hP1 : va_P D pm_cl (pm_w kA HL σ ++ [(q, x)]) H1) (hD1 : va_D (fun r => HL.size ≤ r) (pm_w kA HL σ ++ [(q, x)])) (hle : H1.size ≤ HL.size + σ.2.2.2.2.1 + 1) : q = HL.size + σ.2.2.2.2.1 ∧ H1.size = HL.size + σ.2.2.2.2.1 + 1 := by
  have hq : (pm_w kA HL σ ++ [(q, x)])[σ.2.2.2.2.1]? = some (q, x) := by
    rw [List.getElem?_append_right (by rw [pm_w_len]; exact Nat.le_refl _), pm_w_len, Nat.sub_self]
    rfl
  have h1 : q < H1.size := (hP1 _ _ hq).lt
  have h2 : HL.size ≤ q := hD1.2 _ _ hq
  by_cases h3 : q < HL.size + σ.2.2.2.2.1
  · exfalso
    have h4 := pm_w_at (kA := kA) (HL := HL) (σ := σ) (p := q - HL.size + 1) (by omega) (by omega)
    have h5 : (pm_w kA HL σ ++ [(q, x)])[q - HL.size + 1 - 1]? = some (HL.size + (q - HL.size + 1 - 1), pm_e kA HL σ (q - HL.size + 1)) := by
      rw [List.getElem?_append_left (by rw [pm_w_len]; omega)]
      exact h4
    have h6 := hD1.1 _ _ _ _ hq h5 (by show q = _; omega)
    omega
  · omega
theorem pm_mk_e {σ : pm_S} {k n sl q : Nat} (h : q ≤ σ.2.2.2.2.1) : pm_e kA HL (pm_mkS σ k n sl) q = pm_e kA HL σ q :=
  pm_e_same (pm_un _ _ (by omega)) (pm_un _ _ (by omega)) (pm_un _ _ (by omega)) (pm_un _ _ (by omega))
theorem pm_mk_k {σ : pm_S} {k n sl : Nat} : (pm_mkS σ k n sl).2.2.1 (σ.2.2.2.2.1 + 1) = k := pm_us _ _ _
set_option maxHeartbeats 4000000 in
theorem pm_mk_w {mi : Nat} {i : Jvm.ClassFile.Instr} {ls : pm_L} {st st' : List Value} {σ : pm_S} {kd n sl : Nat} (hF : pm_Fr D kA b X HL mi p R s m meth c) (hR : pm_Re D kA b HL mi σ ls H locs la) (hcs : s.heap.size + cells = HL.size + σ.2.2.2.2.1) (hcr : cells + 1 ≤ R.cells) (hsr : slots + sl ≤ R.slots) (hd : decode (pm_code mi) pc = .ok (i, pm_len i)) (h : pm_mk (pm_ow mi) i st = some (kd, n, sl, st'))
    (k : ∀ H', pm_Re D kA b HL mi (pm_mkS σ kd n sl) ls H' locs la → W p l e R s m args below meth c H' locs (cells + 1) (slots + sl) Q (F0 m (pc + pm_len i) la (.ref (HL.size + σ.2.2.2.2.1) :: st'.map (pm_v b HL)))) : W p l e R s m args below meth c H locs cells slots Q (F0 m pc la (st.map (pm_v b HL))) := by
  obtain ⟨hx, hb, hml, hown, hTb, hK, hX, hin, -, -⟩ := hF
  obtain ⟨hP, hS, hz, hl, hlen⟩ := hR
  have hD := pm_w_D (kA := kA) (HL := HL) (σ := σ)
  have hS0 := pm_S_self hS
  have hA : ∀ q, H.size ≤ q → HL.size ≤ q := fun q h => by omega
  have fin : ∀ (q : Nat) (H1 : Heap) (x : va_E), x = pm_e kA HL (pm_mkS σ kd n sl) (σ.2.2.2.2.1 + 1) → va_P D pm_cl (pm_w kA HL σ ++ [(q, x)]) H1 → va_D (fun r => HL.size ≤ r) (pm_w kA HL σ ++ [(q, x)]) → va_S (fun r => HL.size ≤ r) H H1 locs → W p l e R s m args below meth c H1 locs (cells + 1) (slots + sl) Q (F0 m (pc + pm_len i) la (.ref q :: st'.map (pm_v b HL))) := by
    intro q H1 x hxe hP1 hD1 hS1
    refine pm_size fun hle => ?_
    obtain ⟨hq, hz1⟩ := pm_fresh hP1 hD1 (by omega)
    subst hq
    rw [pm_w_push (σ' := pm_mkS σ kd n sl) rfl hxe.symm (fun q hq => pm_mk_e hq)] at hP1
    exact k H1 ⟨hP1, pm_S_trans hS hS1, hz1, hl, hlen⟩
  cases i with
  | new n0 =>
    simp only [pm_mk] at h
    split at h
    · rename_i ci hw
      simp only [Option.some.injEq, Prod.mk.injEq] at h
      obtain ⟨rfl, rfl, rfl, rfl⟩ := h
      obtain ⟨C, T, o1, o2⟩ := pm_okN hw
      obtain ⟨-, c2, c3, c4, c5, c6⟩ := pm_okC o1
      have hts := pm_lays (args := args) hTb c2
      refine va_new (fs := pm_fs HL (pm_mkS σ (10 + ci) 0 (pm_nf ci)) ci (σ.2.2.2.2.1 + 1)) hx hb hts (fun w h => h) (pm_ft ci) (fun k hk => (c3 k hk).1) hown (pm_word hTb o2 rfl) (pm_word hTb c5 rfl) (pm_word hTb c6 rfl) hK hP hD hS0 hA o1 ?_ hcr hsr hd ?_
      · intro j hj
        unfold vp_V
        rw [List.getD_eq_getElem?_getD, pm_fs_at hj]
        have hko := (c3 j hj).2
        simp only [Option.getD_some]
        have e1 : (pm_mkS σ (10 + ci) 0 (pm_nf ci)).1 (σ.2.2.2.2.1 + 1) j = 0 := by simp [pm_mkS, pm_us]
        have e2 : (pm_mkS σ (10 + ci) 0 (pm_nf ci)).2.1 (σ.2.2.2.2.1 + 1) j = 0 := by simp [pm_mkS, pm_us]
        rw [e1, e2, hko.1]
        have h4 := hko.2
        rw [hko.1] at h4
        cases hty : pm_ft ci j <;> rw [hty] at h4 <;> first | rfl | (exfalso; revert h4; decide)
      · intro q H1 hP1 hD1 hS1
        exact fin q H1 _ (by rw [pm_e_obj (ci := ci) pm_mk_k]) hP1 hD1 hS1
    · cases h
  | newarray at_ =>
    cases at_ with
    | int =>
      match st, h with
      | .int z :: st, h =>
        simp only [pm_mk] at h
        split at h
        · rename_i hc
          simp only [Bool.and_eq_true, decide_eq_true_eq] at hc
          simp only [Option.some.injEq, Prod.mk.injEq] at h
          obtain ⟨rfl, rfl, rfl, rfl⟩ := h
          refine va_newa (a0 := (z.toNatClampNeg, .inl (fun _ => 0))) (atype := .int) hx hb (pm_word (w := .arrayClass .int) hTb pm_okAI rfl) rfl hK hP hD hS0 hA (fun _ => rfl) hc.1 rfl ?_ hcr hsr hd ?_
          · show z.toNatClampNeg * 4 ≤ 536870912
            have := hc.2
            omega
          · intro q cA H1 hK1 hP1 hD1 hS1
            have h1 : s.vm.findClass ("[" ++ FieldType.int.toString) = some (kA 0) := (hK.2 0 _ (pm_tys_at pm_nk0)).2
            have h2 : s.vm.findClass ("[" ++ FieldType.int.toString) = some cA := (hK1.2 (pm_tys kA).length (cA, .int) (by rw [List.getElem?_append_right (Nat.le_refl _), Nat.sub_self]; rfl)).2
            have h3 : cA = kA 0 := Option.some.inj (h2.symm.trans h1)
            subst h3
            exact fin q H1 _ (by rw [pm_e_int (k := 0) pm_mk_k (by decide) (by decide)]; simp [pm_mkS, pm_us]) hP1 hD1 hS1
        · cases h
    | char =>
      match st, h with
      | .int z :: st, h =>
        simp only [pm_mk] at h
        split at h
        · rename_i hc
          simp only [Bool.and_eq_true, decide_eq_true_eq] at hc
          simp only [Option.some.injEq, Prod.mk.injEq] at h
          obtain ⟨rfl, rfl, rfl, rfl⟩ := h
          refine va_newa (a0 := (z.toNatClampNeg, .inl (fun _ => 0))) (atype := .char) hx hb (pm_word (w := .arrayClass .char) hTb pm_okAC rfl) rfl hK hP hD hS0 hA (fun _ => rfl) hc.1 rfl ?_ hcr hsr hd ?_
          · show z.toNatClampNeg * 2 ≤ 536870912
            have := hc.2
            omega
          · intro q cA H1 hK1 hP1 hD1 hS1
            have h1 : s.vm.findClass ("[" ++ FieldType.char.toString) = some (kA 1) := (hK.2 1 _ (pm_tys_at pm_nk1)).2
            have h2 : s.vm.findClass ("[" ++ FieldType.char.toString) = some cA := (hK1.2 (pm_tys kA).length (cA, .char) (by rw [List.getElem?_append_right (Nat.le_refl _), Nat.sub_self]; rfl)).2
            have h3 : cA = kA 1 := Option.some.inj (h2.symm.trans h1)
            subst h3
            exact fin q H1 _ (by rw [pm_e_int (k := 1) pm_mk_k (by decide) (by decide)]; simp [pm_mkS, pm_us]) hP1 hD1 hS1
        · cases h
    | boolean =>
      match st, h with
      | .int z :: st, h =>
        simp only [pm_mk] at h
        split at h
        · rename_i hc
          simp only [Bool.and_eq_true, decide_eq_true_eq] at hc
          simp only [Option.some.injEq, Prod.mk.injEq] at h
          obtain ⟨rfl, rfl, rfl, rfl⟩ := h
          refine va_newa (a0 := (z.toNatClampNeg, .inl (fun _ => 0))) (atype := .boolean) hx hb (pm_word (w := .arrayClass .boolean) hTb pm_okAZ rfl) rfl hK hP hD hS0 hA (fun _ => rfl) hc.1 rfl ?_ hcr hsr hd ?_
          · show z.toNatClampNeg * 1 ≤ 536870912
            have := hc.2
            omega
          · intro q cA H1 hK1 hP1 hD1 hS1
            have h1 : s.vm.findClass ("[" ++ FieldType.boolean.toString) = some (kA 2) := (hK.2 2 _ (pm_tys_at pm_nk2)).2
            have h2 : s.vm.findClass ("[" ++ FieldType.boolean.toString) = some cA := (hK1.2 (pm_tys kA).length (cA, .boolean) (by rw [List.getElem?_append_right (Nat.le_refl _), Nat.sub_self]; rfl)).2
            have h3 : cA = kA 2 := Option.some.inj (h2.symm.trans h1)
            subst h3
            exact fin q H1 _ (by rw [pm_e_int (k := 2) pm_mk_k (by decide) (by decide)]; simp [pm_mkS, pm_us]) hP1 hD1 hS1
        · cases h
    | _ => cases h
  | anewarray n0 =>
    match st, h with
    | .int z :: st, h =>
      simp only [pm_mk] at h
      split at h
      · rename_i hc
        simp only [Bool.and_eq_true, decide_eq_true_eq] at hc
        simp only [Option.some.injEq, Prod.mk.injEq] at h
        obtain ⟨rfl, rfl, rfl, rfl⟩ := h
        obtain ⟨o1, o2⟩ := pm_okA hc.1
        refine va_newq hx hb hown (pm_word hTb o1 rfl) (va_AO.of (pm_word (args := #[]) hTb o2 rfl)) hK hP hD hS0 hA hc.2.1 rfl ?_ hcr hsr hd ?_
        · have := hc.2.2
          omega
        · intro q cA H1 hK1 hP1 hD1 hS1
          obtain ⟨_, _, -, -, -, h1⟩ := (hK.2 3 _ (pm_tys_at pm_nk3)).2
          obtain ⟨_, _, -, -, -, h2⟩ := (hK1.2 (pm_tys kA).length _ (by rw [List.getElem?_append_right (Nat.le_refl _), Nat.sub_self]; rfl)).2
          have h3 : cA = kA 3 := Option.some.inj (h2.symm.trans h1)
          subst h3
          refine fin q H1 _ ?_ hP1 hD1 hS1
          rw [pm_e_ref pm_mk_k]
          simp [pm_mkS, pm_us, pm_ro]
      · cases h
  | _ => cases h
theorem pm_cats : ∀ (st : List Value), st.all pm_vc = true → ((st.map (pm_v b HL)).map fun v => v.category).sum = st.length
  | [], _ => rfl
  | a :: st, h => by
    simp only [List.all_cons, Bool.and_eq_true] at h
    simp only [List.map_cons, List.sum_cons, List.length_cons]
    rw [pm_cats st h.2, pm_vc_cat b HL h.1]
    omega
set_option maxHeartbeats 4000000 in
theorem pm_jdk_w {mi : Nat} {i : Jvm.ClassFile.Instr} {ls : pm_L} {st st' : List Value} {σ σ' : pm_S} (hF : pm_Fr D kA b X HL mi p R s m meth c) (hR : pm_Re D kA b HL mi σ ls H locs la) (hcs : s.heap.size + cells = HL.size + σ.2.2.2.2.1) (hcr : cells ≤ R.cells) (hsr : slots ≤ R.slots) (hd : decode (pm_code mi) pc = .ok (i, pm_len i)) (h : pm_jdk (pm_ow mi) i st σ = some (σ', st'))
    (k : ∀ H' locs', pm_Re D kA b HL mi σ' ls H' locs' la → W p l e R s m args below meth c H' locs' cells slots Q (F0 m (pc + pm_len i) la (st'.map (pm_v b HL)))) : W p l e R s m args below meth c H locs cells slots Q (F0 m pc la (st.map (pm_v b HL))) := by
  have hR0 := hR
  obtain ⟨hx, hb, hml, hown, hTb, hK, hX, hin, hfr, hlo⟩ := hF
  obtain ⟨hP, hS, hz, hl, hlen⟩ := hR
  have hD := pm_w_D (kA := kA) (HL := HL) (σ := σ)
  have hS0 := pm_S_self hS
  cases i with
  | invokespecial n =>
    simp only [pm_jdk] at h
    split at h
    · rename_i hbi
      match st, h with
      | .ref q :: st, h =>
        simp only at h
        split at h
        · rename_i hc
          simp only [Bool.and_eq_true, decide_eq_true_eq] at hc
          simp only [Option.some.injEq, Prod.mk.injEq] at h
          obtain ⟨rfl, rfl⟩ := h
          have hsum := pm_cats (b := b) (HL := HL) st hc.2
          refine W.objInit hx hb hown (pm_word hTb (pm_okO hbi) rfl) (pm_word hTb pm_okO1 rfl) (pm_word hTb pm_okO2 rfl) rfl (hl.1.trans hml.symm) rfl hd hfr ?_ (k H locs hR0)
          have := lv_room (m := m) (pc := pc) (ls := la) (rest := (Value.ref q :: st).map (pm_v b HL)) (st := st.map (pm_v b HL)) (by rw [hsum]; exact hc.1)
          show 2 * (F0 m pc la ((Value.ref q :: st).map (pm_v b HL))).monitorRoom + ((st.map (pm_v b HL)).map fun v => v.category).sum + 12 ≤ R.locals
          omega
        · cases h
    · cases h
  | invokestatic n =>
    simp only [pm_jdk] at h
    split at h
    · rename_i hbi
      match st, h with
      | .int y :: .int x :: st, h =>
        simp only at h
        split at h
        · rename_i hc
          simp only [Bool.and_eq_true, decide_eq_true_eq] at hc
          simp only [Option.some.injEq, Prod.mk.injEq] at h
          obtain ⟨rfl, rfl⟩ := h
          have hsum := pm_cats (b := b) (HL := HL) st hc.2
          obtain ⟨o1, o2, o3, o4⟩ := pm_okMin hbi
          exact va_mmin hx hb (hml.trans hl.1.symm) hown (pm_word hTb o1 rfl) (pm_word hTb o2 rfl) (pm_word hTb o3 rfl) (pm_word hTb o4 rfl) hfr (by omega) hcr hsr hd (k H locs hR0)
        · cases h
    · split at h
      · rename_i hbi
        match st, h with
        | .int n1 :: .int dp :: .ref q2 :: .int sp :: .ref q1 :: st, h =>
          simp only at h
          split at h
          · rename_i hc
            simp only [Bool.and_eq_true, decide_eq_true_eq] at hc
            obtain ⟨g1, g2, p1, p2, p3, r1, r2, r3, a1, a2, a3, a4, a5⟩ := hc
            simp only [Option.some.injEq, Prod.mk.injEq] at h
            obtain ⟨rfl, rfl⟩ := h
            have hsum := pm_cats (b := b) (HL := HL) st g2
            obtain ⟨o1, o2, o3, o4⟩ := pm_okCpy hbi
            have he1 := pm_w_at (kA := kA) (HL := HL) p1 p2
            rw [pm_e_int p3 (by decide) (by decide)] at he1
            have he2 := pm_w_at (kA := kA) (HL := HL) r1 r2
            rw [pm_e_int r3 (by decide) (by decide)] at he2
            have hset : (pm_w kA HL σ).set (q2 - 1) (HL.size + (q2 - 1), .inl (kA 0, σ.2.2.2.1 q2, .inl (va_cpy (σ.1 q1) (σ.1 q2) sp.toNatClampNeg dp.toNatClampNeg n1.toNatClampNeg))) = pm_w kA HL (pm_u σ.1 q2 (va_cpy (σ.1 q1) (σ.1 q2) sp.toNatClampNeg dp.toNatClampNeg n1.toNatClampNeg), σ.2) :=
              pm_w_set r1 rfl ((pm_e_int (σ := (pm_u σ.1 q2 (va_cpy (σ.1 q1) (σ.1 q2) sp.toNatClampNeg dp.toNatClampNeg n1.toNatClampNeg), σ.2)) (k := 0) r3 (by decide) (by decide)).trans (by simp [pm_us])) (fun r hr => pm_e_same (pm_un _ _ hr) rfl rfl rfl)
            show W p l e R s m args below meth c H locs cells slots Q (F0 m pc la (.int n1 :: .int dp :: .ref (pm_a b HL q2) :: .int sp :: .ref (pm_a b HL q1) :: st.map (pm_v b HL)))
            rw [pm_a_pos r1, pm_a_pos p1]
            refine va_copyi hx hb (hml.trans hl.1.symm) hown (pm_word hTb o1 rfl) (pm_word hTb o2 rfl) (pm_word hTb o3 rfl) (pm_word hTb o4 rfl) hK hP hD hS0 (q1 - 1) (q2 - 1) 0 0 he1 he2 (pm_tys_at pm_nk0) (pm_tys_at pm_nk0) rfl a1 a2 a3 a4 a5 (fun _ _ => rfl) hfr ?_ hd fun H1 locs1 hP1 _ hS1 => ?_
            · rw [hsum]
              have : nativeFrameWords "java/lang/System" "arraycopy" 5 + 11 ≤ 56 := by decide
              omega
            · rw [hset] at hP1
              exact pm_keep hS hz hcs hS1 fun hS2 hz2 => k H1 locs1 ⟨hP1, hS2, hz2, hl, hlen⟩
          · cases h
      · cases h
  | _ => cases h
end PmW
end
section
theorem pm_wr_n {o kd : Nat} {i : Jvm.ClassFile.Instr} {st st' : List Value} {σ σ' : pm_S} (h : pm_wr o kd i st σ = some (σ', st')) : σ'.2.2.2.2 = σ.2.2.2.2 := by
  unfold pm_wr at h
  split at h
  all_goals (repeat' (split at h))
  all_goals first | (cases h; rfl) | cases h
theorem pm_jdk_n {o : Nat} {i : Jvm.ClassFile.Instr} {st st' : List Value} {σ σ' : pm_S} (h : pm_jdk o i st σ = some (σ', st')) : σ'.2.2.2.2 = σ.2.2.2.2 := by
  unfold pm_jdk at h
  split at h
  all_goals (repeat' (split at h))
  all_goals first | (cases h; rfl) | cases h
def pm_le (σ σ' : pm_S) : Prop := σ.2.2.2.2.1 ≤ σ'.2.2.2.2.1 ∧ σ.2.2.2.2.2 ≤ σ'.2.2.2.2.2
theorem pm_le.rfl (σ : pm_S) : pm_le σ σ := ⟨Nat.le_refl _, Nat.le_refl _⟩
theorem pm_le.trans {σ σ1 σ' : pm_S} (h1 : pm_le σ σ1) (h2 : pm_le σ1 σ') : pm_le σ σ' := ⟨Nat.le_trans h1.1 h2.1, Nat.le_trans h1.2 h2.2⟩
theorem pm_step_le {X : pm_X} {o kd pc len : Nat} {i : Jvm.ClassFile.Instr} {ls : pm_L} {st : List Value} {σ : pm_S} {pc' : Nat} {ls' : pm_L} {st' : List Value} {σ' : pm_S} (h : pm_step X o kd pc len i ls st σ = some (pc', ls', st', σ')) : pm_le σ σ' := by
  unfold pm_step at h
  split at h
  · cases h; exact pm_le.rfl _
  · split at h
    · split at h
      · cases h; exact pm_le.rfl _
      · split at h
        · split at h
          · cases h; exact pm_le.rfl _
          · cases h
        · split at h
          · rename_i hw
            cases h
            have := pm_wr_n hw
            exact ⟨by rw [this]; exact Nat.le_refl _, by rw [this]; exact Nat.le_refl _⟩
          · split at h
            · cases h
              exact ⟨Nat.le_succ _, Nat.le_add_right _ _⟩
            · split at h
              · rename_i hw
                cases h
                have := pm_jdk_n hw
                exact ⟨by rw [this]; exact Nat.le_refl _, by rw [this]; exact Nat.le_refl _⟩
              · split at h
                · cases h; exact pm_le.rfl _
                · cases h
    · cases h
theorem pm_exec_le {X : pm_X} {C : pm_O} (hC : ∀ j as σ r σ', C j as σ = some (r, σ') → pm_le σ σ') : ∀ (f mi pc : Nat) (ls : pm_L) (st : List Value) (σ : pm_S) (r : Option Value) (σ' : pm_S), pm_exec X C f mi pc ls st σ = some (r, σ') → pm_le σ σ'
  | 0, _, _, _, _, _, _, _, h => by cases h
  | f + 1, mi, pc, ls, st, σ, r, σ', h => by
    unfold pm_exec at h
    split at h
    · split at h
      · split at h
        · cases h; exact pm_le.rfl _
        · cases h
      · split at h
        · split at h
          · split at h
            · rename_i hc
              exact (hC _ _ _ _ _ hc).trans (pm_exec_le hC f _ _ _ _ _ _ _ h)
            · cases h
          · cases h
        · split at h
          · rename_i hs
            exact (pm_step_le hs).trans (pm_exec_le hC f _ _ _ _ _ _ _ h)
          · cases h
    · cases h
theorem pm_call_le {F : Nat} : ∀ (d j : Nat) (as : List Value) (σ : pm_S) (r : Option Value) (σ' : pm_S), pm_call F d j as σ = some (r, σ') → pm_le σ σ'
  | 0, _, _, _, _, _, h => by cases h
  | d + 1, j, as, σ, r, σ', h => by
    unfold pm_call at h
    split at h
    · exact pm_exec_le (pm_call_le d) _ _ _ _ _ _ _ _ h
    · cases h
def pm_Q (D : va_G) (kA : Nat → ClassId) (b : Nat) (HL : Heap) (r : Option Value) (σ' : pm_S) : Array Value → State → Outcome → State → Prop := fun _ _ oc t => oc = .returned (r.map (pm_v b HL)) ∧ pm_Wd D kA HL σ' t
def pm_ws (j : Nat) : List Jvm.Cond := [Jvm.Cond.code (pm_y j) (pm_code j) (pm_max j) (pm_rt j)]
def pm_rm (d : Nat) (σ σ' : pm_S) : Room := { frames := d, cells := σ'.2.2.2.2.1 - σ.2.2.2.2.1, slots := σ'.2.2.2.2.2 - σ.2.2.2.2.2, locals := 64 * d }
def pm_Met (l : Launch) (D : va_G) (kA : Nat → ClassId) (b : Nat) (HL : Heap) (d j : Nat) (as : List Value) (σ : pm_S) (r : Option Value) (σ' : pm_S) : Prop :=
  Met l (pm_y j) (pm_ws j) (pm_rm d σ σ') (va_Pc (as.map (pm_v b HL)) (pm_Wd D kA HL σ)) (pm_Q D kA b HL r σ') (σ'.2.2.2.2.1 - σ.2.2.2.2.1) (σ'.2.2.2.2.2 - σ.2.2.2.2.2) (fun q => HL.size ≤ q)
section PmV
variable {p : Program} {l : Launch} {e : Env} {R : Room} {s : State} {m : MethodId} {args : Array Value} {below : List Frame} {meth : Method} {c : Code} {H : Heap} {locs : List Loc} {cells slots : Nat} {Q : State → Prop}
variable {D : va_G} {kA : Nat → ClassId} {b : Nat} {X : pm_X} {HL : Heap} {cc : ByteArray} {pc : Nat} {la : Array Slot}
theorem pm_run_w {mc ms : Nat} {st0 rest : List Value} {a : Array Value} {r : Option Value} {σ1 : pm_S} (hr : va_Run p l e R s m args below meth c H locs cells slots mc ms (F0 m pc la st0) rest (pm_Q D kA b HL r σ1 a) (fun q => HL.size ≤ q)) (hS : va_S (fun q => HL.size ≤ q) HL H locs)
    (k : ∀ H1 locs1, va_P D pm_cl (pm_w kA HL σ1) H1 → va_S (fun q => HL.size ≤ q) HL H1 locs1 → H1.size = HL.size + σ1.2.2.2.2.1 → W p l e R s m args below meth c H1 locs1 (cells + mc) (slots + ms) Q (F0 m (pc + 3) la ((r.map (pm_v b HL)).toList ++ rest))) : W p l e R s m args below meth c H locs cells slots Q (F0 m pc la st0) := by
  intro T hT X0
  obtain ⟨v, st₀, t, T', L, h0, X', hL, e1, e2, ⟨hv, hWd⟩, st⟩ := hr T hT X0
  cases hv
  obtain ⟨-, -, w5, w6, w7⟩ := hWd
  obtain ⟨t2, a1, b1⟩ := k T'.heap (locs ++ L) (by rw [e1]; exact w7) ⟨by rw [e1]; exact w5.1, fun q h1 h2 => by rw [e1]; exact w5.2.1 q h1 h2, fun q hq => by
    rcases List.mem_append.mp hq with h | h
    · exact hS.2.2 q h
    · exact hL q h⟩ (by rw [e1]; exact w6) T' rfl X'
  exact ⟨t2, st t2 a1, b1⟩
theorem pm_blind {as : List Value} {σ : pm_S} : FrameBlind (va_Pc as (pm_Wd D kA HL σ)) := fun a U g mk q => ⟨q.1, pm_Wd.moved (s := U) (U := U.calling g mk a) (State.WarmedH.refl U) rfl q.2⟩
theorem pm_Wd_now {mi : Nat} {ls : pm_L} {σ : pm_S} (hF : pm_Fr D kA b X HL mi p R s m meth c) (hR : pm_Re D kA b HL mi σ ls H locs la) (U : State) (hU : U.heap = H) (hW : s.WarmedH U.vm) : pm_Wd D kA HL σ U := by
  obtain ⟨hx, hb, hml, hown, hTb, hK, hX, -, -, -⟩ := hF
  obtain ⟨hP, hS, hz, hl, hlen⟩ := hR
  exact ⟨hTb.moved hW, va_K.moved hW.alike hK, by rw [hU]; exact ⟨hS.1, hS.2.1, fun _ h => by cases h⟩, by rw [hU]; exact hz, by rw [hU]; exact hP⟩
theorem pm_code_ws {j : Nat} (hj : j < pm_cnt) (hTb : pm_Tb s) : ∀ w ∈ pm_ws j, ∀ (a' : Array Value) (U : State), s.WarmedH U.vm → w.before a' U = true := by
  intro w hw a' U hW
  unfold pm_ws at hw
  rw [List.mem_singleton] at hw
  subst hw
  exact (hTb.moved hW) _ (pm_okM hj).1 rfl a'
set_option maxHeartbeats 4000000 in
/-- a call: the callee's contract is used -/
theorem pm_inv_w {mi d j : Nat} {i : Jvm.ClassFile.Instr} {ls : pm_L} {st as rest : List Value} {σ σ1 : pm_S} {r : Option Value} (hF : pm_Fr D kA b X HL mi p R s m meth c) (hR : pm_Re D kA b HL mi σ ls H locs la) (hRd : d + 1 ≤ R.frames ∧ 64 * (d + 1) ≤ R.locals) (hd : decode (pm_code mi) pc = .ok (i, 3)) (h : pm_inv (pm_ow mi) i st σ = some (j, as, rest))
    (hM : pm_Met l D kA b HL d j as σ r σ1) (hf : cells + (σ1.2.2.2.2.1 - σ.2.2.2.2.1) ≤ R.cells ∧ slots + (σ1.2.2.2.2.2 - σ.2.2.2.2.2) ≤ R.slots)
    (k : ∀ H1 locs1, pm_Re D kA b HL mi σ1 ls H1 locs1 la → W p l e R s m args below meth c H1 locs1 (cells + (σ1.2.2.2.2.1 - σ.2.2.2.2.1)) (slots + (σ1.2.2.2.2.2 - σ.2.2.2.2.2)) Q (F0 m (pc + 3) la ((r.toList ++ rest).map (pm_v b HL)))) : W p l e R s m args below meth c H locs cells slots Q (F0 m pc la (st.map (pm_v b HL))) := by
  have hnow := pm_Wd_now hF hR
  obtain ⟨hx, hb, hml, hown, hTb, hK, hX, -, -, -⟩ := hF
  obtain ⟨hP, hS, hz, hl, hlen⟩ := hR
  have kk : ∀ H1 locs1, va_P D pm_cl (pm_w kA HL σ1) H1 → va_S (fun q => HL.size ≤ q) HL H1 locs1 → H1.size = HL.size + σ1.2.2.2.2.1 → W p l e R s m args below meth c H1 locs1 (cells + (σ1.2.2.2.2.1 - σ.2.2.2.2.1)) (slots + (σ1.2.2.2.2.2 - σ.2.2.2.2.2)) Q (F0 m (pc + 3) la ((r.map (pm_v b HL)).toList ++ rest.map (pm_v b HL))) := by
    intro H1 locs1 q1 q2 q3
    have := k H1 locs1 ⟨q1, q2, q3, hl, hlen⟩
    rw [List.map_append] at this
    cases r <;> exact this
  have S : CallFix p m c (pm_code mi) (pm_max mi) s args [] (pm_on (pm_ow mi)) := ⟨hx, hb, hml, hown, fun _ h => by cases h⟩
  cases i with
  | invokevirtual n =>
    simp only [pm_inv] at h
    split at h
    · rename_i j' hj'
      split at h
      · rename_i q rest' hdr
        split at h
        · rename_i hc
          simp only [Bool.and_eq_true, decide_eq_true_eq] at hc
          obtain ⟨h1, h2, h3, h4, h5, h6, h7⟩ := hc
          simp only [Option.some.injEq, Prod.mk.injEq] at h
          obtain ⟨rfl, rfl, rfl⟩ := h
          obtain ⟨hjc, hlk⟩ := pm_okL hj'
          obtain ⟨m1, m2, m3, m4, m5, m6, m7, m8, m9, m10, m11, m12⟩ := pm_okM hjc
          have m7 := m7 (by omega)
          obtain ⟨C, T, v1, v2⟩ := m9 h1
          have he := pm_w_at (kA := kA) (HL := HL) h3 h4
          rw [pm_e_obj h5] at he
          have hrec := va_recv hK hP v1 he
          have hst : st.map (pm_v b HL) = (((st.take (pm_np j')).reverse).map (pm_v b HL)).reverse ++ .ref (pm_a b HL q) :: rest'.map (pm_v b HL) := by
            rw [List.map_reverse, List.reverse_reverse, show (.ref (pm_a b HL q) :: rest'.map (pm_v b HL) : List Value) = (Value.ref q :: rest').map (pm_v b HL) from rfl, ← hdr, ← List.map_append, List.take_append_drop]
          have hall : rest'.all pm_vc = true := by
            rw [List.all_eq_true] at h7 ⊢
            intro x hxm
            exact h7 x (List.mem_of_mem_drop (by rw [hdr]; exact List.mem_cons_of_mem _ hxm))
          have hsum := pm_cats (b := b) (HL := HL) rest' hall
          have hWr := lv_room (m := m) (pc := pc) (ls := la) (rest := st.map (pm_v b HL)) (st := rest'.map (pm_v b HL)) (by rw [hsum]; exact h6)
          have hlenA : (((st.take (pm_np j')).reverse).map (pm_v b HL)).length = pm_np j' := by
            rw [List.length_map, List.length_reverse, List.length_take]
            omega
          have hpre : PreV s H C (pm_a b HL q) (va_Pc ((.ref q :: (st.take (pm_np j')).reverse).map (pm_v b HL)) (pm_Wd D kA HL σ)) (((st.take (pm_np j')).reverse).map (pm_v b HL)) := by
            refine ⟨pm_blind, ?_, fun U hU hW => ⟨rfl, hnow U hU hW⟩⟩
            rw [pm_a_pos h3]
            exact hrec
          have hroom : (pm_rm d σ σ1).frames + 1 ≤ R.frames ∧ 8 + (pm_max j' + 11) + (pm_rm d σ σ1).locals ≤ R.locals := by
            refine ⟨hRd.1, ?_⟩
            show 8 + (pm_max j' + 11) + 64 * d ≤ R.locals
            omega
          rcases hlk with hlk | ⟨host, hlk⟩
          · exact pm_run_w (va_runV (g := F0 m pc la (st.map (pm_v b HL))) (rest := rest'.map (pm_v b HL)) S hM ⟨⟨rfl, rfl, hroom.1, hroom.2, pm_code_ws hjc hTb, List.mem_singleton.mpr rfl, pm_word hTb m1 rfl, pm_word hTb m3 rfl, m4, m5, pm_word hTb hlk rfl⟩, pm_word hTb m7 rfl, pm_word hTb v2 rfl⟩ hpre rfl hlenA hl.1 hst hWr hd hf) hS kk
          · exact pm_run_w (va_runVN (g := F0 m pc la (st.map (pm_v b HL))) (rest := rest'.map (pm_v b HL)) S hM ⟨⟨⟨rfl, rfl, hroom.1, hroom.2, pm_code_ws hjc hTb, List.mem_singleton.mpr rfl⟩, pm_word hTb m1 rfl, pm_word hTb m3 rfl, m4, m5, pm_word hTb hlk rfl⟩, pm_word hTb m7 rfl, pm_word hTb v2 rfl⟩ hpre rfl hlenA hl.1 hst hWr hd hf) hS kk
        · cases h
      · cases h
    · cases h
  | invokespecial n =>
    simp only [pm_inv] at h
    split at h
    · rename_i j' hj'
      split at h
      · rename_i q rest' hdr
        split at h
        · rename_i hc
          simp only [Bool.and_eq_true, decide_eq_true_eq] at hc
          obtain ⟨h1, h2, h3, h6, h7⟩ := hc
          simp only [Option.some.injEq, Prod.mk.injEq] at h
          obtain ⟨rfl, rfl, rfl⟩ := h
          obtain ⟨hjc, hlk⟩ := pm_okL hj'
          obtain ⟨m1, m2, m3, m4, m5, m6, m7, m8, m9, m10, m11, m12⟩ := pm_okM hjc
          have m7 := m7 (by omega)
          obtain ⟨n1, n2⟩ := m10 h1
          have m1 := m1
          rw [n2] at m1
          have hcw : Jvm.Cond.code (pm_y j') (pm_code j') (pm_max j') none ∈ pm_ws j' := by
            unfold pm_ws
            rw [n2]
            exact List.mem_singleton.mpr rfl
          have hst : st.map (pm_v b HL) = (((st.take (pm_np j')).reverse).map (pm_v b HL)).reverse ++ .ref (pm_a b HL q) :: rest'.map (pm_v b HL) := by
            rw [List.map_reverse, List.reverse_reverse, show (.ref (pm_a b HL q) :: rest'.map (pm_v b HL) : List Value) = (Value.ref q :: rest').map (pm_v b HL) from rfl, ← hdr, ← List.map_append, List.take_append_drop]
          have hall : rest'.all pm_vc = true := by
            rw [List.all_eq_true] at h7 ⊢
            intro x hxm
            exact h7 x (List.mem_of_mem_drop (by rw [hdr]; exact List.mem_cons_of_mem _ hxm))
          have hsum := pm_cats (b := b) (HL := HL) rest' hall
          have hWr := lv_room (m := m) (pc := pc) (ls := la) (rest := st.map (pm_v b HL)) (st := rest'.map (pm_v b HL)) (by rw [hsum]; exact h6)
          have hlenA : (((st.take (pm_np j')).reverse).map (pm_v b HL)).length = pm_np j' := by
            rw [List.length_map, List.length_reverse, List.length_take]
            omega
          have hpre : PreS s H (va_Pc ((.ref q :: (st.take (pm_np j')).reverse).map (pm_v b HL)) (pm_Wd D kA HL σ)) (.ref (pm_a b HL q) :: ((st.take (pm_np j')).reverse).map (pm_v b HL)) :=
            ⟨pm_blind, fun U hU hW => ⟨rfl, hnow U hU hW⟩⟩
          have hroom : (pm_rm d σ σ1).frames + 1 ≤ R.frames ∧ 8 + (pm_max j' + 11) + (pm_rm d σ σ1).locals ≤ R.locals := by
            refine ⟨hRd.1, ?_⟩
            show 8 + (pm_max j' + 11) + 64 * d ≤ R.locals
            omega
          rcases hlk with hlk | ⟨host, hlk⟩
          · exact pm_run_w (va_runI (g := F0 m pc la (st.map (pm_v b HL))) (rest := rest'.map (pm_v b HL)) S hM ⟨⟨rfl, rfl, hroom.1, hroom.2, pm_code_ws hjc hTb, hcw, pm_word hTb m1 rfl, pm_word hTb m3 rfl, m4, m5, pm_word hTb hlk rfl⟩, n1, pm_word hTb m7 rfl⟩ hpre rfl hlenA hl.1 hst hWr hd hf) hS kk
          · exact pm_run_w (va_runIN (g := F0 m pc la (st.map (pm_v b HL))) (rest := rest'.map (pm_v b HL)) S hM ⟨⟨⟨rfl, rfl, hroom.1, hroom.2, pm_code_ws hjc hTb, hcw⟩, pm_word hTb m1 rfl, pm_word hTb m3 rfl, m4, m5, pm_word hTb hlk rfl⟩, n1, pm_word hTb m7 rfl⟩ hpre rfl hlenA hl.1 hst hWr hd hf) hS kk
        · cases h
      · cases h
    · cases h
  | invokestatic n =>
    simp only [pm_inv] at h
    split at h
    · rename_i j' hj'
      split at h
      · rename_i hc
        simp only [Bool.and_eq_true, decide_eq_true_eq] at hc
        obtain ⟨h1, h2, h6, h7⟩ := hc
        simp only [Option.some.injEq, Prod.mk.injEq] at h
        obtain ⟨rfl, rfl, rfl⟩ := h
        obtain ⟨hjc, hlk⟩ := pm_okL hj'
        obtain ⟨m1, m2, m3, m4, m5, m6, m7, m8, m9, m10, m11, m12⟩ := pm_okM hjc
        have m8 := m8 h1
        have hst : st.map (pm_v b HL) = (((st.take (pm_np j')).reverse).map (pm_v b HL)).reverse ++ (st.drop (pm_np j')).map (pm_v b HL) := by
          rw [List.map_reverse, List.reverse_reverse, ← List.map_append, List.take_append_drop]
        have hall : (st.drop (pm_np j')).all pm_vc = true := by
          rw [List.all_eq_true] at h7 ⊢
          intro x hxm
          exact h7 x (List.mem_of_mem_drop hxm)
        have hsum := pm_cats (b := b) (HL := HL) (st.drop (pm_np j')) hall
        have hWr := lv_room (m := m) (pc := pc) (ls := la) (rest := st.map (pm_v b HL)) (st := (st.drop (pm_np j')).map (pm_v b HL)) (by rw [hsum]; exact h6)
        have hlenA : (((st.take (pm_np j')).reverse).map (pm_v b HL)).length = pm_np j' := by
          rw [List.length_map, List.length_reverse, List.length_take]
          omega
        have hpre : PreS s H (va_Pc (((st.take (pm_np j')).reverse).map (pm_v b HL)) (pm_Wd D kA HL σ)) (((st.take (pm_np j')).reverse).map (pm_v b HL)) :=
          ⟨pm_blind, fun U hU hW => ⟨rfl, hnow U hU hW⟩⟩
        have hroom : (pm_rm d σ σ1).frames + 1 ≤ R.frames ∧ 8 + (pm_max j' + 11) + (pm_rm d σ σ1).locals ≤ R.locals := by
          refine ⟨hRd.1, ?_⟩
          show 8 + (pm_max j' + 11) + 64 * d ≤ R.locals
          omega
        rcases hlk with hlk | ⟨host, hlk⟩
        · exact pm_run_w (va_runS (g := F0 m pc la (st.map (pm_v b HL))) (rest := (st.drop (pm_np j')).map (pm_v b HL)) S hM ⟨⟨rfl, rfl, hroom.1, hroom.2, pm_code_ws hjc hTb, List.mem_singleton.mpr rfl, pm_word hTb m1 rfl, pm_word hTb m3 rfl, m4, m5, pm_word hTb hlk rfl⟩, pm_word hTb m8 rfl⟩ hpre rfl hlenA hl.1 hst hWr hd hf) hS kk
        · exact pm_run_w (va_runSN (g := F0 m pc la (st.map (pm_v b HL))) (rest := (st.drop (pm_np j')).map (pm_v b HL)) S hM ⟨⟨⟨rfl, rfl, hroom.1, hroom.2, pm_code_ws hjc hTb, List.mem_singleton.mpr rfl⟩, pm_word hTb m1 rfl, pm_word hTb m3 rfl, m4, m5, pm_word hTb hlk rfl⟩, pm_word hTb m8 rfl, trivial⟩ hpre rfl hlenA hl.1 hst hWr hd hf) hS kk
      · cases h
    · cases h
  | _ => cases h
end PmV
set_option maxHeartbeats 4000000 in
/-- THE RUN: from a frame that holds the picture to where the picture machine returns -/
theorem pm_exec_w {l : Launch} {D : va_G} {kA : Nat → ClassId} {b : Nat} {X : pm_X} {HL : Heap} {C : pm_O} {d : Nat} (hCle : ∀ j as σ r σ', C j as σ = some (r, σ') → pm_le σ σ') (hC : ∀ j as σ r σ', C j as σ = some (r, σ') → pm_Met l D kA b HL d j as σ r σ')
    {p : Program} {e : Env} {R : Room} {s : State} {m : MethodId} {args : Array Value} {below : List Frame} {meth : Method} {c : Code} {Q : State → Prop} {mi : Nat} {r : Option Value} {σ' : pm_S} {mc ms : Nat} (hF : pm_Fr D kA b X HL mi p R s m meth c) (hRd : d + 1 ≤ R.frames ∧ 64 * (d + 1) ≤ R.locals) (hrc : mc ≤ R.cells ∧ ms ≤ R.slots)
    (fin : ∀ (pc : Nat) (i : Jvm.ClassFile.Instr) (st : List Value) (ls : pm_L) (H : Heap) (locs : List Loc) (la : Array Slot), decode (pm_code mi) pc = .ok (i, 1) → pm_ret (pm_rk mi) i st = some r → pm_Re D kA b HL mi σ' ls H locs la → W p l e R s m args below meth c H locs mc ms Q (F0 m pc la (st.map (pm_v b HL)))) :
    ∀ (f pc : Nat) (ls : pm_L) (st : List Value) (σ : pm_S), pm_exec X C f mi pc ls st σ = some (r, σ') → ∀ (H : Heap) (locs : List Loc) (la : Array Slot) (cells slots : Nat), pm_Re D kA b HL mi σ ls H locs la → s.heap.size + cells = HL.size + σ.2.2.2.2.1 → cells + (σ'.2.2.2.2.1 - σ.2.2.2.2.1) = mc → slots + (σ'.2.2.2.2.2 - σ.2.2.2.2.2) = ms →
      W p l e R s m args below meth c H locs cells slots Q (F0 m pc la (st.map (pm_v b HL)))
  | 0, _, _, _, _, h => by cases h
  | f + 1, pc, ls, st, σ, h => by
    intro H locs la cells slots hR hcs hmc hms
    have ih := fun pc ls st σ h => pm_exec_w hCle hC hF hRd hrc fin f pc ls st σ h
    unfold pm_exec at h
    split at h
    · rename_i i len hdec
      split at h
      · rename_i r' hret
        split at h
        · rename_i hlen
          subst hlen
          cases h
          rw [Nat.sub_self, Nat.add_zero] at hmc hms
          subst hmc
          subst hms
          exact fin pc i st ls H locs la hdec hret hR
        · cases h
      · split at h
        · rename_i j as rest hinv
          split at h
          · rename_i hlen
            subst hlen
            split at h
            · rename_i r1 σ1 hcall
              have l1 := hCle _ _ _ _ _ hcall
              have l2 := pm_exec_le hCle f _ _ _ _ _ _ _ h
              have l11 := l1.1
              have l12 := l1.2
              have l21 := l2.1
              have l22 := l2.2
              exact pm_inv_w hF hR hRd hdec hinv (hC _ _ _ _ _ hcall) ⟨by omega, by omega⟩ fun H1 locs1 hR1 => ih _ _ _ _ h H1 locs1 la _ _ hR1 (by omega) (by omega) (by omega)
            · cases h
          · cases h
        · split at h
          · rename_i pc' ls' st' σ1 hst
            have l1 := pm_step_le hst
            have l2 := pm_exec_le hCle f _ _ _ _ _ _ _ h
            have l11 := l1.1
            have l12 := l1.2
            have l21 := l2.1
            have l22 := l2.2
            unfold pm_step at hst
            split at hst
            · rename_i t st2 hj
              cases hst
              exact pm_jmp_w hF.1 hF.2.1 hdec hj (ih _ _ _ _ h H locs la cells slots hR hcs hmc hms)
            · split at hst
              · rename_i hlen
                subst hlen
                split at hst
                · rename_i v st2 hrd
                  cases hst
                  exact pm_rd_w hF hR hdec hrd (ih _ _ (v :: st2) _ h H locs la cells slots hR hcs hmc hms)
                · split at hst
                  · rename_i n v st2 hlc
                    split at hst
                    · rename_i hn
                      cases hst
                      exact pm_loc_w hF hR hdec hlc hn fun la' hR' => ih _ _ _ _ h H locs la' cells slots hR' hcs hmc hms
                    · cases hst
                  · split at hst
                    · rename_i σ2 st2 hwr
                      cases hst
                      have hn := pm_wr_n hwr
                      have hn1 : σ1.2.2.2.2.1 = σ.2.2.2.2.1 := by rw [hn]
                      have hn2 : σ1.2.2.2.2.2 = σ.2.2.2.2.2 := by rw [hn]
                      exact pm_wr_w hF hR hcs hdec hwr fun H1 locs1 hR1 => ih _ _ _ _ h H1 locs1 la cells slots hR1 (by omega) (by omega) (by omega)
                    · split at hst
                      · rename_i kd n sl st2 hmk
                        cases hst
                        have e1 : (pm_mkS σ kd n sl).2.2.2.2.1 = σ.2.2.2.2.1 + 1 := rfl
                        have e2 : (pm_mkS σ kd n sl).2.2.2.2.2 = σ.2.2.2.2.2 + sl := rfl
                        refine pm_mk_w hF hR hcs (by omega) (by omega) hdec hmk fun H1 hR1 => ?_
                        have := ih _ _ _ _ h H1 locs la (cells + 1) (slots + sl) hR1 (by omega) (by omega) (by omega)
                        have e3 : pm_v b HL (.ref (σ.2.2.2.2.1 + 1)) = .ref (HL.size + σ.2.2.2.2.1) := by
                          show Value.ref (pm_a b HL (σ.2.2.2.2.1 + 1)) = _
                          rw [pm_a_pos (by omega), Nat.add_sub_cancel]
                        rw [List.map_cons, e3] at this
                        exact this
                      · split at hst
                        · rename_i σ2 st2 hjd
                          cases hst
                          have hn := pm_jdk_n hjd
                          have hn1 : σ1.2.2.2.2.1 = σ.2.2.2.2.1 := by rw [hn]
                          have hn2 : σ1.2.2.2.2.2 = σ.2.2.2.2.2 := by rw [hn]
                          exact pm_jdk_w hF hR hcs (by omega) (by omega) hdec hjd fun H1 locs1 hR1 => ih _ _ _ _ h H1 locs1 la cells slots hR1 (by omega) (by omega) (by omega)
                        · split at hst
                          · rename_i st2 hsk
                            cases hst
                            exact pm_stk_w hF.1 hF.2.1 hdec hsk (ih _ _ _ _ h H locs la cells slots hR hcs hmc hms)
                          · cases hst
              · cases hst
          · cases h
    · cases h
set_option maxHeartbeats 4000000 in
/-- THE CALL: a run of the picture machine is a contract of the method -/
theorem pm_call_met {l : Launch} {D : va_G} {kA : Nat → ClassId} {b : Nat} {HL : Heap} {F : Nat} : ∀ (d j : Nat) (as : List Value) (σ : pm_S) (r : Option Value) (σ' : pm_S), pm_call F d j as σ = some (r, σ') → pm_Met l D kA b HL d j as σ r σ'
  | 0, _, _, _, _, _, h => by cases h
  | d + 1, j, as, σ, r, σ', h => by
    unfold pm_call at h
    split at h
    · rename_i hc
      simp only [Bool.and_eq_true, decide_eq_true_eq] at hc
      obtain ⟨hj, hlen, hvc⟩ := hc
      obtain ⟨m1, m2, m3, m4, m5, m6, m7, m8, m9, m10, m11, m12⟩ := pm_okM hj
      refine Met.ofW (cc := pm_code j) (maxL := pm_max j) (ret := pm_rt j) m2 rfl ?_
      intro p e s m args below meth c s₁ B hml hv
      obtain ⟨rfl, hWd⟩ := hv
      obtain ⟨w1, w2, w5, w6, w7⟩ := hWd
      have hown : s.vm.findClass (pm_on (pm_ow j)) = some m.cls := by rw [← m6]; exact findClass_of_methodNamed B.named
      have hlocks : meth.locks = false := B.notSynchronized
      have hr : meth.sig.returnType = pm_rt j := B.returns
      have hF : pm_Fr D kA b none HL j p (pm_rm (d + 1) σ σ') s m meth c := ⟨B.exec, B.bytes, hml, hown, w1, w2, (fun x hx => by cases hx), fun h2 => by rw [(name_of_methodNamed B.named B.method).1]; exact (m10 h2).1, Nat.le_add_left 1 d, by show 64 ≤ 64 * (d + 1); omega⟩
      rw [lg_entry_eq]
      refine pm_exec_w (l := l) (C := pm_call F d) (d := d) (R := pm_rm (d + 1) σ σ') (mc := σ'.2.2.2.2.1 - σ.2.2.2.2.1) (ms := σ'.2.2.2.2.2 - σ.2.2.2.2.2) (pm_call_le d) (fun j as σ r σ' h => pm_call_met d j as σ r σ' h) hF ⟨Nat.le_refl _, Nat.le_refl _⟩ ⟨Nat.le_refl _, Nat.le_refl _⟩ ?_ F 0 (pm_in j as) [] σ h s.heap [] _ 0 0 ⟨w7, w5, w6, pm_in_has hlen hvc, pm_in_len hlen⟩ (by rw [w6]; rfl) (Nat.zero_add _) (Nat.zero_add _)
      intro pc i st ls H locs la hdec hret hR
      have hq := pm_Wd_now hF hR
      have hf : ∀ q ∈ locs, HL.size ≤ q.base := hR.2.1.2.2
      cases i with
      | return_ =>
        simp only [pm_ret] at hret
        split at hret
        · rename_i hk
          match st, hret with
          | [], hret =>
            cases hret
            exact W.vret B.exec B.bytes (hr.trans (m12.1 hk)) (fun t ht hW => ⟨rfl, hq t ht hW⟩) hf hdec
        · cases hret
      | ireturn =>
        simp only [pm_ret] at hret
        split at hret
        · rename_i hk
          match st, hret with
          | [.int x], hret =>
            cases hret
            exact W.iret B.exec B.bytes (hr.trans (m12.2.1 hk)) (fun t ht hW => ⟨rfl, hq t ht hW⟩) hf hdec
        · split at hret
          · rename_i hk
            match st, hret with
            | [.int x], hret =>
              simp only at hret
              split at hret
              · rename_i hx
                cases hret
                rw [Bool.or_eq_true, decide_eq_true_eq, decide_eq_true_eq] at hx
                exact W.zret (ty := .boolean) B.exec B.bytes (hr.trans (m12.2.2.1 hk)) (by rcases hx with rfl | rfl <;> rfl) (fun t ht hW => ⟨rfl, hq t ht hW⟩) hf hdec
              · cases hret
          · split at hret
            · rename_i hk
              match st, hret with
              | [.int x], hret =>
                simp only at hret
                split at hret
                · rename_i hx
                  cases hret
                  rw [Bool.and_eq_true, decide_eq_true_eq, decide_eq_true_eq] at hx
                  exact W.zret (ty := .char) B.exec B.bytes (hr.trans (m12.2.2.2.2 hk)) (by
                    obtain ⟨n, h1, rfl⟩ := nI_of2 (M := 65535) (n := 65535) (by decide) hx.1 hx.2
                    exact (pk_charN (by omega)).1) (fun t ht hW => ⟨rfl, hq t ht hW⟩) hf hdec
                · cases hret
            · cases hret
      | areturn =>
        simp only [pm_ret] at hret
        split at hret
        · rename_i hk
          obtain ⟨rt, k1, k2⟩ := m12.2.2.2.1 hk
          match st, hret with
          | [.ref x], hret =>
            cases hret
            exact W.aret B.exec B.bytes (hr.trans k1) k2 (Or.inr ⟨_, rfl⟩) (fun t ht hW => ⟨rfl, hq t ht hW⟩) hf hdec
        · cases hret
      | _ => cases hret
    · cases h
end
section
/-! RULES: what must hold for the picture machine to come to an answer with Q; one rule an instruction; no fuel in sight. -/
theorem pm_exec_mono {X : pm_X} {C C' : pm_O} (hC : ∀ j as σ x, C j as σ = some x → C' j as σ = some x) : ∀ (f f' : Nat), f ≤ f' → ∀ (mi pc : Nat) (ls : pm_L) (st : List Value) (σ : pm_S) (x : Option Value × pm_S), pm_exec X C f mi pc ls st σ = some x → pm_exec X C' f' mi pc ls st σ = some x
  | 0, _, _, _, _, _, _, _, _, h => by cases h
  | f + 1, 0, hf, _, _, _, _, _, _, _ => by omega
  | f + 1, f' + 1, hf, mi, pc, ls, st, σ, x, h => by
    have ih := pm_exec_mono (X := X) hC f f' (by omega)
    unfold pm_exec at h ⊢
    cases hd : decode (pm_code mi) pc with
    | error e => rw [hd] at h; cases h
    | ok il =>
      obtain ⟨i, len⟩ := il
      rw [hd] at h
      simp only at h ⊢
      cases hr : pm_ret (pm_rk mi) i st with
      | some r => rw [hr] at h; exact h
      | none =>
        rw [hr] at h
        simp only at h ⊢
        cases hi : pm_inv (pm_ow mi) i st σ with
        | some q =>
          obtain ⟨j, as, rest⟩ := q
          rw [hi] at h
          simp only at h ⊢
          by_cases hl : len = 3
          · rw [if_pos hl] at h ⊢
            cases hc : C j as σ with
            | none => rw [hc] at h; cases h
            | some y =>
              rw [hc] at h
              rw [hC _ _ _ _ hc]
              exact ih _ _ _ _ _ _ h
          · rw [if_neg hl] at h; cases h
        | none =>
          rw [hi] at h
          simp only at h ⊢
          cases hs : pm_step X (pm_ow mi) (pm_kd mi) pc len i ls st σ with
          | none => rw [hs] at h; cases h
          | some y =>
            obtain ⟨a1, a2, a3, a4⟩ := y
            rw [hs] at h
            exact ih _ _ _ _ _ _ h
theorem pm_call_mono {F F' : Nat} (hF : F ≤ F') : ∀ (d d' : Nat), d ≤ d' → ∀ (j : Nat) (as : List Value) (σ : pm_S) (x : Option Value × pm_S), pm_call F d j as σ = some x → pm_call F' d' j as σ = some x
  | 0, _, _, _, _, _, _, h => by cases h
  | d + 1, 0, hd, _, _, _, _, _ => by omega
  | d + 1, d' + 1, hd, j, as, σ, x, h => by
    unfold pm_call at h ⊢
    split at h
    · rename_i hc
      rw [if_pos hc]
      exact pm_exec_mono (pm_call_mono hF d d' (by omega)) F F' hF _ _ _ _ _ _ h
    · cases h
def pm_Wp (X : pm_X) (d mi pc : Nat) (ls : pm_L) (st : List Value) (σ : pm_S) (Q : Option Value → pm_S → Prop) : Prop := ∃ (F f : Nat) (r : Option Value) (σ' : pm_S), pm_exec X (pm_call F d) f mi pc ls st σ = some (r, σ') ∧ Q r σ'
def pm_Wc (d j : Nat) (as : List Value) (σ : pm_S) (Q : Option Value → pm_S → Prop) : Prop := ∃ (F : Nat) (r : Option Value) (σ' : pm_S), pm_call F d j as σ = some (r, σ') ∧ Q r σ'
section PmR
variable {X : pm_X} {d mi pc len : Nat} {ls : pm_L} {st : List Value} {σ : pm_S} {Q Q' : Option Value → pm_S → Prop} {i : Jvm.ClassFile.Instr}
theorem wc_mono {j : Nat} {as : List Value} (h : pm_Wc d j as σ Q) (hq : ∀ r σ', Q r σ' → Q' r σ') : pm_Wc d j as σ Q' := by
  obtain ⟨F, r, σ', h1, h2⟩ := h
  exact ⟨F, r, σ', h1, hq _ _ h2⟩
theorem wc_deep {j d' : Nat} {as : List Value} (hd : d ≤ d') (h : pm_Wc d j as σ Q) : pm_Wc d' j as σ Q := by
  obtain ⟨F, r, σ', h1, h2⟩ := h
  exact ⟨F, r, σ', pm_call_mono (Nat.le_refl _) d d' hd _ _ _ _ h1, h2⟩
theorem wp_mono (h : pm_Wp X d mi pc ls st σ Q) (hq : ∀ r σ', Q r σ' → Q' r σ') : pm_Wp X d mi pc ls st σ Q' := by
  obtain ⟨F, f, r, σ', h1, h2⟩ := h
  exact ⟨F, f, r, σ', h1, hq _ _ h2⟩
theorem wc_of {j : Nat} {as : List Value} (hj : j < pm_cnt) (h1 : as.length ≤ pm_max j) (h2 : as.all pm_vc = true) (h : pm_Wp none d j 0 (pm_in j as) [] σ Q) : pm_Wc (d + 1) j as σ Q := by
  obtain ⟨F, f, r, σ', g1, g2⟩ := h
  refine ⟨max F f, r, σ', ?_, g2⟩
  unfold pm_call
  rw [if_pos (by simp [hj, h1, h2])]
  exact pm_exec_mono (pm_call_mono (Nat.le_max_left _ _) d d (Nat.le_refl _)) f _ (Nat.le_max_right _ _) _ _ _ _ _ _ g1
theorem wp_ret {r : Option Value} (hd : decode (pm_code mi) pc = .ok (i, 1)) (hr : pm_ret (pm_rk mi) i st = some r) (h : Q r σ) : pm_Wp X d mi pc ls st σ Q := by
  refine ⟨0, 1, r, σ, ?_, h⟩
  unfold pm_exec
  rw [hd]
  simp only
  rw [hr]
  rfl
theorem wp_call {j : Nat} {as rest : List Value} (hd : decode (pm_code mi) pc = .ok (i, 3)) (hr : pm_ret (pm_rk mi) i st = none) (hi : pm_inv (pm_ow mi) i st σ = some (j, as, rest)) (h : pm_Wc d j as σ (fun r σ1 => pm_Wp X d mi (pc + 3) ls (r.toList ++ rest) σ1 Q)) : pm_Wp X d mi pc ls st σ Q := by
  obtain ⟨F1, r1, σ1, g1, F2, f, r, σ', g2, g3⟩ := h
  refine ⟨max F1 F2, f + 1, r, σ', ?_, g3⟩
  unfold pm_exec
  rw [hd]
  simp only
  rw [hr]
  simp only
  rw [hi]
  simp only [if_true]
  rw [pm_call_mono (Nat.le_max_left _ _) d d (Nat.le_refl _) _ _ _ _ g1]
  exact pm_exec_mono (pm_call_mono (Nat.le_max_right _ _) d d (Nat.le_refl _)) f f (Nat.le_refl _) _ _ _ _ _ _ g2
theorem wp_step {pc' : Nat} {ls' : pm_L} {st' : List Value} {σ1 : pm_S} (hd : decode (pm_code mi) pc = .ok (i, len)) (hr : pm_ret (pm_rk mi) i st = none) (hi : pm_inv (pm_ow mi) i st σ = none) (hs : pm_step X (pm_ow mi) (pm_kd mi) pc len i ls st σ = some (pc', ls', st', σ1)) (h : pm_Wp X d mi pc' ls' st' σ1 Q) : pm_Wp X d mi pc ls st σ Q := by
  obtain ⟨F, f, r, σ', g1, g2⟩ := h
  refine ⟨F, f + 1, r, σ', ?_, g2⟩
  unfold pm_exec
  rw [hd]
  simp only
  rw [hr]
  simp only
  rw [hi]
  simp only
  rw [hs]
  exact g1
/-- some steps at once, neither calls nor returns: by computing -/
def pm_adv (X : pm_X) (mi : Nat) : Nat → Nat × pm_L × List Value × pm_S → Option (Nat × pm_L × List Value × pm_S)
  | 0, g => some g
  | n + 1, g => match decode (pm_code mi) g.1 with
    | .ok (i, len) => match pm_ret (pm_rk mi) i g.2.2.1 with
      | some _ => none
      | none => match pm_inv (pm_ow mi) i g.2.2.1 g.2.2.2 with
        | some _ => none
        | none => match pm_step X (pm_ow mi) (pm_kd mi) g.1 len i g.2.1 g.2.2.1 g.2.2.2 with
          | some g' => pm_adv X mi n g'
          | none => none
    | .error _ => none
theorem wp_adv : ∀ (n : Nat) (pc : Nat) (ls : pm_L) (st : List Value) (σ : pm_S) (g : Nat × pm_L × List Value × pm_S), pm_adv X mi n (pc, ls, st, σ) = some g → pm_Wp X d mi g.1 g.2.1 g.2.2.1 g.2.2.2 Q → pm_Wp X d mi pc ls st σ Q
  | 0, _, _, _, _, _, h, k => by cases h; exact k
  | n + 1, pc, ls, st, σ, g, h, k => by
    unfold pm_adv at h
    simp only at h
    split at h
    · rename_i i len hd
      split at h
      · cases h
      · rename_i hr
        split at h
        · cases h
        · rename_i hi
          split at h
          · rename_i g' hs
            obtain ⟨a1, a2, a3, a4⟩ := g'
            exact wp_step hd hr hi hs (wp_adv n a1 a2 a3 a4 g h k)
          · cases h
    · cases h
end PmR
end
section
/-! RULES, one an instruction. -/
/-- a place holds an object of class c; an array of that kind and length -/
def pm_At (K : Nat → Nat) (n p c : Nat) : Prop := 1 ≤ p ∧ p ≤ n ∧ K p = 10 + c
def pm_Ar (K L : Nat → Nat) (n p k z : Nat) : Prop := 1 ≤ p ∧ p ≤ n ∧ K p = k ∧ L p = z
theorem pm_tok_of {pc t : Nat} {off : Int} (h : (pc : Int) + off = (t : Int)) : pm_tok pc off = true ∧ pm_tgt pc off = t := by
  unfold pm_tok pm_tgt
  rw [h]
  exact ⟨decide_eq_true (Int.natCast_nonneg t), Int.toNat_natCast t⟩
theorem pm_inb_iff {j : Int32} {z : Nat} : pm_inb j z = true ↔ vp_in j z := by
  unfold pm_inb vp_in
  rw [Bool.and_eq_true, decide_eq_true_eq, decide_eq_true_eq, not_or, Nat.not_le]
section PmR2
variable {X : pm_X} {d mi pc : Nat} {ls : pm_L} {st : List Value} {σ : pm_S} {Q : Option Value → pm_S → Prop} {I : Nat → Nat → Int32} {Rf : Nat → Nat → Nat} {K L : Nat → Nat} {n s : Nat}
theorem wp_iconst {k : Int} {v : Int32} (hd : decode (pm_code mi) pc = .ok (.iconst k, 1)) (hv : Int32.ofInt k = v) (h : pm_Wp X d mi (pc + 1) ls (.int v :: st) σ Q) : pm_Wp X d mi pc ls st σ Q := by subst hv; exact wp_step hd rfl rfl rfl h
theorem wp_bipush {k : Int} {v : Int32} (hd : decode (pm_code mi) pc = .ok (.bipush k, 2)) (hv : (Int8.ofInt k).toInt32 = v) (h : pm_Wp X d mi (pc + 2) ls (.int v :: st) σ Q) : pm_Wp X d mi pc ls st σ Q := by subst hv; exact wp_step hd rfl rfl rfl h
theorem wp_sipush {k : Int} {v : Int32} (hd : decode (pm_code mi) pc = .ok (.sipush k, 3)) (hv : (Int16.ofInt k).toInt32 = v) (h : pm_Wp X d mi (pc + 3) ls (.int v :: st) σ Q) : pm_Wp X d mi pc ls st σ Q := by subst hv; exact wp_step hd rfl rfl rfl h
theorem wp_ldc {k : Nat} {v : Int32} (hd : decode (pm_code mi) pc = .ok (.ldc k, 2)) (hv : pm_ldc (pm_ow mi) k = some v) (h : pm_Wp X d mi (pc + 2) ls (.int v :: st) σ Q) : pm_Wp X d mi pc ls st σ Q := wp_step hd rfl rfl (by simp [pm_step, pm_jmp, pm_len, pm_rd, hv]) h
theorem wp_iload_n {k : Fin 4} {x : Int32} (hd : decode (pm_code mi) pc = .ok (.iload_n k, 1)) (hv : pm_ld ls k.val = some (.int x)) (h : pm_Wp X d mi (pc + 1) ls (.int x :: st) σ Q) : pm_Wp X d mi pc ls st σ Q := wp_step hd rfl rfl (by simp [pm_step, pm_jmp, pm_len, pm_rd, hv]) h
theorem wp_iload {k : Nat} {x : Int32} (hd : decode (pm_code mi) pc = .ok (.iload k, 2)) (hv : pm_ld ls k = some (.int x)) (h : pm_Wp X d mi (pc + 2) ls (.int x :: st) σ Q) : pm_Wp X d mi pc ls st σ Q := wp_step hd rfl rfl (by simp [pm_step, pm_jmp, pm_len, pm_rd, hv]) h
theorem wp_aload_n {k : Fin 4} {x : Nat} (hd : decode (pm_code mi) pc = .ok (.aload_n k, 1)) (hv : pm_ld ls k.val = some (.ref x)) (h : pm_Wp X d mi (pc + 1) ls (.ref x :: st) σ Q) : pm_Wp X d mi pc ls st σ Q := wp_step hd rfl rfl (by simp [pm_step, pm_jmp, pm_len, pm_rd, hv]) h
theorem wp_aload {k : Nat} {x : Nat} (hd : decode (pm_code mi) pc = .ok (.aload k, 2)) (hv : pm_ld ls k = some (.ref x)) (h : pm_Wp X d mi (pc + 2) ls (.ref x :: st) σ Q) : pm_Wp X d mi pc ls st σ Q := wp_step hd rfl rfl (by simp [pm_step, pm_jmp, pm_len, pm_rd, hv]) h
theorem wp_istore_n {k : Fin 4} {x : Int32} {ls' : pm_L} (hd : decode (pm_code mi) pc = .ok (.istore_n k, 1)) (hk : k.val < ls.length) (hs : ls.set k.val (some (.int x)) = ls') (h : pm_Wp X d mi (pc + 1) ls' st σ Q) : pm_Wp X d mi pc ls (.int x :: st) σ Q := by
  subst hs
  exact wp_step hd rfl rfl (by simp [pm_step, pm_jmp, pm_len, pm_rd, pm_loc, hk]) h
theorem wp_astore_n {k : Fin 4} {x : Nat} {ls' : pm_L} (hd : decode (pm_code mi) pc = .ok (.astore_n k, 1)) (hk : k.val < ls.length) (hs : ls.set k.val (some (.ref x)) = ls') (h : pm_Wp X d mi (pc + 1) ls' st σ Q) : pm_Wp X d mi pc ls (.ref x :: st) σ Q := by
  subst hs
  exact wp_step hd rfl rfl (by simp [pm_step, pm_jmp, pm_len, pm_rd, pm_loc, hk]) h
theorem wp_istore {k : Nat} {x : Int32} {ls' : pm_L} (hd : decode (pm_code mi) pc = .ok (.istore k, 2)) (hk : k < ls.length) (hs : ls.set k (some (.int x)) = ls') (h : pm_Wp X d mi (pc + 2) ls' st σ Q) : pm_Wp X d mi pc ls (.int x :: st) σ Q := by
  subst hs
  exact wp_step hd rfl rfl (by simp [pm_step, pm_jmp, pm_len, pm_rd, pm_loc, hk]) h
theorem wp_astore {k : Nat} {x : Nat} {ls' : pm_L} (hd : decode (pm_code mi) pc = .ok (.astore k, 2)) (hk : k < ls.length) (hs : ls.set k (some (.ref x)) = ls') (h : pm_Wp X d mi (pc + 2) ls' st σ Q) : pm_Wp X d mi pc ls (.ref x :: st) σ Q := by
  subst hs
  exact wp_step hd rfl rfl (by simp [pm_step, pm_jmp, pm_len, pm_rd, pm_loc, hk]) h
theorem wp_iinc {k : Nat} {z : Int} {x v : Int32} {ls' : pm_L} (hd : decode (pm_code mi) pc = .ok (.iinc k z, 3)) (hv : pm_ld ls k = some (.int x)) (hz : x + Int32.ofInt z = v) (hs : ls.set k (some (.int v)) = ls') (h : pm_Wp X d mi (pc + 3) ls' st σ Q) : pm_Wp X d mi pc ls st σ Q := by
  subst hs; subst hz
  exact wp_step hd rfl rfl (by simp [pm_step, pm_jmp, pm_len, pm_rd, pm_loc, hv, pm_ld_lt hv]) h
theorem wp_iadd {x y : Int32} (hd : decode (pm_code mi) pc = .ok (.iadd, 1)) (h : pm_Wp X d mi (pc + 1) ls (.int (x + y) :: st) σ Q) : pm_Wp X d mi pc ls (.int y :: .int x :: st) σ Q := wp_step hd rfl rfl rfl h
theorem wp_isub {x y : Int32} (hd : decode (pm_code mi) pc = .ok (.isub, 1)) (h : pm_Wp X d mi (pc + 1) ls (.int (x - y) :: st) σ Q) : pm_Wp X d mi pc ls (.int y :: .int x :: st) σ Q := wp_step hd rfl rfl rfl h
theorem wp_imul {x y : Int32} (hd : decode (pm_code mi) pc = .ok (.imul, 1)) (h : pm_Wp X d mi (pc + 1) ls (.int (x * y) :: st) σ Q) : pm_Wp X d mi pc ls (.int y :: .int x :: st) σ Q := wp_step hd rfl rfl rfl h
theorem wp_iand {x y : Int32} (hd : decode (pm_code mi) pc = .ok (.iand, 1)) (h : pm_Wp X d mi (pc + 1) ls (.int (x &&& y) :: st) σ Q) : pm_Wp X d mi pc ls (.int y :: .int x :: st) σ Q := wp_step hd rfl rfl rfl h
theorem wp_ior {x y : Int32} (hd : decode (pm_code mi) pc = .ok (.ior, 1)) (h : pm_Wp X d mi (pc + 1) ls (.int (x ||| y) :: st) σ Q) : pm_Wp X d mi pc ls (.int y :: .int x :: st) σ Q := wp_step hd rfl rfl rfl h
theorem wp_ixor {x y : Int32} (hd : decode (pm_code mi) pc = .ok (.ixor, 1)) (h : pm_Wp X d mi (pc + 1) ls (.int (x ^^^ y) :: st) σ Q) : pm_Wp X d mi pc ls (.int y :: .int x :: st) σ Q := wp_step hd rfl rfl rfl h
theorem wp_ishl {x y : Int32} (hd : decode (pm_code mi) pc = .ok (.ishl, 1)) (h : pm_Wp X d mi (pc + 1) ls (.int (x <<< (y &&& 31)) :: st) σ Q) : pm_Wp X d mi pc ls (.int y :: .int x :: st) σ Q := wp_step hd rfl rfl rfl h
theorem wp_ishr {x y : Int32} (hd : decode (pm_code mi) pc = .ok (.ishr, 1)) (h : pm_Wp X d mi (pc + 1) ls (.int (x >>> (y &&& 31)) :: st) σ Q) : pm_Wp X d mi pc ls (.int y :: .int x :: st) σ Q := wp_step hd rfl rfl rfl h
theorem wp_iushr {x y : Int32} (hd : decode (pm_code mi) pc = .ok (.iushr, 1)) (h : pm_Wp X d mi (pc + 1) ls (.int ((x.toUInt32 >>> (y.toUInt32 &&& Int32.toUInt32 31)).toInt32) :: st) σ Q) : pm_Wp X d mi pc ls (.int y :: .int x :: st) σ Q := wp_step hd rfl rfl rfl h
theorem wp_idiv {x y : Int32} (hd : decode (pm_code mi) pc = .ok (.idiv, 1)) (hy : ¬ y = 0) (h : pm_Wp X d mi (pc + 1) ls (.int (x / y) :: st) σ Q) : pm_Wp X d mi pc ls (.int y :: .int x :: st) σ Q := wp_step hd rfl rfl (by simp [pm_step, pm_jmp, pm_len, pm_rd, pm_loc, pm_wr, pm_mk, pm_jdk, pm_stk, pm_bin, hy]) h
theorem wp_irem {x y : Int32} (hd : decode (pm_code mi) pc = .ok (.irem, 1)) (hy : ¬ y = 0) (h : pm_Wp X d mi (pc + 1) ls (.int (x - x / y * y) :: st) σ Q) : pm_Wp X d mi pc ls (.int y :: .int x :: st) σ Q := wp_step hd rfl rfl (by simp [pm_step, pm_jmp, pm_len, pm_rd, pm_loc, pm_wr, pm_mk, pm_jdk, pm_stk, pm_bin, hy]) h
theorem wp_ineg {x : Int32} (hd : decode (pm_code mi) pc = .ok (.ineg, 1)) (h : pm_Wp X d mi (pc + 1) ls (.int (-x) :: st) σ Q) : pm_Wp X d mi pc ls (.int x :: st) σ Q := wp_step hd rfl rfl rfl h
theorem wp_i2c {x : Int32} (hd : decode (pm_code mi) pc = .ok (.i2c, 1)) (h : pm_Wp X d mi (pc + 1) ls (.int ((x.toUInt32 % 65536).toInt32) :: st) σ Q) : pm_Wp X d mi pc ls (.int x :: st) σ Q := wp_step hd rfl rfl rfl h
theorem wp_dupi {x : Int32} (hd : decode (pm_code mi) pc = .ok (.dup, 1)) (h : pm_Wp X d mi (pc + 1) ls (.int x :: .int x :: st) σ Q) : pm_Wp X d mi pc ls (.int x :: st) σ Q := wp_step hd rfl rfl rfl h
theorem wp_dupr {x : Nat} (hd : decode (pm_code mi) pc = .ok (.dup, 1)) (h : pm_Wp X d mi (pc + 1) ls (.ref x :: .ref x :: st) σ Q) : pm_Wp X d mi pc ls (.ref x :: st) σ Q := wp_step hd rfl rfl rfl h
theorem wp_popi {x : Int32} (hd : decode (pm_code mi) pc = .ok (.pop, 1)) (h : pm_Wp X d mi (pc + 1) ls st σ Q) : pm_Wp X d mi pc ls (.int x :: st) σ Q := wp_step hd rfl rfl rfl h
theorem wp_popr {x : Nat} (hd : decode (pm_code mi) pc = .ok (.pop, 1)) (h : pm_Wp X d mi (pc + 1) ls st σ Q) : pm_Wp X d mi pc ls (.ref x :: st) σ Q := wp_step hd rfl rfl rfl h
theorem wp_dup_x1i {x : Int32} {y : Nat} (hd : decode (pm_code mi) pc = .ok (.dup_x1, 1)) (h : pm_Wp X d mi (pc + 1) ls (.int x :: .ref y :: .int x :: st) σ Q) : pm_Wp X d mi pc ls (.int x :: .ref y :: st) σ Q := wp_step hd rfl rfl rfl h
theorem wp_dup_x2i {x j : Int32} {y : Nat} (hd : decode (pm_code mi) pc = .ok (.dup_x2, 1)) (h : pm_Wp X d mi (pc + 1) ls (.int x :: .int j :: .ref y :: .int x :: st) σ Q) : pm_Wp X d mi pc ls (.int x :: .int j :: .ref y :: st) σ Q := wp_step hd rfl rfl rfl h
theorem wp_dup2 {j : Int32} {y : Nat} (hd : decode (pm_code mi) pc = .ok (.dup2, 1)) (h : pm_Wp X d mi (pc + 1) ls (.int j :: .ref y :: .int j :: .ref y :: st) σ Q) : pm_Wp X d mi pc ls (.int j :: .ref y :: st) σ Q := wp_step hd rfl rfl rfl h
theorem wp_goto {off : Int} {t : Nat} (hd : decode (pm_code mi) pc = .ok (.goto off, 3)) (ht : (pc : Int) + off = (t : Int)) (h : pm_Wp X d mi t ls st σ Q) : pm_Wp X d mi pc ls st σ Q :=
  wp_step hd rfl rfl (by simp [pm_step, pm_jmp, (pm_tok_of ht).1, (pm_tok_of ht).2]) h
theorem wp_if_eq {x : Int32} {off : Int} {t : Nat} (hd : decode (pm_code mi) pc = .ok (.ifCond .eq off, 3)) (ht : (pc : Int) + off = (t : Int)) (kt : x = 0 → pm_Wp X d mi t ls st σ Q) (kf : ¬ x = 0 → pm_Wp X d mi (pc + 3) ls st σ Q) : pm_Wp X d mi pc ls (.int x :: st) σ Q := by
  by_cases hc : x = x ∧ (x = 0)
  · have hc := hc.2
    exact wp_step hd rfl rfl (by simp [pm_step, pm_jmp, pm_cmp, hc, (pm_tok_of ht).1, (pm_tok_of ht).2]) (kt hc)
  · have hc : ¬ (x = 0) := fun q => hc ⟨rfl, q⟩
    exact wp_step (pc' := pc + 3) hd rfl rfl (by simp [pm_step, pm_jmp, pm_cmp, hc, (pm_tok_of ht).1, (pm_tok_of ht).2]) (kf (by first | exact hc | exact Classical.not_not.mp hc))
theorem wp_icmp_eq {x y : Int32} {off : Int} {t : Nat} (hd : decode (pm_code mi) pc = .ok (.if_icmp .eq off, 3)) (ht : (pc : Int) + off = (t : Int)) (kt : x = y → pm_Wp X d mi t ls st σ Q) (kf : ¬ x = y → pm_Wp X d mi (pc + 3) ls st σ Q) : pm_Wp X d mi pc ls (.int y :: .int x :: st) σ Q := by
  by_cases hc : x = x ∧ (x = y)
  · have hc := hc.2
    exact wp_step hd rfl rfl (by simp [pm_step, pm_jmp, pm_cmp, hc, (pm_tok_of ht).1, (pm_tok_of ht).2]) (kt hc)
  · have hc : ¬ (x = y) := fun q => hc ⟨rfl, q⟩
    exact wp_step (pc' := pc + 3) hd rfl rfl (by simp [pm_step, pm_jmp, pm_cmp, hc, (pm_tok_of ht).1, (pm_tok_of ht).2]) (kf (by first | exact hc | exact Classical.not_not.mp hc))
theorem wp_if_ne {x : Int32} {off : Int} {t : Nat} (hd : decode (pm_code mi) pc = .ok (.ifCond .ne off, 3)) (ht : (pc : Int) + off = (t : Int)) (kt : ¬ x = 0 → pm_Wp X d mi t ls st σ Q) (kf : x = 0 → pm_Wp X d mi (pc + 3) ls st σ Q) : pm_Wp X d mi pc ls (.int x :: st) σ Q := by
  by_cases hc : x = x ∧ (¬ x = 0)
  · have hc := hc.2
    exact wp_step hd rfl rfl (by simp [pm_step, pm_jmp, pm_cmp, hc, (pm_tok_of ht).1, (pm_tok_of ht).2]) (kt hc)
  · have hc : ¬ (¬ x = 0) := fun q => hc ⟨rfl, q⟩
    exact wp_step (pc' := pc + 3) hd rfl rfl (by simp [pm_step, pm_jmp, pm_cmp, hc, (pm_tok_of ht).1, (pm_tok_of ht).2]) (kf (by first | exact hc | exact Classical.not_not.mp hc))
theorem wp_icmp_ne {x y : Int32} {off : Int} {t : Nat} (hd : decode (pm_code mi) pc = .ok (.if_icmp .ne off, 3)) (ht : (pc : Int) + off = (t : Int)) (kt : ¬ x = y → pm_Wp X d mi t ls st σ Q) (kf : x = y → pm_Wp X d mi (pc + 3) ls st σ Q) : pm_Wp X d mi pc ls (.int y :: .int x :: st) σ Q := by
  by_cases hc : x = x ∧ (¬ x = y)
  · have hc := hc.2
    exact wp_step hd rfl rfl (by simp [pm_step, pm_jmp, pm_cmp, hc, (pm_tok_of ht).1, (pm_tok_of ht).2]) (kt hc)
  · have hc : ¬ (¬ x = y) := fun q => hc ⟨rfl, q⟩
    exact wp_step (pc' := pc + 3) hd rfl rfl (by simp [pm_step, pm_jmp, pm_cmp, hc, (pm_tok_of ht).1, (pm_tok_of ht).2]) (kf (by first | exact hc | exact Classical.not_not.mp hc))
theorem wp_if_lt {x : Int32} {off : Int} {t : Nat} (hd : decode (pm_code mi) pc = .ok (.ifCond .lt off, 3)) (ht : (pc : Int) + off = (t : Int)) (kt : x < 0 → pm_Wp X d mi t ls st σ Q) (kf : ¬ x < 0 → pm_Wp X d mi (pc + 3) ls st σ Q) : pm_Wp X d mi pc ls (.int x :: st) σ Q := by
  by_cases hc : x = x ∧ (x < 0)
  · have hc := hc.2
    exact wp_step hd rfl rfl (by simp [pm_step, pm_jmp, pm_cmp, hc, (pm_tok_of ht).1, (pm_tok_of ht).2]) (kt hc)
  · have hc : ¬ (x < 0) := fun q => hc ⟨rfl, q⟩
    exact wp_step (pc' := pc + 3) hd rfl rfl (by simp [pm_step, pm_jmp, pm_cmp, hc, (pm_tok_of ht).1, (pm_tok_of ht).2]) (kf (by first | exact hc | exact Classical.not_not.mp hc))
theorem wp_icmp_lt {x y : Int32} {off : Int} {t : Nat} (hd : decode (pm_code mi) pc = .ok (.if_icmp .lt off, 3)) (ht : (pc : Int) + off = (t : Int)) (kt : x < y → pm_Wp X d mi t ls st σ Q) (kf : ¬ x < y → pm_Wp X d mi (pc + 3) ls st σ Q) : pm_Wp X d mi pc ls (.int y :: .int x :: st) σ Q := by
  by_cases hc : x = x ∧ (x < y)
  · have hc := hc.2
    exact wp_step hd rfl rfl (by simp [pm_step, pm_jmp, pm_cmp, hc, (pm_tok_of ht).1, (pm_tok_of ht).2]) (kt hc)
  · have hc : ¬ (x < y) := fun q => hc ⟨rfl, q⟩
    exact wp_step (pc' := pc + 3) hd rfl rfl (by simp [pm_step, pm_jmp, pm_cmp, hc, (pm_tok_of ht).1, (pm_tok_of ht).2]) (kf (by first | exact hc | exact Classical.not_not.mp hc))
theorem wp_if_ge {x : Int32} {off : Int} {t : Nat} (hd : decode (pm_code mi) pc = .ok (.ifCond .ge off, 3)) (ht : (pc : Int) + off = (t : Int)) (kt : 0 ≤ x → pm_Wp X d mi t ls st σ Q) (kf : ¬ 0 ≤ x → pm_Wp X d mi (pc + 3) ls st σ Q) : pm_Wp X d mi pc ls (.int x :: st) σ Q := by
  by_cases hc : x = x ∧ (0 ≤ x)
  · have hc := hc.2
    exact wp_step hd rfl rfl (by simp [pm_step, pm_jmp, pm_cmp, hc, (pm_tok_of ht).1, (pm_tok_of ht).2]) (kt hc)
  · have hc : ¬ (0 ≤ x) := fun q => hc ⟨rfl, q⟩
    exact wp_step (pc' := pc + 3) hd rfl rfl (by simp [pm_step, pm_jmp, pm_cmp, hc, (pm_tok_of ht).1, (pm_tok_of ht).2]) (kf (by first | exact hc | exact Classical.not_not.mp hc))
theorem wp_icmp_ge {x y : Int32} {off : Int} {t : Nat} (hd : decode (pm_code mi) pc = .ok (.if_icmp .ge off, 3)) (ht : (pc : Int) + off = (t : Int)) (kt : y ≤ x → pm_Wp X d mi t ls st σ Q) (kf : ¬ y ≤ x → pm_Wp X d mi (pc + 3) ls st σ Q) : pm_Wp X d mi pc ls (.int y :: .int x :: st) σ Q := by
  by_cases hc : x = x ∧ (y ≤ x)
  · have hc := hc.2
    exact wp_step hd rfl rfl (by simp [pm_step, pm_jmp, pm_cmp, hc, (pm_tok_of ht).1, (pm_tok_of ht).2]) (kt hc)
  · have hc : ¬ (y ≤ x) := fun q => hc ⟨rfl, q⟩
    exact wp_step (pc' := pc + 3) hd rfl rfl (by simp [pm_step, pm_jmp, pm_cmp, hc, (pm_tok_of ht).1, (pm_tok_of ht).2]) (kf (by first | exact hc | exact Classical.not_not.mp hc))
theorem wp_if_gt {x : Int32} {off : Int} {t : Nat} (hd : decode (pm_code mi) pc = .ok (.ifCond .gt off, 3)) (ht : (pc : Int) + off = (t : Int)) (kt : 0 < x → pm_Wp X d mi t ls st σ Q) (kf : ¬ 0 < x → pm_Wp X d mi (pc + 3) ls st σ Q) : pm_Wp X d mi pc ls (.int x :: st) σ Q := by
  by_cases hc : x = x ∧ (0 < x)
  · have hc := hc.2
    exact wp_step hd rfl rfl (by simp [pm_step, pm_jmp, pm_cmp, hc, (pm_tok_of ht).1, (pm_tok_of ht).2]) (kt hc)
  · have hc : ¬ (0 < x) := fun q => hc ⟨rfl, q⟩
    exact wp_step (pc' := pc + 3) hd rfl rfl (by simp [pm_step, pm_jmp, pm_cmp, hc, (pm_tok_of ht).1, (pm_tok_of ht).2]) (kf (by first | exact hc | exact Classical.not_not.mp hc))
theorem wp_icmp_gt {x y : Int32} {off : Int} {t : Nat} (hd : decode (pm_code mi) pc = .ok (.if_icmp .gt off, 3)) (ht : (pc : Int) + off = (t : Int)) (kt : y < x → pm_Wp X d mi t ls st σ Q) (kf : ¬ y < x → pm_Wp X d mi (pc + 3) ls st σ Q) : pm_Wp X d mi pc ls (.int y :: .int x :: st) σ Q := by
  by_cases hc : x = x ∧ (y < x)
  · have hc := hc.2
    exact wp_step hd rfl rfl (by simp [pm_step, pm_jmp, pm_cmp, hc, (pm_tok_of ht).1, (pm_tok_of ht).2]) (kt hc)
  · have hc : ¬ (y < x) := fun q => hc ⟨rfl, q⟩
    exact wp_step (pc' := pc + 3) hd rfl rfl (by simp [pm_step, pm_jmp, pm_cmp, hc, (pm_tok_of ht).1, (pm_tok_of ht).2]) (kf (by first | exact hc | exact Classical.not_not.mp hc))
theorem wp_if_le {x : Int32} {off : Int} {t : Nat} (hd : decode (pm_code mi) pc = .ok (.ifCond .le off, 3)) (ht : (pc : Int) + off = (t : Int)) (kt : x ≤ 0 → pm_Wp X d mi t ls st σ Q) (kf : ¬ x ≤ 0 → pm_Wp X d mi (pc + 3) ls st σ Q) : pm_Wp X d mi pc ls (.int x :: st) σ Q := by
  by_cases hc : x = x ∧ (x ≤ 0)
  · have hc := hc.2
    exact wp_step hd rfl rfl (by simp [pm_step, pm_jmp, pm_cmp, hc, (pm_tok_of ht).1, (pm_tok_of ht).2]) (kt hc)
  · have hc : ¬ (x ≤ 0) := fun q => hc ⟨rfl, q⟩
    exact wp_step (pc' := pc + 3) hd rfl rfl (by simp [pm_step, pm_jmp, pm_cmp, hc, (pm_tok_of ht).1, (pm_tok_of ht).2]) (kf (by first | exact hc | exact Classical.not_not.mp hc))
theorem wp_icmp_le {x y : Int32} {off : Int} {t : Nat} (hd : decode (pm_code mi) pc = .ok (.if_icmp .le off, 3)) (ht : (pc : Int) + off = (t : Int)) (kt : x ≤ y → pm_Wp X d mi t ls st σ Q) (kf : ¬ x ≤ y → pm_Wp X d mi (pc + 3) ls st σ Q) : pm_Wp X d mi pc ls (.int y :: .int x :: st) σ Q := by
  by_cases hc : x = x ∧ (x ≤ y)
  · have hc := hc.2
    exact wp_step hd rfl rfl (by simp [pm_step, pm_jmp, pm_cmp, hc, (pm_tok_of ht).1, (pm_tok_of ht).2]) (kt hc)
  · have hc : ¬ (x ≤ y) := fun q => hc ⟨rfl, q⟩
    exact wp_step (pc' := pc + 3) hd rfl rfl (by simp [pm_step, pm_jmp, pm_cmp, hc, (pm_tok_of ht).1, (pm_tok_of ht).2]) (kf (by first | exact hc | exact Classical.not_not.mp hc))
theorem wp_table {x : Int32} {dflt lo hi : Int} {offs : Array Int} {len t : Nat} (hd : decode (pm_code mi) pc = .ok (.tableswitch dflt lo hi offs, len)) (hj : pm_jmp pc len (.tableswitch dflt lo hi offs) (.int x :: st) = some (t, st)) (h : pm_Wp X d mi t ls st σ Q) : pm_Wp X d mi pc ls (.int x :: st) σ Q :=
  wp_step hd rfl rfl (by simp [pm_step, hj]) h
theorem wp_lookup {x : Int32} {dflt : Int} {ps : Array (Int × Int)} {len t : Nat} (hd : decode (pm_code mi) pc = .ok (.lookupswitch dflt ps, len)) (hj : pm_jmp pc len (.lookupswitch dflt ps) (.int x :: st) = some (t, st)) (h : pm_Wp X d mi t ls st σ Q) : pm_Wp X d mi pc ls (.int x :: st) σ Q :=
  wp_step hd rfl rfl (by simp [pm_step, hj]) h
theorem wp_getI {k c f p : Nat} (hd : decode (pm_code mi) pc = .ok (.getfield k, 3)) (hf : pm_fld (pm_ow mi) k = some (c, f)) (ha : pm_At K n p c) (hk : pm_fk c f ≠ 3) (h : pm_Wp X d mi (pc + 3) ls (.int (I p f) :: st) (I, Rf, K, L, n, s) Q) : pm_Wp X d mi pc ls (.ref p :: st) (I, Rf, K, L, n, s) Q := by
  obtain ⟨a1, a2, a3⟩ := ha
  exact wp_step hd rfl rfl (by simp [pm_step, pm_jmp, pm_len, pm_rd, hf, hk, a1, a2, a3]) h
theorem wp_getR {k c f p q : Nat} (hd : decode (pm_code mi) pc = .ok (.getfield k, 3)) (hf : pm_fld (pm_ow mi) k = some (c, f)) (ha : pm_At K n p c) (hk : pm_fk c f = 3) (hq : Rf p f = q) (hq1 : 1 ≤ q) (h : pm_Wp X d mi (pc + 3) ls (.ref q :: st) (I, Rf, K, L, n, s) Q) : pm_Wp X d mi pc ls (.ref p :: st) (I, Rf, K, L, n, s) Q := by
  obtain ⟨a1, a2, a3⟩ := ha
  exact wp_step hd rfl rfl (by simp [pm_step, pm_jmp, pm_len, pm_rd, pm_rv, hf, hk, a1, a2, a3, hq, Nat.ne_of_gt hq1]) h
theorem wp_putI {k c f p : Nat} {x : Int32} (hd : decode (pm_code mi) pc = .ok (.putfield k, 3)) (hf : pm_fld (pm_ow mi) k = some (c, f)) (ha : pm_At K n p c) (hx : pm_fi (pm_fk c f) x = true) (hn : (!pm_fin c f || (decide (pm_kd mi = 2) && pm_own (pm_ow mi) c)) = true) (h : pm_Wp X d mi (pc + 3) ls st (pm_u I p (upd (I p) f x), Rf, K, L, n, s) Q) : pm_Wp X d mi pc ls (.int x :: .ref p :: st) (I, Rf, K, L, n, s) Q := by
  obtain ⟨a1, a2, a3⟩ := ha
  exact wp_step hd rfl rfl (by simp only [pm_step, pm_jmp, pm_len, pm_rd, pm_loc, pm_wr, hf, a1, a2, a3, hx, hn]; simp) h
theorem wp_putR {k c f p x : Nat} (hd : decode (pm_code mi) pc = .ok (.putfield k, 3)) (hf : pm_fld (pm_ow mi) k = some (c, f)) (ha : pm_At K n p c) (hx : 1 ≤ x) (hk : pm_fk c f = 3) (hn : (!pm_fin c f || (decide (pm_kd mi = 2) && pm_own (pm_ow mi) c)) = true) (h : pm_Wp X d mi (pc + 3) ls st (I, pm_u Rf p (pm_u (Rf p) f x), K, L, n, s) Q) : pm_Wp X d mi pc ls (.ref x :: .ref p :: st) (I, Rf, K, L, n, s) Q := by
  obtain ⟨a1, a2, a3⟩ := ha
  exact wp_step hd rfl rfl (by simp only [pm_step, pm_jmp, pm_len, pm_rd, pm_loc, pm_wr, hf, a1, a2, a3, hx, hk, hn]; simp) h
theorem wp_iald {p z : Nat} {j : Int32} (hd : decode (pm_code mi) pc = .ok (.iaload, 1)) (ha : pm_Ar K L n p 0 z) (hj : vp_in j z) (h : pm_Wp X d mi (pc + 1) ls (.int (I p j.toNatClampNeg) :: st) (I, Rf, K, L, n, s) Q) : pm_Wp X d mi pc ls (.int j :: .ref p :: st) (I, Rf, K, L, n, s) Q := by
  obtain ⟨a1, a2, a3, a4⟩ := ha
  exact wp_step hd rfl rfl (by simp [pm_step, pm_jmp, pm_len, pm_rd, a1, a2, a3, a4, pm_inb_iff.mpr hj, Nat.ne_of_gt a1]) h
theorem wp_cald {p z : Nat} {j : Int32} (hd : decode (pm_code mi) pc = .ok (.caload, 1)) (ha : pm_Ar K L n p 1 z) (hj : vp_in j z) (h : pm_Wp X d mi (pc + 1) ls (.int (I p j.toNatClampNeg) :: st) (I, Rf, K, L, n, s) Q) : pm_Wp X d mi pc ls (.int j :: .ref p :: st) (I, Rf, K, L, n, s) Q := by
  obtain ⟨a1, a2, a3, a4⟩ := ha
  exact wp_step hd rfl rfl (by simp [pm_step, pm_jmp, pm_len, pm_rd, a1, a2, a3, a4, pm_inb_iff.mpr hj, Nat.ne_of_gt a1]) h
theorem wp_zald {p z : Nat} {j : Int32} (hd : decode (pm_code mi) pc = .ok (.baload, 1)) (ha : pm_Ar K L n p 2 z) (hj : vp_in j z) (h : pm_Wp X d mi (pc + 1) ls (.int (I p j.toNatClampNeg) :: st) (I, Rf, K, L, n, s) Q) : pm_Wp X d mi pc ls (.int j :: .ref p :: st) (I, Rf, K, L, n, s) Q := by
  obtain ⟨a1, a2, a3, a4⟩ := ha
  exact wp_step hd rfl rfl (by simp [pm_step, pm_jmp, pm_len, pm_rd, a1, a2, a3, a4, pm_inb_iff.mpr hj, Nat.ne_of_gt a1]) h
theorem wp_aald {p z q : Nat} {j : Int32} (hd : decode (pm_code mi) pc = .ok (.aaload, 1)) (ha : pm_Ar K L n p 3 z) (hj : vp_in j z) (hq : Rf p j.toNatClampNeg = q) (hq1 : 1 ≤ q) (h : pm_Wp X d mi (pc + 1) ls (.ref q :: st) (I, Rf, K, L, n, s) Q) : pm_Wp X d mi pc ls (.int j :: .ref p :: st) (I, Rf, K, L, n, s) Q := by
  obtain ⟨a1, a2, a3, a4⟩ := ha
  exact wp_step hd rfl rfl (by simp [pm_step, pm_jmp, pm_len, pm_rd, pm_rv, a1, a2, a3, a4, pm_inb_iff.mpr hj, hq, Nat.ne_of_gt hq1]) h
theorem wp_iast {p z : Nat} {j x : Int32} (hd : decode (pm_code mi) pc = .ok (.iastore, 1)) (ha : pm_Ar K L n p 0 z) (hj : vp_in j z) (h : pm_Wp X d mi (pc + 1) ls st (pm_u I p (upd (I p) j.toNatClampNeg x), Rf, K, L, n, s) Q) : pm_Wp X d mi pc ls (.int x :: .int j :: .ref p :: st) (I, Rf, K, L, n, s) Q := by
  obtain ⟨a1, a2, a3, a4⟩ := ha
  exact wp_step hd rfl rfl (by simp [pm_step, pm_jmp, pm_len, pm_rd, pm_loc, pm_wr, a1, a2, a3, a4, pm_inb_iff.mpr hj]) h
theorem wp_cast {p z : Nat} {j x : Int32} (hd : decode (pm_code mi) pc = .ok (.castore, 1)) (ha : pm_Ar K L n p 1 z) (hj : vp_in j z) (h : pm_Wp X d mi (pc + 1) ls st (pm_u I p (upd (I p) j.toNatClampNeg (vp_nar .char x)), Rf, K, L, n, s) Q) : pm_Wp X d mi pc ls (.int x :: .int j :: .ref p :: st) (I, Rf, K, L, n, s) Q := by
  obtain ⟨a1, a2, a3, a4⟩ := ha
  exact wp_step hd rfl rfl (by simp [pm_step, pm_jmp, pm_len, pm_rd, pm_loc, pm_wr, a1, a2, a3, a4, pm_inb_iff.mpr hj]) h
theorem wp_zast {p z : Nat} {j x : Int32} (hd : decode (pm_code mi) pc = .ok (.bastore, 1)) (ha : pm_Ar K L n p 2 z) (hj : vp_in j z) (h : pm_Wp X d mi (pc + 1) ls st (pm_u I p (upd (I p) j.toNatClampNeg (vp_nar .boolean x)), Rf, K, L, n, s) Q) : pm_Wp X d mi pc ls (.int x :: .int j :: .ref p :: st) (I, Rf, K, L, n, s) Q := by
  obtain ⟨a1, a2, a3, a4⟩ := ha
  exact wp_step hd rfl rfl (by simp [pm_step, pm_jmp, pm_len, pm_rd, pm_loc, pm_wr, a1, a2, a3, a4, pm_inb_iff.mpr hj]) h
theorem wp_alen {p k z : Nat} (hd : decode (pm_code mi) pc = .ok (.arraylength, 1)) (ha : pm_Ar K L n p k z) (hk : k < pm_nk) (h : pm_Wp X d mi (pc + 1) ls (.int (Int32.ofNat z) :: st) (I, Rf, K, L, n, s) Q) : pm_Wp X d mi pc ls (.ref p :: st) (I, Rf, K, L, n, s) Q := by
  obtain ⟨a1, a2, a3, a4⟩ := ha
  exact wp_step hd rfl rfl (by simp [pm_step, pm_jmp, pm_len, pm_rd, a2, a3, a4, hk, Nat.ne_of_gt a1]) h
theorem wp_sld {x : Nat × (Nat → Int32)} {j : Int32} (hd : decode (pm_code mi) pc = .ok (.iaload, 1)) (hj : vp_in j x.1) (h : pm_Wp (some x) d mi (pc + 1) ls (.int (x.2 j.toNatClampNeg) :: st) σ Q) : pm_Wp (some x) d mi pc ls (.int j :: .ref 0 :: st) σ Q := wp_step hd rfl rfl (by simp [pm_step, pm_jmp, pm_len, pm_rd, pm_inb_iff.mpr hj]) h
theorem wp_slen {x : Nat × (Nat → Int32)} (hd : decode (pm_code mi) pc = .ok (.arraylength, 1)) (h : pm_Wp (some x) d mi (pc + 1) ls (.int (Int32.ofNat x.1) :: st) σ Q) : pm_Wp (some x) d mi pc ls (.ref 0 :: st) σ Q := wp_step hd rfl rfl (by simp [pm_step, pm_jmp, pm_len, pm_rd]) h
theorem wp_new {k c : Nat} (hd : decode (pm_code mi) pc = .ok (.new k, 3)) (hc : pm_new (pm_ow mi) k = some c) (h : pm_Wp X d mi (pc + 3) ls (.ref (σ.2.2.2.2.1 + 1) :: st) (pm_mkS σ (10 + c) 0 (pm_nf c)) Q) : pm_Wp X d mi pc ls st σ Q := wp_step hd rfl rfl (by simp [pm_step, pm_jmp, pm_len, pm_rd, pm_loc, pm_wr, pm_mk, hc]) h
theorem wp_newI {z : Int32} (hd : decode (pm_code mi) pc = .ok (.newarray .int, 2)) (h0 : ¬ z < 0) (h1 : z.toNatClampNeg ≤ 100000) (h : pm_Wp X d mi (pc + 2) ls (.ref (σ.2.2.2.2.1 + 1) :: st) (pm_mkS σ 0 z.toNatClampNeg z.toNatClampNeg) Q) : pm_Wp X d mi pc ls (.int z :: st) σ Q := wp_step hd rfl rfl (by simp [pm_step, pm_jmp, pm_len, pm_rd, pm_loc, pm_wr, pm_mk, h0, h1]) h
theorem wp_newC {z : Int32} (hd : decode (pm_code mi) pc = .ok (.newarray .char, 2)) (h0 : ¬ z < 0) (h1 : z.toNatClampNeg ≤ 100000) (h : pm_Wp X d mi (pc + 2) ls (.ref (σ.2.2.2.2.1 + 1) :: st) (pm_mkS σ 1 z.toNatClampNeg z.toNatClampNeg) Q) : pm_Wp X d mi pc ls (.int z :: st) σ Q := wp_step hd rfl rfl (by simp [pm_step, pm_jmp, pm_len, pm_rd, pm_loc, pm_wr, pm_mk, h0, h1]) h
theorem wp_newZ {z : Int32} (hd : decode (pm_code mi) pc = .ok (.newarray .boolean, 2)) (h0 : ¬ z < 0) (h1 : z.toNatClampNeg ≤ 100000) (h : pm_Wp X d mi (pc + 2) ls (.ref (σ.2.2.2.2.1 + 1) :: st) (pm_mkS σ 2 z.toNatClampNeg z.toNatClampNeg) Q) : pm_Wp X d mi pc ls (.int z :: st) σ Q := wp_step hd rfl rfl (by simp [pm_step, pm_jmp, pm_len, pm_rd, pm_loc, pm_wr, pm_mk, h0, h1]) h
theorem wp_newQ {k : Nat} {z : Int32} (hd : decode (pm_code mi) pc = .ok (.anewarray k, 3)) (hk : pm_anw (pm_ow mi) k = true) (h0 : ¬ z < 0) (h1 : z.toNatClampNeg ≤ 100000) (h : pm_Wp X d mi (pc + 3) ls (.ref (σ.2.2.2.2.1 + 1) :: st) (pm_mkS σ 3 z.toNatClampNeg z.toNatClampNeg) Q) : pm_Wp X d mi pc ls (.int z :: st) σ Q := wp_step hd rfl rfl (by simp [pm_step, pm_jmp, pm_len, pm_rd, pm_loc, pm_wr, pm_mk, hk, h0, h1]) h
end PmR2
end
section
/-! THE CLAIM OUT OF ONE WALK OF THE LAW'S BODY. Your part is whole_start (and what it stands on); all else here is the same for every law, but numbers. -/
def R_law : String := "BoundedSchemesLaw"
def lw_P (b : Addr) (xs : List Int32) (args : Array Value) (s : State) : Prop := args = #[.ref b] ∧ s.IntsAt b xs ∧ xs.length ≤ 4 ∧ (Jvm.Cond.and given_1 narrow_1).before args s = true
def lw_Q (_ : Array Value) (s : State) (o : Outcome) (t : State) : Prop := o = .returned (some (.int 1)) ∧ Framed s o t [] 600000 7302250
def lw_Z (below : List Frame) (a : Array Value) (s : State) : State → Prop := fun t => ∃ o, t.status = .running ∧ Ended t below o ∧ lw_Q a s o t
/-- the law's own end, with 1 on the stack, nothing written that was there before, its room as the claim has it -/
theorem lw_ret {p : Program} {l : Launch} {e : Env} {s : State} {m : MethodId} {below : List Frame} {meth : Method} {c : Code} {b : Nat} (hx : p.tables.exec = Jvm.exec) (hb : c.code = code) (hr : meth.sig.returnType = ret) (hlocks : meth.locks = false) {pc : Nat} {H : Heap} {ls : Array Slot} (hdg : decode code pc = .ok (.ireturn, 1)) : W p l e room_1 s m #[Value.ref b] below meth c H [] 600000 7302250 (lw_Z below #[Value.ref b] s) (F0 m pc ls [.int 1]) := by
  intro T hT X
  obtain ⟨fs, hret, hrun, hended, hW, hframe⟩ := X.leave (v := some (.int 1)) (hlocks := hlocks) (fun h => by rw [hr] at h; cases h)
  have hmeth' : T.vm.method? m = some meth := X.method'
  refine ⟨T.setFrames fs, ?_, .returned (some (.int 1)), hrun, hended, rfl, ⟨_, rfl⟩, hW, hframe⟩
  jvm_step X.here [X.here.top, hx, hb, hdg, hmeth', hr, ret, narrow_b1]
  (try refine ⟨rfl, ?_⟩); (try refine ⟨rfl, ?_⟩)
  first | (intro acts; rw [hret _ acts rfl rfl rfl]) | rw [hret _ _ rfl rfl rfl]
  exact Steps.refl _
/-- what holds at the law's entry: the machine, the code, the tables' words (any of lw_tbl by 'hts w (by decide +kernel)'), the script of L ints xs at the cell b, what the Statement gives of the start (any of its parts by flat_of_before) -/
def lw_At (p : Program) (s : State) (m : MethodId) (meth : Method) (c : Code) (b L : Nat) (xs : Nat → Int32) : Prop :=
  p.tables.exec = Jvm.exec ∧ c.code = code ∧ meth.sig.returnType = ret ∧ c.maxLocals = 4 ∧ s.vm.findClass R_law = some m.cls ∧ (∀ w ∈ lw_tbl, w.before #[Value.ref b] s = true) ∧ va_X b L xs s s.heap ∧ b < s.heap.size ∧ meth.locks = false ∧ (Jvm.Cond.and given_1 narrow_1).before #[Value.ref b] s = true
/-! THE LAW: a run of the picture machine from the empty picture is a walk of the law's body. -/
def pm_0 : pm_S := (fun _ _ => 0, fun _ _ => 0, fun _ => 0, fun _ => 0, 0, 0)
theorem pm_Tb_of {A : Array Value} {s : State} (h : ∀ w ∈ lw_tbl, w.before A s = true) : pm_Tb s := by
  intro w hw hk a
  by_cases hg : goodWord w = true
  · exact word_at (State.WarmedH.refl s) (good_of_word hg) (h w hw)
  · have hb := h w hw
    simp only [pm_ok, Bool.eq_false_iff.mpr hg, Bool.false_or] at hk
    split at hk
    · exact va_Nw.use rfl (va_Nw.of rfl hb)
    · exact va_Nw.use rfl (va_Nw.of rfl hb)
    · exact va_AO.use (va_AO.of hb)
    · cases hk
theorem pm_known {A : Array Value} {s : State} (h : ∀ w ∈ lw_tbl, w.before A s = true) : ∃ (D : va_G) (kA : Nat → ClassId), va_K D pm_cl (pm_tys kA) s := by
  have h1 : ∀ k : Nat, ∃ x : ClassId × (Nat → Nat), ∀ q : vw_C, pm_cl[k]? = some q → u_Kn s q.1 q.2.1 q.2.2 x.1 x.2 := by
    intro k
    cases hk : pm_cl[k]? with
    | none => exact ⟨(0, fun _ => 0), fun q hq => by cases hq⟩
    | some q =>
      obtain ⟨C, T, N⟩ := q
      obtain ⟨-, c2, -, -, c5, -⟩ := pm_okC hk
      obtain ⟨cC, iS, hKn⟩ := u_known h c2 (h _ c5)
      exact ⟨(cC, iS), fun q hq => by cases hq; exact hKn⟩
  have h2 : ∀ k : Nat, ∃ x : ClassId, k < pm_nk → ArrOfT s x (pm_ty k) ∧ va_RA s x (pm_ty k) := by
    intro k
    match k with
    | 0 =>
      obtain ⟨c, kc, comp, e1, e2, e3⟩ := Cond.arrayClass_spec (h _ pm_okAI)
      exact ⟨c, fun _ => ⟨fun n z => ⟨fun k h => (by cases h), kc, e2, comp, e3⟩, e1⟩⟩
    | 1 =>
      obtain ⟨c, kc, comp, e1, e2, e3⟩ := Cond.arrayClass_spec (h _ pm_okAC)
      exact ⟨c, fun _ => ⟨fun n z => ⟨fun k h => (by cases h), kc, e2, comp, e3⟩, e1⟩⟩
    | 2 =>
      obtain ⟨c, kc, comp, e1, e2, e3⟩ := Cond.arrayClass_spec (h _ pm_okAZ)
      exact ⟨c, fun _ => ⟨fun n z => ⟨fun k h => (by cases h), kc, e2, comp, e3⟩, e1⟩⟩
    | 3 =>
      obtain ⟨comp, c, kc, e1, e2, e3, e4, e5⟩ := Cond.arrayOver_spec (h _ (pm_okA (o := 0) (i := 13) rfl).2)
      exact ⟨c, fun _ => ⟨fun n z => ⟨fun k h => (by cases h), kc, e3, comp, e4⟩, kc, comp, e3, e4, e1, e5⟩⟩
    | n + 4 => exact ⟨0, fun h => absurd h (by show ¬ n + 4 < 4; omega)⟩
  refine ⟨(fun k => (Classical.choose (h1 k)).1, fun k => (Classical.choose (h1 k)).2), fun k => Classical.choose (h2 k), fun k q hq => Classical.choose_spec (h1 k) q hq, fun k q hq => ?_⟩
  have hk : k < pm_nk := by
    have := (List.getElem?_eq_some_iff.mp hq).1
    simpa [pm_tys] using this
  rw [pm_tys_at hk] at hq
  cases hq
  exact Classical.choose_spec (h2 k) hk
/-- what is to be shown of the picture machine alone -/
def pm_Law (L : Nat) (xs : Nat → Int32) : Prop := ∃ d : Nat, d ≤ 1000 ∧ pm_Wp (some (L, xs)) d 212 0 (pm_in 212 [.ref 0]) [] pm_0 (fun r σ' => r = some (.int 1) ∧ σ'.2.2.2.2.1 ≤ 600000 ∧ σ'.2.2.2.2.2 ≤ 7302250)
set_option maxHeartbeats 4000000 in
theorem pm_start {p : Program} {e : Env} {s : State} {m : MethodId} {below : List Frame} {meth : Method} {c : Code} (l : Launch) {b L : Nat} {xs : Nat → Int32} (C0 : lw_At p s m meth c b L xs) (h : pm_Law L xs) : W p l e room_1 s m #[Value.ref b] below meth c s.heap [] 0 0 (lw_Z below #[Value.ref b] s) (entryFrame m ([Value.ref b] : List Value).toArray 4) := by
  obtain ⟨hx, hb, hr, hml, hown, hts, hX, hbl, hlocks, hgv⟩ := C0
  obtain ⟨D, kA, hK⟩ := pm_known hts
  obtain ⟨d, hd, F, f, r, σ', hrun, rfl, h1, h2⟩ := h
  have hF : pm_Fr D kA b (some (L, xs)) s.heap 212 p room_1 s m meth c := ⟨hx, hb, hml, hown, pm_Tb_of hts, hK, (fun x hx => by cases hx; exact ⟨hX, hbl⟩), fun h => (by cases h), by decide, by decide⟩
  have e0 : pm_v b s.heap (.ref 0) = .ref b := rfl
  have hl := pm_in_has (b := b) (HL := s.heap) (j := 212) (as := [.ref 0]) (by decide) (by decide)
  rw [lg_entry_eq]
  refine pm_exec_w (l := l) (C := pm_call F d) (d := d) (R := room_1) (mc := σ'.2.2.2.2.1) (ms := σ'.2.2.2.2.2) (pm_call_le d) (fun j as σ r σ' h => pm_call_met d j as σ r σ' h) hF ⟨by show d + 1 ≤ 2048; omega, by show 64 * (d + 1) ≤ 84000; omega⟩ ⟨h1, h2⟩ ?_ f 0 (pm_in 212 [.ref 0]) [] pm_0 hrun s.heap [] _ 0 0 ⟨fun k q hq => by simp [pm_w, pm_0] at hq, va_S.rf, rfl, hl, pm_in_len (by decide)⟩ rfl (by show 0 + (σ'.2.2.2.2.1 - 0) = _; omega) (by show 0 + (σ'.2.2.2.2.2 - 0) = _; omega)
  intro pc i st ls H locs la hdec hret hR
  have hf : ∀ q ∈ locs, s.heap.size ≤ q.base := hR.2.1.2.2
  cases i with
  | ireturn =>
    simp only [pm_ret] at hret
    split at hret
    · rename_i hk; exact absurd hk (by decide)
    · split at hret
      · match st, hret with
        | [.int x], hret =>
          simp only at hret
          split at hret
          · cases hret
            refine va_forget hf (W.widen h1 h2 ?_)
            exact lw_ret hx hb hr hlocks hdec
          · cases hret
      · split at hret
        · rename_i hk; exact absurd hk (by decide)
        · cases hret
  | return_ =>
    simp only [pm_ret] at hret
    split at hret
    · rename_i hk; exact absurd hk (by decide)
    · cases hret
  | areturn =>
    simp only [pm_ret] at hret
    split at hret
    · rename_i hk; exact absurd hk (by decide)
    · cases hret
  | _ => cases hret
end
