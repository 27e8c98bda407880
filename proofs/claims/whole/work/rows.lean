section
-- ===== PART A: goes FIRST, ahead of the names: the tables' words, and 'selects' of the private methods out of them =====
/-- a private method of a class that the tables say can be made, by its rows of tables_1 -/
def lw_okq (q : MethodName × Nat) : Prop := (q.1.cls ≠ "java/lang/invoke/MethodHandle" ∧ q.1.cls ≠ "java/lang/invoke/VarHandle") ∧ Cond.instantiable q.1.cls q.2 ∈ tables_1 ∧ Cond.privateMethod q.1 ∈ tables_1 ∧ Cond.instanceMethod q.1 ∈ tables_1
theorem lw_p0 : lw_okq (⟨"SometimesSums$History", "dropOldest", "()V"⟩, 2) := ⟨⟨by decide +kernel, by decide +kernel⟩, List.mem_of_getElem? (i := 54) (by decide +kernel), List.mem_of_getElem? (i := 239) (by decide +kernel), List.mem_of_getElem? (i := 240) (by decide +kernel)⟩
theorem lw_p1 : lw_okq (⟨"SometimesSums$Text", "readSum", "()Z"⟩, 7) := ⟨⟨by decide +kernel, by decide +kernel⟩, List.mem_of_getElem? (i := 71) (by decide +kernel), List.mem_of_getElem? (i := 301) (by decide +kernel), List.mem_of_getElem? (i := 302) (by decide +kernel)⟩
theorem lw_p2 : lw_okq (⟨"SometimesSums$Text", "readThing", "()I"⟩, 7) := ⟨⟨by decide +kernel, by decide +kernel⟩, List.mem_of_getElem? (i := 71) (by decide +kernel), List.mem_of_getElem? (i := 305) (by decide +kernel), List.mem_of_getElem? (i := 306) (by decide +kernel)⟩
theorem lw_p3 : lw_okq (⟨"SometimesSums$Text", "digit", "()I"⟩, 7) := ⟨⟨by decide +kernel, by decide +kernel⟩, List.mem_of_getElem? (i := 71) (by decide +kernel), List.mem_of_getElem? (i := 309) (by decide +kernel), List.mem_of_getElem? (i := 310) (by decide +kernel)⟩
theorem lw_p4 : lw_okq (⟨"SometimesSums$Text", "skip", "(C)Z"⟩, 7) := ⟨⟨by decide +kernel, by decide +kernel⟩, List.mem_of_getElem? (i := 71) (by decide +kernel), List.mem_of_getElem? (i := 313) (by decide +kernel), List.mem_of_getElem? (i := 314) (by decide +kernel)⟩
theorem lw_p5 : lw_okq (⟨"SometimesSums$Laws", "checkRegrouping", "(LSometimesSums$Table;II)V"⟩, 5) := ⟨⟨by decide +kernel, by decide +kernel⟩, List.mem_of_getElem? (i := 101) (by decide +kernel), List.mem_of_getElem? (i := 422) (by decide +kernel), List.mem_of_getElem? (i := 423) (by decide +kernel)⟩
theorem lw_p6 : lw_okq (⟨"SometimesSums$Laws", "note", "(IIII)V"⟩, 5) := ⟨⟨by decide +kernel, by decide +kernel⟩, List.mem_of_getElem? (i := 101) (by decide +kernel), List.mem_of_getElem? (i := 427) (by decide +kernel), List.mem_of_getElem? (i := 428) (by decide +kernel)⟩
theorem lw_p7 : lw_okq (⟨"SometimesSums$Relations", "findTogether", "(LSometimesSums$Table;III)V"⟩, 5) := ⟨⟨by decide +kernel, by decide +kernel⟩, List.mem_of_getElem? (i := 128) (by decide +kernel), List.mem_of_getElem? (i := 450) (by decide +kernel), List.mem_of_getElem? (i := 451) (by decide +kernel)⟩
theorem lw_p8 : lw_okq (⟨"SometimesSums$Relations", "hasNoPartIn", "(II)Z"⟩, 5) := ⟨⟨by decide +kernel, by decide +kernel⟩, List.mem_of_getElem? (i := 128) (by decide +kernel), List.mem_of_getElem? (i := 460) (by decide +kernel), List.mem_of_getElem? (i := 461) (by decide +kernel)⟩
theorem lw_p9 : lw_okq (⟨"SometimesSums", "timesAddable", "(I)I"⟩, 9) := ⟨⟨by decide +kernel, by decide +kernel⟩, List.mem_of_getElem? (i := 12) (by decide +kernel), List.mem_of_getElem? (i := 472) (by decide +kernel), List.mem_of_getElem? (i := 473) (by decide +kernel)⟩
theorem lw_p10 : lw_okq (⟨"SometimesSums$Relations", "isBlock", "(I)Z"⟩, 5) := ⟨⟨by decide +kernel, by decide +kernel⟩, List.mem_of_getElem? (i := 128) (by decide +kernel), List.mem_of_getElem? (i := 489) (by decide +kernel), List.mem_of_getElem? (i := 490) (by decide +kernel)⟩
theorem lw_p11 : lw_okq (⟨"SometimesSums$Weights", "gatherPairs", "(LSometimesSums$Table;)V"⟩, 13) := ⟨⟨by decide +kernel, by decide +kernel⟩, List.mem_of_getElem? (i := 153) (by decide +kernel), List.mem_of_getElem? (i := 508) (by decide +kernel), List.mem_of_getElem? (i := 509) (by decide +kernel)⟩
theorem lw_p12 : lw_okq (⟨"SometimesSums$Weights", "setFirstRanges", "(I)V"⟩, 13) := ⟨⟨by decide +kernel, by decide +kernel⟩, List.mem_of_getElem? (i := 153) (by decide +kernel), List.mem_of_getElem? (i := 513) (by decide +kernel), List.mem_of_getElem? (i := 514) (by decide +kernel)⟩
theorem lw_p13 : lw_okq (⟨"SometimesSums$Weights", "narrow", "(I)Z"⟩, 13) := ⟨⟨by decide +kernel, by decide +kernel⟩, List.mem_of_getElem? (i := 153) (by decide +kernel), List.mem_of_getElem? (i := 517) (by decide +kernel), List.mem_of_getElem? (i := 518) (by decide +kernel)⟩
theorem lw_p14 : lw_okq (⟨"SometimesSums$Weights", "isEmpty", "(I)Z"⟩, 13) := ⟨⟨by decide +kernel, by decide +kernel⟩, List.mem_of_getElem? (i := 153) (by decide +kernel), List.mem_of_getElem? (i := 521) (by decide +kernel), List.mem_of_getElem? (i := 522) (by decide +kernel)⟩
theorem lw_p15 : lw_okq (⟨"SometimesSums$Weights", "narrowBySum", "(III)Z"⟩, 13) := ⟨⟨by decide +kernel, by decide +kernel⟩, List.mem_of_getElem? (i := 153) (by decide +kernel), List.mem_of_getElem? (i := 525) (by decide +kernel), List.mem_of_getElem? (i := 526) (by decide +kernel)⟩
def lw_privs_1 : List (MethodName × Nat) := [(⟨"SometimesSums$History", "dropOldest", "()V"⟩, 2), (⟨"SometimesSums$Text", "readSum", "()Z"⟩, 7), (⟨"SometimesSums$Text", "readThing", "()I"⟩, 7), (⟨"SometimesSums$Text", "digit", "()I"⟩, 7), (⟨"SometimesSums$Text", "skip", "(C)Z"⟩, 7), (⟨"SometimesSums$Laws", "checkRegrouping", "(LSometimesSums$Table;II)V"⟩, 5), (⟨"SometimesSums$Laws", "note", "(IIII)V"⟩, 5), (⟨"SometimesSums$Relations", "findTogether", "(LSometimesSums$Table;III)V"⟩, 5), (⟨"SometimesSums$Relations", "hasNoPartIn", "(II)Z"⟩, 5), (⟨"SometimesSums", "timesAddable", "(I)I"⟩, 9), (⟨"SometimesSums$Relations", "isBlock", "(I)Z"⟩, 5), (⟨"SometimesSums$Weights", "gatherPairs", "(LSometimesSums$Table;)V"⟩, 13), (⟨"SometimesSums$Weights", "setFirstRanges", "(I)V"⟩, 13), (⟨"SometimesSums$Weights", "narrow", "(I)Z"⟩, 13), (⟨"SometimesSums$Weights", "isEmpty", "(I)Z"⟩, 13), (⟨"SometimesSums$Weights", "narrowBySum", "(III)Z"⟩, 13)]
theorem lw_r1 : ∀ q ∈ lw_privs_1, lw_okq q := List.forall_mem_cons.mpr ⟨lw_p0, List.forall_mem_cons.mpr ⟨lw_p1, List.forall_mem_cons.mpr ⟨lw_p2, List.forall_mem_cons.mpr ⟨lw_p3, List.forall_mem_cons.mpr ⟨lw_p4, List.forall_mem_cons.mpr ⟨lw_p5, List.forall_mem_cons.mpr ⟨lw_p6, List.forall_mem_cons.mpr ⟨lw_p7, List.forall_mem_cons.mpr ⟨lw_p8, List.forall_mem_cons.mpr ⟨lw_p9, List.forall_mem_cons.mpr ⟨lw_p10, List.forall_mem_cons.mpr ⟨lw_p11, List.forall_mem_cons.mpr ⟨lw_p12, List.forall_mem_cons.mpr ⟨lw_p13, List.forall_mem_cons.mpr ⟨lw_p14, List.forall_mem_cons.mpr ⟨lw_p15, fun _ h => absurd h List.not_mem_nil⟩⟩⟩⟩⟩⟩⟩⟩⟩⟩⟩⟩⟩⟩⟩⟩
theorem lw_p16 : lw_okq (⟨"SometimesSums$Weights", "limit", "(III)Z"⟩, 13) := ⟨⟨by decide +kernel, by decide +kernel⟩, List.mem_of_getElem? (i := 153) (by decide +kernel), List.mem_of_getElem? (i := 529) (by decide +kernel), List.mem_of_getElem? (i := 530) (by decide +kernel)⟩
theorem lw_p17 : lw_okq (⟨"SometimesSums$Weights", "formGroups", "()V"⟩, 13) := ⟨⟨by decide +kernel, by decide +kernel⟩, List.mem_of_getElem? (i := 153) (by decide +kernel), List.mem_of_getElem? (i := 533) (by decide +kernel), List.mem_of_getElem? (i := 534) (by decide +kernel)⟩
theorem lw_p18 : lw_okq (⟨"SometimesSums$Weights", "isOpen", "(I)Z"⟩, 13) := ⟨⟨by decide +kernel, by decide +kernel⟩, List.mem_of_getElem? (i := 153) (by decide +kernel), List.mem_of_getElem? (i := 537) (by decide +kernel), List.mem_of_getElem? (i := 538) (by decide +kernel)⟩
theorem lw_p19 : lw_okq (⟨"SometimesSums$Weights", "joinGroups", "(II)V"⟩, 13) := ⟨⟨by decide +kernel, by decide +kernel⟩, List.mem_of_getElem? (i := 153) (by decide +kernel), List.mem_of_getElem? (i := 541) (by decide +kernel), List.mem_of_getElem? (i := 542) (by decide +kernel)⟩
theorem lw_p20 : lw_okq (⟨"SometimesSums$Weights", "startRange", "(II)V"⟩, 13) := ⟨⟨by decide +kernel, by decide +kernel⟩, List.mem_of_getElem? (i := 153) (by decide +kernel), List.mem_of_getElem? (i := 548) (by decide +kernel), List.mem_of_getElem? (i := 549) (by decide +kernel)⟩
theorem lw_p21 : lw_okq (⟨"SometimesSums$Weights", "weigh", "(II)V"⟩, 13) := ⟨⟨by decide +kernel, by decide +kernel⟩, List.mem_of_getElem? (i := 153) (by decide +kernel), List.mem_of_getElem? (i := 552) (by decide +kernel), List.mem_of_getElem? (i := 553) (by decide +kernel)⟩
theorem lw_p22 : lw_okq (⟨"SometimesSums$Weights", "firstOpenThing", "(II)I"⟩, 13) := ⟨⟨by decide +kernel, by decide +kernel⟩, List.mem_of_getElem? (i := 153) (by decide +kernel), List.mem_of_getElem? (i := 556) (by decide +kernel), List.mem_of_getElem? (i := 557) (by decide +kernel)⟩
theorem lw_p23 : lw_okq (⟨"SometimesSums$Weights", "noteWeighing", "(II)V"⟩, 13) := ⟨⟨by decide +kernel, by decide +kernel⟩, List.mem_of_getElem? (i := 153) (by decide +kernel), List.mem_of_getElem? (i := 560) (by decide +kernel), List.mem_of_getElem? (i := 561) (by decide +kernel)⟩
theorem lw_p24 : lw_okq (⟨"SometimesSums$Weights", "weighWith", "(IIII)V"⟩, 13) := ⟨⟨by decide +kernel, by decide +kernel⟩, List.mem_of_getElem? (i := 153) (by decide +kernel), List.mem_of_getElem? (i := 565) (by decide +kernel), List.mem_of_getElem? (i := 566) (by decide +kernel)⟩
theorem lw_p25 : lw_okq (⟨"SometimesSums$Weights", "copyRanges", "(I)V"⟩, 13) := ⟨⟨by decide +kernel, by decide +kernel⟩, List.mem_of_getElem? (i := 153) (by decide +kernel), List.mem_of_getElem? (i := 569) (by decide +kernel), List.mem_of_getElem? (i := 570) (by decide +kernel)⟩
theorem lw_p26 : lw_okq (⟨"SometimesSums", "weighingError", "(II)I"⟩, 9) := ⟨⟨by decide +kernel, by decide +kernel⟩, List.mem_of_getElem? (i := 12) (by decide +kernel), List.mem_of_getElem? (i := 578) (by decide +kernel), List.mem_of_getElem? (i := 579) (by decide +kernel)⟩
theorem lw_p27 : lw_okq (⟨"SometimesSumsModel", "gets", "([II)V"⟩, 17) := ⟨⟨by decide +kernel, by decide +kernel⟩, List.mem_of_getElem? (i := 608) (by decide +kernel), List.mem_of_getElem? (i := 670) (by decide +kernel), List.mem_of_getElem? (i := 671) (by decide +kernel)⟩
theorem lw_p28 : lw_okq (⟨"SometimesSumsModel", "lays", "([II)V"⟩, 17) := ⟨⟨by decide +kernel, by decide +kernel⟩, List.mem_of_getElem? (i := 608) (by decide +kernel), List.mem_of_getElem? (i := 678) (by decide +kernel), List.mem_of_getElem? (i := 679) (by decide +kernel)⟩
theorem lw_p29 : lw_okq (⟨"SometimesSumsModel", "records", "()V"⟩, 17) := ⟨⟨by decide +kernel, by decide +kernel⟩, List.mem_of_getElem? (i := 608) (by decide +kernel), List.mem_of_getElem? (i := 686) (by decide +kernel), List.mem_of_getElem? (i := 687) (by decide +kernel)⟩
theorem lw_p30 : lw_okq (⟨"SometimesSumsModel", "empties", "(I)V"⟩, 17) := ⟨⟨by decide +kernel, by decide +kernel⟩, List.mem_of_getElem? (i := 608) (by decide +kernel), List.mem_of_getElem? (i := 697) (by decide +kernel), List.mem_of_getElem? (i := 698) (by decide +kernel)⟩
theorem lw_p31 : lw_okq (⟨"SometimesSumsModel", "chains", "(II)V"⟩, 17) := ⟨⟨by decide +kernel, by decide +kernel⟩, List.mem_of_getElem? (i := 608) (by decide +kernel), List.mem_of_getElem? (i := 701) (by decide +kernel), List.mem_of_getElem? (i := 702) (by decide +kernel)⟩
def lw_privs_2 : List (MethodName × Nat) := [(⟨"SometimesSums$Weights", "limit", "(III)Z"⟩, 13), (⟨"SometimesSums$Weights", "formGroups", "()V"⟩, 13), (⟨"SometimesSums$Weights", "isOpen", "(I)Z"⟩, 13), (⟨"SometimesSums$Weights", "joinGroups", "(II)V"⟩, 13), (⟨"SometimesSums$Weights", "startRange", "(II)V"⟩, 13), (⟨"SometimesSums$Weights", "weigh", "(II)V"⟩, 13), (⟨"SometimesSums$Weights", "firstOpenThing", "(II)I"⟩, 13), (⟨"SometimesSums$Weights", "noteWeighing", "(II)V"⟩, 13), (⟨"SometimesSums$Weights", "weighWith", "(IIII)V"⟩, 13), (⟨"SometimesSums$Weights", "copyRanges", "(I)V"⟩, 13), (⟨"SometimesSums", "weighingError", "(II)I"⟩, 9), (⟨"SometimesSumsModel", "gets", "([II)V"⟩, 17), (⟨"SometimesSumsModel", "lays", "([II)V"⟩, 17), (⟨"SometimesSumsModel", "records", "()V"⟩, 17), (⟨"SometimesSumsModel", "empties", "(I)V"⟩, 17), (⟨"SometimesSumsModel", "chains", "(II)V"⟩, 17)]
theorem lw_r2 : ∀ q ∈ lw_privs_2, lw_okq q := List.forall_mem_cons.mpr ⟨lw_p16, List.forall_mem_cons.mpr ⟨lw_p17, List.forall_mem_cons.mpr ⟨lw_p18, List.forall_mem_cons.mpr ⟨lw_p19, List.forall_mem_cons.mpr ⟨lw_p20, List.forall_mem_cons.mpr ⟨lw_p21, List.forall_mem_cons.mpr ⟨lw_p22, List.forall_mem_cons.mpr ⟨lw_p23, List.forall_mem_cons.mpr ⟨lw_p24, List.forall_mem_cons.mpr ⟨lw_p25, List.forall_mem_cons.mpr ⟨lw_p26, List.forall_mem_cons.mpr ⟨lw_p27, List.forall_mem_cons.mpr ⟨lw_p28, List.forall_mem_cons.mpr ⟨lw_p29, List.forall_mem_cons.mpr ⟨lw_p30, List.forall_mem_cons.mpr ⟨lw_p31, fun _ h => absurd h List.not_mem_nil⟩⟩⟩⟩⟩⟩⟩⟩⟩⟩⟩⟩⟩⟩⟩⟩
theorem lw_p32 : lw_okq (⟨"SometimesSumsModel", "tells", "(III)V"⟩, 17) := ⟨⟨by decide +kernel, by decide +kernel⟩, List.mem_of_getElem? (i := 608) (by decide +kernel), List.mem_of_getElem? (i := 708) (by decide +kernel), List.mem_of_getElem? (i := 709) (by decide +kernel)⟩
theorem lw_p33 : lw_okq (⟨"SometimesSumsModel", "unites", "(I)V"⟩, 17) := ⟨⟨by decide +kernel, by decide +kernel⟩, List.mem_of_getElem? (i := 608) (by decide +kernel), List.mem_of_getElem? (i := 712) (by decide +kernel), List.mem_of_getElem? (i := 713) (by decide +kernel)⟩
theorem lw_p34 : lw_okq (⟨"SometimesSumsModel", "comes", "()V"⟩, 17) := ⟨⟨by decide +kernel, by decide +kernel⟩, List.mem_of_getElem? (i := 608) (by decide +kernel), List.mem_of_getElem? (i := 726) (by decide +kernel), List.mem_of_getElem? (i := 727) (by decide +kernel)⟩
theorem lw_p35 : lw_okq (⟨"SometimesSumsModel", "isThing", "(I)Z"⟩, 17) := ⟨⟨by decide +kernel, by decide +kernel⟩, List.mem_of_getElem? (i := 608) (by decide +kernel), List.mem_of_getElem? (i := 734) (by decide +kernel), List.mem_of_getElem? (i := 735) (by decide +kernel)⟩
theorem lw_p36 : lw_okq (⟨"SometimesSumsModel", "moves", "()V"⟩, 17) := ⟨⟨by decide +kernel, by decide +kernel⟩, List.mem_of_getElem? (i := 608) (by decide +kernel), List.mem_of_getElem? (i := 738) (by decide +kernel), List.mem_of_getElem? (i := 739) (by decide +kernel)⟩
theorem lw_p37 : lw_okq (⟨"SometimesSumsModel", "plus", "(II)I"⟩, 17) := ⟨⟨by decide +kernel, by decide +kernel⟩, List.mem_of_getElem? (i := 608) (by decide +kernel), List.mem_of_getElem? (i := 746) (by decide +kernel), List.mem_of_getElem? (i := 747) (by decide +kernel)⟩
theorem lw_p38 : lw_okq (⟨"SometimesSumsModel", "isRow", "()Z"⟩, 17) := ⟨⟨by decide +kernel, by decide +kernel⟩, List.mem_of_getElem? (i := 608) (by decide +kernel), List.mem_of_getElem? (i := 784) (by decide +kernel), List.mem_of_getElem? (i := 785) (by decide +kernel)⟩
theorem lw_p39 : lw_okq (⟨"SometimesSumsModel", "isNumber", "()Z"⟩, 17) := ⟨⟨by decide +kernel, by decide +kernel⟩, List.mem_of_getElem? (i := 608) (by decide +kernel), List.mem_of_getElem? (i := 788) (by decide +kernel), List.mem_of_getElem? (i := 789) (by decide +kernel)⟩
theorem lw_p40 : lw_okq (⟨"SometimesSumsModel", "isAt", "(II)Z"⟩, 17) := ⟨⟨by decide +kernel, by decide +kernel⟩, List.mem_of_getElem? (i := 608) (by decide +kernel), List.mem_of_getElem? (i := 792) (by decide +kernel), List.mem_of_getElem? (i := 793) (by decide +kernel)⟩
theorem lw_p41 : lw_okq (⟨"SometimesSumsModel", "isSign", "(I)Z"⟩, 17) := ⟨⟨by decide +kernel, by decide +kernel⟩, List.mem_of_getElem? (i := 608) (by decide +kernel), List.mem_of_getElem? (i := 796) (by decide +kernel), List.mem_of_getElem? (i := 797) (by decide +kernel)⟩
theorem lw_p42 : lw_okq (⟨"SometimesSumsModel", "sums", "()I"⟩, 17) := ⟨⟨by decide +kernel, by decide +kernel⟩, List.mem_of_getElem? (i := 608) (by decide +kernel), List.mem_of_getElem? (i := 800) (by decide +kernel), List.mem_of_getElem? (i := 801) (by decide +kernel)⟩
theorem lw_p43 : lw_okq (⟨"SometimesSumsModel", "lacks", "(II)I"⟩, 17) := ⟨⟨by decide +kernel, by decide +kernel⟩, List.mem_of_getElem? (i := 608) (by decide +kernel), List.mem_of_getElem? (i := 812) (by decide +kernel), List.mem_of_getElem? (i := 813) (by decide +kernel)⟩
theorem lw_p44 : lw_okq (⟨"SometimesSumsModel", "firstBreak", "()I"⟩, 17) := ⟨⟨by decide +kernel, by decide +kernel⟩, List.mem_of_getElem? (i := 608) (by decide +kernel), List.mem_of_getElem? (i := 820) (by decide +kernel), List.mem_of_getElem? (i := 821) (by decide +kernel)⟩
theorem lw_p45 : lw_okq (⟨"SometimesSumsModel", "isUnlike", "(III)Z"⟩, 17) := ⟨⟨by decide +kernel, by decide +kernel⟩, List.mem_of_getElem? (i := 608) (by decide +kernel), List.mem_of_getElem? (i := 824) (by decide +kernel), List.mem_of_getElem? (i := 825) (by decide +kernel)⟩
theorem lw_p46 : lw_okq (⟨"SometimesSumsModel", "isUnmet", "(I)Z"⟩, 17) := ⟨⟨by decide +kernel, by decide +kernel⟩, List.mem_of_getElem? (i := 608) (by decide +kernel), List.mem_of_getElem? (i := 828) (by decide +kernel), List.mem_of_getElem? (i := 829) (by decide +kernel)⟩
theorem lw_p47 : lw_okq (⟨"SometimesSumsModel", "isAbove", "(I)Z"⟩, 17) := ⟨⟨by decide +kernel, by decide +kernel⟩, List.mem_of_getElem? (i := 608) (by decide +kernel), List.mem_of_getElem? (i := 832) (by decide +kernel), List.mem_of_getElem? (i := 833) (by decide +kernel)⟩
def lw_privs_3 : List (MethodName × Nat) := [(⟨"SometimesSumsModel", "tells", "(III)V"⟩, 17), (⟨"SometimesSumsModel", "unites", "(I)V"⟩, 17), (⟨"SometimesSumsModel", "comes", "()V"⟩, 17), (⟨"SometimesSumsModel", "isThing", "(I)Z"⟩, 17), (⟨"SometimesSumsModel", "moves", "()V"⟩, 17), (⟨"SometimesSumsModel", "plus", "(II)I"⟩, 17), (⟨"SometimesSumsModel", "isRow", "()Z"⟩, 17), (⟨"SometimesSumsModel", "isNumber", "()Z"⟩, 17), (⟨"SometimesSumsModel", "isAt", "(II)Z"⟩, 17), (⟨"SometimesSumsModel", "isSign", "(I)Z"⟩, 17), (⟨"SometimesSumsModel", "sums", "()I"⟩, 17), (⟨"SometimesSumsModel", "lacks", "(II)I"⟩, 17), (⟨"SometimesSumsModel", "firstBreak", "()I"⟩, 17), (⟨"SometimesSumsModel", "isUnlike", "(III)Z"⟩, 17), (⟨"SometimesSumsModel", "isUnmet", "(I)Z"⟩, 17), (⟨"SometimesSumsModel", "isAbove", "(I)Z"⟩, 17)]
theorem lw_r3 : ∀ q ∈ lw_privs_3, lw_okq q := List.forall_mem_cons.mpr ⟨lw_p32, List.forall_mem_cons.mpr ⟨lw_p33, List.forall_mem_cons.mpr ⟨lw_p34, List.forall_mem_cons.mpr ⟨lw_p35, List.forall_mem_cons.mpr ⟨lw_p36, List.forall_mem_cons.mpr ⟨lw_p37, List.forall_mem_cons.mpr ⟨lw_p38, List.forall_mem_cons.mpr ⟨lw_p39, List.forall_mem_cons.mpr ⟨lw_p40, List.forall_mem_cons.mpr ⟨lw_p41, List.forall_mem_cons.mpr ⟨lw_p42, List.forall_mem_cons.mpr ⟨lw_p43, List.forall_mem_cons.mpr ⟨lw_p44, List.forall_mem_cons.mpr ⟨lw_p45, List.forall_mem_cons.mpr ⟨lw_p46, List.forall_mem_cons.mpr ⟨lw_p47, fun _ h => absurd h List.not_mem_nil⟩⟩⟩⟩⟩⟩⟩⟩⟩⟩⟩⟩⟩⟩⟩⟩
theorem lw_p48 : lw_okq (⟨"SometimesSumsModel", "meets", "()V"⟩, 17) := ⟨⟨by decide +kernel, by decide +kernel⟩, List.mem_of_getElem? (i := 608) (by decide +kernel), List.mem_of_getElem? (i := 840) (by decide +kernel), List.mem_of_getElem? (i := 841) (by decide +kernel)⟩
theorem lw_p49 : lw_okq (⟨"SometimesSumsModel", "isMet", "(IIII)Z"⟩, 17) := ⟨⟨by decide +kernel, by decide +kernel⟩, List.mem_of_getElem? (i := 608) (by decide +kernel), List.mem_of_getElem? (i := 844) (by decide +kernel), List.mem_of_getElem? (i := 845) (by decide +kernel)⟩
theorem lw_p50 : lw_okq (⟨"SometimesSumsModel", "partsOf", "(I)I"⟩, 17) := ⟨⟨by decide +kernel, by decide +kernel⟩, List.mem_of_getElem? (i := 608) (by decide +kernel), List.mem_of_getElem? (i := 848) (by decide +kernel), List.mem_of_getElem? (i := 849) (by decide +kernel)⟩
theorem lw_p51 : lw_okq (⟨"SometimesSumsModel", "isSmallest", "(I)Z"⟩, 17) := ⟨⟨by decide +kernel, by decide +kernel⟩, List.mem_of_getElem? (i := 608) (by decide +kernel), List.mem_of_getElem? (i := 852) (by decide +kernel), List.mem_of_getElem? (i := 853) (by decide +kernel)⟩
theorem lw_p52 : lw_okq (⟨"SometimesSumsModel", "isSharp", "(I)Z"⟩, 17) := ⟨⟨by decide +kernel, by decide +kernel⟩, List.mem_of_getElem? (i := 608) (by decide +kernel), List.mem_of_getElem? (i := 856) (by decide +kernel), List.mem_of_getElem? (i := 857) (by decide +kernel)⟩
theorem lw_p53 : lw_okq (⟨"SometimesSumsModel", "multiple", "(I)I"⟩, 17) := ⟨⟨by decide +kernel, by decide +kernel⟩, List.mem_of_getElem? (i := 608) (by decide +kernel), List.mem_of_getElem? (i := 860) (by decide +kernel), List.mem_of_getElem? (i := 861) (by decide +kernel)⟩
theorem lw_p54 : lw_okq (⟨"SometimesSumsModel", "isBlock", "(I)Z"⟩, 17) := ⟨⟨by decide +kernel, by decide +kernel⟩, List.mem_of_getElem? (i := 608) (by decide +kernel), List.mem_of_getElem? (i := 872) (by decide +kernel), List.mem_of_getElem? (i := 873) (by decide +kernel)⟩
theorem lw_p55 : lw_okq (⟨"SometimesSumsModel", "weighed", "(IIII)I"⟩, 17) := ⟨⟨by decide +kernel, by decide +kernel⟩, List.mem_of_getElem? (i := 608) (by decide +kernel), List.mem_of_getElem? (i := 883) (by decide +kernel), List.mem_of_getElem? (i := 884) (by decide +kernel)⟩
theorem lw_p56 : lw_okq (⟨"SometimesSumsModel", "isOpen", "(I)Z"⟩, 17) := ⟨⟨by decide +kernel, by decide +kernel⟩, List.mem_of_getElem? (i := 608) (by decide +kernel), List.mem_of_getElem? (i := 887) (by decide +kernel), List.mem_of_getElem? (i := 888) (by decide +kernel)⟩
theorem lw_p57 : lw_okq (⟨"SometimesSumsModel", "isDrawn", "(IIII)Z"⟩, 17) := ⟨⟨by decide +kernel, by decide +kernel⟩, List.mem_of_getElem? (i := 608) (by decide +kernel), List.mem_of_getElem? (i := 891) (by decide +kernel), List.mem_of_getElem? (i := 892) (by decide +kernel)⟩
theorem lw_p58 : lw_okq (⟨"SometimesSumsModel", "isRaised", "(III)Z"⟩, 17) := ⟨⟨by decide +kernel, by decide +kernel⟩, List.mem_of_getElem? (i := 608) (by decide +kernel), List.mem_of_getElem? (i := 895) (by decide +kernel), List.mem_of_getElem? (i := 896) (by decide +kernel)⟩
theorem lw_p59 : lw_okq (⟨"SometimesSumsModel", "isLowered", "(III)Z"⟩, 17) := ⟨⟨by decide +kernel, by decide +kernel⟩, List.mem_of_getElem? (i := 608) (by decide +kernel), List.mem_of_getElem? (i := 899) (by decide +kernel), List.mem_of_getElem? (i := 900) (by decide +kernel)⟩
theorem lw_p60 : lw_okq (⟨"SometimesSumsModel", "weighs", "(II)V"⟩, 17) := ⟨⟨by decide +kernel, by decide +kernel⟩, List.mem_of_getElem? (i := 608) (by decide +kernel), List.mem_of_getElem? (i := 903) (by decide +kernel), List.mem_of_getElem? (i := 904) (by decide +kernel)⟩
theorem lw_p61 : lw_okq (⟨"SometimesSumsModel", "blocks", "()I"⟩, 17) := ⟨⟨by decide +kernel, by decide +kernel⟩, List.mem_of_getElem? (i := 608) (by decide +kernel), List.mem_of_getElem? (i := 919) (by decide +kernel), List.mem_of_getElem? (i := 920) (by decide +kernel)⟩
theorem lw_p62 : lw_okq (⟨"SometimesSumsModel", "kinds", "(Z)I"⟩, 17) := ⟨⟨by decide +kernel, by decide +kernel⟩, List.mem_of_getElem? (i := 608) (by decide +kernel), List.mem_of_getElem? (i := 923) (by decide +kernel), List.mem_of_getElem? (i := 924) (by decide +kernel)⟩
theorem lw_p63 : lw_okq (⟨"SometimesSumsModel", "unmet", "()I"⟩, 17) := ⟨⟨by decide +kernel, by decide +kernel⟩, List.mem_of_getElem? (i := 608) (by decide +kernel), List.mem_of_getElem? (i := 927) (by decide +kernel), List.mem_of_getElem? (i := 928) (by decide +kernel)⟩
def lw_privs_4 : List (MethodName × Nat) := [(⟨"SometimesSumsModel", "meets", "()V"⟩, 17), (⟨"SometimesSumsModel", "isMet", "(IIII)Z"⟩, 17), (⟨"SometimesSumsModel", "partsOf", "(I)I"⟩, 17), (⟨"SometimesSumsModel", "isSmallest", "(I)Z"⟩, 17), (⟨"SometimesSumsModel", "isSharp", "(I)Z"⟩, 17), (⟨"SometimesSumsModel", "multiple", "(I)I"⟩, 17), (⟨"SometimesSumsModel", "isBlock", "(I)Z"⟩, 17), (⟨"SometimesSumsModel", "weighed", "(IIII)I"⟩, 17), (⟨"SometimesSumsModel", "isOpen", "(I)Z"⟩, 17), (⟨"SometimesSumsModel", "isDrawn", "(IIII)Z"⟩, 17), (⟨"SometimesSumsModel", "isRaised", "(III)Z"⟩, 17), (⟨"SometimesSumsModel", "isLowered", "(III)Z"⟩, 17), (⟨"SometimesSumsModel", "weighs", "(II)V"⟩, 17), (⟨"SometimesSumsModel", "blocks", "()I"⟩, 17), (⟨"SometimesSumsModel", "kinds", "(Z)I"⟩, 17), (⟨"SometimesSumsModel", "unmet", "()I"⟩, 17)]
theorem lw_r4 : ∀ q ∈ lw_privs_4, lw_okq q := List.forall_mem_cons.mpr ⟨lw_p48, List.forall_mem_cons.mpr ⟨lw_p49, List.forall_mem_cons.mpr ⟨lw_p50, List.forall_mem_cons.mpr ⟨lw_p51, List.forall_mem_cons.mpr ⟨lw_p52, List.forall_mem_cons.mpr ⟨lw_p53, List.forall_mem_cons.mpr ⟨lw_p54, List.forall_mem_cons.mpr ⟨lw_p55, List.forall_mem_cons.mpr ⟨lw_p56, List.forall_mem_cons.mpr ⟨lw_p57, List.forall_mem_cons.mpr ⟨lw_p58, List.forall_mem_cons.mpr ⟨lw_p59, List.forall_mem_cons.mpr ⟨lw_p60, List.forall_mem_cons.mpr ⟨lw_p61, List.forall_mem_cons.mpr ⟨lw_p62, List.forall_mem_cons.mpr ⟨lw_p63, fun _ h => absurd h List.not_mem_nil⟩⟩⟩⟩⟩⟩⟩⟩⟩⟩⟩⟩⟩⟩⟩⟩
theorem lw_p64 : lw_okq (⟨"SometimesSumsModel", "breaks", "()I"⟩, 17) := ⟨⟨by decide +kernel, by decide +kernel⟩, List.mem_of_getElem? (i := 608) (by decide +kernel), List.mem_of_getElem? (i := 931) (by decide +kernel), List.mem_of_getElem? (i := 932) (by decide +kernel)⟩
def lw_privs_5 : List (MethodName × Nat) := [(⟨"SometimesSumsModel", "breaks", "()I"⟩, 17)]
theorem lw_r5 : ∀ q ∈ lw_privs_5, lw_okq q := List.forall_mem_cons.mpr ⟨lw_p64, fun _ h => absurd h List.not_mem_nil⟩
def lw_privs : List (MethodName × Nat) := lw_privs_1 ++ (lw_privs_2 ++ (lw_privs_3 ++ (lw_privs_4 ++ (lw_privs_5))))
def lw_tbl : List Cond := k2_sels lw_privs ++ tables_1
theorem lw_privs_ok : ∀ q ∈ lw_privs, lw_okq q := by
  show ∀ q ∈ lw_privs_1 ++ (lw_privs_2 ++ (lw_privs_3 ++ (lw_privs_4 ++ (lw_privs_5)))), lw_okq q
  exact List.forall_mem_append.mpr ⟨lw_r1, List.forall_mem_append.mpr ⟨lw_r2, List.forall_mem_append.mpr ⟨lw_r3, List.forall_mem_append.mpr ⟨lw_r4, lw_r5⟩⟩⟩⟩

def RX0 : String := "SometimesSums$History"
def TX0 : u_T := fun k => match k with
  | 0 => ("SometimesSums$History", "length", "I", false)
  | _ => ("SometimesSums$History", "states", "[LSometimesSums$Table;", true)
def tyX0 : Nat → FieldType := fun k => match k with
  | 0 => .int
  | _ => .array (.object "SometimesSums$Table")
abbrev wsX00 : List Cond := u_ws RX0 TX0 2
theorem nmX0 : ∀ a, a < 2 → ∀ b, b < 2 → a ≠ b → (TX0 a).2.1 ≠ (TX0 b).2.1 := by decide +kernel
theorem tyX0_ok : ∀ k, k < 2 → parseFieldDescriptor (TX0 k).2.2.1 = some (tyX0 k) := by decide +kernel
abbrev cX0_init : ByteArray := prog_2_method_1_code
def yX0_init : MethodName := ⟨RX0, "<init>", "()V"⟩
abbrev cX0_remember : ByteArray := prog_2_method_2_code
def yX0_remember : MethodName := ⟨RX0, "remember", "(LSometimesSums$Table;)LSometimesSums$Table;"⟩
abbrev cX0_dropOldest : ByteArray := prog_2_method_3_code
def yX0_dropOldest : MethodName := ⟨RX0, "dropOldest", "()V"⟩
abbrev cX0_bringBack : ByteArray := prog_2_method_4_code
def yX0_bringBack : MethodName := ⟨RX0, "bringBack", "(LSometimesSums$Table;)Z"⟩
def RX1 : String := "SometimesSums$Laws"
def TX1 : u_T := fun k => match k with
  | 0 => ("SometimesSums$Laws", "breaks", "I", false)
  | 1 => ("SometimesSums$Laws", "firstLaw", "I", false)
  | 2 => ("SometimesSums$Laws", "firstA", "I", false)
  | 3 => ("SometimesSums$Laws", "firstB", "I", false)
  | _ => ("SometimesSums$Laws", "firstC", "I", false)
def tyX1 : Nat → FieldType := fun k => match k with
  | 0 => .int
  | 1 => .int
  | 2 => .int
  | 3 => .int
  | _ => .int
abbrev wsX10 : List Cond := u_ws RX1 TX1 5
theorem nmX1 : ∀ a, a < 5 → ∀ b, b < 5 → a ≠ b → (TX1 a).2.1 ≠ (TX1 b).2.1 := by decide +kernel
theorem tyX1_ok : ∀ k, k < 5 → parseFieldDescriptor (TX1 k).2.2.1 = some (tyX1 k) := by decide +kernel
abbrev cX1_init : ByteArray := prog_3_method_1_code
def yX1_init : MethodName := ⟨RX1, "<init>", "()V"⟩
abbrev cX1_check : ByteArray := prog_3_method_2_code
def yX1_check : MethodName := ⟨RX1, "check", "(LSometimesSums$Table;)V"⟩
abbrev cX1_checkRegrouping : ByteArray := prog_3_method_3_code
def yX1_checkRegrouping : MethodName := ⟨RX1, "checkRegrouping", "(LSometimesSums$Table;II)V"⟩
abbrev cX1_rests : ByteArray := prog_3_method_4_code
def yX1_rests : MethodName := ⟨RX1, "rests", "(LSometimesSums$Table;I)I"⟩
abbrev cX1_note : ByteArray := prog_3_method_5_code
def yX1_note : MethodName := ⟨RX1, "note", "(IIII)V"⟩
def RX2 : String := "SometimesSums$Relations"
def TX2 : u_T := fun k => match k with
  | 0 => ("SometimesSums$Relations", "parts", "[I", true)
  | 1 => ("SometimesSums$Relations", "wholes", "[I", true)
  | 2 => ("SometimesSums$Relations", "together", "[I", true)
  | 3 => ("SometimesSums$Relations", "rests", "[I", true)
  | _ => ("SometimesSums$Relations", "size", "I", false)
def tyX2 : Nat → FieldType := fun k => match k with
  | 0 => .array .int
  | 1 => .array .int
  | 2 => .array .int
  | 3 => .array .int
  | _ => .int
abbrev wsX20 : List Cond := u_ws RX2 TX2 5
theorem nmX2 : ∀ a, a < 5 → ∀ b, b < 5 → a ≠ b → (TX2 a).2.1 ≠ (TX2 b).2.1 := by decide +kernel
theorem tyX2_ok : ∀ k, k < 5 → parseFieldDescriptor (TX2 k).2.2.1 = some (tyX2 k) := by decide +kernel
abbrev cX2_init : ByteArray := prog_4_method_1_code
def yX2_init : MethodName := ⟨RX2, "<init>", "()V"⟩
abbrev cX2_find : ByteArray := prog_4_method_2_code
def yX2_find : MethodName := ⟨RX2, "find", "(LSometimesSums$Table;)V"⟩
abbrev cX2_findTogether : ByteArray := prog_4_method_3_code
def yX2_findTogether : MethodName := ⟨RX2, "findTogether", "(LSometimesSums$Table;III)V"⟩
abbrev cX2_isSmallestPart : ByteArray := prog_4_method_4_code
def yX2_isSmallestPart : MethodName := ⟨RX2, "isSmallestPart", "(I)Z"⟩
abbrev cX2_hasNoPartIn : ByteArray := prog_4_method_5_code
def yX2_hasNoPartIn : MethodName := ⟨RX2, "hasNoPartIn", "(II)Z"⟩
abbrev cX2_isSharp : ByteArray := prog_4_method_6_code
def yX2_isSharp : MethodName := ⟨RX2, "isSharp", "(I)Z"⟩
abbrev cX2_smallestParts : ByteArray := prog_4_method_7_code
def yX2_smallestParts : MethodName := ⟨RX2, "smallestParts", "()I"⟩
abbrev cX2_smallestPartsWithin : ByteArray := prog_4_method_8_code
def yX2_smallestPartsWithin : MethodName := ⟨RX2, "smallestPartsWithin", "(I)I"⟩
abbrev cX2_sharpThings : ByteArray := prog_4_method_9_code
def yX2_sharpThings : MethodName := ⟨RX2, "sharpThings", "()I"⟩
abbrev cX2_pairsApart : ByteArray := prog_4_method_10_code
def yX2_pairsApart : MethodName := ⟨RX2, "pairsApart", "()I"⟩
abbrev cX2_blocks : ByteArray := prog_4_method_11_code
def yX2_blocks : MethodName := ⟨RX2, "blocks", "()I"⟩
abbrev cX2_blockAt : ByteArray := prog_4_method_12_code
def yX2_blockAt : MethodName := ⟨RX2, "blockAt", "(I)I"⟩
abbrev cX2_isBlock : ByteArray := prog_4_method_13_code
def yX2_isBlock : MethodName := ⟨RX2, "isBlock", "(I)Z"⟩
def RX3 : String := "SometimesSums$Table"
def TX3 : u_T := fun k => match k with
  | 0 => ("SometimesSums$Table", "size", "I", false)
  | _ => ("SometimesSums$Table", "sums", "[I", true)
def tyX3 : Nat → FieldType := fun k => match k with
  | 0 => .int
  | _ => .array .int
abbrev wsX30 : List Cond := u_ws RX3 TX3 2
theorem nmX3 : ∀ a, a < 2 → ∀ b, b < 2 → a ≠ b → (TX3 a).2.1 ≠ (TX3 b).2.1 := by decide +kernel
theorem tyX3_ok : ∀ k, k < 2 → parseFieldDescriptor (TX3 k).2.2.1 = some (tyX3 k) := by decide +kernel
abbrev cX3_init : ByteArray := prog_5_method_1_code
def yX3_init : MethodName := ⟨RX3, "<init>", "()V"⟩
abbrev cX3_has : ByteArray := prog_5_method_2_code
def yX3_has : MethodName := ⟨RX3, "has", "(I)Z"⟩
abbrev cX3_at : ByteArray := prog_5_method_3_code
def yX3_at : MethodName := ⟨RX3, "at", "(II)I"⟩
abbrev cX3_hasSum : ByteArray := prog_5_method_4_code
def yX3_hasSum : MethodName := ⟨RX3, "hasSum", "(II)Z"⟩
abbrev cX3_put : ByteArray := prog_5_method_5_code
def yX3_put : MethodName := ⟨RX3, "put", "(III)V"⟩
abbrev cX3_empty : ByteArray := prog_5_method_6_code
def yX3_empty : MethodName := ⟨RX3, "empty", "(I)V"⟩
abbrev cX3_widen : ByteArray := prog_5_method_7_code
def yX3_widen : MethodName := ⟨RX3, "widen", "(I)V"⟩
abbrev cX3_become : ByteArray := prog_5_method_8_code
def yX3_become : MethodName := ⟨RX3, "become", "(LSometimesSums$Table;)V"⟩
abbrev cX3_addRenumbered : ByteArray := prog_5_method_9_code
def yX3_addRenumbered : MethodName := ⟨RX3, "addRenumbered", "(LSometimesSums$Table;[I)V"⟩
abbrev cX3_addChain : ByteArray := prog_5_method_10_code
def yX3_addChain : MethodName := ⟨RX3, "addChain", "(I)V"⟩
abbrev cX3_fillWithSets : ByteArray := prog_5_method_11_code
def yX3_fillWithSets : MethodName := ⟨RX3, "fillWithSets", "(I)V"⟩
abbrev cX3_thingOfSet : ByteArray := prog_5_method_12_code
def yX3_thingOfSet : MethodName := ⟨RX3, "thingOfSet", "(II)I"⟩
abbrev cX3_fillWithPairs : ByteArray := prog_5_method_13_code
def yX3_fillWithPairs : MethodName := ⟨RX3, "fillWithPairs", "(LSometimesSums$Table;)V"⟩
abbrev cX3_pairWith0 : ByteArray := prog_5_method_14_code
def yX3_pairWith0 : MethodName := ⟨RX3, "pairWith0", "(I)I"⟩
abbrev cX3_pairWith1 : ByteArray := prog_5_method_15_code
def yX3_pairWith1 : MethodName := ⟨RX3, "pairWith1", "(II)I"⟩
abbrev cX3_leastAddend : ByteArray := prog_5_method_16_code
def yX3_leastAddend : MethodName := ⟨RX3, "leastAddend", "(II)I"⟩
abbrev cX3_rest : ByteArray := prog_5_method_17_code
def yX3_rest : MethodName := ⟨RX3, "rest", "(I)I"⟩
abbrev cX3_addends : ByteArray := prog_5_method_18_code
def yX3_addends : MethodName := ⟨RX3, "addends", "(I)I"⟩
abbrev cX3_pairsWithSum : ByteArray := prog_5_method_19_code
def yX3_pairsWithSum : MethodName := ⟨RX3, "pairsWithSum", "()I"⟩
abbrev cX3_pairsNaming : ByteArray := prog_5_method_20_code
def yX3_pairsNaming : MethodName := ⟨RX3, "pairsNaming", "(II)I"⟩
def RX4 : String := "SometimesSums$Text"
def TX4 : u_T := fun k => match k with
  | 0 => ("SometimesSums$Text", "length", "I", false)
  | 1 => ("SometimesSums$Text", "characters", "[C", true)
  | 2 => ("SometimesSums$Text", "position", "I", false)
  | 3 => ("SometimesSums$Text", "told", "I", false)
  | 4 => ("SometimesSums$Text", "ones", "[I", true)
  | 5 => ("SometimesSums$Text", "others", "[I", true)
  | _ => ("SometimesSums$Text", "sums", "[I", true)
def tyX4 : Nat → FieldType := fun k => match k with
  | 0 => .int
  | 1 => .array .char
  | 2 => .int
  | 3 => .int
  | 4 => .array .int
  | 5 => .array .int
  | _ => .array .int
abbrev wsX40 : List Cond := u_ws RX4 TX4 7
theorem nmX4 : ∀ a, a < 7 → ∀ b, b < 7 → a ≠ b → (TX4 a).2.1 ≠ (TX4 b).2.1 := by decide +kernel
theorem tyX4_ok : ∀ k, k < 7 → parseFieldDescriptor (TX4 k).2.2.1 = some (tyX4 k) := by decide +kernel
abbrev cX4_init : ByteArray := prog_6_method_1_code
def yX4_init : MethodName := ⟨RX4, "<init>", "()V"⟩
abbrev cX4_append : ByteArray := prog_6_method_2_code
def yX4_append : MethodName := ⟨RX4, "append", "(C)Z"⟩
abbrev cX4_read : ByteArray := prog_6_method_3_code
def yX4_read : MethodName := ⟨RX4, "read", "()I"⟩
abbrev cX4_readSum : ByteArray := prog_6_method_4_code
def yX4_readSum : MethodName := ⟨RX4, "readSum", "()Z"⟩
abbrev cX4_readThing : ByteArray := prog_6_method_5_code
def yX4_readThing : MethodName := ⟨RX4, "readThing", "()I"⟩
abbrev cX4_digit : ByteArray := prog_6_method_6_code
def yX4_digit : MethodName := ⟨RX4, "digit", "()I"⟩
abbrev cX4_skip : ByteArray := prog_6_method_7_code
def yX4_skip : MethodName := ⟨RX4, "skip", "(C)Z"⟩
abbrev cX4_greatestThing : ByteArray := prog_6_method_8_code
def yX4_greatestThing : MethodName := ⟨RX4, "greatestThing", "()I"⟩
abbrev cX4_addsNothing : ByteArray := prog_6_method_9_code
def yX4_addsNothing : MethodName := ⟨RX4, "addsNothing", "()Z"⟩
abbrev cX4_putSums : ByteArray := prog_6_method_10_code
def yX4_putSums : MethodName := ⟨RX4, "putSums", "(LSometimesSums$Table;)V"⟩
def RX5 : String := "SometimesSums$Weights"
def TX5 : u_T := fun k => match k with
  | 0 => ("SometimesSums$Weights", "ways", "I", false)
  | 1 => ("SometimesSums$Weights", "first", "[I", true)
  | 2 => ("SometimesSums$Weights", "least", "[I", true)
  | 3 => ("SometimesSums$Weights", "most", "[I", true)
  | 4 => ("SometimesSums$Weights", "size", "I", false)
  | 5 => ("SometimesSums$Weights", "pairs", "I", false)
  | 6 => ("SometimesSums$Weights", "ones", "[I", true)
  | 7 => ("SometimesSums$Weights", "others", "[I", true)
  | 8 => ("SometimesSums$Weights", "sums", "[I", true)
  | 9 => ("SometimesSums$Weights", "lows", "[I", true)
  | 10 => ("SometimesSums$Weights", "highs", "[I", true)
  | 11 => ("SometimesSums$Weights", "groups", "[I", true)
  | _ => ("SometimesSums$Weights", "waysOfGroup", "I", false)
def tyX5 : Nat → FieldType := fun k => match k with
  | 0 => .int
  | 1 => .array .int
  | 2 => .array .int
  | 3 => .array .int
  | 4 => .int
  | 5 => .int
  | 6 => .array .int
  | 7 => .array .int
  | 8 => .array .int
  | 9 => .array .int
  | 10 => .array .int
  | 11 => .array .int
  | _ => .int
abbrev wsX50 : List Cond := u_ws RX5 TX5 13
theorem nmX5 : ∀ a, a < 13 → ∀ b, b < 13 → a ≠ b → (TX5 a).2.1 ≠ (TX5 b).2.1 := by decide +kernel
theorem tyX5_ok : ∀ k, k < 13 → parseFieldDescriptor (TX5 k).2.2.1 = some (tyX5 k) := by decide +kernel
abbrev cX5_init : ByteArray := prog_7_method_1_code
def yX5_init : MethodName := ⟨RX5, "<init>", "()V"⟩
abbrev cX5_find : ByteArray := prog_7_method_2_code
def yX5_find : MethodName := ⟨RX5, "find", "(LSometimesSums$Table;I)V"⟩
abbrev cX5_gatherPairs : ByteArray := prog_7_method_3_code
def yX5_gatherPairs : MethodName := ⟨RX5, "gatherPairs", "(LSometimesSums$Table;)V"⟩
abbrev cX5_setFirstRanges : ByteArray := prog_7_method_4_code
def yX5_setFirstRanges : MethodName := ⟨RX5, "setFirstRanges", "(I)V"⟩
abbrev cX5_narrow : ByteArray := prog_7_method_5_code
def yX5_narrow : MethodName := ⟨RX5, "narrow", "(I)Z"⟩
abbrev cX5_narrowBySum : ByteArray := prog_7_method_6_code
def yX5_narrowBySum : MethodName := ⟨RX5, "narrowBySum", "(III)Z"⟩
abbrev cX5_limit : ByteArray := prog_7_method_7_code
def yX5_limit : MethodName := ⟨RX5, "limit", "(III)Z"⟩
abbrev cX5_isEmpty : ByteArray := prog_7_method_8_code
def yX5_isEmpty : MethodName := ⟨RX5, "isEmpty", "(I)Z"⟩
abbrev cX5_isOpen : ByteArray := prog_7_method_9_code
def yX5_isOpen : MethodName := ⟨RX5, "isOpen", "(I)Z"⟩
abbrev cX5_formGroups : ByteArray := prog_7_method_10_code
def yX5_formGroups : MethodName := ⟨RX5, "formGroups", "()V"⟩
abbrev cX5_joinGroups : ByteArray := prog_7_method_11_code
def yX5_joinGroups : MethodName := ⟨RX5, "joinGroups", "(II)V"⟩
abbrev cX5_startRange : ByteArray := prog_7_method_12_code
def yX5_startRange : MethodName := ⟨RX5, "startRange", "(II)V"⟩
abbrev cX5_weigh : ByteArray := prog_7_method_13_code
def yX5_weigh : MethodName := ⟨RX5, "weigh", "(II)V"⟩
abbrev cX5_weighWith : ByteArray := prog_7_method_14_code
def yX5_weighWith : MethodName := ⟨RX5, "weighWith", "(IIII)V"⟩
abbrev cX5_firstOpenThing : ByteArray := prog_7_method_15_code
def yX5_firstOpenThing : MethodName := ⟨RX5, "firstOpenThing", "(II)I"⟩
abbrev cX5_copyRanges : ByteArray := prog_7_method_16_code
def yX5_copyRanges : MethodName := ⟨RX5, "copyRanges", "(I)V"⟩
abbrev cX5_noteWeighing : ByteArray := prog_7_method_17_code
def yX5_noteWeighing : MethodName := ⟨RX5, "noteWeighing", "(II)V"⟩
def RX6 : String := "SometimesSums"
def TX6 : u_T := fun k => match k with
  | 0 => ("SometimesSums", "table", "LSometimesSums$Table;", true)
  | 1 => ("SometimesSums", "snapshot", "LSometimesSums$Table;", true)
  | 2 => ("SometimesSums", "snapshotTaken", "Z", false)
  | 3 => ("SometimesSums", "history", "LSometimesSums$History;", true)
  | 4 => ("SometimesSums", "text", "LSometimesSums$Text;", true)
  | 5 => ("SometimesSums", "laws", "LSometimesSums$Laws;", true)
  | 6 => ("SometimesSums", "relations", "LSometimesSums$Relations;", true)
  | 7 => ("SometimesSums", "weights", "LSometimesSums$Weights;", true)
  | _ => ("SometimesSums", "newNumbers", "[I", true)
def tyX6 : Nat → FieldType := fun k => match k with
  | 0 => .object "SometimesSums$Table"
  | 1 => .object "SometimesSums$Table"
  | 2 => .boolean
  | 3 => .object "SometimesSums$History"
  | 4 => .object "SometimesSums$Text"
  | 5 => .object "SometimesSums$Laws"
  | 6 => .object "SometimesSums$Relations"
  | 7 => .object "SometimesSums$Weights"
  | _ => .array .int
abbrev wsX60 : List Cond := u_ws RX6 TX6 9
theorem nmX6 : ∀ a, a < 9 → ∀ b, b < 9 → a ≠ b → (TX6 a).2.1 ≠ (TX6 b).2.1 := by decide +kernel
theorem tyX6_ok : ∀ k, k < 9 → parseFieldDescriptor (TX6 k).2.2.1 = some (tyX6 k) := by decide +kernel
abbrev cX6_init : ByteArray := prog_1_method_1_code
def yX6_init : MethodName := ⟨RX6, "<init>", "()V"⟩
abbrev cX6_take : ByteArray := prog_1_method_2_code
def yX6_take : MethodName := ⟨RX6, "take", "(II)I"⟩
abbrev cX6_addThing : ByteArray := prog_1_method_3_code
def yX6_addThing : MethodName := ⟨RX6, "addThing", "()I"⟩
abbrev cX6_removeThing : ByteArray := prog_1_method_4_code
def yX6_removeThing : MethodName := ⟨RX6, "removeThing", "(I)I"⟩
abbrev cX6_setSum : ByteArray := prog_1_method_5_code
def yX6_setSum : MethodName := ⟨RX6, "setSum", "(III)I"⟩
abbrev cX6_clearSum : ByteArray := prog_1_method_6_code
def yX6_clearSum : MethodName := ⟨RX6, "clearSum", "(II)I"⟩
abbrev cX6_readSums : ByteArray := prog_1_method_7_code
def yX6_readSums : MethodName := ⟨RX6, "readSums", "()I"⟩
abbrev cX6_glue : ByteArray := prog_1_method_8_code
def yX6_glue : MethodName := ⟨RX6, "glue", "(I)I"⟩
abbrev cX6_twice : ByteArray := prog_1_method_9_code
def yX6_twice : MethodName := ⟨RX6, "twice", "()I"⟩
abbrev cX6_swap : ByteArray := prog_1_method_10_code
def yX6_swap : MethodName := ⟨RX6, "swap", "(II)I"⟩
abbrev cX6_type : ByteArray := prog_1_method_11_code
def yX6_type : MethodName := ⟨RX6, "type", "(C)I"⟩
abbrev cX6_clearText : ByteArray := prog_1_method_12_code
def yX6_clearText : MethodName := ⟨RX6, "clearText", "()I"⟩
abbrev cX6_undo : ByteArray := prog_1_method_13_code
def yX6_undo : MethodName := ⟨RX6, "undo", "()I"⟩
abbrev cX6_keep : ByteArray := prog_1_method_14_code
def yX6_keep : MethodName := ⟨RX6, "keep", "()I"⟩
abbrev cX6_restore : ByteArray := prog_1_method_15_code
def yX6_restore : MethodName := ⟨RX6, "restore", "()I"⟩
abbrev cX6_sum : ByteArray := prog_1_method_16_code
def yX6_sum : MethodName := ⟨RX6, "sum", "(II)I"⟩
abbrev cX6_difference : ByteArray := prog_1_method_17_code
def yX6_difference : MethodName := ⟨RX6, "difference", "(II)I"⟩
abbrev cX6_broken : ByteArray := prog_1_method_18_code
def yX6_broken : MethodName := ⟨RX6, "broken", "(I)I"⟩
abbrev cX6_thing : ByteArray := prog_1_method_19_code
def yX6_thing : MethodName := ⟨RX6, "thing", "(II)I"⟩
abbrev cX6_sumOf : ByteArray := prog_1_method_20_code
def yX6_sumOf : MethodName := ⟨RX6, "sumOf", "(I)I"⟩
abbrev cX6_block : ByteArray := prog_1_method_21_code
def yX6_block : MethodName := ⟨RX6, "block", "(II)I"⟩
abbrev cX6_weighings : ByteArray := prog_1_method_22_code
def yX6_weighings : MethodName := ⟨RX6, "weighings", "(I)I"⟩
abbrev cX6_weight : ByteArray := prog_1_method_23_code
def yX6_weight : MethodName := ⟨RX6, "weight", "(II)I"⟩
abbrev cX6_range : ByteArray := prog_1_method_24_code
def yX6_range : MethodName := ⟨RX6, "range", "(IIZ)I"⟩
abbrev cX6_count : ByteArray := prog_1_method_25_code
def yX6_count : MethodName := ⟨RX6, "count", "(I)I"⟩
abbrev cX6_bit : ByteArray := prog_1_method_26_code
def yX6_bit : MethodName := ⟨RX6, "bit", "(I)I"⟩
abbrev cX6_isNothingOrWhole : ByteArray := prog_1_method_27_code
def yX6_isNothingOrWhole : MethodName := ⟨RX6, "isNothingOrWhole", "(I)Z"⟩
abbrev cX6_thingOrNone : ByteArray := prog_1_method_28_code
def yX6_thingOrNone : MethodName := ⟨RX6, "thingOrNone", "(I)I"⟩
abbrev cX6_isWholeWeight : ByteArray := prog_1_method_29_code
def yX6_isWholeWeight : MethodName := ⟨RX6, "isWholeWeight", "(I)Z"⟩
abbrev cX6_weighingError : ByteArray := prog_1_method_30_code
def yX6_weighingError : MethodName := ⟨RX6, "weighingError", "(II)I"⟩
abbrev cX6_timesAddable : ByteArray := prog_1_method_31_code
def yX6_timesAddable : MethodName := ⟨RX6, "timesAddable", "(I)I"⟩
def RX7 : String := "SometimesSumsModel"
def TX7 : u_T := fun k => match k with
  | 0 => ("SometimesSumsModel", "many", "I", false)
  | 1 => ("SometimesSumsModel", "table", "[I", true)
  | 2 => ("SometimesSumsModel", "made", "[I", true)
  | 3 => ("SometimesSumsModel", "past", "[I", true)
  | 4 => ("SometimesSumsModel", "kept", "I", false)
  | 5 => ("SometimesSumsModel", "shot", "[I", true)
  | 6 => ("SometimesSumsModel", "isShot", "Z", false)
  | 7 => ("SometimesSumsModel", "text", "[I", true)
  | 8 => ("SometimesSumsModel", "typed", "I", false)
  | 9 => ("SometimesSumsModel", "at", "I", false)
  | 10 => ("SometimesSumsModel", "told", "[I", true)
  | 11 => ("SometimesSumsModel", "tolds", "I", false)
  | 12 => ("SometimesSumsModel", "number", "I", false)
  | 13 => ("SometimesSumsModel", "lows", "[I", true)
  | 14 => ("SometimesSumsModel", "highs", "[I", true)
  | 15 => ("SometimesSumsModel", "tried", "[I", true)
  | _ => ("SometimesSumsModel", "with", "[I", true)
def tyX7 : Nat → FieldType := fun k => match k with
  | 0 => .int
  | 1 => .array .int
  | 2 => .array .int
  | 3 => .array .int
  | 4 => .int
  | 5 => .array .int
  | 6 => .boolean
  | 7 => .array .int
  | 8 => .int
  | 9 => .int
  | 10 => .array .int
  | 11 => .int
  | 12 => .int
  | 13 => .array .int
  | 14 => .array .int
  | 15 => .array .int
  | _ => .array .int
abbrev wsX70 : List Cond := u_ws RX7 TX7 17
theorem nmX7 : ∀ a, a < 17 → ∀ b, b < 17 → a ≠ b → (TX7 a).2.1 ≠ (TX7 b).2.1 := by decide +kernel
theorem tyX7_ok : ∀ k, k < 17 → parseFieldDescriptor (TX7 k).2.2.1 = some (tyX7 k) := by decide +kernel
abbrev cX7_init : ByteArray := prog_9_method_1_code
def yX7_init : MethodName := ⟨RX7, "<init>", "()V"⟩
abbrev cX7_in : ByteArray := prog_9_method_3_code
def yX7_in : MethodName := ⟨RX7, "in", "(III)Z"⟩
abbrev cX7_isThing : ByteArray := prog_9_method_4_code
def yX7_isThing : MethodName := ⟨RX7, "isThing", "(I)Z"⟩
abbrev cX7_plus : ByteArray := prog_9_method_5_code
def yX7_plus : MethodName := ⟨RX7, "plus", "(II)I"⟩
abbrev cX7_tells : ByteArray := prog_9_method_6_code
def yX7_tells : MethodName := ⟨RX7, "tells", "(III)V"⟩
abbrev cX7_lays : ByteArray := prog_9_method_7_code
def yX7_lays : MethodName := ⟨RX7, "lays", "([II)V"⟩
abbrev cX7_gets : ByteArray := prog_9_method_8_code
def yX7_gets : MethodName := ⟨RX7, "gets", "([II)V"⟩
abbrev cX7_records : ByteArray := prog_9_method_9_code
def yX7_records : MethodName := ⟨RX7, "records", "()V"⟩
abbrev cX7_undo : ByteArray := prog_9_method_10_code
def yX7_undo : MethodName := ⟨RX7, "undo", "()I"⟩
abbrev cX7_keep : ByteArray := prog_9_method_11_code
def yX7_keep : MethodName := ⟨RX7, "keep", "()I"⟩
abbrev cX7_restore : ByteArray := prog_9_method_12_code
def yX7_restore : MethodName := ⟨RX7, "restore", "()I"⟩
abbrev cX7_empties : ByteArray := prog_9_method_13_code
def yX7_empties : MethodName := ⟨RX7, "empties", "(I)V"⟩
abbrev cX7_linkOf : ByteArray := prog_9_method_14_code
def yX7_linkOf : MethodName := ⟨RX7, "linkOf", "(III)I"⟩
abbrev cX7_chains : ByteArray := prog_9_method_15_code
def yX7_chains : MethodName := ⟨RX7, "chains", "(II)V"⟩
abbrev cX7_setOf : ByteArray := prog_9_method_16_code
def yX7_setOf : MethodName := ⟨RX7, "setOf", "(II)I"⟩
abbrev cX7_thingOf : ByteArray := prog_9_method_17_code
def yX7_thingOf : MethodName := ⟨RX7, "thingOf", "(II)I"⟩
abbrev cX7_unites : ByteArray := prog_9_method_18_code
def yX7_unites : MethodName := ⟨RX7, "unites", "(I)V"⟩
abbrev cX7_take : ByteArray := prog_9_method_19_code
def yX7_take : MethodName := ⟨RX7, "take", "(II)I"⟩
abbrev cX7_comes : ByteArray := prog_9_method_20_code
def yX7_comes : MethodName := ⟨RX7, "comes", "()V"⟩
abbrev cX7_addThing : ByteArray := prog_9_method_21_code
def yX7_addThing : MethodName := ⟨RX7, "addThing", "()I"⟩
abbrev cX7_removeThing : ByteArray := prog_9_method_22_code
def yX7_removeThing : MethodName := ⟨RX7, "removeThing", "(I)I"⟩
abbrev cX7_moves : ByteArray := prog_9_method_23_code
def yX7_moves : MethodName := ⟨RX7, "moves", "()V"⟩
abbrev cX7_setSum : ByteArray := prog_9_method_24_code
def yX7_setSum : MethodName := ⟨RX7, "setSum", "(III)I"⟩
abbrev cX7_clearSum : ByteArray := prog_9_method_25_code
def yX7_clearSum : MethodName := ⟨RX7, "clearSum", "(II)I"⟩
abbrev cX7_glue : ByteArray := prog_9_method_26_code
def yX7_glue : MethodName := ⟨RX7, "glue", "(I)I"⟩
abbrev cX7_pairOf : ByteArray := prog_9_method_27_code
def yX7_pairOf : MethodName := ⟨RX7, "pairOf", "(III)I"⟩
abbrev cX7_twice : ByteArray := prog_9_method_28_code
def yX7_twice : MethodName := ⟨RX7, "twice", "()I"⟩
abbrev cX7_turned : ByteArray := prog_9_method_29_code
def yX7_turned : MethodName := ⟨RX7, "turned", "(III)I"⟩
abbrev cX7_swap : ByteArray := prog_9_method_30_code
def yX7_swap : MethodName := ⟨RX7, "swap", "(II)I"⟩
abbrev cX7_type : ByteArray := prog_9_method_31_code
def yX7_type : MethodName := ⟨RX7, "type", "(C)I"⟩
abbrev cX7_clearText : ByteArray := prog_9_method_32_code
def yX7_clearText : MethodName := ⟨RX7, "clearText", "()I"⟩
abbrev cX7_isAt : ByteArray := prog_9_method_33_code
def yX7_isAt : MethodName := ⟨RX7, "isAt", "(II)Z"⟩
abbrev cX7_isSign : ByteArray := prog_9_method_34_code
def yX7_isSign : MethodName := ⟨RX7, "isSign", "(I)Z"⟩
abbrev cX7_isNumber : ByteArray := prog_9_method_35_code
def yX7_isNumber : MethodName := ⟨RX7, "isNumber", "()Z"⟩
abbrev cX7_isRow : ByteArray := prog_9_method_36_code
def yX7_isRow : MethodName := ⟨RX7, "isRow", "()Z"⟩
abbrev cX7_readSums : ByteArray := prog_9_method_37_code
def yX7_readSums : MethodName := ⟨RX7, "readSums", "()I"⟩
abbrev cX7_sums : ByteArray := prog_9_method_38_code
def yX7_sums : MethodName := ⟨RX7, "sums", "()I"⟩
abbrev cX7_sum : ByteArray := prog_9_method_39_code
def yX7_sum : MethodName := ⟨RX7, "sum", "(II)I"⟩
abbrev cX7_lacks : ByteArray := prog_9_method_40_code
def yX7_lacks : MethodName := ⟨RX7, "lacks", "(II)I"⟩
abbrev cX7_difference : ByteArray := prog_9_method_41_code
def yX7_difference : MethodName := ⟨RX7, "difference", "(II)I"⟩
abbrev cX7_isUnlike : ByteArray := prog_9_method_42_code
def yX7_isUnlike : MethodName := ⟨RX7, "isUnlike", "(III)Z"⟩
abbrev cX7_isUnmet : ByteArray := prog_9_method_43_code
def yX7_isUnmet : MethodName := ⟨RX7, "isUnmet", "(I)Z"⟩
abbrev cX7_isAbove : ByteArray := prog_9_method_44_code
def yX7_isAbove : MethodName := ⟨RX7, "isAbove", "(I)Z"⟩
abbrev cX7_firstBreak : ByteArray := prog_9_method_45_code
def yX7_firstBreak : MethodName := ⟨RX7, "firstBreak", "()I"⟩
abbrev cX7_breaks : ByteArray := prog_9_method_46_code
def yX7_breaks : MethodName := ⟨RX7, "breaks", "()I"⟩
abbrev cX7_broken : ByteArray := prog_9_method_47_code
def yX7_broken : MethodName := ⟨RX7, "broken", "(I)I"⟩
abbrev cX7_partsOf : ByteArray := prog_9_method_48_code
def yX7_partsOf : MethodName := ⟨RX7, "partsOf", "(I)I"⟩
abbrev cX7_isSmallest : ByteArray := prog_9_method_49_code
def yX7_isSmallest : MethodName := ⟨RX7, "isSmallest", "(I)Z"⟩
abbrev cX7_isSharp : ByteArray := prog_9_method_50_code
def yX7_isSharp : MethodName := ⟨RX7, "isSharp", "(I)Z"⟩
abbrev cX7_isMet : ByteArray := prog_9_method_51_code
def yX7_isMet : MethodName := ⟨RX7, "isMet", "(IIII)Z"⟩
abbrev cX7_meets : ByteArray := prog_9_method_52_code
def yX7_meets : MethodName := ⟨RX7, "meets", "()V"⟩
abbrev cX7_multiple : ByteArray := prog_9_method_53_code
def yX7_multiple : MethodName := ⟨RX7, "multiple", "(I)I"⟩
abbrev cX7_thing : ByteArray := prog_9_method_54_code
def yX7_thing : MethodName := ⟨RX7, "thing", "(II)I"⟩
abbrev cX7_sumOf : ByteArray := prog_9_method_55_code
def yX7_sumOf : MethodName := ⟨RX7, "sumOf", "(I)I"⟩
abbrev cX7_isBlock : ByteArray := prog_9_method_56_code
def yX7_isBlock : MethodName := ⟨RX7, "isBlock", "(I)Z"⟩
abbrev cX7_blocks : ByteArray := prog_9_method_57_code
def yX7_blocks : MethodName := ⟨RX7, "blocks", "()I"⟩
abbrev cX7_block : ByteArray := prog_9_method_58_code
def yX7_block : MethodName := ⟨RX7, "block", "(II)I"⟩
abbrev cX7_isDrawn : ByteArray := prog_9_method_59_code
def yX7_isDrawn : MethodName := ⟨RX7, "isDrawn", "(IIII)Z"⟩
abbrev cX7_isRaised : ByteArray := prog_9_method_60_code
def yX7_isRaised : MethodName := ⟨RX7, "isRaised", "(III)Z"⟩
abbrev cX7_isLowered : ByteArray := prog_9_method_61_code
def yX7_isLowered : MethodName := ⟨RX7, "isLowered", "(III)Z"⟩
abbrev cX7_isOpen : ByteArray := prog_9_method_62_code
def yX7_isOpen : MethodName := ⟨RX7, "isOpen", "(I)Z"⟩
abbrev cX7_weighs : ByteArray := prog_9_method_63_code
def yX7_weighs : MethodName := ⟨RX7, "weighs", "(II)V"⟩
abbrev cX7_weighed : ByteArray := prog_9_method_64_code
def yX7_weighed : MethodName := ⟨RX7, "weighed", "(IIII)I"⟩
abbrev cX7_isWeight : ByteArray := prog_9_method_65_code
def yX7_isWeight : MethodName := ⟨RX7, "isWeight", "(I)Z"⟩
abbrev cX7_weighings : ByteArray := prog_9_method_66_code
def yX7_weighings : MethodName := ⟨RX7, "weighings", "(I)I"⟩
abbrev cX7_weight : ByteArray := prog_9_method_67_code
def yX7_weight : MethodName := ⟨RX7, "weight", "(II)I"⟩
abbrev cX7_range : ByteArray := prog_9_method_68_code
def yX7_range : MethodName := ⟨RX7, "range", "(IIZ)I"⟩
abbrev cX7_kinds : ByteArray := prog_9_method_69_code
def yX7_kinds : MethodName := ⟨RX7, "kinds", "(Z)I"⟩
abbrev cX7_unmet : ByteArray := prog_9_method_70_code
def yX7_unmet : MethodName := ⟨RX7, "unmet", "()I"⟩
abbrev cX7_count : ByteArray := prog_9_method_71_code
def yX7_count : MethodName := ⟨RX7, "count", "(I)I"⟩
def RJ9 : String := "java/lang/Math"
def TJ9 : u_T := fun k => match k with
  | _ => ("", "", "", false)
def tyJ9 : Nat → FieldType := fun k => match k with
  | _ => .int
abbrev wsJ90 : List Cond := u_ws RJ9 TJ9 0
theorem nmJ9 : ∀ a, a < 0 → ∀ b, b < 0 → a ≠ b → (TJ9 a).2.1 ≠ (TJ9 b).2.1 := by decide +kernel
theorem tyJ9_ok : ∀ k, k < 0 → parseFieldDescriptor (TJ9 k).2.2.1 = some (tyJ9 k) := by decide +kernel
abbrev cJ9_max_7cf53 : ByteArray := prog_10_method_65_code
def yJ9_max_7cf53 : MethodName := ⟨RJ9, "max", "(II)I"⟩
abbrev cJ9_min_7cf53 : ByteArray := prog_10_method_69_code
def yJ9_min_7cf53 : MethodName := ⟨RJ9, "min", "(II)I"⟩
def RJ10 : String := "java/lang/System"
def TJ10 : u_T := fun k => match k with
  | _ => ("", "", "", false)
def tyJ10 : Nat → FieldType := fun k => match k with
  | _ => .int
abbrev wsJ100 : List Cond := u_ws RJ10 TJ10 0
theorem nmJ10 : ∀ a, a < 0 → ∀ b, b < 0 → a ≠ b → (TJ10 a).2.1 ≠ (TJ10 b).2.1 := by decide +kernel
theorem tyJ10_ok : ∀ k, k < 0 → parseFieldDescriptor (TJ10 k).2.2.1 = some (tyJ10 k) := by decide +kernel
def RL : String := "SometimesSumsLaw"
abbrev cL_law : ByteArray := code
def yL_law : MethodName := ⟨RL, "law", "([I)Z"⟩
abbrev vwCl : List vw_C := [(RX0, TX0, 2), (RX1, TX1, 5), (RX2, TX2, 5), (RX3, TX3, 2), (RX4, TX4, 7), (RX5, TX5, 13), (RX6, TX6, 9), (RX7, TX7, 17)]
end
section
/-! A small machine: ints are integers (wrapped), references are numbers of cells in the order of making (1, 2, ..), the script is the cell 0. -/
abbrev MV : Type := Int ⊕ Nat
/-- ((next cell, slots made), kinds, lengths), ints, references. Kinds: 1 int array, 2 char array, 3 array of tables, 10 + i object of the class i -/
abbrev MW : Type := ((Nat × Nat) × (Nat → Nat) × (Nat → Nat)) × (Nat → Nat → Int) × (Nat → Nat → Option Nat)
def nx (w : MW) : Nat := w.1.1.1
def sl (w : MW) : Nat := w.1.1.2
def kd (w : MW) (a : Nat) : Nat := w.1.2.1 a
def ln (w : MW) (a : Nat) : Nat := w.1.2.2 a
def gi (w : MW) (a k : Nat) : Int := w.2.1 a k
def gr (w : MW) (a k : Nat) : Option Nat := w.2.2 a k
def u1 {α : Type} (f : Nat → α) (a : Nat) (v : α) : Nat → α := fun b => if b = a then v else f b
def u2 {α : Type} (f : Nat → Nat → α) (a k : Nat) (v : α) : Nat → Nat → α := fun b j => if b = a ∧ j = k then v else f b j
def z2 {α : Type} (f : Nat → Nat → α) (a : Nat) (v : α) : Nat → Nat → α := fun b j => if b = a then v else f b j
def si (w : MW) (a k : Nat) (v : Int) : MW := (w.1, u2 w.2.1 a k v, w.2.2)
def sr (w : MW) (a k : Nat) (v : Option Nat) : MW := (w.1, w.2.1, u2 w.2.2 a k v)
def cp2 (f : Nat → Nat → Int) (s sp t tp n : Nat) : Nat → Nat → Int := fun b j => if b = t ∧ tp ≤ j ∧ j < tp + n then f s (sp + (j - tp)) else f b j
/-- arraycopy -/
def cpw (w : MW) (s sp t tp n : Nat) : MW := (w.1, cp2 w.2.1 s sp t tp n, w.2.2)
/-- a new cell of a kind -/
def al (w : MW) (kind len slots : Nat) : MW := (((nx w + 1, sl w + slots), u1 w.1.2.1 (nx w) kind, u1 w.1.2.2 (nx w) len), z2 w.2.1 (nx w) 0, z2 w.2.2 (nx w) none)
def wrap (z : Int) : Int := z.bmod 4294967296
def opI (f : Int32 → Int32 → Int32) (x y : Int) : Int := (f (Int32.ofInt x) (Int32.ofInt y)).toInt
def divI : Int → Int → Int := opI (fun x y => x / y)
def remI : Int → Int → Int := opI (fun x y => x - x / y * y)
def andI : Int → Int → Int := opI (fun x y => x &&& y)
def orI : Int → Int → Int := opI (fun x y => x ||| y)
def xorI : Int → Int → Int := opI (fun x y => x ^^^ y)
def shlI : Int → Int → Int := opI (fun x y => x <<< (y &&& 31))
def shrI : Int → Int → Int := opI (fun x y => x >>> (y &&& 31))
def ushrI : Int → Int → Int := opI (fun x y => (x.toUInt32 >>> (y.toUInt32 &&& Int32.toUInt32 31)).toInt32)
def chrI (x : Int) : Int := x % 65536
def maxI (x y : Int) : Int := if x < y then y else x
def minI (x y : Int) : Int := if y < x then y else x
/-- an instruction, its length, what it means (class, slot, callee ..), the locals that are dead there -/
abbrev MC : Type := Instr × Nat × List Nat × List Nat
/-- its class, its name, its bytes, its locals, what it returns, its code -/
abbrev MI : Type := String × MethodName × ByteArray × Nat × Option FieldType × (Nat → Option MC)
def kill (ds : List Nat) (L : List (Option MV)) : List (Option MV) := ds.foldl (fun L i => L.set i none) L
abbrev Act : Type := (Nat × List (Option MV) × List MV × MW) ⊕ (Option MV × MW) ⊕ (Nat × Nat × List MV × Nat × List (Option MV) × List MV × MW)
def aGo (pc : Nat) (L : List (Option MV)) (st : List MV) (w : MW) : Option Act := some (.inl (pc, L, st, w))
def aRet (v : Option MV) (w : MW) : Option Act := some (.inr (.inl (v, w)))
def aCall (kind k : Nat) (as : List MV) (pc : Nat) (L : List (Option MV)) (st : List MV) (w : MW) : Option Act := some (.inr (.inr (kind, k, as, pc, L, st, w)))
def gd {α : Type} (c : Prop) [Decidable c] (o : Option α) : Option α := if c then o else none
def gto (pc : Nat) (off : Int) : Nat := ((pc : Int) + off).toNat
def lgI (L : List (Option MV)) (i : Nat) (f : Int → Option Act) : Option Act := match L[i]? with
  | some (some (.inl x)) => f x
  | _ => none
def lgR (L : List (Option MV)) (i : Nat) (f : Nat → Option Act) : Option Act := match L[i]? with
  | some (some (.inr x)) => f x
  | _ => none
def s1I (st : List MV) (f : Int → List MV → Option Act) : Option Act := match st with
  | .inl x :: r => f x r
  | _ => none
def s1R (st : List MV) (f : Nat → List MV → Option Act) : Option Act := match st with
  | .inr x :: r => f x r
  | _ => none
def s2I (st : List MV) (f : Int → Int → List MV → Option Act) : Option Act := s1I st fun y r => s1I r fun x r => f x y r
def tst (c : ClassFile.Cond) (x y : Int) : Bool := match c with
  | .eq => decide (x = y)
  | .ne => decide (x ≠ y)
  | .lt => decide (x < y)
  | .ge => decide (y ≤ x)
  | .gt => decide (y < x)
  | .le => decide (x ≤ y)
def ixI (i : Int) (n : Nat) : Prop := 0 ≤ i ∧ i < n
def mcall (kind k n ci : Nat) (virt : Bool) (pc : Nat) (L : List (Option MV)) (st : List MV) (w : MW) : Option Act :=
  gd (n ≤ st.length ∧ (st.drop n).length ≤ 8) (match virt with
    | true => (match (st.take n).reverse with
      | .inr b :: as => gd (kd w b = 10 + ci) (aCall kind k (.inr b :: as) (pc + 3) L (st.drop n) w)
      | _ => none)
    | false => aCall kind k (st.take n).reverse (pc + 3) L (st.drop n) w)
/-- one instruction -/
def mstep (X : Nat × (Nat → Int)) (i : Instr) (n : Nat) (u : List Nat) (pc : Nat) (L : List (Option MV)) (st : List MV) (w : MW) : Option Act :=
  match i with
  | .iconst z => gd (-1 ≤ z ∧ z ≤ 5) (aGo (pc + 1) L (.inl z :: st) w)
  | .bipush z => gd (-128 ≤ z ∧ z ≤ 127) (aGo (pc + 2) L (.inl z :: st) w)
  | .sipush z => gd (-32768 ≤ z ∧ z ≤ 32767) (aGo (pc + 3) L (.inl z :: st) w)
  | .iload_n j => lgI L j fun x => aGo (pc + 1) L (.inl x :: st) w
  | .iload j => lgI L j fun x => aGo (pc + 2) L (.inl x :: st) w
  | .aload_n j => lgR L j fun x => aGo (pc + 1) L (.inr x :: st) w
  | .aload j => lgR L j fun x => aGo (pc + 2) L (.inr x :: st) w
  | .istore_n j => s1I st fun x r => gd ((j : Nat) < L.length) (aGo (pc + 1) (L.set j (some (.inl x))) r w)
  | .istore j => s1I st fun x r => gd (j < L.length) (aGo (pc + 2) (L.set j (some (.inl x))) r w)
  | .astore_n j => s1R st fun x r => gd ((j : Nat) < L.length) (aGo (pc + 1) (L.set j (some (.inr x))) r w)
  | .astore j => s1R st fun x r => gd (j < L.length) (aGo (pc + 2) (L.set j (some (.inr x))) r w)
  | .iadd => s2I st fun x y r => aGo (pc + 1) L (.inl (wrap (x + y)) :: r) w
  | .isub => s2I st fun x y r => aGo (pc + 1) L (.inl (wrap (x - y)) :: r) w
  | .imul => s2I st fun x y r => aGo (pc + 1) L (.inl (wrap (x * y)) :: r) w
  | .idiv => s2I st fun x y r => gd (y ≠ 0) (aGo (pc + 1) L (.inl (divI x y) :: r) w)
  | .irem => s2I st fun x y r => gd (y ≠ 0) (aGo (pc + 1) L (.inl (remI x y) :: r) w)
  | .iand => s2I st fun x y r => aGo (pc + 1) L (.inl (andI x y) :: r) w
  | .ior => s2I st fun x y r => aGo (pc + 1) L (.inl (orI x y) :: r) w
  | .ixor => s2I st fun x y r => aGo (pc + 1) L (.inl (xorI x y) :: r) w
  | .ishl => s2I st fun x y r => aGo (pc + 1) L (.inl (shlI x y) :: r) w
  | .ishr => s2I st fun x y r => aGo (pc + 1) L (.inl (shrI x y) :: r) w
  | .iushr => s2I st fun x y r => aGo (pc + 1) L (.inl (ushrI x y) :: r) w
  | .i2c => s1I st fun x r => aGo (pc + 1) L (.inl (chrI x) :: r) w
  | .dup => (match st with
    | v :: r => aGo (pc + 1) L (v :: v :: r) w
    | _ => none)
  | .dup2 => (match st with
    | v1 :: v2 :: r => aGo (pc + 1) L (v1 :: v2 :: v1 :: v2 :: r) w
    | _ => none)
  | .pop => (match st with
    | _ :: r => aGo (pc + 1) L r w
    | _ => none)
  | .iinc j z => lgI L j fun x => gd (j < L.length ∧ -32768 ≤ z ∧ z ≤ 32767) (aGo (pc + 3) (L.set j (some (.inl (wrap (x + z))))) st w)
  | .goto off => gd (0 ≤ (pc : Int) + off) (aGo (gto pc off) L st w)
  | .ifCond c off => s1I st fun x r => gd (0 ≤ (pc : Int) + off) (if tst c x 0 then aGo (gto pc off) L r w else aGo (pc + 3) L r w)
  | .if_icmp c off => s2I st fun x y r => gd (0 ≤ (pc : Int) + off) (if tst c x y then aGo (gto pc off) L r w else aGo (pc + 3) L r w)
  | .tableswitch dflt lo hi offs => s1I st fun x r => if x < lo ∨ hi < x then gd (0 ≤ (pc : Int) + dflt) (aGo (gto pc dflt) L r w) else (match offs[(x - lo).toNat]? with
    | some off => gd (0 ≤ (pc : Int) + off) (aGo (gto pc off) L r w)
    | none => none)
  | .getfield _ => s1R st fun a r => (match u with
    | [ci, k, 0, _] => gd (kd w a = 10 + ci) (aGo (pc + 3) L (.inl (gi w a k) :: r) w)
    | [ci, k, 1, _] => gd (kd w a = 10 + ci) (match gr w a k with
      | some b => aGo (pc + 3) L (.inr b :: r) w
      | none => none)
    | _ => none)
  | .putfield _ => (match u with
    | [ci, k, 0, _] => s1I st fun v r => s1R r fun a r => gd (kd w a = 10 + ci) (aGo (pc + 3) L r (si w a k v))
    | [ci, k, 2, _] => s1I st fun v r => s1R r fun a r => gd (kd w a = 10 + ci ∧ (v = 0 ∨ v = 1)) (aGo (pc + 3) L r (si w a k v))
    | [ci, k, 1, _] => s1R st fun v r => s1R r fun a r => gd (kd w a = 10 + ci) (aGo (pc + 3) L r (sr w a k (some v)))
    | _ => none)
  | .iaload => s1I st fun j r => s1R r fun a r => (match u with
    | [] => gd (kd w a = 1 ∧ 0 ≤ j ∧ j < ln w a) (aGo (pc + 1) L (.inl (gi w a j.toNat) :: r) w)
    | _ => gd (a = 0 ∧ 0 ≤ j ∧ j < X.1) (aGo (pc + 1) L (.inl (X.2 j.toNat) :: r) w))
  | .iastore => s1I st fun v r => s1I r fun j r => s1R r fun a r => gd (kd w a = 1 ∧ 0 ≤ j ∧ j < ln w a) (aGo (pc + 1) L r (si w a j.toNat v))
  | .caload => s1I st fun j r => s1R r fun a r => gd (kd w a = 2 ∧ 0 ≤ j ∧ j < ln w a) (aGo (pc + 1) L (.inl (gi w a j.toNat) :: r) w)
  | .castore => s1I st fun v r => s1I r fun j r => s1R r fun a r => gd ((kd w a = 2 ∧ 0 ≤ j ∧ j < ln w a) ∧ 0 ≤ v ∧ v < 65536) (aGo (pc + 1) L r (si w a j.toNat v))
  | .aaload => s1I st fun j r => s1R r fun a r => gd (kd w a = 3 ∧ 0 ≤ j ∧ j < ln w a) (match gr w a j.toNat with
    | some b => aGo (pc + 1) L (.inr b :: r) w
    | none => none)
  | .aastore => s1R st fun v r => s1I r fun j r => s1R r fun a r => gd ((kd w a = 3 ∧ 0 ≤ j ∧ j < ln w a) ∧ kd w v = 13) (aGo (pc + 1) L r (sr w a j.toNat (some v)))
  | .arraylength => s1R st fun a r => (match u with
    | [] => gd (kd w a = 1 ∧ ln w a < 2147483648) (aGo (pc + 1) L (.inl (ln w a) :: r) w)
    | _ => gd (a = 0 ∧ X.1 < 2147483648) (aGo (pc + 1) L (.inl X.1 :: r) w))
  | .newarray t => s1I st fun j r => gd (0 ≤ j ∧ j ≤ 1000) (match t with
    | .int => aGo (pc + 2) L (.inr (nx w) :: r) (al w 1 j.toNat j.toNat)
    | .char => aGo (pc + 2) L (.inr (nx w) :: r) (al w 2 j.toNat j.toNat)
    | _ => none)
  | .anewarray _ => s1I st fun j r => gd (0 ≤ j ∧ j ≤ 1000) (aGo (pc + 3) L (.inr (nx w) :: r) (al w 3 j.toNat j.toNat))
  | .new _ => (match u with
    | ci :: nf :: _ => aGo (pc + 3) L (.inr (nx w) :: st) (al w (10 + ci) 0 nf)
    | _ => none)
  | .invokespecial _ => (match u with
    | 0 :: _ => s1R st fun _ r => gd (r.length ≤ 8) (aGo (pc + 3) L r w)
    | 1 :: k :: m :: ci :: _ => mcall 0 k m ci true pc L st w
    | 2 :: k :: m :: ci :: _ => mcall 0 k m ci true pc L st w
    | _ => none)
  | .invokevirtual _ => (match u with
    | kind :: k :: m :: ci :: _ => mcall kind k m ci true pc L st w
    | _ => none)
  | .invokestatic _ => (match u with
    | 0 :: kind :: k :: m :: _ => mcall kind k m 0 false pc L st w
    | 1 :: _ => s2I st fun x y r => gd (r.length ≤ 8) (aGo (pc + 3) L (.inl (maxI x y) :: r) w)
    | 2 :: _ => s2I st fun x y r => gd (r.length ≤ 8) (aGo (pc + 3) L (.inl (minI x y) :: r) w)
    | 4 :: kind :: k :: m :: _ => mcall kind k m 0 false pc L st w
    | 3 :: _ => s2I st fun tp j r => s1R r fun t r => s1I r fun sp r => s1R r fun s r => gd (r.length ≤ 8 ∧ kd w s = 1 ∧ kd w t = 1 ∧ 0 ≤ sp ∧ 0 ≤ tp ∧ 0 ≤ j ∧ sp + j ≤ ln w s ∧ tp + j ≤ ln w t) (aGo (pc + 3) L r (cpw w s sp.toNat t tp.toNat j.toNat))
    | _ => none)
  | .ireturn => (match u with
    | 0 :: _ => s1I st fun x r => gd (r = []) (aRet (some (.inl x)) w)
    | 1 :: _ => s1I st fun x r => gd (r = [] ∧ (x = 0 ∨ x = 1)) (aRet (some (.inl x)) w)
    | _ => none)
  | .areturn => s1R st fun x r => gd (r = []) (aRet (some (.inr x)) w)
  | .return_ => gd (st = []) (aRet none w)
  | _ => none
end
section
/-! the methods of the law, the class and the reference as data: printed by program out of the claim's texts -/
def mfind : List (Nat × MC) → Nat → Option MC
  | [], _ => none
  | (q, e) :: r, pc => bif Nat.beq q pc then some e else mfind r pc
def cdT (t : List (List (Nat × MC))) (pc : Nat) : Option MC := mfind (t.getD (pc / 16) []) pc
def co0 : List (List (Nat × MC)) := [[(0, .new 7, 3, [6, 9, 76, 77, 66], []), (3, .dup, 1, [], []), (4, .invokespecial 9, 3, [1, 70, 1, 6, 78, 79, 66, 80], []), (7, .astore_n 1, 1, [], []), (8, .new 10, 3, [7, 17, 672, 673, 73], []), (11, .dup, 1, [], []), (12, .invokespecial 12, 3, [1, 101, 1, 7, 674, 675, 73, 676], []), (15, .astore_n 2, 1, [], [])],
  [(16, .iconst 0, 1, [], []), (17, .istore_n 3, 1, [], []), (18, .iload_n 3, 1, [], []), (19, .aload_n 0, 1, [], []), (20, .arraylength, 1, [1], []), (21, .iconst 4, 1, [], []), (22, .isub, 1, [], []), (23, .if_icmp .gt 747, 3, [], []), (26, .aload_n 0, 1, [], []), (27, .iload_n 3, 1, [], []), (28, .iaload, 1, [1], []), (29, .bipush 31, 2, [], []), (31, .iand, 1, [], [])],
  [(32, .tableswitch 732 0 23 #[112, 145, 158, 181, 224, 257, 270, 293, 306, 339, 364, 377, 390, 403, 416, 449, 482, 505, 538, 561, 594, 617, 650, 709], 112, [], [])],
  [],
  [],
  [],
  [],
  [],
  [],
  [(144, .aload_n 1, 1, [], []), (145, .aload_n 0, 1, [], []), (146, .iload_n 3, 1, [], []), (147, .iconst 1, 1, [], []), (148, .iadd, 1, [], []), (149, .iaload, 1, [1], []), (150, .aload_n 0, 1, [], []), (151, .iload_n 3, 1, [], []), (152, .iconst 2, 1, [], []), (153, .iadd, 1, [], []), (154, .iaload, 1, [1], []), (155, .invokevirtual 13, 3, [1, 71, 3, 6, 295, 296, 297, 66, 298], []), (158, .aload_n 2, 1, [], []), (159, .aload_n 0, 1, [], [])],
  [(160, .iload_n 3, 1, [], []), (161, .iconst 1, 1, [], []), (162, .iadd, 1, [], []), (163, .iaload, 1, [1], []), (164, .aload_n 0, 1, [], []), (165, .iload_n 3, 1, [], []), (166, .iconst 2, 1, [], []), (167, .iadd, 1, [], []), (168, .iaload, 1, [1], []), (169, .invokevirtual 17, 3, [1, 118, 3, 7, 754, 755, 756, 73, 757], []), (172, .if_icmp .eq 592, 3, [], []), (175, .iconst 0, 1, [], [])],
  [(176, .ireturn, 1, [1], []), (177, .aload_n 1, 1, [], []), (178, .invokevirtual 18, 3, [1, 72, 1, 6, 326, 327, 328, 66, 329], []), (181, .aload_n 2, 1, [], []), (182, .invokevirtual 22, 3, [1, 120, 1, 7, 786, 787, 788, 73, 789], []), (185, .if_icmp .eq 579, 3, [], []), (188, .iconst 0, 1, [], []), (189, .ireturn, 1, [1], []), (190, .aload_n 1, 1, [], []), (191, .aload_n 0, 1, [], [])],
  [(192, .iload_n 3, 1, [], []), (193, .iconst 1, 1, [], []), (194, .iadd, 1, [], []), (195, .iaload, 1, [1], []), (196, .invokevirtual 23, 3, [1, 73, 2, 6, 331, 332, 333, 66, 334], []), (199, .aload_n 2, 1, [], []), (200, .aload_n 0, 1, [], []), (201, .iload_n 3, 1, [], []), (202, .iconst 1, 1, [], []), (203, .iadd, 1, [], []), (204, .iaload, 1, [1], []), (205, .invokevirtual 27, 3, [1, 121, 2, 7, 794, 795, 796, 73, 797], [])],
  [(208, .if_icmp .eq 556, 3, [], []), (211, .iconst 0, 1, [], []), (212, .ireturn, 1, [1], []), (213, .aload_n 1, 1, [], []), (214, .aload_n 0, 1, [], []), (215, .iload_n 3, 1, [], []), (216, .iconst 1, 1, [], []), (217, .iadd, 1, [], []), (218, .iaload, 1, [1], []), (219, .aload_n 0, 1, [], []), (220, .iload_n 3, 1, [], []), (221, .iconst 2, 1, [], []), (222, .iadd, 1, [], []), (223, .iaload, 1, [1], [])],
  [(224, .aload_n 0, 1, [], []), (225, .iload_n 3, 1, [], []), (226, .iconst 3, 1, [], []), (227, .iadd, 1, [], []), (228, .iaload, 1, [1], []), (229, .invokevirtual 28, 3, [1, 74, 4, 6, 347, 348, 349, 66, 350], []), (232, .aload_n 2, 1, [], []), (233, .aload_n 0, 1, [], []), (234, .iload_n 3, 1, [], []), (235, .iconst 1, 1, [], []), (236, .iadd, 1, [], []), (237, .iaload, 1, [1], []), (238, .aload_n 0, 1, [], []), (239, .iload_n 3, 1, [], [])],
  [(240, .iconst 2, 1, [], []), (241, .iadd, 1, [], []), (242, .iaload, 1, [1], []), (243, .aload_n 0, 1, [], []), (244, .iload_n 3, 1, [], []), (245, .iconst 3, 1, [], []), (246, .iadd, 1, [], []), (247, .iaload, 1, [1], []), (248, .invokevirtual 32, 3, [1, 123, 4, 7, 806, 807, 808, 73, 809], []), (251, .if_icmp .eq 513, 3, [], []), (254, .iconst 0, 1, [], []), (255, .ireturn, 1, [1], [])],
  [(256, .aload_n 1, 1, [], []), (257, .aload_n 0, 1, [], []), (258, .iload_n 3, 1, [], []), (259, .iconst 1, 1, [], []), (260, .iadd, 1, [], []), (261, .iaload, 1, [1], []), (262, .aload_n 0, 1, [], []), (263, .iload_n 3, 1, [], []), (264, .iconst 2, 1, [], []), (265, .iadd, 1, [], []), (266, .iaload, 1, [1], []), (267, .invokevirtual 33, 3, [1, 75, 3, 6, 353, 354, 355, 66, 356], []), (270, .aload_n 2, 1, [], []), (271, .aload_n 0, 1, [], [])],
  [(272, .iload_n 3, 1, [], []), (273, .iconst 1, 1, [], []), (274, .iadd, 1, [], []), (275, .iaload, 1, [1], []), (276, .aload_n 0, 1, [], []), (277, .iload_n 3, 1, [], []), (278, .iconst 2, 1, [], []), (279, .iadd, 1, [], []), (280, .iaload, 1, [1], []), (281, .invokevirtual 36, 3, [1, 124, 3, 7, 814, 815, 816, 73, 817], []), (284, .if_icmp .eq 480, 3, [], []), (287, .iconst 0, 1, [], [])],
  [(288, .ireturn, 1, [1], []), (289, .aload_n 1, 1, [], []), (290, .invokevirtual 37, 3, [1, 76, 1, 6, 357, 358, 359, 66, 360], []), (293, .aload_n 2, 1, [], []), (294, .invokevirtual 40, 3, [1, 136, 1, 7, 844, 845, 846, 73, 847], []), (297, .if_icmp .eq 467, 3, [], []), (300, .iconst 0, 1, [], []), (301, .ireturn, 1, [1], []), (302, .aload_n 1, 1, [], []), (303, .aload_n 0, 1, [], [])],
  [(304, .iload_n 3, 1, [], []), (305, .iconst 1, 1, [], []), (306, .iadd, 1, [], []), (307, .iaload, 1, [1], []), (308, .invokevirtual 41, 3, [1, 77, 2, 6, 405, 406, 407, 66, 408], []), (311, .aload_n 2, 1, [], []), (312, .aload_n 0, 1, [], []), (313, .iload_n 3, 1, [], []), (314, .iconst 1, 1, [], []), (315, .iadd, 1, [], []), (316, .iaload, 1, [1], []), (317, .invokevirtual 44, 3, [1, 125, 2, 7, 818, 819, 820, 73, 821], [])],
  [(320, .if_icmp .eq 444, 3, [], []), (323, .iconst 0, 1, [], []), (324, .ireturn, 1, [1], []), (325, .aload_n 1, 1, [], []), (326, .invokevirtual 45, 3, [1, 78, 1, 6, 409, 410, 411, 66, 412], []), (329, .aload_n 2, 1, [], []), (330, .invokevirtual 48, 3, [1, 127, 1, 7, 822, 823, 824, 73, 825], []), (333, .if_icmp .eq 431, 3, [], [])],
  [(336, .iconst 0, 1, [], []), (337, .ireturn, 1, [1], []), (338, .aload_n 1, 1, [], []), (339, .aload_n 0, 1, [], []), (340, .iload_n 3, 1, [], []), (341, .iconst 1, 1, [], []), (342, .iadd, 1, [], []), (343, .iaload, 1, [1], []), (344, .aload_n 0, 1, [], []), (345, .iload_n 3, 1, [], []), (346, .iconst 2, 1, [], []), (347, .iadd, 1, [], []), (348, .iaload, 1, [1], []), (349, .invokevirtual 49, 3, [1, 79, 3, 6, 423, 424, 425, 66, 426], [])],
  [(352, .aload_n 2, 1, [], []), (353, .aload_n 0, 1, [], []), (354, .iload_n 3, 1, [], []), (355, .iconst 1, 1, [], []), (356, .iadd, 1, [], []), (357, .iaload, 1, [1], []), (358, .aload_n 0, 1, [], []), (359, .iload_n 3, 1, [], []), (360, .iconst 2, 1, [], []), (361, .iadd, 1, [], []), (362, .iaload, 1, [1], []), (363, .invokevirtual 52, 3, [1, 129, 3, 7, 829, 830, 831, 73, 832], []), (366, .if_icmp .eq 398, 3, [], [])],
  [(369, .iconst 0, 1, [], []), (370, .ireturn, 1, [1], []), (371, .aload_n 1, 1, [], []), (372, .aload_n 0, 1, [], []), (373, .iload_n 3, 1, [], []), (374, .iconst 1, 1, [], []), (375, .iadd, 1, [], []), (376, .iaload, 1, [1], []), (377, .i2c, 1, [], []), (378, .invokevirtual 53, 3, [1, 80, 2, 6, 434, 435, 436, 66, 437], []), (381, .aload_n 2, 1, [], []), (382, .aload_n 0, 1, [], []), (383, .iload_n 3, 1, [], [])],
  [(384, .iconst 1, 1, [], []), (385, .iadd, 1, [], []), (386, .iaload, 1, [1], []), (387, .i2c, 1, [], []), (388, .invokevirtual 57, 3, [1, 130, 2, 7, 836, 837, 838, 73, 839], []), (391, .if_icmp .eq 373, 3, [], []), (394, .iconst 0, 1, [], []), (395, .ireturn, 1, [1], []), (396, .aload_n 1, 1, [], []), (397, .invokevirtual 58, 3, [1, 81, 1, 6, 442, 443, 444, 66, 445], [])],
  [(400, .aload_n 2, 1, [], []), (401, .invokevirtual 61, 3, [1, 131, 1, 7, 840, 841, 842, 73, 843], []), (404, .if_icmp .eq 360, 3, [], []), (407, .iconst 0, 1, [], []), (408, .ireturn, 1, [1], []), (409, .aload_n 1, 1, [], []), (410, .invokevirtual 62, 3, [1, 82, 1, 6, 446, 447, 448, 66, 449], []), (413, .aload_n 2, 1, [], []), (414, .invokevirtual 65, 3, [1, 109, 1, 7, 730, 731, 732, 73, 733], [])],
  [(417, .if_icmp .eq 347, 3, [], []), (420, .iconst 0, 1, [], []), (421, .ireturn, 1, [1], []), (422, .aload_n 1, 1, [], []), (423, .invokevirtual 66, 3, [1, 83, 1, 6, 454, 455, 456, 66, 457], []), (426, .aload_n 2, 1, [], []), (427, .invokevirtual 69, 3, [1, 110, 1, 7, 738, 739, 740, 73, 741], []), (430, .if_icmp .eq 334, 3, [], [])],
  [(433, .iconst 0, 1, [], []), (434, .ireturn, 1, [1], []), (435, .aload_n 1, 1, [], []), (436, .invokevirtual 70, 3, [1, 84, 1, 6, 459, 460, 461, 66, 462], []), (439, .aload_n 2, 1, [], []), (440, .invokevirtual 73, 3, [1, 111, 1, 7, 746, 747, 748, 73, 749], []), (443, .if_icmp .eq 321, 3, [], []), (446, .iconst 0, 1, [], []), (447, .ireturn, 1, [1], [])],
  [(448, .aload_n 1, 1, [], []), (449, .aload_n 0, 1, [], []), (450, .iload_n 3, 1, [], []), (451, .iconst 1, 1, [], []), (452, .iadd, 1, [], []), (453, .iaload, 1, [1], []), (454, .aload_n 0, 1, [], []), (455, .iload_n 3, 1, [], []), (456, .iconst 2, 1, [], []), (457, .iadd, 1, [], []), (458, .iaload, 1, [1], []), (459, .invokevirtual 74, 3, [1, 85, 3, 6, 463, 464, 465, 66, 466], []), (462, .aload_n 2, 1, [], []), (463, .aload_n 0, 1, [], [])],
  [(464, .iload_n 3, 1, [], []), (465, .iconst 1, 1, [], []), (466, .iadd, 1, [], []), (467, .iaload, 1, [1], []), (468, .aload_n 0, 1, [], []), (469, .iload_n 3, 1, [], []), (470, .iconst 2, 1, [], []), (471, .iadd, 1, [], []), (472, .iaload, 1, [1], []), (473, .invokevirtual 77, 3, [1, 138, 3, 7, 868, 869, 870, 73, 871], []), (476, .if_icmp .eq 288, 3, [], []), (479, .iconst 0, 1, [], [])],
  [(480, .ireturn, 1, [1], []), (481, .aload_n 1, 1, [], []), (482, .aload_n 0, 1, [], []), (483, .iload_n 3, 1, [], []), (484, .iconst 1, 1, [], []), (485, .iadd, 1, [], []), (486, .iaload, 1, [1], []), (487, .aload_n 0, 1, [], []), (488, .iload_n 3, 1, [], []), (489, .iconst 2, 1, [], []), (490, .iadd, 1, [], []), (491, .iaload, 1, [1], []), (492, .invokevirtual 78, 3, [1, 86, 3, 6, 470, 471, 472, 66, 473], []), (495, .aload_n 2, 1, [], [])],
  [(496, .aload_n 0, 1, [], []), (497, .iload_n 3, 1, [], []), (498, .iconst 1, 1, [], []), (499, .iadd, 1, [], []), (500, .iaload, 1, [1], []), (501, .aload_n 0, 1, [], []), (502, .iload_n 3, 1, [], []), (503, .iconst 2, 1, [], []), (504, .iadd, 1, [], []), (505, .iaload, 1, [1], []), (506, .invokevirtual 81, 3, [1, 140, 3, 7, 872, 873, 874, 73, 875], []), (509, .if_icmp .eq 255, 3, [], [])],
  [(512, .iconst 0, 1, [], []), (513, .ireturn, 1, [1], []), (514, .aload_n 1, 1, [], []), (515, .aload_n 0, 1, [], []), (516, .iload_n 3, 1, [], []), (517, .iconst 1, 1, [], []), (518, .iadd, 1, [], []), (519, .iaload, 1, [1], []), (520, .invokevirtual 82, 3, [1, 87, 2, 6, 478, 479, 480, 66, 481], []), (523, .aload_n 2, 1, [], []), (524, .aload_n 0, 1, [], []), (525, .iload_n 3, 1, [], []), (526, .iconst 1, 1, [], []), (527, .iadd, 1, [], [])],
  [(528, .iaload, 1, [1], []), (529, .invokevirtual 85, 3, [1, 146, 2, 7, 880, 881, 882, 73, 883], []), (532, .if_icmp .eq 232, 3, [], []), (535, .iconst 0, 1, [], []), (536, .ireturn, 1, [1], []), (537, .aload_n 1, 1, [], []), (538, .aload_n 0, 1, [], []), (539, .iload_n 3, 1, [], []), (540, .iconst 1, 1, [], []), (541, .iadd, 1, [], []), (542, .iaload, 1, [1], []), (543, .aload_n 0, 1, [], [])],
  [(544, .iload_n 3, 1, [], []), (545, .iconst 2, 1, [], []), (546, .iadd, 1, [], []), (547, .iaload, 1, [1], []), (548, .invokevirtual 86, 3, [1, 88, 3, 6, 499, 500, 501, 66, 502], []), (551, .aload_n 2, 1, [], []), (552, .aload_n 0, 1, [], []), (553, .iload_n 3, 1, [], []), (554, .iconst 1, 1, [], []), (555, .iadd, 1, [], []), (556, .iaload, 1, [1], []), (557, .aload_n 0, 1, [], []), (558, .iload_n 3, 1, [], []), (559, .iconst 2, 1, [], [])],
  [(560, .iadd, 1, [], []), (561, .iaload, 1, [1], []), (562, .invokevirtual 89, 3, [1, 153, 3, 7, 900, 901, 902, 73, 903], []), (565, .if_icmp .eq 199, 3, [], []), (568, .iconst 0, 1, [], []), (569, .ireturn, 1, [1], []), (570, .aload_n 1, 1, [], []), (571, .aload_n 0, 1, [], []), (572, .iload_n 3, 1, [], []), (573, .iconst 1, 1, [], []), (574, .iadd, 1, [], []), (575, .iaload, 1, [1], [])],
  [(576, .invokevirtual 90, 3, [1, 89, 2, 6, 540, 541, 542, 66, 543], []), (579, .aload_n 2, 1, [], []), (580, .aload_n 0, 1, [], []), (581, .iload_n 3, 1, [], []), (582, .iconst 1, 1, [], []), (583, .iadd, 1, [], []), (584, .iaload, 1, [1], []), (585, .invokevirtual 93, 3, [1, 154, 2, 7, 928, 929, 930, 73, 931], []), (588, .if_icmp .eq 176, 3, [], []), (591, .iconst 0, 1, [], [])],
  [(592, .ireturn, 1, [1], []), (593, .aload_n 1, 1, [], []), (594, .aload_n 0, 1, [], []), (595, .iload_n 3, 1, [], []), (596, .iconst 1, 1, [], []), (597, .iadd, 1, [], []), (598, .iaload, 1, [1], []), (599, .aload_n 0, 1, [], []), (600, .iload_n 3, 1, [], []), (601, .iconst 2, 1, [], []), (602, .iadd, 1, [], []), (603, .iaload, 1, [1], []), (604, .invokevirtual 94, 3, [1, 90, 3, 6, 545, 546, 547, 66, 548], []), (607, .aload_n 2, 1, [], [])],
  [(608, .aload_n 0, 1, [], []), (609, .iload_n 3, 1, [], []), (610, .iconst 1, 1, [], []), (611, .iadd, 1, [], []), (612, .iaload, 1, [1], []), (613, .aload_n 0, 1, [], []), (614, .iload_n 3, 1, [], []), (615, .iconst 2, 1, [], []), (616, .iadd, 1, [], []), (617, .iaload, 1, [1], []), (618, .invokevirtual 97, 3, [1, 157, 3, 7, 932, 933, 934, 73, 935], []), (621, .if_icmp .eq 143, 3, [], [])],
  [(624, .iconst 0, 1, [], []), (625, .ireturn, 1, [1], []), (626, .aload_n 1, 1, [], []), (627, .aload_n 0, 1, [], []), (628, .iload_n 3, 1, [], []), (629, .iconst 1, 1, [], []), (630, .iadd, 1, [], []), (631, .iaload, 1, [1], []), (632, .invokevirtual 98, 3, [1, 91, 2, 6, 561, 562, 563, 66, 564], []), (635, .aload_n 2, 1, [], []), (636, .aload_n 0, 1, [], []), (637, .iload_n 3, 1, [], []), (638, .iconst 1, 1, [], []), (639, .iadd, 1, [], [])],
  [(640, .iaload, 1, [1], []), (641, .invokevirtual 101, 3, [1, 165, 2, 7, 940, 941, 942, 73, 943], []), (644, .if_icmp .eq 120, 3, [], []), (647, .iconst 0, 1, [], []), (648, .ireturn, 1, [1], []), (649, .aload_n 1, 1, [], []), (650, .aload_n 0, 1, [], []), (651, .iload_n 3, 1, [], []), (652, .iconst 1, 1, [], []), (653, .iadd, 1, [], []), (654, .iaload, 1, [1], []), (655, .aload_n 0, 1, [], [])],
  [(656, .iload_n 3, 1, [], []), (657, .iconst 2, 1, [], []), (658, .iadd, 1, [], []), (659, .iaload, 1, [1], []), (660, .invokevirtual 102, 3, [1, 92, 3, 6, 638, 639, 640, 66, 641], []), (663, .aload_n 2, 1, [], []), (664, .aload_n 0, 1, [], []), (665, .iload_n 3, 1, [], []), (666, .iconst 1, 1, [], []), (667, .iadd, 1, [], []), (668, .iaload, 1, [1], []), (669, .aload_n 0, 1, [], []), (670, .iload_n 3, 1, [], []), (671, .iconst 2, 1, [], [])],
  [(672, .iadd, 1, [], []), (673, .iaload, 1, [1], []), (674, .invokevirtual 105, 3, [1, 166, 3, 7, 971, 972, 973, 73, 974], []), (677, .if_icmp .eq 87, 3, [], []), (680, .iconst 0, 1, [], []), (681, .ireturn, 1, [1], []), (682, .aload_n 1, 1, [], []), (683, .aload_n 0, 1, [], []), (684, .iload_n 3, 1, [], []), (685, .iconst 1, 1, [], []), (686, .iadd, 1, [], []), (687, .iaload, 1, [1], [])],
  [(688, .aload_n 0, 1, [], []), (689, .iload_n 3, 1, [], []), (690, .iconst 2, 1, [], []), (691, .iadd, 1, [], []), (692, .iaload, 1, [1], []), (693, .aload_n 0, 1, [], []), (694, .iload_n 3, 1, [], []), (695, .iconst 3, 1, [], []), (696, .iadd, 1, [], []), (697, .iaload, 1, [1], []), (698, .ifCond .eq 7, 3, [], []), (701, .iconst 1, 1, [], []), (702, .goto 4, 3, [], [])],
  [(705, .iconst 0, 1, [], []), (706, .invokevirtual 106, 3, [1, 93, 4, 6, 646, 647, 648, 66, 649], []), (709, .aload_n 2, 1, [], []), (710, .aload_n 0, 1, [], []), (711, .iload_n 3, 1, [], []), (712, .iconst 1, 1, [], []), (713, .iadd, 1, [], []), (714, .iaload, 1, [1], []), (715, .aload_n 0, 1, [], []), (716, .iload_n 3, 1, [], []), (717, .iconst 2, 1, [], []), (718, .iadd, 1, [], []), (719, .iaload, 1, [1], [])],
  [(720, .aload_n 0, 1, [], []), (721, .iload_n 3, 1, [], []), (722, .iconst 3, 1, [], []), (723, .iadd, 1, [], []), (724, .iaload, 1, [1], []), (725, .ifCond .eq 7, 3, [], []), (728, .iconst 1, 1, [], []), (729, .goto 4, 3, [], []), (732, .iconst 0, 1, [], []), (733, .invokevirtual 110, 3, [1, 167, 4, 7, 975, 976, 977, 73, 978], [])],
  [(736, .if_icmp .eq 28, 3, [], []), (739, .iconst 0, 1, [], []), (740, .ireturn, 1, [1], []), (741, .aload_n 1, 1, [], []), (742, .aload_n 0, 1, [], []), (743, .iload_n 3, 1, [], []), (744, .iconst 1, 1, [], []), (745, .iadd, 1, [], []), (746, .iaload, 1, [1], []), (747, .invokevirtual 111, 3, [1, 94, 2, 6, 650, 651, 652, 66, 653], []), (750, .aload_n 2, 1, [], []), (751, .aload_n 0, 1, [], [])],
  [(752, .iload_n 3, 1, [], []), (753, .iconst 1, 1, [], []), (754, .iadd, 1, [], []), (755, .iaload, 1, [1], []), (756, .invokevirtual 114, 3, [1, 170, 2, 7, 979, 980, 981, 73, 982], []), (759, .if_icmp .eq 5, 3, [], []), (762, .iconst 0, 1, [], []), (763, .ireturn, 1, [1], []), (764, .iinc 3 4, 3, [], []), (767, .goto (-749), 3, [], [])],
  [(770, .iconst 1, 1, [], []), (771, .ireturn, 1, [1], [])]]
def co1 : List (List (Nat × MC)) := [[(0, .aload_n 0, 1, [], []), (1, .invokespecial 3, 3, [0, 123, 82, 83], []), (4, .aload_n 0, 1, [], []), (5, .iconst 4, 1, [], []), (6, .anewarray 9, 3, [124, 125], []), (9, .putfield 11, 3, [0, 1, 1, 129], []), (12, .iconst 0, 1, [], []), (13, .istore_n 1, 1, [], []), (14, .iload_n 1, 1, [], []), (15, .iconst 4, 1, [], [])],
  [(16, .if_icmp .ge 22, 3, [], []), (19, .aload_n 0, 1, [], []), (20, .getfield 11, 3, [0, 1, 1, 129], []), (23, .iload_n 1, 1, [], []), (24, .new 9, 3, [3, 2, 124, 85, 67], []), (27, .dup, 1, [], []), (28, .invokespecial 17, 3, [1, 23, 1, 3, 126, 87, 67, 88], []), (31, .aastore, 1, [], [])],
  [(32, .iinc 1 1, 3, [], []), (35, .goto (-21), 3, [], []), (38, .return_, 1, [], [])]]
def co2 : List (List (Nat × MC)) := [[(0, .aload_n 0, 1, [], []), (1, .getfield 18, 3, [0, 0, 0, 127], []), (4, .iconst 4, 1, [], []), (5, .if_icmp .ne 7, 3, [], []), (8, .aload_n 0, 1, [], []), (9, .invokevirtual 22, 3, [0, 3, 1, 0, 303, 305, 0, 68, 306], []), (12, .aload_n 0, 1, [], [2]), (13, .getfield 11, 3, [0, 1, 1, 129], [])],
  [(16, .aload_n 0, 1, [], []), (17, .getfield 18, 3, [0, 0, 0, 127], []), (20, .aaload, 1, [], []), (21, .astore_n 2, 1, [], []), (22, .aload_n 2, 1, [], []), (23, .aload_n 1, 1, [], []), (24, .invokevirtual 25, 3, [0, 30, 2, 3, 307, 308, 309, 67, 310], []), (27, .aload_n 0, 1, [], []), (28, .dup, 1, [], []), (29, .getfield 18, 3, [0, 0, 0, 127], [])],
  [(32, .iconst 1, 1, [], []), (33, .iadd, 1, [], []), (34, .putfield 18, 3, [0, 0, 0, 127], []), (37, .aload_n 2, 1, [], []), (38, .areturn, 1, [], [])]]
def co3 : List (List (Nat × MC)) := [[(0, .aload_n 0, 1, [], []), (1, .getfield 11, 3, [0, 1, 1, 129], []), (4, .iconst 0, 1, [], []), (5, .aaload, 1, [], []), (6, .astore_n 1, 1, [], []), (7, .iconst 1, 1, [], []), (8, .istore_n 2, 1, [], []), (9, .iload_n 2, 1, [], []), (10, .iconst 4, 1, [], []), (11, .if_icmp .ge 23, 3, [], []), (14, .aload_n 0, 1, [], []), (15, .getfield 11, 3, [0, 1, 1, 129], [])],
  [(18, .iload_n 2, 1, [], []), (19, .iconst 1, 1, [], []), (20, .isub, 1, [], []), (21, .aload_n 0, 1, [], []), (22, .getfield 11, 3, [0, 1, 1, 129], []), (25, .iload_n 2, 1, [], []), (26, .aaload, 1, [], []), (27, .aastore, 1, [], []), (28, .iinc 2 1, 3, [], []), (31, .goto (-22), 3, [], [])],
  [(34, .aload_n 0, 1, [], []), (35, .getfield 11, 3, [0, 1, 1, 129], []), (38, .iconst 3, 1, [], []), (39, .aload_n 1, 1, [], []), (40, .aastore, 1, [], []), (41, .aload_n 0, 1, [], []), (42, .iconst 3, 1, [], []), (43, .putfield 18, 3, [0, 0, 0, 127], []), (46, .return_, 1, [], [])]]
def co4 : List (List (Nat × MC)) := [[(0, .aload_n 0, 1, [], []), (1, .getfield 18, 3, [0, 0, 0, 127], []), (4, .ifCond .ne 5, 3, [], []), (7, .iconst 0, 1, [], []), (8, .ireturn, 1, [1], []), (9, .aload_n 0, 1, [], []), (10, .dup, 1, [], []), (11, .getfield 18, 3, [0, 0, 0, 127], []), (14, .iconst 1, 1, [], []), (15, .isub, 1, [], [])],
  [(16, .putfield 18, 3, [0, 0, 0, 127], []), (19, .aload_n 1, 1, [], []), (20, .aload_n 0, 1, [], []), (21, .getfield 11, 3, [0, 1, 1, 129], []), (24, .aload_n 0, 1, [], []), (25, .getfield 18, 3, [0, 0, 0, 127], []), (28, .aaload, 1, [], []), (29, .invokevirtual 25, 3, [0, 30, 2, 3, 307, 308, 309, 67, 310], [])],
  [(32, .iconst 1, 1, [], []), (33, .ireturn, 1, [1], [])]]
def co5 : List (List (Nat × MC)) := [[(0, .aload_n 0, 1, [], []), (1, .invokespecial 3, 3, [0, 170, 82, 83], []), (4, .return_, 1, [], [])]]
def co6 : List (List (Nat × MC)) := [[(0, .aload_n 0, 1, [], []), (1, .iconst 0, 1, [], []), (2, .putfield 9, 3, [1, 0, 0, 171], []), (5, .iconst 0, 1, [], []), (6, .istore_n 2, 1, [], []), (7, .iload_n 2, 1, [], [3]), (8, .aload_n 1, 1, [], []), (9, .getfield 15, 3, [3, 0, 0, 109], []), (12, .if_icmp .ge 32, 3, [], []), (15, .iconst 0, 1, [], [])],
  [(16, .istore_n 3, 1, [], []), (17, .iload_n 3, 1, [], []), (18, .aload_n 1, 1, [], []), (19, .getfield 15, 3, [3, 0, 0, 109], []), (22, .if_icmp .ge 16, 3, [], []), (25, .aload_n 0, 1, [], []), (26, .aload_n 1, 1, [], []), (27, .iload_n 2, 1, [], []), (28, .iload_n 3, 1, [], []), (29, .invokevirtual 20, 3, [0, 7, 4, 1, 486, 488, 5, 70, 489], [])],
  [(32, .iinc 3 1, 3, [], []), (35, .goto (-18), 3, [], []), (38, .iinc 2 1, 3, [], []), (41, .goto (-34), 3, [], []), (44, .iconst 0, 1, [], []), (45, .istore_n 2, 1, [], []), (46, .iload_n 2, 1, [], [3]), (47, .aload_n 1, 1, [], [])],
  [(48, .getfield 15, 3, [3, 0, 0, 109], []), (51, .if_icmp .ge 26, 3, [], []), (54, .aload_n 1, 1, [], []), (55, .iload_n 2, 1, [], []), (56, .invokestatic 24, 3, [0, 1, 8, 2, 495, 496, 70, 497], []), (59, .iconst 1, 1, [], []), (60, .if_icmp .eq 11, 3, [], []), (63, .aload_n 0, 1, [], [])],
  [(64, .iconst 1, 1, [], []), (65, .iload_n 2, 1, [], []), (66, .iconst 0, 1, [], []), (67, .iconst 0, 1, [], []), (68, .invokevirtual 28, 3, [0, 9, 5, 1, 491, 493, 6, 70, 494], []), (71, .iinc 2 1, 3, [], []), (74, .goto (-28), 3, [], []), (77, .iconst 1, 1, [], []), (78, .istore_n 2, 1, [], []), (79, .iload_n 2, 1, [], [3])],
  [(80, .aload_n 1, 1, [], []), (81, .getfield 15, 3, [3, 0, 0, 109], []), (84, .if_icmp .ge 26, 3, [], []), (87, .aload_n 1, 1, [], []), (88, .iload_n 2, 1, [], []), (89, .iconst 1, 1, [], []), (90, .invokevirtual 32, 3, [1, 26, 3, 3, 498, 402, 403, 67, 404], []), (93, .ifCond .eq 11, 3, [], [])],
  [(96, .aload_n 0, 1, [], []), (97, .iconst 2, 1, [], []), (98, .iload_n 2, 1, [], []), (99, .iconst 0, 1, [], []), (100, .iconst 0, 1, [], []), (101, .invokevirtual 28, 3, [0, 9, 5, 1, 491, 493, 6, 70, 494], []), (104, .iinc 2 1, 3, [], []), (107, .goto (-28), 3, [], []), (110, .return_, 1, [], [])]]
def co7 : List (List (Nat × MC)) := [[(0, .iconst 0, 1, [], []), (1, .istore 4, 2, [], []), (3, .iload 4, 2, [], [5, 6]), (5, .aload_n 1, 1, [], []), (6, .getfield 15, 3, [3, 0, 0, 109], []), (9, .if_icmp .ge 60, 3, [], []), (12, .aload_n 1, 1, [], []), (13, .iload_n 2, 1, [], []), (14, .aload_n 1, 1, [], []), (15, .iload_n 3, 1, [], [])],
  [(16, .iload 4, 2, [], []), (18, .invokevirtual 36, 3, [1, 25, 3, 3, 490, 344, 345, 67, 346], []), (21, .invokevirtual 36, 3, [1, 25, 3, 3, 490, 344, 345, 67, 346], []), (24, .istore 5, 2, [], []), (26, .aload_n 1, 1, [], []), (27, .aload_n 1, 1, [], []), (28, .iload_n 2, 1, [], []), (29, .iload_n 3, 1, [], []), (30, .invokevirtual 36, 3, [1, 25, 3, 3, 490, 344, 345, 67, 346], [])],
  [(33, .iload 4, 2, [], []), (35, .invokevirtual 36, 3, [1, 25, 3, 3, 490, 344, 345, 67, 346], []), (38, .istore 6, 2, [], []), (40, .iload 5, 2, [], []), (42, .bipush 12, 2, [], []), (44, .if_icmp .eq 19, 3, [], []), (47, .iload 6, 2, [], [])],
  [(49, .iload 5, 2, [], []), (51, .if_icmp .eq 12, 3, [], []), (54, .aload_n 0, 1, [], []), (55, .iconst 0, 1, [], []), (56, .iload_n 2, 1, [], []), (57, .iload_n 3, 1, [], []), (58, .iload 4, 2, [], []), (60, .invokevirtual 28, 3, [0, 9, 5, 1, 491, 493, 6, 70, 494], []), (63, .iinc 4 1, 3, [], [])],
  [(66, .goto (-63), 3, [], []), (69, .return_, 1, [], [])]]
def co8 : List (List (Nat × MC)) := [[(0, .iconst 0, 1, [], []), (1, .istore_n 2, 1, [], []), (2, .iconst 0, 1, [], []), (3, .istore_n 3, 1, [], []), (4, .iload_n 3, 1, [], []), (5, .aload_n 0, 1, [], []), (6, .getfield 15, 3, [3, 0, 0, 109], []), (9, .if_icmp .ge 22, 3, [], []), (12, .aload_n 0, 1, [], []), (13, .iload_n 1, 1, [], []), (14, .iload_n 3, 1, [], []), (15, .invokevirtual 36, 3, [1, 25, 3, 3, 490, 344, 345, 67, 346], [])],
  [(18, .iconst 1, 1, [], []), (19, .if_icmp .ne 6, 3, [], []), (22, .iinc 2 1, 3, [], []), (25, .iinc 3 1, 3, [], []), (28, .goto (-24), 3, [], []), (31, .iload_n 2, 1, [], [])],
  [(32, .ireturn, 1, [0], [])]]
def co9 : List (List (Nat × MC)) := [[(0, .aload_n 0, 1, [], []), (1, .getfield 9, 3, [1, 0, 0, 171], []), (4, .ifCond .ne 24, 3, [], []), (7, .aload_n 0, 1, [], []), (8, .iload_n 1, 1, [], []), (9, .putfield 40, 3, [1, 1, 0, 173], []), (12, .aload_n 0, 1, [], []), (13, .iload_n 2, 1, [], []), (14, .putfield 43, 3, [1, 2, 0, 175], [])],
  [(17, .aload_n 0, 1, [], []), (18, .iload_n 3, 1, [], []), (19, .putfield 46, 3, [1, 3, 0, 177], []), (22, .aload_n 0, 1, [], []), (23, .iload 4, 2, [], []), (25, .putfield 49, 3, [1, 4, 0, 179], []), (28, .aload_n 0, 1, [], []), (29, .dup, 1, [], []), (30, .getfield 9, 3, [1, 0, 0, 171], [])],
  [(33, .iconst 1, 1, [], []), (34, .iadd, 1, [], []), (35, .putfield 9, 3, [1, 0, 0, 171], []), (38, .return_, 1, [], [])]]
def co10 : List (List (Nat × MC)) := [[(0, .aload_n 0, 1, [], []), (1, .invokespecial 3, 3, [0, 197, 82, 83], []), (4, .aload_n 0, 1, [], []), (5, .bipush 12, 2, [], []), (7, .newarray .int, 2, [117], []), (9, .putfield 9, 3, [2, 0, 1, 198], []), (12, .aload_n 0, 1, [], []), (13, .bipush 12, 2, [], []), (15, .newarray .int, 2, [117], [])],
  [(17, .putfield 15, 3, [2, 1, 1, 200], []), (20, .aload_n 0, 1, [], []), (21, .bipush 12, 2, [], []), (23, .newarray .int, 2, [117], []), (25, .putfield 18, 3, [2, 2, 1, 202], []), (28, .aload_n 0, 1, [], []), (29, .bipush 12, 2, [], []), (31, .newarray .int, 2, [117], [])],
  [(33, .putfield 21, 3, [2, 3, 1, 204], []), (36, .return_, 1, [], [])]]
def co11 : List (List (Nat × MC)) := [[(0, .aload_n 0, 1, [], []), (1, .aload_n 1, 1, [], []), (2, .getfield 24, 3, [3, 0, 0, 106], []), (5, .putfield 30, 3, [2, 4, 0, 205], []), (8, .iconst 0, 1, [], []), (9, .istore_n 2, 1, [], []), (10, .iload_n 2, 1, [], [3, 4]), (11, .aload_n 0, 1, [], []), (12, .getfield 30, 3, [2, 4, 0, 205], []), (15, .if_icmp .ge 41, 3, [], [])],
  [(18, .aload_n 0, 1, [], []), (19, .getfield 9, 3, [2, 0, 1, 198], []), (22, .iload_n 2, 1, [], []), (23, .iconst 0, 1, [], []), (24, .iastore, 1, [], []), (25, .aload_n 0, 1, [], []), (26, .getfield 15, 3, [2, 1, 1, 200], []), (29, .iload_n 2, 1, [], []), (30, .iconst 0, 1, [], []), (31, .iastore, 1, [], [])],
  [(32, .aload_n 0, 1, [], []), (33, .getfield 18, 3, [2, 2, 1, 202], []), (36, .iload_n 2, 1, [], []), (37, .iconst 0, 1, [], []), (38, .iastore, 1, [], []), (39, .aload_n 0, 1, [], []), (40, .getfield 21, 3, [2, 3, 1, 204], []), (43, .iload_n 2, 1, [], []), (44, .aload_n 1, 1, [], []), (45, .iload_n 2, 1, [], []), (46, .invokevirtual 31, 3, [1, 39, 2, 3, 507, 508, 509, 67, 510], [])],
  [(49, .iastore, 1, [], []), (50, .iinc 2 1, 3, [], []), (53, .goto (-43), 3, [], []), (56, .iconst 0, 1, [], []), (57, .istore_n 2, 1, [], []), (58, .iload_n 2, 1, [], [3, 4]), (59, .aload_n 0, 1, [], []), (60, .getfield 30, 3, [2, 4, 0, 205], []), (63, .if_icmp .ge 77, 3, [], [])],
  [(66, .iconst 0, 1, [], []), (67, .istore_n 3, 1, [], []), (68, .iload_n 3, 1, [], [4]), (69, .aload_n 0, 1, [], []), (70, .getfield 30, 3, [2, 4, 0, 205], []), (73, .if_icmp .ge 61, 3, [], []), (76, .aload_n 1, 1, [], []), (77, .iload_n 2, 1, [], []), (78, .iload_n 3, 1, [], []), (79, .invokevirtual 35, 3, [1, 25, 3, 3, 512, 344, 345, 67, 346], [])],
  [(82, .istore 4, 2, [], []), (84, .iload 4, 2, [], []), (86, .bipush 12, 2, [], []), (88, .if_icmp .eq 40, 3, [], []), (91, .aload_n 0, 1, [], []), (92, .getfield 9, 3, [2, 0, 1, 198], []), (95, .iload 4, 2, [], [])],
  [(97, .dup2, 1, [], []), (98, .iaload, 1, [], []), (99, .iload_n 2, 1, [], []), (100, .invokestatic 39, 3, [4, 1, 95, 1, 2, 432, 66, 433], []), (103, .ior, 1, [], []), (104, .iastore, 1, [], []), (105, .aload_n 0, 1, [], []), (106, .getfield 15, 3, [2, 1, 1, 200], []), (109, .iload_n 2, 1, [], []), (110, .dup2, 1, [], []), (111, .iaload, 1, [], [])],
  [(112, .iload 4, 2, [], []), (114, .invokestatic 39, 3, [4, 1, 95, 1, 2, 432, 66, 433], []), (117, .ior, 1, [], []), (118, .iastore, 1, [], []), (119, .aload_n 0, 1, [], []), (120, .aload_n 1, 1, [], []), (121, .iload 4, 2, [], []), (123, .iload_n 2, 1, [], []), (124, .iload_n 3, 1, [], []), (125, .invokevirtual 42, 3, [0, 12, 5, 2, 514, 516, 7, 71, 517], [])],
  [(128, .iinc 3 1, 3, [], []), (131, .goto (-63), 3, [], []), (134, .iinc 2 1, 3, [], []), (137, .goto (-79), 3, [], []), (140, .return_, 1, [], [])]]
def co12 : List (List (Nat × MC)) := [[(0, .iconst 0, 1, [], []), (1, .istore 5, 2, [], []), (3, .iload 5, 2, [], [6]), (5, .aload_n 0, 1, [], []), (6, .getfield 30, 3, [2, 4, 0, 205], []), (9, .if_icmp .ge 60, 3, [], []), (12, .aload_n 1, 1, [], []), (13, .iload 4, 2, [], []), (15, .iload 5, 2, [], [])],
  [(17, .invokevirtual 35, 3, [1, 25, 3, 3, 512, 344, 345, 67, 346], []), (20, .istore 6, 2, [], []), (22, .iload 6, 2, [], []), (24, .bipush 12, 2, [], []), (26, .if_icmp .eq 37, 3, [], []), (29, .aload_n 1, 1, [], []), (30, .iload_n 2, 1, [], []), (31, .iload 5, 2, [], [])],
  [(33, .invokevirtual 46, 3, [1, 26, 3, 3, 518, 402, 403, 67, 404], []), (36, .ifCond .eq 27, 3, [], []), (39, .aload_n 1, 1, [], []), (40, .iload_n 3, 1, [], []), (41, .iload 6, 2, [], []), (43, .invokevirtual 46, 3, [1, 26, 3, 3, 518, 402, 403, 67, 404], []), (46, .ifCond .eq 17, 3, [], [])],
  [(49, .aload_n 0, 1, [], []), (50, .getfield 18, 3, [2, 2, 1, 202], []), (53, .iload_n 2, 1, [], []), (54, .dup2, 1, [], []), (55, .iaload, 1, [], []), (56, .iload 6, 2, [], []), (58, .invokestatic 39, 3, [4, 1, 95, 1, 2, 432, 66, 433], []), (61, .ior, 1, [], []), (62, .iastore, 1, [], []), (63, .iinc 5 1, 3, [], [])],
  [(66, .goto (-63), 3, [], []), (69, .return_, 1, [], [])]]
def co13 : List (List (Nat × MC)) := [[(0, .iload_n 1, 1, [], []), (1, .ifCond .eq 16, 3, [], []), (4, .aload_n 0, 1, [], []), (5, .iload_n 1, 1, [], []), (6, .iconst (-1), 1, [], []), (7, .invokevirtual 50, 3, [1, 14, 3, 2, 524, 526, 8, 71, 527], []), (10, .ifCond .eq 7, 3, [], []), (13, .iconst 1, 1, [], []), (14, .goto 4, 3, [], [])],
  [(17, .iconst 0, 1, [], []), (18, .ireturn, 1, [1], [])]]
def co14 : List (List (Nat × MC)) := [[(0, .aload_n 0, 1, [], []), (1, .getfield 9, 3, [2, 0, 1, 198], []), (4, .iload_n 1, 1, [], []), (5, .iaload, 1, [], []), (6, .iload_n 2, 1, [], []), (7, .iand, 1, [], []), (8, .iload_n 1, 1, [], []), (9, .invokestatic 39, 3, [4, 1, 95, 1, 2, 432, 66, 433], []), (12, .iconst (-1), 1, [], []), (13, .ixor, 1, [], []), (14, .iand, 1, [], []), (15, .iconst 0, 1, [], [])],
  [(16, .invokestatic 39, 3, [4, 1, 95, 1, 2, 432, 66, 433], []), (19, .iconst (-1), 1, [], []), (20, .ixor, 1, [], []), (21, .iand, 1, [], []), (22, .ifCond .ne 7, 3, [], []), (25, .iconst 1, 1, [], []), (26, .goto 4, 3, [], []), (29, .iconst 0, 1, [], []), (30, .ireturn, 1, [1], [])]]
def co15 : List (List (Nat × MC)) := [[(0, .aload_n 0, 1, [], []), (1, .getfield 21, 3, [2, 3, 1, 204], []), (4, .iload_n 1, 1, [], []), (5, .iaload, 1, [], []), (6, .istore_n 2, 1, [], []), (7, .iload_n 2, 1, [], []), (8, .bipush 12, 2, [], []), (10, .if_icmp .eq 27, 3, [], []), (13, .aload_n 0, 1, [], []), (14, .getfield 9, 3, [2, 0, 1, 198], [])],
  [(17, .iload_n 1, 1, [], []), (18, .iaload, 1, [], []), (19, .aload_n 0, 1, [], []), (20, .getfield 9, 3, [2, 0, 1, 198], []), (23, .iload_n 2, 1, [], []), (24, .iaload, 1, [], []), (25, .iand, 1, [], []), (26, .iconst 0, 1, [], []), (27, .invokestatic 39, 3, [4, 1, 95, 1, 2, 432, 66, 433], []), (30, .if_icmp .ne 7, 3, [], [])],
  [(33, .iconst 1, 1, [], []), (34, .goto 4, 3, [], []), (37, .iconst 0, 1, [], []), (38, .ireturn, 1, [1], [])]]
def co16 : List (List (Nat × MC)) := [[(0, .iconst 0, 1, [], []), (1, .istore_n 1, 1, [], []), (2, .iconst 0, 1, [], []), (3, .istore_n 2, 1, [], []), (4, .iload_n 2, 1, [], []), (5, .aload_n 0, 1, [], []), (6, .getfield 30, 3, [2, 4, 0, 205], []), (9, .if_icmp .ge 24, 3, [], []), (12, .aload_n 0, 1, [], []), (13, .iload_n 2, 1, [], []), (14, .invokevirtual 53, 3, [1, 13, 2, 2, 662, 521, 522, 71, 523], [])],
  [(17, .ifCond .eq 10, 3, [], []), (20, .iload_n 1, 1, [], []), (21, .iload_n 2, 1, [], []), (22, .invokestatic 39, 3, [4, 1, 95, 1, 2, 432, 66, 433], []), (25, .ior, 1, [], []), (26, .istore_n 1, 1, [], []), (27, .iinc 2 1, 3, [], []), (30, .goto (-26), 3, [], [])],
  [(33, .iload_n 1, 1, [], []), (34, .ireturn, 1, [0], [])]]
def co17 : List (List (Nat × MC)) := [[(0, .iconst 0, 1, [], []), (1, .istore_n 2, 1, [], []), (2, .iconst 1, 1, [], []), (3, .istore_n 3, 1, [], []), (4, .iload_n 3, 1, [], []), (5, .aload_n 0, 1, [], []), (6, .getfield 30, 3, [2, 4, 0, 205], []), (9, .if_icmp .ge 34, 3, [], []), (12, .iload_n 1, 1, [], []), (13, .iload_n 3, 1, [], []), (14, .invokestatic 39, 3, [4, 1, 95, 1, 2, 432, 66, 433], [])],
  [(17, .iand, 1, [], []), (18, .ifCond .eq 19, 3, [], []), (21, .aload_n 0, 1, [], []), (22, .iload_n 3, 1, [], []), (23, .iload_n 1, 1, [], []), (24, .invokevirtual 50, 3, [1, 14, 3, 2, 524, 526, 8, 71, 527], []), (27, .ifCond .eq 10, 3, [], []), (30, .iload_n 2, 1, [], []), (31, .iload_n 3, 1, [], [])],
  [(32, .invokestatic 39, 3, [4, 1, 95, 1, 2, 432, 66, 433], []), (35, .ior, 1, [], []), (36, .istore_n 2, 1, [], []), (37, .iinc 3 1, 3, [], []), (40, .goto (-36), 3, [], []), (43, .iload_n 2, 1, [], []), (44, .ireturn, 1, [0], [])]]
def co18 : List (List (Nat × MC)) := [[(0, .iconst 0, 1, [], []), (1, .istore_n 1, 1, [], []), (2, .iconst 0, 1, [], []), (3, .istore_n 2, 1, [], []), (4, .iload_n 2, 1, [], []), (5, .aload_n 0, 1, [], []), (6, .getfield 30, 3, [2, 4, 0, 205], []), (9, .if_icmp .ge 24, 3, [], []), (12, .aload_n 0, 1, [], []), (13, .iload_n 2, 1, [], []), (14, .invokevirtual 57, 3, [1, 15, 2, 2, 667, 529, 530, 71, 531], [])],
  [(17, .ifCond .eq 10, 3, [], []), (20, .iload_n 1, 1, [], []), (21, .iload_n 2, 1, [], []), (22, .invokestatic 39, 3, [4, 1, 95, 1, 2, 432, 66, 433], []), (25, .ior, 1, [], []), (26, .istore_n 1, 1, [], []), (27, .iinc 2 1, 3, [], []), (30, .goto (-26), 3, [], [])],
  [(33, .iload_n 1, 1, [], []), (34, .ireturn, 1, [0], [])]]
def co19 : List (List (Nat × MC)) := [[(0, .iconst 0, 1, [], []), (1, .istore_n 1, 1, [], []), (2, .iconst 0, 1, [], []), (3, .istore_n 2, 1, [], []), (4, .iload_n 2, 1, [], [3]), (5, .aload_n 0, 1, [], []), (6, .getfield 30, 3, [2, 4, 0, 205], []), (9, .if_icmp .ge 44, 3, [], []), (12, .iload_n 2, 1, [], []), (13, .iconst 1, 1, [], []), (14, .iadd, 1, [], []), (15, .istore_n 3, 1, [], [])],
  [(16, .iload_n 3, 1, [], []), (17, .aload_n 0, 1, [], []), (18, .getfield 30, 3, [2, 4, 0, 205], []), (21, .if_icmp .ge 26, 3, [], []), (24, .aload_n 0, 1, [], []), (25, .getfield 18, 3, [2, 2, 1, 202], []), (28, .iload_n 2, 1, [], []), (29, .iaload, 1, [], []), (30, .iload_n 3, 1, [], []), (31, .invokestatic 39, 3, [4, 1, 95, 1, 2, 432, 66, 433], [])],
  [(34, .iand, 1, [], []), (35, .ifCond .ne 6, 3, [], []), (38, .iinc 1 1, 3, [], []), (41, .iinc 3 1, 3, [], []), (44, .goto (-28), 3, [], []), (47, .iinc 2 1, 3, [], [])],
  [(50, .goto (-46), 3, [], []), (53, .iload_n 1, 1, [], []), (54, .ireturn, 1, [0], [])]]
def co20 : List (List (Nat × MC)) := [[(0, .iconst 0, 1, [], []), (1, .istore_n 1, 1, [], []), (2, .iconst 1, 1, [], []), (3, .istore_n 2, 1, [], []), (4, .iload_n 2, 1, [], []), (5, .aload_n 0, 1, [], []), (6, .getfield 30, 3, [2, 4, 0, 205], []), (9, .invokestatic 39, 3, [4, 1, 95, 1, 2, 432, 66, 433], []), (12, .if_icmp .ge 20, 3, [], []), (15, .aload_n 0, 1, [], [])],
  [(16, .iload_n 2, 1, [], []), (17, .invokevirtual 60, 3, [1, 22, 2, 2, 553, 555, 10, 71, 556], []), (20, .ifCond .eq 6, 3, [], []), (23, .iinc 1 1, 3, [], []), (26, .iinc 2 1, 3, [], []), (29, .goto (-25), 3, [], [])],
  [(32, .iload_n 1, 1, [], []), (33, .ireturn, 1, [0], [])]]
def co21 : List (List (Nat × MC)) := [[(0, .iconst 0, 1, [], []), (1, .istore_n 2, 1, [], []), (2, .iconst 1, 1, [], []), (3, .istore_n 3, 1, [], []), (4, .iload_n 3, 1, [], []), (5, .aload_n 0, 1, [], []), (6, .getfield 30, 3, [2, 4, 0, 205], []), (9, .invokestatic 39, 3, [4, 1, 95, 1, 2, 432, 66, 433], []), (12, .if_icmp .ge 27, 3, [], []), (15, .aload_n 0, 1, [], [])],
  [(16, .iload_n 3, 1, [], []), (17, .invokevirtual 60, 3, [1, 22, 2, 2, 553, 555, 10, 71, 556], []), (20, .ifCond .eq 13, 3, [], []), (23, .iload_n 2, 1, [], []), (24, .iload_n 1, 1, [], []), (25, .if_icmp .ne 5, 3, [], []), (28, .iload_n 3, 1, [], []), (29, .ireturn, 1, [0], []), (30, .iinc 2 1, 3, [], [])],
  [(33, .iinc 3 1, 3, [], []), (36, .goto (-32), 3, [], []), (39, .iconst 0, 1, [], []), (40, .ireturn, 1, [0], [])]]
def co22 : List (List (Nat × MC)) := [[(0, .iconst (-1), 1, [], []), (1, .istore_n 2, 1, [], []), (2, .iconst 0, 1, [], []), (3, .istore_n 3, 1, [], []), (4, .iload_n 3, 1, [], []), (5, .aload_n 0, 1, [], []), (6, .getfield 30, 3, [2, 4, 0, 205], []), (9, .if_icmp .ge 27, 3, [], []), (12, .iload_n 1, 1, [], []), (13, .iload_n 3, 1, [], []), (14, .invokestatic 39, 3, [4, 1, 95, 1, 2, 432, 66, 433], [])],
  [(17, .iand, 1, [], []), (18, .ifCond .eq 12, 3, [], []), (21, .iload_n 2, 1, [], []), (22, .aload_n 0, 1, [], []), (23, .getfield 18, 3, [2, 2, 1, 202], []), (26, .iload_n 3, 1, [], []), (27, .iaload, 1, [], []), (28, .iand, 1, [], []), (29, .istore_n 2, 1, [], []), (30, .iinc 3 1, 3, [], [])],
  [(33, .goto (-29), 3, [], []), (36, .iload_n 2, 1, [], []), (37, .iload_n 1, 1, [], []), (38, .if_icmp .ne 7, 3, [], []), (41, .iconst 1, 1, [], []), (42, .goto 4, 3, [], []), (45, .iconst 0, 1, [], []), (46, .ireturn, 1, [1], [])]]
def co23 : List (List (Nat × MC)) := [[(0, .aload_n 0, 1, [], []), (1, .invokespecial 3, 3, [0, 89, 82, 83], []), (4, .aload_n 0, 1, [], []), (5, .sipush 144, 3, [], []), (8, .newarray .int, 2, [117], []), (10, .putfield 9, 3, [3, 1, 1, 111], []), (13, .aload_n 0, 1, [], []), (14, .iconst 2, 1, [], []), (15, .invokevirtual 15, 3, [0, 28, 2, 3, 90, 91, 92, 67, 93], [])],
  [(18, .return_, 1, [], [])]]
def co24 : List (List (Nat × MC)) := [[(0, .iload_n 1, 1, [], []), (1, .ifCond .lt 15, 3, [], []), (4, .iload_n 1, 1, [], []), (5, .aload_n 0, 1, [], []), (6, .getfield 19, 3, [3, 0, 0, 108], []), (9, .if_icmp .ge 7, 3, [], []), (12, .iconst 1, 1, [], []), (13, .goto 4, 3, [], [])],
  [(16, .iconst 0, 1, [], []), (17, .ireturn, 1, [1], [])]]
def co25 : List (List (Nat × MC)) := [[(0, .aload_n 0, 1, [], []), (1, .iload_n 1, 1, [], []), (2, .invokevirtual 23, 3, [1, 24, 2, 3, 102, 103, 104, 67, 105], []), (5, .ifCond .eq 25, 3, [], []), (8, .aload_n 0, 1, [], []), (9, .iload_n 2, 1, [], []), (10, .invokevirtual 23, 3, [1, 24, 2, 3, 102, 103, 104, 67, 105], []), (13, .ifCond .eq 17, 3, [], [])],
  [(16, .aload_n 0, 1, [], []), (17, .getfield 9, 3, [3, 1, 1, 111], []), (20, .iload_n 1, 1, [], []), (21, .bipush 12, 2, [], []), (23, .imul, 1, [], []), (24, .iload_n 2, 1, [], []), (25, .iadd, 1, [], []), (26, .iaload, 1, [], []), (27, .goto 5, 3, [], []), (30, .bipush 12, 2, [], [])],
  [(32, .ireturn, 1, [0], [])]]
def co26 : List (List (Nat × MC)) := [[(0, .aload_n 0, 1, [], []), (1, .iload_n 1, 1, [], []), (2, .iload_n 2, 1, [], []), (3, .invokevirtual 27, 3, [1, 25, 3, 3, 343, 344, 345, 67, 346], []), (6, .bipush 12, 2, [], []), (8, .if_icmp .eq 7, 3, [], []), (11, .iconst 1, 1, [], []), (12, .goto 4, 3, [], []), (15, .iconst 0, 1, [], [])],
  [(16, .ireturn, 1, [1], [])]]
def co27 : List (List (Nat × MC)) := [[(0, .aload_n 0, 1, [], []), (1, .iload_n 1, 1, [], []), (2, .invokevirtual 23, 3, [1, 24, 2, 3, 102, 103, 104, 67, 105], []), (5, .ifCond .eq 49, 3, [], []), (8, .aload_n 0, 1, [], []), (9, .iload_n 2, 1, [], []), (10, .invokevirtual 23, 3, [1, 24, 2, 3, 102, 103, 104, 67, 105], []), (13, .ifCond .eq 41, 3, [], [])],
  [(16, .aload_n 0, 1, [], []), (17, .iload_n 3, 1, [], []), (18, .invokevirtual 23, 3, [1, 24, 2, 3, 102, 103, 104, 67, 105], []), (21, .ifCond .ne 9, 3, [], []), (24, .iload_n 3, 1, [], []), (25, .bipush 12, 2, [], []), (27, .if_icmp .ne 27, 3, [], []), (30, .aload_n 0, 1, [], []), (31, .getfield 9, 3, [3, 1, 1, 111], [])],
  [(34, .iload_n 1, 1, [], []), (35, .bipush 12, 2, [], []), (37, .imul, 1, [], []), (38, .iload_n 2, 1, [], []), (39, .iadd, 1, [], []), (40, .iload_n 3, 1, [], []), (41, .iastore, 1, [], []), (42, .aload_n 0, 1, [], []), (43, .getfield 9, 3, [3, 1, 1, 111], []), (46, .iload_n 2, 1, [], []), (47, .bipush 12, 2, [], [])],
  [(49, .imul, 1, [], []), (50, .iload_n 1, 1, [], []), (51, .iadd, 1, [], []), (52, .iload_n 3, 1, [], []), (53, .iastore, 1, [], []), (54, .return_, 1, [], [])]]
def co28 : List (List (Nat × MC)) := [[(0, .iconst 0, 1, [], []), (1, .istore_n 2, 1, [], []), (2, .iload_n 2, 1, [], []), (3, .aload_n 0, 1, [], []), (4, .getfield 9, 3, [3, 1, 1, 111], []), (7, .arraylength, 1, [], []), (8, .if_icmp .ge 17, 3, [], []), (11, .aload_n 0, 1, [], []), (12, .getfield 9, 3, [3, 1, 1, 111], []), (15, .iload_n 2, 1, [], [])],
  [(16, .bipush 12, 2, [], []), (18, .iastore, 1, [], []), (19, .iinc 2 1, 3, [], []), (22, .goto (-20), 3, [], []), (25, .aload_n 0, 1, [], []), (26, .iconst 0, 1, [], []), (27, .putfield 19, 3, [3, 0, 0, 108], []), (30, .aload_n 0, 1, [], []), (31, .iload_n 1, 1, [], [])],
  [(32, .invokevirtual 31, 3, [0, 29, 2, 3, 94, 95, 96, 67, 97], []), (35, .return_, 1, [], [])]]
def co29 : List (List (Nat × MC)) := [[(0, .iconst 0, 1, [], []), (1, .istore_n 2, 1, [], []), (2, .iload_n 2, 1, [], []), (3, .iload_n 1, 1, [], []), (4, .if_icmp .ge 45, 3, [], []), (7, .aload_n 0, 1, [], []), (8, .getfield 19, 3, [3, 0, 0, 108], []), (11, .bipush 12, 2, [], []), (13, .if_icmp .ge 36, 3, [], [])],
  [(16, .aload_n 0, 1, [], []), (17, .dup, 1, [], []), (18, .getfield 19, 3, [3, 0, 0, 108], []), (21, .iconst 1, 1, [], []), (22, .iadd, 1, [], []), (23, .putfield 19, 3, [3, 0, 0, 108], []), (26, .aload_n 0, 1, [], []), (27, .iconst 0, 1, [], []), (28, .aload_n 0, 1, [], []), (29, .getfield 19, 3, [3, 0, 0, 108], [])],
  [(32, .iconst 1, 1, [], []), (33, .isub, 1, [], []), (34, .aload_n 0, 1, [], []), (35, .getfield 19, 3, [3, 0, 0, 108], []), (38, .iconst 1, 1, [], []), (39, .isub, 1, [], []), (40, .invokevirtual 34, 3, [0, 27, 4, 3, 98, 99, 100, 67, 101], []), (43, .iinc 2 1, 3, [], []), (46, .goto (-44), 3, [], [])],
  [(49, .return_, 1, [], [])]]
def co30 : List (List (Nat × MC)) := [[(0, .aload_n 0, 1, [], []), (1, .aload_n 1, 1, [], []), (2, .getfield 19, 3, [3, 0, 0, 108], []), (5, .putfield 19, 3, [3, 0, 0, 108], []), (8, .aload_n 1, 1, [], []), (9, .getfield 9, 3, [3, 1, 1, 111], []), (12, .iconst 0, 1, [], []), (13, .aload_n 0, 1, [], []), (14, .getfield 9, 3, [3, 1, 1, 111], [])],
  [(17, .iconst 0, 1, [], []), (18, .aload_n 0, 1, [], []), (19, .getfield 9, 3, [3, 1, 1, 111], []), (22, .arraylength, 1, [], []), (23, .invokestatic 38, 3, [3, 311, 313, 312, 74], []), (26, .return_, 1, [], [])]]
def co31 : List (List (Nat × MC)) := [[(0, .iconst 1, 1, [], []), (1, .istore_n 3, 1, [], []), (2, .iload_n 3, 1, [], [4, 5]), (3, .aload_n 1, 1, [], []), (4, .getfield 19, 3, [3, 0, 0, 108], []), (7, .if_icmp .ge 66, 3, [], []), (10, .iload_n 3, 1, [], []), (11, .istore 4, 2, [], []), (13, .iload 4, 2, [], [5]), (15, .aload_n 1, 1, [], [])],
  [(16, .getfield 19, 3, [3, 0, 0, 108], []), (19, .if_icmp .ge 48, 3, [], []), (22, .aload_n 1, 1, [], []), (23, .iload_n 3, 1, [], []), (24, .iload 4, 2, [], []), (26, .invokevirtual 27, 3, [1, 25, 3, 3, 343, 344, 345, 67, 346], []), (29, .istore 5, 2, [], []), (31, .iload 5, 2, [], [])],
  [(33, .bipush 12, 2, [], []), (35, .if_icmp .eq 26, 3, [], []), (38, .aload_n 2, 1, [], []), (39, .iload 5, 2, [], []), (41, .iaload, 1, [], []), (42, .iconst (-1), 1, [], []), (43, .if_icmp .eq 18, 3, [], []), (46, .aload_n 0, 1, [], []), (47, .aload_n 2, 1, [], [])],
  [(48, .iload_n 3, 1, [], []), (49, .iaload, 1, [], []), (50, .aload_n 2, 1, [], []), (51, .iload 4, 2, [], []), (53, .iaload, 1, [], []), (54, .aload_n 2, 1, [], []), (55, .iload 5, 2, [], []), (57, .iaload, 1, [], []), (58, .invokevirtual 34, 3, [0, 27, 4, 3, 98, 99, 100, 67, 101], []), (61, .iinc 4 1, 3, [], [])],
  [(64, .goto (-51), 3, [], []), (67, .iinc 3 1, 3, [], []), (70, .goto (-68), 3, [], []), (73, .return_, 1, [], [])]]
def co32 : List (List (Nat × MC)) := [[(0, .aload_n 0, 1, [], []), (1, .getfield 19, 3, [3, 0, 0, 108], []), (4, .iconst 1, 1, [], []), (5, .isub, 1, [], []), (6, .istore_n 2, 1, [], []), (7, .aload_n 0, 1, [], []), (8, .iload_n 1, 1, [], []), (9, .iconst 1, 1, [], []), (10, .isub, 1, [], []), (11, .invokevirtual 31, 3, [0, 29, 2, 3, 94, 95, 96, 67, 97], []), (14, .iconst 1, 1, [], []), (15, .istore_n 3, 1, [], [])],
  [(16, .iload_n 3, 1, [], [4, 5]), (17, .iload_n 1, 1, [], []), (18, .if_icmp .ge 59, 3, [], []), (21, .iload_n 3, 1, [], []), (22, .istore 4, 2, [], []), (24, .iload_n 3, 1, [], [5]), (25, .iload 4, 2, [], []), (27, .iadd, 1, [], []), (28, .iload_n 1, 1, [], []), (29, .if_icmp .gt 42, 3, [], [])],
  [(32, .iload_n 3, 1, [], []), (33, .iload 4, 2, [], []), (35, .iadd, 1, [], []), (36, .iload_n 1, 1, [], []), (37, .if_icmp .ne 7, 3, [], []), (40, .iconst 1, 1, [], []), (41, .goto 9, 3, [], []), (44, .iload_n 2, 1, [], []), (45, .iload_n 3, 1, [], []), (46, .iadd, 1, [], []), (47, .iload 4, 2, [], [])],
  [(49, .iadd, 1, [], []), (50, .istore 5, 2, [], [5]), (52, .aload_n 0, 1, [], []), (53, .iload_n 2, 1, [], []), (54, .iload_n 3, 1, [], []), (55, .iadd, 1, [], []), (56, .iload_n 2, 1, [], []), (57, .iload 4, 2, [], []), (59, .iadd, 1, [], []), (60, .iload 5, 2, [], []), (62, .invokevirtual 34, 3, [0, 27, 4, 3, 98, 99, 100, 67, 101], [])],
  [(65, .iinc 4 1, 3, [], []), (68, .goto (-44), 3, [], []), (71, .iinc 3 1, 3, [], []), (74, .goto (-58), 3, [], []), (77, .return_, 1, [], [])]]
def co33 : List (List (Nat × MC)) := [[(0, .iconst 1, 1, [], []), (1, .iload_n 1, 1, [], []), (2, .ishl, 1, [], []), (3, .iconst 1, 1, [], []), (4, .isub, 1, [], []), (5, .istore_n 2, 1, [], []), (6, .aload_n 0, 1, [], []), (7, .iload_n 2, 1, [], []), (8, .iconst 1, 1, [], []), (9, .iadd, 1, [], []), (10, .invokevirtual 15, 3, [0, 28, 2, 3, 90, 91, 92, 67, 93], []), (13, .iconst 1, 1, [], []), (14, .istore_n 3, 1, [], []), (15, .iload_n 3, 1, [], [1, 4])],
  [(16, .iload_n 2, 1, [], []), (17, .if_icmp .gt 54, 3, [], []), (20, .iload_n 3, 1, [], []), (21, .istore 4, 2, [], []), (23, .iload 4, 2, [], [1]), (25, .iload_n 2, 1, [], []), (26, .if_icmp .gt 39, 3, [], []), (29, .iload_n 3, 1, [], []), (30, .iload 4, 2, [], [])],
  [(32, .iand, 1, [], []), (33, .ifCond .ne 26, 3, [], []), (36, .aload_n 0, 1, [], []), (37, .iload_n 3, 1, [], []), (38, .iload_n 2, 1, [], []), (39, .invokestatic 44, 3, [0, 1, 34, 2, 323, 324, 67, 325], []), (42, .iload 4, 2, [], []), (44, .iload_n 2, 1, [], []), (45, .invokestatic 44, 3, [0, 1, 34, 2, 323, 324, 67, 325], [])],
  [(48, .iload_n 3, 1, [], []), (49, .iload 4, 2, [], []), (51, .ior, 1, [], []), (52, .iload_n 2, 1, [], []), (53, .invokestatic 44, 3, [0, 1, 34, 2, 323, 324, 67, 325], []), (56, .invokevirtual 34, 3, [0, 27, 4, 3, 98, 99, 100, 67, 101], []), (59, .iinc 4 1, 3, [], []), (62, .goto (-39), 3, [], [])],
  [(65, .iinc 3 1, 3, [], []), (68, .goto (-53), 3, [], []), (71, .return_, 1, [], [])]]
def co34 : List (List (Nat × MC)) := [[(0, .iload_n 0, 1, [], []), (1, .ifCond .ne 5, 3, [], []), (4, .iconst 0, 1, [], []), (5, .ireturn, 1, [0], []), (6, .iload_n 0, 1, [], []), (7, .iload_n 1, 1, [], []), (8, .if_icmp .ne 7, 3, [], []), (11, .iconst 1, 1, [], []), (12, .goto 6, 3, [], []), (15, .iload_n 0, 1, [], [])],
  [(16, .iconst 1, 1, [], []), (17, .iadd, 1, [], []), (18, .ireturn, 1, [0], [])]]
def co35 : List (List (Nat × MC)) := [[(0, .aload_n 1, 1, [], []), (1, .getfield 19, 3, [3, 0, 0, 108], []), (4, .istore_n 2, 1, [], []), (5, .aload_n 0, 1, [], []), (6, .iconst 2, 1, [], []), (7, .iload_n 2, 1, [], []), (8, .imul, 1, [], []), (9, .invokevirtual 15, 3, [0, 28, 2, 3, 90, 91, 92, 67, 93], []), (12, .iconst 0, 1, [], []), (13, .istore_n 3, 1, [], []), (14, .iload_n 3, 1, [], [4, 5]), (15, .iload_n 2, 1, [], [])],
  [(16, .if_icmp .ge 78, 3, [], []), (19, .iconst 0, 1, [], []), (20, .istore 4, 2, [], []), (22, .iload 4, 2, [], [5]), (24, .iload_n 2, 1, [], []), (25, .if_icmp .ge 63, 3, [], []), (28, .aload_n 1, 1, [], []), (29, .iload_n 3, 1, [], []), (30, .iload 4, 2, [], [])],
  [(32, .invokevirtual 27, 3, [1, 25, 3, 3, 343, 344, 345, 67, 346], []), (35, .istore 5, 2, [], []), (37, .iload 5, 2, [], []), (39, .bipush 12, 2, [], []), (41, .if_icmp .eq 41, 3, [], []), (44, .aload_n 0, 1, [], []), (45, .iload_n 3, 1, [], []), (46, .invokestatic 47, 3, [0, 1, 36, 1, 417, 418, 67, 419], [])],
  [(49, .iload 4, 2, [], []), (51, .invokestatic 47, 3, [0, 1, 36, 1, 417, 418, 67, 419], []), (54, .iload 5, 2, [], []), (56, .invokestatic 47, 3, [0, 1, 36, 1, 417, 418, 67, 419], []), (59, .invokevirtual 34, 3, [0, 27, 4, 3, 98, 99, 100, 67, 101], []), (62, .aload_n 0, 1, [], []), (63, .iload_n 3, 1, [], [])],
  [(64, .invokestatic 47, 3, [0, 1, 36, 1, 417, 418, 67, 419], []), (67, .iload 4, 2, [], []), (69, .iload_n 2, 1, [], []), (70, .invokestatic 51, 3, [0, 1, 37, 2, 420, 421, 67, 422], []), (73, .iload 5, 2, [], []), (75, .iload_n 2, 1, [], []), (76, .invokestatic 51, 3, [0, 1, 37, 2, 420, 421, 67, 422], []), (79, .invokevirtual 34, 3, [0, 27, 4, 3, 98, 99, 100, 67, 101], [])],
  [(82, .iinc 4 1, 3, [], []), (85, .goto (-63), 3, [], []), (88, .iinc 3 1, 3, [], []), (91, .goto (-77), 3, [], []), (94, .return_, 1, [], [])]]
def co36 : List (List (Nat × MC)) := [[(0, .iload_n 0, 1, [], []), (1, .ifCond .ne 7, 3, [], []), (4, .iconst 0, 1, [], []), (5, .goto 6, 3, [], []), (8, .iload_n 0, 1, [], []), (9, .iconst 1, 1, [], []), (10, .iadd, 1, [], []), (11, .ireturn, 1, [0], [])]]
def co37 : List (List (Nat × MC)) := [[(0, .iload_n 0, 1, [], []), (1, .iconst 1, 1, [], []), (2, .if_icmp .ne 5, 3, [], []), (5, .iconst 1, 1, [], []), (6, .ireturn, 1, [0], []), (7, .iload_n 0, 1, [], []), (8, .ifCond .ne 9, 3, [], []), (11, .iload_n 1, 1, [], []), (12, .iconst 1, 1, [], []), (13, .iadd, 1, [], []), (14, .goto 6, 3, [], [])],
  [(17, .iload_n 1, 1, [], []), (18, .iload_n 0, 1, [], []), (19, .iadd, 1, [], []), (20, .ireturn, 1, [0], [])]]
def co38 : List (List (Nat × MC)) := [[(0, .iconst 0, 1, [], []), (1, .istore_n 3, 1, [], []), (2, .iload_n 3, 1, [], []), (3, .aload_n 0, 1, [], []), (4, .getfield 19, 3, [3, 0, 0, 108], []), (7, .if_icmp .ge 21, 3, [], []), (10, .aload_n 0, 1, [], []), (11, .iload_n 1, 1, [], []), (12, .iload_n 3, 1, [], []), (13, .invokevirtual 27, 3, [1, 25, 3, 3, 343, 344, 345, 67, 346], [])],
  [(16, .iload_n 2, 1, [], []), (17, .if_icmp .ne 5, 3, [], []), (20, .iload_n 3, 1, [], []), (21, .ireturn, 1, [0], []), (22, .iinc 3 1, 3, [], []), (25, .goto (-23), 3, [], []), (28, .bipush 12, 2, [], []), (30, .ireturn, 1, [0], [])]]
def co39 : List (List (Nat × MC)) := [[(0, .aload_n 0, 1, [], []), (1, .iload_n 1, 1, [], []), (2, .iconst 1, 1, [], []), (3, .invokevirtual 54, 3, [1, 38, 3, 3, 511, 475, 476, 67, 477], []), (6, .ireturn, 1, [0], [])]]
def co40 : List (List (Nat × MC)) := [[(0, .iconst 0, 1, [], []), (1, .istore_n 2, 1, [], []), (2, .iconst 0, 1, [], []), (3, .istore_n 3, 1, [], []), (4, .iload_n 3, 1, [], []), (5, .aload_n 0, 1, [], []), (6, .getfield 19, 3, [3, 0, 0, 108], []), (9, .if_icmp .ge 25, 3, [], []), (12, .aload_n 0, 1, [], []), (13, .iload_n 1, 1, [], []), (14, .iload_n 3, 1, [], []), (15, .invokevirtual 57, 3, [1, 26, 3, 3, 401, 402, 403, 67, 404], [])],
  [(18, .ifCond .eq 10, 3, [], []), (21, .iload_n 2, 1, [], []), (22, .iload_n 3, 1, [], []), (23, .invokestatic 61, 3, [4, 1, 95, 1, 1, 432, 66, 433], []), (26, .ior, 1, [], []), (27, .istore_n 2, 1, [], []), (28, .iinc 3 1, 3, [], []), (31, .goto (-27), 3, [], [])],
  [(34, .iload_n 2, 1, [], []), (35, .ireturn, 1, [0], [])]]
def co41 : List (List (Nat × MC)) := [[(0, .iconst 0, 1, [], []), (1, .istore_n 1, 1, [], []), (2, .iconst 1, 1, [], []), (3, .istore_n 2, 1, [], []), (4, .iload_n 2, 1, [], [3]), (5, .aload_n 0, 1, [], []), (6, .getfield 19, 3, [3, 0, 0, 108], []), (9, .if_icmp .ge 37, 3, [], []), (12, .iload_n 2, 1, [], []), (13, .istore_n 3, 1, [], []), (14, .iload_n 3, 1, [], []), (15, .aload_n 0, 1, [], [])],
  [(16, .getfield 19, 3, [3, 0, 0, 108], []), (19, .if_icmp .ge 21, 3, [], []), (22, .aload_n 0, 1, [], []), (23, .iload_n 2, 1, [], []), (24, .iload_n 3, 1, [], []), (25, .invokevirtual 57, 3, [1, 26, 3, 3, 401, 402, 403, 67, 404], []), (28, .ifCond .eq 6, 3, [], []), (31, .iinc 1 1, 3, [], [])],
  [(34, .iinc 3 1, 3, [], []), (37, .goto (-23), 3, [], []), (40, .iinc 2 1, 3, [], []), (43, .goto (-39), 3, [], []), (46, .iload_n 1, 1, [], []), (47, .ireturn, 1, [0], [])]]
def co42 : List (List (Nat × MC)) := [[(0, .iload_n 1, 1, [], []), (1, .invokestatic 61, 3, [4, 1, 95, 1, 1, 432, 66, 433], []), (4, .iload_n 2, 1, [], []), (5, .invokestatic 61, 3, [4, 1, 95, 1, 1, 432, 66, 433], []), (8, .ior, 1, [], []), (9, .istore_n 3, 1, [], []), (10, .iconst 0, 1, [], []), (11, .istore 4, 2, [], []), (13, .iconst 1, 1, [], []), (14, .istore 5, 2, [], [])],
  [(16, .iload 5, 2, [], [1, 2, 6, 7]), (18, .aload_n 0, 1, [], []), (19, .getfield 19, 3, [3, 0, 0, 108], []), (22, .if_icmp .ge 70, 3, [], []), (25, .iload 5, 2, [], []), (27, .istore 6, 2, [], []), (29, .iload 6, 2, [], [1, 2, 7]), (31, .aload_n 0, 1, [], [])],
  [(32, .getfield 19, 3, [3, 0, 0, 108], []), (35, .if_icmp .ge 51, 3, [], []), (38, .aload_n 0, 1, [], []), (39, .iload 5, 2, [], []), (41, .iload 6, 2, [], []), (43, .invokevirtual 27, 3, [1, 25, 3, 3, 343, 344, 345, 67, 346], []), (46, .istore 7, 2, [], [])],
  [(48, .iload 7, 2, [], []), (50, .bipush 12, 2, [], []), (52, .if_icmp .eq 28, 3, [], []), (55, .iload 5, 2, [], []), (57, .invokestatic 61, 3, [4, 1, 95, 1, 1, 432, 66, 433], []), (60, .iload 6, 2, [], []), (62, .invokestatic 61, 3, [4, 1, 95, 1, 1, 432, 66, 433], [])],
  [(65, .ior, 1, [], []), (66, .iload 7, 2, [], []), (68, .invokestatic 61, 3, [4, 1, 95, 1, 1, 432, 66, 433], []), (71, .ior, 1, [], []), (72, .iload_n 3, 1, [], []), (73, .iand, 1, [], []), (74, .ifCond .eq 6, 3, [], []), (77, .iinc 4 1, 3, [], [])],
  [(80, .iinc 6 1, 3, [], []), (83, .goto (-54), 3, [], []), (86, .iinc 5 1, 3, [], []), (89, .goto (-73), 3, [], []), (92, .iload 4, 2, [], []), (94, .ireturn, 1, [0], [])]]
def co43 : List (List (Nat × MC)) := [[(0, .aload_n 0, 1, [], []), (1, .invokespecial 5, 3, [0, 140, 82, 83], []), (4, .aload_n 0, 1, [], []), (5, .bipush 60, 2, [], []), (7, .newarray .char, 2, [164], []), (9, .putfield 11, 3, [4, 1, 1, 143], []), (12, .aload_n 0, 1, [], []), (13, .bipush 15, 2, [], []), (15, .newarray .int, 2, [117], [])],
  [(17, .putfield 15, 3, [4, 4, 1, 146], []), (20, .aload_n 0, 1, [], []), (21, .bipush 15, 2, [], []), (23, .newarray .int, 2, [117], []), (25, .putfield 19, 3, [4, 5, 1, 147], []), (28, .aload_n 0, 1, [], []), (29, .bipush 15, 2, [], []), (31, .newarray .int, 2, [117], [])],
  [(33, .putfield 22, 3, [4, 6, 1, 148], []), (36, .return_, 1, [], [])]]
def co44 : List (List (Nat × MC)) := [[(0, .aload_n 0, 1, [], []), (1, .getfield 25, 3, [4, 0, 0, 141], []), (4, .bipush 60, 2, [], []), (6, .if_icmp .lt 5, 3, [], []), (9, .iconst 0, 1, [], []), (10, .ireturn, 1, [1], []), (11, .aload_n 0, 1, [], []), (12, .getfield 11, 3, [4, 1, 1, 143], []), (15, .aload_n 0, 1, [], [])],
  [(16, .getfield 25, 3, [4, 0, 0, 141], []), (19, .iload_n 1, 1, [], []), (20, .castore, 1, [], []), (21, .aload_n 0, 1, [], []), (22, .dup, 1, [], []), (23, .getfield 25, 3, [4, 0, 0, 141], []), (26, .iconst 1, 1, [], []), (27, .iadd, 1, [], []), (28, .putfield 25, 3, [4, 0, 0, 141], []), (31, .iconst 1, 1, [], [])],
  [(32, .ireturn, 1, [1], [])]]
def co45 : List (List (Nat × MC)) := [[(0, .aload_n 0, 1, [], []), (1, .iconst 0, 1, [], []), (2, .putfield 29, 3, [4, 2, 0, 144], []), (5, .aload_n 0, 1, [], []), (6, .iconst 0, 1, [], []), (7, .putfield 32, 3, [4, 3, 0, 145], []), (10, .iconst 0, 1, [], []), (11, .istore_n 1, 1, [], []), (12, .iload_n 1, 1, [], []), (13, .bipush 15, 2, [], []), (15, .if_icmp .ge 48, 3, [], [])],
  [(18, .aload_n 0, 1, [], []), (19, .invokevirtual 35, 3, [1, 46, 1, 4, 365, 367, 1, 69, 368], []), (22, .ifCond .ne 8, 3, [], []), (25, .aload_n 0, 1, [], []), (26, .getfield 29, 3, [4, 2, 0, 144], []), (29, .ireturn, 1, [0], []), (30, .aload_n 0, 1, [], []), (31, .getfield 29, 3, [4, 2, 0, 144], [])],
  [(34, .aload_n 0, 1, [], []), (35, .getfield 25, 3, [4, 0, 0, 141], []), (38, .if_icmp .ne 5, 3, [], []), (41, .iconst (-1), 1, [], []), (42, .ireturn, 1, [0], []), (43, .aload_n 0, 1, [], []), (44, .bipush 44, 2, [], []), (46, .invokevirtual 39, 3, [1, 49, 2, 4, 377, 379, 4, 69, 380], [])],
  [(49, .ifCond .ne 8, 3, [], []), (52, .aload_n 0, 1, [], []), (53, .getfield 29, 3, [4, 2, 0, 144], []), (56, .ireturn, 1, [0], []), (57, .iinc 1 1, 3, [], []), (60, .goto (-48), 3, [], []), (63, .aload_n 0, 1, [], [])],
  [(64, .getfield 29, 3, [4, 2, 0, 144], []), (67, .ireturn, 1, [0], [])]]
def co46 : List (List (Nat × MC)) := [[(0, .aload_n 0, 1, [], []), (1, .invokevirtual 43, 3, [1, 47, 1, 4, 369, 371, 2, 69, 372], []), (4, .istore_n 1, 1, [], []), (5, .iload_n 1, 1, [], []), (6, .iconst (-1), 1, [], []), (7, .if_icmp .eq 12, 3, [], []), (10, .aload_n 0, 1, [], []), (11, .bipush 43, 2, [], []), (13, .invokevirtual 39, 3, [1, 49, 2, 4, 377, 379, 4, 69, 380], [])],
  [(16, .ifCond .ne 5, 3, [], []), (19, .iconst 0, 1, [], []), (20, .ireturn, 1, [1], []), (21, .aload_n 0, 1, [], []), (22, .invokevirtual 43, 3, [1, 47, 1, 4, 369, 371, 2, 69, 372], []), (25, .istore_n 2, 1, [], []), (26, .iload_n 2, 1, [], []), (27, .iconst (-1), 1, [], []), (28, .if_icmp .ne 5, 3, [], []), (31, .iconst 0, 1, [], [])],
  [(32, .ireturn, 1, [1], []), (33, .bipush 12, 2, [], []), (35, .istore_n 3, 1, [], []), (36, .aload_n 0, 1, [], []), (37, .bipush 61, 2, [], []), (39, .invokevirtual 39, 3, [1, 49, 2, 4, 377, 379, 4, 69, 380], []), (42, .ifCond .eq 8, 3, [], []), (45, .aload_n 0, 1, [], []), (46, .invokevirtual 43, 3, [1, 47, 1, 4, 369, 371, 2, 69, 372], [])],
  [(49, .istore_n 3, 1, [], []), (50, .iload_n 3, 1, [], []), (51, .iconst (-1), 1, [], []), (52, .if_icmp .eq 12, 3, [], []), (55, .aload_n 0, 1, [], []), (56, .getfield 32, 3, [4, 3, 0, 145], []), (59, .bipush 15, 2, [], []), (61, .if_icmp .lt 5, 3, [], [])],
  [(64, .iconst 0, 1, [], []), (65, .ireturn, 1, [1], []), (66, .aload_n 0, 1, [], []), (67, .getfield 15, 3, [4, 4, 1, 146], []), (70, .aload_n 0, 1, [], []), (71, .getfield 32, 3, [4, 3, 0, 145], []), (74, .iload_n 1, 1, [], []), (75, .iastore, 1, [], []), (76, .aload_n 0, 1, [], []), (77, .getfield 19, 3, [4, 5, 1, 147], [])],
  [(80, .aload_n 0, 1, [], []), (81, .getfield 32, 3, [4, 3, 0, 145], []), (84, .iload_n 2, 1, [], []), (85, .iastore, 1, [], []), (86, .aload_n 0, 1, [], []), (87, .getfield 22, 3, [4, 6, 1, 148], []), (90, .aload_n 0, 1, [], []), (91, .getfield 32, 3, [4, 3, 0, 145], []), (94, .iload_n 3, 1, [], []), (95, .iastore, 1, [], [])],
  [(96, .aload_n 0, 1, [], []), (97, .dup, 1, [], []), (98, .getfield 32, 3, [4, 3, 0, 145], []), (101, .iconst 1, 1, [], []), (102, .iadd, 1, [], []), (103, .putfield 32, 3, [4, 3, 0, 145], []), (106, .iconst 1, 1, [], []), (107, .ireturn, 1, [1], [])]]
def co47 : List (List (Nat × MC)) := [[(0, .aload_n 0, 1, [], []), (1, .invokevirtual 47, 3, [1, 48, 1, 4, 373, 375, 3, 69, 376], []), (4, .istore_n 1, 1, [], []), (5, .iload_n 1, 1, [], []), (6, .iconst (-1), 1, [], []), (7, .if_icmp .ne 5, 3, [], []), (10, .iconst (-1), 1, [], []), (11, .ireturn, 1, [0], []), (12, .aload_n 0, 1, [], []), (13, .dup, 1, [], []), (14, .getfield 29, 3, [4, 2, 0, 144], [])],
  [(17, .iconst 1, 1, [], []), (18, .iadd, 1, [], []), (19, .putfield 29, 3, [4, 2, 0, 144], []), (22, .aload_n 0, 1, [], []), (23, .invokevirtual 47, 3, [1, 48, 1, 4, 373, 375, 3, 69, 376], []), (26, .istore_n 2, 1, [], []), (27, .iload_n 1, 1, [], []), (28, .iconst 1, 1, [], []), (29, .if_icmp .ne 12, 3, [], [])],
  [(32, .iload_n 2, 1, [], []), (33, .ifCond .eq 10, 3, [], []), (36, .iload_n 2, 1, [], []), (37, .iconst 1, 1, [], []), (38, .if_icmp .eq 5, 3, [], []), (41, .iload_n 1, 1, [], []), (42, .ireturn, 1, [0], []), (43, .aload_n 0, 1, [], [1]), (44, .dup, 1, [], []), (45, .getfield 29, 3, [4, 2, 0, 144], [])],
  [(48, .iconst 1, 1, [], []), (49, .iadd, 1, [], []), (50, .putfield 29, 3, [4, 2, 0, 144], []), (53, .bipush 10, 2, [], []), (55, .iload_n 2, 1, [], []), (56, .iadd, 1, [], []), (57, .ireturn, 1, [0], [])]]
def co48 : List (List (Nat × MC)) := [[(0, .aload_n 0, 1, [], []), (1, .getfield 29, 3, [4, 2, 0, 144], []), (4, .aload_n 0, 1, [], []), (5, .getfield 25, 3, [4, 0, 0, 141], []), (8, .if_icmp .lt 5, 3, [], []), (11, .iconst (-1), 1, [], []), (12, .ireturn, 1, [0], []), (13, .aload_n 0, 1, [], []), (14, .getfield 11, 3, [4, 1, 1, 143], [])],
  [(17, .aload_n 0, 1, [], []), (18, .getfield 29, 3, [4, 2, 0, 144], []), (21, .caload, 1, [], []), (22, .istore_n 1, 1, [], []), (23, .iload_n 1, 1, [], []), (24, .bipush 48, 2, [], []), (26, .if_icmp .lt 16, 3, [], []), (29, .iload_n 1, 1, [], []), (30, .bipush 57, 2, [], [])],
  [(32, .if_icmp .gt 10, 3, [], []), (35, .iload_n 1, 1, [], []), (36, .bipush 48, 2, [], []), (38, .isub, 1, [], []), (39, .goto 4, 3, [], []), (42, .iconst (-1), 1, [], []), (43, .ireturn, 1, [0], [])]]
def co49 : List (List (Nat × MC)) := [[(0, .aload_n 0, 1, [], []), (1, .getfield 29, 3, [4, 2, 0, 144], []), (4, .aload_n 0, 1, [], []), (5, .getfield 25, 3, [4, 0, 0, 141], []), (8, .if_icmp .ge 16, 3, [], []), (11, .aload_n 0, 1, [], []), (12, .getfield 11, 3, [4, 1, 1, 143], []), (15, .aload_n 0, 1, [], [])],
  [(16, .getfield 29, 3, [4, 2, 0, 144], []), (19, .caload, 1, [], []), (20, .iload_n 1, 1, [], []), (21, .if_icmp .eq 5, 3, [], []), (24, .iconst 0, 1, [], []), (25, .ireturn, 1, [1], []), (26, .aload_n 0, 1, [], []), (27, .dup, 1, [], []), (28, .getfield 29, 3, [4, 2, 0, 144], []), (31, .iconst 1, 1, [], [])],
  [(32, .iadd, 1, [], []), (33, .putfield 29, 3, [4, 2, 0, 144], []), (36, .iconst 1, 1, [], []), (37, .ireturn, 1, [1], [])]]
def co50 : List (List (Nat × MC)) := [[(0, .iconst 0, 1, [], []), (1, .istore_n 1, 1, [], []), (2, .iconst 0, 1, [], []), (3, .istore_n 2, 1, [], []), (4, .iload_n 2, 1, [], []), (5, .aload_n 0, 1, [], []), (6, .getfield 32, 3, [4, 3, 0, 145], []), (9, .if_icmp .ge 51, 3, [], []), (12, .iload_n 1, 1, [], []), (13, .aload_n 0, 1, [], []), (14, .getfield 15, 3, [4, 4, 1, 146], [])],
  [(17, .iload_n 2, 1, [], []), (18, .iaload, 1, [], []), (19, .aload_n 0, 1, [], []), (20, .getfield 19, 3, [4, 5, 1, 147], []), (23, .iload_n 2, 1, [], []), (24, .iaload, 1, [], []), (25, .invokestatic 50, 3, [1, 385, 386, 75, 387], []), (28, .invokestatic 50, 3, [1, 385, 386, 75, 387], []), (31, .istore_n 1, 1, [], [])],
  [(32, .aload_n 0, 1, [], []), (33, .getfield 22, 3, [4, 6, 1, 148], []), (36, .iload_n 2, 1, [], []), (37, .iaload, 1, [], []), (38, .bipush 12, 2, [], []), (40, .if_icmp .eq 14, 3, [], []), (43, .iload_n 1, 1, [], []), (44, .aload_n 0, 1, [], []), (45, .getfield 22, 3, [4, 6, 1, 148], [])],
  [(48, .iload_n 2, 1, [], []), (49, .iaload, 1, [], []), (50, .invokestatic 50, 3, [1, 385, 386, 75, 387], []), (53, .istore_n 1, 1, [], []), (54, .iinc 2 1, 3, [], []), (57, .goto (-53), 3, [], []), (60, .iload_n 1, 1, [], []), (61, .ireturn, 1, [0], [])]]
def co51 : List (List (Nat × MC)) := [[(0, .iconst 0, 1, [], []), (1, .istore_n 1, 1, [], []), (2, .iload_n 1, 1, [], []), (3, .aload_n 0, 1, [], []), (4, .getfield 32, 3, [4, 3, 0, 145], []), (7, .if_icmp .ge 29, 3, [], []), (10, .aload_n 0, 1, [], []), (11, .getfield 15, 3, [4, 4, 1, 146], []), (14, .iload_n 1, 1, [], []), (15, .iaload, 1, [], [])],
  [(16, .ifCond .eq 12, 3, [], []), (19, .aload_n 0, 1, [], []), (20, .getfield 19, 3, [4, 5, 1, 147], []), (23, .iload_n 1, 1, [], []), (24, .iaload, 1, [], []), (25, .ifCond .ne 5, 3, [], []), (28, .iconst 1, 1, [], []), (29, .ireturn, 1, [1], []), (30, .iinc 1 1, 3, [], [])],
  [(33, .goto (-31), 3, [], []), (36, .iconst 0, 1, [], []), (37, .ireturn, 1, [1], [])]]
def co52 : List (List (Nat × MC)) := [[(0, .iconst 0, 1, [], []), (1, .istore_n 2, 1, [], []), (2, .iload_n 2, 1, [], []), (3, .aload_n 0, 1, [], []), (4, .getfield 32, 3, [4, 3, 0, 145], []), (7, .if_icmp .ge 31, 3, [], []), (10, .aload_n 1, 1, [], []), (11, .aload_n 0, 1, [], []), (12, .getfield 15, 3, [4, 4, 1, 146], []), (15, .iload_n 2, 1, [], [])],
  [(16, .iaload, 1, [], []), (17, .aload_n 0, 1, [], []), (18, .getfield 19, 3, [4, 5, 1, 147], []), (21, .iload_n 2, 1, [], []), (22, .iaload, 1, [], []), (23, .aload_n 0, 1, [], []), (24, .getfield 22, 3, [4, 6, 1, 148], []), (27, .iload_n 2, 1, [], []), (28, .iaload, 1, [], []), (29, .invokevirtual 56, 3, [0, 27, 4, 3, 396, 99, 100, 67, 101], [])],
  [(32, .iinc 2 1, 3, [], []), (35, .goto (-33), 3, [], []), (38, .return_, 1, [], [])]]
def co53 : List (List (Nat × MC)) := [[(0, .aload_n 0, 1, [], []), (1, .invokespecial 3, 3, [0, 222, 82, 83], []), (4, .aload_n 0, 1, [], []), (5, .bipush 12, 2, [], []), (7, .newarray .int, 2, [117], []), (9, .putfield 9, 3, [5, 1, 1, 225], []), (12, .aload_n 0, 1, [], []), (13, .bipush 12, 2, [], []), (15, .newarray .int, 2, [117], [])],
  [(17, .putfield 15, 3, [5, 2, 1, 227], []), (20, .aload_n 0, 1, [], []), (21, .bipush 12, 2, [], []), (23, .newarray .int, 2, [117], []), (25, .putfield 18, 3, [5, 3, 1, 229], []), (28, .aload_n 0, 1, [], []), (29, .bipush 66, 2, [], []), (31, .newarray .int, 2, [117], [])],
  [(33, .putfield 21, 3, [5, 6, 1, 233], []), (36, .aload_n 0, 1, [], []), (37, .bipush 66, 2, [], []), (39, .newarray .int, 2, [117], []), (41, .putfield 24, 3, [5, 7, 1, 234], []), (44, .aload_n 0, 1, [], []), (45, .bipush 66, 2, [], []), (47, .newarray .int, 2, [117], [])],
  [(49, .putfield 27, 3, [5, 8, 1, 235], []), (52, .aload_n 0, 1, [], []), (53, .sipush 144, 3, [], []), (56, .newarray .int, 2, [117], []), (58, .putfield 30, 3, [5, 9, 1, 236], []), (61, .aload_n 0, 1, [], []), (62, .sipush 144, 3, [], [])],
  [(65, .newarray .int, 2, [117], []), (67, .putfield 33, 3, [5, 10, 1, 237], []), (70, .aload_n 0, 1, [], []), (71, .bipush 12, 2, [], []), (73, .newarray .int, 2, [117], []), (75, .putfield 36, 3, [5, 11, 1, 238], []), (78, .return_, 1, [], [])]]
def co54 : List (List (Nat × MC)) := [[(0, .aload_n 0, 1, [], []), (1, .aload_n 1, 1, [], []), (2, .getfield 39, 3, [3, 0, 0, 107], []), (5, .putfield 45, 3, [5, 4, 0, 231], []), (8, .aload_n 0, 1, [], []), (9, .aload_n 1, 1, [], []), (10, .invokevirtual 46, 3, [0, 55, 2, 5, 572, 574, 11, 72, 575], []), (13, .aload_n 0, 1, [], []), (14, .iload_n 2, 1, [], []), (15, .invokevirtual 50, 3, [0, 56, 2, 5, 577, 579, 12, 72, 580], [])],
  [(18, .aload_n 0, 1, [], []), (19, .aload_n 0, 1, [], []), (20, .iconst 0, 1, [], []), (21, .invokevirtual 54, 3, [1, 57, 2, 5, 581, 583, 13, 72, 584], []), (24, .ifCond .eq 7, 3, [], []), (27, .iconst 1, 1, [], []), (28, .goto 4, 3, [], []), (31, .iconst 0, 1, [], [])],
  [(32, .putfield 58, 3, [5, 0, 0, 223], [1, 3]), (35, .aload_n 0, 1, [], []), (36, .getfield 58, 3, [5, 0, 0, 223], []), (39, .ifCond .ne 4, 3, [], []), (42, .return_, 1, [], []), (43, .aload_n 0, 1, [], []), (44, .invokevirtual 61, 3, [0, 62, 1, 5, 597, 599, 17, 72, 600], []), (47, .iconst 0, 1, [], [])],
  [(48, .istore_n 3, 1, [], []), (49, .iload_n 3, 1, [], [1]), (50, .aload_n 0, 1, [], []), (51, .getfield 45, 3, [5, 4, 0, 231], []), (54, .if_icmp .ge 15, 3, [], []), (57, .aload_n 0, 1, [], []), (58, .iload_n 3, 1, [], []), (59, .iload_n 2, 1, [], []), (60, .invokevirtual 64, 3, [0, 64, 3, 5, 612, 614, 20, 72, 615], []), (63, .iinc 3 1, 3, [], [])],
  [(66, .goto (-17), 3, [], []), (69, .iconst 0, 1, [], []), (70, .istore_n 3, 1, [], []), (71, .iload_n 3, 1, [], [1, 2]), (72, .aload_n 0, 1, [], []), (73, .getfield 45, 3, [5, 4, 0, 231], []), (76, .if_icmp .ge 62, 3, [], []), (79, .aload_n 0, 1, [], [])],
  [(80, .getfield 58, 3, [5, 0, 0, 223], []), (83, .ifCond .le 55, 3, [], []), (86, .aload_n 0, 1, [], []), (87, .getfield 36, 3, [5, 11, 1, 238], []), (90, .iload_n 3, 1, [], []), (91, .iaload, 1, [], []), (92, .iload_n 3, 1, [], []), (93, .if_icmp .ne 39, 3, [], [])],
  [(96, .aload_n 0, 1, [], []), (97, .iconst 0, 1, [], []), (98, .putfield 68, 3, [5, 12, 0, 239], []), (101, .aload_n 0, 1, [], []), (102, .iload_n 3, 1, [], []), (103, .iconst 0, 1, [], []), (104, .invokevirtual 71, 3, [0, 65, 3, 5, 616, 618, 21, 72, 619], []), (107, .aload_n 0, 1, [], []), (108, .sipush 1000, 3, [], []), (111, .aload_n 0, 1, [], [])],
  [(112, .getfield 58, 3, [5, 0, 0, 223], []), (115, .sipush 1000, 3, [], []), (118, .aload_n 0, 1, [], []), (119, .getfield 68, 3, [5, 12, 0, 239], []), (122, .invokestatic 74, 3, [2, 609, 610, 75, 611], []), (125, .imul, 1, [], []), (126, .invokestatic 74, 3, [2, 609, 610, 75, 611], [])],
  [(129, .putfield 58, 3, [5, 0, 0, 223], []), (132, .iinc 3 1, 3, [], []), (135, .goto (-64), 3, [], []), (138, .return_, 1, [], [])]]
def co55 : List (List (Nat × MC)) := [[(0, .aload_n 0, 1, [], []), (1, .iconst 0, 1, [], []), (2, .putfield 80, 3, [5, 5, 0, 232], []), (5, .iconst 1, 1, [], []), (6, .istore_n 2, 1, [], []), (7, .iload_n 2, 1, [], [3, 4]), (8, .aload_n 0, 1, [], []), (9, .getfield 45, 3, [5, 4, 0, 231], []), (12, .if_icmp .ge 90, 3, [], []), (15, .iload_n 2, 1, [], [])],
  [(16, .istore_n 3, 1, [], []), (17, .iload_n 3, 1, [], [4]), (18, .aload_n 0, 1, [], []), (19, .getfield 45, 3, [5, 4, 0, 231], []), (22, .if_icmp .ge 74, 3, [], []), (25, .aload_n 1, 1, [], []), (26, .iload_n 2, 1, [], []), (27, .iload_n 3, 1, [], []), (28, .invokevirtual 83, 3, [1, 25, 3, 3, 576, 344, 345, 67, 346], []), (31, .istore 4, 2, [], [])],
  [(33, .iload 4, 2, [], []), (35, .bipush 12, 2, [], []), (37, .if_icmp .eq 53, 3, [], []), (40, .aload_n 0, 1, [], []), (41, .getfield 80, 3, [5, 5, 0, 232], []), (44, .bipush 66, 2, [], []), (46, .if_icmp .ge 44, 3, [], [])],
  [(49, .aload_n 0, 1, [], []), (50, .getfield 21, 3, [5, 6, 1, 233], []), (53, .aload_n 0, 1, [], []), (54, .getfield 80, 3, [5, 5, 0, 232], []), (57, .iload_n 2, 1, [], []), (58, .iastore, 1, [], []), (59, .aload_n 0, 1, [], []), (60, .getfield 24, 3, [5, 7, 1, 234], []), (63, .aload_n 0, 1, [], [])],
  [(64, .getfield 80, 3, [5, 5, 0, 232], []), (67, .iload_n 3, 1, [], []), (68, .iastore, 1, [], []), (69, .aload_n 0, 1, [], []), (70, .getfield 27, 3, [5, 8, 1, 235], []), (73, .aload_n 0, 1, [], []), (74, .getfield 80, 3, [5, 5, 0, 232], []), (77, .iload 4, 2, [], []), (79, .iastore, 1, [], [])],
  [(80, .aload_n 0, 1, [], []), (81, .dup, 1, [], []), (82, .getfield 80, 3, [5, 5, 0, 232], []), (85, .iconst 1, 1, [], []), (86, .iadd, 1, [], []), (87, .putfield 80, 3, [5, 5, 0, 232], []), (90, .iinc 3 1, 3, [], []), (93, .goto (-76), 3, [], [])],
  [(96, .iinc 2 1, 3, [], []), (99, .goto (-92), 3, [], []), (102, .return_, 1, [], [])]]
def co56 : List (List (Nat × MC)) := [[(0, .iconst 0, 1, [], []), (1, .istore_n 2, 1, [], []), (2, .iload_n 2, 1, [], []), (3, .aload_n 0, 1, [], []), (4, .getfield 45, 3, [5, 4, 0, 231], []), (7, .if_icmp .ge 23, 3, [], []), (10, .aload_n 0, 1, [], []), (11, .getfield 30, 3, [5, 9, 1, 236], []), (14, .iload_n 2, 1, [], []), (15, .iconst 0, 1, [], [])],
  [(16, .iastore, 1, [], []), (17, .aload_n 0, 1, [], []), (18, .getfield 33, 3, [5, 10, 1, 237], []), (21, .iload_n 2, 1, [], []), (22, .iload_n 1, 1, [], []), (23, .iastore, 1, [], []), (24, .iinc 2 1, 3, [], []), (27, .goto (-25), 3, [], []), (30, .aload_n 0, 1, [], []), (31, .getfield 33, 3, [5, 10, 1, 237], [])],
  [(34, .iconst 0, 1, [], []), (35, .iconst 0, 1, [], []), (36, .iastore, 1, [], []), (37, .aload_n 0, 1, [], []), (38, .getfield 30, 3, [5, 9, 1, 236], []), (41, .iconst 1, 1, [], []), (42, .iload_n 1, 1, [], []), (43, .iastore, 1, [], []), (44, .iconst 0, 1, [], []), (45, .istore_n 2, 1, [], []), (46, .iload_n 2, 1, [], [1]), (47, .aload_n 0, 1, [], [])],
  [(48, .getfield 80, 3, [5, 5, 0, 232], []), (51, .if_icmp .ge 63, 3, [], []), (54, .aload_n 0, 1, [], []), (55, .getfield 27, 3, [5, 8, 1, 235], []), (58, .iload_n 2, 1, [], []), (59, .iaload, 1, [], []), (60, .aload_n 0, 1, [], []), (61, .getfield 21, 3, [5, 6, 1, 233], [])],
  [(64, .iload_n 2, 1, [], []), (65, .iaload, 1, [], []), (66, .if_icmp .ne 15, 3, [], []), (69, .aload_n 0, 1, [], []), (70, .getfield 33, 3, [5, 10, 1, 237], []), (73, .aload_n 0, 1, [], []), (74, .getfield 24, 3, [5, 7, 1, 234], []), (77, .iload_n 2, 1, [], []), (78, .iaload, 1, [], []), (79, .iconst 0, 1, [], [])],
  [(80, .iastore, 1, [], []), (81, .aload_n 0, 1, [], [1]), (82, .getfield 27, 3, [5, 8, 1, 235], []), (85, .iload_n 2, 1, [], []), (86, .iaload, 1, [], []), (87, .aload_n 0, 1, [], []), (88, .getfield 24, 3, [5, 7, 1, 234], []), (91, .iload_n 2, 1, [], []), (92, .iaload, 1, [], []), (93, .if_icmp .ne 15, 3, [], [])],
  [(96, .aload_n 0, 1, [], []), (97, .getfield 33, 3, [5, 10, 1, 237], []), (100, .aload_n 0, 1, [], []), (101, .getfield 21, 3, [5, 6, 1, 233], []), (104, .iload_n 2, 1, [], []), (105, .iaload, 1, [], []), (106, .iconst 0, 1, [], []), (107, .iastore, 1, [], []), (108, .iinc 2 1, 3, [], []), (111, .goto (-65), 3, [], [])],
  [(114, .return_, 1, [], [])]]
def co57 : List (List (Nat × MC)) := [[(0, .iload_n 1, 1, [], []), (1, .bipush 12, 2, [], []), (3, .imul, 1, [], []), (4, .istore_n 2, 1, [], []), (5, .iconst 0, 1, [], []), (6, .istore_n 3, 1, [], []), (7, .iload_n 3, 1, [], [1, 4, 5, 6, 7, 8]), (8, .aload_n 0, 1, [], []), (9, .getfield 45, 3, [5, 4, 0, 231], []), (12, .if_icmp .ge 21, 3, [], []), (15, .aload_n 0, 1, [], [])],
  [(16, .iload_n 2, 1, [], []), (17, .iload_n 3, 1, [], []), (18, .iadd, 1, [], []), (19, .invokevirtual 86, 3, [1, 60, 2, 5, 585, 587, 14, 72, 588], []), (22, .ifCond .eq 5, 3, [], []), (25, .iconst 0, 1, [], []), (26, .ireturn, 1, [1], []), (27, .iinc 3 1, 3, [], []), (30, .goto (-23), 3, [], [])],
  [(33, .iconst 1, 1, [], []), (34, .istore_n 3, 1, [], []), (35, .iconst 0, 1, [], []), (36, .istore 4, 2, [], []), (38, .iload 4, 2, [], [1, 5, 6, 7, 8]), (40, .bipush 100, 2, [], []), (42, .if_icmp .ge 108, 3, [], []), (45, .iload_n 3, 1, [], []), (46, .ifCond .eq 104, 3, [], [])],
  [(49, .iconst 0, 1, [], []), (50, .istore_n 3, 1, [], []), (51, .iconst 0, 1, [], []), (52, .istore 5, 2, [], []), (54, .iload 5, 2, [], [1, 6, 7, 8]), (56, .aload_n 0, 1, [], []), (57, .getfield 80, 3, [5, 5, 0, 232], []), (60, .if_icmp .ge 84, 3, [], []), (63, .iload_n 2, 1, [], [])],
  [(64, .aload_n 0, 1, [], []), (65, .getfield 21, 3, [5, 6, 1, 233], []), (68, .iload 5, 2, [], []), (70, .iaload, 1, [], []), (71, .iadd, 1, [], []), (72, .istore 6, 2, [], []), (74, .iload_n 2, 1, [], []), (75, .aload_n 0, 1, [], []), (76, .getfield 24, 3, [5, 7, 1, 234], []), (79, .iload 5, 2, [], [])],
  [(81, .iaload, 1, [], []), (82, .iadd, 1, [], []), (83, .istore 7, 2, [], []), (85, .iload_n 2, 1, [], []), (86, .aload_n 0, 1, [], []), (87, .getfield 27, 3, [5, 8, 1, 235], []), (90, .iload 5, 2, [], []), (92, .iaload, 1, [], []), (93, .iadd, 1, [], []), (94, .istore 8, 2, [], [])],
  [(96, .iload_n 3, 1, [], []), (97, .aload_n 0, 1, [], []), (98, .iload 6, 2, [], []), (100, .iload 7, 2, [], []), (102, .iload 8, 2, [], []), (104, .invokevirtual 89, 3, [1, 58, 4, 5, 589, 591, 15, 72, 592], []), (107, .ior, 1, [], []), (108, .istore_n 3, 1, [], []), (109, .aload_n 0, 1, [], []), (110, .iload 6, 2, [], [])],
  [(112, .invokevirtual 86, 3, [1, 60, 2, 5, 585, 587, 14, 72, 588], []), (115, .ifCond .ne 21, 3, [], []), (118, .aload_n 0, 1, [], []), (119, .iload 7, 2, [], []), (121, .invokevirtual 86, 3, [1, 60, 2, 5, 585, 587, 14, 72, 588], []), (124, .ifCond .ne 12, 3, [], []), (127, .aload_n 0, 1, [], [])],
  [(128, .iload 8, 2, [], []), (130, .invokevirtual 86, 3, [1, 60, 2, 5, 585, 587, 14, 72, 588], []), (133, .ifCond .eq 5, 3, [], []), (136, .iconst 0, 1, [], []), (137, .ireturn, 1, [1], []), (138, .iinc 5 1, 3, [], []), (141, .goto (-87), 3, [], [])],
  [(144, .iinc 4 1, 3, [], []), (147, .goto (-109), 3, [], []), (150, .iconst 1, 1, [], []), (151, .ireturn, 1, [1], [])]]
def co58 : List (List (Nat × MC)) := [[(0, .aload_n 0, 1, [], []), (1, .iload_n 3, 1, [], []), (2, .aload_n 0, 1, [], []), (3, .getfield 30, 3, [5, 9, 1, 236], []), (6, .iload_n 1, 1, [], []), (7, .iaload, 1, [], []), (8, .aload_n 0, 1, [], []), (9, .getfield 30, 3, [5, 9, 1, 236], []), (12, .iload_n 2, 1, [], []), (13, .iaload, 1, [], []), (14, .iadd, 1, [], []), (15, .aload_n 0, 1, [], [])],
  [(16, .getfield 33, 3, [5, 10, 1, 237], []), (19, .iload_n 1, 1, [], []), (20, .iaload, 1, [], []), (21, .aload_n 0, 1, [], []), (22, .getfield 33, 3, [5, 10, 1, 237], []), (25, .iload_n 2, 1, [], []), (26, .iaload, 1, [], []), (27, .iadd, 1, [], []), (28, .invokevirtual 93, 3, [1, 59, 4, 5, 593, 595, 16, 72, 596], []), (31, .istore 4, 2, [], [])],
  [(33, .iload 4, 2, [], []), (35, .aload_n 0, 1, [], []), (36, .iload_n 1, 1, [], []), (37, .aload_n 0, 1, [], []), (38, .getfield 30, 3, [5, 9, 1, 236], []), (41, .iload_n 3, 1, [], []), (42, .iaload, 1, [], []), (43, .aload_n 0, 1, [], []), (44, .getfield 33, 3, [5, 10, 1, 237], []), (47, .iload_n 2, 1, [], [])],
  [(48, .iaload, 1, [], []), (49, .isub, 1, [], []), (50, .aload_n 0, 1, [], []), (51, .getfield 33, 3, [5, 10, 1, 237], []), (54, .iload_n 3, 1, [], []), (55, .iaload, 1, [], []), (56, .aload_n 0, 1, [], []), (57, .getfield 30, 3, [5, 9, 1, 236], []), (60, .iload_n 2, 1, [], []), (61, .iaload, 1, [], []), (62, .isub, 1, [], []), (63, .invokevirtual 93, 3, [1, 59, 4, 5, 593, 595, 16, 72, 596], [])],
  [(66, .ior, 1, [], []), (67, .istore 4, 2, [], []), (69, .iload 4, 2, [], []), (71, .aload_n 0, 1, [], []), (72, .iload_n 2, 1, [], []), (73, .aload_n 0, 1, [], []), (74, .getfield 30, 3, [5, 9, 1, 236], []), (77, .iload_n 3, 1, [], []), (78, .iaload, 1, [], []), (79, .aload_n 0, 1, [], [])],
  [(80, .getfield 33, 3, [5, 10, 1, 237], []), (83, .iload_n 1, 1, [], []), (84, .iaload, 1, [], []), (85, .isub, 1, [], []), (86, .aload_n 0, 1, [], []), (87, .getfield 33, 3, [5, 10, 1, 237], []), (90, .iload_n 3, 1, [], []), (91, .iaload, 1, [], []), (92, .aload_n 0, 1, [], []), (93, .getfield 30, 3, [5, 9, 1, 236], [])],
  [(96, .iload_n 1, 1, [], []), (97, .iaload, 1, [], []), (98, .isub, 1, [], []), (99, .invokevirtual 93, 3, [1, 59, 4, 5, 593, 595, 16, 72, 596], []), (102, .ior, 1, [], []), (103, .istore 4, 2, [], []), (105, .iload_n 1, 1, [], []), (106, .iload_n 2, 1, [], []), (107, .if_icmp .ne 31, 3, [], []), (110, .iload 4, 2, [], [])],
  [(112, .aload_n 0, 1, [], []), (113, .iload_n 1, 1, [], []), (114, .aload_n 0, 1, [], []), (115, .getfield 30, 3, [5, 9, 1, 236], []), (118, .iload_n 3, 1, [], []), (119, .iaload, 1, [], []), (120, .iconst 1, 1, [], []), (121, .iadd, 1, [], []), (122, .iconst 2, 1, [], []), (123, .idiv, 1, [], []), (124, .aload_n 0, 1, [], []), (125, .getfield 33, 3, [5, 10, 1, 237], [])],
  [(128, .iload_n 3, 1, [], []), (129, .iaload, 1, [], []), (130, .iconst 2, 1, [], []), (131, .idiv, 1, [], []), (132, .invokevirtual 93, 3, [1, 59, 4, 5, 593, 595, 16, 72, 596], []), (135, .ior, 1, [], []), (136, .istore 4, 2, [], []), (138, .iload 4, 2, [], []), (140, .ireturn, 1, [1], [])]]
def co59 : List (List (Nat × MC)) := [[(0, .iconst 0, 1, [], []), (1, .istore 4, 2, [], []), (3, .aload_n 0, 1, [], []), (4, .getfield 30, 3, [5, 9, 1, 236], []), (7, .iload_n 1, 1, [], []), (8, .iaload, 1, [], []), (9, .iload_n 2, 1, [], []), (10, .if_icmp .ge 13, 3, [], []), (13, .aload_n 0, 1, [], []), (14, .getfield 30, 3, [5, 9, 1, 236], [])],
  [(17, .iload_n 1, 1, [], []), (18, .iload_n 2, 1, [], []), (19, .iastore, 1, [], []), (20, .iconst 1, 1, [], []), (21, .istore 4, 2, [], []), (23, .aload_n 0, 1, [], [2]), (24, .getfield 33, 3, [5, 10, 1, 237], []), (27, .iload_n 1, 1, [], []), (28, .iaload, 1, [], []), (29, .iload_n 3, 1, [], []), (30, .if_icmp .le 13, 3, [], [])],
  [(33, .aload_n 0, 1, [], []), (34, .getfield 33, 3, [5, 10, 1, 237], []), (37, .iload_n 1, 1, [], []), (38, .iload_n 3, 1, [], []), (39, .iastore, 1, [], []), (40, .iconst 1, 1, [], []), (41, .istore 4, 2, [], []), (43, .iload 4, 2, [], []), (45, .ireturn, 1, [1], [])]]
def co60 : List (List (Nat × MC)) := [[(0, .aload_n 0, 1, [], []), (1, .getfield 30, 3, [5, 9, 1, 236], []), (4, .iload_n 1, 1, [], []), (5, .iaload, 1, [], []), (6, .aload_n 0, 1, [], []), (7, .getfield 33, 3, [5, 10, 1, 237], []), (10, .iload_n 1, 1, [], []), (11, .iaload, 1, [], []), (12, .if_icmp .le 7, 3, [], []), (15, .iconst 1, 1, [], [])],
  [(16, .goto 4, 3, [], []), (19, .iconst 0, 1, [], []), (20, .ireturn, 1, [1], [])]]
def co61 : List (List (Nat × MC)) := [[(0, .aload_n 0, 1, [], []), (1, .getfield 30, 3, [5, 9, 1, 236], []), (4, .iload_n 1, 1, [], []), (5, .iaload, 1, [], []), (6, .aload_n 0, 1, [], []), (7, .getfield 33, 3, [5, 10, 1, 237], []), (10, .iload_n 1, 1, [], []), (11, .iaload, 1, [], []), (12, .if_icmp .ge 7, 3, [], []), (15, .iconst 1, 1, [], [])],
  [(16, .goto 4, 3, [], []), (19, .iconst 0, 1, [], []), (20, .ireturn, 1, [1], [])]]
def co62 : List (List (Nat × MC)) := [[(0, .iconst 0, 1, [], []), (1, .istore_n 1, 1, [], []), (2, .iload_n 1, 1, [], []), (3, .aload_n 0, 1, [], []), (4, .getfield 45, 3, [5, 4, 0, 231], []), (7, .if_icmp .ge 28, 3, [], []), (10, .aload_n 0, 1, [], []), (11, .getfield 36, 3, [5, 11, 1, 238], []), (14, .iload_n 1, 1, [], []), (15, .aload_n 0, 1, [], [])],
  [(16, .iload_n 1, 1, [], []), (17, .invokevirtual 96, 3, [1, 61, 2, 5, 601, 603, 18, 72, 604], []), (20, .ifCond .eq 7, 3, [], []), (23, .iload_n 1, 1, [], []), (24, .goto 4, 3, [], []), (27, .iconst (-1), 1, [], []), (28, .iastore, 1, [], []), (29, .iinc 1 1, 3, [], [])],
  [(32, .goto (-30), 3, [], []), (35, .iconst 0, 1, [], []), (36, .istore_n 1, 1, [], []), (37, .iload_n 1, 1, [], []), (38, .aload_n 0, 1, [], []), (39, .getfield 80, 3, [5, 5, 0, 232], []), (42, .if_icmp .ge 87, 3, [], []), (45, .aload_n 0, 1, [], []), (46, .aload_n 0, 1, [], []), (47, .getfield 36, 3, [5, 11, 1, 238], [])],
  [(50, .aload_n 0, 1, [], []), (51, .getfield 21, 3, [5, 6, 1, 233], []), (54, .iload_n 1, 1, [], []), (55, .iaload, 1, [], []), (56, .iaload, 1, [], []), (57, .aload_n 0, 1, [], []), (58, .getfield 36, 3, [5, 11, 1, 238], []), (61, .aload_n 0, 1, [], []), (62, .getfield 24, 3, [5, 7, 1, 234], [])],
  [(65, .iload_n 1, 1, [], []), (66, .iaload, 1, [], []), (67, .iaload, 1, [], []), (68, .invokevirtual 99, 3, [0, 63, 3, 5, 605, 607, 19, 72, 608], []), (71, .aload_n 0, 1, [], []), (72, .aload_n 0, 1, [], []), (73, .getfield 36, 3, [5, 11, 1, 238], []), (76, .aload_n 0, 1, [], []), (77, .getfield 21, 3, [5, 6, 1, 233], [])],
  [(80, .iload_n 1, 1, [], []), (81, .iaload, 1, [], []), (82, .iaload, 1, [], []), (83, .aload_n 0, 1, [], []), (84, .getfield 36, 3, [5, 11, 1, 238], []), (87, .aload_n 0, 1, [], []), (88, .getfield 27, 3, [5, 8, 1, 235], []), (91, .iload_n 1, 1, [], []), (92, .iaload, 1, [], []), (93, .iaload, 1, [], []), (94, .invokevirtual 99, 3, [0, 63, 3, 5, 605, 607, 19, 72, 608], [])],
  [(97, .aload_n 0, 1, [], []), (98, .aload_n 0, 1, [], []), (99, .getfield 36, 3, [5, 11, 1, 238], []), (102, .aload_n 0, 1, [], []), (103, .getfield 24, 3, [5, 7, 1, 234], []), (106, .iload_n 1, 1, [], []), (107, .iaload, 1, [], []), (108, .iaload, 1, [], []), (109, .aload_n 0, 1, [], []), (110, .getfield 36, 3, [5, 11, 1, 238], [])],
  [(113, .aload_n 0, 1, [], []), (114, .getfield 27, 3, [5, 8, 1, 235], []), (117, .iload_n 1, 1, [], []), (118, .iaload, 1, [], []), (119, .iaload, 1, [], []), (120, .invokevirtual 99, 3, [0, 63, 3, 5, 605, 607, 19, 72, 608], []), (123, .iinc 1 1, 3, [], []), (126, .goto (-89), 3, [], [])],
  [(129, .return_, 1, [], [])]]
def co63 : List (List (Nat × MC)) := [[(0, .iload_n 1, 1, [], []), (1, .iconst (-1), 1, [], []), (2, .if_icmp .eq 8, 3, [], []), (5, .iload_n 2, 1, [], []), (6, .iconst (-1), 1, [], []), (7, .if_icmp .ne 4, 3, [], []), (10, .return_, 1, [], []), (11, .iconst 0, 1, [], []), (12, .istore_n 3, 1, [], []), (13, .iload_n 3, 1, [], []), (14, .aload_n 0, 1, [], []), (15, .getfield 45, 3, [5, 4, 0, 231], [])],
  [(18, .if_icmp .ge 40, 3, [], []), (21, .aload_n 0, 1, [], []), (22, .getfield 36, 3, [5, 11, 1, 238], []), (25, .iload_n 3, 1, [], []), (26, .iaload, 1, [], []), (27, .iload_n 1, 1, [], []), (28, .if_icmp .eq 13, 3, [], []), (31, .aload_n 0, 1, [], [])],
  [(32, .getfield 36, 3, [5, 11, 1, 238], []), (35, .iload_n 3, 1, [], []), (36, .iaload, 1, [], []), (37, .iload_n 2, 1, [], []), (38, .if_icmp .ne 14, 3, [], []), (41, .aload_n 0, 1, [], []), (42, .getfield 36, 3, [5, 11, 1, 238], []), (45, .iload_n 3, 1, [], []), (46, .iload_n 1, 1, [], []), (47, .iload_n 2, 1, [], [])],
  [(48, .invokestatic 74, 3, [2, 609, 610, 75, 611], []), (51, .iastore, 1, [], []), (52, .iinc 3 1, 3, [], []), (55, .goto (-42), 3, [], []), (58, .return_, 1, [], [])]]
def co64 : List (List (Nat × MC)) := [[(0, .aload_n 0, 1, [], []), (1, .getfield 36, 3, [5, 11, 1, 238], []), (4, .iload_n 1, 1, [], []), (5, .iaload, 1, [], []), (6, .iconst (-1), 1, [], []), (7, .if_icmp .ne 7, 3, [], []), (10, .iconst 1, 1, [], []), (11, .goto 4, 3, [], []), (14, .iconst 0, 1, [], []), (15, .istore_n 3, 1, [], [3])],
  [(16, .aload_n 0, 1, [], []), (17, .getfield 9, 3, [5, 1, 1, 225], []), (20, .iload_n 1, 1, [], []), (21, .aload_n 0, 1, [], []), (22, .getfield 30, 3, [5, 9, 1, 236], []), (25, .iload_n 1, 1, [], []), (26, .iaload, 1, [], []), (27, .iastore, 1, [], []), (28, .aload_n 0, 1, [], []), (29, .getfield 15, 3, [5, 2, 1, 227], [])],
  [(32, .iload_n 1, 1, [], []), (33, .iload_n 3, 1, [], []), (34, .ifCond .eq 12, 3, [], []), (37, .aload_n 0, 1, [], []), (38, .getfield 30, 3, [5, 9, 1, 236], []), (41, .iload_n 1, 1, [], []), (42, .iaload, 1, [], []), (43, .goto 4, 3, [], []), (46, .iload_n 2, 1, [], []), (47, .iastore, 1, [], [2])],
  [(48, .aload_n 0, 1, [], []), (49, .getfield 18, 3, [5, 3, 1, 229], []), (52, .iload_n 1, 1, [], []), (53, .iload_n 3, 1, [], []), (54, .ifCond .eq 12, 3, [], []), (57, .aload_n 0, 1, [], []), (58, .getfield 30, 3, [5, 9, 1, 236], []), (61, .iload_n 1, 1, [], []), (62, .iaload, 1, [], []), (63, .goto 4, 3, [], [])],
  [(66, .iconst 0, 1, [], []), (67, .iastore, 1, [], []), (68, .return_, 1, [], [])]]
def co65 : List (List (Nat × MC)) := [[(0, .aload_n 0, 1, [], []), (1, .iload_n 1, 1, [], []), (2, .iload_n 2, 1, [], []), (3, .invokevirtual 102, 3, [1, 67, 3, 5, 620, 622, 22, 72, 623], []), (6, .istore_n 3, 1, [], []), (7, .iload_n 3, 1, [], []), (8, .iconst (-1), 1, [], []), (9, .if_icmp .ne 10, 3, [], []), (12, .aload_n 0, 1, [], []), (13, .iload_n 1, 1, [], []), (14, .iload_n 2, 1, [], []), (15, .invokevirtual 105, 3, [0, 69, 3, 5, 624, 626, 23, 72, 627], [])],
  [(18, .return_, 1, [], []), (19, .iload_n 2, 1, [], []), (20, .bipush 12, 2, [], []), (22, .imul, 1, [], []), (23, .iload_n 3, 1, [], []), (24, .iadd, 1, [], []), (25, .istore 4, 2, [], []), (27, .aload_n 0, 1, [], []), (28, .getfield 30, 3, [5, 9, 1, 236], []), (31, .iload 4, 2, [], [])],
  [(33, .iaload, 1, [], []), (34, .istore 5, 2, [], []), (36, .iload 5, 2, [], []), (38, .aload_n 0, 1, [], []), (39, .getfield 33, 3, [5, 10, 1, 237], []), (42, .iload 4, 2, [], []), (44, .iaload, 1, [], []), (45, .if_icmp .gt 18, 3, [], [])],
  [(48, .aload_n 0, 1, [], []), (49, .iload_n 1, 1, [], []), (50, .iload_n 2, 1, [], []), (51, .iload_n 3, 1, [], []), (52, .iload 5, 2, [], []), (54, .invokevirtual 108, 3, [0, 66, 5, 5, 629, 631, 24, 72, 632], []), (57, .iinc 5 1, 3, [], []), (60, .goto (-24), 3, [], []), (63, .return_, 1, [], [])]]
def co66 : List (List (Nat × MC)) := [[(0, .iload_n 2, 1, [], []), (1, .iconst 1, 1, [], []), (2, .iadd, 1, [], []), (3, .istore 5, 2, [], []), (5, .iload 5, 2, [], []), (7, .bipush 12, 2, [], []), (9, .if_icmp .lt 4, 3, [], []), (12, .return_, 1, [], []), (13, .aload_n 0, 1, [], []), (14, .iload_n 2, 1, [], []), (15, .invokevirtual 112, 3, [0, 68, 2, 5, 633, 635, 25, 72, 636], [])],
  [(18, .aload_n 0, 1, [], []), (19, .getfield 30, 3, [5, 9, 1, 236], []), (22, .iload 5, 2, [], []), (24, .bipush 12, 2, [], []), (26, .imul, 1, [], []), (27, .iload_n 3, 1, [], []), (28, .iadd, 1, [], []), (29, .iload 4, 2, [], []), (31, .iastore, 1, [], [])],
  [(32, .aload_n 0, 1, [], []), (33, .getfield 33, 3, [5, 10, 1, 237], []), (36, .iload 5, 2, [], []), (38, .bipush 12, 2, [], []), (40, .imul, 1, [], []), (41, .iload_n 3, 1, [], []), (42, .iadd, 1, [], []), (43, .iload 4, 2, [], []), (45, .iastore, 1, [], []), (46, .aload_n 0, 1, [], []), (47, .iload 5, 2, [], [])],
  [(49, .invokevirtual 54, 3, [1, 57, 2, 5, 581, 583, 13, 72, 584], []), (52, .ifCond .eq 10, 3, [], []), (55, .aload_n 0, 1, [], []), (56, .iload_n 1, 1, [], []), (57, .iload 5, 2, [], []), (59, .invokevirtual 71, 3, [0, 65, 3, 5, 616, 618, 21, 72, 619], []), (62, .return_, 1, [], [])]]
def co67 : List (List (Nat × MC)) := [[(0, .iconst 0, 1, [], []), (1, .istore_n 3, 1, [], []), (2, .iload_n 3, 1, [], []), (3, .aload_n 0, 1, [], []), (4, .getfield 45, 3, [5, 4, 0, 231], []), (7, .if_icmp .ge 34, 3, [], []), (10, .aload_n 0, 1, [], []), (11, .getfield 36, 3, [5, 11, 1, 238], []), (14, .iload_n 3, 1, [], []), (15, .iaload, 1, [], [])],
  [(16, .iload_n 1, 1, [], []), (17, .if_icmp .ne 18, 3, [], []), (20, .aload_n 0, 1, [], []), (21, .iload_n 2, 1, [], []), (22, .bipush 12, 2, [], []), (24, .imul, 1, [], []), (25, .iload_n 3, 1, [], []), (26, .iadd, 1, [], []), (27, .invokevirtual 96, 3, [1, 61, 2, 5, 601, 603, 18, 72, 604], []), (30, .ifCond .eq 5, 3, [], [])],
  [(33, .iload_n 3, 1, [], []), (34, .ireturn, 1, [0], []), (35, .iinc 3 1, 3, [], []), (38, .goto (-36), 3, [], []), (41, .iconst (-1), 1, [], []), (42, .ireturn, 1, [0], [])]]
def co68 : List (List (Nat × MC)) := [[(0, .iload_n 1, 1, [], []), (1, .bipush 12, 2, [], []), (3, .imul, 1, [], []), (4, .istore_n 2, 1, [], []), (5, .aload_n 0, 1, [], []), (6, .getfield 30, 3, [5, 9, 1, 236], []), (9, .iload_n 2, 1, [], []), (10, .aload_n 0, 1, [], []), (11, .getfield 30, 3, [5, 9, 1, 236], []), (14, .iload_n 2, 1, [], []), (15, .bipush 12, 2, [], [])],
  [(17, .iadd, 1, [], []), (18, .bipush 12, 2, [], []), (20, .invokestatic 115, 3, [3, 637, 313, 312, 74], []), (23, .aload_n 0, 1, [], []), (24, .getfield 33, 3, [5, 10, 1, 237], []), (27, .iload_n 2, 1, [], []), (28, .aload_n 0, 1, [], []), (29, .getfield 33, 3, [5, 10, 1, 237], [])],
  [(32, .iload_n 2, 1, [], []), (33, .bipush 12, 2, [], []), (35, .iadd, 1, [], []), (36, .bipush 12, 2, [], []), (38, .invokestatic 115, 3, [3, 637, 313, 312, 74], []), (41, .return_, 1, [], [])]]
def co69 : List (List (Nat × MC)) := [[(0, .iconst 0, 1, [], []), (1, .istore_n 3, 1, [], []), (2, .iload_n 3, 1, [], [4]), (3, .aload_n 0, 1, [], []), (4, .getfield 45, 3, [5, 4, 0, 231], []), (7, .if_icmp .ge 81, 3, [], []), (10, .aload_n 0, 1, [], []), (11, .getfield 36, 3, [5, 11, 1, 238], []), (14, .iload_n 3, 1, [], []), (15, .iaload, 1, [], [])],
  [(16, .iload_n 1, 1, [], []), (17, .if_icmp .ne 65, 3, [], []), (20, .aload_n 0, 1, [], []), (21, .getfield 30, 3, [5, 9, 1, 236], []), (24, .iload_n 2, 1, [], []), (25, .bipush 12, 2, [], []), (27, .imul, 1, [], []), (28, .iload_n 3, 1, [], []), (29, .iadd, 1, [], []), (30, .iaload, 1, [], []), (31, .istore 4, 2, [], [])],
  [(33, .aload_n 0, 1, [], []), (34, .getfield 68, 3, [5, 12, 0, 239], []), (37, .ifCond .ne 11, 3, [], []), (40, .aload_n 0, 1, [], []), (41, .getfield 9, 3, [5, 1, 1, 225], []), (44, .iload_n 3, 1, [], []), (45, .iload 4, 2, [], []), (47, .iastore, 1, [], [])],
  [(48, .aload_n 0, 1, [], []), (49, .getfield 15, 3, [5, 2, 1, 227], []), (52, .iload_n 3, 1, [], []), (53, .aload_n 0, 1, [], []), (54, .getfield 15, 3, [5, 2, 1, 227], []), (57, .iload_n 3, 1, [], []), (58, .iaload, 1, [], []), (59, .iload 4, 2, [], []), (61, .invokestatic 74, 3, [2, 609, 610, 75, 611], [])],
  [(64, .iastore, 1, [], []), (65, .aload_n 0, 1, [], []), (66, .getfield 18, 3, [5, 3, 1, 229], []), (69, .iload_n 3, 1, [], []), (70, .aload_n 0, 1, [], []), (71, .getfield 18, 3, [5, 3, 1, 229], []), (74, .iload_n 3, 1, [], []), (75, .iaload, 1, [], []), (76, .iload 4, 2, [], []), (78, .invokestatic 121, 3, [1, 628, 386, 75, 387], [])],
  [(81, .iastore, 1, [], []), (82, .iinc 3 1, 3, [], []), (85, .goto (-83), 3, [], []), (88, .aload_n 0, 1, [], []), (89, .dup, 1, [], []), (90, .getfield 68, 3, [5, 12, 0, 239], []), (93, .iconst 1, 1, [], []), (94, .iadd, 1, [], []), (95, .putfield 68, 3, [5, 12, 0, 239], [])],
  [(98, .return_, 1, [], [])]]
def co70 : List (List (Nat × MC)) := [[(0, .aload_n 0, 1, [], []), (1, .invokespecial 1, 3, [0, 81, 82, 83], []), (4, .aload_n 0, 1, [], []), (5, .new 7, 3, [3, 2, 84, 85, 67], []), (8, .dup, 1, [], []), (9, .invokespecial 9, 3, [1, 23, 1, 3, 86, 87, 67, 88], []), (12, .putfield 10, 3, [6, 0, 1, 267], []), (15, .aload_n 0, 1, [], [])],
  [(16, .new 7, 3, [3, 2, 84, 85, 67], []), (19, .dup, 1, [], []), (20, .invokespecial 9, 3, [1, 23, 1, 3, 86, 87, 67, 88], []), (23, .putfield 16, 3, [6, 1, 1, 268], []), (26, .aload_n 0, 1, [], []), (27, .iconst 0, 1, [], []), (28, .putfield 19, 3, [6, 2, 2, 269], []), (31, .aload_n 0, 1, [], [])],
  [(32, .new 23, 3, [0, 2, 118, 119, 68], []), (35, .dup, 1, [], []), (36, .invokespecial 25, 3, [1, 1, 1, 0, 120, 121, 68, 122], []), (39, .putfield 26, 3, [6, 3, 1, 270], []), (42, .aload_n 0, 1, [], []), (43, .new 30, 3, [4, 7, 135, 136, 69], []), (46, .dup, 1, [], []), (47, .invokespecial 32, 3, [1, 43, 1, 4, 137, 138, 69, 139], [])],
  [(50, .putfield 33, 3, [6, 4, 1, 271], []), (53, .aload_n 0, 1, [], []), (54, .new 37, 3, [1, 5, 165, 166, 70], []), (57, .dup, 1, [], []), (58, .invokespecial 39, 3, [2, 5, 1, 1, 0, 168, 70, 169], []), (61, .putfield 40, 3, [6, 5, 1, 272], [])],
  [(64, .aload_n 0, 1, [], []), (65, .new 44, 3, [2, 5, 192, 193, 71], []), (68, .dup, 1, [], []), (69, .invokespecial 46, 3, [1, 10, 1, 2, 194, 195, 71, 196], []), (72, .putfield 47, 3, [6, 6, 1, 273], []), (75, .aload_n 0, 1, [], []), (76, .new 51, 3, [5, 13, 217, 218, 72], []), (79, .dup, 1, [], [])],
  [(80, .invokespecial 53, 3, [1, 53, 1, 5, 219, 220, 72, 221], []), (83, .putfield 54, 3, [6, 7, 1, 274], []), (86, .aload_n 0, 1, [], []), (87, .bipush 12, 2, [], []), (89, .newarray .int, 2, [117], []), (91, .putfield 58, 3, [6, 8, 1, 275], []), (94, .return_, 1, [], [])]]
def co71 : List (List (Nat × MC)) := [[(0, .iload_n 1, 1, [], []), (1, .ifCond .eq 11, 3, [], []), (4, .iload_n 1, 1, [], []), (5, .iconst 1, 1, [], []), (6, .if_icmp .eq 6, 3, [], []), (9, .bipush (-2), 2, [], []), (11, .ireturn, 1, [0], []), (12, .iload_n 1, 1, [], [3]), (13, .ifCond .ne 8, 3, [], [])],
  [(16, .bipush 11, 2, [], []), (18, .goto 4, 3, [], []), (21, .iconst 3, 1, [], []), (22, .istore_n 3, 1, [], [3]), (23, .iload_n 2, 1, [], []), (24, .iconst 1, 1, [], []), (25, .if_icmp .lt 8, 3, [], []), (28, .iload_n 2, 1, [], []), (29, .iload_n 3, 1, [], []), (30, .if_icmp .le 6, 3, [], [])],
  [(33, .bipush (-2), 2, [], []), (35, .ireturn, 1, [0], []), (36, .aload_n 0, 1, [], []), (37, .getfield 26, 3, [6, 3, 1, 270], []), (40, .aload_n 0, 1, [], []), (41, .getfield 10, 3, [6, 0, 1, 267], []), (44, .invokevirtual 62, 3, [2, 2, 2, 0, 299, 300, 301, 68, 302], []), (47, .pop, 1, [], [])],
  [(48, .iload_n 1, 1, [], []), (49, .ifCond .ne 22, 3, [], []), (52, .aload_n 0, 1, [], []), (53, .getfield 10, 3, [6, 0, 1, 267], []), (56, .iconst 2, 1, [], []), (57, .invokevirtual 66, 3, [0, 28, 2, 3, 314, 91, 92, 67, 93], []), (60, .aload_n 0, 1, [], []), (61, .getfield 10, 3, [6, 0, 1, 267], [])],
  [(64, .iload_n 2, 1, [], []), (65, .invokevirtual 70, 3, [0, 32, 2, 3, 315, 316, 317, 67, 318], []), (68, .goto 11, 3, [], []), (71, .aload_n 0, 1, [], []), (72, .getfield 10, 3, [6, 0, 1, 267], []), (75, .iload_n 2, 1, [], []), (76, .invokevirtual 73, 3, [0, 33, 2, 3, 319, 320, 321, 67, 322], []), (79, .aload_n 0, 1, [], [])],
  [(80, .getfield 10, 3, [6, 0, 1, 267], []), (83, .getfield 76, 3, [3, 0, 0, 110], []), (86, .ireturn, 1, [0], [])]]
def co72 : List (List (Nat × MC)) := [[(0, .aload_n 0, 1, [], []), (1, .getfield 10, 3, [6, 0, 1, 267], []), (4, .getfield 76, 3, [3, 0, 0, 110], []), (7, .bipush 12, 2, [], []), (9, .if_icmp .lt 6, 3, [], []), (12, .bipush (-3), 2, [], []), (14, .ireturn, 1, [0], []), (15, .aload_n 0, 1, [], [])],
  [(16, .getfield 26, 3, [6, 3, 1, 270], []), (19, .aload_n 0, 1, [], []), (20, .getfield 10, 3, [6, 0, 1, 267], []), (23, .invokevirtual 62, 3, [2, 2, 2, 0, 299, 300, 301, 68, 302], []), (26, .pop, 1, [], []), (27, .aload_n 0, 1, [], []), (28, .getfield 10, 3, [6, 0, 1, 267], []), (31, .iconst 1, 1, [], [])],
  [(32, .invokevirtual 80, 3, [0, 29, 2, 3, 330, 95, 96, 67, 97], []), (35, .aload_n 0, 1, [], []), (36, .getfield 10, 3, [6, 0, 1, 267], []), (39, .getfield 76, 3, [3, 0, 0, 110], []), (42, .iconst 1, 1, [], []), (43, .isub, 1, [], []), (44, .ireturn, 1, [0], [])]]
def co73 : List (List (Nat × MC)) := [[(0, .aload_n 0, 1, [], []), (1, .getfield 10, 3, [6, 0, 1, 267], []), (4, .iload_n 1, 1, [], []), (5, .invokevirtual 83, 3, [1, 24, 2, 3, 335, 103, 104, 67, 105], []), (8, .ifCond .ne 5, 3, [], []), (11, .iconst (-1), 1, [], []), (12, .ireturn, 1, [0], []), (13, .iload_n 1, 1, [], []), (14, .invokestatic 87, 3, [0, 1, 96, 1, 336, 337, 66, 338], [])],
  [(17, .ifCond .eq 6, 3, [], []), (20, .bipush (-4), 2, [], []), (22, .ireturn, 1, [0], []), (23, .aload_n 0, 1, [], []), (24, .getfield 26, 3, [6, 3, 1, 270], []), (27, .aload_n 0, 1, [], []), (28, .getfield 10, 3, [6, 0, 1, 267], []), (31, .invokevirtual 62, 3, [2, 2, 2, 0, 299, 300, 301, 68, 302], [])],
  [(34, .astore_n 2, 1, [], []), (35, .iconst 0, 1, [], []), (36, .istore_n 3, 1, [], []), (37, .iload_n 3, 1, [], []), (38, .bipush 12, 2, [], []), (40, .if_icmp .ge 27, 3, [], []), (43, .aload_n 0, 1, [], []), (44, .getfield 58, 3, [6, 8, 1, 275], []), (47, .iload_n 3, 1, [], [])],
  [(48, .iload_n 3, 1, [], []), (49, .iload_n 1, 1, [], []), (50, .if_icmp .ge 7, 3, [], []), (53, .iload_n 3, 1, [], []), (54, .goto 6, 3, [], []), (57, .iload_n 3, 1, [], []), (58, .iconst 1, 1, [], []), (59, .isub, 1, [], []), (60, .iastore, 1, [], []), (61, .iinc 3 1, 3, [], [])],
  [(64, .goto (-27), 3, [], []), (67, .aload_n 0, 1, [], []), (68, .getfield 58, 3, [6, 8, 1, 275], []), (71, .iload_n 1, 1, [], []), (72, .iconst (-1), 1, [], []), (73, .iastore, 1, [], []), (74, .aload_n 0, 1, [], []), (75, .getfield 10, 3, [6, 0, 1, 267], []), (78, .aload_n 2, 1, [], []), (79, .getfield 76, 3, [3, 0, 0, 110], [])],
  [(82, .iconst 1, 1, [], []), (83, .isub, 1, [], []), (84, .invokevirtual 66, 3, [0, 28, 2, 3, 314, 91, 92, 67, 93], []), (87, .aload_n 0, 1, [], []), (88, .getfield 10, 3, [6, 0, 1, 267], []), (91, .aload_n 2, 1, [], []), (92, .aload_n 0, 1, [], []), (93, .getfield 58, 3, [6, 8, 1, 275], [])],
  [(96, .invokevirtual 90, 3, [0, 31, 3, 3, 339, 340, 341, 67, 342], []), (99, .aload_n 0, 1, [], []), (100, .getfield 10, 3, [6, 0, 1, 267], []), (103, .getfield 76, 3, [3, 0, 0, 110], []), (106, .ireturn, 1, [0], [])]]
def co74 : List (List (Nat × MC)) := [[(0, .aload_n 0, 1, [], []), (1, .getfield 10, 3, [6, 0, 1, 267], []), (4, .iload_n 1, 1, [], []), (5, .invokevirtual 83, 3, [1, 24, 2, 3, 335, 103, 104, 67, 105], []), (8, .ifCond .eq 25, 3, [], []), (11, .aload_n 0, 1, [], []), (12, .getfield 10, 3, [6, 0, 1, 267], []), (15, .iload_n 2, 1, [], [])],
  [(16, .invokevirtual 83, 3, [1, 24, 2, 3, 335, 103, 104, 67, 105], []), (19, .ifCond .eq 14, 3, [], []), (22, .aload_n 0, 1, [], []), (23, .getfield 10, 3, [6, 0, 1, 267], []), (26, .iload_n 3, 1, [], []), (27, .invokevirtual 83, 3, [1, 24, 2, 3, 335, 103, 104, 67, 105], []), (30, .ifCond .ne 5, 3, [], [])],
  [(33, .iconst (-1), 1, [], []), (34, .ireturn, 1, [0], []), (35, .iload_n 1, 1, [], []), (36, .ifCond .eq 7, 3, [], []), (39, .iload_n 2, 1, [], []), (40, .ifCond .ne 6, 3, [], []), (43, .bipush (-4), 2, [], []), (45, .ireturn, 1, [0], []), (46, .aload_n 0, 1, [], []), (47, .getfield 10, 3, [6, 0, 1, 267], [])],
  [(50, .iload_n 1, 1, [], []), (51, .iload_n 2, 1, [], []), (52, .invokevirtual 94, 3, [1, 25, 3, 3, 351, 344, 345, 67, 346], []), (55, .istore 4, 2, [], []), (57, .iload 4, 2, [], []), (59, .iload_n 3, 1, [], []), (60, .if_icmp .ne 6, 3, [], []), (63, .bipush (-5), 2, [], [])],
  [(65, .ireturn, 1, [0], []), (66, .aload_n 0, 1, [], []), (67, .getfield 26, 3, [6, 3, 1, 270], []), (70, .aload_n 0, 1, [], []), (71, .getfield 10, 3, [6, 0, 1, 267], []), (74, .invokevirtual 62, 3, [2, 2, 2, 0, 299, 300, 301, 68, 302], []), (77, .pop, 1, [], []), (78, .aload_n 0, 1, [], []), (79, .getfield 10, 3, [6, 0, 1, 267], [])],
  [(82, .iload_n 1, 1, [], []), (83, .iload_n 2, 1, [], []), (84, .iload_n 3, 1, [], []), (85, .invokevirtual 98, 3, [0, 27, 4, 3, 352, 99, 100, 67, 101], []), (88, .iload 4, 2, [], []), (90, .ireturn, 1, [0], [])]]
def co75 : List (List (Nat × MC)) := [[(0, .aload_n 0, 1, [], []), (1, .getfield 10, 3, [6, 0, 1, 267], []), (4, .iload_n 1, 1, [], []), (5, .invokevirtual 83, 3, [1, 24, 2, 3, 335, 103, 104, 67, 105], []), (8, .ifCond .eq 14, 3, [], []), (11, .aload_n 0, 1, [], []), (12, .getfield 10, 3, [6, 0, 1, 267], []), (15, .iload_n 2, 1, [], [])],
  [(16, .invokevirtual 83, 3, [1, 24, 2, 3, 335, 103, 104, 67, 105], []), (19, .ifCond .ne 5, 3, [], []), (22, .iconst (-1), 1, [], []), (23, .ireturn, 1, [0], []), (24, .iload_n 1, 1, [], []), (25, .ifCond .eq 7, 3, [], []), (28, .iload_n 2, 1, [], []), (29, .ifCond .ne 6, 3, [], [])],
  [(32, .bipush (-4), 2, [], []), (34, .ireturn, 1, [0], []), (35, .aload_n 0, 1, [], []), (36, .getfield 10, 3, [6, 0, 1, 267], []), (39, .iload_n 1, 1, [], []), (40, .iload_n 2, 1, [], []), (41, .invokevirtual 94, 3, [1, 25, 3, 3, 351, 344, 345, 67, 346], []), (44, .istore_n 3, 1, [], []), (45, .iload_n 3, 1, [], []), (46, .bipush 12, 2, [], [])],
  [(48, .if_icmp .ne 6, 3, [], []), (51, .bipush (-5), 2, [], []), (53, .ireturn, 1, [0], []), (54, .aload_n 0, 1, [], []), (55, .getfield 26, 3, [6, 3, 1, 270], []), (58, .aload_n 0, 1, [], []), (59, .getfield 10, 3, [6, 0, 1, 267], []), (62, .invokevirtual 62, 3, [2, 2, 2, 0, 299, 300, 301, 68, 302], [])],
  [(65, .pop, 1, [], []), (66, .aload_n 0, 1, [], []), (67, .getfield 10, 3, [6, 0, 1, 267], []), (70, .iload_n 1, 1, [], []), (71, .iload_n 2, 1, [], []), (72, .bipush 12, 2, [], []), (74, .invokevirtual 98, 3, [0, 27, 4, 3, 352, 99, 100, 67, 101], []), (77, .iload_n 3, 1, [], []), (78, .ireturn, 1, [0], [])]]
def co76 : List (List (Nat × MC)) := [[(0, .aload_n 0, 1, [], []), (1, .getfield 33, 3, [6, 4, 1, 271], []), (4, .invokevirtual 102, 3, [1, 45, 1, 4, 361, 362, 363, 69, 364], []), (7, .istore_n 1, 1, [], []), (8, .iload_n 1, 1, [], []), (9, .iconst (-1), 1, [], []), (10, .if_icmp .eq 8, 3, [], []), (13, .bipush (-100), 2, [], []), (15, .iload_n 1, 1, [], [])],
  [(16, .isub, 1, [], []), (17, .ireturn, 1, [0], []), (18, .aload_n 0, 1, [], []), (19, .getfield 33, 3, [6, 4, 1, 271], []), (22, .invokevirtual 106, 3, [1, 50, 1, 4, 381, 382, 383, 69, 384], []), (25, .aload_n 0, 1, [], []), (26, .getfield 10, 3, [6, 0, 1, 267], []), (29, .getfield 76, 3, [3, 0, 0, 110], [])],
  [(32, .if_icmp .lt 5, 3, [], []), (35, .iconst (-1), 1, [], []), (36, .ireturn, 1, [0], []), (37, .aload_n 0, 1, [], []), (38, .getfield 33, 3, [6, 4, 1, 271], []), (41, .invokevirtual 109, 3, [1, 51, 1, 4, 388, 389, 390, 69, 391], []), (44, .ifCond .eq 6, 3, [], []), (47, .bipush (-4), 2, [], [])],
  [(49, .ireturn, 1, [0], []), (50, .aload_n 0, 1, [], []), (51, .getfield 26, 3, [6, 3, 1, 270], []), (54, .aload_n 0, 1, [], []), (55, .getfield 10, 3, [6, 0, 1, 267], []), (58, .invokevirtual 62, 3, [2, 2, 2, 0, 299, 300, 301, 68, 302], []), (61, .pop, 1, [], []), (62, .aload_n 0, 1, [], []), (63, .getfield 33, 3, [6, 4, 1, 271], [])],
  [(66, .aload_n 0, 1, [], []), (67, .getfield 10, 3, [6, 0, 1, 267], []), (70, .invokevirtual 113, 3, [0, 52, 2, 4, 392, 393, 394, 69, 395], []), (73, .aload_n 0, 1, [], []), (74, .getfield 10, 3, [6, 0, 1, 267], []), (77, .invokevirtual 117, 3, [1, 41, 1, 3, 397, 398, 399, 67, 400], [])],
  [(80, .ireturn, 1, [0], [])]]
def co77 : List (List (Nat × MC)) := [[(0, .iload_n 1, 1, [], []), (1, .iconst 2, 1, [], []), (2, .if_icmp .lt 9, 3, [], []), (5, .iload_n 1, 1, [], []), (6, .bipush 11, 2, [], []), (8, .if_icmp .le 6, 3, [], []), (11, .bipush (-2), 2, [], []), (13, .ireturn, 1, [0], []), (14, .aload_n 0, 1, [], []), (15, .getfield 10, 3, [6, 0, 1, 267], [])],
  [(18, .getfield 76, 3, [3, 0, 0, 110], []), (21, .iload_n 1, 1, [], []), (22, .iadd, 1, [], []), (23, .iconst 1, 1, [], []), (24, .isub, 1, [], []), (25, .bipush 12, 2, [], []), (27, .if_icmp .le 6, 3, [], []), (30, .bipush (-3), 2, [], [])],
  [(32, .ireturn, 1, [0], []), (33, .aload_n 0, 1, [], []), (34, .getfield 26, 3, [6, 3, 1, 270], []), (37, .aload_n 0, 1, [], []), (38, .getfield 10, 3, [6, 0, 1, 267], []), (41, .invokevirtual 62, 3, [2, 2, 2, 0, 299, 300, 301, 68, 302], []), (44, .pop, 1, [], []), (45, .aload_n 0, 1, [], []), (46, .getfield 10, 3, [6, 0, 1, 267], [])],
  [(49, .iload_n 1, 1, [], []), (50, .invokevirtual 70, 3, [0, 32, 2, 3, 315, 316, 317, 67, 318], []), (53, .aload_n 0, 1, [], []), (54, .getfield 10, 3, [6, 0, 1, 267], []), (57, .getfield 76, 3, [3, 0, 0, 110], []), (60, .ireturn, 1, [0], [])]]
def co78 : List (List (Nat × MC)) := [[(0, .iconst 2, 1, [], []), (1, .aload_n 0, 1, [], []), (2, .getfield 10, 3, [6, 0, 1, 267], []), (5, .getfield 76, 3, [3, 0, 0, 110], []), (8, .imul, 1, [], []), (9, .bipush 12, 2, [], []), (11, .if_icmp .le 6, 3, [], []), (14, .bipush (-3), 2, [], [])],
  [(16, .ireturn, 1, [0], []), (17, .aload_n 0, 1, [], []), (18, .getfield 26, 3, [6, 3, 1, 270], []), (21, .aload_n 0, 1, [], []), (22, .getfield 10, 3, [6, 0, 1, 267], []), (25, .invokevirtual 62, 3, [2, 2, 2, 0, 299, 300, 301, 68, 302], []), (28, .astore_n 1, 1, [], []), (29, .aload_n 0, 1, [], []), (30, .getfield 10, 3, [6, 0, 1, 267], [])],
  [(33, .aload_n 1, 1, [], []), (34, .invokevirtual 120, 3, [0, 35, 2, 3, 413, 414, 415, 67, 416], []), (37, .aload_n 0, 1, [], []), (38, .getfield 10, 3, [6, 0, 1, 267], []), (41, .getfield 76, 3, [3, 0, 0, 110], []), (44, .ireturn, 1, [0], [])]]
def co79 : List (List (Nat × MC)) := [[(0, .aload_n 0, 1, [], []), (1, .getfield 10, 3, [6, 0, 1, 267], []), (4, .iload_n 1, 1, [], []), (5, .invokevirtual 83, 3, [1, 24, 2, 3, 335, 103, 104, 67, 105], []), (8, .ifCond .eq 14, 3, [], []), (11, .aload_n 0, 1, [], []), (12, .getfield 10, 3, [6, 0, 1, 267], []), (15, .iload_n 2, 1, [], [])],
  [(16, .invokevirtual 83, 3, [1, 24, 2, 3, 335, 103, 104, 67, 105], []), (19, .ifCond .ne 5, 3, [], []), (22, .iconst (-1), 1, [], []), (23, .ireturn, 1, [0], []), (24, .iload_n 1, 1, [], []), (25, .invokestatic 87, 3, [0, 1, 96, 1, 336, 337, 66, 338], []), (28, .ifCond .ne 10, 3, [], []), (31, .iload_n 2, 1, [], [])],
  [(32, .invokestatic 87, 3, [0, 1, 96, 1, 336, 337, 66, 338], []), (35, .ifCond .eq 6, 3, [], []), (38, .bipush (-4), 2, [], []), (40, .ireturn, 1, [0], []), (41, .iload_n 1, 1, [], []), (42, .iload_n 2, 1, [], []), (43, .if_icmp .ne 6, 3, [], []), (46, .bipush (-5), 2, [], [])],
  [(48, .ireturn, 1, [0], []), (49, .aload_n 0, 1, [], []), (50, .getfield 26, 3, [6, 3, 1, 270], []), (53, .aload_n 0, 1, [], []), (54, .getfield 10, 3, [6, 0, 1, 267], []), (57, .invokevirtual 62, 3, [2, 2, 2, 0, 299, 300, 301, 68, 302], []), (60, .astore_n 3, 1, [], []), (61, .iconst 0, 1, [], []), (62, .istore 4, 2, [], [])],
  [(64, .iload 4, 2, [], []), (66, .bipush 12, 2, [], []), (68, .if_icmp .ge 18, 3, [], []), (71, .aload_n 0, 1, [], []), (72, .getfield 58, 3, [6, 8, 1, 275], []), (75, .iload 4, 2, [], []), (77, .iload 4, 2, [], []), (79, .iastore, 1, [], [])],
  [(80, .iinc 4 1, 3, [], []), (83, .goto (-19), 3, [], []), (86, .aload_n 0, 1, [], []), (87, .getfield 58, 3, [6, 8, 1, 275], []), (90, .iload_n 1, 1, [], []), (91, .iload_n 2, 1, [], []), (92, .iastore, 1, [], []), (93, .aload_n 0, 1, [], []), (94, .getfield 58, 3, [6, 8, 1, 275], [])],
  [(97, .iload_n 2, 1, [], []), (98, .iload_n 1, 1, [], []), (99, .iastore, 1, [], []), (100, .aload_n 0, 1, [], []), (101, .getfield 10, 3, [6, 0, 1, 267], []), (104, .aload_n 3, 1, [], []), (105, .getfield 76, 3, [3, 0, 0, 110], []), (108, .invokevirtual 66, 3, [0, 28, 2, 3, 314, 91, 92, 67, 93], []), (111, .aload_n 0, 1, [], [])],
  [(112, .getfield 10, 3, [6, 0, 1, 267], []), (115, .aload_n 3, 1, [], []), (116, .aload_n 0, 1, [], []), (117, .getfield 58, 3, [6, 8, 1, 275], []), (120, .invokevirtual 90, 3, [0, 31, 3, 3, 339, 340, 341, 67, 342], []), (123, .aload_n 0, 1, [], []), (124, .getfield 10, 3, [6, 0, 1, 267], []), (127, .iload_n 1, 1, [], [])],
  [(128, .iload_n 2, 1, [], []), (129, .invokevirtual 123, 3, [1, 42, 3, 3, 427, 428, 429, 67, 430], []), (132, .ireturn, 1, [0], [])]]
def co80 : List (List (Nat × MC)) := [[(0, .aload_n 0, 1, [], []), (1, .getfield 33, 3, [6, 4, 1, 271], []), (4, .iload_n 1, 1, [], []), (5, .invokevirtual 126, 3, [1, 44, 2, 4, 438, 439, 440, 69, 441], []), (8, .ifCond .eq 13, 3, [], []), (11, .aload_n 0, 1, [], []), (12, .getfield 33, 3, [6, 4, 1, 271], []), (15, .getfield 130, 3, [4, 0, 0, 142], [])],
  [(18, .goto 5, 3, [], []), (21, .bipush (-3), 2, [], []), (23, .ireturn, 1, [0], [])]]
def co81 : List (List (Nat × MC)) := [[(0, .aload_n 0, 1, [], []), (1, .getfield 33, 3, [6, 4, 1, 271], []), (4, .getfield 130, 3, [4, 0, 0, 142], []), (7, .istore_n 1, 1, [], []), (8, .aload_n 0, 1, [], []), (9, .getfield 33, 3, [6, 4, 1, 271], []), (12, .iconst 0, 1, [], []), (13, .putfield 130, 3, [4, 0, 0, 142], [])],
  [(16, .iload_n 1, 1, [], []), (17, .ireturn, 1, [0], [])]]
def co82 : List (List (Nat × MC)) := [[(0, .aload_n 0, 1, [], []), (1, .getfield 26, 3, [6, 3, 1, 270], []), (4, .aload_n 0, 1, [], []), (5, .getfield 10, 3, [6, 0, 1, 267], []), (8, .invokevirtual 133, 3, [1, 4, 2, 0, 450, 451, 452, 68, 453], []), (11, .ifCond .eq 13, 3, [], []), (14, .aload_n 0, 1, [], []), (15, .getfield 26, 3, [6, 3, 1, 270], [])],
  [(18, .getfield 137, 3, [0, 0, 0, 128], []), (21, .goto 5, 3, [], []), (24, .bipush (-5), 2, [], []), (26, .ireturn, 1, [0], [])]]
def co83 : List (List (Nat × MC)) := [[(0, .aload_n 0, 1, [], []), (1, .getfield 16, 3, [6, 1, 1, 268], []), (4, .aload_n 0, 1, [], []), (5, .getfield 10, 3, [6, 0, 1, 267], []), (8, .invokevirtual 138, 3, [0, 30, 2, 3, 458, 308, 309, 67, 310], []), (11, .aload_n 0, 1, [], []), (12, .iconst 1, 1, [], []), (13, .putfield 19, 3, [6, 2, 2, 269], [])],
  [(16, .aload_n 0, 1, [], []), (17, .getfield 10, 3, [6, 0, 1, 267], []), (20, .getfield 76, 3, [3, 0, 0, 110], []), (23, .ireturn, 1, [0], [])]]
def co84 : List (List (Nat × MC)) := [[(0, .aload_n 0, 1, [], []), (1, .getfield 19, 3, [6, 2, 0, 269], []), (4, .ifCond .ne 6, 3, [], []), (7, .bipush (-5), 2, [], []), (9, .ireturn, 1, [0], []), (10, .aload_n 0, 1, [], []), (11, .getfield 26, 3, [6, 3, 1, 270], []), (14, .aload_n 0, 1, [], []), (15, .getfield 10, 3, [6, 0, 1, 267], [])],
  [(18, .invokevirtual 62, 3, [2, 2, 2, 0, 299, 300, 301, 68, 302], []), (21, .pop, 1, [], []), (22, .aload_n 0, 1, [], []), (23, .getfield 10, 3, [6, 0, 1, 267], []), (26, .aload_n 0, 1, [], []), (27, .getfield 16, 3, [6, 1, 1, 268], []), (30, .invokevirtual 138, 3, [0, 30, 2, 3, 458, 308, 309, 67, 310], [])],
  [(33, .aload_n 0, 1, [], []), (34, .getfield 10, 3, [6, 0, 1, 267], []), (37, .getfield 76, 3, [3, 0, 0, 110], []), (40, .ireturn, 1, [0], [])]]
def co85 : List (List (Nat × MC)) := [[(0, .aload_n 0, 1, [], []), (1, .getfield 10, 3, [6, 0, 1, 267], []), (4, .iload_n 1, 1, [], []), (5, .invokevirtual 83, 3, [1, 24, 2, 3, 335, 103, 104, 67, 105], []), (8, .ifCond .eq 14, 3, [], []), (11, .aload_n 0, 1, [], []), (12, .getfield 10, 3, [6, 0, 1, 267], []), (15, .iload_n 2, 1, [], [])],
  [(16, .invokevirtual 83, 3, [1, 24, 2, 3, 335, 103, 104, 67, 105], []), (19, .ifCond .ne 5, 3, [], []), (22, .iconst (-1), 1, [], []), (23, .ireturn, 1, [0], []), (24, .aload_n 0, 1, [], []), (25, .getfield 10, 3, [6, 0, 1, 267], []), (28, .iload_n 1, 1, [], []), (29, .iload_n 2, 1, [], []), (30, .invokevirtual 94, 3, [1, 25, 3, 3, 351, 344, 345, 67, 346], [])],
  [(33, .invokestatic 141, 3, [0, 1, 97, 1, 467, 468, 66, 469], []), (36, .ireturn, 1, [0], [])]]
def co86 : List (List (Nat × MC)) := [[(0, .aload_n 0, 1, [], []), (1, .getfield 10, 3, [6, 0, 1, 267], []), (4, .iload_n 1, 1, [], []), (5, .invokevirtual 83, 3, [1, 24, 2, 3, 335, 103, 104, 67, 105], []), (8, .ifCond .eq 14, 3, [], []), (11, .aload_n 0, 1, [], []), (12, .getfield 10, 3, [6, 0, 1, 267], []), (15, .iload_n 2, 1, [], [])],
  [(16, .invokevirtual 83, 3, [1, 24, 2, 3, 335, 103, 104, 67, 105], []), (19, .ifCond .ne 5, 3, [], []), (22, .iconst (-1), 1, [], []), (23, .ireturn, 1, [0], []), (24, .aload_n 0, 1, [], []), (25, .getfield 10, 3, [6, 0, 1, 267], []), (28, .iload_n 2, 1, [], []), (29, .iload_n 1, 1, [], []), (30, .invokevirtual 145, 3, [1, 38, 3, 3, 474, 475, 476, 67, 477], [])],
  [(33, .invokestatic 141, 3, [0, 1, 97, 1, 467, 468, 66, 469], []), (36, .ireturn, 1, [0], [])]]
def co87 : List (List (Nat × MC)) := [[(0, .iload_n 1, 1, [], []), (1, .ifCond .lt 8, 3, [], []), (4, .iload_n 1, 1, [], []), (5, .iconst 3, 1, [], []), (6, .if_icmp .le 6, 3, [], []), (9, .bipush (-2), 2, [], []), (11, .ireturn, 1, [0], []), (12, .aload_n 0, 1, [], []), (13, .getfield 40, 3, [6, 5, 1, 272], [])],
  [(16, .aload_n 0, 1, [], []), (17, .getfield 10, 3, [6, 0, 1, 267], []), (20, .invokevirtual 148, 3, [0, 6, 2, 1, 482, 483, 484, 70, 485], []), (23, .aload_n 0, 1, [], []), (24, .getfield 40, 3, [6, 5, 1, 272], []), (27, .getfield 151, 3, [1, 1, 0, 174], []), (30, .ifCond .ne 7, 3, [], [])],
  [(33, .iconst 1, 1, [], []), (34, .goto 4, 3, [], []), (37, .iconst 0, 1, [], []), (38, .istore_n 2, 1, [], [2]), (39, .aload_n 0, 1, [], []), (40, .getfield 40, 3, [6, 5, 1, 272], []), (43, .getfield 154, 3, [1, 0, 0, 172], []), (46, .ifCond .eq 12, 3, [], [])],
  [(49, .iload_n 1, 1, [], []), (50, .iconst 2, 1, [], []), (51, .if_icmp .lt 10, 3, [], []), (54, .iload_n 2, 1, [], []), (55, .ifCond .ne 6, 3, [], []), (58, .bipush (-5), 2, [], []), (60, .ireturn, 1, [0], []), (61, .iload_n 1, 1, [], [2]), (62, .tableswitch 50 0 2 #[26, 34, 42], 26, [], [])],
  [],
  [(88, .aload_n 0, 1, [], []), (89, .getfield 40, 3, [6, 5, 1, 272], []), (92, .getfield 151, 3, [1, 1, 0, 174], []), (95, .ireturn, 1, [0], [])],
  [(96, .aload_n 0, 1, [], []), (97, .getfield 40, 3, [6, 5, 1, 272], []), (100, .getfield 157, 3, [1, 2, 0, 176], []), (103, .ireturn, 1, [0], []), (104, .aload_n 0, 1, [], []), (105, .getfield 40, 3, [6, 5, 1, 272], []), (108, .getfield 160, 3, [1, 3, 0, 178], []), (111, .ireturn, 1, [0], [])],
  [(112, .aload_n 0, 1, [], []), (113, .getfield 40, 3, [6, 5, 1, 272], []), (116, .getfield 163, 3, [1, 4, 0, 180], []), (119, .ireturn, 1, [0], [])]]
def co88 : List (List (Nat × MC)) := [[(0, .aload_n 0, 1, [], []), (1, .getfield 10, 3, [6, 0, 1, 267], []), (4, .iload_n 1, 1, [], []), (5, .invokevirtual 83, 3, [1, 24, 2, 3, 335, 103, 104, 67, 105], []), (8, .ifCond .ne 5, 3, [], []), (11, .iconst (-1), 1, [], []), (12, .ireturn, 1, [0], []), (13, .aload_n 0, 1, [], []), (14, .getfield 47, 3, [6, 6, 1, 273], [])],
  [(17, .aload_n 0, 1, [], []), (18, .getfield 10, 3, [6, 0, 1, 267], []), (21, .invokevirtual 166, 3, [0, 11, 2, 2, 503, 504, 505, 71, 506], []), (24, .iload_n 2, 1, [], []), (25, .tableswitch 138 0 7 #[47, 59, 69, 79, 96, 113, 123, 132], 47, [], [])],
  [],
  [],
  [(72, .aload_n 0, 1, [], []), (73, .getfield 10, 3, [6, 0, 1, 267], []), (76, .iload_n 1, 1, [], []), (77, .invokevirtual 169, 3, [1, 39, 2, 3, 519, 508, 509, 67, 510], [])],
  [(80, .invokestatic 141, 3, [0, 1, 97, 1, 467, 468, 66, 469], []), (83, .ireturn, 1, [0], []), (84, .aload_n 0, 1, [], []), (85, .getfield 47, 3, [6, 6, 1, 273], []), (88, .getfield 172, 3, [2, 0, 1, 199], []), (91, .iload_n 1, 1, [], []), (92, .iaload, 1, [], []), (93, .ireturn, 1, [0], []), (94, .aload_n 0, 1, [], []), (95, .getfield 47, 3, [6, 6, 1, 273], [])],
  [(98, .getfield 175, 3, [2, 1, 1, 201], []), (101, .iload_n 1, 1, [], []), (102, .iaload, 1, [], []), (103, .ireturn, 1, [0], []), (104, .aload_n 0, 1, [], []), (105, .getfield 47, 3, [6, 6, 1, 273], []), (108, .iload_n 1, 1, [], []), (109, .invokevirtual 178, 3, [1, 13, 2, 2, 520, 521, 522, 71, 523], [])],
  [(112, .ifCond .eq 7, 3, [], []), (115, .iconst 1, 1, [], []), (116, .goto 4, 3, [], []), (119, .iconst 0, 1, [], []), (120, .ireturn, 1, [0], []), (121, .aload_n 0, 1, [], []), (122, .getfield 47, 3, [6, 6, 1, 273], []), (125, .iload_n 1, 1, [], []), (126, .invokevirtual 181, 3, [1, 15, 2, 2, 528, 529, 530, 71, 531], [])],
  [(129, .ifCond .eq 7, 3, [], []), (132, .iconst 1, 1, [], []), (133, .goto 4, 3, [], []), (136, .iconst 0, 1, [], []), (137, .ireturn, 1, [0], []), (138, .aload_n 0, 1, [], []), (139, .getfield 47, 3, [6, 6, 1, 273], []), (142, .getfield 184, 3, [2, 2, 1, 203], [])],
  [(145, .iload_n 1, 1, [], []), (146, .iaload, 1, [], []), (147, .ireturn, 1, [0], []), (148, .aload_n 0, 1, [], []), (149, .getfield 10, 3, [6, 0, 1, 267], []), (152, .iload_n 1, 1, [], []), (153, .invokevirtual 187, 3, [1, 40, 2, 3, 532, 533, 534, 67, 535], []), (156, .ireturn, 1, [0], []), (157, .aload_n 0, 1, [], []), (158, .iload_n 1, 1, [], []), (159, .invokevirtual 190, 3, [1, 100, 2, 6, 536, 538, 9, 66, 539], [])],
  [(162, .ireturn, 1, [0], []), (163, .bipush (-2), 2, [], []), (165, .ireturn, 1, [0], [])]]
def co89 : List (List (Nat × MC)) := [[(0, .iload_n 1, 1, [], []), (1, .aload_n 0, 1, [], []), (2, .getfield 10, 3, [6, 0, 1, 267], []), (5, .getfield 76, 3, [3, 0, 0, 110], []), (8, .iushr, 1, [], []), (9, .ifCond .eq 5, 3, [], []), (12, .iconst (-1), 1, [], []), (13, .ireturn, 1, [0], []), (14, .iconst 0, 1, [], []), (15, .istore_n 2, 1, [], [])],
  [(16, .iconst 0, 1, [], []), (17, .istore_n 3, 1, [], []), (18, .iload_n 3, 1, [], []), (19, .aload_n 0, 1, [], []), (20, .getfield 10, 3, [6, 0, 1, 267], []), (23, .getfield 76, 3, [3, 0, 0, 110], []), (26, .if_icmp .ge 34, 3, [], []), (29, .iload_n 2, 1, [], []), (30, .bipush 12, 2, [], [])],
  [(32, .if_icmp .eq 28, 3, [], []), (35, .iload_n 1, 1, [], []), (36, .iload_n 3, 1, [], []), (37, .invokestatic 193, 3, [0, 1, 95, 1, 544, 432, 66, 433], []), (40, .iand, 1, [], []), (41, .ifCond .eq 13, 3, [], []), (44, .aload_n 0, 1, [], []), (45, .getfield 10, 3, [6, 0, 1, 267], [])],
  [(48, .iload_n 2, 1, [], []), (49, .iload_n 3, 1, [], []), (50, .invokevirtual 94, 3, [1, 25, 3, 3, 351, 344, 345, 67, 346], []), (53, .istore_n 2, 1, [], []), (54, .iinc 3 1, 3, [], []), (57, .goto (-39), 3, [], []), (60, .iload_n 2, 1, [], []), (61, .invokestatic 141, 3, [0, 1, 97, 1, 467, 468, 66, 469], [])],
  [(64, .ireturn, 1, [0], [])]]
def co90 : List (List (Nat × MC)) := [[(0, .iload_n 1, 1, [], []), (1, .ifCond .lt 12, 3, [], []), (4, .iload_n 2, 1, [], []), (5, .ifCond .lt 8, 3, [], []), (8, .iload_n 2, 1, [], []), (9, .iconst 1, 1, [], []), (10, .if_icmp .le 6, 3, [], []), (13, .bipush (-2), 2, [], []), (15, .ireturn, 1, [0], [])],
  [(16, .aload_n 0, 1, [], []), (17, .getfield 47, 3, [6, 6, 1, 273], []), (20, .aload_n 0, 1, [], []), (21, .getfield 10, 3, [6, 0, 1, 267], []), (24, .invokevirtual 166, 3, [0, 11, 2, 2, 503, 504, 505, 71, 506], []), (27, .aload_n 0, 1, [], []), (28, .getfield 47, 3, [6, 6, 1, 273], []), (31, .iload_n 1, 1, [], [])],
  [(32, .invokevirtual 196, 3, [1, 21, 2, 2, 549, 550, 551, 71, 552], []), (35, .istore_n 3, 1, [], []), (36, .iload_n 3, 1, [], []), (37, .ifCond .ne 6, 3, [], []), (40, .bipush (-5), 2, [], []), (42, .ireturn, 1, [0], []), (43, .iload_n 2, 1, [], []), (44, .ifCond .ne 7, 3, [], []), (47, .iload_n 3, 1, [], [])],
  [(48, .goto 11, 3, [], []), (51, .aload_n 0, 1, [], []), (52, .getfield 47, 3, [6, 6, 1, 273], []), (55, .iload_n 3, 1, [], []), (56, .invokevirtual 199, 3, [1, 17, 2, 2, 557, 558, 559, 71, 560], []), (59, .ireturn, 1, [0], [])]]
def co91 : List (List (Nat × MC)) := [[(0, .iload_n 1, 1, [], []), (1, .invokestatic 202, 3, [0, 1, 98, 1, 565, 566, 66, 567], []), (4, .ifCond .ne 6, 3, [], []), (7, .bipush (-2), 2, [], []), (9, .ireturn, 1, [0], []), (10, .aload_n 0, 1, [], []), (11, .getfield 54, 3, [6, 7, 1, 274], []), (14, .aload_n 0, 1, [], []), (15, .getfield 10, 3, [6, 0, 1, 267], [])],
  [(18, .iload_n 1, 1, [], []), (19, .invokevirtual 205, 3, [0, 54, 3, 5, 568, 569, 570, 72, 571], []), (22, .aload_n 0, 1, [], []), (23, .getfield 54, 3, [6, 7, 1, 274], []), (26, .getfield 208, 3, [5, 0, 0, 224], []), (29, .ireturn, 1, [0], [])]]
def co92 : List (List (Nat × MC)) := [[(0, .aload_n 0, 1, [], []), (1, .iload_n 1, 1, [], []), (2, .iload_n 2, 1, [], []), (3, .invokevirtual 211, 3, [1, 99, 3, 6, 642, 644, 26, 66, 645], []), (6, .istore_n 3, 1, [], []), (7, .iload_n 3, 1, [], []), (8, .ifCond .ge 7, 3, [], []), (11, .iload_n 3, 1, [], []), (12, .goto 12, 3, [], []), (15, .aload_n 0, 1, [], [])],
  [(16, .getfield 54, 3, [6, 7, 1, 274], []), (19, .getfield 214, 3, [5, 1, 1, 226], []), (22, .iload_n 2, 1, [], []), (23, .iaload, 1, [], []), (24, .ireturn, 1, [0], [])]]
def co93 : List (List (Nat × MC)) := [[(0, .aload_n 0, 1, [], []), (1, .iload_n 1, 1, [], []), (2, .iload_n 2, 1, [], []), (3, .invokevirtual 211, 3, [1, 99, 3, 6, 642, 644, 26, 66, 645], []), (6, .istore 4, 2, [], []), (8, .iload 4, 2, [], []), (10, .ifCond .ge 6, 3, [], []), (13, .iload 4, 2, [], []), (15, .ireturn, 1, [0], [])],
  [(16, .iload_n 3, 1, [], []), (17, .ifCond .eq 15, 3, [], []), (20, .aload_n 0, 1, [], []), (21, .getfield 54, 3, [6, 7, 1, 274], []), (24, .getfield 217, 3, [5, 3, 1, 230], []), (27, .iload_n 2, 1, [], []), (28, .iaload, 1, [], []), (29, .goto 12, 3, [], [])],
  [(32, .aload_n 0, 1, [], []), (33, .getfield 54, 3, [6, 7, 1, 274], []), (36, .getfield 220, 3, [5, 2, 1, 228], []), (39, .iload_n 2, 1, [], []), (40, .iaload, 1, [], []), (41, .ireturn, 1, [0], [])]]
def co94 : List (List (Nat × MC)) := [[(0, .iload_n 1, 1, [], []), (1, .tableswitch 209 0 9 #[55, 63, 71, 98, 117, 136, 155, 174, 193, 201], 55, [], [])],
  [],
  [],
  [(56, .aload_n 0, 1, [], []), (57, .getfield 10, 3, [6, 0, 1, 267], []), (60, .getfield 76, 3, [3, 0, 0, 110], []), (63, .ireturn, 1, [0], [])],
  [(64, .aload_n 0, 1, [], []), (65, .getfield 10, 3, [6, 0, 1, 267], []), (68, .invokevirtual 117, 3, [1, 41, 1, 3, 397, 398, 399, 67, 400], []), (71, .ireturn, 1, [0], []), (72, .aload_n 0, 1, [], []), (73, .getfield 40, 3, [6, 5, 1, 272], []), (76, .aload_n 0, 1, [], []), (77, .getfield 10, 3, [6, 0, 1, 267], [])],
  [(80, .invokevirtual 148, 3, [0, 6, 2, 1, 482, 483, 484, 70, 485], []), (83, .aload_n 0, 1, [], []), (84, .getfield 40, 3, [6, 5, 1, 272], []), (87, .getfield 154, 3, [1, 0, 0, 172], []), (90, .ifCond .ne 7, 3, [], []), (93, .iconst 1, 1, [], []), (94, .goto 4, 3, [], [])],
  [(97, .iconst 0, 1, [], []), (98, .ireturn, 1, [0], []), (99, .aload_n 0, 1, [], []), (100, .getfield 47, 3, [6, 6, 1, 273], []), (103, .aload_n 0, 1, [], []), (104, .getfield 10, 3, [6, 0, 1, 267], []), (107, .invokevirtual 166, 3, [0, 11, 2, 2, 503, 504, 505, 71, 506], []), (110, .aload_n 0, 1, [], []), (111, .getfield 47, 3, [6, 6, 1, 273], [])],
  [(114, .invokevirtual 223, 3, [1, 20, 1, 2, 654, 655, 656, 71, 657], []), (117, .ireturn, 1, [0], []), (118, .aload_n 0, 1, [], []), (119, .getfield 47, 3, [6, 6, 1, 273], []), (122, .aload_n 0, 1, [], []), (123, .getfield 10, 3, [6, 0, 1, 267], []), (126, .invokevirtual 166, 3, [0, 11, 2, 2, 503, 504, 505, 71, 506], [])],
  [(129, .aload_n 0, 1, [], []), (130, .getfield 47, 3, [6, 6, 1, 273], []), (133, .invokevirtual 226, 3, [1, 16, 1, 2, 658, 659, 660, 71, 661], []), (136, .ireturn, 1, [0], []), (137, .aload_n 0, 1, [], []), (138, .getfield 47, 3, [6, 6, 1, 273], []), (141, .aload_n 0, 1, [], []), (142, .getfield 10, 3, [6, 0, 1, 267], [])],
  [(145, .invokevirtual 166, 3, [0, 11, 2, 2, 503, 504, 505, 71, 506], []), (148, .aload_n 0, 1, [], []), (149, .getfield 47, 3, [6, 6, 1, 273], []), (152, .invokevirtual 229, 3, [1, 18, 1, 2, 663, 664, 665, 71, 666], []), (155, .ireturn, 1, [0], []), (156, .aload_n 0, 1, [], []), (157, .getfield 47, 3, [6, 6, 1, 273], [])],
  [(160, .aload_n 0, 1, [], []), (161, .getfield 10, 3, [6, 0, 1, 267], []), (164, .invokevirtual 166, 3, [0, 11, 2, 2, 503, 504, 505, 71, 506], []), (167, .aload_n 0, 1, [], []), (168, .getfield 47, 3, [6, 6, 1, 273], []), (171, .invokevirtual 232, 3, [1, 19, 1, 2, 668, 669, 670, 71, 671], []), (174, .ireturn, 1, [0], []), (175, .aload_n 0, 1, [], [])],
  [(176, .getfield 40, 3, [6, 5, 1, 272], []), (179, .aload_n 0, 1, [], []), (180, .getfield 10, 3, [6, 0, 1, 267], []), (183, .invokevirtual 148, 3, [0, 6, 2, 1, 482, 483, 484, 70, 485], []), (186, .aload_n 0, 1, [], []), (187, .getfield 40, 3, [6, 5, 1, 272], []), (190, .getfield 154, 3, [1, 0, 0, 172], [])],
  [(193, .ireturn, 1, [0], []), (194, .aload_n 0, 1, [], []), (195, .getfield 26, 3, [6, 3, 1, 270], []), (198, .getfield 137, 3, [0, 0, 0, 128], []), (201, .ireturn, 1, [0], []), (202, .aload_n 0, 1, [], []), (203, .getfield 33, 3, [6, 4, 1, 271], []), (206, .getfield 130, 3, [4, 0, 0, 142], [])],
  [(209, .ireturn, 1, [0], []), (210, .bipush (-2), 2, [], []), (212, .ireturn, 1, [0], [])]]
def co95 : List (List (Nat × MC)) := [[(0, .iconst 1, 1, [], []), (1, .iload_n 0, 1, [], []), (2, .ishl, 1, [], []), (3, .ireturn, 1, [0], [])]]
def co96 : List (List (Nat × MC)) := [[(0, .iload_n 0, 1, [], []), (1, .ifCond .eq 8, 3, [], []), (4, .iload_n 0, 1, [], []), (5, .iconst 1, 1, [], []), (6, .if_icmp .ne 7, 3, [], []), (9, .iconst 1, 1, [], []), (10, .goto 4, 3, [], []), (13, .iconst 0, 1, [], []), (14, .ireturn, 1, [1], [])]]
def co97 : List (List (Nat × MC)) := [[(0, .iload_n 0, 1, [], []), (1, .bipush 12, 2, [], []), (3, .if_icmp .ne 8, 3, [], []), (6, .bipush (-5), 2, [], []), (8, .goto 4, 3, [], []), (11, .iload_n 0, 1, [], []), (12, .ireturn, 1, [0], [])]]
def co98 : List (List (Nat × MC)) := [[(0, .iload_n 0, 1, [], []), (1, .iconst 1, 1, [], []), (2, .if_icmp .lt 13, 3, [], []), (5, .iload_n 0, 1, [], []), (6, .bipush 6, 2, [], []), (8, .if_icmp .gt 7, 3, [], []), (11, .iconst 1, 1, [], []), (12, .goto 4, 3, [], []), (15, .iconst 0, 1, [], [])],
  [(16, .ireturn, 1, [1], [])]]
def co99 : List (List (Nat × MC)) := [[(0, .iload_n 1, 1, [], []), (1, .invokestatic 202, 3, [0, 1, 98, 1, 565, 566, 66, 567], []), (4, .ifCond .ne 6, 3, [], []), (7, .bipush (-2), 2, [], []), (9, .ireturn, 1, [0], []), (10, .aload_n 0, 1, [], []), (11, .getfield 10, 3, [6, 0, 1, 267], []), (14, .iload_n 2, 1, [], []), (15, .invokevirtual 83, 3, [1, 24, 2, 3, 335, 103, 104, 67, 105], [])],
  [(18, .ifCond .ne 5, 3, [], []), (21, .iconst (-1), 1, [], []), (22, .ireturn, 1, [0], []), (23, .aload_n 0, 1, [], []), (24, .getfield 54, 3, [6, 7, 1, 274], []), (27, .aload_n 0, 1, [], []), (28, .getfield 10, 3, [6, 0, 1, 267], []), (31, .iload_n 1, 1, [], [])],
  [(32, .invokevirtual 205, 3, [0, 54, 3, 5, 568, 569, 570, 72, 571], []), (35, .aload_n 0, 1, [], []), (36, .getfield 54, 3, [6, 7, 1, 274], []), (39, .getfield 208, 3, [5, 0, 0, 224], []), (42, .ifCond .ne 8, 3, [], []), (45, .bipush (-5), 2, [], []), (47, .goto 4, 3, [], [])],
  [(50, .iconst 0, 1, [], []), (51, .ireturn, 1, [0], [])]]
def co100 : List (List (Nat × MC)) := [[(0, .iload_n 1, 1, [], []), (1, .istore_n 2, 1, [], []), (2, .iconst 1, 1, [], []), (3, .istore_n 3, 1, [], []), (4, .iload_n 3, 1, [], []), (5, .bipush 20, 2, [], []), (7, .if_icmp .ge 27, 3, [], []), (10, .aload_n 0, 1, [], []), (11, .getfield 10, 3, [6, 0, 1, 267], []), (14, .iload_n 2, 1, [], []), (15, .iload_n 1, 1, [], [])],
  [(16, .invokevirtual 94, 3, [1, 25, 3, 3, 351, 344, 345, 67, 346], []), (19, .istore_n 2, 1, [], []), (20, .iload_n 2, 1, [], []), (21, .bipush 12, 2, [], []), (23, .if_icmp .ne 5, 3, [], []), (26, .iload_n 3, 1, [], []), (27, .ireturn, 1, [0], []), (28, .iinc 3 1, 3, [], []), (31, .goto (-27), 3, [], [])],
  [(34, .bipush 20, 2, [], []), (36, .ireturn, 1, [0], [])]]
def co101 : List (List (Nat × MC)) := [[(0, .aload_n 0, 1, [], []), (1, .invokespecial 1, 3, [0, 677, 82, 83], []), (4, .aload_n 0, 1, [], []), (5, .iconst 2, 1, [], []), (6, .putfield 7, 3, [7, 0, 0, 678], []), (9, .aload_n 0, 1, [], []), (10, .sipush 144, 3, [], []), (13, .newarray .int, 2, [117], []), (15, .putfield 13, 3, [7, 1, 1, 679], [])],
  [(18, .aload_n 0, 1, [], []), (19, .sipush 144, 3, [], []), (22, .newarray .int, 2, [117], []), (24, .putfield 17, 3, [7, 2, 1, 680], []), (27, .aload_n 0, 1, [], []), (28, .sipush 580, 3, [], []), (31, .newarray .int, 2, [117], [])],
  [(33, .putfield 20, 3, [7, 3, 1, 681], []), (36, .aload_n 0, 1, [], []), (37, .sipush 145, 3, [], []), (40, .newarray .int, 2, [117], []), (42, .putfield 23, 3, [7, 5, 1, 683], []), (45, .aload_n 0, 1, [], []), (46, .bipush 60, 2, [], [])],
  [(48, .newarray .int, 2, [117], []), (50, .putfield 26, 3, [7, 7, 1, 685], []), (53, .aload_n 0, 1, [], []), (54, .bipush 66, 2, [], []), (56, .newarray .int, 2, [117], []), (58, .putfield 29, 3, [7, 10, 1, 688], []), (61, .aload_n 0, 1, [], []), (62, .sipush 156, 3, [], [])],
  [(65, .newarray .int, 2, [117], []), (67, .putfield 32, 3, [7, 13, 1, 691], []), (70, .aload_n 0, 1, [], []), (71, .sipush 156, 3, [], []), (74, .newarray .int, 2, [117], []), (76, .putfield 35, 3, [7, 14, 1, 692], []), (79, .aload_n 0, 1, [], [])],
  [(80, .bipush 13, 2, [], []), (82, .newarray .int, 2, [117], []), (84, .putfield 38, 3, [7, 15, 1, 693], []), (87, .aload_n 0, 1, [], []), (88, .bipush 12, 2, [], []), (90, .newarray .int, 2, [117], []), (92, .putfield 41, 3, [7, 16, 1, 694], []), (95, .iconst 0, 1, [], [])],
  [(96, .istore_n 1, 1, [], []), (97, .iload_n 1, 1, [], []), (98, .sipush 144, 3, [], []), (101, .if_icmp .ge 16, 3, [], []), (104, .aload_n 0, 1, [], []), (105, .getfield 13, 3, [7, 1, 1, 679], []), (108, .iload_n 1, 1, [], []), (109, .iconst (-1), 1, [], []), (110, .iastore, 1, [], []), (111, .iinc 1 1, 3, [], [])],
  [(114, .goto (-17), 3, [], []), (117, .return_, 1, [], [])]]
def co102 : List (List (Nat × MC)) := [[(0, .iload_n 0, 1, [], []), (1, .iload_n 1, 1, [], []), (2, .if_icmp .lt 12, 3, [], []), (5, .iload_n 0, 1, [], []), (6, .iload_n 2, 1, [], []), (7, .if_icmp .gt 7, 3, [], []), (10, .iconst 1, 1, [], []), (11, .goto 4, 3, [], []), (14, .iconst 0, 1, [], []), (15, .ireturn, 1, [1], [])]]
def co103 : List (List (Nat × MC)) := [[(0, .iload_n 1, 1, [], []), (1, .iconst 0, 1, [], []), (2, .aload_n 0, 1, [], []), (3, .getfield 7, 3, [7, 0, 0, 678], []), (6, .iconst 1, 1, [], []), (7, .isub, 1, [], []), (8, .invokestatic 44, 3, [0, 1, 102, 3, 758, 759, 73, 760], []), (11, .ireturn, 1, [1], [])]]
def co104 : List (List (Nat × MC)) := [[(0, .iload_n 1, 1, [], []), (1, .ifCond .ne 7, 3, [], []), (4, .iload_n 2, 1, [], []), (5, .goto 22, 3, [], []), (8, .iload_n 2, 1, [], []), (9, .ifCond .ne 7, 3, [], []), (12, .iload_n 1, 1, [], []), (13, .goto 14, 3, [], [])],
  [(16, .aload_n 0, 1, [], []), (17, .getfield 13, 3, [7, 1, 1, 679], []), (20, .bipush 12, 2, [], []), (22, .iload_n 1, 1, [], []), (23, .imul, 1, [], []), (24, .iload_n 2, 1, [], []), (25, .iadd, 1, [], []), (26, .iaload, 1, [], []), (27, .ireturn, 1, [0], [])]]
def co105 : List (List (Nat × MC)) := [[(0, .aload_n 0, 1, [], []), (1, .getfield 13, 3, [7, 1, 1, 679], []), (4, .bipush 12, 2, [], []), (6, .iload_n 1, 1, [], []), (7, .imul, 1, [], []), (8, .iload_n 2, 1, [], []), (9, .iadd, 1, [], []), (10, .iload_n 3, 1, [], []), (11, .iastore, 1, [], []), (12, .aload_n 0, 1, [], []), (13, .getfield 13, 3, [7, 1, 1, 679], [])],
  [(16, .bipush 12, 2, [], []), (18, .iload_n 2, 1, [], []), (19, .imul, 1, [], []), (20, .iload_n 1, 1, [], []), (21, .iadd, 1, [], []), (22, .iload_n 3, 1, [], []), (23, .iastore, 1, [], []), (24, .return_, 1, [], [])]]
def co106 : List (List (Nat × MC)) := [[(0, .aload_n 1, 1, [], []), (1, .iload_n 2, 1, [], []), (2, .aload_n 0, 1, [], []), (3, .getfield 7, 3, [7, 0, 0, 678], []), (6, .iastore, 1, [], []), (7, .iconst 0, 1, [], []), (8, .istore_n 3, 1, [], []), (9, .iload_n 3, 1, [], []), (10, .sipush 144, 3, [], []), (13, .if_icmp .ge 22, 3, [], [])],
  [(16, .aload_n 1, 1, [], []), (17, .iload_n 2, 1, [], []), (18, .iconst 1, 1, [], []), (19, .iadd, 1, [], []), (20, .iload_n 3, 1, [], []), (21, .iadd, 1, [], []), (22, .aload_n 0, 1, [], []), (23, .getfield 13, 3, [7, 1, 1, 679], []), (26, .iload_n 3, 1, [], []), (27, .iaload, 1, [], []), (28, .iastore, 1, [], []), (29, .iinc 3 1, 3, [], [])],
  [(32, .goto (-23), 3, [], []), (35, .return_, 1, [], [])]]
def co107 : List (List (Nat × MC)) := [[(0, .aload_n 0, 1, [], []), (1, .aload_n 1, 1, [], []), (2, .iload_n 2, 1, [], []), (3, .iaload, 1, [], []), (4, .putfield 7, 3, [7, 0, 0, 678], []), (7, .iconst 0, 1, [], []), (8, .istore_n 3, 1, [], []), (9, .iload_n 3, 1, [], []), (10, .sipush 144, 3, [], []), (13, .if_icmp .ge 22, 3, [], [])],
  [(16, .aload_n 0, 1, [], []), (17, .getfield 13, 3, [7, 1, 1, 679], []), (20, .iload_n 3, 1, [], []), (21, .aload_n 1, 1, [], []), (22, .iload_n 2, 1, [], []), (23, .iconst 1, 1, [], []), (24, .iadd, 1, [], []), (25, .iload_n 3, 1, [], []), (26, .iadd, 1, [], []), (27, .iaload, 1, [], []), (28, .iastore, 1, [], []), (29, .iinc 3 1, 3, [], [])],
  [(32, .goto (-23), 3, [], []), (35, .return_, 1, [], [])]]
def co108 : List (List (Nat × MC)) := [[(0, .aload_n 0, 1, [], []), (1, .getfield 48, 3, [7, 4, 0, 682], []), (4, .iconst 4, 1, [], []), (5, .if_icmp .ne 44, 3, [], []), (8, .iconst 0, 1, [], []), (9, .istore_n 1, 1, [], []), (10, .iload_n 1, 1, [], []), (11, .sipush 435, 3, [], []), (14, .if_icmp .ge 25, 3, [], [])],
  [(17, .aload_n 0, 1, [], []), (18, .getfield 20, 3, [7, 3, 1, 681], []), (21, .iload_n 1, 1, [], []), (22, .aload_n 0, 1, [], []), (23, .getfield 20, 3, [7, 3, 1, 681], []), (26, .iload_n 1, 1, [], []), (27, .sipush 145, 3, [], []), (30, .iadd, 1, [], []), (31, .iaload, 1, [], [])],
  [(32, .iastore, 1, [], []), (33, .iinc 1 1, 3, [], []), (36, .goto (-26), 3, [], []), (39, .aload_n 0, 1, [], []), (40, .dup, 1, [], []), (41, .getfield 48, 3, [7, 4, 0, 682], []), (44, .iconst 1, 1, [], []), (45, .isub, 1, [], []), (46, .putfield 48, 3, [7, 4, 0, 682], [])],
  [(49, .aload_n 0, 1, [], [1]), (50, .aload_n 0, 1, [], []), (51, .getfield 20, 3, [7, 3, 1, 681], []), (54, .sipush 145, 3, [], []), (57, .aload_n 0, 1, [], []), (58, .getfield 48, 3, [7, 4, 0, 682], []), (61, .imul, 1, [], []), (62, .invokevirtual 51, 3, [0, 106, 3, 7, 742, 744, 28, 73, 745], [])],
  [(65, .aload_n 0, 1, [], []), (66, .dup, 1, [], []), (67, .getfield 48, 3, [7, 4, 0, 682], []), (70, .iconst 1, 1, [], []), (71, .iadd, 1, [], []), (72, .putfield 48, 3, [7, 4, 0, 682], []), (75, .return_, 1, [], [])]]
def co109 : List (List (Nat × MC)) := [[(0, .aload_n 0, 1, [], []), (1, .getfield 48, 3, [7, 4, 0, 682], []), (4, .ifCond .ne 6, 3, [], []), (7, .bipush (-5), 2, [], []), (9, .ireturn, 1, [0], []), (10, .aload_n 0, 1, [], []), (11, .dup, 1, [], []), (12, .getfield 48, 3, [7, 4, 0, 682], []), (15, .iconst 1, 1, [], [])],
  [(16, .isub, 1, [], []), (17, .putfield 48, 3, [7, 4, 0, 682], []), (20, .aload_n 0, 1, [], []), (21, .aload_n 0, 1, [], []), (22, .getfield 20, 3, [7, 3, 1, 681], []), (25, .sipush 145, 3, [], []), (28, .aload_n 0, 1, [], []), (29, .getfield 48, 3, [7, 4, 0, 682], [])],
  [(32, .imul, 1, [], []), (33, .invokevirtual 55, 3, [0, 107, 3, 7, 734, 736, 27, 73, 737], []), (36, .aload_n 0, 1, [], []), (37, .getfield 48, 3, [7, 4, 0, 682], []), (40, .ireturn, 1, [0], [])]]
def co110 : List (List (Nat × MC)) := [[(0, .aload_n 0, 1, [], []), (1, .aload_n 0, 1, [], []), (2, .getfield 23, 3, [7, 5, 1, 683], []), (5, .iconst 0, 1, [], []), (6, .invokevirtual 51, 3, [0, 106, 3, 7, 742, 744, 28, 73, 745], []), (9, .aload_n 0, 1, [], []), (10, .iconst 1, 1, [], []), (11, .putfield 58, 3, [7, 6, 2, 684], []), (14, .aload_n 0, 1, [], []), (15, .getfield 7, 3, [7, 0, 0, 678], [])],
  [(18, .ireturn, 1, [0], [])]]
def co111 : List (List (Nat × MC)) := [[(0, .aload_n 0, 1, [], []), (1, .getfield 58, 3, [7, 6, 0, 684], []), (4, .ifCond .ne 6, 3, [], []), (7, .bipush (-5), 2, [], []), (9, .ireturn, 1, [0], []), (10, .aload_n 0, 1, [], []), (11, .invokevirtual 62, 3, [0, 108, 1, 7, 750, 752, 29, 73, 753], []), (14, .aload_n 0, 1, [], []), (15, .aload_n 0, 1, [], [])],
  [(16, .getfield 23, 3, [7, 5, 1, 683], []), (19, .iconst 0, 1, [], []), (20, .invokevirtual 55, 3, [0, 107, 3, 7, 734, 736, 27, 73, 737], []), (23, .aload_n 0, 1, [], []), (24, .getfield 7, 3, [7, 0, 0, 678], []), (27, .ireturn, 1, [0], [])]]
def co112 : List (List (Nat × MC)) := [[(0, .aload_n 0, 1, [], []), (1, .iload_n 1, 1, [], []), (2, .putfield 7, 3, [7, 0, 0, 678], []), (5, .iconst 0, 1, [], []), (6, .istore_n 2, 1, [], []), (7, .iload_n 2, 1, [], [1]), (8, .sipush 144, 3, [], []), (11, .if_icmp .ge 16, 3, [], []), (14, .aload_n 0, 1, [], []), (15, .getfield 13, 3, [7, 1, 1, 679], [])],
  [(18, .iload_n 2, 1, [], []), (19, .iconst (-1), 1, [], []), (20, .iastore, 1, [], []), (21, .iinc 2 1, 3, [], []), (24, .goto (-17), 3, [], []), (27, .return_, 1, [], [])]]
def co113 : List (List (Nat × MC)) := [[(0, .iload_n 0, 1, [], []), (1, .ifCond .ne 7, 3, [], []), (4, .iconst 0, 1, [], []), (5, .goto 17, 3, [], []), (8, .iload_n 0, 1, [], []), (9, .iload_n 1, 1, [], []), (10, .if_icmp .ne 7, 3, [], []), (13, .iconst 1, 1, [], []), (14, .goto 8, 3, [], [])],
  [(17, .iload_n 2, 1, [], []), (18, .iload_n 0, 1, [], []), (19, .iadd, 1, [], []), (20, .iconst 1, 1, [], []), (21, .isub, 1, [], []), (22, .ireturn, 1, [0], [])]]
def co114 : List (List (Nat × MC)) := [[(0, .iconst 1, 1, [], []), (1, .istore_n 3, 1, [], []), (2, .iload_n 3, 1, [], [4]), (3, .iload_n 1, 1, [], []), (4, .if_icmp .ge 58, 3, [], []), (7, .iconst 1, 1, [], []), (8, .istore 4, 2, [], []), (10, .iload_n 3, 1, [], []), (11, .iload 4, 2, [], []), (13, .iadd, 1, [], []), (14, .iload_n 1, 1, [], []), (15, .if_icmp .gt 41, 3, [], [])],
  [(18, .iload 4, 2, [], []), (20, .iload_n 1, 1, [], []), (21, .if_icmp .ge 29, 3, [], []), (24, .aload_n 0, 1, [], []), (25, .iload_n 3, 1, [], []), (26, .iload_n 1, 1, [], []), (27, .iload_n 2, 1, [], []), (28, .invokestatic 65, 3, [0, 1, 113, 3, 769, 770, 73, 771], []), (31, .iload 4, 2, [], [])],
  [(33, .iload_n 1, 1, [], []), (34, .iload_n 2, 1, [], []), (35, .invokestatic 65, 3, [0, 1, 113, 3, 769, 770, 73, 771], []), (38, .iload_n 3, 1, [], []), (39, .iload 4, 2, [], []), (41, .iadd, 1, [], []), (42, .iload_n 1, 1, [], []), (43, .iload_n 2, 1, [], []), (44, .invokestatic 65, 3, [0, 1, 113, 3, 769, 770, 73, 771], []), (47, .invokevirtual 69, 3, [0, 105, 4, 7, 772, 774, 32, 73, 775], [])],
  [(50, .iinc 4 1, 3, [], []), (53, .goto (-43), 3, [], []), (56, .iinc 3 1, 3, [], []), (59, .goto (-57), 3, [], []), (62, .return_, 1, [], [])]]
def co115 : List (List (Nat × MC)) := [[(0, .iload_n 0, 1, [], []), (1, .ifCond .ne 7, 3, [], []), (4, .iconst 0, 1, [], []), (5, .goto 15, 3, [], []), (8, .iload_n 0, 1, [], []), (9, .iconst 1, 1, [], []), (10, .if_icmp .ne 7, 3, [], []), (13, .iload_n 1, 1, [], []), (14, .goto 6, 3, [], [])],
  [(17, .iload_n 0, 1, [], []), (18, .iconst 1, 1, [], []), (19, .isub, 1, [], []), (20, .ireturn, 1, [0], [])]]
def co116 : List (List (Nat × MC)) := [[(0, .iload_n 0, 1, [], []), (1, .ifCond .ne 7, 3, [], []), (4, .iconst 0, 1, [], []), (5, .goto 15, 3, [], []), (8, .iload_n 0, 1, [], []), (9, .iload_n 1, 1, [], []), (10, .if_icmp .ne 7, 3, [], []), (13, .iconst 1, 1, [], []), (14, .goto 6, 3, [], [])],
  [(17, .iload_n 0, 1, [], []), (18, .iconst 1, 1, [], []), (19, .iadd, 1, [], []), (20, .ireturn, 1, [0], [])]]
def co117 : List (List (Nat × MC)) := [[(0, .iconst 1, 1, [], []), (1, .istore_n 2, 1, [], []), (2, .iload_n 2, 1, [], [3]), (3, .aload_n 0, 1, [], []), (4, .getfield 7, 3, [7, 0, 0, 678], []), (7, .if_icmp .ge 60, 3, [], []), (10, .iconst 1, 1, [], []), (11, .istore_n 3, 1, [], []), (12, .iload_n 3, 1, [], []), (13, .aload_n 0, 1, [], []), (14, .getfield 7, 3, [7, 0, 0, 678], [])],
  [(17, .if_icmp .ge 44, 3, [], []), (20, .iload_n 2, 1, [], []), (21, .iload_n 1, 1, [], []), (22, .invokestatic 73, 3, [0, 1, 115, 2, 780, 781, 73, 782], []), (25, .iload_n 3, 1, [], []), (26, .iload_n 1, 1, [], []), (27, .invokestatic 73, 3, [0, 1, 115, 2, 780, 781, 73, 782], []), (30, .iand, 1, [], []), (31, .ifCond .ne 24, 3, [], [])],
  [(34, .aload_n 0, 1, [], []), (35, .iload_n 2, 1, [], []), (36, .iload_n 3, 1, [], []), (37, .iload_n 2, 1, [], []), (38, .iload_n 1, 1, [], []), (39, .invokestatic 73, 3, [0, 1, 115, 2, 780, 781, 73, 782], []), (42, .iload_n 3, 1, [], []), (43, .iload_n 1, 1, [], []), (44, .invokestatic 73, 3, [0, 1, 115, 2, 780, 781, 73, 782], []), (47, .ior, 1, [], [])],
  [(48, .iload_n 1, 1, [], []), (49, .invokestatic 77, 3, [0, 1, 116, 2, 783, 784, 73, 785], []), (52, .invokevirtual 69, 3, [0, 105, 4, 7, 772, 774, 32, 73, 775], []), (55, .iinc 3 1, 3, [], []), (58, .goto (-46), 3, [], []), (61, .iinc 2 1, 3, [], [])],
  [(64, .goto (-62), 3, [], []), (67, .return_, 1, [], [])]]
def co118 : List (List (Nat × MC)) := [[(0, .iload_n 1, 1, [], []), (1, .iconst 0, 1, [], []), (2, .iconst 1, 1, [], []), (3, .invokestatic 44, 3, [0, 1, 102, 3, 758, 759, 73, 760], []), (6, .ifCond .eq 21, 3, [], []), (9, .iload_n 2, 1, [], []), (10, .iconst 1, 1, [], []), (11, .iload_n 1, 1, [], []), (12, .ifCond .ne 8, 3, [], []), (15, .bipush 11, 2, [], [])],
  [(17, .goto 4, 3, [], []), (20, .iconst 3, 1, [], []), (21, .invokestatic 44, 3, [0, 1, 102, 3, 758, 759, 73, 760], []), (24, .ifCond .ne 6, 3, [], []), (27, .bipush (-2), 2, [], []), (29, .ireturn, 1, [0], []), (30, .aload_n 0, 1, [], []), (31, .invokevirtual 62, 3, [0, 108, 1, 7, 750, 752, 29, 73, 753], [])],
  [(34, .aload_n 0, 1, [], []), (35, .iload_n 1, 1, [], []), (36, .ifCond .ne 9, 3, [], []), (39, .iload_n 2, 1, [], []), (40, .iconst 1, 1, [], []), (41, .iadd, 1, [], []), (42, .goto 6, 3, [], []), (45, .iconst 1, 1, [], []), (46, .iload_n 2, 1, [], []), (47, .ishl, 1, [], [])],
  [(48, .invokevirtual 80, 3, [0, 112, 2, 7, 761, 763, 30, 73, 764], []), (51, .iload_n 1, 1, [], []), (52, .ifCond .ne 12, 3, [], []), (55, .aload_n 0, 1, [], []), (56, .iload_n 2, 1, [], []), (57, .iconst 2, 1, [], []), (58, .invokevirtual 84, 3, [0, 114, 3, 7, 765, 767, 31, 73, 768], []), (61, .goto 13, 3, [], [])],
  [(64, .aload_n 0, 1, [], []), (65, .aload_n 0, 1, [], []), (66, .getfield 7, 3, [7, 0, 0, 678], []), (69, .iconst 1, 1, [], []), (70, .isub, 1, [], []), (71, .invokevirtual 88, 3, [0, 117, 2, 7, 776, 778, 33, 73, 779], []), (74, .aload_n 0, 1, [], []), (75, .getfield 7, 3, [7, 0, 0, 678], []), (78, .ireturn, 1, [0], [])]]
def co119 : List (List (Nat × MC)) := [[(0, .iconst 0, 1, [], []), (1, .istore_n 1, 1, [], []), (2, .iload_n 1, 1, [], []), (3, .bipush 12, 2, [], []), (5, .if_icmp .ge 19, 3, [], []), (8, .aload_n 0, 1, [], []), (9, .aload_n 0, 1, [], []), (10, .getfield 7, 3, [7, 0, 0, 678], []), (13, .iload_n 1, 1, [], []), (14, .iconst (-1), 1, [], []), (15, .invokevirtual 69, 3, [0, 105, 4, 7, 772, 774, 32, 73, 775], [])],
  [(18, .iinc 1 1, 3, [], []), (21, .goto (-19), 3, [], []), (24, .aload_n 0, 1, [], []), (25, .dup, 1, [], []), (26, .getfield 7, 3, [7, 0, 0, 678], []), (29, .iconst 1, 1, [], []), (30, .iadd, 1, [], []), (31, .putfield 7, 3, [7, 0, 0, 678], [])],
  [(34, .return_, 1, [], [])]]
def co120 : List (List (Nat × MC)) := [[(0, .aload_n 0, 1, [], []), (1, .getfield 7, 3, [7, 0, 0, 678], []), (4, .bipush 12, 2, [], []), (6, .if_icmp .ne 6, 3, [], []), (9, .bipush (-3), 2, [], []), (11, .ireturn, 1, [0], []), (12, .aload_n 0, 1, [], []), (13, .invokevirtual 62, 3, [0, 108, 1, 7, 750, 752, 29, 73, 753], [])],
  [(16, .aload_n 0, 1, [], []), (17, .invokevirtual 91, 3, [0, 119, 1, 7, 790, 792, 34, 73, 793], []), (20, .aload_n 0, 1, [], []), (21, .getfield 7, 3, [7, 0, 0, 678], []), (24, .iconst 1, 1, [], []), (25, .isub, 1, [], []), (26, .ireturn, 1, [0], [])]]
def co121 : List (List (Nat × MC)) := [[(0, .aload_n 0, 1, [], []), (1, .iload_n 1, 1, [], []), (2, .invokevirtual 94, 3, [1, 103, 2, 7, 798, 800, 35, 73, 801], []), (5, .ifCond .ne 5, 3, [], []), (8, .iconst (-1), 1, [], []), (9, .ireturn, 1, [0], []), (10, .iload_n 1, 1, [], []), (11, .iconst 2, 1, [], []), (12, .if_icmp .ge 6, 3, [], []), (15, .bipush (-4), 2, [], [])],
  [(17, .ireturn, 1, [0], []), (18, .aload_n 0, 1, [], []), (19, .invokevirtual 62, 3, [0, 108, 1, 7, 750, 752, 29, 73, 753], []), (22, .iconst 0, 1, [], []), (23, .istore_n 2, 1, [], []), (24, .iload_n 2, 1, [], [3, 4, 5, 6]), (25, .sipush 144, 3, [], []), (28, .if_icmp .ge 16, 3, [], []), (31, .aload_n 0, 1, [], [])],
  [(32, .getfield 17, 3, [7, 2, 1, 680], []), (35, .iload_n 2, 1, [], []), (36, .iconst (-1), 1, [], []), (37, .iastore, 1, [], []), (38, .iinc 2 1, 3, [], []), (41, .goto (-17), 3, [], []), (44, .iconst 0, 1, [], []), (45, .istore_n 2, 1, [], []), (46, .iload_n 2, 1, [], [3, 4, 5, 6]), (47, .aload_n 0, 1, [], [])],
  [(48, .getfield 7, 3, [7, 0, 0, 678], []), (51, .if_icmp .ge 116, 3, [], []), (54, .iconst 0, 1, [], []), (55, .istore_n 3, 1, [], []), (56, .iload_n 3, 1, [], [4, 5, 6]), (57, .aload_n 0, 1, [], []), (58, .getfield 7, 3, [7, 0, 0, 678], []), (61, .if_icmp .ge 100, 3, [], [])],
  [(64, .aload_n 0, 1, [], []), (65, .getfield 13, 3, [7, 1, 1, 679], []), (68, .bipush 12, 2, [], []), (70, .iload_n 2, 1, [], []), (71, .imul, 1, [], []), (72, .iload_n 3, 1, [], []), (73, .iadd, 1, [], []), (74, .iaload, 1, [], []), (75, .istore 4, 2, [], []), (77, .iload_n 2, 1, [], []), (78, .iload_n 1, 1, [], []), (79, .if_icmp .eq 76, 3, [], [])],
  [(82, .iload_n 3, 1, [], []), (83, .iload_n 1, 1, [], []), (84, .if_icmp .eq 71, 3, [], []), (87, .iload 4, 2, [], []), (89, .iconst (-1), 1, [], []), (90, .if_icmp .eq 65, 3, [], []), (93, .iload 4, 2, [], []), (95, .iload_n 1, 1, [], [])],
  [(96, .if_icmp .eq 59, 3, [], []), (99, .iload_n 2, 1, [], []), (100, .iload_n 1, 1, [], []), (101, .if_icmp .le 9, 3, [], []), (104, .iload_n 2, 1, [], []), (105, .iconst 1, 1, [], []), (106, .isub, 1, [], []), (107, .goto 4, 3, [], []), (110, .iload_n 2, 1, [], []), (111, .istore 5, 2, [], [5, 6])],
  [(113, .iload_n 3, 1, [], []), (114, .iload_n 1, 1, [], []), (115, .if_icmp .le 9, 3, [], []), (118, .iload_n 3, 1, [], []), (119, .iconst 1, 1, [], []), (120, .isub, 1, [], []), (121, .goto 4, 3, [], []), (124, .iload_n 3, 1, [], []), (125, .istore 6, 2, [], [6]), (127, .aload_n 0, 1, [], [])],
  [(128, .getfield 17, 3, [7, 2, 1, 680], []), (131, .bipush 12, 2, [], []), (133, .iload 5, 2, [], []), (135, .imul, 1, [], []), (136, .iload 6, 2, [], []), (138, .iadd, 1, [], []), (139, .iload 4, 2, [], []), (141, .iload_n 1, 1, [], []), (142, .if_icmp .le 10, 3, [], [])],
  [(145, .iload 4, 2, [], []), (147, .iconst 1, 1, [], []), (148, .isub, 1, [], []), (149, .goto 5, 3, [], []), (152, .iload 4, 2, [], []), (154, .iastore, 1, [], []), (155, .iinc 3 1, 3, [], []), (158, .goto (-102), 3, [], [])],
  [(161, .iinc 2 1, 3, [], []), (164, .goto (-118), 3, [], []), (167, .aload_n 0, 1, [], []), (168, .invokevirtual 98, 3, [0, 122, 1, 7, 802, 804, 36, 73, 805], []), (171, .aload_n 0, 1, [], []), (172, .dup, 1, [], []), (173, .getfield 7, 3, [7, 0, 0, 678], [])],
  [(176, .iconst 1, 1, [], []), (177, .isub, 1, [], []), (178, .putfield 7, 3, [7, 0, 0, 678], []), (181, .aload_n 0, 1, [], []), (182, .getfield 7, 3, [7, 0, 0, 678], []), (185, .ireturn, 1, [0], [])]]
def co122 : List (List (Nat × MC)) := [[(0, .iconst 0, 1, [], []), (1, .istore_n 1, 1, [], []), (2, .iload_n 1, 1, [], []), (3, .sipush 144, 3, [], []), (6, .if_icmp .ge 21, 3, [], []), (9, .aload_n 0, 1, [], []), (10, .getfield 13, 3, [7, 1, 1, 679], []), (13, .iload_n 1, 1, [], []), (14, .aload_n 0, 1, [], []), (15, .getfield 17, 3, [7, 2, 1, 680], [])],
  [(18, .iload_n 1, 1, [], []), (19, .iaload, 1, [], []), (20, .iastore, 1, [], []), (21, .iinc 1 1, 3, [], []), (24, .goto (-22), 3, [], []), (27, .return_, 1, [], [])]]
def co123 : List (List (Nat × MC)) := [[(0, .aload_n 0, 1, [], []), (1, .iload_n 1, 1, [], []), (2, .invokevirtual 94, 3, [1, 103, 2, 7, 798, 800, 35, 73, 801], []), (5, .ifCond .eq 19, 3, [], []), (8, .aload_n 0, 1, [], []), (9, .iload_n 2, 1, [], []), (10, .invokevirtual 94, 3, [1, 103, 2, 7, 798, 800, 35, 73, 801], []), (13, .ifCond .eq 11, 3, [], [])],
  [(16, .aload_n 0, 1, [], []), (17, .iload_n 3, 1, [], []), (18, .invokevirtual 94, 3, [1, 103, 2, 7, 798, 800, 35, 73, 801], []), (21, .ifCond .ne 5, 3, [], []), (24, .iconst (-1), 1, [], []), (25, .ireturn, 1, [0], []), (26, .iload_n 1, 1, [], []), (27, .ifCond .eq 7, 3, [], []), (30, .iload_n 2, 1, [], []), (31, .ifCond .ne 6, 3, [], [])],
  [(34, .bipush (-4), 2, [], []), (36, .ireturn, 1, [0], []), (37, .aload_n 0, 1, [], []), (38, .iload_n 1, 1, [], []), (39, .iload_n 2, 1, [], []), (40, .invokevirtual 101, 3, [1, 104, 3, 7, 810, 812, 37, 73, 813], []), (43, .istore 4, 2, [], []), (45, .iload 4, 2, [], []), (47, .iload_n 3, 1, [], [])],
  [(48, .if_icmp .ne 6, 3, [], []), (51, .bipush (-5), 2, [], []), (53, .ireturn, 1, [0], []), (54, .aload_n 0, 1, [], []), (55, .invokevirtual 62, 3, [0, 108, 1, 7, 750, 752, 29, 73, 753], []), (58, .aload_n 0, 1, [], []), (59, .iload_n 1, 1, [], []), (60, .iload_n 2, 1, [], []), (61, .iload_n 3, 1, [], []), (62, .invokevirtual 69, 3, [0, 105, 4, 7, 772, 774, 32, 73, 775], [])],
  [(65, .iload 4, 2, [], []), (67, .iconst (-1), 1, [], []), (68, .if_icmp .ne 8, 3, [], []), (71, .bipush 12, 2, [], []), (73, .goto 5, 3, [], []), (76, .iload 4, 2, [], []), (78, .ireturn, 1, [0], [])]]
def co124 : List (List (Nat × MC)) := [[(0, .aload_n 0, 1, [], []), (1, .iload_n 1, 1, [], []), (2, .invokevirtual 94, 3, [1, 103, 2, 7, 798, 800, 35, 73, 801], []), (5, .ifCond .eq 11, 3, [], []), (8, .aload_n 0, 1, [], []), (9, .iload_n 2, 1, [], []), (10, .invokevirtual 94, 3, [1, 103, 2, 7, 798, 800, 35, 73, 801], []), (13, .ifCond .ne 5, 3, [], [])],
  [(16, .iconst (-1), 1, [], []), (17, .ireturn, 1, [0], []), (18, .iload_n 1, 1, [], []), (19, .ifCond .eq 7, 3, [], []), (22, .iload_n 2, 1, [], []), (23, .ifCond .ne 6, 3, [], []), (26, .bipush (-4), 2, [], []), (28, .ireturn, 1, [0], []), (29, .aload_n 0, 1, [], []), (30, .iload_n 1, 1, [], []), (31, .iload_n 2, 1, [], [])],
  [(32, .invokevirtual 101, 3, [1, 104, 3, 7, 810, 812, 37, 73, 813], []), (35, .istore_n 3, 1, [], []), (36, .iload_n 3, 1, [], []), (37, .iconst (-1), 1, [], []), (38, .if_icmp .ne 6, 3, [], []), (41, .bipush (-5), 2, [], []), (43, .ireturn, 1, [0], []), (44, .aload_n 0, 1, [], []), (45, .invokevirtual 62, 3, [0, 108, 1, 7, 750, 752, 29, 73, 753], [])],
  [(48, .aload_n 0, 1, [], []), (49, .iload_n 1, 1, [], []), (50, .iload_n 2, 1, [], []), (51, .iconst (-1), 1, [], []), (52, .invokevirtual 69, 3, [0, 105, 4, 7, 772, 774, 32, 73, 775], []), (55, .iload_n 3, 1, [], []), (56, .ireturn, 1, [0], [])]]
def co125 : List (List (Nat × MC)) := [[(0, .iload_n 1, 1, [], []), (1, .iconst 2, 1, [], []), (2, .bipush 11, 2, [], []), (4, .invokestatic 44, 3, [0, 1, 102, 3, 758, 759, 73, 760], []), (7, .ifCond .ne 6, 3, [], []), (10, .bipush (-2), 2, [], []), (12, .ireturn, 1, [0], []), (13, .aload_n 0, 1, [], []), (14, .getfield 7, 3, [7, 0, 0, 678], [])],
  [(17, .iload_n 1, 1, [], []), (18, .iadd, 1, [], []), (19, .iconst 1, 1, [], []), (20, .isub, 1, [], []), (21, .bipush 12, 2, [], []), (23, .if_icmp .le 6, 3, [], []), (26, .bipush (-3), 2, [], []), (28, .ireturn, 1, [0], []), (29, .aload_n 0, 1, [], []), (30, .invokevirtual 62, 3, [0, 108, 1, 7, 750, 752, 29, 73, 753], [])],
  [(33, .aload_n 0, 1, [], []), (34, .getfield 7, 3, [7, 0, 0, 678], []), (37, .istore_n 2, 1, [], []), (38, .iconst 1, 1, [], []), (39, .istore_n 3, 1, [], []), (40, .iload_n 3, 1, [], []), (41, .iload_n 1, 1, [], []), (42, .if_icmp .ge 13, 3, [], []), (45, .aload_n 0, 1, [], []), (46, .invokevirtual 91, 3, [0, 119, 1, 7, 790, 792, 34, 73, 793], [])],
  [(49, .iinc 3 1, 3, [], []), (52, .goto (-12), 3, [], []), (55, .aload_n 0, 1, [], []), (56, .iload_n 1, 1, [], []), (57, .iload_n 2, 1, [], []), (58, .invokevirtual 84, 3, [0, 114, 3, 7, 765, 767, 31, 73, 768], []), (61, .aload_n 0, 1, [], []), (62, .getfield 7, 3, [7, 0, 0, 678], [])],
  [(65, .ireturn, 1, [0], [])]]
def co126 : List (List (Nat × MC)) := [[(0, .iload_n 1, 1, [], []), (1, .ifCond .ne 15, 3, [], []), (4, .iload_n 0, 1, [], []), (5, .ifCond .ne 7, 3, [], []), (8, .iconst 0, 1, [], []), (9, .goto 6, 3, [], []), (12, .iload_n 0, 1, [], []), (13, .iconst 1, 1, [], []), (14, .iadd, 1, [], []), (15, .ireturn, 1, [0], [])],
  [(16, .iload_n 0, 1, [], []), (17, .iconst 1, 1, [], []), (18, .if_icmp .ne 7, 3, [], []), (21, .iconst 1, 1, [], []), (22, .goto 16, 3, [], []), (25, .iload_n 0, 1, [], []), (26, .ifCond .ne 9, 3, [], []), (29, .iload_n 2, 1, [], []), (30, .iconst 1, 1, [], []), (31, .iadd, 1, [], [])],
  [(32, .goto 6, 3, [], []), (35, .iload_n 2, 1, [], []), (36, .iload_n 0, 1, [], []), (37, .iadd, 1, [], []), (38, .ireturn, 1, [0], [])]]
def co127 : List (List (Nat × MC)) := [[(0, .iconst 2, 1, [], []), (1, .aload_n 0, 1, [], []), (2, .getfield 7, 3, [7, 0, 0, 678], []), (5, .imul, 1, [], []), (6, .bipush 12, 2, [], []), (8, .if_icmp .le 6, 3, [], []), (11, .bipush (-3), 2, [], []), (13, .ireturn, 1, [0], []), (14, .aload_n 0, 1, [], []), (15, .invokevirtual 62, 3, [0, 108, 1, 7, 750, 752, 29, 73, 753], [])],
  [(18, .iconst 0, 1, [], []), (19, .istore_n 1, 1, [], []), (20, .iload_n 1, 1, [], [2, 3, 4, 5]), (21, .sipush 144, 3, [], []), (24, .if_icmp .ge 16, 3, [], []), (27, .aload_n 0, 1, [], []), (28, .getfield 17, 3, [7, 2, 1, 680], []), (31, .iload_n 1, 1, [], [])],
  [(32, .iconst (-1), 1, [], []), (33, .iastore, 1, [], []), (34, .iinc 1 1, 3, [], []), (37, .goto (-17), 3, [], []), (40, .iconst 0, 1, [], []), (41, .istore_n 1, 1, [], []), (42, .iload_n 1, 1, [], [2, 3, 4, 5]), (43, .aload_n 0, 1, [], []), (44, .getfield 7, 3, [7, 0, 0, 678], []), (47, .if_icmp .ge 119, 3, [], [])],
  [(50, .iconst 0, 1, [], []), (51, .istore_n 2, 1, [], []), (52, .iload_n 2, 1, [], [3, 4, 5]), (53, .aload_n 0, 1, [], []), (54, .getfield 7, 3, [7, 0, 0, 678], []), (57, .if_icmp .ge 103, 3, [], []), (60, .iconst 0, 1, [], []), (61, .istore_n 3, 1, [], []), (62, .iload_n 3, 1, [], [4, 5]), (63, .iconst 3, 1, [], [])],
  [(64, .if_icmp .ge 90, 3, [], []), (67, .aload_n 0, 1, [], []), (68, .iload_n 1, 1, [], []), (69, .iload_n 2, 1, [], []), (70, .invokevirtual 101, 3, [1, 104, 3, 7, 810, 812, 37, 73, 813], []), (73, .iconst (-1), 1, [], []), (74, .if_icmp .eq 80, 3, [], []), (77, .iload_n 1, 1, [], []), (78, .iload_n 3, 1, [], []), (79, .iconst 1, 1, [], [])],
  [(80, .iand, 1, [], []), (81, .aload_n 0, 1, [], []), (82, .getfield 7, 3, [7, 0, 0, 678], []), (85, .invokestatic 104, 3, [0, 1, 126, 3, 826, 827, 73, 828], []), (88, .istore 4, 2, [], []), (90, .iload_n 2, 1, [], []), (91, .iload_n 3, 1, [], []), (92, .iconst 1, 1, [], []), (93, .ishr, 1, [], []), (94, .aload_n 0, 1, [], []), (95, .getfield 7, 3, [7, 0, 0, 678], [])],
  [(98, .invokestatic 104, 3, [0, 1, 126, 3, 826, 827, 73, 828], []), (101, .istore 5, 2, [], []), (103, .iload 4, 2, [], []), (105, .ifCond .eq 43, 3, [], []), (108, .iload 5, 2, [], []), (110, .ifCond .eq 38, 3, [], [])],
  [(113, .aload_n 0, 1, [], []), (114, .getfield 17, 3, [7, 2, 1, 680], []), (117, .bipush 12, 2, [], []), (119, .iload 4, 2, [], []), (121, .imul, 1, [], []), (122, .iload 5, 2, [], []), (124, .iadd, 1, [], []), (125, .aload_n 0, 1, [], []), (126, .iload_n 1, 1, [], []), (127, .iload_n 2, 1, [], [])],
  [(128, .invokevirtual 101, 3, [1, 104, 3, 7, 810, 812, 37, 73, 813], []), (131, .iload_n 3, 1, [], []), (132, .ifCond .ne 7, 3, [], []), (135, .iconst 0, 1, [], []), (136, .goto 4, 3, [], []), (139, .iconst 1, 1, [], []), (140, .aload_n 0, 1, [], []), (141, .getfield 7, 3, [7, 0, 0, 678], [])],
  [(144, .invokestatic 104, 3, [0, 1, 126, 3, 826, 827, 73, 828], []), (147, .iastore, 1, [], []), (148, .iinc 3 1, 3, [], []), (151, .goto (-89), 3, [], []), (154, .iinc 2 1, 3, [], []), (157, .goto (-105), 3, [], [])],
  [(160, .iinc 1 1, 3, [], []), (163, .goto (-121), 3, [], []), (166, .aload_n 0, 1, [], []), (167, .invokevirtual 98, 3, [0, 122, 1, 7, 802, 804, 36, 73, 805], []), (170, .aload_n 0, 1, [], []), (171, .iconst 2, 1, [], []), (172, .aload_n 0, 1, [], []), (173, .getfield 7, 3, [7, 0, 0, 678], [])],
  [(176, .imul, 1, [], []), (177, .putfield 7, 3, [7, 0, 0, 678], []), (180, .aload_n 0, 1, [], []), (181, .getfield 7, 3, [7, 0, 0, 678], []), (184, .ireturn, 1, [0], [])]]
def co128 : List (List (Nat × MC)) := [[(0, .iload_n 0, 1, [], []), (1, .iload_n 1, 1, [], []), (2, .if_icmp .ne 7, 3, [], []), (5, .iload_n 2, 1, [], []), (6, .goto 13, 3, [], []), (9, .iload_n 0, 1, [], []), (10, .iload_n 2, 1, [], []), (11, .if_icmp .ne 7, 3, [], []), (14, .iload_n 1, 1, [], []), (15, .goto 4, 3, [], [])],
  [(18, .iload_n 0, 1, [], []), (19, .ireturn, 1, [0], [])]]
def co129 : List (List (Nat × MC)) := [[(0, .aload_n 0, 1, [], []), (1, .iload_n 1, 1, [], []), (2, .invokevirtual 94, 3, [1, 103, 2, 7, 798, 800, 35, 73, 801], []), (5, .ifCond .eq 11, 3, [], []), (8, .aload_n 0, 1, [], []), (9, .iload_n 2, 1, [], []), (10, .invokevirtual 94, 3, [1, 103, 2, 7, 798, 800, 35, 73, 801], []), (13, .ifCond .ne 5, 3, [], [])],
  [(16, .iconst (-1), 1, [], []), (17, .ireturn, 1, [0], []), (18, .iload_n 1, 1, [], []), (19, .iconst 2, 1, [], []), (20, .if_icmp .lt 8, 3, [], []), (23, .iload_n 2, 1, [], []), (24, .iconst 2, 1, [], []), (25, .if_icmp .ge 6, 3, [], []), (28, .bipush (-4), 2, [], []), (30, .ireturn, 1, [0], []), (31, .iload_n 1, 1, [], [])],
  [(32, .iload_n 2, 1, [], []), (33, .if_icmp .ne 6, 3, [], []), (36, .bipush (-5), 2, [], []), (38, .ireturn, 1, [0], []), (39, .aload_n 0, 1, [], []), (40, .invokevirtual 62, 3, [0, 108, 1, 7, 750, 752, 29, 73, 753], []), (43, .iconst 0, 1, [], []), (44, .istore_n 3, 1, [], []), (45, .iconst 1, 1, [], []), (46, .istore 4, 2, [], [])],
  [(48, .iload 4, 2, [], [5, 6, 7]), (50, .aload_n 0, 1, [], []), (51, .getfield 7, 3, [7, 0, 0, 678], []), (54, .if_icmp .ge 151, 3, [], []), (57, .iconst 1, 1, [], []), (58, .istore 5, 2, [], []), (60, .iload 5, 2, [], [6, 7]), (62, .aload_n 0, 1, [], []), (63, .getfield 7, 3, [7, 0, 0, 678], [])],
  [(66, .if_icmp .ge 133, 3, [], []), (69, .aload_n 0, 1, [], []), (70, .getfield 13, 3, [7, 1, 1, 679], []), (73, .bipush 12, 2, [], []), (75, .iload 4, 2, [], []), (77, .imul, 1, [], []), (78, .iload 5, 2, [], [])],
  [(80, .iadd, 1, [], []), (81, .iaload, 1, [], []), (82, .istore 6, 2, [], []), (84, .aload_n 0, 1, [], []), (85, .getfield 17, 3, [7, 2, 1, 680], []), (88, .bipush 12, 2, [], []), (90, .iload 4, 2, [], []), (92, .iload_n 1, 1, [], []), (93, .iload_n 2, 1, [], []), (94, .invokestatic 107, 3, [0, 1, 128, 3, 833, 834, 73, 835], [])],
  [(97, .imul, 1, [], []), (98, .iload 5, 2, [], []), (100, .iload_n 1, 1, [], []), (101, .iload_n 2, 1, [], []), (102, .invokestatic 107, 3, [0, 1, 128, 3, 833, 834, 73, 835], []), (105, .iadd, 1, [], []), (106, .iload 6, 2, [], []), (108, .iconst (-1), 1, [], []), (109, .if_icmp .ne 7, 3, [], [])],
  [(112, .iconst (-1), 1, [], []), (113, .goto 10, 3, [], []), (116, .iload 6, 2, [], []), (118, .iload_n 1, 1, [], []), (119, .iload_n 2, 1, [], []), (120, .invokestatic 107, 3, [0, 1, 128, 3, 833, 834, 73, 835], []), (123, .iastore, 1, [], [7]), (124, .iload 4, 2, [], []), (126, .iload_n 1, 1, [], []), (127, .if_icmp .eq 33, 3, [], [])],
  [(130, .iload 4, 2, [], []), (132, .iload_n 2, 1, [], []), (133, .if_icmp .eq 27, 3, [], []), (136, .iload 5, 2, [], []), (138, .iload_n 1, 1, [], []), (139, .if_icmp .eq 21, 3, [], []), (142, .iload 5, 2, [], [])],
  [(144, .iload_n 2, 1, [], []), (145, .if_icmp .eq 15, 3, [], []), (148, .iload 6, 2, [], []), (150, .iload_n 1, 1, [], []), (151, .if_icmp .eq 9, 3, [], []), (154, .iload 6, 2, [], []), (156, .iload_n 2, 1, [], []), (157, .if_icmp .ne 7, 3, [], [])],
  [(160, .iconst 1, 1, [], [7]), (161, .goto 4, 3, [], []), (164, .iconst 0, 1, [], []), (165, .istore 7, 2, [], [7]), (167, .iload_n 3, 1, [], []), (168, .iload 6, 2, [], []), (170, .iconst (-1), 1, [], []), (171, .if_icmp .eq 19, 3, [], []), (174, .iload 4, 2, [], [])],
  [(176, .iload 5, 2, [], []), (178, .if_icmp .gt 12, 3, [], []), (181, .iload 7, 2, [], []), (183, .ifCond .eq 7, 3, [], []), (186, .iconst 1, 1, [], []), (187, .goto 4, 3, [], []), (190, .iconst 0, 1, [], []), (191, .iadd, 1, [], [])],
  [(192, .istore_n 3, 1, [], []), (193, .iinc 5 1, 3, [], []), (196, .goto (-136), 3, [], []), (199, .iinc 4 1, 3, [], []), (202, .goto (-154), 3, [], []), (205, .iconst 1, 1, [], []), (206, .istore 4, 2, [], [])],
  [(208, .iload 4, 2, [], [1, 2, 5, 6, 7]), (210, .aload_n 0, 1, [], []), (211, .getfield 7, 3, [7, 0, 0, 678], []), (214, .if_icmp .ge 53, 3, [], []), (217, .iconst 1, 1, [], []), (218, .istore 5, 2, [], []), (220, .iload 5, 2, [], [1, 2, 6, 7]), (222, .aload_n 0, 1, [], []), (223, .getfield 7, 3, [7, 0, 0, 678], [])],
  [(226, .if_icmp .ge 35, 3, [], []), (229, .aload_n 0, 1, [], []), (230, .getfield 13, 3, [7, 1, 1, 679], []), (233, .bipush 12, 2, [], []), (235, .iload 4, 2, [], []), (237, .imul, 1, [], []), (238, .iload 5, 2, [], [])],
  [(240, .iadd, 1, [], []), (241, .aload_n 0, 1, [], []), (242, .getfield 17, 3, [7, 2, 1, 680], []), (245, .bipush 12, 2, [], []), (247, .iload 4, 2, [], []), (249, .imul, 1, [], []), (250, .iload 5, 2, [], []), (252, .iadd, 1, [], []), (253, .iaload, 1, [], []), (254, .iastore, 1, [], []), (255, .iinc 5 1, 3, [], [])],
  [(258, .goto (-38), 3, [], []), (261, .iinc 4 1, 3, [], []), (264, .goto (-56), 3, [], []), (267, .iload_n 3, 1, [], []), (268, .ireturn, 1, [0], [])]]
def co130 : List (List (Nat × MC)) := [[(0, .aload_n 0, 1, [], []), (1, .getfield 110, 3, [7, 8, 0, 686], []), (4, .bipush 60, 2, [], []), (6, .if_icmp .ne 6, 3, [], []), (9, .bipush (-3), 2, [], []), (11, .ireturn, 1, [0], []), (12, .aload_n 0, 1, [], []), (13, .getfield 26, 3, [7, 7, 1, 685], [])],
  [(16, .aload_n 0, 1, [], []), (17, .getfield 110, 3, [7, 8, 0, 686], []), (20, .iload_n 1, 1, [], []), (21, .iastore, 1, [], []), (22, .aload_n 0, 1, [], []), (23, .dup, 1, [], []), (24, .getfield 110, 3, [7, 8, 0, 686], []), (27, .iconst 1, 1, [], []), (28, .iadd, 1, [], []), (29, .putfield 110, 3, [7, 8, 0, 686], [])],
  [(32, .aload_n 0, 1, [], []), (33, .getfield 110, 3, [7, 8, 0, 686], []), (36, .ireturn, 1, [0], [])]]
def co131 : List (List (Nat × MC)) := [[(0, .aload_n 0, 1, [], []), (1, .getfield 110, 3, [7, 8, 0, 686], []), (4, .istore_n 1, 1, [], []), (5, .aload_n 0, 1, [], []), (6, .iconst 0, 1, [], []), (7, .putfield 110, 3, [7, 8, 0, 686], []), (10, .iload_n 1, 1, [], []), (11, .ireturn, 1, [0], [])]]
def co132 : List (List (Nat × MC)) := [[(0, .aload_n 0, 1, [], []), (1, .getfield 113, 3, [7, 9, 0, 687], []), (4, .aload_n 0, 1, [], []), (5, .getfield 110, 3, [7, 8, 0, 686], []), (8, .if_icmp .ge 24, 3, [], []), (11, .aload_n 0, 1, [], []), (12, .getfield 26, 3, [7, 7, 1, 685], []), (15, .aload_n 0, 1, [], [])],
  [(16, .getfield 113, 3, [7, 9, 0, 687], []), (19, .iaload, 1, [], []), (20, .iload_n 1, 1, [], []), (21, .iload_n 2, 1, [], []), (22, .invokestatic 44, 3, [0, 1, 102, 3, 758, 759, 73, 760], []), (25, .ifCond .eq 7, 3, [], []), (28, .iconst 1, 1, [], []), (29, .goto 4, 3, [], [])],
  [(32, .iconst 0, 1, [], []), (33, .ireturn, 1, [1], [])]]
def co133 : List (List (Nat × MC)) := [[(0, .aload_n 0, 1, [], []), (1, .iload_n 1, 1, [], []), (2, .iload_n 1, 1, [], []), (3, .invokevirtual 116, 3, [1, 132, 3, 7, 856, 858, 40, 73, 859], []), (6, .istore_n 2, 1, [], []), (7, .aload_n 0, 1, [], []), (8, .dup, 1, [], []), (9, .getfield 113, 3, [7, 9, 0, 687], []), (12, .iload_n 2, 1, [], []), (13, .ifCond .eq 7, 3, [], [])],
  [(16, .iconst 1, 1, [], []), (17, .goto 4, 3, [], []), (20, .iconst 0, 1, [], []), (21, .iadd, 1, [], []), (22, .putfield 113, 3, [7, 9, 0, 687], []), (25, .iload_n 2, 1, [], []), (26, .ireturn, 1, [1], [])]]
def co134 : List (List (Nat × MC)) := [[(0, .aload_n 0, 1, [], []), (1, .bipush 48, 2, [], []), (3, .bipush 57, 2, [], []), (5, .invokevirtual 116, 3, [1, 132, 3, 7, 856, 858, 40, 73, 859], []), (8, .ifCond .ne 5, 3, [], []), (11, .iconst 0, 1, [], []), (12, .ireturn, 1, [1], []), (13, .aload_n 0, 1, [], []), (14, .aload_n 0, 1, [], []), (15, .getfield 26, 3, [7, 7, 1, 685], [])],
  [(18, .aload_n 0, 1, [], []), (19, .getfield 113, 3, [7, 9, 0, 687], []), (22, .iaload, 1, [], []), (23, .bipush 48, 2, [], []), (25, .isub, 1, [], []), (26, .putfield 120, 3, [7, 12, 0, 690], []), (29, .aload_n 0, 1, [], []), (30, .dup, 1, [], []), (31, .getfield 113, 3, [7, 9, 0, 687], [])],
  [(34, .iconst 1, 1, [], []), (35, .iadd, 1, [], []), (36, .putfield 113, 3, [7, 9, 0, 687], []), (39, .aload_n 0, 1, [], []), (40, .getfield 120, 3, [7, 12, 0, 690], []), (43, .iconst 1, 1, [], []), (44, .if_icmp .ne 43, 3, [], []), (47, .aload_n 0, 1, [], [])],
  [(48, .bipush 48, 2, [], []), (50, .bipush 49, 2, [], []), (52, .invokevirtual 116, 3, [1, 132, 3, 7, 856, 858, 40, 73, 859], []), (55, .ifCond .eq 32, 3, [], []), (58, .aload_n 0, 1, [], []), (59, .bipush 10, 2, [], []), (61, .aload_n 0, 1, [], []), (62, .getfield 26, 3, [7, 7, 1, 685], [])],
  [(65, .aload_n 0, 1, [], []), (66, .getfield 113, 3, [7, 9, 0, 687], []), (69, .iaload, 1, [], []), (70, .iadd, 1, [], []), (71, .bipush 48, 2, [], []), (73, .isub, 1, [], []), (74, .putfield 120, 3, [7, 12, 0, 690], []), (77, .aload_n 0, 1, [], []), (78, .dup, 1, [], []), (79, .getfield 113, 3, [7, 9, 0, 687], [])],
  [(82, .iconst 1, 1, [], []), (83, .iadd, 1, [], []), (84, .putfield 113, 3, [7, 9, 0, 687], []), (87, .iconst 1, 1, [], []), (88, .ireturn, 1, [1], [])]]
def co135 : List (List (Nat × MC)) := [[(0, .aload_n 0, 1, [], []), (1, .iconst 0, 1, [], []), (2, .putfield 113, 3, [7, 9, 0, 687], []), (5, .aload_n 0, 1, [], []), (6, .iconst 0, 1, [], []), (7, .putfield 123, 3, [7, 11, 0, 689], []), (10, .iconst 1, 1, [], []), (11, .istore_n 1, 1, [], []), (12, .iload_n 1, 1, [], []), (13, .ifCond .eq 131, 3, [], [])],
  [(16, .aload_n 0, 1, [], []), (17, .invokevirtual 126, 3, [1, 134, 1, 7, 852, 854, 39, 73, 855], []), (20, .ifCond .ne 5, 3, [], []), (23, .iconst 0, 1, [], []), (24, .ireturn, 1, [1], []), (25, .aload_n 0, 1, [], []), (26, .getfield 29, 3, [7, 10, 1, 688], []), (29, .iconst 3, 1, [], []), (30, .aload_n 0, 1, [], []), (31, .getfield 123, 3, [7, 11, 0, 689], [])],
  [(34, .imul, 1, [], []), (35, .aload_n 0, 1, [], []), (36, .getfield 120, 3, [7, 12, 0, 690], []), (39, .iastore, 1, [], []), (40, .aload_n 0, 1, [], []), (41, .bipush 43, 2, [], []), (43, .invokevirtual 130, 3, [1, 133, 2, 7, 860, 862, 41, 73, 863], []), (46, .ifCond .eq 10, 3, [], [])],
  [(49, .aload_n 0, 1, [], []), (50, .invokevirtual 126, 3, [1, 134, 1, 7, 852, 854, 39, 73, 855], []), (53, .ifCond .ne 5, 3, [], []), (56, .iconst 0, 1, [], []), (57, .ireturn, 1, [1], []), (58, .aload_n 0, 1, [], []), (59, .getfield 29, 3, [7, 10, 1, 688], []), (62, .iconst 3, 1, [], []), (63, .aload_n 0, 1, [], [])],
  [(64, .getfield 123, 3, [7, 11, 0, 689], []), (67, .imul, 1, [], []), (68, .iconst 1, 1, [], []), (69, .iadd, 1, [], []), (70, .aload_n 0, 1, [], []), (71, .getfield 120, 3, [7, 12, 0, 690], []), (74, .iastore, 1, [], []), (75, .aload_n 0, 1, [], []), (76, .getfield 29, 3, [7, 10, 1, 688], []), (79, .iconst 3, 1, [], [])],
  [(80, .aload_n 0, 1, [], []), (81, .getfield 123, 3, [7, 11, 0, 689], []), (84, .imul, 1, [], []), (85, .iconst 2, 1, [], []), (86, .iadd, 1, [], []), (87, .iconst (-1), 1, [], []), (88, .iastore, 1, [], []), (89, .aload_n 0, 1, [], []), (90, .bipush 61, 2, [], []), (92, .invokevirtual 130, 3, [1, 133, 2, 7, 860, 862, 41, 73, 863], []), (95, .ifCond .eq 29, 3, [], [])],
  [(98, .aload_n 0, 1, [], []), (99, .invokevirtual 126, 3, [1, 134, 1, 7, 852, 854, 39, 73, 855], []), (102, .ifCond .ne 5, 3, [], []), (105, .iconst 0, 1, [], []), (106, .ireturn, 1, [1], []), (107, .aload_n 0, 1, [], []), (108, .getfield 29, 3, [7, 10, 1, 688], []), (111, .iconst 3, 1, [], [])],
  [(112, .aload_n 0, 1, [], []), (113, .getfield 123, 3, [7, 11, 0, 689], []), (116, .imul, 1, [], []), (117, .iconst 2, 1, [], []), (118, .iadd, 1, [], []), (119, .aload_n 0, 1, [], []), (120, .getfield 120, 3, [7, 12, 0, 690], []), (123, .iastore, 1, [], []), (124, .aload_n 0, 1, [], [1]), (125, .dup, 1, [], []), (126, .getfield 123, 3, [7, 11, 0, 689], [])],
  [(129, .iconst 1, 1, [], []), (130, .iadd, 1, [], []), (131, .putfield 123, 3, [7, 11, 0, 689], []), (134, .aload_n 0, 1, [], []), (135, .bipush 44, 2, [], []), (137, .invokevirtual 130, 3, [1, 133, 2, 7, 860, 862, 41, 73, 863], []), (140, .istore_n 1, 1, [], []), (141, .goto (-129), 3, [], [])],
  [(144, .aload_n 0, 1, [], []), (145, .getfield 113, 3, [7, 9, 0, 687], []), (148, .aload_n 0, 1, [], []), (149, .getfield 110, 3, [7, 8, 0, 686], []), (152, .if_icmp .ne 7, 3, [], []), (155, .iconst 1, 1, [], []), (156, .goto 4, 3, [], []), (159, .iconst 0, 1, [], [])],
  [(160, .ireturn, 1, [1], [])]]
def co136 : List (List (Nat × MC)) := [[(0, .aload_n 0, 1, [], []), (1, .invokevirtual 133, 3, [1, 135, 1, 7, 848, 850, 38, 73, 851], []), (4, .ifCond .ne 11, 3, [], []), (7, .bipush (-100), 2, [], []), (9, .aload_n 0, 1, [], []), (10, .getfield 113, 3, [7, 9, 0, 687], []), (13, .isub, 1, [], []), (14, .ireturn, 1, [0], []), (15, .iconst 0, 1, [], [])],
  [(16, .istore_n 1, 1, [], []), (17, .iconst 0, 1, [], []), (18, .istore_n 2, 1, [], []), (19, .iload_n 2, 1, [], []), (20, .aload_n 0, 1, [], []), (21, .getfield 123, 3, [7, 11, 0, 689], []), (24, .if_icmp .ge 94, 3, [], []), (27, .aload_n 0, 1, [], []), (28, .getfield 29, 3, [7, 10, 1, 688], []), (31, .iconst 3, 1, [], [])],
  [(32, .iload_n 2, 1, [], []), (33, .imul, 1, [], []), (34, .iaload, 1, [], []), (35, .aload_n 0, 1, [], []), (36, .getfield 7, 3, [7, 0, 0, 678], []), (39, .if_icmp .ge 37, 3, [], []), (42, .aload_n 0, 1, [], []), (43, .getfield 29, 3, [7, 10, 1, 688], []), (46, .iconst 3, 1, [], []), (47, .iload_n 2, 1, [], [])],
  [(48, .imul, 1, [], []), (49, .iconst 1, 1, [], []), (50, .iadd, 1, [], []), (51, .iaload, 1, [], []), (52, .aload_n 0, 1, [], []), (53, .getfield 7, 3, [7, 0, 0, 678], []), (56, .if_icmp .ge 20, 3, [], []), (59, .aload_n 0, 1, [], []), (60, .getfield 29, 3, [7, 10, 1, 688], []), (63, .iconst 3, 1, [], [])],
  [(64, .iload_n 2, 1, [], []), (65, .imul, 1, [], []), (66, .iconst 2, 1, [], []), (67, .iadd, 1, [], []), (68, .iaload, 1, [], []), (69, .aload_n 0, 1, [], []), (70, .getfield 7, 3, [7, 0, 0, 678], []), (73, .if_icmp .lt 5, 3, [], []), (76, .iconst (-1), 1, [], []), (77, .ireturn, 1, [0], []), (78, .iload_n 1, 1, [], []), (79, .ifCond .ne 27, 3, [], [])],
  [(82, .aload_n 0, 1, [], []), (83, .getfield 29, 3, [7, 10, 1, 688], []), (86, .iconst 3, 1, [], []), (87, .iload_n 2, 1, [], []), (88, .imul, 1, [], []), (89, .iaload, 1, [], []), (90, .ifCond .eq 16, 3, [], []), (93, .aload_n 0, 1, [], []), (94, .getfield 29, 3, [7, 10, 1, 688], [])],
  [(97, .iconst 3, 1, [], []), (98, .iload_n 2, 1, [], []), (99, .imul, 1, [], []), (100, .iconst 1, 1, [], []), (101, .iadd, 1, [], []), (102, .iaload, 1, [], []), (103, .ifCond .ne 7, 3, [], []), (106, .iconst 1, 1, [], []), (107, .goto 4, 3, [], []), (110, .iconst 0, 1, [], []), (111, .istore_n 1, 1, [], [])],
  [(112, .iinc 2 1, 3, [], []), (115, .goto (-96), 3, [], []), (118, .iload_n 1, 1, [], []), (119, .ifCond .eq 6, 3, [], []), (122, .bipush (-4), 2, [], []), (124, .ireturn, 1, [0], []), (125, .aload_n 0, 1, [], []), (126, .invokevirtual 62, 3, [0, 108, 1, 7, 750, 752, 29, 73, 753], [])],
  [(129, .iconst 0, 1, [], []), (130, .istore_n 2, 1, [], []), (131, .iload_n 2, 1, [], [1]), (132, .aload_n 0, 1, [], []), (133, .getfield 123, 3, [7, 11, 0, 689], []), (136, .if_icmp .ge 41, 3, [], []), (139, .aload_n 0, 1, [], []), (140, .aload_n 0, 1, [], []), (141, .getfield 29, 3, [7, 10, 1, 688], [])],
  [(144, .iconst 3, 1, [], []), (145, .iload_n 2, 1, [], []), (146, .imul, 1, [], []), (147, .iaload, 1, [], []), (148, .aload_n 0, 1, [], []), (149, .getfield 29, 3, [7, 10, 1, 688], []), (152, .iconst 3, 1, [], []), (153, .iload_n 2, 1, [], []), (154, .imul, 1, [], []), (155, .iconst 1, 1, [], []), (156, .iadd, 1, [], []), (157, .iaload, 1, [], []), (158, .aload_n 0, 1, [], []), (159, .getfield 29, 3, [7, 10, 1, 688], [])],
  [(162, .iconst 3, 1, [], []), (163, .iload_n 2, 1, [], []), (164, .imul, 1, [], []), (165, .iconst 2, 1, [], []), (166, .iadd, 1, [], []), (167, .iaload, 1, [], []), (168, .invokevirtual 69, 3, [0, 105, 4, 7, 772, 774, 32, 73, 775], []), (171, .iinc 2 1, 3, [], []), (174, .goto (-43), 3, [], [])],
  [(177, .aload_n 0, 1, [], []), (178, .invokevirtual 136, 3, [1, 137, 1, 7, 864, 866, 42, 73, 867], []), (181, .ireturn, 1, [0], [])]]
def co137 : List (List (Nat × MC)) := [[(0, .iconst 0, 1, [], []), (1, .istore_n 1, 1, [], []), (2, .iconst 1, 1, [], []), (3, .istore_n 2, 1, [], []), (4, .iload_n 2, 1, [], [3]), (5, .aload_n 0, 1, [], []), (6, .getfield 7, 3, [7, 0, 0, 678], []), (9, .if_icmp .ge 43, 3, [], []), (12, .iload_n 2, 1, [], []), (13, .istore_n 3, 1, [], []), (14, .iload_n 3, 1, [], []), (15, .aload_n 0, 1, [], [])],
  [(16, .getfield 7, 3, [7, 0, 0, 678], []), (19, .if_icmp .ge 27, 3, [], []), (22, .iload_n 1, 1, [], []), (23, .aload_n 0, 1, [], []), (24, .iload_n 2, 1, [], []), (25, .iload_n 3, 1, [], []), (26, .invokevirtual 101, 3, [1, 104, 3, 7, 810, 812, 37, 73, 813], []), (29, .iconst (-1), 1, [], []), (30, .if_icmp .ne 7, 3, [], [])],
  [(33, .iconst 0, 1, [], []), (34, .goto 4, 3, [], []), (37, .iconst 1, 1, [], []), (38, .iadd, 1, [], []), (39, .istore_n 1, 1, [], []), (40, .iinc 3 1, 3, [], []), (43, .goto (-29), 3, [], []), (46, .iinc 2 1, 3, [], [])],
  [(49, .goto (-45), 3, [], []), (52, .iload_n 1, 1, [], []), (53, .ireturn, 1, [0], [])]]
def co138 : List (List (Nat × MC)) := [[(0, .aload_n 0, 1, [], []), (1, .iload_n 1, 1, [], []), (2, .invokevirtual 94, 3, [1, 103, 2, 7, 798, 800, 35, 73, 801], []), (5, .ifCond .eq 11, 3, [], []), (8, .aload_n 0, 1, [], []), (9, .iload_n 2, 1, [], []), (10, .invokevirtual 94, 3, [1, 103, 2, 7, 798, 800, 35, 73, 801], []), (13, .ifCond .ne 5, 3, [], [])],
  [(16, .iconst (-1), 1, [], []), (17, .ireturn, 1, [0], []), (18, .aload_n 0, 1, [], []), (19, .iload_n 1, 1, [], []), (20, .iload_n 2, 1, [], []), (21, .invokevirtual 101, 3, [1, 104, 3, 7, 810, 812, 37, 73, 813], []), (24, .istore_n 3, 1, [], []), (25, .iload_n 3, 1, [], []), (26, .iconst (-1), 1, [], []), (27, .if_icmp .ne 8, 3, [], []), (30, .bipush (-5), 2, [], [])],
  [(32, .goto 4, 3, [], []), (35, .iload_n 3, 1, [], []), (36, .ireturn, 1, [0], [])]]
def co139 : List (List (Nat × MC)) := [[(0, .iconst (-1), 1, [], []), (1, .istore_n 3, 1, [], []), (2, .aload_n 0, 1, [], []), (3, .getfield 7, 3, [7, 0, 0, 678], []), (6, .iconst 1, 1, [], []), (7, .isub, 1, [], []), (8, .istore 4, 2, [], []), (10, .iload 4, 2, [], []), (12, .ifCond .lt 27, 3, [], []), (15, .aload_n 0, 1, [], [])],
  [(16, .iload_n 2, 1, [], []), (17, .iload 4, 2, [], []), (19, .invokevirtual 101, 3, [1, 104, 3, 7, 810, 812, 37, 73, 813], []), (22, .iload_n 1, 1, [], []), (23, .if_icmp .ne 8, 3, [], []), (26, .iload 4, 2, [], []), (28, .goto 4, 3, [], []), (31, .iload_n 3, 1, [], [])],
  [(32, .istore_n 3, 1, [], []), (33, .iinc 4 (-1), 3, [], []), (36, .goto (-26), 3, [], []), (39, .iload_n 3, 1, [], []), (40, .ireturn, 1, [0], [])]]
def co140 : List (List (Nat × MC)) := [[(0, .aload_n 0, 1, [], []), (1, .iload_n 1, 1, [], []), (2, .invokevirtual 94, 3, [1, 103, 2, 7, 798, 800, 35, 73, 801], []), (5, .ifCond .eq 11, 3, [], []), (8, .aload_n 0, 1, [], []), (9, .iload_n 2, 1, [], []), (10, .invokevirtual 94, 3, [1, 103, 2, 7, 798, 800, 35, 73, 801], []), (13, .ifCond .ne 5, 3, [], [])],
  [(16, .iconst (-1), 1, [], []), (17, .ireturn, 1, [0], []), (18, .aload_n 0, 1, [], []), (19, .iload_n 1, 1, [], []), (20, .iload_n 2, 1, [], []), (21, .invokevirtual 140, 3, [1, 139, 3, 7, 876, 878, 43, 73, 879], []), (24, .istore_n 3, 1, [], []), (25, .iload_n 3, 1, [], []), (26, .iconst (-1), 1, [], []), (27, .if_icmp .ne 8, 3, [], []), (30, .bipush (-5), 2, [], [])],
  [(32, .goto 4, 3, [], []), (35, .iload_n 3, 1, [], []), (36, .ireturn, 1, [0], [])]]
def co141 : List (List (Nat × MC)) := [[(0, .aload_n 0, 1, [], []), (1, .iload_n 2, 1, [], []), (2, .iload_n 3, 1, [], []), (3, .invokevirtual 101, 3, [1, 104, 3, 7, 810, 812, 37, 73, 813], []), (6, .istore 4, 2, [], []), (8, .iload 4, 2, [], []), (10, .iconst (-1), 1, [], []), (11, .if_icmp .ne 7, 3, [], []), (14, .iconst (-1), 1, [], []), (15, .goto 10, 3, [], [])],
  [(18, .aload_n 0, 1, [], []), (19, .iload_n 1, 1, [], []), (20, .iload 4, 2, [], []), (22, .invokevirtual 101, 3, [1, 104, 3, 7, 810, 812, 37, 73, 813], []), (25, .istore 5, 2, [], [4, 5, 6]), (27, .iload 5, 2, [], []), (29, .iconst (-1), 1, [], []), (30, .if_icmp .ne 5, 3, [], [])],
  [(33, .iconst 0, 1, [], []), (34, .ireturn, 1, [1], []), (35, .aload_n 0, 1, [], []), (36, .iload_n 1, 1, [], []), (37, .iload_n 2, 1, [], []), (38, .invokevirtual 101, 3, [1, 104, 3, 7, 810, 812, 37, 73, 813], []), (41, .istore 6, 2, [], []), (43, .iload 6, 2, [], []), (45, .iconst (-1), 1, [], []), (46, .if_icmp .eq 15, 3, [], [])],
  [(49, .aload_n 0, 1, [], []), (50, .iload 6, 2, [], []), (52, .iload_n 3, 1, [], []), (53, .invokevirtual 101, 3, [1, 104, 3, 7, 810, 812, 37, 73, 813], []), (56, .iload 5, 2, [], []), (58, .if_icmp .eq 7, 3, [], []), (61, .iconst 1, 1, [], []), (62, .goto 4, 3, [], [])],
  [(65, .iconst 0, 1, [], []), (66, .ireturn, 1, [1], [])]]
def co142 : List (List (Nat × MC)) := [[(0, .iconst 0, 1, [], []), (1, .istore_n 2, 1, [], []), (2, .iconst 0, 1, [], []), (3, .istore_n 3, 1, [], []), (4, .iload_n 3, 1, [], []), (5, .aload_n 0, 1, [], []), (6, .getfield 7, 3, [7, 0, 0, 678], []), (9, .if_icmp .ge 27, 3, [], []), (12, .iload_n 2, 1, [], []), (13, .aload_n 0, 1, [], []), (14, .iload_n 1, 1, [], []), (15, .iload_n 3, 1, [], [])],
  [(16, .invokevirtual 101, 3, [1, 104, 3, 7, 810, 812, 37, 73, 813], []), (19, .iconst 1, 1, [], []), (20, .if_icmp .ne 7, 3, [], []), (23, .iconst 1, 1, [], []), (24, .goto 4, 3, [], []), (27, .iconst 0, 1, [], []), (28, .iadd, 1, [], []), (29, .istore_n 2, 1, [], []), (30, .iinc 3 1, 3, [], [])],
  [(33, .goto (-29), 3, [], []), (36, .iload_n 2, 1, [], []), (37, .iconst 1, 1, [], []), (38, .if_icmp .eq 7, 3, [], []), (41, .iconst 1, 1, [], []), (42, .goto 4, 3, [], []), (45, .iconst 0, 1, [], []), (46, .ireturn, 1, [1], [])]]
def co143 : List (List (Nat × MC)) := [[(0, .iload_n 1, 1, [], []), (1, .ifCond .eq 17, 3, [], []), (4, .aload_n 0, 1, [], []), (5, .iload_n 1, 1, [], []), (6, .iconst 1, 1, [], []), (7, .invokevirtual 101, 3, [1, 104, 3, 7, 810, 812, 37, 73, 813], []), (10, .iconst (-1), 1, [], []), (11, .if_icmp .eq 7, 3, [], []), (14, .iconst 1, 1, [], []), (15, .goto 4, 3, [], [])],
  [(18, .iconst 0, 1, [], []), (19, .ireturn, 1, [1], [])]]
def co144 : List (List (Nat × MC)) := [[(0, .iconst 0, 1, [], []), (1, .istore_n 1, 1, [], []), (2, .iload_n 1, 1, [], [2, 3, 4]), (3, .sipush 1728, 3, [], []), (6, .if_icmp .ge 67, 3, [], []), (9, .iload_n 1, 1, [], []), (10, .sipush 144, 3, [], []), (13, .idiv, 1, [], []), (14, .istore_n 2, 1, [], []), (15, .iload_n 1, 1, [], [])],
  [(16, .bipush 12, 2, [], []), (18, .idiv, 1, [], []), (19, .bipush 12, 2, [], []), (21, .irem, 1, [], []), (22, .istore_n 3, 1, [], []), (23, .iload_n 1, 1, [], []), (24, .bipush 12, 2, [], []), (26, .irem, 1, [], []), (27, .istore 4, 2, [], []), (29, .iload_n 2, 1, [], []), (30, .aload_n 0, 1, [], []), (31, .getfield 7, 3, [7, 0, 0, 678], [])],
  [(34, .if_icmp .ge 33, 3, [], []), (37, .iload_n 3, 1, [], []), (38, .aload_n 0, 1, [], []), (39, .getfield 7, 3, [7, 0, 0, 678], []), (42, .if_icmp .ge 25, 3, [], []), (45, .iload 4, 2, [], []), (47, .aload_n 0, 1, [], [])],
  [(48, .getfield 7, 3, [7, 0, 0, 678], []), (51, .if_icmp .ge 16, 3, [], []), (54, .aload_n 0, 1, [], []), (55, .iload_n 2, 1, [], []), (56, .iload_n 3, 1, [], []), (57, .iload 4, 2, [], []), (59, .invokevirtual 143, 3, [1, 141, 4, 7, 888, 890, 45, 73, 891], []), (62, .ifCond .eq 5, 3, [], [])],
  [(65, .iload_n 1, 1, [], []), (66, .ireturn, 1, [0], []), (67, .iinc 1 1, 3, [], []), (70, .goto (-68), 3, [], []), (73, .iconst 0, 1, [], []), (74, .istore_n 1, 1, [], []), (75, .iload_n 1, 1, [], [2, 3, 4]), (76, .aload_n 0, 1, [], []), (77, .getfield 7, 3, [7, 0, 0, 678], [])],
  [(80, .if_icmp .ge 23, 3, [], []), (83, .aload_n 0, 1, [], []), (84, .iload_n 1, 1, [], []), (85, .invokevirtual 146, 3, [1, 142, 2, 7, 892, 894, 46, 73, 895], []), (88, .ifCond .eq 9, 3, [], []), (91, .sipush 1728, 3, [], []), (94, .iload_n 1, 1, [], []), (95, .iadd, 1, [], [])],
  [(96, .ireturn, 1, [0], []), (97, .iinc 1 1, 3, [], []), (100, .goto (-25), 3, [], []), (103, .iconst 0, 1, [], []), (104, .istore_n 1, 1, [], []), (105, .iload_n 1, 1, [], [2, 3, 4]), (106, .aload_n 0, 1, [], []), (107, .getfield 7, 3, [7, 0, 0, 678], []), (110, .if_icmp .ge 23, 3, [], [])],
  [(113, .aload_n 0, 1, [], []), (114, .iload_n 1, 1, [], []), (115, .invokevirtual 149, 3, [1, 143, 2, 7, 896, 898, 47, 73, 899], []), (118, .ifCond .eq 9, 3, [], []), (121, .sipush 1740, 3, [], []), (124, .iload_n 1, 1, [], []), (125, .iadd, 1, [], []), (126, .ireturn, 1, [0], []), (127, .iinc 1 1, 3, [], [])],
  [(130, .goto (-25), 3, [], []), (133, .iconst (-1), 1, [], []), (134, .ireturn, 1, [0], [])]]
def co145 : List (List (Nat × MC)) := [[(0, .iconst 0, 1, [], []), (1, .istore_n 1, 1, [], []), (2, .iconst 0, 1, [], []), (3, .istore_n 2, 1, [], []), (4, .iload_n 2, 1, [], [3, 4]), (5, .aload_n 0, 1, [], []), (6, .getfield 7, 3, [7, 0, 0, 678], []), (9, .if_icmp .ge 92, 3, [], []), (12, .iconst 0, 1, [], []), (13, .istore_n 3, 1, [], []), (14, .iload_n 3, 1, [], [4]), (15, .aload_n 0, 1, [], [])],
  [(16, .getfield 7, 3, [7, 0, 0, 678], []), (19, .if_icmp .ge 46, 3, [], []), (22, .iconst 0, 1, [], []), (23, .istore 4, 2, [], []), (25, .iload 4, 2, [], []), (27, .aload_n 0, 1, [], []), (28, .getfield 7, 3, [7, 0, 0, 678], []), (31, .if_icmp .ge 28, 3, [], [])],
  [(34, .iload_n 1, 1, [], []), (35, .aload_n 0, 1, [], []), (36, .iload_n 2, 1, [], []), (37, .iload_n 3, 1, [], []), (38, .iload 4, 2, [], []), (40, .invokevirtual 143, 3, [1, 141, 4, 7, 888, 890, 45, 73, 891], []), (43, .ifCond .eq 7, 3, [], []), (46, .iconst 1, 1, [], []), (47, .goto 4, 3, [], [])],
  [(50, .iconst 0, 1, [], []), (51, .iadd, 1, [], []), (52, .istore_n 1, 1, [], []), (53, .iinc 4 1, 3, [], []), (56, .goto (-31), 3, [], []), (59, .iinc 3 1, 3, [], []), (62, .goto (-48), 3, [], [])],
  [(65, .iload_n 1, 1, [], []), (66, .aload_n 0, 1, [], []), (67, .iload_n 2, 1, [], []), (68, .invokevirtual 146, 3, [1, 142, 2, 7, 892, 894, 46, 73, 895], []), (71, .ifCond .eq 7, 3, [], []), (74, .iconst 1, 1, [], []), (75, .goto 4, 3, [], []), (78, .iconst 0, 1, [], []), (79, .aload_n 0, 1, [], [1, 3, 4])],
  [(80, .iload_n 2, 1, [], []), (81, .invokevirtual 149, 3, [1, 143, 2, 7, 896, 898, 47, 73, 899], []), (84, .ifCond .eq 7, 3, [], []), (87, .iconst 1, 1, [], []), (88, .goto 4, 3, [], []), (91, .iconst 0, 1, [], []), (92, .iadd, 1, [], []), (93, .iadd, 1, [], []), (94, .istore_n 1, 1, [], []), (95, .iinc 2 1, 3, [], [])],
  [(98, .goto (-94), 3, [], []), (101, .iload_n 1, 1, [], []), (102, .ireturn, 1, [0], [])]]
def co146 : List (List (Nat × MC)) := [[(0, .iload_n 1, 1, [], []), (1, .iconst 0, 1, [], []), (2, .iconst 3, 1, [], []), (3, .invokestatic 44, 3, [0, 1, 102, 3, 758, 759, 73, 760], []), (6, .ifCond .ne 6, 3, [], []), (9, .bipush (-2), 2, [], []), (11, .ireturn, 1, [0], []), (12, .aload_n 0, 1, [], []), (13, .invokevirtual 152, 3, [1, 144, 1, 7, 884, 886, 44, 73, 887], [])],
  [(16, .istore_n 2, 1, [], []), (17, .iload_n 2, 1, [], []), (18, .iconst (-1), 1, [], []), (19, .if_icmp .eq 15, 3, [], []), (22, .iload_n 2, 1, [], []), (23, .sipush 1728, 3, [], []), (26, .if_icmp .lt 11, 3, [], []), (29, .iload_n 1, 1, [], []), (30, .iconst 1, 1, [], []), (31, .if_icmp .le 6, 3, [], [])],
  [(34, .bipush (-5), 2, [], []), (36, .ireturn, 1, [0], []), (37, .iload_n 2, 1, [], [0]), (38, .sipush 1728, 3, [], []), (41, .if_icmp .lt 29, 3, [], []), (44, .iload_n 1, 1, [], []), (45, .ifCond .ne 16, 3, [], [])],
  [(48, .iconst 1, 1, [], []), (49, .iload_n 2, 1, [], []), (50, .sipush 1728, 3, [], []), (53, .isub, 1, [], []), (54, .bipush 12, 2, [], []), (56, .idiv, 1, [], []), (57, .iadd, 1, [], []), (58, .goto 11, 3, [], []), (61, .iload_n 2, 1, [], []), (62, .sipush 1728, 3, [], [])],
  [(65, .isub, 1, [], []), (66, .bipush 12, 2, [], []), (68, .irem, 1, [], []), (69, .ireturn, 1, [0], []), (70, .iload_n 1, 1, [], []), (71, .ifCond .ne 7, 3, [], []), (74, .iconst 0, 1, [], []), (75, .goto 35, 3, [], []), (78, .iload_n 1, 1, [], []), (79, .iconst 1, 1, [], [])],
  [(80, .if_icmp .ne 11, 3, [], []), (83, .iload_n 2, 1, [], []), (84, .sipush 144, 3, [], []), (87, .idiv, 1, [], []), (88, .goto 22, 3, [], []), (91, .iload_n 1, 1, [], []), (92, .iconst 2, 1, [], []), (93, .if_icmp .ne 13, 3, [], [])],
  [(96, .iload_n 2, 1, [], []), (97, .bipush 12, 2, [], []), (99, .idiv, 1, [], []), (100, .bipush 12, 2, [], []), (102, .irem, 1, [], []), (103, .goto 7, 3, [], []), (106, .iload_n 2, 1, [], []), (107, .bipush 12, 2, [], []), (109, .irem, 1, [], []), (110, .ireturn, 1, [0], [])]]
def co147 : List (List (Nat × MC)) := [[(0, .iconst 0, 1, [], []), (1, .istore_n 2, 1, [], []), (2, .iconst 0, 1, [], []), (3, .istore_n 3, 1, [], []), (4, .iload_n 3, 1, [], []), (5, .aload_n 0, 1, [], []), (6, .getfield 7, 3, [7, 0, 0, 678], []), (9, .if_icmp .ge 29, 3, [], []), (12, .iload_n 2, 1, [], []), (13, .aload_n 0, 1, [], []), (14, .iload_n 1, 1, [], []), (15, .iload_n 3, 1, [], [])],
  [(16, .invokevirtual 140, 3, [1, 139, 3, 7, 876, 878, 43, 73, 879], []), (19, .iconst (-1), 1, [], []), (20, .if_icmp .ne 7, 3, [], []), (23, .iconst 0, 1, [], []), (24, .goto 6, 3, [], []), (27, .iconst 1, 1, [], []), (28, .iload_n 3, 1, [], []), (29, .ishl, 1, [], []), (30, .ior, 1, [], []), (31, .istore_n 2, 1, [], [])],
  [(32, .iinc 3 1, 3, [], []), (35, .goto (-31), 3, [], []), (38, .iload_n 2, 1, [], []), (39, .ireturn, 1, [0], [])]]
def co148 : List (List (Nat × MC)) := [[(0, .iload_n 1, 1, [], []), (1, .ifCond .eq 23, 3, [], []), (4, .aload_n 0, 1, [], []), (5, .iload_n 1, 1, [], []), (6, .invokevirtual 155, 3, [1, 147, 2, 7, 912, 914, 50, 73, 915], []), (9, .iconst 1, 1, [], []), (10, .iconst 1, 1, [], []), (11, .iload_n 1, 1, [], []), (12, .ishl, 1, [], []), (13, .ior, 1, [], []), (14, .iconst (-1), 1, [], []), (15, .ixor, 1, [], [])],
  [(16, .iand, 1, [], []), (17, .ifCond .ne 7, 3, [], []), (20, .iconst 1, 1, [], []), (21, .goto 4, 3, [], []), (24, .iconst 0, 1, [], []), (25, .ireturn, 1, [1], [])]]
def co149 : List (List (Nat × MC)) := [[(0, .aload_n 0, 1, [], []), (1, .iconst 1, 1, [], []), (2, .iload_n 1, 1, [], []), (3, .invokevirtual 140, 3, [1, 139, 3, 7, 876, 878, 43, 73, 879], []), (6, .istore_n 2, 1, [], []), (7, .iload_n 2, 1, [], []), (8, .iconst (-1), 1, [], []), (9, .if_icmp .eq 22, 3, [], []), (12, .aload_n 0, 1, [], []), (13, .iload_n 1, 1, [], []), (14, .invokevirtual 155, 3, [1, 147, 2, 7, 912, 914, 50, 73, 915], [])],
  [(17, .aload_n 0, 1, [], []), (18, .iload_n 2, 1, [], []), (19, .invokevirtual 155, 3, [1, 147, 2, 7, 912, 914, 50, 73, 915], []), (22, .iand, 1, [], []), (23, .iconst 1, 1, [], []), (24, .if_icmp .ne 7, 3, [], []), (27, .iconst 1, 1, [], []), (28, .goto 4, 3, [], []), (31, .iconst 0, 1, [], [])],
  [(32, .ireturn, 1, [1], [])]]
def co150 : List (List (Nat × MC)) := [[(0, .iconst 0, 1, [], []), (1, .istore 5, 2, [], []), (3, .iconst 0, 1, [], []), (4, .istore 6, 2, [], []), (6, .iload 6, 2, [], []), (8, .aload_n 0, 1, [], []), (9, .getfield 7, 3, [7, 0, 0, 678], []), (12, .if_icmp .ge 54, 3, [], []), (15, .iload 5, 2, [], [])],
  [(17, .ifCond .ne 49, 3, [], []), (20, .aload_n 0, 1, [], []), (21, .iload 4, 2, [], []), (23, .iload 6, 2, [], []), (25, .invokevirtual 101, 3, [1, 104, 3, 7, 810, 812, 37, 73, 813], []), (28, .iload_n 2, 1, [], []), (29, .if_icmp .ne 28, 3, [], [])],
  [(32, .aload_n 0, 1, [], []), (33, .iload_n 1, 1, [], []), (34, .iload 6, 2, [], []), (36, .invokevirtual 101, 3, [1, 104, 3, 7, 810, 812, 37, 73, 813], []), (39, .iconst (-1), 1, [], []), (40, .if_icmp .eq 17, 3, [], []), (43, .aload_n 0, 1, [], []), (44, .iload_n 3, 1, [], []), (45, .iload_n 2, 1, [], []), (46, .invokevirtual 101, 3, [1, 104, 3, 7, 810, 812, 37, 73, 813], [])],
  [(49, .iconst (-1), 1, [], []), (50, .if_icmp .eq 7, 3, [], []), (53, .iconst 1, 1, [], []), (54, .goto 4, 3, [], []), (57, .iconst 0, 1, [], []), (58, .istore 5, 2, [], []), (60, .iinc 6 1, 3, [], []), (63, .goto (-57), 3, [], [])],
  [(66, .iload 5, 2, [], []), (68, .ireturn, 1, [1], [])]]
def co151 : List (List (Nat × MC)) := [[(0, .iconst 0, 1, [], []), (1, .istore_n 1, 1, [], []), (2, .iload_n 1, 1, [], [2, 3, 4, 5, 6]), (3, .aload_n 0, 1, [], []), (4, .getfield 7, 3, [7, 0, 0, 678], []), (7, .if_icmp .ge 138, 3, [], []), (10, .aload_n 0, 1, [], []), (11, .getfield 41, 3, [7, 16, 1, 694], []), (14, .iload_n 1, 1, [], []), (15, .iconst 0, 1, [], [])],
  [(16, .iastore, 1, [], []), (17, .iconst 0, 1, [], []), (18, .istore_n 2, 1, [], []), (19, .iload_n 2, 1, [], [3, 4, 5, 6]), (20, .aload_n 0, 1, [], []), (21, .getfield 7, 3, [7, 0, 0, 678], []), (24, .if_icmp .ge 115, 3, [], []), (27, .iconst 0, 1, [], []), (28, .istore_n 3, 1, [], []), (29, .iconst 0, 1, [], []), (30, .istore 4, 2, [], [])],
  [(32, .iload 4, 2, [], [5, 6]), (34, .sipush 144, 3, [], []), (37, .if_icmp .ge 76, 3, [], []), (40, .iload_n 3, 1, [], []), (41, .ifCond .ne 72, 3, [], []), (44, .iload 4, 2, [], []), (46, .bipush 12, 2, [], [])],
  [(48, .idiv, 1, [], []), (49, .istore 5, 2, [], []), (51, .iload 4, 2, [], []), (53, .bipush 12, 2, [], []), (55, .irem, 1, [], []), (56, .istore 6, 2, [], []), (58, .iload 5, 2, [], []), (60, .aload_n 0, 1, [], []), (61, .getfield 7, 3, [7, 0, 0, 678], [])],
  [(64, .if_icmp .ge 41, 3, [], []), (67, .iload 6, 2, [], []), (69, .aload_n 0, 1, [], []), (70, .getfield 7, 3, [7, 0, 0, 678], []), (73, .if_icmp .ge 32, 3, [], []), (76, .aload_n 0, 1, [], []), (77, .iload 5, 2, [], []), (79, .iload 6, 2, [], [])],
  [(81, .invokevirtual 101, 3, [1, 104, 3, 7, 810, 812, 37, 73, 813], []), (84, .iload_n 1, 1, [], []), (85, .if_icmp .ne 20, 3, [], []), (88, .aload_n 0, 1, [], []), (89, .iload_n 1, 1, [], []), (90, .iload_n 2, 1, [], []), (91, .iload 5, 2, [], []), (93, .iload 6, 2, [], []), (95, .invokevirtual 159, 3, [1, 150, 5, 7, 908, 910, 49, 73, 911], [])],
  [(98, .ifCond .eq 7, 3, [], []), (101, .iconst 1, 1, [], []), (102, .goto 4, 3, [], []), (105, .iconst 0, 1, [], []), (106, .istore_n 3, 1, [], []), (107, .iinc 4 1, 3, [], []), (110, .goto (-78), 3, [], [])],
  [(113, .aload_n 0, 1, [], [4, 5, 6]), (114, .getfield 41, 3, [7, 16, 1, 694], []), (117, .iload_n 1, 1, [], []), (118, .dup2, 1, [], []), (119, .iaload, 1, [], []), (120, .iload_n 3, 1, [], []), (121, .ifCond .eq 9, 3, [], []), (124, .iconst 1, 1, [], []), (125, .iload_n 2, 1, [], []), (126, .ishl, 1, [], []), (127, .goto 4, 3, [], [])],
  [(130, .iconst 0, 1, [], []), (131, .ior, 1, [], []), (132, .iastore, 1, [], []), (133, .iinc 2 1, 3, [], []), (136, .goto (-117), 3, [], []), (139, .iinc 1 1, 3, [], []), (142, .goto (-140), 3, [], [])],
  [(145, .return_, 1, [], [])]]
def co152 : List (List (Nat × MC)) := [[(0, .iload_n 1, 1, [], []), (1, .istore_n 2, 1, [], []), (2, .iconst 1, 1, [], []), (3, .istore_n 3, 1, [], []), (4, .iload_n 3, 1, [], []), (5, .bipush 20, 2, [], []), (7, .if_icmp .ge 26, 3, [], []), (10, .aload_n 0, 1, [], []), (11, .iload_n 2, 1, [], []), (12, .iload_n 1, 1, [], []), (13, .invokevirtual 101, 3, [1, 104, 3, 7, 810, 812, 37, 73, 813], [])],
  [(16, .iconst (-1), 1, [], []), (17, .if_icmp .eq 16, 3, [], []), (20, .aload_n 0, 1, [], []), (21, .iload_n 2, 1, [], []), (22, .iload_n 1, 1, [], []), (23, .invokevirtual 101, 3, [1, 104, 3, 7, 810, 812, 37, 73, 813], []), (26, .istore_n 2, 1, [], []), (27, .iinc 3 1, 3, [], []), (30, .goto (-26), 3, [], [])],
  [(33, .iload_n 3, 1, [], []), (34, .ireturn, 1, [0], [])]]
def co153 : List (List (Nat × MC)) := [[(0, .aload_n 0, 1, [], []), (1, .iload_n 1, 1, [], []), (2, .invokevirtual 94, 3, [1, 103, 2, 7, 798, 800, 35, 73, 801], []), (5, .ifCond .ne 5, 3, [], []), (8, .iconst (-1), 1, [], []), (9, .ireturn, 1, [0], []), (10, .iload_n 2, 1, [], []), (11, .iconst 0, 1, [], []), (12, .bipush 7, 2, [], []), (14, .invokestatic 44, 3, [0, 1, 102, 3, 758, 759, 73, 760], [])],
  [(17, .ifCond .ne 6, 3, [], []), (20, .bipush (-2), 2, [], []), (22, .ireturn, 1, [0], []), (23, .iload_n 2, 1, [], []), (24, .ifCond .ne 22, 3, [], []), (27, .aload_n 0, 1, [], []), (28, .iconst 1, 1, [], []), (29, .iload_n 1, 1, [], []), (30, .invokevirtual 140, 3, [1, 139, 3, 7, 876, 878, 43, 73, 879], [])],
  [(33, .istore_n 3, 1, [], []), (34, .iload_n 3, 1, [], []), (35, .iconst (-1), 1, [], []), (36, .if_icmp .ne 8, 3, [], []), (39, .bipush (-5), 2, [], []), (41, .goto 4, 3, [], []), (44, .iload_n 3, 1, [], []), (45, .ireturn, 1, [0], []), (46, .iload_n 2, 1, [], []), (47, .iconst 5, 1, [], [])],
  [(48, .if_icmp .ne 14, 3, [], []), (51, .aload_n 0, 1, [], []), (52, .invokevirtual 163, 3, [0, 151, 1, 7, 904, 906, 48, 73, 907], []), (55, .aload_n 0, 1, [], []), (56, .getfield 41, 3, [7, 16, 1, 694], []), (59, .iload_n 1, 1, [], []), (60, .iaload, 1, [], []), (61, .ireturn, 1, [0], []), (62, .iconst 0, 1, [], []), (63, .istore_n 3, 1, [], [])],
  [(64, .iconst 0, 1, [], []), (65, .istore 4, 2, [], []), (67, .iconst 0, 1, [], []), (68, .istore 5, 2, [], []), (70, .iload 5, 2, [], []), (72, .aload_n 0, 1, [], []), (73, .getfield 7, 3, [7, 0, 0, 678], []), (76, .if_icmp .ge 55, 3, [], []), (79, .iload_n 3, 1, [], [])],
  [(80, .aload_n 0, 1, [], []), (81, .iload 5, 2, [], []), (83, .iload_n 1, 1, [], []), (84, .invokevirtual 140, 3, [1, 139, 3, 7, 876, 878, 43, 73, 879], []), (87, .iconst (-1), 1, [], []), (88, .if_icmp .ne 7, 3, [], []), (91, .iconst 0, 1, [], []), (92, .goto 7, 3, [], []), (95, .iconst 1, 1, [], [])],
  [(96, .iload 5, 2, [], []), (98, .ishl, 1, [], []), (99, .ior, 1, [], [3]), (100, .istore_n 3, 1, [], []), (101, .iload 4, 2, [], []), (103, .aload_n 0, 1, [], []), (104, .iload_n 1, 1, [], []), (105, .iload 5, 2, [], []), (107, .invokevirtual 101, 3, [1, 104, 3, 7, 810, 812, 37, 73, 813], []), (110, .iconst (-1), 1, [], []), (111, .if_icmp .ne 7, 3, [], [])],
  [(114, .iconst 0, 1, [], []), (115, .goto 7, 3, [], []), (118, .iconst 1, 1, [], []), (119, .iload 5, 2, [], []), (121, .ishl, 1, [], []), (122, .ior, 1, [], []), (123, .istore 4, 2, [], []), (125, .iinc 5 1, 3, [], [])],
  [(128, .goto (-58), 3, [], []), (131, .iload_n 2, 1, [], []), (132, .iconst 2, 1, [], []), (133, .if_icmp .eq 9, 3, [], []), (136, .iload_n 2, 1, [], []), (137, .bipush 6, 2, [], []), (139, .if_icmp .ne 15, 3, [], []), (142, .iload_n 2, 1, [], [0, 1, 5]), (143, .iconst 2, 1, [], [])],
  [(144, .if_icmp .ne 7, 3, [], []), (147, .iload_n 3, 1, [], []), (148, .goto 5, 3, [], []), (151, .iload 4, 2, [], []), (153, .ireturn, 1, [0], []), (154, .iload_n 2, 1, [], []), (155, .iconst 1, 1, [], []), (156, .if_icmp .ne 11, 3, [], []), (159, .aload_n 0, 1, [], [])],
  [(160, .iload_n 1, 1, [], []), (161, .invokevirtual 155, 3, [1, 147, 2, 7, 912, 914, 50, 73, 915], []), (164, .goto 50, 3, [], []), (167, .iload_n 2, 1, [], []), (168, .iconst 3, 1, [], []), (169, .if_icmp .ne 19, 3, [], []), (172, .aload_n 0, 1, [], []), (173, .iload_n 1, 1, [], []), (174, .invokevirtual 166, 3, [1, 148, 2, 7, 916, 918, 51, 73, 919], [])],
  [(177, .ifCond .eq 7, 3, [], []), (180, .iconst 1, 1, [], []), (181, .goto 33, 3, [], []), (184, .iconst 0, 1, [], []), (185, .goto 29, 3, [], []), (188, .iload_n 2, 1, [], []), (189, .iconst 4, 1, [], []), (190, .if_icmp .ne 19, 3, [], [])],
  [(193, .aload_n 0, 1, [], []), (194, .iload_n 1, 1, [], []), (195, .invokevirtual 169, 3, [1, 149, 2, 7, 920, 922, 52, 73, 923], []), (198, .ifCond .eq 7, 3, [], []), (201, .iconst 1, 1, [], []), (202, .goto 12, 3, [], []), (205, .iconst 0, 1, [], []), (206, .goto 8, 3, [], [])],
  [(209, .aload_n 0, 1, [], []), (210, .iload_n 1, 1, [], []), (211, .invokevirtual 172, 3, [1, 152, 2, 7, 924, 926, 53, 73, 927], []), (214, .ireturn, 1, [0], [])]]
def co154 : List (List (Nat × MC)) := [[(0, .iload_n 1, 1, [], []), (1, .ifCond .lt 13, 3, [], []), (4, .iload_n 1, 1, [], []), (5, .iconst 1, 1, [], []), (6, .aload_n 0, 1, [], []), (7, .getfield 7, 3, [7, 0, 0, 678], []), (10, .ishl, 1, [], []), (11, .if_icmp .lt 5, 3, [], []), (14, .iconst (-1), 1, [], []), (15, .ireturn, 1, [0], [])],
  [(16, .iconst 0, 1, [], []), (17, .istore_n 2, 1, [], []), (18, .iconst 0, 1, [], []), (19, .istore_n 3, 1, [], []), (20, .iload_n 3, 1, [], []), (21, .aload_n 0, 1, [], []), (22, .getfield 7, 3, [7, 0, 0, 678], []), (25, .if_icmp .ge 34, 3, [], []), (28, .iload_n 2, 1, [], []), (29, .iconst (-1), 1, [], []), (30, .if_icmp .eq 29, 3, [], [])],
  [(33, .iload_n 1, 1, [], []), (34, .iload_n 3, 1, [], []), (35, .ishr, 1, [], []), (36, .iconst 1, 1, [], []), (37, .iand, 1, [], []), (38, .iconst 1, 1, [], []), (39, .if_icmp .ne 12, 3, [], []), (42, .aload_n 0, 1, [], []), (43, .iload_n 2, 1, [], []), (44, .iload_n 3, 1, [], []), (45, .invokevirtual 101, 3, [1, 104, 3, 7, 810, 812, 37, 73, 813], [])],
  [(48, .goto 4, 3, [], []), (51, .iload_n 2, 1, [], []), (52, .istore_n 2, 1, [], []), (53, .iinc 3 1, 3, [], []), (56, .goto (-36), 3, [], []), (59, .iload_n 2, 1, [], [0, 1, 3]), (60, .iconst (-1), 1, [], []), (61, .if_icmp .ne 8, 3, [], [])],
  [(64, .bipush (-5), 2, [], []), (66, .goto 4, 3, [], []), (69, .iload_n 2, 1, [], []), (70, .ireturn, 1, [0], [])]]
def co155 : List (List (Nat × MC)) := [[(0, .iconst 1, 1, [], []), (1, .aload_n 0, 1, [], []), (2, .getfield 7, 3, [7, 0, 0, 678], []), (5, .ishl, 1, [], []), (6, .iconst 1, 1, [], []), (7, .isub, 1, [], []), (8, .istore_n 2, 1, [], []), (9, .iconst 1, 1, [], []), (10, .istore_n 3, 1, [], []), (11, .iconst 0, 1, [], []), (12, .istore 4, 2, [], []), (14, .iload 4, 2, [], [])],
  [(16, .aload_n 0, 1, [], []), (17, .getfield 7, 3, [7, 0, 0, 678], []), (20, .if_icmp .ge 65, 3, [], []), (23, .iload_n 1, 1, [], []), (24, .iload 4, 2, [], []), (26, .ishr, 1, [], []), (27, .iconst 1, 1, [], []), (28, .iand, 1, [], []), (29, .iconst 1, 1, [], []), (30, .if_icmp .ne 49, 3, [], [])],
  [(33, .iload_n 3, 1, [], []), (34, .ifCond .eq 28, 3, [], []), (37, .iload_n 1, 1, [], []), (38, .aload_n 0, 1, [], []), (39, .getfield 41, 3, [7, 16, 1, 694], []), (42, .iload 4, 2, [], []), (44, .iaload, 1, [], []), (45, .iconst (-1), 1, [], []), (46, .ixor, 1, [], []), (47, .iand, 1, [], [])],
  [(48, .iconst 1, 1, [], []), (49, .iload 4, 2, [], []), (51, .ishl, 1, [], []), (52, .iconst (-1), 1, [], []), (53, .ixor, 1, [], []), (54, .iand, 1, [], []), (55, .ifCond .ne 7, 3, [], []), (58, .iconst 1, 1, [], []), (59, .goto 4, 3, [], []), (62, .iconst 0, 1, [], [3]), (63, .istore_n 3, 1, [], [3])],
  [(64, .iload_n 2, 1, [], []), (65, .aload_n 0, 1, [], []), (66, .getfield 41, 3, [7, 16, 1, 694], []), (69, .iload 4, 2, [], []), (71, .iaload, 1, [], []), (72, .iconst 1, 1, [], []), (73, .iload 4, 2, [], []), (75, .ishl, 1, [], []), (76, .ior, 1, [], []), (77, .iand, 1, [], []), (78, .istore_n 2, 1, [], []), (79, .iinc 4 1, 3, [], [])],
  [(82, .goto (-68), 3, [], []), (85, .iload_n 3, 1, [], []), (86, .ifCond .eq 19, 3, [], []), (89, .iload_n 1, 1, [], []), (90, .ifCond .eq 15, 3, [], []), (93, .iload_n 2, 1, [], []), (94, .iload_n 1, 1, [], []), (95, .iconst (-1), 1, [], [])],
  [(96, .ixor, 1, [], []), (97, .iand, 1, [], []), (98, .ifCond .ne 7, 3, [], []), (101, .iconst 1, 1, [], []), (102, .goto 4, 3, [], []), (105, .iconst 0, 1, [], []), (106, .ireturn, 1, [1], [])]]
def co156 : List (List (Nat × MC)) := [[(0, .aload_n 0, 1, [], []), (1, .invokevirtual 163, 3, [0, 151, 1, 7, 904, 906, 48, 73, 907], []), (4, .iconst 0, 1, [], []), (5, .istore_n 1, 1, [], []), (6, .iconst 1, 1, [], []), (7, .istore_n 2, 1, [], []), (8, .iload_n 2, 1, [], []), (9, .iconst 1, 1, [], []), (10, .aload_n 0, 1, [], []), (11, .getfield 7, 3, [7, 0, 0, 678], []), (14, .ishl, 1, [], []), (15, .if_icmp .ge 25, 3, [], [])],
  [(18, .iload_n 1, 1, [], []), (19, .aload_n 0, 1, [], []), (20, .iload_n 2, 1, [], []), (21, .invokevirtual 175, 3, [1, 155, 2, 7, 936, 938, 54, 73, 939], []), (24, .ifCond .eq 7, 3, [], []), (27, .iconst 1, 1, [], []), (28, .goto 4, 3, [], []), (31, .iconst 0, 1, [], [])],
  [(32, .iadd, 1, [], []), (33, .istore_n 1, 1, [], []), (34, .iinc 2 1, 3, [], []), (37, .goto (-29), 3, [], []), (40, .iload_n 1, 1, [], []), (41, .ireturn, 1, [0], [])]]
def co157 : List (List (Nat × MC)) := [[(0, .iload_n 1, 1, [], []), (1, .ifCond .lt 12, 3, [], []), (4, .iload_n 2, 1, [], []), (5, .iconst 0, 1, [], []), (6, .iconst 1, 1, [], []), (7, .invokestatic 44, 3, [0, 1, 102, 3, 758, 759, 73, 760], []), (10, .ifCond .ne 6, 3, [], []), (13, .bipush (-2), 2, [], []), (15, .ireturn, 1, [0], [])],
  [(16, .aload_n 0, 1, [], []), (17, .invokevirtual 163, 3, [0, 151, 1, 7, 904, 906, 48, 73, 907], []), (20, .iload_n 1, 1, [], []), (21, .istore_n 3, 1, [], []), (22, .iconst (-1), 1, [], []), (23, .istore 4, 2, [], []), (25, .iconst 1, 1, [], []), (26, .istore 5, 2, [], []), (28, .iload 5, 2, [], [1, 6, 7]), (30, .iconst 1, 1, [], []), (31, .aload_n 0, 1, [], [])],
  [(32, .getfield 7, 3, [7, 0, 0, 678], []), (35, .ishl, 1, [], []), (36, .if_icmp .ge 39, 3, [], []), (39, .iload 4, 2, [], []), (41, .iconst (-1), 1, [], []), (42, .if_icmp .ne 33, 3, [], []), (45, .aload_n 0, 1, [], []), (46, .iload 5, 2, [], [])],
  [(48, .invokevirtual 175, 3, [1, 155, 2, 7, 936, 938, 54, 73, 939], []), (51, .ifCond .eq 18, 3, [], []), (54, .iload_n 3, 1, [], []), (55, .ifCond .ne 8, 3, [], []), (58, .iload 5, 2, [], []), (60, .goto 4, 3, [], []), (63, .iconst (-1), 1, [], [])],
  [(64, .istore 4, 2, [], []), (66, .iinc 3 (-1), 3, [], []), (69, .iinc 5 1, 3, [], []), (72, .goto (-44), 3, [], []), (75, .iload 4, 2, [], [1, 3, 5, 6, 7]), (77, .iconst (-1), 1, [], []), (78, .if_icmp .ne 6, 3, [], [])],
  [(81, .bipush (-5), 2, [], []), (83, .ireturn, 1, [0], []), (84, .iconst 0, 1, [], []), (85, .istore 5, 2, [], []), (87, .iconst 1, 1, [], []), (88, .istore 6, 2, [], []), (90, .iload 6, 2, [], [1, 3, 7]), (92, .aload_n 0, 1, [], []), (93, .getfield 7, 3, [7, 0, 0, 678], [])],
  [(96, .if_icmp .ge 66, 3, [], []), (99, .iload 4, 2, [], []), (101, .iload 6, 2, [], []), (103, .ishr, 1, [], []), (104, .iconst 1, 1, [], []), (105, .iand, 1, [], []), (106, .iconst 1, 1, [], []), (107, .if_icmp .ne 28, 3, [], []), (110, .aload_n 0, 1, [], []), (111, .iload 6, 2, [], [])],
  [(113, .invokevirtual 155, 3, [1, 147, 2, 7, 912, 914, 50, 73, 915], []), (116, .iload 4, 2, [], []), (118, .iand, 1, [], []), (119, .iconst 1, 1, [], []), (120, .iconst 1, 1, [], []), (121, .iload 6, 2, [], []), (123, .ishl, 1, [], []), (124, .ior, 1, [], []), (125, .iconst (-1), 1, [], []), (126, .ixor, 1, [], []), (127, .iand, 1, [], [])],
  [(128, .ifCond .ne 7, 3, [], []), (131, .iconst 1, 1, [], []), (132, .goto 4, 3, [], []), (135, .iconst 0, 1, [], [1, 3, 7]), (136, .istore 7, 2, [], [1, 3, 7]), (138, .iload 5, 2, [], []), (140, .iload 7, 2, [], []), (142, .ifCond .eq 10, 3, [], [])],
  [(145, .iconst 1, 1, [], []), (146, .iload 6, 2, [], []), (148, .ishl, 1, [], []), (149, .goto 4, 3, [], []), (152, .iconst 0, 1, [], []), (153, .ior, 1, [], []), (154, .istore 5, 2, [], []), (156, .iinc 6 1, 3, [], []), (159, .goto (-69), 3, [], [])],
  [(162, .iload_n 2, 1, [], []), (163, .ifCond .ne 8, 3, [], []), (166, .iload 4, 2, [], []), (168, .goto 5, 3, [], []), (171, .iload 5, 2, [], []), (173, .ireturn, 1, [0], [])]]
def co158 : List (List (Nat × MC)) := [[(0, .aload_n 0, 1, [], []), (1, .getfield 32, 3, [7, 13, 1, 691], []), (4, .iload_n 1, 1, [], []), (5, .iload_n 2, 1, [], []), (6, .iadd, 1, [], []), (7, .iaload, 1, [], []), (8, .aload_n 0, 1, [], []), (9, .getfield 32, 3, [7, 13, 1, 691], []), (12, .iload_n 1, 1, [], []), (13, .iload_n 3, 1, [], []), (14, .iadd, 1, [], []), (15, .iaload, 1, [], [])],
  [(16, .iadd, 1, [], []), (17, .istore 5, 2, [], []), (19, .aload_n 0, 1, [], []), (20, .getfield 35, 3, [7, 14, 1, 692], []), (23, .iload_n 1, 1, [], []), (24, .iload_n 2, 1, [], []), (25, .iadd, 1, [], []), (26, .iaload, 1, [], []), (27, .aload_n 0, 1, [], []), (28, .getfield 35, 3, [7, 14, 1, 692], []), (31, .iload_n 1, 1, [], [])],
  [(32, .iload_n 3, 1, [], []), (33, .iadd, 1, [], []), (34, .iaload, 1, [], []), (35, .iadd, 1, [], []), (36, .istore 6, 2, [], []), (38, .aload_n 0, 1, [], []), (39, .iload_n 1, 1, [], []), (40, .iload 4, 2, [], []), (42, .iload 5, 2, [], []), (44, .invokevirtual 178, 3, [1, 159, 4, 7, 959, 961, 58, 73, 962], []), (47, .aload_n 0, 1, [], [])],
  [(48, .iload_n 1, 1, [], []), (49, .iload 4, 2, [], []), (51, .iload 6, 2, [], []), (53, .invokevirtual 181, 3, [1, 160, 4, 7, 963, 965, 59, 73, 966], []), (56, .ior, 1, [], []), (57, .istore 7, 2, [], []), (59, .iload 7, 2, [], []), (61, .aload_n 0, 1, [], []), (62, .iload_n 1, 1, [], []), (63, .iload_n 2, 1, [], [])],
  [(64, .aload_n 0, 1, [], []), (65, .getfield 32, 3, [7, 13, 1, 691], []), (68, .iload_n 1, 1, [], []), (69, .iload 4, 2, [], []), (71, .iadd, 1, [], []), (72, .iaload, 1, [], []), (73, .aload_n 0, 1, [], []), (74, .getfield 35, 3, [7, 14, 1, 692], []), (77, .iload_n 1, 1, [], []), (78, .iload_n 3, 1, [], []), (79, .iadd, 1, [], [])],
  [(80, .iaload, 1, [], []), (81, .isub, 1, [], []), (82, .invokevirtual 178, 3, [1, 159, 4, 7, 959, 961, 58, 73, 962], []), (85, .aload_n 0, 1, [], []), (86, .iload_n 1, 1, [], []), (87, .iload_n 2, 1, [], []), (88, .aload_n 0, 1, [], []), (89, .getfield 35, 3, [7, 14, 1, 692], []), (92, .iload_n 1, 1, [], []), (93, .iload 4, 2, [], []), (95, .iadd, 1, [], [])],
  [(96, .iaload, 1, [], []), (97, .aload_n 0, 1, [], []), (98, .getfield 32, 3, [7, 13, 1, 691], []), (101, .iload_n 1, 1, [], []), (102, .iload_n 3, 1, [], []), (103, .iadd, 1, [], []), (104, .iaload, 1, [], []), (105, .isub, 1, [], []), (106, .invokevirtual 181, 3, [1, 160, 4, 7, 963, 965, 59, 73, 966], []), (109, .ior, 1, [], []), (110, .ior, 1, [], []), (111, .istore 7, 2, [], [])],
  [(113, .iload 7, 2, [], []), (115, .aload_n 0, 1, [], []), (116, .iload_n 1, 1, [], []), (117, .iload_n 3, 1, [], []), (118, .aload_n 0, 1, [], []), (119, .getfield 32, 3, [7, 13, 1, 691], []), (122, .iload_n 1, 1, [], []), (123, .iload 4, 2, [], []), (125, .iadd, 1, [], []), (126, .iaload, 1, [], []), (127, .aload_n 0, 1, [], [])],
  [(128, .getfield 35, 3, [7, 14, 1, 692], []), (131, .iload_n 1, 1, [], []), (132, .iload_n 2, 1, [], []), (133, .iadd, 1, [], []), (134, .iaload, 1, [], []), (135, .isub, 1, [], []), (136, .invokevirtual 178, 3, [1, 159, 4, 7, 959, 961, 58, 73, 962], []), (139, .ior, 1, [], []), (140, .aload_n 0, 1, [], []), (141, .iload_n 1, 1, [], []), (142, .iload_n 3, 1, [], []), (143, .aload_n 0, 1, [], [])],
  [(144, .getfield 35, 3, [7, 14, 1, 692], []), (147, .iload_n 1, 1, [], []), (148, .iload 4, 2, [], []), (150, .iadd, 1, [], []), (151, .iaload, 1, [], []), (152, .aload_n 0, 1, [], []), (153, .getfield 32, 3, [7, 13, 1, 691], []), (156, .iload_n 1, 1, [], []), (157, .iload_n 2, 1, [], []), (158, .iadd, 1, [], []), (159, .iaload, 1, [], [])],
  [(160, .isub, 1, [], []), (161, .invokevirtual 181, 3, [1, 160, 4, 7, 963, 965, 59, 73, 966], []), (164, .ior, 1, [], []), (165, .ireturn, 1, [1], [])]]
def co159 : List (List (Nat × MC)) := [[(0, .iload_n 3, 1, [], []), (1, .aload_n 0, 1, [], []), (2, .getfield 32, 3, [7, 13, 1, 691], []), (5, .iload_n 1, 1, [], []), (6, .iload_n 2, 1, [], []), (7, .iadd, 1, [], []), (8, .iaload, 1, [], []), (9, .if_icmp .le 7, 3, [], []), (12, .iconst 1, 1, [], []), (13, .goto 4, 3, [], [])],
  [(16, .iconst 0, 1, [], []), (17, .istore 4, 2, [], [4]), (19, .aload_n 0, 1, [], []), (20, .getfield 32, 3, [7, 13, 1, 691], []), (23, .iload_n 1, 1, [], []), (24, .iload_n 2, 1, [], []), (25, .iadd, 1, [], []), (26, .iload 4, 2, [], []), (28, .ifCond .eq 7, 3, [], []), (31, .iload_n 3, 1, [], [])],
  [(32, .goto 11, 3, [], []), (35, .aload_n 0, 1, [], []), (36, .getfield 32, 3, [7, 13, 1, 691], []), (39, .iload_n 1, 1, [], []), (40, .iload_n 2, 1, [], []), (41, .iadd, 1, [], []), (42, .iaload, 1, [], []), (43, .iastore, 1, [], []), (44, .iload 4, 2, [], []), (46, .ireturn, 1, [1], [])]]
def co160 : List (List (Nat × MC)) := [[(0, .iload_n 3, 1, [], []), (1, .aload_n 0, 1, [], []), (2, .getfield 35, 3, [7, 14, 1, 692], []), (5, .iload_n 1, 1, [], []), (6, .iload_n 2, 1, [], []), (7, .iadd, 1, [], []), (8, .iaload, 1, [], []), (9, .if_icmp .ge 7, 3, [], []), (12, .iconst 1, 1, [], []), (13, .goto 4, 3, [], [])],
  [(16, .iconst 0, 1, [], []), (17, .istore 4, 2, [], [4]), (19, .aload_n 0, 1, [], []), (20, .getfield 35, 3, [7, 14, 1, 692], []), (23, .iload_n 1, 1, [], []), (24, .iload_n 2, 1, [], []), (25, .iadd, 1, [], []), (26, .iload 4, 2, [], []), (28, .ifCond .eq 7, 3, [], []), (31, .iload_n 3, 1, [], [])],
  [(32, .goto 11, 3, [], []), (35, .aload_n 0, 1, [], []), (36, .getfield 35, 3, [7, 14, 1, 692], []), (39, .iload_n 1, 1, [], []), (40, .iload_n 2, 1, [], []), (41, .iadd, 1, [], []), (42, .iaload, 1, [], []), (43, .iastore, 1, [], []), (44, .iload 4, 2, [], []), (46, .ireturn, 1, [1], [])]]
def co161 : List (List (Nat × MC)) := [[(0, .iconst 1, 1, [], []), (1, .istore_n 2, 1, [], []), (2, .iconst 1, 1, [], []), (3, .istore_n 3, 1, [], []), (4, .iload_n 3, 1, [], [4, 5]), (5, .ifCond .eq 130, 3, [], []), (8, .iload_n 2, 1, [], []), (9, .ifCond .eq 126, 3, [], []), (12, .iconst 0, 1, [], []), (13, .istore_n 3, 1, [], []), (14, .iconst 0, 1, [], []), (15, .istore 4, 2, [], [])],
  [(17, .iload 4, 2, [], [5]), (19, .aload_n 0, 1, [], []), (20, .getfield 7, 3, [7, 0, 0, 678], []), (23, .if_icmp .ge 60, 3, [], []), (26, .iload 4, 2, [], []), (28, .istore 5, 2, [], []), (30, .iload 5, 2, [], [])],
  [(32, .aload_n 0, 1, [], []), (33, .getfield 7, 3, [7, 0, 0, 678], []), (36, .if_icmp .ge 41, 3, [], []), (39, .aload_n 0, 1, [], []), (40, .iload 4, 2, [], []), (42, .iload 5, 2, [], []), (44, .invokevirtual 101, 3, [1, 104, 3, 7, 810, 812, 37, 73, 813], []), (47, .iconst (-1), 1, [], [])],
  [(48, .if_icmp .eq 23, 3, [], []), (51, .iload_n 3, 1, [], []), (52, .aload_n 0, 1, [], []), (53, .iload_n 1, 1, [], []), (54, .iload 4, 2, [], []), (56, .iload 5, 2, [], []), (58, .aload_n 0, 1, [], []), (59, .iload 4, 2, [], []), (61, .iload 5, 2, [], []), (63, .invokevirtual 101, 3, [1, 104, 3, 7, 810, 812, 37, 73, 813], [])],
  [(66, .invokevirtual 184, 3, [1, 158, 5, 7, 955, 957, 57, 73, 958], []), (69, .ior, 1, [], []), (70, .istore_n 3, 1, [], []), (71, .iinc 5 1, 3, [], []), (74, .goto (-44), 3, [], []), (77, .iinc 4 1, 3, [], [])],
  [(80, .goto (-63), 3, [], []), (83, .iconst 0, 1, [], []), (84, .istore 4, 2, [], []), (86, .iload 4, 2, [], [5]), (88, .aload_n 0, 1, [], []), (89, .getfield 7, 3, [7, 0, 0, 678], []), (92, .if_icmp .ge 40, 3, [], []), (95, .iload_n 2, 1, [], [])],
  [(96, .ifCond .eq 28, 3, [], []), (99, .aload_n 0, 1, [], []), (100, .getfield 32, 3, [7, 13, 1, 691], []), (103, .iload_n 1, 1, [], []), (104, .iload 4, 2, [], []), (106, .iadd, 1, [], []), (107, .iaload, 1, [], []), (108, .aload_n 0, 1, [], []), (109, .getfield 35, 3, [7, 14, 1, 692], [])],
  [(112, .iload_n 1, 1, [], []), (113, .iload 4, 2, [], []), (115, .iadd, 1, [], []), (116, .iaload, 1, [], []), (117, .if_icmp .gt 7, 3, [], []), (120, .iconst 1, 1, [], []), (121, .goto 4, 3, [], []), (124, .iconst 0, 1, [], []), (125, .istore_n 2, 1, [], []), (126, .iinc 4 1, 3, [], [])],
  [(129, .goto (-43), 3, [], []), (132, .goto (-128), 3, [], []), (135, .iload_n 2, 1, [], []), (136, .ireturn, 1, [1], [])]]
def co162 : List (List (Nat × MC)) := [[(0, .iconst 0, 1, [], []), (1, .istore_n 3, 1, [], []), (2, .iload_n 3, 1, [], []), (3, .aload_n 0, 1, [], []), (4, .getfield 7, 3, [7, 0, 0, 678], []), (7, .if_icmp .ge 57, 3, [], []), (10, .aload_n 0, 1, [], []), (11, .getfield 32, 3, [7, 13, 1, 691], []), (14, .bipush 12, 2, [], [])],
  [(16, .iload_n 1, 1, [], []), (17, .iconst 1, 1, [], []), (18, .iadd, 1, [], []), (19, .imul, 1, [], []), (20, .iload_n 3, 1, [], []), (21, .iadd, 1, [], []), (22, .aload_n 0, 1, [], []), (23, .getfield 32, 3, [7, 13, 1, 691], []), (26, .bipush 12, 2, [], []), (28, .iload_n 1, 1, [], []), (29, .imul, 1, [], []), (30, .iload_n 3, 1, [], []), (31, .iadd, 1, [], [])],
  [(32, .iaload, 1, [], []), (33, .iastore, 1, [], []), (34, .aload_n 0, 1, [], []), (35, .getfield 35, 3, [7, 14, 1, 692], []), (38, .bipush 12, 2, [], []), (40, .iload_n 1, 1, [], []), (41, .iconst 1, 1, [], []), (42, .iadd, 1, [], []), (43, .imul, 1, [], []), (44, .iload_n 3, 1, [], []), (45, .iadd, 1, [], []), (46, .aload_n 0, 1, [], []), (47, .getfield 35, 3, [7, 14, 1, 692], [])],
  [(50, .bipush 12, 2, [], []), (52, .iload_n 1, 1, [], []), (53, .imul, 1, [], []), (54, .iload_n 3, 1, [], []), (55, .iadd, 1, [], []), (56, .iaload, 1, [], []), (57, .iastore, 1, [], []), (58, .iinc 3 1, 3, [], []), (61, .goto (-59), 3, [], [])],
  [(64, .aload_n 0, 1, [], []), (65, .getfield 32, 3, [7, 13, 1, 691], []), (68, .bipush 12, 2, [], []), (70, .iload_n 1, 1, [], []), (71, .iconst 1, 1, [], []), (72, .iadd, 1, [], []), (73, .imul, 1, [], []), (74, .iload_n 1, 1, [], []), (75, .iadd, 1, [], []), (76, .iload_n 2, 1, [], []), (77, .iastore, 1, [], []), (78, .aload_n 0, 1, [], []), (79, .getfield 35, 3, [7, 14, 1, 692], [])],
  [(82, .bipush 12, 2, [], []), (84, .iload_n 1, 1, [], []), (85, .iconst 1, 1, [], []), (86, .iadd, 1, [], []), (87, .imul, 1, [], []), (88, .iload_n 1, 1, [], []), (89, .iadd, 1, [], []), (90, .iload_n 2, 1, [], []), (91, .iastore, 1, [], []), (92, .return_, 1, [], [])]]
def co163 : List (List (Nat × MC)) := [[(0, .iconst 0, 1, [], []), (1, .istore 5, 2, [], []), (3, .iload 5, 2, [], [6]), (5, .aload_n 0, 1, [], []), (6, .getfield 7, 3, [7, 0, 0, 678], []), (9, .if_icmp .ge 78, 3, [], []), (12, .aload_n 0, 1, [], []), (13, .getfield 32, 3, [7, 13, 1, 691], [])],
  [(16, .iload 5, 2, [], []), (18, .iload 5, 2, [], []), (20, .iconst 1, 1, [], []), (21, .if_icmp .ne 7, 3, [], []), (24, .iload_n 1, 1, [], []), (25, .goto 21, 3, [], []), (28, .iload 5, 2, [], []), (30, .iload_n 3, 1, [], []), (31, .if_icmp .ne 14, 3, [], [])],
  [(34, .iload 4, 2, [], []), (36, .iconst (-1), 1, [], []), (37, .if_icmp .eq 8, 3, [], []), (40, .iload 4, 2, [], []), (42, .goto 4, 3, [], []), (45, .iconst 0, 1, [], [6]), (46, .iastore, 1, [], [6]), (47, .aload_n 0, 1, [], [])],
  [(48, .getfield 35, 3, [7, 14, 1, 692], []), (51, .iload 5, 2, [], []), (53, .iload 5, 2, [], []), (55, .ifCond .ne 7, 3, [], []), (58, .iconst 0, 1, [], []), (59, .goto 21, 3, [], []), (62, .iload 5, 2, [], [])],
  [(64, .iload_n 3, 1, [], []), (65, .if_icmp .ne 14, 3, [], []), (68, .iload 4, 2, [], []), (70, .iconst (-1), 1, [], []), (71, .if_icmp .eq 8, 3, [], []), (74, .iload 4, 2, [], []), (76, .goto 4, 3, [], []), (79, .iload_n 1, 1, [], [])],
  [(80, .iastore, 1, [], []), (81, .iinc 5 1, 3, [], []), (84, .goto (-81), 3, [], []), (87, .aload_n 0, 1, [], []), (88, .getfield 32, 3, [7, 13, 1, 691], []), (91, .iconst 0, 1, [], []), (92, .iload_n 3, 1, [], []), (93, .ifCond .ne 13, 3, [], [])],
  [(96, .iload 4, 2, [], []), (98, .ifCond .le 8, 3, [], []), (101, .iload 4, 2, [], []), (103, .goto 4, 3, [], []), (106, .iconst 0, 1, [], [5, 6]), (107, .iastore, 1, [], [5, 6]), (108, .aload_n 0, 1, [], []), (109, .getfield 35, 3, [7, 14, 1, 692], [])],
  [(112, .iconst 1, 1, [], []), (113, .iload_n 3, 1, [], []), (114, .iconst 1, 1, [], []), (115, .if_icmp .ne 20, 3, [], []), (118, .iload 4, 2, [], []), (120, .iconst (-1), 1, [], []), (121, .if_icmp .eq 14, 3, [], []), (124, .iload 4, 2, [], []), (126, .iload_n 1, 1, [], []), (127, .if_icmp .ge 8, 3, [], [])],
  [(130, .iload 4, 2, [], []), (132, .goto 4, 3, [], []), (135, .iload_n 1, 1, [], [3, 4, 5, 6]), (136, .iastore, 1, [], [1, 3, 4, 5, 6]), (137, .aload_n 0, 1, [], []), (138, .iconst 0, 1, [], []), (139, .invokevirtual 187, 3, [1, 161, 2, 7, 951, 953, 56, 73, 954], []), (142, .ifCond .ne 5, 3, [], [])],
  [(145, .iconst 0, 1, [], []), (146, .ireturn, 1, [0], []), (147, .iconst 0, 1, [], []), (148, .istore 5, 2, [], []), (150, .iconst 0, 1, [], []), (151, .istore 6, 2, [], []), (153, .aload_n 0, 1, [], []), (154, .getfield 38, 3, [7, 15, 1, 693], []), (157, .iconst 0, 1, [], []), (158, .aload_n 0, 1, [], []), (159, .getfield 32, 3, [7, 13, 1, 691], [])],
  [(162, .iconst 0, 1, [], []), (163, .iaload, 1, [], []), (164, .iastore, 1, [], []), (165, .iload 6, 2, [], [1, 3, 4]), (167, .ifCond .lt 149, 3, [], []), (170, .iload 5, 2, [], []), (172, .iload_n 2, 1, [], []), (173, .if_icmp .ge 143, 3, [], [])],
  [(176, .aload_n 0, 1, [], []), (177, .getfield 38, 3, [7, 15, 1, 693], []), (180, .iload 6, 2, [], []), (182, .iaload, 1, [], []), (183, .aload_n 0, 1, [], []), (184, .getfield 35, 3, [7, 14, 1, 692], []), (187, .bipush 12, 2, [], []), (189, .iload 6, 2, [], []), (191, .imul, 1, [], [])],
  [(192, .iload 6, 2, [], []), (194, .iadd, 1, [], []), (195, .iaload, 1, [], []), (196, .if_icmp .le 25, 3, [], []), (199, .iinc 6 (-1), 3, [], []), (202, .iload 6, 2, [], []), (204, .ifCond .lt (-39), 3, [], []), (207, .aload_n 0, 1, [], [])],
  [(208, .getfield 38, 3, [7, 15, 1, 693], []), (211, .iload 6, 2, [], []), (213, .dup2, 1, [], []), (214, .iaload, 1, [], []), (215, .iconst 1, 1, [], []), (216, .iadd, 1, [], []), (217, .iastore, 1, [], []), (218, .goto (-53), 3, [], []), (221, .aload_n 0, 1, [], []), (222, .iload 6, 2, [], [])],
  [(224, .aload_n 0, 1, [], []), (225, .getfield 38, 3, [7, 15, 1, 693], []), (228, .iload 6, 2, [], []), (230, .iaload, 1, [], []), (231, .invokevirtual 190, 3, [0, 162, 3, 7, 967, 969, 60, 73, 970], []), (234, .aload_n 0, 1, [], []), (235, .bipush 12, 2, [], []), (237, .iload 6, 2, [], []), (239, .iconst 1, 1, [], [])],
  [(240, .iadd, 1, [], []), (241, .imul, 1, [], []), (242, .invokevirtual 187, 3, [1, 161, 2, 7, 951, 953, 56, 73, 954], []), (245, .ifCond .ne 17, 3, [], []), (248, .aload_n 0, 1, [], []), (249, .getfield 38, 3, [7, 15, 1, 693], []), (252, .iload 6, 2, [], []), (254, .dup2, 1, [], []), (255, .iaload, 1, [], [])],
  [(256, .iconst 1, 1, [], []), (257, .iadd, 1, [], []), (258, .iastore, 1, [], []), (259, .goto (-94), 3, [], []), (262, .iload 6, 2, [], []), (264, .aload_n 0, 1, [], []), (265, .getfield 7, 3, [7, 0, 0, 678], []), (268, .iconst 1, 1, [], []), (269, .isub, 1, [], []), (270, .if_icmp .ne 20, 3, [], [])],
  [(273, .iinc 5 1, 3, [], []), (276, .aload_n 0, 1, [], []), (277, .getfield 38, 3, [7, 15, 1, 693], []), (280, .iload 6, 2, [], []), (282, .dup2, 1, [], []), (283, .iaload, 1, [], []), (284, .iconst 1, 1, [], []), (285, .iadd, 1, [], []), (286, .iastore, 1, [], []), (287, .goto (-122), 3, [], [])],
  [(290, .iinc 6 1, 3, [], []), (293, .aload_n 0, 1, [], []), (294, .getfield 38, 3, [7, 15, 1, 693], []), (297, .iload 6, 2, [], []), (299, .aload_n 0, 1, [], []), (300, .getfield 32, 3, [7, 13, 1, 691], []), (303, .bipush 12, 2, [], [])],
  [(305, .iload 6, 2, [], []), (307, .imul, 1, [], []), (308, .iload 6, 2, [], []), (310, .iadd, 1, [], []), (311, .iaload, 1, [], []), (312, .iastore, 1, [], []), (313, .goto (-148), 3, [], []), (316, .iload 5, 2, [], []), (318, .ireturn, 1, [0], [])]]
def co164 : List (List (Nat × MC)) := [[(0, .iload_n 0, 1, [], []), (1, .iconst 1, 1, [], []), (2, .bipush 6, 2, [], []), (4, .invokestatic 44, 3, [0, 1, 102, 3, 758, 759, 73, 760], []), (7, .ireturn, 1, [1], [])]]
def co165 : List (List (Nat × MC)) := [[(0, .iload_n 1, 1, [], []), (1, .invokestatic 193, 3, [0, 1, 164, 1, 944, 945, 73, 946], []), (4, .ifCond .eq 16, 3, [], []), (7, .aload_n 0, 1, [], []), (8, .iload_n 1, 1, [], []), (9, .sipush 1000, 3, [], []), (12, .iconst 0, 1, [], []), (13, .iconst (-1), 1, [], []), (14, .invokevirtual 196, 3, [1, 163, 5, 7, 947, 949, 55, 73, 950], [])],
  [(17, .goto 5, 3, [], []), (20, .bipush (-2), 2, [], []), (22, .ireturn, 1, [0], [])]]
def co166 : List (List (Nat × MC)) := [[(0, .iload_n 1, 1, [], []), (1, .invokestatic 193, 3, [0, 1, 164, 1, 944, 945, 73, 946], []), (4, .ifCond .ne 6, 3, [], []), (7, .bipush (-2), 2, [], []), (9, .ireturn, 1, [0], []), (10, .aload_n 0, 1, [], []), (11, .iload_n 2, 1, [], []), (12, .invokevirtual 94, 3, [1, 103, 2, 7, 798, 800, 35, 73, 801], []), (15, .ifCond .ne 5, 3, [], [])],
  [(18, .iconst (-1), 1, [], []), (19, .ireturn, 1, [0], []), (20, .aload_n 0, 1, [], []), (21, .iload_n 1, 1, [], []), (22, .iconst 1, 1, [], []), (23, .iconst 0, 1, [], []), (24, .iconst (-1), 1, [], []), (25, .invokevirtual 196, 3, [1, 163, 5, 7, 947, 949, 55, 73, 950], []), (28, .ifCond .ne 8, 3, [], []), (31, .bipush (-5), 2, [], [])],
  [(33, .goto 17, 3, [], []), (36, .aload_n 0, 1, [], []), (37, .getfield 32, 3, [7, 13, 1, 691], []), (40, .bipush 12, 2, [], []), (42, .aload_n 0, 1, [], []), (43, .getfield 7, 3, [7, 0, 0, 678], []), (46, .imul, 1, [], []), (47, .iload_n 2, 1, [], [])],
  [(48, .iadd, 1, [], []), (49, .iaload, 1, [], []), (50, .ireturn, 1, [0], [])]]
def co167 : List (List (Nat × MC)) := [[(0, .iload_n 1, 1, [], []), (1, .invokestatic 193, 3, [0, 1, 164, 1, 944, 945, 73, 946], []), (4, .ifCond .ne 6, 3, [], []), (7, .bipush (-2), 2, [], []), (9, .ireturn, 1, [0], []), (10, .aload_n 0, 1, [], []), (11, .iload_n 2, 1, [], []), (12, .invokevirtual 94, 3, [1, 103, 2, 7, 798, 800, 35, 73, 801], []), (15, .ifCond .ne 5, 3, [], [])],
  [(18, .iconst (-1), 1, [], []), (19, .ireturn, 1, [0], []), (20, .iconst 0, 1, [], []), (21, .istore 4, 2, [], []), (23, .iload 4, 2, [], [5]), (25, .iload_n 1, 1, [], []), (26, .if_icmp .gt 40, 3, [], []), (29, .iload_n 3, 1, [], []), (30, .ifCond .eq 10, 3, [], [])],
  [(33, .iload_n 1, 1, [], []), (34, .iload 4, 2, [], []), (36, .isub, 1, [], []), (37, .goto 5, 3, [], []), (40, .iload 4, 2, [], []), (42, .istore 5, 2, [], [5]), (44, .aload_n 0, 1, [], []), (45, .iload_n 1, 1, [], []), (46, .iconst 1, 1, [], []), (47, .iload_n 2, 1, [], [])],
  [(48, .iload 5, 2, [], []), (50, .invokevirtual 196, 3, [1, 163, 5, 7, 947, 949, 55, 73, 950], []), (53, .iconst 1, 1, [], []), (54, .if_icmp .ne 6, 3, [], []), (57, .iload 5, 2, [], []), (59, .ireturn, 1, [0], []), (60, .iinc 4 1, 3, [], []), (63, .goto (-40), 3, [], [])],
  [(66, .bipush (-5), 2, [], []), (68, .ireturn, 1, [0], [])]]
def co168 : List (List (Nat × MC)) := [[(0, .iconst 0, 1, [], []), (1, .istore_n 2, 1, [], []), (2, .iconst 0, 1, [], []), (3, .istore_n 3, 1, [], []), (4, .iload_n 3, 1, [], []), (5, .aload_n 0, 1, [], []), (6, .getfield 7, 3, [7, 0, 0, 678], []), (9, .if_icmp .ge 42, 3, [], []), (12, .iload_n 2, 1, [], []), (13, .iload_n 1, 1, [], []), (14, .ifCond .eq 14, 3, [], [])],
  [(17, .aload_n 0, 1, [], []), (18, .iload_n 3, 1, [], []), (19, .invokevirtual 169, 3, [1, 149, 2, 7, 920, 922, 52, 73, 923], []), (22, .ifCond .eq 20, 3, [], []), (25, .goto 11, 3, [], []), (28, .aload_n 0, 1, [], []), (29, .iload_n 3, 1, [], []), (30, .invokevirtual 166, 3, [1, 148, 2, 7, 916, 918, 51, 73, 919], [])],
  [(33, .ifCond .eq 9, 3, [], []), (36, .iconst 1, 1, [], [2]), (37, .iload_n 3, 1, [], []), (38, .ishl, 1, [], []), (39, .goto 4, 3, [], []), (42, .iconst 0, 1, [], []), (43, .ior, 1, [], []), (44, .istore_n 2, 1, [], []), (45, .iinc 3 1, 3, [], [])],
  [(48, .goto (-44), 3, [], []), (51, .iload_n 2, 1, [], []), (52, .ireturn, 1, [0], [])]]
def co169 : List (List (Nat × MC)) := [[(0, .aload_n 0, 1, [], []), (1, .invokevirtual 163, 3, [0, 151, 1, 7, 904, 906, 48, 73, 907], []), (4, .iconst 0, 1, [], []), (5, .istore_n 1, 1, [], []), (6, .iconst 0, 1, [], []), (7, .istore_n 2, 1, [], []), (8, .iload_n 2, 1, [], [3]), (9, .aload_n 0, 1, [], []), (10, .getfield 7, 3, [7, 0, 0, 678], []), (13, .if_icmp .ge 44, 3, [], [])],
  [(16, .iconst 0, 1, [], []), (17, .istore_n 3, 1, [], []), (18, .iload_n 3, 1, [], []), (19, .iload_n 2, 1, [], []), (20, .if_icmp .ge 31, 3, [], []), (23, .iload_n 1, 1, [], []), (24, .aload_n 0, 1, [], []), (25, .getfield 41, 3, [7, 16, 1, 694], []), (28, .iload_n 2, 1, [], []), (29, .iaload, 1, [], []), (30, .iload_n 3, 1, [], []), (31, .ishr, 1, [], [])],
  [(32, .iconst 1, 1, [], []), (33, .iand, 1, [], []), (34, .iconst 1, 1, [], []), (35, .if_icmp .ne 7, 3, [], []), (38, .iconst 0, 1, [], []), (39, .goto 4, 3, [], []), (42, .iconst 1, 1, [], []), (43, .iadd, 1, [], []), (44, .istore_n 1, 1, [], []), (45, .iinc 3 1, 3, [], [])],
  [(48, .goto (-30), 3, [], []), (51, .iinc 2 1, 3, [], []), (54, .goto (-46), 3, [], []), (57, .iload_n 1, 1, [], []), (58, .ireturn, 1, [0], [])]]
def co170 : List (List (Nat × MC)) := [[(0, .iload_n 1, 1, [], []), (1, .iconst 0, 1, [], []), (2, .bipush 9, 2, [], []), (4, .invokestatic 44, 3, [0, 1, 102, 3, 758, 759, 73, 760], []), (7, .ifCond .ne 6, 3, [], []), (10, .bipush (-2), 2, [], []), (12, .ireturn, 1, [0], []), (13, .iload_n 1, 1, [], []), (14, .iconst 3, 1, [], []), (15, .if_icmp .ge 40, 3, [], [])],
  [(18, .iload_n 1, 1, [], []), (19, .ifCond .ne 10, 3, [], []), (22, .aload_n 0, 1, [], []), (23, .getfield 7, 3, [7, 0, 0, 678], []), (26, .goto 28, 3, [], []), (29, .iload_n 1, 1, [], []), (30, .iconst 1, 1, [], []), (31, .if_icmp .ne 10, 3, [], [])],
  [(34, .aload_n 0, 1, [], []), (35, .invokevirtual 136, 3, [1, 137, 1, 7, 864, 866, 42, 73, 867], []), (38, .goto 16, 3, [], []), (41, .aload_n 0, 1, [], []), (42, .invokevirtual 152, 3, [1, 144, 1, 7, 884, 886, 44, 73, 887], []), (45, .iconst (-1), 1, [], []), (46, .if_icmp .ne 7, 3, [], [])],
  [(49, .iconst 1, 1, [], []), (50, .goto 4, 3, [], []), (53, .iconst 0, 1, [], []), (54, .ireturn, 1, [0], []), (55, .iload_n 1, 1, [], []), (56, .bipush 6, 2, [], []), (58, .if_icmp .ge 30, 3, [], []), (61, .iload_n 1, 1, [], []), (62, .iconst 3, 1, [], []), (63, .if_icmp .ne 10, 3, [], [])],
  [(66, .aload_n 0, 1, [], []), (67, .invokevirtual 200, 3, [1, 156, 1, 7, 983, 985, 61, 73, 986], []), (70, .goto 17, 3, [], []), (73, .aload_n 0, 1, [], []), (74, .iload_n 1, 1, [], []), (75, .iconst 5, 1, [], []), (76, .if_icmp .ne 7, 3, [], []), (79, .iconst 1, 1, [], [])],
  [(80, .goto 4, 3, [], []), (83, .iconst 0, 1, [], []), (84, .invokevirtual 203, 3, [1, 168, 2, 7, 987, 989, 62, 73, 990], [0, 1]), (87, .ireturn, 1, [0], []), (88, .iload_n 1, 1, [], []), (89, .bipush 6, 2, [], []), (91, .if_icmp .ne 10, 3, [], []), (94, .aload_n 0, 1, [], []), (95, .invokevirtual 207, 3, [1, 169, 1, 7, 991, 993, 63, 73, 994], [])],
  [(98, .goto 33, 3, [], []), (101, .iload_n 1, 1, [], []), (102, .bipush 7, 2, [], []), (104, .if_icmp .ne 10, 3, [], []), (107, .aload_n 0, 1, [], []), (108, .invokevirtual 210, 3, [1, 145, 1, 7, 995, 997, 64, 73, 998], []), (111, .goto 20, 3, [], [])],
  [(114, .iload_n 1, 1, [], []), (115, .bipush 8, 2, [], []), (117, .if_icmp .ne 10, 3, [], []), (120, .aload_n 0, 1, [], []), (121, .getfield 48, 3, [7, 4, 0, 682], []), (124, .goto 7, 3, [], []), (127, .aload_n 0, 1, [], [])],
  [(128, .getfield 110, 3, [7, 8, 0, 686], []), (131, .ireturn, 1, [0], [])]]
def mNone : MI := ("", ⟨"", "", ""⟩, ⟨#[]⟩, 0, none, fun _ => none)
def mtl0 : List MI := [(RL, x, code, 4, some .boolean, cdT co0),
  (RX0, yX0_init, cX0_init, 2, none, cdT co1),
  (RX0, yX0_remember, cX0_remember, 3, some (.object "SometimesSums$Table"), cdT co2),
  (RX0, yX0_dropOldest, cX0_dropOldest, 3, none, cdT co3),
  (RX0, yX0_bringBack, cX0_bringBack, 2, some .boolean, cdT co4),
  (RX1, yX1_init, cX1_init, 1, none, cdT co5),
  (RX1, yX1_check, cX1_check, 4, none, cdT co6),
  (RX1, yX1_checkRegrouping, cX1_checkRegrouping, 7, none, cdT co7),
  (RX1, yX1_rests, cX1_rests, 4, some .int, cdT co8),
  (RX1, yX1_note, cX1_note, 5, none, cdT co9),
  (RX2, yX2_init, cX2_init, 1, none, cdT co10),
  (RX2, yX2_find, cX2_find, 5, none, cdT co11),
  (RX2, yX2_findTogether, cX2_findTogether, 7, none, cdT co12),
  (RX2, yX2_isSmallestPart, cX2_isSmallestPart, 2, some .boolean, cdT co13),
  (RX2, yX2_hasNoPartIn, cX2_hasNoPartIn, 3, some .boolean, cdT co14),
  (RX2, yX2_isSharp, cX2_isSharp, 3, some .boolean, cdT co15)]
def mtl1 : List MI := [(RX2, yX2_smallestParts, cX2_smallestParts, 3, some .int, cdT co16),
  (RX2, yX2_smallestPartsWithin, cX2_smallestPartsWithin, 4, some .int, cdT co17),
  (RX2, yX2_sharpThings, cX2_sharpThings, 3, some .int, cdT co18),
  (RX2, yX2_pairsApart, cX2_pairsApart, 4, some .int, cdT co19),
  (RX2, yX2_blocks, cX2_blocks, 3, some .int, cdT co20),
  (RX2, yX2_blockAt, cX2_blockAt, 4, some .int, cdT co21),
  (RX2, yX2_isBlock, cX2_isBlock, 4, some .boolean, cdT co22),
  (RX3, yX3_init, cX3_init, 1, none, cdT co23),
  (RX3, yX3_has, cX3_has, 2, some .boolean, cdT co24),
  (RX3, yX3_at, cX3_at, 3, some .int, cdT co25),
  (RX3, yX3_hasSum, cX3_hasSum, 3, some .boolean, cdT co26),
  (RX3, yX3_put, cX3_put, 4, none, cdT co27),
  (RX3, yX3_empty, cX3_empty, 3, none, cdT co28),
  (RX3, yX3_widen, cX3_widen, 3, none, cdT co29),
  (RX3, yX3_become, cX3_become, 2, none, cdT co30),
  (RX3, yX3_addRenumbered, cX3_addRenumbered, 6, none, cdT co31)]
def mtl2 : List MI := [(RX3, yX3_addChain, cX3_addChain, 6, none, cdT co32),
  (RX3, yX3_fillWithSets, cX3_fillWithSets, 5, none, cdT co33),
  (RX3, yX3_thingOfSet, cX3_thingOfSet, 2, some .int, cdT co34),
  (RX3, yX3_fillWithPairs, cX3_fillWithPairs, 6, none, cdT co35),
  (RX3, yX3_pairWith0, cX3_pairWith0, 1, some .int, cdT co36),
  (RX3, yX3_pairWith1, cX3_pairWith1, 2, some .int, cdT co37),
  (RX3, yX3_leastAddend, cX3_leastAddend, 4, some .int, cdT co38),
  (RX3, yX3_rest, cX3_rest, 2, some .int, cdT co39),
  (RX3, yX3_addends, cX3_addends, 4, some .int, cdT co40),
  (RX3, yX3_pairsWithSum, cX3_pairsWithSum, 4, some .int, cdT co41),
  (RX3, yX3_pairsNaming, cX3_pairsNaming, 8, some .int, cdT co42),
  (RX4, yX4_init, cX4_init, 1, none, cdT co43),
  (RX4, yX4_append, cX4_append, 2, some .boolean, cdT co44),
  (RX4, yX4_read, cX4_read, 2, some .int, cdT co45),
  (RX4, yX4_readSum, cX4_readSum, 4, some .boolean, cdT co46),
  (RX4, yX4_readThing, cX4_readThing, 3, some .int, cdT co47)]
def mtl3 : List MI := [(RX4, yX4_digit, cX4_digit, 2, some .int, cdT co48),
  (RX4, yX4_skip, cX4_skip, 2, some .boolean, cdT co49),
  (RX4, yX4_greatestThing, cX4_greatestThing, 3, some .int, cdT co50),
  (RX4, yX4_addsNothing, cX4_addsNothing, 2, some .boolean, cdT co51),
  (RX4, yX4_putSums, cX4_putSums, 3, none, cdT co52),
  (RX5, yX5_init, cX5_init, 1, none, cdT co53),
  (RX5, yX5_find, cX5_find, 4, none, cdT co54),
  (RX5, yX5_gatherPairs, cX5_gatherPairs, 5, none, cdT co55),
  (RX5, yX5_setFirstRanges, cX5_setFirstRanges, 3, none, cdT co56),
  (RX5, yX5_narrow, cX5_narrow, 9, some .boolean, cdT co57),
  (RX5, yX5_narrowBySum, cX5_narrowBySum, 5, some .boolean, cdT co58),
  (RX5, yX5_limit, cX5_limit, 5, some .boolean, cdT co59),
  (RX5, yX5_isEmpty, cX5_isEmpty, 2, some .boolean, cdT co60),
  (RX5, yX5_isOpen, cX5_isOpen, 2, some .boolean, cdT co61),
  (RX5, yX5_formGroups, cX5_formGroups, 2, none, cdT co62),
  (RX5, yX5_joinGroups, cX5_joinGroups, 4, none, cdT co63)]
def mtl4 : List MI := [(RX5, yX5_startRange, cX5_startRange, 4, none, cdT co64),
  (RX5, yX5_weigh, cX5_weigh, 6, none, cdT co65),
  (RX5, yX5_weighWith, cX5_weighWith, 6, none, cdT co66),
  (RX5, yX5_firstOpenThing, cX5_firstOpenThing, 4, some .int, cdT co67),
  (RX5, yX5_copyRanges, cX5_copyRanges, 3, none, cdT co68),
  (RX5, yX5_noteWeighing, cX5_noteWeighing, 5, none, cdT co69),
  (RX6, yX6_init, cX6_init, 1, none, cdT co70),
  (RX6, yX6_take, cX6_take, 4, some .int, cdT co71),
  (RX6, yX6_addThing, cX6_addThing, 1, some .int, cdT co72),
  (RX6, yX6_removeThing, cX6_removeThing, 4, some .int, cdT co73),
  (RX6, yX6_setSum, cX6_setSum, 5, some .int, cdT co74),
  (RX6, yX6_clearSum, cX6_clearSum, 4, some .int, cdT co75),
  (RX6, yX6_readSums, cX6_readSums, 2, some .int, cdT co76),
  (RX6, yX6_glue, cX6_glue, 2, some .int, cdT co77),
  (RX6, yX6_twice, cX6_twice, 2, some .int, cdT co78),
  (RX6, yX6_swap, cX6_swap, 5, some .int, cdT co79)]
def mtl5 : List MI := [(RX6, yX6_type, cX6_type, 2, some .int, cdT co80),
  (RX6, yX6_clearText, cX6_clearText, 2, some .int, cdT co81),
  (RX6, yX6_undo, cX6_undo, 1, some .int, cdT co82),
  (RX6, yX6_keep, cX6_keep, 1, some .int, cdT co83),
  (RX6, yX6_restore, cX6_restore, 1, some .int, cdT co84),
  (RX6, yX6_sum, cX6_sum, 3, some .int, cdT co85),
  (RX6, yX6_difference, cX6_difference, 3, some .int, cdT co86),
  (RX6, yX6_broken, cX6_broken, 3, some .int, cdT co87),
  (RX6, yX6_thing, cX6_thing, 3, some .int, cdT co88),
  (RX6, yX6_sumOf, cX6_sumOf, 4, some .int, cdT co89),
  (RX6, yX6_block, cX6_block, 4, some .int, cdT co90),
  (RX6, yX6_weighings, cX6_weighings, 2, some .int, cdT co91),
  (RX6, yX6_weight, cX6_weight, 4, some .int, cdT co92),
  (RX6, yX6_range, cX6_range, 5, some .int, cdT co93),
  (RX6, yX6_count, cX6_count, 2, some .int, cdT co94),
  (RX6, yX6_bit, cX6_bit, 1, some .int, cdT co95)]
def mtl6 : List MI := [(RX6, yX6_isNothingOrWhole, cX6_isNothingOrWhole, 1, some .boolean, cdT co96),
  (RX6, yX6_thingOrNone, cX6_thingOrNone, 1, some .int, cdT co97),
  (RX6, yX6_isWholeWeight, cX6_isWholeWeight, 1, some .boolean, cdT co98),
  (RX6, yX6_weighingError, cX6_weighingError, 3, some .int, cdT co99),
  (RX6, yX6_timesAddable, cX6_timesAddable, 4, some .int, cdT co100),
  (RX7, yX7_init, cX7_init, 2, none, cdT co101),
  (RX7, yX7_in, cX7_in, 3, some .boolean, cdT co102),
  (RX7, yX7_isThing, cX7_isThing, 2, some .boolean, cdT co103),
  (RX7, yX7_plus, cX7_plus, 3, some .int, cdT co104),
  (RX7, yX7_tells, cX7_tells, 4, none, cdT co105),
  (RX7, yX7_lays, cX7_lays, 4, none, cdT co106),
  (RX7, yX7_gets, cX7_gets, 4, none, cdT co107),
  (RX7, yX7_records, cX7_records, 2, none, cdT co108),
  (RX7, yX7_undo, cX7_undo, 1, some .int, cdT co109),
  (RX7, yX7_keep, cX7_keep, 1, some .int, cdT co110),
  (RX7, yX7_restore, cX7_restore, 1, some .int, cdT co111)]
def mtl7 : List MI := [(RX7, yX7_empties, cX7_empties, 3, none, cdT co112),
  (RX7, yX7_linkOf, cX7_linkOf, 3, some .int, cdT co113),
  (RX7, yX7_chains, cX7_chains, 5, none, cdT co114),
  (RX7, yX7_setOf, cX7_setOf, 2, some .int, cdT co115),
  (RX7, yX7_thingOf, cX7_thingOf, 2, some .int, cdT co116),
  (RX7, yX7_unites, cX7_unites, 4, none, cdT co117),
  (RX7, yX7_take, cX7_take, 3, some .int, cdT co118),
  (RX7, yX7_comes, cX7_comes, 2, none, cdT co119),
  (RX7, yX7_addThing, cX7_addThing, 1, some .int, cdT co120),
  (RX7, yX7_removeThing, cX7_removeThing, 7, some .int, cdT co121),
  (RX7, yX7_moves, cX7_moves, 2, none, cdT co122),
  (RX7, yX7_setSum, cX7_setSum, 5, some .int, cdT co123),
  (RX7, yX7_clearSum, cX7_clearSum, 4, some .int, cdT co124),
  (RX7, yX7_glue, cX7_glue, 4, some .int, cdT co125),
  (RX7, yX7_pairOf, cX7_pairOf, 3, some .int, cdT co126),
  (RX7, yX7_twice, cX7_twice, 6, some .int, cdT co127)]
def mtl8 : List MI := [(RX7, yX7_turned, cX7_turned, 3, some .int, cdT co128),
  (RX7, yX7_swap, cX7_swap, 8, some .int, cdT co129),
  (RX7, yX7_type, cX7_type, 2, some .int, cdT co130),
  (RX7, yX7_clearText, cX7_clearText, 2, some .int, cdT co131),
  (RX7, yX7_isAt, cX7_isAt, 3, some .boolean, cdT co132),
  (RX7, yX7_isSign, cX7_isSign, 3, some .boolean, cdT co133),
  (RX7, yX7_isNumber, cX7_isNumber, 1, some .boolean, cdT co134),
  (RX7, yX7_isRow, cX7_isRow, 2, some .boolean, cdT co135),
  (RX7, yX7_readSums, cX7_readSums, 3, some .int, cdT co136),
  (RX7, yX7_sums, cX7_sums, 4, some .int, cdT co137),
  (RX7, yX7_sum, cX7_sum, 4, some .int, cdT co138),
  (RX7, yX7_lacks, cX7_lacks, 5, some .int, cdT co139),
  (RX7, yX7_difference, cX7_difference, 4, some .int, cdT co140),
  (RX7, yX7_isUnlike, cX7_isUnlike, 7, some .boolean, cdT co141),
  (RX7, yX7_isUnmet, cX7_isUnmet, 4, some .boolean, cdT co142),
  (RX7, yX7_isAbove, cX7_isAbove, 2, some .boolean, cdT co143)]
def mtl9 : List MI := [(RX7, yX7_firstBreak, cX7_firstBreak, 5, some .int, cdT co144),
  (RX7, yX7_breaks, cX7_breaks, 5, some .int, cdT co145),
  (RX7, yX7_broken, cX7_broken, 3, some .int, cdT co146),
  (RX7, yX7_partsOf, cX7_partsOf, 4, some .int, cdT co147),
  (RX7, yX7_isSmallest, cX7_isSmallest, 2, some .boolean, cdT co148),
  (RX7, yX7_isSharp, cX7_isSharp, 3, some .boolean, cdT co149),
  (RX7, yX7_isMet, cX7_isMet, 7, some .boolean, cdT co150),
  (RX7, yX7_meets, cX7_meets, 7, none, cdT co151),
  (RX7, yX7_multiple, cX7_multiple, 4, some .int, cdT co152),
  (RX7, yX7_thing, cX7_thing, 6, some .int, cdT co153),
  (RX7, yX7_sumOf, cX7_sumOf, 4, some .int, cdT co154),
  (RX7, yX7_isBlock, cX7_isBlock, 5, some .boolean, cdT co155),
  (RX7, yX7_blocks, cX7_blocks, 3, some .int, cdT co156),
  (RX7, yX7_block, cX7_block, 8, some .int, cdT co157),
  (RX7, yX7_isDrawn, cX7_isDrawn, 8, some .boolean, cdT co158),
  (RX7, yX7_isRaised, cX7_isRaised, 5, some .boolean, cdT co159)]
def mtl10 : List MI := [(RX7, yX7_isLowered, cX7_isLowered, 5, some .boolean, cdT co160),
  (RX7, yX7_isOpen, cX7_isOpen, 6, some .boolean, cdT co161),
  (RX7, yX7_weighs, cX7_weighs, 4, none, cdT co162),
  (RX7, yX7_weighed, cX7_weighed, 7, some .int, cdT co163),
  (RX7, yX7_isWeight, cX7_isWeight, 1, some .boolean, cdT co164),
  (RX7, yX7_weighings, cX7_weighings, 2, some .int, cdT co165),
  (RX7, yX7_weight, cX7_weight, 3, some .int, cdT co166),
  (RX7, yX7_range, cX7_range, 6, some .int, cdT co167),
  (RX7, yX7_kinds, cX7_kinds, 4, some .int, cdT co168),
  (RX7, yX7_unmet, cX7_unmet, 4, some .int, cdT co169),
  (RX7, yX7_count, cX7_count, 2, some .int, cdT co170)]
def mtls : List (List MI) := [mtl0, mtl1, mtl2, mtl3, mtl4, mtl5, mtl6, mtl7, mtl8, mtl9, mtl10]
def mt (k : Nat) : MI := (mtls.getD (k / 16) []).getD (k % 16) mNone
def mOwn (k : Nat) : String := (mt k).1
def mY (k : Nat) : MethodName := (mt k).2.1
def mB (k : Nat) : ByteArray := (mt k).2.2.1
def mL (k : Nat) : Nat := (mt k).2.2.2.1
def mRet (k : Nat) : Option FieldType := (mt k).2.2.2.2.1
def cd (k pc : Nat) : Option MC := (mt k).2.2.2.2.2 pc
def skds : List (List Nat) := [[0, 1], [0, 0, 0, 0, 0], [1, 1, 1, 1, 0], [0, 1], [0, 1, 0, 0, 1, 1, 1], [0, 1, 1, 1, 0, 0, 1, 1, 1, 1, 1, 1, 0], [1, 1, 2, 1, 1, 1, 1, 1, 1], [0, 1, 1, 1, 0, 1, 2, 1, 0, 0, 1, 0, 0, 1, 1, 1, 1]]
def skd (ci k : Nat) : Nat := (skds.getD ci []).getD k 9
end
section
/-! the small machine runs: by steps and depth; then without steps -/
abbrev RS : Type := Option (Option MV × MW)
def entry (k : Nat) (as : List MV) : List (Option MV) := as.map some ++ List.replicate (mL k - as.length) none
def pushR (kind : Nat) (v : Option MV) (st : List MV) : Option (List MV) := match kind, v with
  | 0, none => some st
  | 1, some (.inl x) => some (.inl x :: st)
  | 2, some (.inr x) => some (.inr x :: st)
  | _, _ => none
def stepAt (X : Nat × (Nat → Int)) (k pc : Nat) (L : List (Option MV)) (st : List MV) (w : MW) : Option Act := match cd k pc with
  | none => none
  | some (i, n, u, ds) => mstep X i n u pc (kill ds L) st w
def ex (X : Nat × (Nat → Int)) : Nat → Nat → Nat → Nat → List (Option MV) → List MV → MW → RS
  | 0, _, _, _, _, _, _ => none
  | n + 1, d, k, pc, L, st, w => match stepAt X k pc L st w with
    | none => none
    | some (.inl (pc', L', st', w')) => ex X n d k pc' L' st' w'
    | some (.inr (.inl r)) => some r
    | some (.inr (.inr (kind, k', as, pc', L', st', w'))) => match d with
      | 0 => none
      | d + 1 => match ex X n d k' 0 (entry k' as) [] w' with
        | none => none
        | some r => match pushR kind r.1 st' with
          | none => none
          | some st2 => ex X n (d + 1) k pc' L' st2 r.2
theorem ex_step {X : Nat × (Nat → Int)} : ∀ (n d k pc : Nat) (L : List (Option MV)) (st : List MV) (w : MW) (r : Option MV × MW), ex X n d k pc L st w = some r → ex X (n + 1) d k pc L st w = some r := by
  intro n
  induction n with
  | zero => intro d k pc L st w r h; simp [ex] at h
  | succ n ih =>
    intro d k pc L st w r h
    rw [ex] at h ⊢
    cases hs : stepAt X k pc L st w with
    | none => rw [hs] at h; cases h
    | some a =>
      rw [hs] at h
      rcases a with ⟨pc', L', st', w'⟩ | r' | ⟨kind, k', as, pc', L', st', w'⟩
      · exact ih _ _ _ _ _ _ _ h
      · exact h
      · cases d with
        | zero => cases h
        | succ d =>
          dsimp only at h ⊢
          cases h1 : ex X n d k' 0 (entry k' as) [] w' with
          | none => rw [h1] at h; cases h
          | some r1 =>
            rw [h1] at h
            rw [ih _ _ _ _ _ _ _ h1]
            dsimp only at h ⊢
            cases h2 : pushR kind r1.1 st' with
            | none => rw [h2] at h; cases h
            | some st2 => rw [h2] at h; exact ih _ _ _ _ _ _ _ h
theorem ex_le {X : Nat × (Nat → Int)} {n m d k pc : Nat} {L : List (Option MV)} {st : List MV} {w : MW} {r : Option MV × MW} (hm : n ≤ m) (h : ex X n d k pc L st w = some r) : ex X m d k pc L st w = some r := by
  induction hm with
  | refl => exact h
  | step _ ih => exact ex_step _ _ _ _ _ _ _ _ ih
theorem ex_one {X : Nat × (Nat → Int)} {n m d k pc : Nat} {L : List (Option MV)} {st : List MV} {w : MW} {r q : Option MV × MW} (h : ex X n d k pc L st w = some r) (h2 : ex X m d k pc L st w = some q) : r = q := by
  have a := ex_le (Nat.le_max_left n m) h
  have b := ex_le (Nat.le_max_right n m) h2
  rw [a] at b
  exact Option.some.inj b
/-- the run, however many steps it takes -/
noncomputable def R (X : Nat × (Nat → Int)) (d k pc : Nat) (L : List (Option MV)) (st : List MV) (w : MW) : RS := by
  classical exact if h : ∃ r n, ex X n d k pc L st w = some r then some (Classical.choose h) else none
theorem R_iff {X : Nat × (Nat → Int)} {d k pc : Nat} {L : List (Option MV)} {st : List MV} {w : MW} {r : Option MV × MW} : R X d k pc L st w = some r ↔ ∃ n, ex X n d k pc L st w = some r := by
  unfold R
  constructor
  · intro h
    split at h
    · rename_i hx
      obtain ⟨n, hn⟩ := Classical.choose_spec hx
      exact ⟨n, by rw [hn]; exact h⟩
    · cases h
  · rintro ⟨n, hn⟩
    have hx : ∃ r n, ex X n d k pc L st w = some r := ⟨r, n, hn⟩
    rw [dif_pos hx]
    obtain ⟨m, hm⟩ := Classical.choose_spec hx
    rw [ex_one hm hn]
def rV (o : RS) (f : MW → RS) : RS := match o with
  | some (none, w) => f w
  | _ => none
def rI (o : RS) (f : Int → MW → RS) : RS := match o with
  | some (some (.inl x), w) => f x w
  | _ => none
def rR (o : RS) (f : Nat → MW → RS) : RS := match o with
  | some (some (.inr x), w) => f x w
  | _ => none
def rO (o : Option Nat) (f : Nat → RS) : RS := match o with
  | some x => f x
  | none => none
noncomputable def run (X : Nat × (Nat → Int)) (d k : Nat) (as : List MV) (w : MW) : RS := R X d k 0 (entry k as) [] w
noncomputable def fin (X : Nat × (Nat → Int)) (d k : Nat) : Option Act → RS
  | none => none
  | some (.inl (pc', L', st', w')) => R X d k pc' L' st' w'
  | some (.inr (.inl r)) => some r
  | some (.inr (.inr (kind, k', as, pc', L', st', w'))) => match d with
    | 0 => none
    | d + 1 => match kind with
      | 0 => rV (run X d k' as w') fun v => R X (d + 1) k pc' L' st' v
      | 1 => rI (run X d k' as w') fun x v => R X (d + 1) k pc' L' (.inl x :: st') v
      | 2 => rR (run X d k' as w') fun x v => R X (d + 1) k pc' L' (.inr x :: st') v
      | _ => none
theorem rs_ext {a b : RS} (h : ∀ r, a = some r ↔ b = some r) : a = b := by
  cases a with
  | none => cases b with
    | none => rfl
    | some y => exact absurd ((h y).mpr rfl) (by simp)
  | some x => exact ((h x).mp rfl).symm
theorem fin_call (X : Nat × (Nat → Int)) (d k kind k' : Nat) (as : List MV) (pc : Nat) (L : List (Option MV)) (st : List MV) (w : MW) (r : Option MV × MW) :
    fin X (d + 1) k (some (.inr (.inr (kind, k', as, pc, L, st, w)))) = some r ↔ ∃ q st2, run X d k' as w = some q ∧ pushR kind q.1 st = some st2 ∧ R X (d + 1) k pc L st2 q.2 = some r := by
  unfold fin
  match kind with
  | 0 =>
    dsimp only
    rcases run X d k' as w with _ | ⟨_ | x | x, v⟩ <;> simp [rV, pushR]
  | 1 =>
    dsimp only
    rcases run X d k' as w with _ | ⟨_ | x | x, v⟩ <;> simp [rI, pushR]
  | 2 =>
    dsimp only
    rcases run X d k' as w with _ | ⟨_ | x | x, v⟩ <;> simp [rR, pushR]
  | n + 3 =>
    dsimp only
    rcases run X d k' as w with _ | ⟨_ | x | x, v⟩ <;> simp [pushR]
theorem R_eq (X : Nat × (Nat → Int)) (d k pc : Nat) (L : List (Option MV)) (st : List MV) (w : MW) : R X d k pc L st w = fin X d k (stepAt X k pc L st w) := by
  apply rs_ext
  intro r
  rw [R_iff]
  constructor
  · rintro ⟨n, h⟩
    cases n with
    | zero => simp [ex] at h
    | succ n =>
      rw [ex] at h
      cases hs : stepAt X k pc L st w with
      | none => rw [hs] at h; cases h
      | some a =>
        rw [hs] at h
        rcases a with ⟨pc', L', st', w'⟩ | r' | ⟨kind, k', as, pc', L', st', w'⟩
        · exact R_iff.mpr ⟨n, h⟩
        · exact h
        · cases d with
          | zero => cases h
          | succ d =>
            dsimp only at h
            cases h1 : ex X n d k' 0 (entry k' as) [] w' with
            | none => rw [h1] at h; cases h
            | some r1 =>
              rw [h1] at h
              dsimp only at h
              cases h2 : pushR kind r1.1 st' with
              | none => rw [h2] at h; cases h
              | some st2 => rw [h2] at h; exact (fin_call ..).mpr ⟨r1, st2, R_iff.mpr ⟨n, h1⟩, h2, R_iff.mpr ⟨n, h⟩⟩
  · intro h
    cases hs : stepAt X k pc L st w with
    | none => rw [hs] at h; cases h
    | some a =>
      rw [hs] at h
      rcases a with ⟨pc', L', st', w'⟩ | r' | ⟨kind, k', as, pc', L', st', w'⟩
      · obtain ⟨n, hn⟩ := R_iff.mp h
        exact ⟨n + 1, by rw [ex, hs]; exact hn⟩
      · exact ⟨1, by rw [ex, hs]; exact h⟩
      · cases d with
        | zero => cases h
        | succ d =>
          obtain ⟨r1, st2, h1, h2, h3⟩ := (fin_call ..).mp h
          obtain ⟨n1, h1⟩ := R_iff.mp h1
          obtain ⟨n3, h3⟩ := R_iff.mp h3
          refine ⟨max n1 n3 + 1, ?_⟩
          rw [ex, hs]
          dsimp only
          rw [ex_le (Nat.le_max_left n1 n3) h1]
          dsimp only
          rw [h2]
          exact ex_le (Nat.le_max_right n1 n3) h3
theorem R_of {X : Nat × (Nat → Int)} {d k pc n : Nat} {i : Instr} {u ds : List Nat} {L L' : List (Option MV)} {st : List MV} {w : MW} (h : cd k pc = some (i, n, u, ds)) (hk : kill ds L = L') : R X d k pc L st w = fin X d k (mstep X i n u pc L' st w) := by
  rw [R_eq, stepAt, h]
  dsimp only
  rw [hk]
theorem fin_gd {X : Nat × (Nat → Int)} {d k : Nat} {c : Prop} [Decidable c] {o : Option Act} : fin X d k (gd c o) = gd c (fin X d k o) := by
  unfold gd
  split <;> rfl
theorem fin_ite {X : Nat × (Nat → Int)} {d k : Nat} {c : Prop} [Decidable c] {o o' : Option Act} : fin X d k (if c then o else o') = if c then fin X d k o else fin X d k o' := by
  split <;> rfl
end
section
/-! one row an instruction: what the run from there is, given what it is behind it -/
section Q
variable {X : Nat × (Nat → Int)} {d k pc q n : Nat} {u ds : List Nat} {L L1 : List (Option MV)} {st : List MV} {w : MW} {G : RS}
theorem q_iconst {z : Int} (h : cd k pc = some (.iconst z, n, u, ds)) (hk : kill ds L = L1) (hz : -1 ≤ z ∧ z ≤ 5) (hq : pc + 1 = q) (g : R X d k q L1 (.inl z :: st) w = G) : R X d k pc L st w = G := by subst hq; rw [R_of h hk]; simp only [mstep, gd, if_pos hz]; exact g
theorem q_bipush {z : Int} (h : cd k pc = some (.bipush z, n, u, ds)) (hk : kill ds L = L1) (hz : -128 ≤ z ∧ z ≤ 127) (hq : pc + 2 = q) (g : R X d k q L1 (.inl z :: st) w = G) : R X d k pc L st w = G := by subst hq; rw [R_of h hk]; simp only [mstep, gd, if_pos hz]; exact g
theorem q_sipush {z : Int} (h : cd k pc = some (.sipush z, n, u, ds)) (hk : kill ds L = L1) (hz : -32768 ≤ z ∧ z ≤ 32767) (hq : pc + 3 = q) (g : R X d k q L1 (.inl z :: st) w = G) : R X d k pc L st w = G := by subst hq; rw [R_of h hk]; simp only [mstep, gd, if_pos hz]; exact g
theorem q_iload_n {j : Fin 4} {v : Int} (h : cd k pc = some (.iload_n j, n, u, ds)) (hk : kill ds L = L1) (hl : L1[(j : Nat)]? = some (some (.inl v))) (hq : pc + 1 = q) (g : R X d k q L1 (.inl v :: st) w = G) : R X d k pc L st w = G := by subst hq; rw [R_of h hk]; simp only [mstep, lgI, lgR, hl]; exact g
theorem q_iload {j : Nat} {v : Int} (h : cd k pc = some (.iload j, n, u, ds)) (hk : kill ds L = L1) (hl : L1[(j : Nat)]? = some (some (.inl v))) (hq : pc + 2 = q) (g : R X d k q L1 (.inl v :: st) w = G) : R X d k pc L st w = G := by subst hq; rw [R_of h hk]; simp only [mstep, lgI, lgR, hl]; exact g
theorem q_aload_n {j : Fin 4} {v : Nat} (h : cd k pc = some (.aload_n j, n, u, ds)) (hk : kill ds L = L1) (hl : L1[(j : Nat)]? = some (some (.inr v))) (hq : pc + 1 = q) (g : R X d k q L1 (.inr v :: st) w = G) : R X d k pc L st w = G := by subst hq; rw [R_of h hk]; simp only [mstep, lgI, lgR, hl]; exact g
theorem q_aload {j : Nat} {v : Nat} (h : cd k pc = some (.aload j, n, u, ds)) (hk : kill ds L = L1) (hl : L1[(j : Nat)]? = some (some (.inr v))) (hq : pc + 2 = q) (g : R X d k q L1 (.inr v :: st) w = G) : R X d k pc L st w = G := by subst hq; rw [R_of h hk]; simp only [mstep, lgI, lgR, hl]; exact g
theorem q_istore_n {j : Fin 4} {v : Int} {L2 : List (Option MV)} (h : cd k pc = some (.istore_n j, n, u, ds)) (hk : kill ds L = L1) (hj : Nat.blt (j : Nat) L1.length = true) (hl : L1.set (j : Nat) (some (.inl v)) = L2) (hq : pc + 1 = q) (g : R X d k q L2 st w = G) : R X d k pc L (.inl v :: st) w = G := by subst hq; subst hl; rw [R_of h hk]; simp only [mstep, s1I, s1R, gd, if_pos (show (j : Nat) < L1.length from Nat.le_of_ble_eq_true hj)]; exact g
theorem q_istore {j : Nat} {v : Int} {L2 : List (Option MV)} (h : cd k pc = some (.istore j, n, u, ds)) (hk : kill ds L = L1) (hj : Nat.blt (j : Nat) L1.length = true) (hl : L1.set (j : Nat) (some (.inl v)) = L2) (hq : pc + 2 = q) (g : R X d k q L2 st w = G) : R X d k pc L (.inl v :: st) w = G := by subst hq; subst hl; rw [R_of h hk]; simp only [mstep, s1I, s1R, gd, if_pos (show (j : Nat) < L1.length from Nat.le_of_ble_eq_true hj)]; exact g
theorem q_astore_n {j : Fin 4} {v : Nat} {L2 : List (Option MV)} (h : cd k pc = some (.astore_n j, n, u, ds)) (hk : kill ds L = L1) (hj : Nat.blt (j : Nat) L1.length = true) (hl : L1.set (j : Nat) (some (.inr v)) = L2) (hq : pc + 1 = q) (g : R X d k q L2 st w = G) : R X d k pc L (.inr v :: st) w = G := by subst hq; subst hl; rw [R_of h hk]; simp only [mstep, s1I, s1R, gd, if_pos (show (j : Nat) < L1.length from Nat.le_of_ble_eq_true hj)]; exact g
theorem q_astore {j : Nat} {v : Nat} {L2 : List (Option MV)} (h : cd k pc = some (.astore j, n, u, ds)) (hk : kill ds L = L1) (hj : Nat.blt (j : Nat) L1.length = true) (hl : L1.set (j : Nat) (some (.inr v)) = L2) (hq : pc + 2 = q) (g : R X d k q L2 st w = G) : R X d k pc L (.inr v :: st) w = G := by subst hq; subst hl; rw [R_of h hk]; simp only [mstep, s1I, s1R, gd, if_pos (show (j : Nat) < L1.length from Nat.le_of_ble_eq_true hj)]; exact g
theorem q_iadd {x y : Int} (h : cd k pc = some (.iadd, n, u, ds)) (hk : kill ds L = L1)  (hq : pc + 1 = q) (g : R X d k q L1 (.inl (wrap (x + y)) :: st) w = G) : R X d k pc L (.inl y :: .inl x :: st) w = G := by subst hq; exact (R_of h hk).trans g
theorem q_isub {x y : Int} (h : cd k pc = some (.isub, n, u, ds)) (hk : kill ds L = L1)  (hq : pc + 1 = q) (g : R X d k q L1 (.inl (wrap (x - y)) :: st) w = G) : R X d k pc L (.inl y :: .inl x :: st) w = G := by subst hq; exact (R_of h hk).trans g
theorem q_imul {x y : Int} (h : cd k pc = some (.imul, n, u, ds)) (hk : kill ds L = L1)  (hq : pc + 1 = q) (g : R X d k q L1 (.inl (wrap (x * y)) :: st) w = G) : R X d k pc L (.inl y :: .inl x :: st) w = G := by subst hq; exact (R_of h hk).trans g
theorem q_iand {x y : Int} (h : cd k pc = some (.iand, n, u, ds)) (hk : kill ds L = L1)  (hq : pc + 1 = q) (g : R X d k q L1 (.inl (andI x y) :: st) w = G) : R X d k pc L (.inl y :: .inl x :: st) w = G := by subst hq; exact (R_of h hk).trans g
theorem q_ior {x y : Int} (h : cd k pc = some (.ior, n, u, ds)) (hk : kill ds L = L1)  (hq : pc + 1 = q) (g : R X d k q L1 (.inl (orI x y) :: st) w = G) : R X d k pc L (.inl y :: .inl x :: st) w = G := by subst hq; exact (R_of h hk).trans g
theorem q_ixor {x y : Int} (h : cd k pc = some (.ixor, n, u, ds)) (hk : kill ds L = L1)  (hq : pc + 1 = q) (g : R X d k q L1 (.inl (xorI x y) :: st) w = G) : R X d k pc L (.inl y :: .inl x :: st) w = G := by subst hq; exact (R_of h hk).trans g
theorem q_ishl {x y : Int} (h : cd k pc = some (.ishl, n, u, ds)) (hk : kill ds L = L1)  (hq : pc + 1 = q) (g : R X d k q L1 (.inl (shlI x y) :: st) w = G) : R X d k pc L (.inl y :: .inl x :: st) w = G := by subst hq; exact (R_of h hk).trans g
theorem q_ishr {x y : Int} (h : cd k pc = some (.ishr, n, u, ds)) (hk : kill ds L = L1)  (hq : pc + 1 = q) (g : R X d k q L1 (.inl (shrI x y) :: st) w = G) : R X d k pc L (.inl y :: .inl x :: st) w = G := by subst hq; exact (R_of h hk).trans g
theorem q_iushr {x y : Int} (h : cd k pc = some (.iushr, n, u, ds)) (hk : kill ds L = L1)  (hq : pc + 1 = q) (g : R X d k q L1 (.inl (ushrI x y) :: st) w = G) : R X d k pc L (.inl y :: .inl x :: st) w = G := by subst hq; exact (R_of h hk).trans g
theorem q_idiv {x y : Int} (h : cd k pc = some (.idiv, n, u, ds)) (hk : kill ds L = L1) (hy : y ≠ 0) (hq : pc + 1 = q) (g : R X d k q L1 (.inl (divI x y) :: st) w = G) : R X d k pc L (.inl y :: .inl x :: st) w = G := by subst hq; rw [R_of h hk]; simp only [mstep, s2I, s1I, gd, if_pos hy]; exact g
theorem q_irem {x y : Int} (h : cd k pc = some (.irem, n, u, ds)) (hk : kill ds L = L1) (hy : y ≠ 0) (hq : pc + 1 = q) (g : R X d k q L1 (.inl (remI x y) :: st) w = G) : R X d k pc L (.inl y :: .inl x :: st) w = G := by subst hq; rw [R_of h hk]; simp only [mstep, s2I, s1I, gd, if_pos hy]; exact g
theorem q_i2c {x : Int} (h : cd k pc = some (.i2c, n, u, ds)) (hk : kill ds L = L1)  (hq : pc + 1 = q) (g : R X d k q L1 (.inl (chrI x) :: st) w = G) : R X d k pc L (.inl x :: st) w = G := by subst hq; exact (R_of h hk).trans g
theorem q_dup {v : MV} (h : cd k pc = some (.dup, n, u, ds)) (hk : kill ds L = L1)  (hq : pc + 1 = q) (g : R X d k q L1 (v :: v :: st) w = G) : R X d k pc L (v :: st) w = G := by subst hq; exact (R_of h hk).trans g
theorem q_dup2 {v v2 : MV} (h : cd k pc = some (.dup2, n, u, ds)) (hk : kill ds L = L1)  (hq : pc + 1 = q) (g : R X d k q L1 (v :: v2 :: v :: v2 :: st) w = G) : R X d k pc L (v :: v2 :: st) w = G := by subst hq; exact (R_of h hk).trans g
theorem q_pop {v : MV} (h : cd k pc = some (.pop, n, u, ds)) (hk : kill ds L = L1)  (hq : pc + 1 = q) (g : R X d k q L1 st w = G) : R X d k pc L (v :: st) w = G := by subst hq; exact (R_of h hk).trans g
theorem q_iinc {j : Nat} {z x : Int} {L2 : List (Option MV)} (h : cd k pc = some (.iinc j z, n, u, ds)) (hk : kill ds L = L1) (hl : L1[j]? = some (some (.inl x))) (hz : -32768 ≤ z ∧ z ≤ 32767) (h2 : L1.set j (some (.inl (wrap (x + z)))) = L2) (hq : pc + 3 = q) (g : R X d k q L2 st w = G) : R X d k pc L st w = G := by subst hq; subst h2; rw [R_of h hk]; simp only [mstep, lgI, hl, gd, if_pos (show j < L1.length ∧ -32768 ≤ z ∧ z ≤ 32767 from ⟨(List.getElem?_eq_some_iff.mp hl).1, hz⟩)]; exact g
theorem q_goto {off : Int} (h : cd k pc = some (.goto off, n, u, ds)) (hk : kill ds L = L1) (ho : 0 ≤ (pc : Int) + off) (hq : gto pc off = q) (g : R X d k q L1 st w = G) : R X d k pc L st w = G := by subst hq; rw [R_of h hk]; simp only [mstep, gd, if_pos ho]; exact g
theorem q_if_eq {off : Int} {q2 : Nat} {x : Int} {G2 : RS} (h : cd k pc = some (.ifCond .eq off, n, u, ds)) (hk : kill ds L = L1) (ho : 0 ≤ (pc : Int) + off) (hq : gto pc off = q) (hq2 : pc + 3 = q2) (g : R X d k q L1 st w = G) (g2 : R X d k q2 L1 st w = G2) : R X d k pc L (.inl x :: st) w = if x = 0 then G else G2 := by subst hq; subst hq2; subst g; subst g2; rw [R_of h hk]; simp only [mstep, s1I, gd, if_pos ho, tst, decide_eq_true_eq, fin_ite]; rfl
theorem q_icmp_eq {off : Int} {q2 : Nat} {x y : Int} {G2 : RS} (h : cd k pc = some (.if_icmp .eq off, n, u, ds)) (hk : kill ds L = L1) (ho : 0 ≤ (pc : Int) + off) (hq : gto pc off = q) (hq2 : pc + 3 = q2) (g : R X d k q L1 st w = G) (g2 : R X d k q2 L1 st w = G2) : R X d k pc L (.inl y :: .inl x :: st) w = if x = y then G else G2 := by subst hq; subst hq2; subst g; subst g2; rw [R_of h hk]; simp only [mstep, s2I, s1I, gd, if_pos ho, tst, decide_eq_true_eq, fin_ite]; rfl
theorem q_if_ne {off : Int} {q2 : Nat} {x : Int} {G2 : RS} (h : cd k pc = some (.ifCond .ne off, n, u, ds)) (hk : kill ds L = L1) (ho : 0 ≤ (pc : Int) + off) (hq : gto pc off = q) (hq2 : pc + 3 = q2) (g : R X d k q L1 st w = G) (g2 : R X d k q2 L1 st w = G2) : R X d k pc L (.inl x :: st) w = if x ≠ 0 then G else G2 := by subst hq; subst hq2; subst g; subst g2; rw [R_of h hk]; simp only [mstep, s1I, gd, if_pos ho, tst, decide_eq_true_eq, fin_ite]; rfl
theorem q_icmp_ne {off : Int} {q2 : Nat} {x y : Int} {G2 : RS} (h : cd k pc = some (.if_icmp .ne off, n, u, ds)) (hk : kill ds L = L1) (ho : 0 ≤ (pc : Int) + off) (hq : gto pc off = q) (hq2 : pc + 3 = q2) (g : R X d k q L1 st w = G) (g2 : R X d k q2 L1 st w = G2) : R X d k pc L (.inl y :: .inl x :: st) w = if x ≠ y then G else G2 := by subst hq; subst hq2; subst g; subst g2; rw [R_of h hk]; simp only [mstep, s2I, s1I, gd, if_pos ho, tst, decide_eq_true_eq, fin_ite]; rfl
theorem q_if_lt {off : Int} {q2 : Nat} {x : Int} {G2 : RS} (h : cd k pc = some (.ifCond .lt off, n, u, ds)) (hk : kill ds L = L1) (ho : 0 ≤ (pc : Int) + off) (hq : gto pc off = q) (hq2 : pc + 3 = q2) (g : R X d k q L1 st w = G) (g2 : R X d k q2 L1 st w = G2) : R X d k pc L (.inl x :: st) w = if x < 0 then G else G2 := by subst hq; subst hq2; subst g; subst g2; rw [R_of h hk]; simp only [mstep, s1I, gd, if_pos ho, tst, decide_eq_true_eq, fin_ite]; rfl
theorem q_icmp_lt {off : Int} {q2 : Nat} {x y : Int} {G2 : RS} (h : cd k pc = some (.if_icmp .lt off, n, u, ds)) (hk : kill ds L = L1) (ho : 0 ≤ (pc : Int) + off) (hq : gto pc off = q) (hq2 : pc + 3 = q2) (g : R X d k q L1 st w = G) (g2 : R X d k q2 L1 st w = G2) : R X d k pc L (.inl y :: .inl x :: st) w = if x < y then G else G2 := by subst hq; subst hq2; subst g; subst g2; rw [R_of h hk]; simp only [mstep, s2I, s1I, gd, if_pos ho, tst, decide_eq_true_eq, fin_ite]; rfl
theorem q_if_ge {off : Int} {q2 : Nat} {x : Int} {G2 : RS} (h : cd k pc = some (.ifCond .ge off, n, u, ds)) (hk : kill ds L = L1) (ho : 0 ≤ (pc : Int) + off) (hq : gto pc off = q) (hq2 : pc + 3 = q2) (g : R X d k q L1 st w = G) (g2 : R X d k q2 L1 st w = G2) : R X d k pc L (.inl x :: st) w = if 0 ≤ x then G else G2 := by subst hq; subst hq2; subst g; subst g2; rw [R_of h hk]; simp only [mstep, s1I, gd, if_pos ho, tst, decide_eq_true_eq, fin_ite]; rfl
theorem q_icmp_ge {off : Int} {q2 : Nat} {x y : Int} {G2 : RS} (h : cd k pc = some (.if_icmp .ge off, n, u, ds)) (hk : kill ds L = L1) (ho : 0 ≤ (pc : Int) + off) (hq : gto pc off = q) (hq2 : pc + 3 = q2) (g : R X d k q L1 st w = G) (g2 : R X d k q2 L1 st w = G2) : R X d k pc L (.inl y :: .inl x :: st) w = if y ≤ x then G else G2 := by subst hq; subst hq2; subst g; subst g2; rw [R_of h hk]; simp only [mstep, s2I, s1I, gd, if_pos ho, tst, decide_eq_true_eq, fin_ite]; rfl
theorem q_if_gt {off : Int} {q2 : Nat} {x : Int} {G2 : RS} (h : cd k pc = some (.ifCond .gt off, n, u, ds)) (hk : kill ds L = L1) (ho : 0 ≤ (pc : Int) + off) (hq : gto pc off = q) (hq2 : pc + 3 = q2) (g : R X d k q L1 st w = G) (g2 : R X d k q2 L1 st w = G2) : R X d k pc L (.inl x :: st) w = if 0 < x then G else G2 := by subst hq; subst hq2; subst g; subst g2; rw [R_of h hk]; simp only [mstep, s1I, gd, if_pos ho, tst, decide_eq_true_eq, fin_ite]; rfl
theorem q_icmp_gt {off : Int} {q2 : Nat} {x y : Int} {G2 : RS} (h : cd k pc = some (.if_icmp .gt off, n, u, ds)) (hk : kill ds L = L1) (ho : 0 ≤ (pc : Int) + off) (hq : gto pc off = q) (hq2 : pc + 3 = q2) (g : R X d k q L1 st w = G) (g2 : R X d k q2 L1 st w = G2) : R X d k pc L (.inl y :: .inl x :: st) w = if y < x then G else G2 := by subst hq; subst hq2; subst g; subst g2; rw [R_of h hk]; simp only [mstep, s2I, s1I, gd, if_pos ho, tst, decide_eq_true_eq, fin_ite]; rfl
theorem q_if_le {off : Int} {q2 : Nat} {x : Int} {G2 : RS} (h : cd k pc = some (.ifCond .le off, n, u, ds)) (hk : kill ds L = L1) (ho : 0 ≤ (pc : Int) + off) (hq : gto pc off = q) (hq2 : pc + 3 = q2) (g : R X d k q L1 st w = G) (g2 : R X d k q2 L1 st w = G2) : R X d k pc L (.inl x :: st) w = if x ≤ 0 then G else G2 := by subst hq; subst hq2; subst g; subst g2; rw [R_of h hk]; simp only [mstep, s1I, gd, if_pos ho, tst, decide_eq_true_eq, fin_ite]; rfl
theorem q_icmp_le {off : Int} {q2 : Nat} {x y : Int} {G2 : RS} (h : cd k pc = some (.if_icmp .le off, n, u, ds)) (hk : kill ds L = L1) (ho : 0 ≤ (pc : Int) + off) (hq : gto pc off = q) (hq2 : pc + 3 = q2) (g : R X d k q L1 st w = G) (g2 : R X d k q2 L1 st w = G2) : R X d k pc L (.inl y :: .inl x :: st) w = if x ≤ y then G else G2 := by subst hq; subst hq2; subst g; subst g2; rw [R_of h hk]; simp only [mstep, s2I, s1I, gd, if_pos ho, tst, decide_eq_true_eq, fin_ite]; rfl
def swt (x : Int) : List RS → Int → RS → RS
  | [], _, G => G
  | g :: r, z, G => if x = z then g else swt x r (z + 1) G
theorem q_switch {dflt hi : Int} {offs : Array Int} {x : Int} {gs : List RS} (h : cd k pc = some (.tableswitch dflt 0 hi offs, n, u, ds)) (hk : kill ds L = L1) (hd : 0 ≤ (pc : Int) + dflt ∧ hi + 1 = offs.size) (hs : (offs.toList.all fun o => decide (0 ≤ (pc : Int) + o)) = true) (hg : gs = offs.toList.map fun o => R X d k (gto pc o) L1 st w) (hq : gto pc dflt = q) (g : R X d k q L1 st w = G) : R X d k pc L (.inl x :: st) w = swt x gs 0 G := by
  subst hq; subst g; subst hg
  rw [R_of h hk]
  simp only [mstep, s1I]
  rw [fin_ite]
  obtain ⟨hd, hh⟩ := hd
  obtain ⟨l⟩ := offs
  simp only [List.size_toArray] at hh
  have key : ∀ (l : List Int) (z : Int), (l.all fun o => decide (0 ≤ (pc : Int) + o)) = true → swt x (l.map fun o => R X d k (gto pc o) L1 st w) z (R X d k (gto pc dflt) L1 st w) = if x < z ∨ z + l.length ≤ x then R X d k (gto pc dflt) L1 st w else fin X d k (match l[(x - z).toNat]? with
    | some off => gd (0 ≤ (pc : Int) + off) (aGo (gto pc off) L1 st w)
    | none => none) := by
    intro l
    induction l with
    | nil => intro z _; rw [if_pos (by simp only [List.length_nil]; omega)]; rfl
    | cons a l ih =>
      intro z ha
      simp only [List.all_cons, Bool.and_eq_true, decide_eq_true_eq] at ha
      simp only [List.map_cons, swt]
      by_cases hx : x = z
      · subst hx
        rw [if_pos rfl, if_neg (by simp only [List.length_cons]; omega)]
        simp only [Int.sub_self, Int.toNat_zero, List.getElem?_cons_zero, gd, if_pos ha.1]
        rfl
      · rw [if_neg hx, ih (z + 1) ha.2]
        by_cases hc : x < z + 1 ∨ z + 1 + l.length ≤ x
        · rw [if_pos hc, if_pos (by simp only [List.length_cons]; omega)]
        · rw [if_neg hc, if_neg (by simp only [List.length_cons]; omega)]
          have e : (x - z).toNat = (x - (z + 1)).toNat + 1 := by omega
          rw [e, List.getElem?_cons_succ]
  rw [key l 0 hs]
  by_cases hc : x < 0 ∨ hi < x
  · rw [if_pos hc, if_pos (by omega), fin_gd, gd, if_pos hd]
    rfl
  · rw [if_neg hc, if_neg (by omega)]
    simp only [List.getElem?_toArray]
    cases l[(x - 0).toNat]? <;> rfl
theorem q_getf {j ci f z : Nat} {a : Nat} (h : cd k pc = some (.getfield j, n, u, ds)) (hk : kill ds L = L1) (hu : u = [ci, f, 0, z]) (hq : pc + 3 = q) (g : R X d k q L1 (.inl (gi w a f) :: st) w = G) : R X d k pc L (.inr a :: st) w = gd (kd w a = 10 + ci) G := by subst hq; subst hu; subst g; rw [R_of h hk]; simp only [mstep, s1R]; exact fin_gd
theorem q_getr {j ci f z : Nat} {a : Nat} {F : Nat → RS} (h : cd k pc = some (.getfield j, n, u, ds)) (hk : kill ds L = L1) (hu : u = [ci, f, 1, z]) (hq : pc + 3 = q) (g : ∀ b : Nat, R X d k q L1 (.inr b :: st) w = F b) : R X d k pc L (.inr a :: st) w = gd (kd w a = 10 + ci) (rO (gr w a f) F) := by subst hq; subst hu; rw [R_of h hk]; simp only [mstep, s1R]; rw [fin_gd]; congr 1; cases gr w a f with
  | none => rfl
  | some b => exact g b
theorem q_putf {j ci f z : Nat} {a : Nat} {v : Int} (h : cd k pc = some (.putfield j, n, u, ds)) (hk : kill ds L = L1) (hu : u = [ci, f, 0, z]) (hq : pc + 3 = q) (g : R X d k q L1 st (si w a f v) = G) : R X d k pc L (.inl v :: .inr a :: st) w = gd (kd w a = 10 + ci) G := by subst hq; subst hu; subst g; rw [R_of h hk]; simp only [mstep, s1I, s1R]; exact fin_gd
theorem q_putz {j ci f z : Nat} {a : Nat} {v : Int} (h : cd k pc = some (.putfield j, n, u, ds)) (hk : kill ds L = L1) (hu : u = [ci, f, 2, z]) (hq : pc + 3 = q) (g : R X d k q L1 st (si w a f v) = G) : R X d k pc L (.inl v :: .inr a :: st) w = gd (kd w a = 10 + ci ∧ (v = 0 ∨ v = 1)) G := by subst hq; subst hu; subst g; rw [R_of h hk]; simp only [mstep, s1I, s1R]; exact fin_gd
theorem q_putr {j ci f z : Nat} {a v : Nat} (h : cd k pc = some (.putfield j, n, u, ds)) (hk : kill ds L = L1) (hu : u = [ci, f, 1, z]) (hq : pc + 3 = q) (g : R X d k q L1 st (sr w a f (some v)) = G) : R X d k pc L (.inr v :: .inr a :: st) w = gd (kd w a = 10 + ci) G := by subst hq; subst hu; subst g; rw [R_of h hk]; simp only [mstep, s1I, s1R]; exact fin_gd
theorem q_iald {a : Nat} {j : Int} (h : cd k pc = some (.iaload, n, u, ds)) (hk : kill ds L = L1) (hu : u = []) (hq : pc + 1 = q) (g : R X d k q L1 (.inl (gi w a j.toNat) :: st) w = G) : R X d k pc L (.inl j :: .inr a :: st) w = gd (kd w a = 1 ∧ 0 ≤ j ∧ j < ln w a) G := by subst hq; subst hu; subst g; rw [R_of h hk]; simp only [mstep, s1I, s1R]; exact fin_gd
theorem q_sald {a : Nat} {j : Int} (h : cd k pc = some (.iaload, n, u, ds)) (hk : kill ds L = L1) (hu : u = [1]) (hq : pc + 1 = q) (g : R X d k q L1 (.inl (X.2 j.toNat) :: st) w = G) : R X d k pc L (.inl j :: .inr a :: st) w = gd (a = 0 ∧ 0 ≤ j ∧ j < X.1) G := by subst hq; subst hu; subst g; rw [R_of h hk]; simp only [mstep, s1I, s1R]; exact fin_gd
theorem q_cald {a : Nat} {j : Int} (h : cd k pc = some (.caload, n, u, ds)) (hk : kill ds L = L1) (hq : pc + 1 = q) (g : R X d k q L1 (.inl (gi w a j.toNat) :: st) w = G) : R X d k pc L (.inl j :: .inr a :: st) w = gd (kd w a = 2 ∧ 0 ≤ j ∧ j < ln w a) G := by subst hq; subst g; rw [R_of h hk]; simp only [mstep, s1I, s1R]; exact fin_gd
theorem q_aald {a : Nat} {j : Int} {F : Nat → RS} (h : cd k pc = some (.aaload, n, u, ds)) (hk : kill ds L = L1) (hq : pc + 1 = q) (g : ∀ b : Nat, R X d k q L1 (.inr b :: st) w = F b) : R X d k pc L (.inl j :: .inr a :: st) w = gd (kd w a = 3 ∧ 0 ≤ j ∧ j < ln w a) (rO (gr w a j.toNat) F) := by subst hq; rw [R_of h hk]; simp only [mstep, s1I, s1R]; rw [fin_gd]; congr 1; cases gr w a j.toNat with
  | none => rfl
  | some b => exact g b
theorem q_iast {a : Nat} {j v : Int} (h : cd k pc = some (.iastore, n, u, ds)) (hk : kill ds L = L1) (hq : pc + 1 = q) (g : R X d k q L1 st (si w a j.toNat v) = G) : R X d k pc L (.inl v :: .inl j :: .inr a :: st) w = gd (kd w a = 1 ∧ 0 ≤ j ∧ j < ln w a) G := by subst hq; subst g; rw [R_of h hk]; simp only [mstep, s1I, s1R]; exact fin_gd
theorem q_cast {a : Nat} {j v : Int} (h : cd k pc = some (.castore, n, u, ds)) (hk : kill ds L = L1) (hq : pc + 1 = q) (g : R X d k q L1 st (si w a j.toNat v) = G) : R X d k pc L (.inl v :: .inl j :: .inr a :: st) w = gd ((kd w a = 2 ∧ 0 ≤ j ∧ j < ln w a) ∧ 0 ≤ v ∧ v < 65536) G := by subst hq; subst g; rw [R_of h hk]; simp only [mstep, s1I, s1R]; exact fin_gd
theorem q_aast {a v : Nat} {j : Int} (h : cd k pc = some (.aastore, n, u, ds)) (hk : kill ds L = L1) (hq : pc + 1 = q) (g : R X d k q L1 st (sr w a j.toNat (some v)) = G) : R X d k pc L (.inr v :: .inl j :: .inr a :: st) w = gd ((kd w a = 3 ∧ 0 ≤ j ∧ j < ln w a) ∧ kd w v = 13) G := by subst hq; subst g; rw [R_of h hk]; simp only [mstep, s1I, s1R]; exact fin_gd
theorem q_alen {a : Nat} (h : cd k pc = some (.arraylength, n, u, ds)) (hk : kill ds L = L1) (hu : u = []) (hq : pc + 1 = q) (g : R X d k q L1 (.inl (ln w a) :: st) w = G) : R X d k pc L (.inr a :: st) w = gd (kd w a = 1 ∧ ln w a < 2147483648) G := by subst hq; subst hu; subst g; rw [R_of h hk]; simp only [mstep, s1I, s1R]; exact fin_gd
theorem q_slen {a : Nat} (h : cd k pc = some (.arraylength, n, u, ds)) (hk : kill ds L = L1) (hu : u = [1]) (hq : pc + 1 = q) (g : R X d k q L1 (.inl X.1 :: st) w = G) : R X d k pc L (.inr a :: st) w = gd (a = 0 ∧ X.1 < 2147483648) G := by subst hq; subst hu; subst g; rw [R_of h hk]; simp only [mstep, s1I, s1R]; exact fin_gd
theorem q_newi {j : Int} (h : cd k pc = some (.newarray .int, n, u, ds)) (hk : kill ds L = L1) (hj : 0 ≤ j ∧ j ≤ 1000) (hq : pc + 2 = q) (g : R X d k q L1 (.inr (nx w) :: st) (al w 1 j.toNat j.toNat) = G) : R X d k pc L (.inl j :: st) w = G := by subst hq; subst g; rw [R_of h hk]; simp only [mstep, s1I, gd, if_pos hj]; rfl
theorem q_newc {j : Int} (h : cd k pc = some (.newarray .char, n, u, ds)) (hk : kill ds L = L1) (hj : 0 ≤ j ∧ j ≤ 1000) (hq : pc + 2 = q) (g : R X d k q L1 (.inr (nx w) :: st) (al w 2 j.toNat j.toNat) = G) : R X d k pc L (.inl j :: st) w = G := by subst hq; subst g; rw [R_of h hk]; simp only [mstep, s1I, gd, if_pos hj]; rfl
theorem q_newq {i : Nat} {j : Int} (h : cd k pc = some (.anewarray i, n, u, ds)) (hk : kill ds L = L1) (hj : 0 ≤ j ∧ j ≤ 1000) (hq : pc + 3 = q) (g : R X d k q L1 (.inr (nx w) :: st) (al w 3 j.toNat j.toNat) = G) : R X d k pc L (.inl j :: st) w = G := by subst hq; subst g; rw [R_of h hk]; simp only [mstep, s1I, gd, if_pos hj]; rfl
theorem q_new {i ci nf : Nat} {us : List Nat} (h : cd k pc = some (.new i, n, u, ds)) (hk : kill ds L = L1) (hu : u = ci :: nf :: us) (hq : pc + 3 = q) (g : R X d k q L1 (.inr (nx w) :: st) (al w (10 + ci) 0 nf) = G) : R X d k pc L st w = G := by subst hq; subst hu; subst g; rw [R_of h hk]; rfl
theorem q_objinit {i a : Nat} {us : List Nat} (h : cd k pc = some (.invokespecial i, n, u, ds)) (hk : kill ds L = L1) (hu : u = 0 :: us) (hr : st.length ≤ 8) (hq : pc + 3 = q) (g : R X d k q L1 st w = G) : R X d k pc L (.inr a :: st) w = G := by subst hq; subst hu; subst g; rw [R_of h hk]; simp only [mstep, s1R, gd, if_pos hr]; rfl
theorem q_max {i : Nat} {x y : Int} {us : List Nat} (h : cd k pc = some (.invokestatic i, n, u, ds)) (hk : kill ds L = L1) (hu : u = 1 :: us) (hr : st.length ≤ 8) (hq : pc + 3 = q) (g : R X d k q L1 (.inl (maxI x y) :: st) w = G) : R X d k pc L (.inl y :: .inl x :: st) w = G := by subst hq; subst hu; subst g; rw [R_of h hk]; simp only [mstep, s2I, s1I, gd, if_pos hr]; rfl
theorem q_min {i : Nat} {x y : Int} {us : List Nat} (h : cd k pc = some (.invokestatic i, n, u, ds)) (hk : kill ds L = L1) (hu : u = 2 :: us) (hr : st.length ≤ 8) (hq : pc + 3 = q) (g : R X d k q L1 (.inl (minI x y) :: st) w = G) : R X d k pc L (.inl y :: .inl x :: st) w = G := by subst hq; subst hu; subst g; rw [R_of h hk]; simp only [mstep, s2I, s1I, gd, if_pos hr]; rfl
theorem q_copy {i a b : Nat} {sp tp j : Int} {us : List Nat} (h : cd k pc = some (.invokestatic i, n, u, ds)) (hk : kill ds L = L1) (hu : u = 3 :: us) (hr : st.length ≤ 8) (hq : pc + 3 = q) (g : R X d k q L1 st (cpw w a sp.toNat b tp.toNat j.toNat) = G) : R X d k pc L (.inl j :: .inl tp :: .inr b :: .inl sp :: .inr a :: st) w = gd (kd w a = 1 ∧ kd w b = 1 ∧ 0 ≤ sp ∧ 0 ≤ tp ∧ 0 ≤ j ∧ sp + j ≤ ln w a ∧ tp + j ≤ ln w b) G := by
  subst hq; subst hu; subst g
  rw [R_of h hk]
  simp only [mstep, s2I, s1I, s1R]
  rw [fin_gd]
  simp only [gd, hr, true_and]
  rfl
theorem q_iret {x : Int} {us : List Nat} (h : cd k pc = some (.ireturn, n, u, ds)) (hk : kill ds L = L1) (hu : u = 0 :: us) : R X d k pc L [.inl x] w = some (some (.inl x), w) := by subst hu; rw [R_of h hk]; rfl
theorem q_zret {x : Int} {us : List Nat} (h : cd k pc = some (.ireturn, n, u, ds)) (hk : kill ds L = L1) (hu : u = 1 :: us) : R X d k pc L [.inl x] w = gd (x = 0 ∨ x = 1) (some (some (.inl x), w)) := by subst hu; rw [R_of h hk]; simp only [mstep, s1I]; rw [fin_gd]; simp only [gd, true_and]; rfl
theorem q_zret0 {us : List Nat} (h : cd k pc = some (.ireturn, n, u, ds)) (hk : kill ds L = L1) (hu : u = 1 :: us) : R X d k pc L [.inl 0] w = some (some (.inl 0), w) := by subst hu; rw [R_of h hk]; rfl
theorem q_zret1 {us : List Nat} (h : cd k pc = some (.ireturn, n, u, ds)) (hk : kill ds L = L1) (hu : u = 1 :: us) : R X d k pc L [.inl 1] w = some (some (.inl 1), w) := by subst hu; rw [R_of h hk]; rfl
theorem q_aret {x : Nat} (h : cd k pc = some (.areturn, n, u, ds)) (hk : kill ds L = L1)  : R X d k pc L [.inr x] w = some (some (.inr x), w) := by rw [R_of h hk]; rfl
theorem q_vret  (h : cd k pc = some (.return_, n, u, ds)) (hk : kill ds L = L1)  : R X d k pc L [] w = some (none, w) := by rw [R_of h hk]; rfl
end Q
section QC
variable {X : Nat × (Nat → Int)} {d k pc q n : Nat} {u ds : List Nat} {L L1 : List (Option MV)} {st s2 : List MV} {w : MW}
theorem mc_virt {kind k1 m ci : Nat} {as : List MV} {b : Nat} (hn : (Nat.ble m st.length && Nat.ble s2.length 8) = true) (ha : (st.take m).reverse = .inr b :: as) (hs : st.drop m = s2) : mcall kind k1 m ci true pc L st w = gd (kd w b = 10 + ci) (aCall kind k1 (.inr b :: as) (pc + 3) L s2 w) := by
  subst hs
  simp only [Bool.and_eq_true, Nat.ble_eq] at hn
  unfold mcall
  rw [ha]
  simp only [gd, if_pos hn]
theorem mc_stat {kind k1 m ci : Nat} {as : List MV} (hn : (Nat.ble m st.length && Nat.ble s2.length 8) = true) (ha : (st.take m).reverse = as) (hs : st.drop m = s2) : mcall kind k1 m ci false pc L st w = aCall kind k1 as (pc + 3) L s2 w := by
  subst hs; subst ha
  simp only [Bool.and_eq_true, Nat.ble_eq] at hn
  unfold mcall
  simp only [gd, if_pos hn]
theorem q_callVv {i k1 m ci b : Nat} {as : List MV} {us : List Nat} {F : MW → RS} (h : cd k pc = some (.invokevirtual i, n, u, ds)) (hk : kill ds L = L1) (hu : u = 0 :: k1 :: m :: ci :: us) (hn : (Nat.ble m st.length && Nat.ble s2.length 8) = true) (ha : (st.take m).reverse = .inr b :: as) (hs : st.drop m = s2) (hq : pc + 3 = q) (g : ∀ v : MW, R X (d + 1) k q L1 s2 v = F v) : R X (d + 1) k pc L st w = gd (kd w b = 10 + ci) (rV (run X d k1 (.inr b :: as) w) F) := by
  subst hq; subst hu; rw [R_of h hk]; simp only [mstep]; rw [mc_virt hn ha hs, fin_gd]; congr 1; show rV _ _ = _; congr 1; funext v; exact g v
theorem q_callIv {i k1 m ci b : Nat} {as : List MV} {us : List Nat} {F : MW → RS} (h : cd k pc = some (.invokespecial i, n, u, ds)) (hk : kill ds L = L1) (hu : u = 1 :: k1 :: m :: ci :: us) (hn : (Nat.ble m st.length && Nat.ble s2.length 8) = true) (ha : (st.take m).reverse = .inr b :: as) (hs : st.drop m = s2) (hq : pc + 3 = q) (g : ∀ v : MW, R X (d + 1) k q L1 s2 v = F v) : R X (d + 1) k pc L st w = gd (kd w b = 10 + ci) (rV (run X d k1 (.inr b :: as) w) F) := by
  subst hq; subst hu; rw [R_of h hk]; simp only [mstep]; rw [mc_virt hn ha hs, fin_gd]; congr 1; show rV _ _ = _; congr 1; funext v; exact g v
theorem q_callJv {i k1 m ci b : Nat} {as : List MV} {us : List Nat} {F : MW → RS} (h : cd k pc = some (.invokespecial i, n, u, ds)) (hk : kill ds L = L1) (hu : u = 2 :: k1 :: m :: ci :: us) (hn : (Nat.ble m st.length && Nat.ble s2.length 8) = true) (ha : (st.take m).reverse = .inr b :: as) (hs : st.drop m = s2) (hq : pc + 3 = q) (g : ∀ v : MW, R X (d + 1) k q L1 s2 v = F v) : R X (d + 1) k pc L st w = gd (kd w b = 10 + ci) (rV (run X d k1 (.inr b :: as) w) F) := by
  subst hq; subst hu; rw [R_of h hk]; simp only [mstep]; rw [mc_virt hn ha hs, fin_gd]; congr 1; show rV _ _ = _; congr 1; funext v; exact g v
theorem q_callSv {i k1 m : Nat} {as : List MV} {us : List Nat} {F : MW → RS} (h : cd k pc = some (.invokestatic i, n, u, ds)) (hk : kill ds L = L1) (hu : u = 0 :: 0 :: k1 :: m :: us) (hn : (Nat.ble m st.length && Nat.ble s2.length 8) = true) (ha : (st.take m).reverse = as) (hs : st.drop m = s2) (hq : pc + 3 = q) (g : ∀ v : MW, R X (d + 1) k q L1 s2 v = F v) : R X (d + 1) k pc L st w = rV (run X d k1 as w) F := by
  subst hq; subst hu; rw [R_of h hk]; simp only [mstep]; rw [mc_stat hn ha hs]; show rV _ _ = _; congr 1; funext v; exact g v
theorem q_callTv {i k1 m : Nat} {as : List MV} {us : List Nat} {F : MW → RS} (h : cd k pc = some (.invokestatic i, n, u, ds)) (hk : kill ds L = L1) (hu : u = 4 :: 0 :: k1 :: m :: us) (hn : (Nat.ble m st.length && Nat.ble s2.length 8) = true) (ha : (st.take m).reverse = as) (hs : st.drop m = s2) (hq : pc + 3 = q) (g : ∀ v : MW, R X (d + 1) k q L1 s2 v = F v) : R X (d + 1) k pc L st w = rV (run X d k1 as w) F := by
  subst hq; subst hu; rw [R_of h hk]; simp only [mstep]; rw [mc_stat hn ha hs]; show rV _ _ = _; congr 1; funext v; exact g v
theorem q_callVi {i k1 m ci b : Nat} {as : List MV} {us : List Nat} {F : Int → MW → RS} (h : cd k pc = some (.invokevirtual i, n, u, ds)) (hk : kill ds L = L1) (hu : u = 1 :: k1 :: m :: ci :: us) (hn : (Nat.ble m st.length && Nat.ble s2.length 8) = true) (ha : (st.take m).reverse = .inr b :: as) (hs : st.drop m = s2) (hq : pc + 3 = q) (g : ∀ (x : Int) (v : MW), R X (d + 1) k q L1 (.inl x :: s2) v = F x v) : R X (d + 1) k pc L st w = gd (kd w b = 10 + ci) (rI (run X d k1 (.inr b :: as) w) F) := by
  subst hq; subst hu; rw [R_of h hk]; simp only [mstep]; rw [mc_virt hn ha hs, fin_gd]; congr 1; show rI _ _ = _; congr 1; funext x v; exact g x v
theorem q_callSi {i k1 m : Nat} {as : List MV} {us : List Nat} {F : Int → MW → RS} (h : cd k pc = some (.invokestatic i, n, u, ds)) (hk : kill ds L = L1) (hu : u = 0 :: 1 :: k1 :: m :: us) (hn : (Nat.ble m st.length && Nat.ble s2.length 8) = true) (ha : (st.take m).reverse = as) (hs : st.drop m = s2) (hq : pc + 3 = q) (g : ∀ (x : Int) (v : MW), R X (d + 1) k q L1 (.inl x :: s2) v = F x v) : R X (d + 1) k pc L st w = rI (run X d k1 as w) F := by
  subst hq; subst hu; rw [R_of h hk]; simp only [mstep]; rw [mc_stat hn ha hs]; show rI _ _ = _; congr 1; funext x v; exact g x v
theorem q_callTi {i k1 m : Nat} {as : List MV} {us : List Nat} {F : Int → MW → RS} (h : cd k pc = some (.invokestatic i, n, u, ds)) (hk : kill ds L = L1) (hu : u = 4 :: 1 :: k1 :: m :: us) (hn : (Nat.ble m st.length && Nat.ble s2.length 8) = true) (ha : (st.take m).reverse = as) (hs : st.drop m = s2) (hq : pc + 3 = q) (g : ∀ (x : Int) (v : MW), R X (d + 1) k q L1 (.inl x :: s2) v = F x v) : R X (d + 1) k pc L st w = rI (run X d k1 as w) F := by
  subst hq; subst hu; rw [R_of h hk]; simp only [mstep]; rw [mc_stat hn ha hs]; show rI _ _ = _; congr 1; funext x v; exact g x v
theorem q_callVr {i k1 m ci b : Nat} {as : List MV} {us : List Nat} {F : Nat → MW → RS} (h : cd k pc = some (.invokevirtual i, n, u, ds)) (hk : kill ds L = L1) (hu : u = 2 :: k1 :: m :: ci :: us) (hn : (Nat.ble m st.length && Nat.ble s2.length 8) = true) (ha : (st.take m).reverse = .inr b :: as) (hs : st.drop m = s2) (hq : pc + 3 = q) (g : ∀ (x : Nat) (v : MW), R X (d + 1) k q L1 (.inr x :: s2) v = F x v) : R X (d + 1) k pc L st w = gd (kd w b = 10 + ci) (rR (run X d k1 (.inr b :: as) w) F) := by
  subst hq; subst hu; rw [R_of h hk]; simp only [mstep]; rw [mc_virt hn ha hs, fin_gd]; congr 1; show rR _ _ = _; congr 1; funext x v; exact g x v
theorem q_callSr {i k1 m : Nat} {as : List MV} {us : List Nat} {F : Nat → MW → RS} (h : cd k pc = some (.invokestatic i, n, u, ds)) (hk : kill ds L = L1) (hu : u = 0 :: 2 :: k1 :: m :: us) (hn : (Nat.ble m st.length && Nat.ble s2.length 8) = true) (ha : (st.take m).reverse = as) (hs : st.drop m = s2) (hq : pc + 3 = q) (g : ∀ (x : Nat) (v : MW), R X (d + 1) k q L1 (.inr x :: s2) v = F x v) : R X (d + 1) k pc L st w = rR (run X d k1 as w) F := by
  subst hq; subst hu; rw [R_of h hk]; simp only [mstep]; rw [mc_stat hn ha hs]; show rR _ _ = _; congr 1; funext x v; exact g x v
theorem q_callTr {i k1 m : Nat} {as : List MV} {us : List Nat} {F : Nat → MW → RS} (h : cd k pc = some (.invokestatic i, n, u, ds)) (hk : kill ds L = L1) (hu : u = 4 :: 2 :: k1 :: m :: us) (hn : (Nat.ble m st.length && Nat.ble s2.length 8) = true) (ha : (st.take m).reverse = as) (hs : st.drop m = s2) (hq : pc + 3 = q) (g : ∀ (x : Nat) (v : MW), R X (d + 1) k q L1 (.inr x :: s2) v = F x v) : R X (d + 1) k pc L st w = rR (run X d k1 as w) F := by
  subst hq; subst hu; rw [R_of h hk]; simp only [mstep]; rw [mc_stat hn ha hs]; show rR _ _ = _; congr 1; funext x v; exact g x v
end QC
theorem q_kill {X : Nat × (Nat → Int)} {d k pc n : Nat} {i : Instr} {u ds : List Nat} {L L1 : List (Option MV)} {st : List MV} {w : MW} {G : RS} (h : cd k pc = some (i, n, u, ds)) (hk : kill ds L = L1) (hk2 : kill ds L1 = L1) (g : R X d k pc L1 st w = G) : R X d k pc L st w = G := by
  rw [R_of h hk]
  rw [R_of h hk2] at g
  exact g
end
section
theorem zz_dummy : True := trivial
end
