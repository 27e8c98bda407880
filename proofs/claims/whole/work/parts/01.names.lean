-- ===== PART A: goes FIRST, ahead of the names: the tables' words, and 'selects' of the private methods out of them =====
/-- a private method of a class that the tables say can be made, by its rows of tables_1 -/
def lw_okq (q : MethodName × Nat) : Prop := (q.1.cls ≠ "java/lang/invoke/MethodHandle" ∧ q.1.cls ≠ "java/lang/invoke/VarHandle") ∧ Cond.instantiable q.1.cls q.2 ∈ tables_1 ∧ Cond.privateMethod q.1 ∈ tables_1 ∧ Cond.instanceMethod q.1 ∈ tables_1
theorem lw_p0 : lw_okq (⟨"SometimesSums$History", "dropOldest", "()V"⟩, 2) := ⟨⟨by decide +kernel, by decide +kernel⟩, List.mem_of_getElem? (i := 54) (by decide +kernel), List.mem_of_getElem? (i := 239) (by decide +kernel), List.mem_of_getElem? (i := 240) (by decide +kernel)⟩
theorem lw_p1 : lw_okq (⟨"SometimesSums$Text", "readSum", "()Z"⟩, 7) := ⟨⟨by decide +kernel, by decide +kernel⟩, List.mem_of_getElem? (i := 71) (by decide +kernel), List.mem_of_getElem? (i := 301) (by decide +kernel), List.mem_of_getElem? (i := 302) (by decide +kernel)⟩
theorem lw_p2 : lw_okq (⟨"SometimesSums$Text", "readThing", "()I"⟩, 7) := ⟨⟨by decide +kernel, by decide +kernel⟩, List.mem_of_getElem? (i := 71) (by decide +kernel), List.mem_of_getElem? (i := 305) (by decide +kernel), List.mem_of_getElem? (i := 306) (by decide +kernel)⟩
theorem lw_p3 : lw_okq (⟨"SometimesSums$Text", "digit", "()I"⟩, 7) := ⟨⟨by decide +kernel, by decide +kernel⟩, List.mem_of_getElem? (i := 71) (by decide +kernel), List.mem_of_getElem? (i := 309) (by decide +kernel), List.mem_of_getElem? (i := 310) (by decide +kernel)⟩
theorem lw_p4 : lw_okq (⟨"SometimesSums$Text", "skip", "(C)Z"⟩, 7) := ⟨⟨by decide +kernel, by decide +kernel⟩, List.mem_of_getElem? (i := 71) (by decide +kernel), List.mem_of_getElem? (i := 313) (by decide +kernel), List.mem_of_getElem? (i := 314) (by decide +kernel)⟩
theorem lw_p5 : lw_okq (⟨"SometimesSums$Laws", "checkRegrouping", "(LSometimesSums$Table;II)V"⟩, 5) := ⟨⟨by decide +kernel, by decide +kernel⟩, List.mem_of_getElem? (i := 101) (by decide +kernel), List.mem_of_getElem? (i := 422) (by decide +kernel), List.mem_of_getElem? (i := 423) (by decide +kernel)⟩
theorem lw_p6 : lw_okq (⟨"SometimesSums$Laws", "note", "(IIII)V"⟩, 5) := ⟨⟨by decide +kernel, by decide +kernel⟩, List.mem_of_getElem? (i := 101) (by decide +kernel), List.mem_of_getElem? (i := 427) (by decide +kernel), List.mem_of_getElem? (i := 428) (by decide +kernel)⟩
theorem lw_p7 : lw_okq (⟨"SometimesSums$Relations", "findTogether", "(LSometimesSums$Table;III)V"⟩, 5) := ⟨⟨by decide +kernel, by decide +kernel⟩, List.mem_of_getElem? (i := 128) (by decide +kernel), List.mem_of_getElem? (i := 450) (by decide +kernel), List.mem_of_getElem? (i := 451) (by decide +kernel)⟩
theorem lw_p8 : lw_okq (⟨"SometimesSums$Relations", "hasNoPartIn", "(II)Z"⟩, 5) := ⟨⟨by decide +kernel, by decide +kernel⟩, List.mem_of_getElem? (i := 128) (by decide +kernel), List.mem_of_getElem? (i := 460) (by decide +kernel), List.mem_of_getElem? (i := 461) (by decide +kernel)⟩
theorem lw_p9 : lw_okq (⟨"SometimesSums", "timesAddable", "(I)I"⟩, 9) := ⟨⟨by decide +kernel, by decide +kernel⟩, List.mem_of_getElem? (i := 12) (by decide +kernel), List.mem_of_getElem? (i := 472) (by decide +kernel), List.mem_of_getElem? (i := 473) (by decide +kernel)⟩
theorem lw_p10 : lw_okq (⟨"SometimesSums$Relations", "isBlock", "(I)Z"⟩, 5) := ⟨⟨by decide +kernel, by decide +kernel⟩, List.mem_of_getElem? (i := 128) (by decide +kernel), List.mem_of_getElem? (i := 489) (by decide +kernel), List.mem_of_getElem? (i := 490) (by decide +kernel)⟩
theorem lw_p11 : lw_okq (⟨"SometimesSums$Weights", "gatherPairs", "(LSometimesSums$Table;)V"⟩, 13) := ⟨⟨by decide +kernel, by decide +kernel⟩, List.mem_of_getElem? (i := 153) (by decide +kernel), List.mem_of_getElem? (i := 508) (by decide +kernel), List.mem_of_getElem? (i := 509) (by decide +kernel)⟩
theorem lw_p12 : lw_okq (⟨"SometimesSums$Weights", "setFirstRanges", "(I)V"⟩, 13) := ⟨⟨by decide +kernel, by decide +kernel⟩, List.mem_of_getElem? (i := 153) (by decide +kernel), List.mem_of_getElem? (i := 513) (by decide +kernel), List.mem_of_getElem? (i := 514) (by decide +kernel)⟩
theorem lw_p13 : lw_okq (⟨"SometimesSums$Weights", "narrow", "(I)Z"⟩, 13) := ⟨⟨by decide +kernel, by decide +kernel⟩, List.mem_of_getElem? (i := 153) (by decide +kernel), List.mem_of_getElem? (i := 517) (by decide +kernel), List.mem_of_getElem? (i := 518) (by decide +kernel)⟩
theorem lw_p14 : lw_okq (⟨"SometimesSums$Weights", "isEmpty", "(I)Z"⟩, 13) := ⟨⟨by decide +kernel, by decide +kernel⟩, List.mem_of_getElem? (i := 153) (by decide +kernel), List.mem_of_getElem? (i := 521) (by decide +kernel), List.mem_of_getElem? (i := 522) (by decide +kernel)⟩
theorem lw_p15 : lw_okq (⟨"SometimesSums$Weights", "narrowBySum", "(III)Z"⟩, 13) := ⟨⟨by decide +kernel, by decide +kernel⟩, List.mem_of_getElem? (i := 153) (by decide +kernel), List.mem_of_getElem? (i := 525) (by decide +kernel), List.mem_of_getElem? (i := 526) (by decide +kernel)⟩
def lw_privs_1 : List (MethodName × Nat) := [(⟨"SometimesSums$History", "dropOldest", "()V"⟩, 2), (⟨"SometimesSums$Text", "readSum", "()Z"⟩, 7), (⟨"SometimesSums$Text", "readThing", "()I"⟩, 7), (⟨"SometimesSums$Text", "digit", "()I"⟩, 7), (⟨"SometimesSums$Text", "skip", "(C)Z"⟩, 7), (⟨"SometimesSums$Laws", "checkRegrouping", "(LSometimesSums$Table;II)V"⟩, 5), (⟨"SometimesSums$Laws", "note", "(IIII)V"⟩, 5), (⟨"SometimesSums$Relations", "findTogether", "(LSometimesSums$Table;III)V"⟩, 5), (⟨"SometimesSums$Relations", "hasNoPartIn", "(II)Z"⟩, 5), (⟨"SometimesSums", "timesAddable", "(I)I"⟩, 9), (⟨"SometimesSums$Relations", "isBlock", "(I)Z"⟩, 5), (⟨"SometimesSums$Weights", "gatherPairs", "(LSometimesSums$Table;)V"⟩, 13), (⟨"SometimesSums$Weights", "setFirstRanges", "(I)V"⟩, 13), (⟨"SometimesSums$Weights", "narrow", "(I)Z"⟩, 13), (⟨"SometimesSums$Weights", "isEmpty", "(I)Z"⟩, 13), (⟨"SometimesSums$Weights", "narrowBySum", "(III)Z"⟩, 13)]
theorem lw_r1 : ∀ q ∈ lw_privs_1, lw_okq q := List.forall_mem_cons.mpr ⟨lw_p0, List.forall_mem_cons.mpr ⟨lw_p1, List.forall_mem_cons.mpr ⟨lw_p2, List.forall_mem_cons.mpr ⟨lw_p3, List.forall_mem_cons.mpr ⟨lw_p4, List.forall_mem_cons.mpr ⟨lw_p5, List.forall_mem_cons.mpr ⟨lw_p6, List.forall_mem_cons.mpr ⟨lw_p7, List.forall_mem_cons.mpr ⟨lw_p8, List.forall_mem_cons.mpr ⟨lw_p9, List.forall_mem_cons.mpr ⟨lw_p10, List.forall_mem_cons.mpr ⟨lw_p11, List.forall_mem_cons.mpr ⟨lw_p12, List.forall_mem_cons.mpr ⟨lw_p13, List.forall_mem_cons.mpr ⟨lw_p14, List.forall_mem_cons.mpr ⟨lw_p15, fun _ h => absurd h List.not_mem_nil⟩⟩⟩⟩⟩⟩⟩⟩⟩⟩⟩⟩⟩⟩⟩⟩
theorem lw_p16 : lw_okq (⟨"SometimesSums$Weights", "limit", "(III)Z"⟩, 13) := ⟨⟨by decide +kernel, by decide +kernel⟩, List.mem_of_getElem? (i := 153) (by decide +kernel), List.mem_of_getElem? (i := 529) (by decide +kernel), List.mem_of_getElem? (i := 530) (by decide +kernel)⟩
theorem lw_p17 : lw_okq (⟨"SometimesSums$Weights", "formGroups", "()V"⟩, 13) := ⟨⟨by decide +kernel, by decide +kernel⟩, List.mem_of_getElem? (i := 153) (by decide +kernel), List.mem_of_getElem? (i := 533) (by decide +kernel), List.mem_of_getElem? (i := 534) (by decide +kernel)⟩
theorem lw_p18 : lw_okq (⟨"SometimesSums$Weights", "isOpen", "(I)Z"⟩, 13) := ⟨⟨by decide +kernel, by decide +kernel⟩, List.mem_of_getElem? (i := 153) (by decide +kernel), List.mem_of_getElem? (i := 537) (by decide +kernel), List.mem_of_getElem? (i := 538) (by decide +kernel)⟩
theorem lw_p19 : lw_okq (⟨"SometimesSums$Weights", "joinGroups", "(II)V"⟩, 13) := ⟨⟨by decide +kernel, by decide +kernel⟩, List.mem_of_getElem? (i := 153) (by decide +kernel), List.mem_of_getElem? (i := 541) (by decide +kernel), List.mem_of_getElem? (i := 542) (by decide +kernel)⟩
theorem lw_p20 : lw_okq (⟨"SometimesSums$Weights", "startRange", "(II)V"⟩, 13) := ⟨⟨by decide +kernel, by decide +kernel⟩, List.mem_of_getElem? (i := 153) (by decide +kernel), List.mem_of_getElem? (i := 548) (by decide +kernel), List.mem_of_getElem? (i := 549) (by decide +kernel)⟩
theorem lw_p21 : lw_okq (⟨"SometimesSums$Weights", "weigh", "(II)V"⟩, 13) := ⟨⟨by decide +kernel, by decide +kernel⟩, List.mem_of_getElem? (i := 153) (by decide +kernel), List.mem_of_getElem? (i := 552) (by decide +kernel), List.mem_of_getElem? (i := 553) (by decide +kernel)⟩
theorem lw_p22 : lw_okq (⟨"SometimesSums$Weights", "firstOpenThing", "(II)I"⟩, 13) := ⟨⟨by decide +kernel, by decide +kernel⟩, List.mem_of_getElem? (i := 153) (by decide +kernel), List.mem_of_getElem? (i := 556) (by decide +kernel), List.mem_of_getElem? (i := 557) (by decide +kernel)⟩
theorem lw_p23 : lw_okq (⟨"SometimesSums$Weights", "noteWeighing", "(II)V"⟩, 13) := ⟨⟨by decide +kernel, by decide +kernel⟩, List.mem_of_getElem? (i := 153) (by decide +kernel), List.mem_of_getElem? (i := 560) (by decide +kernel), List.mem_of_getElem? (i := 561) (by decide +kernel)⟩
theorem lw_p24 : lw_okq (⟨"SometimesSums$Weights", "weighWith", "(IIII)V"⟩, 13) := ⟨⟨by decide +kernel, by decide +kernel⟩, List.mem_of_getElem? (i := 153) (by decide +kernel), List.mem_of_getElem? (i := 565) (by decide +kernel), List.mem_of_getElem? (i := 566) (by decide +kernel)⟩
theorem lw_p25 : lw_okq (⟨"SometimesSums$Weights", "copyRanges", "(I)V"⟩, 13) := ⟨⟨by decide +kernel, by decide +kernel⟩, List.mem_of_getElem? (i := 153) (by decide +kernel), List.mem_of_getElem? (i := 569) (by decide +kernel), List.mem_of_getElem? (i := 570) (by decide +kernel)⟩
theorem lw_p26 : lw_okq (⟨"SometimesSums", "weighingError", "(II)I"⟩, 9) := ⟨⟨by decide +kernel, by decide +kernel⟩, List.mem_of_getElem? (i := 12) (by decide +kernel), List.mem_of_getElem? (i := 578) (by decide +kernel), List.mem_of_getElem? (i := 579) (by decide +kernel)⟩
theorem lw_p27 : lw_okq (⟨"SometimesSumsModel", "gets", "([II)V"⟩, 17) := ⟨⟨by decide +kernel, by decide +kernel⟩, List.mem_of_getElem? (i := 608) (by decide +kernel), List.mem_of_getElem? (i := 670) (by decide +kernel), List.mem_of_getElem? (i := 671) (by decide +kernel)⟩
theorem lw_p28 : lw_okq (⟨"SometimesSumsModel", "lays", "([II)V"⟩, 17) := ⟨⟨by decide +kernel, by decide +kernel⟩, List.mem_of_getElem? (i := 608) (by decide +kernel), List.mem_of_getElem? (i := 678) (by decide +kernel), List.mem_of_getElem? (i := 679) (by decide +kernel)⟩
theorem lw_p29 : lw_okq (⟨"SometimesSumsModel", "records", "()V"⟩, 17) := ⟨⟨by decide +kernel, by decide +kernel⟩, List.mem_of_getElem? (i := 608) (by decide +kernel), List.mem_of_getElem? (i := 686) (by decide +kernel), List.mem_of_getElem? (i := 687) (by decide +kernel)⟩
theorem lw_p30 : lw_okq (⟨"SometimesSumsModel", "empties", "(I)V"⟩, 17) := ⟨⟨by decide +kernel, by decide +kernel⟩, List.mem_of_getElem? (i := 608) (by decide +kernel), List.mem_of_getElem? (i := 697) (by decide +kernel), List.mem_of_getElem? (i := 698) (by decide +kernel)⟩
theorem lw_p31 : lw_okq (⟨"SometimesSumsModel", "chains", "(II)V"⟩, 17) := ⟨⟨by decide +kernel, by decide +kernel⟩, List.mem_of_getElem? (i := 608) (by decide +kernel), List.mem_of_getElem? (i := 701) (by decide +kernel), List.mem_of_getElem? (i := 702) (by decide +kernel)⟩
def lw_privs_2 : List (MethodName × Nat) := [(⟨"SometimesSums$Weights", "limit", "(III)Z"⟩, 13), (⟨"SometimesSums$Weights", "formGroups", "()V"⟩, 13), (⟨"SometimesSums$Weights", "isOpen", "(I)Z"⟩, 13), (⟨"SometimesSums$Weights", "joinGroups", "(II)V"⟩, 13), (⟨"SometimesSums$Weights", "startRange", "(II)V"⟩, 13), (⟨"SometimesSums$Weights", "weigh", "(II)V"⟩, 13), (⟨"SometimesSums$Weights", "firstOpenThing", "(II)I"⟩, 13), (⟨"SometimesSums$Weights", "noteWeighing", "(II)V"⟩, 13), (⟨"SometimesSums$Weights", "weighWith", "(IIII)V"⟩, 13), (⟨"SometimesSums$Weights", "copyRanges", "(I)V"⟩, 13), (⟨"SometimesSums", "weighingError", "(II)I"⟩, 9), (⟨"SometimesSumsModel", "gets", "([II)V"⟩, 17), (⟨"SometimesSumsModel", "lays", "([II)V"⟩, 17), (⟨"SometimesSumsModel", "records", "()V"⟩, 17), (⟨"SometimesSumsModel", "empties", "(I)V"⟩, 17), (⟨"SometimesSumsModel", "chains", "(II)V"⟩, 17)]
theorem lw_r2 : ∀ q ∈ lw_privs_2, lw_okq q := List.forall_mem_cons.mpr ⟨lw_p16, List.forall_mem_cons.mpr ⟨lw_p17, List.forall_mem_cons.mpr ⟨lw_p18, List.forall_mem_cons.mpr ⟨lw_p19, List.forall_mem_cons.mpr ⟨lw_p20, List.forall_mem_cons.mpr ⟨lw_p21, List.forall_mem_cons.mpr ⟨lw_p22, List.forall_mem_cons.mpr ⟨lw_p23, List.forall_mem_cons.mpr ⟨lw_p24, List.forall_mem_cons.mpr ⟨lw_p25, List.forall_mem_cons.mpr ⟨lw_p26, List.forall_mem_cons.mpr ⟨lw_p27, List.forall_mem_cons.mpr ⟨lw_p28, List.forall_mem_cons.mpr ⟨lw_p29, List.forall_mem_cons.mpr ⟨lw_p30, List.forall_mem_cons.mpr ⟨lw_p31, fun _ h => absurd h List.not_mem_nil⟩⟩⟩⟩⟩⟩⟩⟩⟩⟩⟩⟩⟩⟩⟩⟩
theorem lw_p32 : lw_okq (⟨"SometimesSumsModel", "tells", "(III)V"⟩, 17) := ⟨⟨by decide +kernel, by decide +kernel⟩, List.mem_of_getElem? (i := 608) (by decide +kernel), List.mem_of_getElem? (i := 708) (by decide +kernel), List.mem_of_getElem? (i := 709) (by decide +kernel)⟩
theorem lw_p33 : lw_okq (⟨"SometimesSumsModel", "unites", "(I)V"⟩, 17) := ⟨⟨by decide +kernel, by decide +kernel⟩, List.mem_of_getElem? (i := 608) (by decide +kernel), List.mem_of_getElem? (i := 712) (by decide +kernel), List.mem_of_getElem? (i := 713) (by decide +kernel)⟩
theorem lw_p34 : lw_okq (⟨"SometimesSumsModel", "comes", "()V"⟩, 17) := ⟨⟨by decide +kernel, by decide +kernel⟩, List.mem_of_getElem? (i := 608) (by decide +kernel), List.mem_of_getElem? (i := 726) (by decide +kernel), List.mem_of_getElem? (i := 727) (by decide +kernel)⟩
theorem lw_p35 : lw_okq (⟨"SometimesSumsModel", "isThing", "(I)Z"⟩, 17) := ⟨⟨by decide +kernel, by decide +kernel⟩, List.mem_of_getElem? (i := 608) (by decide +kernel), List.mem_of_getElem? (i := 734) (by decide +kernel), List.mem_of_getElem? (i := 735) (by decide +kernel)⟩
theorem lw_p36 : lw_okq (⟨"SometimesSumsModel", "moves", "()V"⟩, 17) := ⟨⟨by decide +kernel, by decide +kernel⟩, List.mem_of_getElem? (i := 608) (by decide +kernel), List.mem_of_getElem? (i := 738) (by decide +kernel), List.mem_of_getElem? (i := 739) (by decide +kernel)⟩
theorem lw_p37 : lw_okq (⟨"SometimesSumsModel", "plus", "(II)I"⟩, 17) := ⟨⟨by decide +kernel, by decide +kernel⟩, List.mem_of_getElem? (i := 608) (by decide +kernel), List.mem_of_getElem? (i := 746) (by decide +kernel), List.mem_of_getElem? (i := 747) (by decide +kernel)⟩
theorem lw_p38 : lw_okq (⟨"SometimesSumsModel", "isRow", "()Z"⟩, 17) := ⟨⟨by decide +kernel, by decide +kernel⟩, List.mem_of_getElem? (i := 608) (by decide +kernel), List.mem_of_getElem? (i := 784) (by decide +kernel), List.mem_of_getElem? (i := 785) (by decide +kernel)⟩
theorem lw_p39 : lw_okq (⟨"SometimesSumsModel", "isNumber", "()Z"⟩, 17) := ⟨⟨by decide +kernel, by decide +kernel⟩, List.mem_of_getElem? (i := 608) (by decide +kernel), List.mem_of_getElem? (i := 788) (by decide +kernel), List.mem_of_getElem? (i := 789) (by decide +kernel)⟩
theorem lw_p40 : lw_okq (⟨"SometimesSumsModel", "isAt", "(II)Z"⟩, 17) := ⟨⟨by decide +kernel, by decide +kernel⟩, List.mem_of_getElem? (i := 608) (by decide +kernel), List.mem_of_getElem? (i := 792) (by decide +kernel), List.mem_of_getElem? (i := 793) (by decide +kernel)⟩
theorem lw_p41 : lw_okq (⟨"SometimesSumsModel", "isSign", "(I)Z"⟩, 17) := ⟨⟨by decide +kernel, by decide +kernel⟩, List.mem_of_getElem? (i := 608) (by decide +kernel), List.mem_of_getElem? (i := 796) (by decide +kernel), List.mem_of_getElem? (i := 797) (by decide +kernel)⟩
theorem lw_p42 : lw_okq (⟨"SometimesSumsModel", "sums", "()I"⟩, 17) := ⟨⟨by decide +kernel, by decide +kernel⟩, List.mem_of_getElem? (i := 608) (by decide +kernel), List.mem_of_getElem? (i := 800) (by decide +kernel), List.mem_of_getElem? (i := 801) (by decide +kernel)⟩
theorem lw_p43 : lw_okq (⟨"SometimesSumsModel", "lacks", "(II)I"⟩, 17) := ⟨⟨by decide +kernel, by decide +kernel⟩, List.mem_of_getElem? (i := 608) (by decide +kernel), List.mem_of_getElem? (i := 812) (by decide +kernel), List.mem_of_getElem? (i := 813) (by decide +kernel)⟩
theorem lw_p44 : lw_okq (⟨"SometimesSumsModel", "firstBreak", "()I"⟩, 17) := ⟨⟨by decide +kernel, by decide +kernel⟩, List.mem_of_getElem? (i := 608) (by decide +kernel), List.mem_of_getElem? (i := 820) (by decide +kernel), List.mem_of_getElem? (i := 821) (by decide +kernel)⟩
theorem lw_p45 : lw_okq (⟨"SometimesSumsModel", "isUnlike", "(III)Z"⟩, 17) := ⟨⟨by decide +kernel, by decide +kernel⟩, List.mem_of_getElem? (i := 608) (by decide +kernel), List.mem_of_getElem? (i := 824) (by decide +kernel), List.mem_of_getElem? (i := 825) (by decide +kernel)⟩
theorem lw_p46 : lw_okq (⟨"SometimesSumsModel", "isUnmet", "(I)Z"⟩, 17) := ⟨⟨by decide +kernel, by decide +kernel⟩, List.mem_of_getElem? (i := 608) (by decide +kernel), List.mem_of_getElem? (i := 828) (by decide +kernel), List.mem_of_getElem? (i := 829) (by decide +kernel)⟩
theorem lw_p47 : lw_okq (⟨"SometimesSumsModel", "isAbove", "(I)Z"⟩, 17) := ⟨⟨by decide +kernel, by decide +kernel⟩, List.mem_of_getElem? (i := 608) (by decide +kernel), List.mem_of_getElem? (i := 832) (by decide +kernel), List.mem_of_getElem? (i := 833) (by decide +kernel)⟩
def lw_privs_3 : List (MethodName × Nat) := [(⟨"SometimesSumsModel", "tells", "(III)V"⟩, 17), (⟨"SometimesSumsModel", "unites", "(I)V"⟩, 17), (⟨"SometimesSumsModel", "comes", "()V"⟩, 17), (⟨"SometimesSumsModel", "isThing", "(I)Z"⟩, 17), (⟨"SometimesSumsModel", "moves", "()V"⟩, 17), (⟨"SometimesSumsModel", "plus", "(II)I"⟩, 17), (⟨"SometimesSumsModel", "isRow", "()Z"⟩, 17), (⟨"SometimesSumsModel", "isNumber", "()Z"⟩, 17), (⟨"SometimesSumsModel", "isAt", "(II)Z"⟩, 17), (⟨"SometimesSumsModel", "isSign", "(I)Z"⟩, 17), (⟨"SometimesSumsModel", "sums", "()I"⟩, 17), (⟨"SometimesSumsModel", "lacks", "(II)I"⟩, 17), (⟨"SometimesSumsModel", "firstBreak", "()I"⟩, 17), (⟨"SometimesSumsModel", "isUnlike", "(III)Z"⟩, 17), (⟨"SometimesSumsModel", "isUnmet", "(I)Z"⟩, 17), (⟨"SometimesSumsModel", "isAbove", "(I)Z"⟩, 17)]
theorem lw_r3 : ∀ q ∈ lw_privs_3, lw_okq q := List.forall_mem_cons.mpr ⟨lw_p32, List.forall_mem_cons.mpr ⟨lw_p33, List.forall_mem_cons.mpr ⟨lw_p34, List.forall_mem_cons.mpr ⟨lw_p35, List.forall_mem_cons.mpr ⟨lw_p36, List.forall_mem_cons.mpr ⟨lw_p37, List.forall_mem_cons.mpr ⟨lw_p38, List.forall_mem_cons.mpr ⟨lw_p39, List.forall_mem_cons.mpr ⟨lw_p40, List.forall_mem_cons.mpr ⟨lw_p41, List.forall_mem_cons.mpr ⟨lw_p42, List.forall_mem_cons.mpr ⟨lw_p43, List.forall_mem_cons.mpr ⟨lw_p44, List.forall_mem_cons.mpr ⟨lw_p45, List.forall_mem_cons.mpr ⟨lw_p46, List.forall_mem_cons.mpr ⟨lw_p47, fun _ h => absurd h List.not_mem_nil⟩⟩⟩⟩⟩⟩⟩⟩⟩⟩⟩⟩⟩⟩⟩⟩
theorem lw_p48 : lw_okq (⟨"SometimesSumsModel", "meets", "()V"⟩, 17) := ⟨⟨by decide +kernel, by decide +kernel⟩, List.mem_of_getElem? (i := 608) (by decide +kernel), List.mem_of_getElem? (i := 840) (by decide +kernel), List.mem_of_getElem? (i := 841) (by decide +kernel)⟩
theorem lw_p49 : lw_okq (⟨"SometimesSumsModel", "isMet", "(IIII)Z"⟩, 17) := ⟨⟨by decide +kernel, by decide +kernel⟩, List.mem_of_getElem? (i := 608) (by decide +kernel), List.mem_of_getElem? (i := 844) (by decide +kernel), List.mem_of_getElem? (i := 845) (by decide +kernel)⟩
theorem lw_p50 : lw_okq (⟨"SometimesSumsModel", "partsOf", "(I)I"⟩, 17) := ⟨⟨by decide +kernel, by decide +kernel⟩, List.mem_of_getElem? (i := 608) (by decide +kernel), List.mem_of_getElem? (i := 848) (by decide +kernel), List.mem_of_getElem? (i := 849) (by decide +kernel)⟩
theorem lw_p51 : lw_okq (⟨"SometimesSumsModel", "isSmallest", "(I)Z"⟩, 17) := ⟨⟨by decide +kernel, by decide +kernel⟩, List.mem_of_getElem? (i := 608) (by decide +kernel), List.mem_of_getElem? (i := 852) (by decide +kernel), List.mem_of_getElem? (i := 853) (by decide +kernel)⟩
theorem lw_p52 : lw_okq (⟨"SometimesSumsModel", "isSharp", "(I)Z"⟩, 17) := ⟨⟨by decide +kernel, by decide +kernel⟩, List.mem_of_getElem? (i := 608) (by decide +kernel), List.mem_of_getElem? (i := 856) (by decide +kernel), List.mem_of_getElem? (i := 857) (by decide +kernel)⟩
theorem lw_p53 : lw_okq (⟨"SometimesSumsModel", "multiple", "(I)I"⟩, 17) := ⟨⟨by decide +kernel, by decide +kernel⟩, List.mem_of_getElem? (i := 608) (by decide +kernel), List.mem_of_getElem? (i := 860) (by decide +kernel), List.mem_of_getElem? (i := 861) (by decide +kernel)⟩
theorem lw_p54 : lw_okq (⟨"SometimesSumsModel", "isBlock", "(I)Z"⟩, 17) := ⟨⟨by decide +kernel, by decide +kernel⟩, List.mem_of_getElem? (i := 608) (by decide +kernel), List.mem_of_getElem? (i := 872) (by decide +kernel), List.mem_of_getElem? (i := 873) (by decide +kernel)⟩
theorem lw_p55 : lw_okq (⟨"SometimesSumsModel", "weighed", "(IIII)I"⟩, 17) := ⟨⟨by decide +kernel, by decide +kernel⟩, List.mem_of_getElem? (i := 608) (by decide +kernel), List.mem_of_getElem? (i := 883) (by decide +kernel), List.mem_of_getElem? (i := 884) (by decide +kernel)⟩
theorem lw_p56 : lw_okq (⟨"SometimesSumsModel", "isOpen", "(I)Z"⟩, 17) := ⟨⟨by decide +kernel, by decide +kernel⟩, List.mem_of_getElem? (i := 608) (by decide +kernel), List.mem_of_getElem? (i := 887) (by decide +kernel), List.mem_of_getElem? (i := 888) (by decide +kernel)⟩
theorem lw_p57 : lw_okq (⟨"SometimesSumsModel", "isDrawn", "(IIII)Z"⟩, 17) := ⟨⟨by decide +kernel, by decide +kernel⟩, List.mem_of_getElem? (i := 608) (by decide +kernel), List.mem_of_getElem? (i := 891) (by decide +kernel), List.mem_of_getElem? (i := 892) (by decide +kernel)⟩
theorem lw_p58 : lw_okq (⟨"SometimesSumsModel", "isRaised", "(III)Z"⟩, 17) := ⟨⟨by decide +kernel, by decide +kernel⟩, List.mem_of_getElem? (i := 608) (by decide +kernel), List.mem_of_getElem? (i := 895) (by decide +kernel), List.mem_of_getElem? (i := 896) (by decide +kernel)⟩
theorem lw_p59 : lw_okq (⟨"SometimesSumsModel", "isLowered", "(III)Z"⟩, 17) := ⟨⟨by decide +kernel, by decide +kernel⟩, List.mem_of_getElem? (i := 608) (by decide +kernel), List.mem_of_getElem? (i := 899) (by decide +kernel), List.mem_of_getElem? (i := 900) (by decide +kernel)⟩
theorem lw_p60 : lw_okq (⟨"SometimesSumsModel", "weighs", "(II)V"⟩, 17) := ⟨⟨by decide +kernel, by decide +kernel⟩, List.mem_of_getElem? (i := 608) (by decide +kernel), List.mem_of_getElem? (i := 903) (by decide +kernel), List.mem_of_getElem? (i := 904) (by decide +kernel)⟩
theorem lw_p61 : lw_okq (⟨"SometimesSumsModel", "blocks", "()I"⟩, 17) := ⟨⟨by decide +kernel, by decide +kernel⟩, List.mem_of_getElem? (i := 608) (by decide +kernel), List.mem_of_getElem? (i := 919) (by decide +kernel), List.mem_of_getElem? (i := 920) (by decide +kernel)⟩
theorem lw_p62 : lw_okq (⟨"SometimesSumsModel", "kinds", "(Z)I"⟩, 17) := ⟨⟨by decide +kernel, by decide +kernel⟩, List.mem_of_getElem? (i := 608) (by decide +kernel), List.mem_of_getElem? (i := 923) (by decide +kernel), List.mem_of_getElem? (i := 924) (by decide +kernel)⟩
theorem lw_p63 : lw_okq (⟨"SometimesSumsModel", "unmet", "()I"⟩, 17) := ⟨⟨by decide +kernel, by decide +kernel⟩, List.mem_of_getElem? (i := 608) (by decide +kernel), List.mem_of_getElem? (i := 927) (by decide +kernel), List.mem_of_getElem? (i := 928) (by decide +kernel)⟩
def lw_privs_4 : List (MethodName × Nat) := [(⟨"SometimesSumsModel", "meets", "()V"⟩, 17), (⟨"SometimesSumsModel", "isMet", "(IIII)Z"⟩, 17), (⟨"SometimesSumsModel", "partsOf", "(I)I"⟩, 17), (⟨"SometimesSumsModel", "isSmallest", "(I)Z"⟩, 17), (⟨"SometimesSumsModel", "isSharp", "(I)Z"⟩, 17), (⟨"SometimesSumsModel", "multiple", "(I)I"⟩, 17), (⟨"SometimesSumsModel", "isBlock", "(I)Z"⟩, 17), (⟨"SometimesSumsModel", "weighed", "(IIII)I"⟩, 17), (⟨"SometimesSumsModel", "isOpen", "(I)Z"⟩, 17), (⟨"SometimesSumsModel", "isDrawn", "(IIII)Z"⟩, 17), (⟨"SometimesSumsModel", "isRaised", "(III)Z"⟩, 17), (⟨"SometimesSumsModel", "isLowered", "(III)Z"⟩, 17), (⟨"SometimesSumsModel", "weighs", "(II)V"⟩, 17), (⟨"SometimesSumsModel", "blocks", "()I"⟩, 17), (⟨"SometimesSumsModel", "kinds", "(Z)I"⟩, 17), (⟨"SometimesSumsModel", "unmet", "()I"⟩, 17)]
theorem lw_r4 : ∀ q ∈ lw_privs_4, lw_okq q := List.forall_mem_cons.mpr ⟨lw_p48, List.forall_mem_cons.mpr ⟨lw_p49, List.forall_mem_cons.mpr ⟨lw_p50, List.forall_mem_cons.mpr ⟨lw_p51, List.forall_mem_cons.mpr ⟨lw_p52, List.forall_mem_cons.mpr ⟨lw_p53, List.forall_mem_cons.mpr ⟨lw_p54, List.forall_mem_cons.mpr ⟨lw_p55, List.forall_mem_cons.mpr ⟨lw_p56, List.forall_mem_cons.mpr ⟨lw_p57, List.forall_mem_cons.mpr ⟨lw_p58, List.forall_mem_cons.mpr ⟨lw_p59, List.forall_mem_cons.mpr ⟨lw_p60, List.forall_mem_cons.mpr ⟨lw_p61, List.forall_mem_cons.mpr ⟨lw_p62, List.forall_mem_cons.mpr ⟨lw_p63, fun _ h => absurd h List.not_mem_nil⟩⟩⟩⟩⟩⟩⟩⟩⟩⟩⟩⟩⟩⟩⟩⟩
theorem lw_p64 : lw_okq (⟨"SometimesSumsModel", "breaks", "()I"⟩, 17) := ⟨⟨by decide +kernel, by decide +kernel⟩, List.mem_of_getElem? (i := 608) (by decide +kernel), List.mem_of_getElem? (i := 931) (by decide +kernel), List.mem_of_getElem? (i := 932) (by decide +kernel)⟩
def lw_privs_5 : List (MethodName × Nat) := [(⟨"SometimesSumsModel", "breaks", "()I"⟩, 17)]
theorem lw_r5 : ∀ q ∈ lw_privs_5, lw_okq q := List.forall_mem_cons.mpr ⟨lw_p64, fun _ h => absurd h List.not_mem_nil⟩
def lw_privs : List (MethodName × Nat) := lw_privs_1 ++ (lw_privs_2 ++ (lw_privs_3 ++ (lw_privs_4 ++ (lw_privs_5))))
def lw_tbl : List Cond := k2_sels lw_privs ++ tables_1
theorem lw_privs_ok : ∀ q ∈ lw_privs, lw_okq q := by
  show ∀ q ∈ lw_privs_1 ++ (lw_privs_2 ++ (lw_privs_3 ++ (lw_privs_4 ++ (lw_privs_5)))), lw_okq q
  exact List.forall_mem_append.mpr ⟨lw_r1, List.forall_mem_append.mpr ⟨lw_r2, List.forall_mem_append.mpr ⟨lw_r3, List.forall_mem_append.mpr ⟨lw_r4, lw_r5⟩⟩⟩⟩

def RX0 : String := "SometimesSums$History"
def TX0 : u_T := fun k => match k with
  | 0 => ("SometimesSums$History", "length", "I", false)
  | _ => ("SometimesSums$History", "states", "[LSometimesSums$Table;", true)
def tyX0 : Nat → FieldType := fun k => match k with
  | 0 => .int
  | _ => .array (.object "SometimesSums$Table")
abbrev wsX00 : List Cond := u_ws RX0 TX0 2
theorem nmX0 : ∀ a, a < 2 → ∀ b, b < 2 → a ≠ b → (TX0 a).2.1 ≠ (TX0 b).2.1 := by decide +kernel
theorem tyX0_ok : ∀ k, k < 2 → parseFieldDescriptor (TX0 k).2.2.1 = some (tyX0 k) := by decide +kernel
abbrev cX0_init : ByteArray := prog_2_method_1_code
def yX0_init : MethodName := ⟨RX0, "<init>", "()V"⟩
abbrev cX0_remember : ByteArray := prog_2_method_2_code
def yX0_remember : MethodName := ⟨RX0, "remember", "(LSometimesSums$Table;)LSometimesSums$Table;"⟩
abbrev cX0_dropOldest : ByteArray := prog_2_method_3_code
def yX0_dropOldest : MethodName := ⟨RX0, "dropOldest", "()V"⟩
abbrev cX0_bringBack : ByteArray := prog_2_method_4_code
def yX0_bringBack : MethodName := ⟨RX0, "bringBack", "(LSometimesSums$Table;)Z"⟩
def RX1 : String := "SometimesSums$Laws"
def TX1 : u_T := fun k => match k with
  | 0 => ("SometimesSums$Laws", "breaks", "I", false)
  | 1 => ("SometimesSums$Laws", "firstLaw", "I", false)
  | 2 => ("SometimesSums$Laws", "firstA", "I", false)
  | 3 => ("SometimesSums$Laws", "firstB", "I", false)
  | _ => ("SometimesSums$Laws", "firstC", "I", false)
def tyX1 : Nat → FieldType := fun k => match k with
  | 0 => .int
  | 1 => .int
  | 2 => .int
  | 3 => .int
  | _ => .int
abbrev wsX10 : List Cond := u_ws RX1 TX1 5
theorem nmX1 : ∀ a, a < 5 → ∀ b, b < 5 → a ≠ b → (TX1 a).2.1 ≠ (TX1 b).2.1 := by decide +kernel
theorem tyX1_ok : ∀ k, k < 5 → parseFieldDescriptor (TX1 k).2.2.1 = some (tyX1 k) := by decide +kernel
abbrev cX1_init : ByteArray := prog_3_method_1_code
def yX1_init : MethodName := ⟨RX1, "<init>", "()V"⟩
abbrev cX1_check : ByteArray := prog_3_method_2_code
def yX1_check : MethodName := ⟨RX1, "check", "(LSometimesSums$Table;)V"⟩
abbrev cX1_checkRegrouping : ByteArray := prog_3_method_3_code
def yX1_checkRegrouping : MethodName := ⟨RX1, "checkRegrouping", "(LSometimesSums$Table;II)V"⟩
abbrev cX1_rests : ByteArray := prog_3_method_4_code
def yX1_rests : MethodName := ⟨RX1, "rests", "(LSometimesSums$Table;I)I"⟩
abbrev cX1_note : ByteArray := prog_3_method_5_code
def yX1_note : MethodName := ⟨RX1, "note", "(IIII)V"⟩
def RX2 : String := "SometimesSums$Relations"
def TX2 : u_T := fun k => match k with
  | 0 => ("SometimesSums$Relations", "parts", "[I", true)
  | 1 => ("SometimesSums$Relations", "wholes", "[I", true)
  | 2 => ("SometimesSums$Relations", "together", "[I", true)
  | 3 => ("SometimesSums$Relations", "rests", "[I", true)
  | _ => ("SometimesSums$Relations", "size", "I", false)
def tyX2 : Nat → FieldType := fun k => match k with
  | 0 => .array .int
  | 1 => .array .int
  | 2 => .array .int
  | 3 => .array .int
  | _ => .int
abbrev wsX20 : List Cond := u_ws RX2 TX2 5
theorem nmX2 : ∀ a, a < 5 → ∀ b, b < 5 → a ≠ b → (TX2 a).2.1 ≠ (TX2 b).2.1 := by decide +kernel
theorem tyX2_ok : ∀ k, k < 5 → parseFieldDescriptor (TX2 k).2.2.1 = some (tyX2 k) := by decide +kernel
abbrev cX2_init : ByteArray := prog_4_method_1_code
def yX2_init : MethodName := ⟨RX2, "<init>", "()V"⟩
abbrev cX2_find : ByteArray := prog_4_method_2_code
def yX2_find : MethodName := ⟨RX2, "find", "(LSometimesSums$Table;)V"⟩
abbrev cX2_findTogether : ByteArray := prog_4_method_3_code
def yX2_findTogether : MethodName := ⟨RX2, "findTogether", "(LSometimesSums$Table;III)V"⟩
abbrev cX2_isSmallestPart : ByteArray := prog_4_method_4_code
def yX2_isSmallestPart : MethodName := ⟨RX2, "isSmallestPart", "(I)Z"⟩
abbrev cX2_hasNoPartIn : ByteArray := prog_4_method_5_code
def yX2_hasNoPartIn : MethodName := ⟨RX2, "hasNoPartIn", "(II)Z"⟩
abbrev cX2_isSharp : ByteArray := prog_4_method_6_code
def yX2_isSharp : MethodName := ⟨RX2, "isSharp", "(I)Z"⟩
abbrev cX2_smallestParts : ByteArray := prog_4_method_7_code
def yX2_smallestParts : MethodName := ⟨RX2, "smallestParts", "()I"⟩
abbrev cX2_smallestPartsWithin : ByteArray := prog_4_method_8_code
def yX2_smallestPartsWithin : MethodName := ⟨RX2, "smallestPartsWithin", "(I)I"⟩
abbrev cX2_sharpThings : ByteArray := prog_4_method_9_code
def yX2_sharpThings : MethodName := ⟨RX2, "sharpThings", "()I"⟩
abbrev cX2_pairsApart : ByteArray := prog_4_method_10_code
def yX2_pairsApart : MethodName := ⟨RX2, "pairsApart", "()I"⟩
abbrev cX2_blocks : ByteArray := prog_4_method_11_code
def yX2_blocks : MethodName := ⟨RX2, "blocks", "()I"⟩
abbrev cX2_blockAt : ByteArray := prog_4_method_12_code
def yX2_blockAt : MethodName := ⟨RX2, "blockAt", "(I)I"⟩
abbrev cX2_isBlock : ByteArray := prog_4_method_13_code
def yX2_isBlock : MethodName := ⟨RX2, "isBlock", "(I)Z"⟩
def RX3 : String := "SometimesSums$Table"
def TX3 : u_T := fun k => match k with
  | 0 => ("SometimesSums$Table", "size", "I", false)
  | _ => ("SometimesSums$Table", "sums", "[I", true)
def tyX3 : Nat → FieldType := fun k => match k with
  | 0 => .int
  | _ => .array .int
abbrev wsX30 : List Cond := u_ws RX3 TX3 2
theorem nmX3 : ∀ a, a < 2 → ∀ b, b < 2 → a ≠ b → (TX3 a).2.1 ≠ (TX3 b).2.1 := by decide +kernel
theorem tyX3_ok : ∀ k, k < 2 → parseFieldDescriptor (TX3 k).2.2.1 = some (tyX3 k) := by decide +kernel
abbrev cX3_init : ByteArray := prog_5_method_1_code
def yX3_init : MethodName := ⟨RX3, "<init>", "()V"⟩
abbrev cX3_has : ByteArray := prog_5_method_2_code
def yX3_has : MethodName := ⟨RX3, "has", "(I)Z"⟩
abbrev cX3_at : ByteArray := prog_5_method_3_code
def yX3_at : MethodName := ⟨RX3, "at", "(II)I"⟩
abbrev cX3_hasSum : ByteArray := prog_5_method_4_code
def yX3_hasSum : MethodName := ⟨RX3, "hasSum", "(II)Z"⟩
abbrev cX3_put : ByteArray := prog_5_method_5_code
def yX3_put : MethodName := ⟨RX3, "put", "(III)V"⟩
abbrev cX3_empty : ByteArray := prog_5_method_6_code
def yX3_empty : MethodName := ⟨RX3, "empty", "(I)V"⟩
abbrev cX3_widen : ByteArray := prog_5_method_7_code
def yX3_widen : MethodName := ⟨RX3, "widen", "(I)V"⟩
abbrev cX3_become : ByteArray := prog_5_method_8_code
def yX3_become : MethodName := ⟨RX3, "become", "(LSometimesSums$Table;)V"⟩
abbrev cX3_addRenumbered : ByteArray := prog_5_method_9_code
def yX3_addRenumbered : MethodName := ⟨RX3, "addRenumbered", "(LSometimesSums$Table;[I)V"⟩
abbrev cX3_addChain : ByteArray := prog_5_method_10_code
def yX3_addChain : MethodName := ⟨RX3, "addChain", "(I)V"⟩
abbrev cX3_fillWithSets : ByteArray := prog_5_method_11_code
def yX3_fillWithSets : MethodName := ⟨RX3, "fillWithSets", "(I)V"⟩
abbrev cX3_thingOfSet : ByteArray := prog_5_method_12_code
def yX3_thingOfSet : MethodName := ⟨RX3, "thingOfSet", "(II)I"⟩
abbrev cX3_fillWithPairs : ByteArray := prog_5_method_13_code
def yX3_fillWithPairs : MethodName := ⟨RX3, "fillWithPairs", "(LSometimesSums$Table;)V"⟩
abbrev cX3_pairWith0 : ByteArray := prog_5_method_14_code
def yX3_pairWith0 : MethodName := ⟨RX3, "pairWith0", "(I)I"⟩
abbrev cX3_pairWith1 : ByteArray := prog_5_method_15_code
def yX3_pairWith1 : MethodName := ⟨RX3, "pairWith1", "(II)I"⟩
abbrev cX3_leastAddend : ByteArray := prog_5_method_16_code
def yX3_leastAddend : MethodName := ⟨RX3, "leastAddend", "(II)I"⟩
abbrev cX3_rest : ByteArray := prog_5_method_17_code
def yX3_rest : MethodName := ⟨RX3, "rest", "(I)I"⟩
abbrev cX3_addends : ByteArray := prog_5_method_18_code
def yX3_addends : MethodName := ⟨RX3, "addends", "(I)I"⟩
abbrev cX3_pairsWithSum : ByteArray := prog_5_method_19_code
def yX3_pairsWithSum : MethodName := ⟨RX3, "pairsWithSum", "()I"⟩
abbrev cX3_pairsNaming : ByteArray := prog_5_method_20_code
def yX3_pairsNaming : MethodName := ⟨RX3, "pairsNaming", "(II)I"⟩
def RX4 : String := "SometimesSums$Text"
def TX4 : u_T := fun k => match k with
  | 0 => ("SometimesSums$Text", "length", "I", false)
  | 1 => ("SometimesSums$Text", "characters", "[C", true)
  | 2 => ("SometimesSums$Text", "position", "I", false)
  | 3 => ("SometimesSums$Text", "told", "I", false)
  | 4 => ("SometimesSums$Text", "ones", "[I", true)
  | 5 => ("SometimesSums$Text", "others", "[I", true)
  | _ => ("SometimesSums$Text", "sums", "[I", true)
def tyX4 : Nat → FieldType := fun k => match k with
  | 0 => .int
  | 1 => .array .char
  | 2 => .int
  | 3 => .int
  | 4 => .array .int
  | 5 => .array .int
  | _ => .array .int
abbrev wsX40 : List Cond := u_ws RX4 TX4 7
theorem nmX4 : ∀ a, a < 7 → ∀ b, b < 7 → a ≠ b → (TX4 a).2.1 ≠ (TX4 b).2.1 := by decide +kernel
theorem tyX4_ok : ∀ k, k < 7 → parseFieldDescriptor (TX4 k).2.2.1 = some (tyX4 k) := by decide +kernel
abbrev cX4_init : ByteArray := prog_6_method_1_code
def yX4_init : MethodName := ⟨RX4, "<init>", "()V"⟩
abbrev cX4_append : ByteArray := prog_6_method_2_code
def yX4_append : MethodName := ⟨RX4, "append", "(C)Z"⟩
abbrev cX4_read : ByteArray := prog_6_method_3_code
def yX4_read : MethodName := ⟨RX4, "read", "()I"⟩
abbrev cX4_readSum : ByteArray := prog_6_method_4_code
def yX4_readSum : MethodName := ⟨RX4, "readSum", "()Z"⟩
abbrev cX4_readThing : ByteArray := prog_6_method_5_code
def yX4_readThing : MethodName := ⟨RX4, "readThing", "()I"⟩
abbrev cX4_digit : ByteArray := prog_6_method_6_code
def yX4_digit : MethodName := ⟨RX4, "digit", "()I"⟩
abbrev cX4_skip : ByteArray := prog_6_method_7_code
def yX4_skip : MethodName := ⟨RX4, "skip", "(C)Z"⟩
abbrev cX4_greatestThing : ByteArray := prog_6_method_8_code
def yX4_greatestThing : MethodName := ⟨RX4, "greatestThing", "()I"⟩
abbrev cX4_addsNothing : ByteArray := prog_6_method_9_code
def yX4_addsNothing : MethodName := ⟨RX4, "addsNothing", "()Z"⟩
abbrev cX4_putSums : ByteArray := prog_6_method_10_code
def yX4_putSums : MethodName := ⟨RX4, "putSums", "(LSometimesSums$Table;)V"⟩
def RX5 : String := "SometimesSums$Weights"
def TX5 : u_T := fun k => match k with
  | 0 => ("SometimesSums$Weights", "ways", "I", false)
  | 1 => ("SometimesSums$Weights", "first", "[I", true)
  | 2 => ("SometimesSums$Weights", "least", "[I", true)
  | 3 => ("SometimesSums$Weights", "most", "[I", true)
  | 4 => ("SometimesSums$Weights", "size", "I", false)
  | 5 => ("SometimesSums$Weights", "pairs", "I", false)
  | 6 => ("SometimesSums$Weights", "ones", "[I", true)
  | 7 => ("SometimesSums$Weights", "others", "[I", true)
  | 8 => ("SometimesSums$Weights", "sums", "[I", true)
  | 9 => ("SometimesSums$Weights", "lows", "[I", true)
  | 10 => ("SometimesSums$Weights", "highs", "[I", true)
  | 11 => ("SometimesSums$Weights", "groups", "[I", true)
  | _ => ("SometimesSums$Weights", "waysOfGroup", "I", false)
def tyX5 : Nat → FieldType := fun k => match k with
  | 0 => .int
  | 1 => .array .int
  | 2 => .array .int
  | 3 => .array .int
  | 4 => .int
  | 5 => .int
  | 6 => .array .int
  | 7 => .array .int
  | 8 => .array .int
  | 9 => .array .int
  | 10 => .array .int
  | 11 => .array .int
  | _ => .int
abbrev wsX50 : List Cond := u_ws RX5 TX5 13
theorem nmX5 : ∀ a, a < 13 → ∀ b, b < 13 → a ≠ b → (TX5 a).2.1 ≠ (TX5 b).2.1 := by decide +kernel
theorem tyX5_ok : ∀ k, k < 13 → parseFieldDescriptor (TX5 k).2.2.1 = some (tyX5 k) := by decide +kernel
abbrev cX5_init : ByteArray := prog_7_method_1_code
def yX5_init : MethodName := ⟨RX5, "<init>", "()V"⟩
abbrev cX5_find : ByteArray := prog_7_method_2_code
def yX5_find : MethodName := ⟨RX5, "find", "(LSometimesSums$Table;I)V"⟩
abbrev cX5_gatherPairs : ByteArray := prog_7_method_3_code
def yX5_gatherPairs : MethodName := ⟨RX5, "gatherPairs", "(LSometimesSums$Table;)V"⟩
abbrev cX5_setFirstRanges : ByteArray := prog_7_method_4_code
def yX5_setFirstRanges : MethodName := ⟨RX5, "setFirstRanges", "(I)V"⟩
abbrev cX5_narrow : ByteArray := prog_7_method_5_code
def yX5_narrow : MethodName := ⟨RX5, "narrow", "(I)Z"⟩
abbrev cX5_narrowBySum : ByteArray := prog_7_method_6_code
def yX5_narrowBySum : MethodName := ⟨RX5, "narrowBySum", "(III)Z"⟩
abbrev cX5_limit : ByteArray := prog_7_method_7_code
def yX5_limit : MethodName := ⟨RX5, "limit", "(III)Z"⟩
abbrev cX5_isEmpty : ByteArray := prog_7_method_8_code
def yX5_isEmpty : MethodName := ⟨RX5, "isEmpty", "(I)Z"⟩
abbrev cX5_isOpen : ByteArray := prog_7_method_9_code
def yX5_isOpen : MethodName := ⟨RX5, "isOpen", "(I)Z"⟩
abbrev cX5_formGroups : ByteArray := prog_7_method_10_code
def yX5_formGroups : MethodName := ⟨RX5, "formGroups", "()V"⟩
abbrev cX5_joinGroups : ByteArray := prog_7_method_11_code
def yX5_joinGroups : MethodName := ⟨RX5, "joinGroups", "(II)V"⟩
abbrev cX5_startRange : ByteArray := prog_7_method_12_code
def yX5_startRange : MethodName := ⟨RX5, "startRange", "(II)V"⟩
abbrev cX5_weigh : ByteArray := prog_7_method_13_code
def yX5_weigh : MethodName := ⟨RX5, "weigh", "(II)V"⟩
abbrev cX5_weighWith : ByteArray := prog_7_method_14_code
def yX5_weighWith : MethodName := ⟨RX5, "weighWith", "(IIII)V"⟩
abbrev cX5_firstOpenThing : ByteArray := prog_7_method_15_code
def yX5_firstOpenThing : MethodName := ⟨RX5, "firstOpenThing", "(II)I"⟩
abbrev cX5_copyRanges : ByteArray := prog_7_method_16_code
def yX5_copyRanges : MethodName := ⟨RX5, "copyRanges", "(I)V"⟩
abbrev cX5_noteWeighing : ByteArray := prog_7_method_17_code
def yX5_noteWeighing : MethodName := ⟨RX5, "noteWeighing", "(II)V"⟩
def RX6 : String := "SometimesSums"
def TX6 : u_T := fun k => match k with
  | 0 => ("SometimesSums", "table", "LSometimesSums$Table;", true)
  | 1 => ("SometimesSums", "snapshot", "LSometimesSums$Table;", true)
  | 2 => ("SometimesSums", "snapshotTaken", "Z", false)
  | 3 => ("SometimesSums", "history", "LSometimesSums$History;", true)
  | 4 => ("SometimesSums", "text", "LSometimesSums$Text;", true)
  | 5 => ("SometimesSums", "laws", "LSometimesSums$Laws;", true)
  | 6 => ("SometimesSums", "relations", "LSometimesSums$Relations;", true)
  | 7 => ("SometimesSums", "weights", "LSometimesSums$Weights;", true)
  | _ => ("SometimesSums", "newNumbers", "[I", true)
def tyX6 : Nat → FieldType := fun k => match k with
  | 0 => .object "SometimesSums$Table"
  | 1 => .object "SometimesSums$Table"
  | 2 => .boolean
  | 3 => .object "SometimesSums$History"
  | 4 => .object "SometimesSums$Text"
  | 5 => .object "SometimesSums$Laws"
  | 6 => .object "SometimesSums$Relations"
  | 7 => .object "SometimesSums$Weights"
  | _ => .array .int
abbrev wsX60 : List Cond := u_ws RX6 TX6 9
theorem nmX6 : ∀ a, a < 9 → ∀ b, b < 9 → a ≠ b → (TX6 a).2.1 ≠ (TX6 b).2.1 := by decide +kernel
theorem tyX6_ok : ∀ k, k < 9 → parseFieldDescriptor (TX6 k).2.2.1 = some (tyX6 k) := by decide +kernel
abbrev cX6_init : ByteArray := prog_1_method_1_code
def yX6_init : MethodName := ⟨RX6, "<init>", "()V"⟩
abbrev cX6_take : ByteArray := prog_1_method_2_code
def yX6_take : MethodName := ⟨RX6, "take", "(II)I"⟩
abbrev cX6_addThing : ByteArray := prog_1_method_3_code
def yX6_addThing : MethodName := ⟨RX6, "addThing", "()I"⟩
abbrev cX6_removeThing : ByteArray := prog_1_method_4_code
def yX6_removeThing : MethodName := ⟨RX6, "removeThing", "(I)I"⟩
abbrev cX6_setSum : ByteArray := prog_1_method_5_code
def yX6_setSum : MethodName := ⟨RX6, "setSum", "(III)I"⟩
abbrev cX6_clearSum : ByteArray := prog_1_method_6_code
def yX6_clearSum : MethodName := ⟨RX6, "clearSum", "(II)I"⟩
abbrev cX6_readSums : ByteArray := prog_1_method_7_code
def yX6_readSums : MethodName := ⟨RX6, "readSums", "()I"⟩
abbrev cX6_glue : ByteArray := prog_1_method_8_code
def yX6_glue : MethodName := ⟨RX6, "glue", "(I)I"⟩
abbrev cX6_twice : ByteArray := prog_1_method_9_code
def yX6_twice : MethodName := ⟨RX6, "twice", "()I"⟩
abbrev cX6_swap : ByteArray := prog_1_method_10_code
def yX6_swap : MethodName := ⟨RX6, "swap", "(II)I"⟩
abbrev cX6_type : ByteArray := prog_1_method_11_code
def yX6_type : MethodName := ⟨RX6, "type", "(C)I"⟩
abbrev cX6_clearText : ByteArray := prog_1_method_12_code
def yX6_clearText : MethodName := ⟨RX6, "clearText", "()I"⟩
abbrev cX6_undo : ByteArray := prog_1_method_13_code
def yX6_undo : MethodName := ⟨RX6, "undo", "()I"⟩
abbrev cX6_keep : ByteArray := prog_1_method_14_code
def yX6_keep : MethodName := ⟨RX6, "keep", "()I"⟩
abbrev cX6_restore : ByteArray := prog_1_method_15_code
def yX6_restore : MethodName := ⟨RX6, "restore", "()I"⟩
abbrev cX6_sum : ByteArray := prog_1_method_16_code
def yX6_sum : MethodName := ⟨RX6, "sum", "(II)I"⟩
abbrev cX6_difference : ByteArray := prog_1_method_17_code
def yX6_difference : MethodName := ⟨RX6, "difference", "(II)I"⟩
abbrev cX6_broken : ByteArray := prog_1_method_18_code
def yX6_broken : MethodName := ⟨RX6, "broken", "(I)I"⟩
abbrev cX6_thing : ByteArray := prog_1_method_19_code
def yX6_thing : MethodName := ⟨RX6, "thing", "(II)I"⟩
abbrev cX6_sumOf : ByteArray := prog_1_method_20_code
def yX6_sumOf : MethodName := ⟨RX6, "sumOf", "(I)I"⟩
abbrev cX6_block : ByteArray := prog_1_method_21_code
def yX6_block : MethodName := ⟨RX6, "block", "(II)I"⟩
abbrev cX6_weighings : ByteArray := prog_1_method_22_code
def yX6_weighings : MethodName := ⟨RX6, "weighings", "(I)I"⟩
abbrev cX6_weight : ByteArray := prog_1_method_23_code
def yX6_weight : MethodName := ⟨RX6, "weight", "(II)I"⟩
abbrev cX6_range : ByteArray := prog_1_method_24_code
def yX6_range : MethodName := ⟨RX6, "range", "(IIZ)I"⟩
abbrev cX6_count : ByteArray := prog_1_method_25_code
def yX6_count : MethodName := ⟨RX6, "count", "(I)I"⟩
abbrev cX6_bit : ByteArray := prog_1_method_26_code
def yX6_bit : MethodName := ⟨RX6, "bit", "(I)I"⟩
abbrev cX6_isNothingOrWhole : ByteArray := prog_1_method_27_code
def yX6_isNothingOrWhole : MethodName := ⟨RX6, "isNothingOrWhole", "(I)Z"⟩
abbrev cX6_thingOrNone : ByteArray := prog_1_method_28_code
def yX6_thingOrNone : MethodName := ⟨RX6, "thingOrNone", "(I)I"⟩
abbrev cX6_isWholeWeight : ByteArray := prog_1_method_29_code
def yX6_isWholeWeight : MethodName := ⟨RX6, "isWholeWeight", "(I)Z"⟩
abbrev cX6_weighingError : ByteArray := prog_1_method_30_code
def yX6_weighingError : MethodName := ⟨RX6, "weighingError", "(II)I"⟩
abbrev cX6_timesAddable : ByteArray := prog_1_method_31_code
def yX6_timesAddable : MethodName := ⟨RX6, "timesAddable", "(I)I"⟩
def RX7 : String := "SometimesSumsModel"
def TX7 : u_T := fun k => match k with
  | 0 => ("SometimesSumsModel", "many", "I", false)
  | 1 => ("SometimesSumsModel", "table", "[I", true)
  | 2 => ("SometimesSumsModel", "made", "[I", true)
  | 3 => ("SometimesSumsModel", "past", "[I", true)
  | 4 => ("SometimesSumsModel", "kept", "I", false)
  | 5 => ("SometimesSumsModel", "shot", "[I", true)
  | 6 => ("SometimesSumsModel", "isShot", "Z", false)
  | 7 => ("SometimesSumsModel", "text", "[I", true)
  | 8 => ("SometimesSumsModel", "typed", "I", false)
  | 9 => ("SometimesSumsModel", "at", "I", false)
  | 10 => ("SometimesSumsModel", "told", "[I", true)
  | 11 => ("SometimesSumsModel", "tolds", "I", false)
  | 12 => ("SometimesSumsModel", "number", "I", false)
  | 13 => ("SometimesSumsModel", "lows", "[I", true)
  | 14 => ("SometimesSumsModel", "highs", "[I", true)
  | 15 => ("SometimesSumsModel", "tried", "[I", true)
  | _ => ("SometimesSumsModel", "with", "[I", true)
def tyX7 : Nat → FieldType := fun k => match k with
  | 0 => .int
  | 1 => .array .int
  | 2 => .array .int
  | 3 => .array .int
  | 4 => .int
  | 5 => .array .int
  | 6 => .boolean
  | 7 => .array .int
  | 8 => .int
  | 9 => .int
  | 10 => .array .int
  | 11 => .int
  | 12 => .int
  | 13 => .array .int
  | 14 => .array .int
  | 15 => .array .int
  | _ => .array .int
abbrev wsX70 : List Cond := u_ws RX7 TX7 17
theorem nmX7 : ∀ a, a < 17 → ∀ b, b < 17 → a ≠ b → (TX7 a).2.1 ≠ (TX7 b).2.1 := by decide +kernel
theorem tyX7_ok : ∀ k, k < 17 → parseFieldDescriptor (TX7 k).2.2.1 = some (tyX7 k) := by decide +kernel
abbrev cX7_init : ByteArray := prog_9_method_1_code
def yX7_init : MethodName := ⟨RX7, "<init>", "()V"⟩
abbrev cX7_in : ByteArray := prog_9_method_3_code
def yX7_in : MethodName := ⟨RX7, "in", "(III)Z"⟩
abbrev cX7_isThing : ByteArray := prog_9_method_4_code
def yX7_isThing : MethodName := ⟨RX7, "isThing", "(I)Z"⟩
abbrev cX7_plus : ByteArray := prog_9_method_5_code
def yX7_plus : MethodName := ⟨RX7, "plus", "(II)I"⟩
abbrev cX7_tells : ByteArray := prog_9_method_6_code
def yX7_tells : MethodName := ⟨RX7, "tells", "(III)V"⟩
abbrev cX7_lays : ByteArray := prog_9_method_7_code
def yX7_lays : MethodName := ⟨RX7, "lays", "([II)V"⟩
abbrev cX7_gets : ByteArray := prog_9_method_8_code
def yX7_gets : MethodName := ⟨RX7, "gets", "([II)V"⟩
abbrev cX7_records : ByteArray := prog_9_method_9_code
def yX7_records : MethodName := ⟨RX7, "records", "()V"⟩
abbrev cX7_undo : ByteArray := prog_9_method_10_code
def yX7_undo : MethodName := ⟨RX7, "undo", "()I"⟩
abbrev cX7_keep : ByteArray := prog_9_method_11_code
def yX7_keep : MethodName := ⟨RX7, "keep", "()I"⟩
abbrev cX7_restore : ByteArray := prog_9_method_12_code
def yX7_restore : MethodName := ⟨RX7, "restore", "()I"⟩
abbrev cX7_empties : ByteArray := prog_9_method_13_code
def yX7_empties : MethodName := ⟨RX7, "empties", "(I)V"⟩
abbrev cX7_linkOf : ByteArray := prog_9_method_14_code
def yX7_linkOf : MethodName := ⟨RX7, "linkOf", "(III)I"⟩
abbrev cX7_chains : ByteArray := prog_9_method_15_code
def yX7_chains : MethodName := ⟨RX7, "chains", "(II)V"⟩
abbrev cX7_setOf : ByteArray := prog_9_method_16_code
def yX7_setOf : MethodName := ⟨RX7, "setOf", "(II)I"⟩
abbrev cX7_thingOf : ByteArray := prog_9_method_17_code
def yX7_thingOf : MethodName := ⟨RX7, "thingOf", "(II)I"⟩
abbrev cX7_unites : ByteArray := prog_9_method_18_code
def yX7_unites : MethodName := ⟨RX7, "unites", "(I)V"⟩
abbrev cX7_take : ByteArray := prog_9_method_19_code
def yX7_take : MethodName := ⟨RX7, "take", "(II)I"⟩
abbrev cX7_comes : ByteArray := prog_9_method_20_code
def yX7_comes : MethodName := ⟨RX7, "comes", "()V"⟩
abbrev cX7_addThing : ByteArray := prog_9_method_21_code
def yX7_addThing : MethodName := ⟨RX7, "addThing", "()I"⟩
abbrev cX7_removeThing : ByteArray := prog_9_method_22_code
def yX7_removeThing : MethodName := ⟨RX7, "removeThing", "(I)I"⟩
abbrev cX7_moves : ByteArray := prog_9_method_23_code
def yX7_moves : MethodName := ⟨RX7, "moves", "()V"⟩
abbrev cX7_setSum : ByteArray := prog_9_method_24_code
def yX7_setSum : MethodName := ⟨RX7, "setSum", "(III)I"⟩
abbrev cX7_clearSum : ByteArray := prog_9_method_25_code
def yX7_clearSum : MethodName := ⟨RX7, "clearSum", "(II)I"⟩
abbrev cX7_glue : ByteArray := prog_9_method_26_code
def yX7_glue : MethodName := ⟨RX7, "glue", "(I)I"⟩
abbrev cX7_pairOf : ByteArray := prog_9_method_27_code
def yX7_pairOf : MethodName := ⟨RX7, "pairOf", "(III)I"⟩
abbrev cX7_twice : ByteArray := prog_9_method_28_code
def yX7_twice : MethodName := ⟨RX7, "twice", "()I"⟩
abbrev cX7_turned : ByteArray := prog_9_method_29_code
def yX7_turned : MethodName := ⟨RX7, "turned", "(III)I"⟩
abbrev cX7_swap : ByteArray := prog_9_method_30_code
def yX7_swap : MethodName := ⟨RX7, "swap", "(II)I"⟩
abbrev cX7_type : ByteArray := prog_9_method_31_code
def yX7_type : MethodName := ⟨RX7, "type", "(C)I"⟩
abbrev cX7_clearText : ByteArray := prog_9_method_32_code
def yX7_clearText : MethodName := ⟨RX7, "clearText", "()I"⟩
abbrev cX7_isAt : ByteArray := prog_9_method_33_code
def yX7_isAt : MethodName := ⟨RX7, "isAt", "(II)Z"⟩
abbrev cX7_isSign : ByteArray := prog_9_method_34_code
def yX7_isSign : MethodName := ⟨RX7, "isSign", "(I)Z"⟩
abbrev cX7_isNumber : ByteArray := prog_9_method_35_code
def yX7_isNumber : MethodName := ⟨RX7, "isNumber", "()Z"⟩
abbrev cX7_isRow : ByteArray := prog_9_method_36_code
def yX7_isRow : MethodName := ⟨RX7, "isRow", "()Z"⟩
abbrev cX7_readSums : ByteArray := prog_9_method_37_code
def yX7_readSums : MethodName := ⟨RX7, "readSums", "()I"⟩
abbrev cX7_sums : ByteArray := prog_9_method_38_code
def yX7_sums : MethodName := ⟨RX7, "sums", "()I"⟩
abbrev cX7_sum : ByteArray := prog_9_method_39_code
def yX7_sum : MethodName := ⟨RX7, "sum", "(II)I"⟩
abbrev cX7_lacks : ByteArray := prog_9_method_40_code
def yX7_lacks : MethodName := ⟨RX7, "lacks", "(II)I"⟩
abbrev cX7_difference : ByteArray := prog_9_method_41_code
def yX7_difference : MethodName := ⟨RX7, "difference", "(II)I"⟩
abbrev cX7_isUnlike : ByteArray := prog_9_method_42_code
def yX7_isUnlike : MethodName := ⟨RX7, "isUnlike", "(III)Z"⟩
abbrev cX7_isUnmet : ByteArray := prog_9_method_43_code
def yX7_isUnmet : MethodName := ⟨RX7, "isUnmet", "(I)Z"⟩
abbrev cX7_isAbove : ByteArray := prog_9_method_44_code
def yX7_isAbove : MethodName := ⟨RX7, "isAbove", "(I)Z"⟩
abbrev cX7_firstBreak : ByteArray := prog_9_method_45_code
def yX7_firstBreak : MethodName := ⟨RX7, "firstBreak", "()I"⟩
abbrev cX7_breaks : ByteArray := prog_9_method_46_code
def yX7_breaks : MethodName := ⟨RX7, "breaks", "()I"⟩
abbrev cX7_broken : ByteArray := prog_9_method_47_code
def yX7_broken : MethodName := ⟨RX7, "broken", "(I)I"⟩
abbrev cX7_partsOf : ByteArray := prog_9_method_48_code
def yX7_partsOf : MethodName := ⟨RX7, "partsOf", "(I)I"⟩
abbrev cX7_isSmallest : ByteArray := prog_9_method_49_code
def yX7_isSmallest : MethodName := ⟨RX7, "isSmallest", "(I)Z"⟩
abbrev cX7_isSharp : ByteArray := prog_9_method_50_code
def yX7_isSharp : MethodName := ⟨RX7, "isSharp", "(I)Z"⟩
abbrev cX7_isMet : ByteArray := prog_9_method_51_code
def yX7_isMet : MethodName := ⟨RX7, "isMet", "(IIII)Z"⟩
abbrev cX7_meets : ByteArray := prog_9_method_52_code
def yX7_meets : MethodName := ⟨RX7, "meets", "()V"⟩
abbrev cX7_multiple : ByteArray := prog_9_method_53_code
def yX7_multiple : MethodName := ⟨RX7, "multiple", "(I)I"⟩
abbrev cX7_thing : ByteArray := prog_9_method_54_code
def yX7_thing : MethodName := ⟨RX7, "thing", "(II)I"⟩
abbrev cX7_sumOf : ByteArray := prog_9_method_55_code
def yX7_sumOf : MethodName := ⟨RX7, "sumOf", "(I)I"⟩
abbrev cX7_isBlock : ByteArray := prog_9_method_56_code
def yX7_isBlock : MethodName := ⟨RX7, "isBlock", "(I)Z"⟩
abbrev cX7_blocks : ByteArray := prog_9_method_57_code
def yX7_blocks : MethodName := ⟨RX7, "blocks", "()I"⟩
abbrev cX7_block : ByteArray := prog_9_method_58_code
def yX7_block : MethodName := ⟨RX7, "block", "(II)I"⟩
abbrev cX7_isDrawn : ByteArray := prog_9_method_59_code
def yX7_isDrawn : MethodName := ⟨RX7, "isDrawn", "(IIII)Z"⟩
abbrev cX7_isRaised : ByteArray := prog_9_method_60_code
def yX7_isRaised : MethodName := ⟨RX7, "isRaised", "(III)Z"⟩
abbrev cX7_isLowered : ByteArray := prog_9_method_61_code
def yX7_isLowered : MethodName := ⟨RX7, "isLowered", "(III)Z"⟩
abbrev cX7_isOpen : ByteArray := prog_9_method_62_code
def yX7_isOpen : MethodName := ⟨RX7, "isOpen", "(I)Z"⟩
abbrev cX7_weighs : ByteArray := prog_9_method_63_code
def yX7_weighs : MethodName := ⟨RX7, "weighs", "(II)V"⟩
abbrev cX7_weighed : ByteArray := prog_9_method_64_code
def yX7_weighed : MethodName := ⟨RX7, "weighed", "(IIII)I"⟩
abbrev cX7_isWeight : ByteArray := prog_9_method_65_code
def yX7_isWeight : MethodName := ⟨RX7, "isWeight", "(I)Z"⟩
abbrev cX7_weighings : ByteArray := prog_9_method_66_code
def yX7_weighings : MethodName := ⟨RX7, "weighings", "(I)I"⟩
abbrev cX7_weight : ByteArray := prog_9_method_67_code
def yX7_weight : MethodName := ⟨RX7, "weight", "(II)I"⟩
abbrev cX7_range : ByteArray := prog_9_method_68_code
def yX7_range : MethodName := ⟨RX7, "range", "(IIZ)I"⟩
abbrev cX7_kinds : ByteArray := prog_9_method_69_code
def yX7_kinds : MethodName := ⟨RX7, "kinds", "(Z)I"⟩
abbrev cX7_unmet : ByteArray := prog_9_method_70_code
def yX7_unmet : MethodName := ⟨RX7, "unmet", "()I"⟩
abbrev cX7_count : ByteArray := prog_9_method_71_code
def yX7_count : MethodName := ⟨RX7, "count", "(I)I"⟩
def RJ9 : String := "java/lang/Math"
def TJ9 : u_T := fun k => match k with
  | _ => ("", "", "", false)
def tyJ9 : Nat → FieldType := fun k => match k with
  | _ => .int
abbrev wsJ90 : List Cond := u_ws RJ9 TJ9 0
theorem nmJ9 : ∀ a, a < 0 → ∀ b, b < 0 → a ≠ b → (TJ9 a).2.1 ≠ (TJ9 b).2.1 := by decide +kernel
theorem tyJ9_ok : ∀ k, k < 0 → parseFieldDescriptor (TJ9 k).2.2.1 = some (tyJ9 k) := by decide +kernel
abbrev cJ9_max_7cf53 : ByteArray := prog_10_method_65_code
def yJ9_max_7cf53 : MethodName := ⟨RJ9, "max", "(II)I"⟩
abbrev cJ9_min_7cf53 : ByteArray := prog_10_method_69_code
def yJ9_min_7cf53 : MethodName := ⟨RJ9, "min", "(II)I"⟩
def RJ10 : String := "java/lang/System"
def TJ10 : u_T := fun k => match k with
  | _ => ("", "", "", false)
def tyJ10 : Nat → FieldType := fun k => match k with
  | _ => .int
abbrev wsJ100 : List Cond := u_ws RJ10 TJ10 0
theorem nmJ10 : ∀ a, a < 0 → ∀ b, b < 0 → a ≠ b → (TJ10 a).2.1 ≠ (TJ10 b).2.1 := by decide +kernel
theorem tyJ10_ok : ∀ k, k < 0 → parseFieldDescriptor (TJ10 k).2.2.1 = some (tyJ10 k) := by decide +kernel
def RL : String := "SometimesSumsLaw"
abbrev cL_law : ByteArray := code
def yL_law : MethodName := ⟨RL, "law", "([I)Z"⟩
abbrev vwCl : List vw_C := [(RX0, TX0, 2), (RX1, TX1, 5), (RX2, TX2, 5), (RX3, TX3, 2), (RX4, TX4, 7), (RX5, TX5, 13), (RX6, TX6, 9), (RX7, TX7, 17)]
