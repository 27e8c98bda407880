-- ===== PART A: goes FIRST, ahead of the names: the tables' words, and 'selects' of the private methods out of them =====
/-- a private method of a class that the tables say can be made, by its rows of tables_1 -/
def lw_okq (q : MethodName × Nat) : Prop := (q.1.cls ≠ "java/lang/invoke/MethodHandle" ∧ q.1.cls ≠ "java/lang/invoke/VarHandle") ∧ Cond.instantiable q.1.cls q.2 ∈ tables_1 ∧ Cond.privateMethod q.1 ∈ tables_1 ∧ Cond.instanceMethod q.1 ∈ tables_1
theorem lw_p0 : lw_okq (⟨"SometimesSums$Laws", "checkRegrouping", "(LSometimesSums$Table;II)V"⟩, 5) := ⟨⟨by decide +kernel, by decide +kernel⟩, List.mem_of_getElem? (i := 97) (by decide +kernel), List.mem_of_getElem? (i := 246) (by decide +kernel), List.mem_of_getElem? (i := 247) (by decide +kernel)⟩
theorem lw_p1 : lw_okq (⟨"SometimesSums$Laws", "note", "(IIII)V"⟩, 5) := ⟨⟨by decide +kernel, by decide +kernel⟩, List.mem_of_getElem? (i := 97) (by decide +kernel), List.mem_of_getElem? (i := 254) (by decide +kernel), List.mem_of_getElem? (i := 255) (by decide +kernel)⟩
theorem lw_p2 : lw_okq (⟨"SometimesSums$Relations", "findTogether", "(LSometimesSums$Table;III)V"⟩, 5) := ⟨⟨by decide +kernel, by decide +kernel⟩, List.mem_of_getElem? (i := 124) (by decide +kernel), List.mem_of_getElem? (i := 291) (by decide +kernel), List.mem_of_getElem? (i := 292) (by decide +kernel)⟩
theorem lw_p3 : lw_okq (⟨"SometimesSums$Relations", "isBlock", "(I)Z"⟩, 5) := ⟨⟨by decide +kernel, by decide +kernel⟩, List.mem_of_getElem? (i := 124) (by decide +kernel), List.mem_of_getElem? (i := 300) (by decide +kernel), List.mem_of_getElem? (i := 301) (by decide +kernel)⟩
theorem lw_p4 : lw_okq (⟨"SometimesSums$Relations", "hasNoPartIn", "(II)Z"⟩, 5) := ⟨⟨by decide +kernel, by decide +kernel⟩, List.mem_of_getElem? (i := 124) (by decide +kernel), List.mem_of_getElem? (i := 312) (by decide +kernel), List.mem_of_getElem? (i := 313) (by decide +kernel)⟩
theorem lw_p5 : lw_okq (⟨"SometimesSums$History", "dropOldest", "()V"⟩, 2) := ⟨⟨by decide +kernel, by decide +kernel⟩, List.mem_of_getElem? (i := 53) (by decide +kernel), List.mem_of_getElem? (i := 347) (by decide +kernel), List.mem_of_getElem? (i := 348) (by decide +kernel)⟩
theorem lw_p6 : lw_okq (⟨"SometimesSums", "timesAddable", "(I)I"⟩, 9) := ⟨⟨by decide +kernel, by decide +kernel⟩, List.mem_of_getElem? (i := 11) (by decide +kernel), List.mem_of_getElem? (i := 461) (by decide +kernel), List.mem_of_getElem? (i := 462) (by decide +kernel)⟩
theorem lw_p7 : lw_okq (⟨"SometimesSums$Weights", "gatherPairs", "(LSometimesSums$Table;)V"⟩, 13) := ⟨⟨by decide +kernel, by decide +kernel⟩, List.mem_of_getElem? (i := 149) (by decide +kernel), List.mem_of_getElem? (i := 494) (by decide +kernel), List.mem_of_getElem? (i := 495) (by decide +kernel)⟩
theorem lw_p8 : lw_okq (⟨"SometimesSums$Weights", "setFirstRanges", "(I)V"⟩, 13) := ⟨⟨by decide +kernel, by decide +kernel⟩, List.mem_of_getElem? (i := 149) (by decide +kernel), List.mem_of_getElem? (i := 499) (by decide +kernel), List.mem_of_getElem? (i := 500) (by decide +kernel)⟩
theorem lw_p9 : lw_okq (⟨"SometimesSums$Weights", "narrow", "(I)Z"⟩, 13) := ⟨⟨by decide +kernel, by decide +kernel⟩, List.mem_of_getElem? (i := 149) (by decide +kernel), List.mem_of_getElem? (i := 503) (by decide +kernel), List.mem_of_getElem? (i := 504) (by decide +kernel)⟩
theorem lw_p10 : lw_okq (⟨"SometimesSums$Weights", "isEmpty", "(I)Z"⟩, 13) := ⟨⟨by decide +kernel, by decide +kernel⟩, List.mem_of_getElem? (i := 149) (by decide +kernel), List.mem_of_getElem? (i := 507) (by decide +kernel), List.mem_of_getElem? (i := 508) (by decide +kernel)⟩
theorem lw_p11 : lw_okq (⟨"SometimesSums$Weights", "narrowBySum", "(III)Z"⟩, 13) := ⟨⟨by decide +kernel, by decide +kernel⟩, List.mem_of_getElem? (i := 149) (by decide +kernel), List.mem_of_getElem? (i := 511) (by decide +kernel), List.mem_of_getElem? (i := 512) (by decide +kernel)⟩
theorem lw_p12 : lw_okq (⟨"SometimesSums$Weights", "limit", "(III)Z"⟩, 13) := ⟨⟨by decide +kernel, by decide +kernel⟩, List.mem_of_getElem? (i := 149) (by decide +kernel), List.mem_of_getElem? (i := 515) (by decide +kernel), List.mem_of_getElem? (i := 516) (by decide +kernel)⟩
theorem lw_p13 : lw_okq (⟨"SometimesSums$Weights", "formGroups", "()V"⟩, 13) := ⟨⟨by decide +kernel, by decide +kernel⟩, List.mem_of_getElem? (i := 149) (by decide +kernel), List.mem_of_getElem? (i := 519) (by decide +kernel), List.mem_of_getElem? (i := 520) (by decide +kernel)⟩
theorem lw_p14 : lw_okq (⟨"SometimesSums$Weights", "isOpen", "(I)Z"⟩, 13) := ⟨⟨by decide +kernel, by decide +kernel⟩, List.mem_of_getElem? (i := 149) (by decide +kernel), List.mem_of_getElem? (i := 523) (by decide +kernel), List.mem_of_getElem? (i := 524) (by decide +kernel)⟩
theorem lw_p15 : lw_okq (⟨"SometimesSums$Weights", "joinGroups", "(II)V"⟩, 13) := ⟨⟨by decide +kernel, by decide +kernel⟩, List.mem_of_getElem? (i := 149) (by decide +kernel), List.mem_of_getElem? (i := 527) (by decide +kernel), List.mem_of_getElem? (i := 528) (by decide +kernel)⟩
def lw_privs_1 : List (MethodName × Nat) := [(⟨"SometimesSums$Laws", "checkRegrouping", "(LSometimesSums$Table;II)V"⟩, 5), (⟨"SometimesSums$Laws", "note", "(IIII)V"⟩, 5), (⟨"SometimesSums$Relations", "findTogether", "(LSometimesSums$Table;III)V"⟩, 5), (⟨"SometimesSums$Relations", "isBlock", "(I)Z"⟩, 5), (⟨"SometimesSums$Relations", "hasNoPartIn", "(II)Z"⟩, 5), (⟨"SometimesSums$History", "dropOldest", "()V"⟩, 2), (⟨"SometimesSums", "timesAddable", "(I)I"⟩, 9), (⟨"SometimesSums$Weights", "gatherPairs", "(LSometimesSums$Table;)V"⟩, 13), (⟨"SometimesSums$Weights", "setFirstRanges", "(I)V"⟩, 13), (⟨"SometimesSums$Weights", "narrow", "(I)Z"⟩, 13), (⟨"SometimesSums$Weights", "isEmpty", "(I)Z"⟩, 13), (⟨"SometimesSums$Weights", "narrowBySum", "(III)Z"⟩, 13), (⟨"SometimesSums$Weights", "limit", "(III)Z"⟩, 13), (⟨"SometimesSums$Weights", "formGroups", "()V"⟩, 13), (⟨"SometimesSums$Weights", "isOpen", "(I)Z"⟩, 13), (⟨"SometimesSums$Weights", "joinGroups", "(II)V"⟩, 13)]
theorem lw_r1 : ∀ q ∈ lw_privs_1, lw_okq q := List.forall_mem_cons.mpr ⟨lw_p0, List.forall_mem_cons.mpr ⟨lw_p1, List.forall_mem_cons.mpr ⟨lw_p2, List.forall_mem_cons.mpr ⟨lw_p3, List.forall_mem_cons.mpr ⟨lw_p4, List.forall_mem_cons.mpr ⟨lw_p5, List.forall_mem_cons.mpr ⟨lw_p6, List.forall_mem_cons.mpr ⟨lw_p7, List.forall_mem_cons.mpr ⟨lw_p8, List.forall_mem_cons.mpr ⟨lw_p9, List.forall_mem_cons.mpr ⟨lw_p10, List.forall_mem_cons.mpr ⟨lw_p11, List.forall_mem_cons.mpr ⟨lw_p12, List.forall_mem_cons.mpr ⟨lw_p13, List.forall_mem_cons.mpr ⟨lw_p14, List.forall_mem_cons.mpr ⟨lw_p15, fun _ h => absurd h List.not_mem_nil⟩⟩⟩⟩⟩⟩⟩⟩⟩⟩⟩⟩⟩⟩⟩⟩
theorem lw_p16 : lw_okq (⟨"SometimesSums$Weights", "startRange", "(II)V"⟩, 13) := ⟨⟨by decide +kernel, by decide +kernel⟩, List.mem_of_getElem? (i := 149) (by decide +kernel), List.mem_of_getElem? (i := 534) (by decide +kernel), List.mem_of_getElem? (i := 535) (by decide +kernel)⟩
theorem lw_p17 : lw_okq (⟨"SometimesSums$Weights", "weigh", "(II)V"⟩, 13) := ⟨⟨by decide +kernel, by decide +kernel⟩, List.mem_of_getElem? (i := 149) (by decide +kernel), List.mem_of_getElem? (i := 538) (by decide +kernel), List.mem_of_getElem? (i := 539) (by decide +kernel)⟩
theorem lw_p18 : lw_okq (⟨"SometimesSums$Weights", "firstOpenThing", "(II)I"⟩, 13) := ⟨⟨by decide +kernel, by decide +kernel⟩, List.mem_of_getElem? (i := 149) (by decide +kernel), List.mem_of_getElem? (i := 542) (by decide +kernel), List.mem_of_getElem? (i := 543) (by decide +kernel)⟩
theorem lw_p19 : lw_okq (⟨"SometimesSums$Weights", "noteWeighing", "(II)V"⟩, 13) := ⟨⟨by decide +kernel, by decide +kernel⟩, List.mem_of_getElem? (i := 149) (by decide +kernel), List.mem_of_getElem? (i := 546) (by decide +kernel), List.mem_of_getElem? (i := 547) (by decide +kernel)⟩
theorem lw_p20 : lw_okq (⟨"SometimesSums$Weights", "weighWith", "(IIII)V"⟩, 13) := ⟨⟨by decide +kernel, by decide +kernel⟩, List.mem_of_getElem? (i := 149) (by decide +kernel), List.mem_of_getElem? (i := 553) (by decide +kernel), List.mem_of_getElem? (i := 554) (by decide +kernel)⟩
theorem lw_p21 : lw_okq (⟨"SometimesSums$Weights", "copyRanges", "(I)V"⟩, 13) := ⟨⟨by decide +kernel, by decide +kernel⟩, List.mem_of_getElem? (i := 149) (by decide +kernel), List.mem_of_getElem? (i := 557) (by decide +kernel), List.mem_of_getElem? (i := 558) (by decide +kernel)⟩
theorem lw_p22 : lw_okq (⟨"SometimesSums", "weighingError", "(II)I"⟩, 9) := ⟨⟨by decide +kernel, by decide +kernel⟩, List.mem_of_getElem? (i := 11) (by decide +kernel), List.mem_of_getElem? (i := 566) (by decide +kernel), List.mem_of_getElem? (i := 567) (by decide +kernel)⟩
def lw_privs_2 : List (MethodName × Nat) := [(⟨"SometimesSums$Weights", "startRange", "(II)V"⟩, 13), (⟨"SometimesSums$Weights", "weigh", "(II)V"⟩, 13), (⟨"SometimesSums$Weights", "firstOpenThing", "(II)I"⟩, 13), (⟨"SometimesSums$Weights", "noteWeighing", "(II)V"⟩, 13), (⟨"SometimesSums$Weights", "weighWith", "(IIII)V"⟩, 13), (⟨"SometimesSums$Weights", "copyRanges", "(I)V"⟩, 13), (⟨"SometimesSums", "weighingError", "(II)I"⟩, 9)]
theorem lw_r2 : ∀ q ∈ lw_privs_2, lw_okq q := List.forall_mem_cons.mpr ⟨lw_p16, List.forall_mem_cons.mpr ⟨lw_p17, List.forall_mem_cons.mpr ⟨lw_p18, List.forall_mem_cons.mpr ⟨lw_p19, List.forall_mem_cons.mpr ⟨lw_p20, List.forall_mem_cons.mpr ⟨lw_p21, List.forall_mem_cons.mpr ⟨lw_p22, fun _ h => absurd h List.not_mem_nil⟩⟩⟩⟩⟩⟩⟩
def lw_privs : List (MethodName × Nat) := lw_privs_1 ++ (lw_privs_2)
def lw_tbl : List Cond := k2_sels lw_privs ++ tables_1
theorem lw_privs_ok : ∀ q ∈ lw_privs, lw_okq q := by
  show ∀ q ∈ lw_privs_1 ++ (lw_privs_2), lw_okq q
  exact List.forall_mem_append.mpr ⟨lw_r1, lw_r2⟩

/-! ===== BEGIN words of one list among another's, by their places ===== -/
theorem goodIn_r {big : List Cond} (ws : List Cond) (ps : List Nat) (hp : ws = ps.filterMap (fun i => big[i]?)) (h : ws.all goodWord = true) : GoodIn big ws := by
  intro w hw
  have h1 := List.all_eq_true.mp h w hw
  rw [hp] at hw
  obtain ⟨i, -, hi⟩ := List.mem_filterMap.mp hw
  have hm : w ∈ big := by first | exact List.mem_of_getElem? hi | exact List.getElem?_mem hi
  exact ⟨hm, good_of_word h1⟩
theorem goodIn_app {big a b : List Cond} (ha : GoodIn big a) (hb : GoodIn big b) : GoodIn big (a ++ b) := fun w h => (List.mem_append.mp h).elim (ha w) (hb w)
theorem goodIn_ca {big a b : List Cond} {c : Cond} (ha : GoodIn big (c :: a)) (hb : GoodIn big b) : GoodIn big (c :: (a ++ b)) := fun w h => (List.mem_cons.mp h).elim (fun e => ha w (List.mem_cons.mpr (Or.inl e))) (fun h => (List.mem_append.mp h).elim (fun h => ha w (List.mem_cons.mpr (Or.inr h))) (hb w))
theorem goodIn_sub {big ws : List Cond} (hm : ∀ w ∈ ws, w ∈ big) (h : ws.all goodWord = true) : GoodIn big ws := fun w hw => ⟨hm w hw, good_of_word (List.all_eq_true.mp h w hw)⟩
/-! ===== END ===== -/
/-! ===== BEGIN printed: names, fields, word lists, decode rows ===== -/
def RX0 : String := "SometimesSums$History"
def TX0 : u_T := fun k => match k with
  | 0 => ("SometimesSums$History", "length", "I", false)
  | _ => ("SometimesSums$History", "states", "[LSometimesSums$Table;", true)
def tyX0 : Nat → FieldType := fun k => match k with
  | 0 => .int
  | _ => .array (.object "SometimesSums$Table")
abbrev wsX00 : List Cond := u_ws RX0 TX0 2
theorem nmX0 : ∀ a, a < 2 → ∀ b, b < 2 → a ≠ b → (TX0 a).2.1 ≠ (TX0 b).2.1 := by decide +kernel
theorem tyX0_ok : ∀ k, k < 2 → parseFieldDescriptor (TX0 k).2.2.1 = some (tyX0 k) := by decide +kernel
abbrev cX0_init : ByteArray := prog_2_method_1_code
def yX0_init : MethodName := ⟨RX0, "<init>", "()V"⟩
abbrev cX0_remember : ByteArray := prog_2_method_2_code
def yX0_remember : MethodName := ⟨RX0, "remember", "(LSometimesSums$Table;)LSometimesSums$Table;"⟩
abbrev cX0_dropOldest : ByteArray := prog_2_method_3_code
def yX0_dropOldest : MethodName := ⟨RX0, "dropOldest", "()V"⟩
abbrev cX0_bringBack : ByteArray := prog_2_method_4_code
def yX0_bringBack : MethodName := ⟨RX0, "bringBack", "(LSometimesSums$Table;)Z"⟩
def RX1 : String := "SometimesSums$Laws"
def TX1 : u_T := fun k => match k with
  | 0 => ("SometimesSums$Laws", "breaks", "I", false)
  | 1 => ("SometimesSums$Laws", "firstLaw", "I", false)
  | 2 => ("SometimesSums$Laws", "firstA", "I", false)
  | 3 => ("SometimesSums$Laws", "firstB", "I", false)
  | _ => ("SometimesSums$Laws", "firstC", "I", false)
def tyX1 : Nat → FieldType := fun k => match k with
  | 0 => .int
  | 1 => .int
  | 2 => .int
  | 3 => .int
  | _ => .int
abbrev wsX10 : List Cond := u_ws RX1 TX1 5
theorem nmX1 : ∀ a, a < 5 → ∀ b, b < 5 → a ≠ b → (TX1 a).2.1 ≠ (TX1 b).2.1 := by decide +kernel
theorem tyX1_ok : ∀ k, k < 5 → parseFieldDescriptor (TX1 k).2.2.1 = some (tyX1 k) := by decide +kernel
abbrev cX1_init : ByteArray := prog_3_method_1_code
def yX1_init : MethodName := ⟨RX1, "<init>", "()V"⟩
abbrev cX1_check : ByteArray := prog_3_method_2_code
def yX1_check : MethodName := ⟨RX1, "check", "(LSometimesSums$Table;)V"⟩
abbrev cX1_checkRegrouping : ByteArray := prog_3_method_3_code
def yX1_checkRegrouping : MethodName := ⟨RX1, "checkRegrouping", "(LSometimesSums$Table;II)V"⟩
abbrev cX1_rests : ByteArray := prog_3_method_4_code
def yX1_rests : MethodName := ⟨RX1, "rests", "(LSometimesSums$Table;I)I"⟩
abbrev cX1_note : ByteArray := prog_3_method_5_code
def yX1_note : MethodName := ⟨RX1, "note", "(IIII)V"⟩
def RX2 : String := "SometimesSums$Relations"
def TX2 : u_T := fun k => match k with
  | 0 => ("SometimesSums$Relations", "parts", "[I", true)
  | 1 => ("SometimesSums$Relations", "wholes", "[I", true)
  | 2 => ("SometimesSums$Relations", "together", "[I", true)
  | 3 => ("SometimesSums$Relations", "rests", "[I", true)
  | _ => ("SometimesSums$Relations", "size", "I", false)
def tyX2 : Nat → FieldType := fun k => match k with
  | 0 => .array .int
  | 1 => .array .int
  | 2 => .array .int
  | 3 => .array .int
  | _ => .int
abbrev wsX20 : List Cond := u_ws RX2 TX2 5
theorem nmX2 : ∀ a, a < 5 → ∀ b, b < 5 → a ≠ b → (TX2 a).2.1 ≠ (TX2 b).2.1 := by decide +kernel
theorem tyX2_ok : ∀ k, k < 5 → parseFieldDescriptor (TX2 k).2.2.1 = some (tyX2 k) := by decide +kernel
abbrev cX2_init : ByteArray := prog_4_method_1_code
def yX2_init : MethodName := ⟨RX2, "<init>", "()V"⟩
abbrev cX2_find : ByteArray := prog_4_method_2_code
def yX2_find : MethodName := ⟨RX2, "find", "(LSometimesSums$Table;)V"⟩
abbrev cX2_findTogether : ByteArray := prog_4_method_3_code
def yX2_findTogether : MethodName := ⟨RX2, "findTogether", "(LSometimesSums$Table;III)V"⟩
abbrev cX2_isSmallestPart : ByteArray := prog_4_method_4_code
def yX2_isSmallestPart : MethodName := ⟨RX2, "isSmallestPart", "(I)Z"⟩
abbrev cX2_hasNoPartIn : ByteArray := prog_4_method_5_code
def yX2_hasNoPartIn : MethodName := ⟨RX2, "hasNoPartIn", "(II)Z"⟩
abbrev cX2_isSharp : ByteArray := prog_4_method_6_code
def yX2_isSharp : MethodName := ⟨RX2, "isSharp", "(I)Z"⟩
abbrev cX2_smallestParts : ByteArray := prog_4_method_7_code
def yX2_smallestParts : MethodName := ⟨RX2, "smallestParts", "()I"⟩
abbrev cX2_smallestPartsWithin : ByteArray := prog_4_method_8_code
def yX2_smallestPartsWithin : MethodName := ⟨RX2, "smallestPartsWithin", "(I)I"⟩
abbrev cX2_sharpThings : ByteArray := prog_4_method_9_code
def yX2_sharpThings : MethodName := ⟨RX2, "sharpThings", "()I"⟩
abbrev cX2_pairsApart : ByteArray := prog_4_method_10_code
def yX2_pairsApart : MethodName := ⟨RX2, "pairsApart", "()I"⟩
abbrev cX2_blocks : ByteArray := prog_4_method_11_code
def yX2_blocks : MethodName := ⟨RX2, "blocks", "()I"⟩
abbrev cX2_blockAt : ByteArray := prog_4_method_12_code
def yX2_blockAt : MethodName := ⟨RX2, "blockAt", "(I)I"⟩
abbrev cX2_isBlock : ByteArray := prog_4_method_13_code
def yX2_isBlock : MethodName := ⟨RX2, "isBlock", "(I)Z"⟩
def RX3 : String := "SometimesSums$Table"
def TX3 : u_T := fun k => match k with
  | 0 => ("SometimesSums$Table", "size", "I", false)
  | _ => ("SometimesSums$Table", "sums", "[I", true)
def tyX3 : Nat → FieldType := fun k => match k with
  | 0 => .int
  | _ => .array .int
abbrev wsX30 : List Cond := u_ws RX3 TX3 2
theorem nmX3 : ∀ a, a < 2 → ∀ b, b < 2 → a ≠ b → (TX3 a).2.1 ≠ (TX3 b).2.1 := by decide +kernel
theorem tyX3_ok : ∀ k, k < 2 → parseFieldDescriptor (TX3 k).2.2.1 = some (tyX3 k) := by decide +kernel
abbrev cX3_init : ByteArray := prog_5_method_1_code
def yX3_init : MethodName := ⟨RX3, "<init>", "()V"⟩
abbrev cX3_has : ByteArray := prog_5_method_2_code
def yX3_has : MethodName := ⟨RX3, "has", "(I)Z"⟩
abbrev cX3_at : ByteArray := prog_5_method_3_code
def yX3_at : MethodName := ⟨RX3, "at", "(II)I"⟩
abbrev cX3_hasSum : ByteArray := prog_5_method_4_code
def yX3_hasSum : MethodName := ⟨RX3, "hasSum", "(II)Z"⟩
abbrev cX3_put : ByteArray := prog_5_method_5_code
def yX3_put : MethodName := ⟨RX3, "put", "(III)V"⟩
abbrev cX3_empty : ByteArray := prog_5_method_6_code
def yX3_empty : MethodName := ⟨RX3, "empty", "(I)V"⟩
abbrev cX3_widen : ByteArray := prog_5_method_7_code
def yX3_widen : MethodName := ⟨RX3, "widen", "(I)V"⟩
abbrev cX3_become : ByteArray := prog_5_method_8_code
def yX3_become : MethodName := ⟨RX3, "become", "(LSometimesSums$Table;)V"⟩
abbrev cX3_addRenumbered : ByteArray := prog_5_method_9_code
def yX3_addRenumbered : MethodName := ⟨RX3, "addRenumbered", "(LSometimesSums$Table;[I)V"⟩
abbrev cX3_addChain : ByteArray := prog_5_method_10_code
def yX3_addChain : MethodName := ⟨RX3, "addChain", "(I)V"⟩
abbrev cX3_fillWithSets : ByteArray := prog_5_method_11_code
def yX3_fillWithSets : MethodName := ⟨RX3, "fillWithSets", "(I)V"⟩
abbrev cX3_thingOfSet : ByteArray := prog_5_method_12_code
def yX3_thingOfSet : MethodName := ⟨RX3, "thingOfSet", "(II)I"⟩
abbrev cX3_fillWithPairs : ByteArray := prog_5_method_13_code
def yX3_fillWithPairs : MethodName := ⟨RX3, "fillWithPairs", "(LSometimesSums$Table;)V"⟩
abbrev cX3_pairWith0 : ByteArray := prog_5_method_14_code
def yX3_pairWith0 : MethodName := ⟨RX3, "pairWith0", "(I)I"⟩
abbrev cX3_pairWith1 : ByteArray := prog_5_method_15_code
def yX3_pairWith1 : MethodName := ⟨RX3, "pairWith1", "(II)I"⟩
abbrev cX3_leastAddend : ByteArray := prog_5_method_16_code
def yX3_leastAddend : MethodName := ⟨RX3, "leastAddend", "(II)I"⟩
abbrev cX3_rest : ByteArray := prog_5_method_17_code
def yX3_rest : MethodName := ⟨RX3, "rest", "(I)I"⟩
abbrev cX3_addends : ByteArray := prog_5_method_18_code
def yX3_addends : MethodName := ⟨RX3, "addends", "(I)I"⟩
abbrev cX3_pairsWithSum : ByteArray := prog_5_method_19_code
def yX3_pairsWithSum : MethodName := ⟨RX3, "pairsWithSum", "()I"⟩
abbrev cX3_pairsNaming : ByteArray := prog_5_method_20_code
def yX3_pairsNaming : MethodName := ⟨RX3, "pairsNaming", "(II)I"⟩
def RX4 : String := "SometimesSums$Text"
def TX4 : u_T := fun k => match k with
  | 0 => ("SometimesSums$Text", "length", "I", false)
  | 1 => ("SometimesSums$Text", "characters", "[C", true)
  | 2 => ("SometimesSums$Text", "position", "I", false)
  | 3 => ("SometimesSums$Text", "told", "I", false)
  | 4 => ("SometimesSums$Text", "ones", "[I", true)
  | 5 => ("SometimesSums$Text", "others", "[I", true)
  | _ => ("SometimesSums$Text", "sums", "[I", true)
def tyX4 : Nat → FieldType := fun k => match k with
  | 0 => .int
  | 1 => .array .char
  | 2 => .int
  | 3 => .int
  | 4 => .array .int
  | 5 => .array .int
  | _ => .array .int
abbrev wsX40 : List Cond := u_ws RX4 TX4 7
theorem nmX4 : ∀ a, a < 7 → ∀ b, b < 7 → a ≠ b → (TX4 a).2.1 ≠ (TX4 b).2.1 := by decide +kernel
theorem tyX4_ok : ∀ k, k < 7 → parseFieldDescriptor (TX4 k).2.2.1 = some (tyX4 k) := by decide +kernel
abbrev cX4_init : ByteArray := prog_6_method_1_code
def yX4_init : MethodName := ⟨RX4, "<init>", "()V"⟩
def RX5 : String := "SometimesSums$Weights"
def TX5 : u_T := fun k => match k with
  | 0 => ("SometimesSums$Weights", "ways", "I", false)
  | 1 => ("SometimesSums$Weights", "first", "[I", true)
  | 2 => ("SometimesSums$Weights", "least", "[I", true)
  | 3 => ("SometimesSums$Weights", "most", "[I", true)
  | 4 => ("SometimesSums$Weights", "size", "I", false)
  | 5 => ("SometimesSums$Weights", "pairs", "I", false)
  | 6 => ("SometimesSums$Weights", "ones", "[I", true)
  | 7 => ("SometimesSums$Weights", "others", "[I", true)
  | 8 => ("SometimesSums$Weights", "sums", "[I", true)
  | 9 => ("SometimesSums$Weights", "lows", "[I", true)
  | 10 => ("SometimesSums$Weights", "highs", "[I", true)
  | 11 => ("SometimesSums$Weights", "groups", "[I", true)
  | _ => ("SometimesSums$Weights", "waysOfGroup", "I", false)
def tyX5 : Nat → FieldType := fun k => match k with
  | 0 => .int
  | 1 => .array .int
  | 2 => .array .int
  | 3 => .array .int
  | 4 => .int
  | 5 => .int
  | 6 => .array .int
  | 7 => .array .int
  | 8 => .array .int
  | 9 => .array .int
  | 10 => .array .int
  | 11 => .array .int
  | _ => .int
abbrev wsX50 : List Cond := u_ws RX5 TX5 13
theorem nmX5 : ∀ a, a < 13 → ∀ b, b < 13 → a ≠ b → (TX5 a).2.1 ≠ (TX5 b).2.1 := by decide +kernel
theorem tyX5_ok : ∀ k, k < 13 → parseFieldDescriptor (TX5 k).2.2.1 = some (tyX5 k) := by decide +kernel
abbrev cX5_init : ByteArray := prog_7_method_1_code
def yX5_init : MethodName := ⟨RX5, "<init>", "()V"⟩
abbrev cX5_find : ByteArray := prog_7_method_2_code
def yX5_find : MethodName := ⟨RX5, "find", "(LSometimesSums$Table;I)V"⟩
abbrev cX5_gatherPairs : ByteArray := prog_7_method_3_code
def yX5_gatherPairs : MethodName := ⟨RX5, "gatherPairs", "(LSometimesSums$Table;)V"⟩
abbrev cX5_setFirstRanges : ByteArray := prog_7_method_4_code
def yX5_setFirstRanges : MethodName := ⟨RX5, "setFirstRanges", "(I)V"⟩
abbrev cX5_narrow : ByteArray := prog_7_method_5_code
def yX5_narrow : MethodName := ⟨RX5, "narrow", "(I)Z"⟩
abbrev cX5_narrowBySum : ByteArray := prog_7_method_6_code
def yX5_narrowBySum : MethodName := ⟨RX5, "narrowBySum", "(III)Z"⟩
abbrev cX5_limit : ByteArray := prog_7_method_7_code
def yX5_limit : MethodName := ⟨RX5, "limit", "(III)Z"⟩
abbrev cX5_isEmpty : ByteArray := prog_7_method_8_code
def yX5_isEmpty : MethodName := ⟨RX5, "isEmpty", "(I)Z"⟩
abbrev cX5_isOpen : ByteArray := prog_7_method_9_code
def yX5_isOpen : MethodName := ⟨RX5, "isOpen", "(I)Z"⟩
abbrev cX5_formGroups : ByteArray := prog_7_method_10_code
def yX5_formGroups : MethodName := ⟨RX5, "formGroups", "()V"⟩
abbrev cX5_joinGroups : ByteArray := prog_7_method_11_code
def yX5_joinGroups : MethodName := ⟨RX5, "joinGroups", "(II)V"⟩
abbrev cX5_startRange : ByteArray := prog_7_method_12_code
def yX5_startRange : MethodName := ⟨RX5, "startRange", "(II)V"⟩
abbrev cX5_weigh : ByteArray := prog_7_method_13_code
def yX5_weigh : MethodName := ⟨RX5, "weigh", "(II)V"⟩
abbrev cX5_weighWith : ByteArray := prog_7_method_14_code
def yX5_weighWith : MethodName := ⟨RX5, "weighWith", "(IIII)V"⟩
abbrev cX5_firstOpenThing : ByteArray := prog_7_method_15_code
def yX5_firstOpenThing : MethodName := ⟨RX5, "firstOpenThing", "(II)I"⟩
abbrev cX5_copyRanges : ByteArray := prog_7_method_16_code
def yX5_copyRanges : MethodName := ⟨RX5, "copyRanges", "(I)V"⟩
abbrev cX5_noteWeighing : ByteArray := prog_7_method_17_code
def yX5_noteWeighing : MethodName := ⟨RX5, "noteWeighing", "(II)V"⟩
def RX6 : String := "SometimesSums"
def TX6 : u_T := fun k => match k with
  | 0 => ("SometimesSums", "table", "LSometimesSums$Table;", true)
  | 1 => ("SometimesSums", "snapshot", "LSometimesSums$Table;", true)
  | 2 => ("SometimesSums", "snapshotTaken", "Z", false)
  | 3 => ("SometimesSums", "history", "LSometimesSums$History;", true)
  | 4 => ("SometimesSums", "text", "LSometimesSums$Text;", true)
  | 5 => ("SometimesSums", "laws", "LSometimesSums$Laws;", true)
  | 6 => ("SometimesSums", "relations", "LSometimesSums$Relations;", true)
  | 7 => ("SometimesSums", "weights", "LSometimesSums$Weights;", true)
  | _ => ("SometimesSums", "newNumbers", "[I", true)
def tyX6 : Nat → FieldType := fun k => match k with
  | 0 => .object "SometimesSums$Table"
  | 1 => .object "SometimesSums$Table"
  | 2 => .boolean
  | 3 => .object "SometimesSums$History"
  | 4 => .object "SometimesSums$Text"
  | 5 => .object "SometimesSums$Laws"
  | 6 => .object "SometimesSums$Relations"
  | 7 => .object "SometimesSums$Weights"
  | _ => .array .int
abbrev wsX60 : List Cond := u_ws RX6 TX6 9
theorem nmX6 : ∀ a, a < 9 → ∀ b, b < 9 → a ≠ b → (TX6 a).2.1 ≠ (TX6 b).2.1 := by decide +kernel
theorem tyX6_ok : ∀ k, k < 9 → parseFieldDescriptor (TX6 k).2.2.1 = some (tyX6 k) := by decide +kernel
abbrev cX6_init : ByteArray := prog_1_method_1_code
def yX6_init : MethodName := ⟨RX6, "<init>", "()V"⟩
abbrev cX6_take : ByteArray := prog_1_method_2_code
def yX6_take : MethodName := ⟨RX6, "take", "(II)I"⟩
abbrev cX6_addThing : ByteArray := prog_1_method_3_code
def yX6_addThing : MethodName := ⟨RX6, "addThing", "()I"⟩
abbrev cX6_removeThing : ByteArray := prog_1_method_4_code
def yX6_removeThing : MethodName := ⟨RX6, "removeThing", "(I)I"⟩
abbrev cX6_setSum : ByteArray := prog_1_method_5_code
def yX6_setSum : MethodName := ⟨RX6, "setSum", "(III)I"⟩
abbrev cX6_clearSum : ByteArray := prog_1_method_6_code
def yX6_clearSum : MethodName := ⟨RX6, "clearSum", "(II)I"⟩
abbrev cX6_glue : ByteArray := prog_1_method_8_code
def yX6_glue : MethodName := ⟨RX6, "glue", "(I)I"⟩
abbrev cX6_twice : ByteArray := prog_1_method_9_code
def yX6_twice : MethodName := ⟨RX6, "twice", "()I"⟩
abbrev cX6_swap : ByteArray := prog_1_method_10_code
def yX6_swap : MethodName := ⟨RX6, "swap", "(II)I"⟩
abbrev cX6_undo : ByteArray := prog_1_method_13_code
def yX6_undo : MethodName := ⟨RX6, "undo", "()I"⟩
abbrev cX6_keep : ByteArray := prog_1_method_14_code
def yX6_keep : MethodName := ⟨RX6, "keep", "()I"⟩
abbrev cX6_restore : ByteArray := prog_1_method_15_code
def yX6_restore : MethodName := ⟨RX6, "restore", "()I"⟩
abbrev cX6_sum : ByteArray := prog_1_method_16_code
def yX6_sum : MethodName := ⟨RX6, "sum", "(II)I"⟩
abbrev cX6_difference : ByteArray := prog_1_method_17_code
def yX6_difference : MethodName := ⟨RX6, "difference", "(II)I"⟩
abbrev cX6_broken : ByteArray := prog_1_method_18_code
def yX6_broken : MethodName := ⟨RX6, "broken", "(I)I"⟩
abbrev cX6_thing : ByteArray := prog_1_method_19_code
def yX6_thing : MethodName := ⟨RX6, "thing", "(II)I"⟩
abbrev cX6_sumOf : ByteArray := prog_1_method_20_code
def yX6_sumOf : MethodName := ⟨RX6, "sumOf", "(I)I"⟩
abbrev cX6_block : ByteArray := prog_1_method_21_code
def yX6_block : MethodName := ⟨RX6, "block", "(II)I"⟩
abbrev cX6_weighings : ByteArray := prog_1_method_22_code
def yX6_weighings : MethodName := ⟨RX6, "weighings", "(I)I"⟩
abbrev cX6_weight : ByteArray := prog_1_method_23_code
def yX6_weight : MethodName := ⟨RX6, "weight", "(II)I"⟩
abbrev cX6_range : ByteArray := prog_1_method_24_code
def yX6_range : MethodName := ⟨RX6, "range", "(IIZ)I"⟩
abbrev cX6_count : ByteArray := prog_1_method_25_code
def yX6_count : MethodName := ⟨RX6, "count", "(I)I"⟩
abbrev cX6_bit : ByteArray := prog_1_method_26_code
def yX6_bit : MethodName := ⟨RX6, "bit", "(I)I"⟩
abbrev cX6_isNothingOrWhole : ByteArray := prog_1_method_27_code
def yX6_isNothingOrWhole : MethodName := ⟨RX6, "isNothingOrWhole", "(I)Z"⟩
abbrev cX6_thingOrNone : ByteArray := prog_1_method_28_code
def yX6_thingOrNone : MethodName := ⟨RX6, "thingOrNone", "(I)I"⟩
abbrev cX6_isWholeWeight : ByteArray := prog_1_method_29_code
def yX6_isWholeWeight : MethodName := ⟨RX6, "isWholeWeight", "(I)Z"⟩
abbrev cX6_weighingError : ByteArray := prog_1_method_30_code
def yX6_weighingError : MethodName := ⟨RX6, "weighingError", "(II)I"⟩
abbrev cX6_timesAddable : ByteArray := prog_1_method_31_code
def yX6_timesAddable : MethodName := ⟨RX6, "timesAddable", "(I)I"⟩
def RX7 : String := "SometimesSumsModel"
def TX7 : u_T := fun k => match k with
  | _ => ("", "", "", false)
def tyX7 : Nat → FieldType := fun k => match k with
  | _ => .int
abbrev wsX70 : List Cond := u_ws RX7 TX7 0
theorem nmX7 : ∀ a, a < 0 → ∀ b, b < 0 → a ≠ b → (TX7 a).2.1 ≠ (TX7 b).2.1 := by decide +kernel
theorem tyX7_ok : ∀ k, k < 0 → parseFieldDescriptor (TX7 k).2.2.1 = some (tyX7 k) := by decide +kernel
def RJ9 : String := "java/lang/Math"
def TJ9 : u_T := fun k => match k with
  | _ => ("", "", "", false)
def tyJ9 : Nat → FieldType := fun k => match k with
  | _ => .int
abbrev wsJ90 : List Cond := u_ws RJ9 TJ9 0
theorem nmJ9 : ∀ a, a < 0 → ∀ b, b < 0 → a ≠ b → (TJ9 a).2.1 ≠ (TJ9 b).2.1 := by decide +kernel
theorem tyJ9_ok : ∀ k, k < 0 → parseFieldDescriptor (TJ9 k).2.2.1 = some (tyJ9 k) := by decide +kernel
abbrev cJ9_max_7cf53 : ByteArray := prog_10_method_65_code
def yJ9_max_7cf53 : MethodName := ⟨RJ9, "max", "(II)I"⟩
abbrev cJ9_min_7cf53 : ByteArray := prog_10_method_69_code
def yJ9_min_7cf53 : MethodName := ⟨RJ9, "min", "(II)I"⟩
def RJ10 : String := "java/lang/System"
def TJ10 : u_T := fun k => match k with
  | _ => ("", "", "", false)
def tyJ10 : Nat → FieldType := fun k => match k with
  | _ => .int
abbrev wsJ100 : List Cond := u_ws RJ10 TJ10 0
theorem nmJ10 : ∀ a, a < 0 → ∀ b, b < 0 → a ≠ b → (TJ10 a).2.1 ≠ (TJ10 b).2.1 := by decide +kernel
theorem tyJ10_ok : ∀ k, k < 0 → parseFieldDescriptor (TJ10 k).2.2.1 = some (tyJ10 k) := by decide +kernel
def RL : String := "SometimesSumsLaw"
abbrev cL_low : ByteArray := method_2_code
def yL_low : MethodName := ⟨RL, "low", "(II)I"⟩
abbrev cL_cell : ByteArray := method_3_code
def yL_cell : MethodName := ⟨RL, "cell", "([II)I"⟩
abbrev cL_act : ByteArray := method_4_code
def yL_act : MethodName := ⟨RL, "act", "(LSometimesSums;[II)I"⟩
abbrev cL_sums : ByteArray := method_5_code
def yL_sums : MethodName := ⟨RL, "sums", "(LSometimesSums;I)Z"⟩
abbrev cL_blocks : ByteArray := method_6_code
def yL_blocks : MethodName := ⟨RL, "blocks", "(LSometimesSums;)Z"⟩
abbrev cL_weights : ByteArray := method_7_code
def yL_weights : MethodName := ⟨RL, "weights", "(LSometimesSums;II)Z"⟩
abbrev cL_law : ByteArray := code
def yL_law : MethodName := ⟨RL, "law", "([I)Z"⟩
abbrev vwCl : List vw_C := [(RX0, TX0, 2), (RX1, TX1, 5), (RX2, TX2, 5), (RX3, TX3, 2), (RX4, TX4, 7), (RX5, TX5, 13), (RX6, TX6, 9)]
