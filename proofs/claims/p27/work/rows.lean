section
-- ===== PART A: goes FIRST, ahead of the names: the tables' words, and 'selects' of the private methods out of them =====
/-- a private method of a class that the tables say can be made, by its rows of tables_1 -/
def lw_okq (q : MethodName × Nat) : Prop := (q.1.cls ≠ "java/lang/invoke/MethodHandle" ∧ q.1.cls ≠ "java/lang/invoke/VarHandle") ∧ Cond.instantiable q.1.cls q.2 ∈ tables_1 ∧ Cond.privateMethod q.1 ∈ tables_1 ∧ Cond.instanceMethod q.1 ∈ tables_1
theorem lw_p0 : lw_okq (⟨"SometimesSums$Laws", "checkRegrouping", "(LSometimesSums$Table;II)V"⟩, 5) := ⟨⟨by decide +kernel, by decide +kernel⟩, List.mem_of_getElem? (i := 97) (by decide +kernel), List.mem_of_getElem? (i := 246) (by decide +kernel), List.mem_of_getElem? (i := 247) (by decide +kernel)⟩
theorem lw_p1 : lw_okq (⟨"SometimesSums$Laws", "note", "(IIII)V"⟩, 5) := ⟨⟨by decide +kernel, by decide +kernel⟩, List.mem_of_getElem? (i := 97) (by decide +kernel), List.mem_of_getElem? (i := 254) (by decide +kernel), List.mem_of_getElem? (i := 255) (by decide +kernel)⟩
theorem lw_p2 : lw_okq (⟨"SometimesSums$Relations", "findTogether", "(LSometimesSums$Table;III)V"⟩, 5) := ⟨⟨by decide +kernel, by decide +kernel⟩, List.mem_of_getElem? (i := 124) (by decide +kernel), List.mem_of_getElem? (i := 291) (by decide +kernel), List.mem_of_getElem? (i := 292) (by decide +kernel)⟩
theorem lw_p3 : lw_okq (⟨"SometimesSums$Relations", "isBlock", "(I)Z"⟩, 5) := ⟨⟨by decide +kernel, by decide +kernel⟩, List.mem_of_getElem? (i := 124) (by decide +kernel), List.mem_of_getElem? (i := 300) (by decide +kernel), List.mem_of_getElem? (i := 301) (by decide +kernel)⟩
theorem lw_p4 : lw_okq (⟨"SometimesSums$Relations", "hasNoPartIn", "(II)Z"⟩, 5) := ⟨⟨by decide +kernel, by decide +kernel⟩, List.mem_of_getElem? (i := 124) (by decide +kernel), List.mem_of_getElem? (i := 312) (by decide +kernel), List.mem_of_getElem? (i := 313) (by decide +kernel)⟩
theorem lw_p5 : lw_okq (⟨"SometimesSums$History", "dropOldest", "()V"⟩, 2) := ⟨⟨by decide +kernel, by decide +kernel⟩, List.mem_of_getElem? (i := 53) (by decide +kernel), List.mem_of_getElem? (i := 347) (by decide +kernel), List.mem_of_getElem? (i := 348) (by decide +kernel)⟩
theorem lw_p6 : lw_okq (⟨"SometimesSums", "timesAddable", "(I)I"⟩, 9) := ⟨⟨by decide +kernel, by decide +kernel⟩, List.mem_of_getElem? (i := 11) (by decide +kernel), List.mem_of_getElem? (i := 461) (by decide +kernel), List.mem_of_getElem? (i := 462) (by decide +kernel)⟩
theorem lw_p7 : lw_okq (⟨"SometimesSums$Weights", "gatherPairs", "(LSometimesSums$Table;)V"⟩, 13) := ⟨⟨by decide +kernel, by decide +kernel⟩, List.mem_of_getElem? (i := 149) (by decide +kernel), List.mem_of_getElem? (i := 494) (by decide +kernel), List.mem_of_getElem? (i := 495) (by decide +kernel)⟩
theorem lw_p8 : lw_okq (⟨"SometimesSums$Weights", "setFirstRanges", "(I)V"⟩, 13) := ⟨⟨by decide +kernel, by decide +kernel⟩, List.mem_of_getElem? (i := 149) (by decide +kernel), List.mem_of_getElem? (i := 499) (by decide +kernel), List.mem_of_getElem? (i := 500) (by decide +kernel)⟩
theorem lw_p9 : lw_okq (⟨"SometimesSums$Weights", "narrow", "(I)Z"⟩, 13) := ⟨⟨by decide +kernel, by decide +kernel⟩, List.mem_of_getElem? (i := 149) (by decide +kernel), List.mem_of_getElem? (i := 503) (by decide +kernel), List.mem_of_getElem? (i := 504) (by decide +kernel)⟩
theorem lw_p10 : lw_okq (⟨"SometimesSums$Weights", "isEmpty", "(I)Z"⟩, 13) := ⟨⟨by decide +kernel, by decide +kernel⟩, List.mem_of_getElem? (i := 149) (by decide +kernel), List.mem_of_getElem? (i := 507) (by decide +kernel), List.mem_of_getElem? (i := 508) (by decide +kernel)⟩
theorem lw_p11 : lw_okq (⟨"SometimesSums$Weights", "narrowBySum", "(III)Z"⟩, 13) := ⟨⟨by decide +kernel, by decide +kernel⟩, List.mem_of_getElem? (i := 149) (by decide +kernel), List.mem_of_getElem? (i := 511) (by decide +kernel), List.mem_of_getElem? (i := 512) (by decide +kernel)⟩
theorem lw_p12 : lw_okq (⟨"SometimesSums$Weights", "limit", "(III)Z"⟩, 13) := ⟨⟨by decide +kernel, by decide +kernel⟩, List.mem_of_getElem? (i := 149) (by decide +kernel), List.mem_of_getElem? (i := 515) (by decide +kernel), List.mem_of_getElem? (i := 516) (by decide +kernel)⟩
theorem lw_p13 : lw_okq (⟨"SometimesSums$Weights", "formGroups", "()V"⟩, 13) := ⟨⟨by decide +kernel, by decide +kernel⟩, List.mem_of_getElem? (i := 149) (by decide +kernel), List.mem_of_getElem? (i := 519) (by decide +kernel), List.mem_of_getElem? (i := 520) (by decide +kernel)⟩
theorem lw_p14 : lw_okq (⟨"SometimesSums$Weights", "isOpen", "(I)Z"⟩, 13) := ⟨⟨by decide +kernel, by decide +kernel⟩, List.mem_of_getElem? (i := 149) (by decide +kernel), List.mem_of_getElem? (i := 523) (by decide +kernel), List.mem_of_getElem? (i := 524) (by decide +kernel)⟩
theorem lw_p15 : lw_okq (⟨"SometimesSums$Weights", "joinGroups", "(II)V"⟩, 13) := ⟨⟨by decide +kernel, by decide +kernel⟩, List.mem_of_getElem? (i := 149) (by decide +kernel), List.mem_of_getElem? (i := 527) (by decide +kernel), List.mem_of_getElem? (i := 528) (by decide +kernel)⟩
def lw_privs_1 : List (MethodName × Nat) := [(⟨"SometimesSums$Laws", "checkRegrouping", "(LSometimesSums$Table;II)V"⟩, 5), (⟨"SometimesSums$Laws", "note", "(IIII)V"⟩, 5), (⟨"SometimesSums$Relations", "findTogether", "(LSometimesSums$Table;III)V"⟩, 5), (⟨"SometimesSums$Relations", "isBlock", "(I)Z"⟩, 5), (⟨"SometimesSums$Relations", "hasNoPartIn", "(II)Z"⟩, 5), (⟨"SometimesSums$History", "dropOldest", "()V"⟩, 2), (⟨"SometimesSums", "timesAddable", "(I)I"⟩, 9), (⟨"SometimesSums$Weights", "gatherPairs", "(LSometimesSums$Table;)V"⟩, 13), (⟨"SometimesSums$Weights", "setFirstRanges", "(I)V"⟩, 13), (⟨"SometimesSums$Weights", "narrow", "(I)Z"⟩, 13), (⟨"SometimesSums$Weights", "isEmpty", "(I)Z"⟩, 13), (⟨"SometimesSums$Weights", "narrowBySum", "(III)Z"⟩, 13), (⟨"SometimesSums$Weights", "limit", "(III)Z"⟩, 13), (⟨"SometimesSums$Weights", "formGroups", "()V"⟩, 13), (⟨"SometimesSums$Weights", "isOpen", "(I)Z"⟩, 13), (⟨"SometimesSums$Weights", "joinGroups", "(II)V"⟩, 13)]
theorem lw_r1 : ∀ q ∈ lw_privs_1, lw_okq q := List.forall_mem_cons.mpr ⟨lw_p0, List.forall_mem_cons.mpr ⟨lw_p1, List.forall_mem_cons.mpr ⟨lw_p2, List.forall_mem_cons.mpr ⟨lw_p3, List.forall_mem_cons.mpr ⟨lw_p4, List.forall_mem_cons.mpr ⟨lw_p5, List.forall_mem_cons.mpr ⟨lw_p6, List.forall_mem_cons.mpr ⟨lw_p7, List.forall_mem_cons.mpr ⟨lw_p8, List.forall_mem_cons.mpr ⟨lw_p9, List.forall_mem_cons.mpr ⟨lw_p10, List.forall_mem_cons.mpr ⟨lw_p11, List.forall_mem_cons.mpr ⟨lw_p12, List.forall_mem_cons.mpr ⟨lw_p13, List.forall_mem_cons.mpr ⟨lw_p14, List.forall_mem_cons.mpr ⟨lw_p15, fun _ h => absurd h List.not_mem_nil⟩⟩⟩⟩⟩⟩⟩⟩⟩⟩⟩⟩⟩⟩⟩⟩
theorem lw_p16 : lw_okq (⟨"SometimesSums$Weights", "startRange", "(II)V"⟩, 13) := ⟨⟨by decide +kernel, by decide +kernel⟩, List.mem_of_getElem? (i := 149) (by decide +kernel), List.mem_of_getElem? (i := 534) (by decide +kernel), List.mem_of_getElem? (i := 535) (by decide +kernel)⟩
theorem lw_p17 : lw_okq (⟨"SometimesSums$Weights", "weigh", "(II)V"⟩, 13) := ⟨⟨by decide +kernel, by decide +kernel⟩, List.mem_of_getElem? (i := 149) (by decide +kernel), List.mem_of_getElem? (i := 538) (by decide +kernel), List.mem_of_getElem? (i := 539) (by decide +kernel)⟩
theorem lw_p18 : lw_okq (⟨"SometimesSums$Weights", "firstOpenThing", "(II)I"⟩, 13) := ⟨⟨by decide +kernel, by decide +kernel⟩, List.mem_of_getElem? (i := 149) (by decide +kernel), List.mem_of_getElem? (i := 542) (by decide +kernel), List.mem_of_getElem? (i := 543) (by decide +kernel)⟩
theorem lw_p19 : lw_okq (⟨"SometimesSums$Weights", "noteWeighing", "(II)V"⟩, 13) := ⟨⟨by decide +kernel, by decide +kernel⟩, List.mem_of_getElem? (i := 149) (by decide +kernel), List.mem_of_getElem? (i := 546) (by decide +kernel), List.mem_of_getElem? (i := 547) (by decide +kernel)⟩
theorem lw_p20 : lw_okq (⟨"SometimesSums$Weights", "weighWith", "(IIII)V"⟩, 13) := ⟨⟨by decide +kernel, by decide +kernel⟩, List.mem_of_getElem? (i := 149) (by decide +kernel), List.mem_of_getElem? (i := 553) (by decide +kernel), List.mem_of_getElem? (i := 554) (by decide +kernel)⟩
theorem lw_p21 : lw_okq (⟨"SometimesSums$Weights", "copyRanges", "(I)V"⟩, 13) := ⟨⟨by decide +kernel, by decide +kernel⟩, List.mem_of_getElem? (i := 149) (by decide +kernel), List.mem_of_getElem? (i := 557) (by decide +kernel), List.mem_of_getElem? (i := 558) (by decide +kernel)⟩
theorem lw_p22 : lw_okq (⟨"SometimesSums", "weighingError", "(II)I"⟩, 9) := ⟨⟨by decide +kernel, by decide +kernel⟩, List.mem_of_getElem? (i := 11) (by decide +kernel), List.mem_of_getElem? (i := 566) (by decide +kernel), List.mem_of_getElem? (i := 567) (by decide +kernel)⟩
def lw_privs_2 : List (MethodName × Nat) := [(⟨"SometimesSums$Weights", "startRange", "(II)V"⟩, 13), (⟨"SometimesSums$Weights", "weigh", "(II)V"⟩, 13), (⟨"SometimesSums$Weights", "firstOpenThing", "(II)I"⟩, 13), (⟨"SometimesSums$Weights", "noteWeighing", "(II)V"⟩, 13), (⟨"SometimesSums$Weights", "weighWith", "(IIII)V"⟩, 13), (⟨"SometimesSums$Weights", "copyRanges", "(I)V"⟩, 13), (⟨"SometimesSums", "weighingError", "(II)I"⟩, 9)]
theorem lw_r2 : ∀ q ∈ lw_privs_2, lw_okq q := List.forall_mem_cons.mpr ⟨lw_p16, List.forall_mem_cons.mpr ⟨lw_p17, List.forall_mem_cons.mpr ⟨lw_p18, List.forall_mem_cons.mpr ⟨lw_p19, List.forall_mem_cons.mpr ⟨lw_p20, List.forall_mem_cons.mpr ⟨lw_p21, List.forall_mem_cons.mpr ⟨lw_p22, fun _ h => absurd h List.not_mem_nil⟩⟩⟩⟩⟩⟩⟩
def lw_privs : List (MethodName × Nat) := lw_privs_1 ++ (lw_privs_2)
def lw_tbl : List Cond := k2_sels lw_privs ++ tables_1
theorem lw_privs_ok : ∀ q ∈ lw_privs, lw_okq q := by
  show ∀ q ∈ lw_privs_1 ++ (lw_privs_2), lw_okq q
  exact List.forall_mem_append.mpr ⟨lw_r1, lw_r2⟩

/-! ===== BEGIN words of one list among another's, by their places ===== -/
theorem goodIn_r {big : List Cond} (ws : List Cond) (ps : List Nat) (hp : ws = ps.filterMap (fun i => big[i]?)) (h : ws.all goodWord = true) : GoodIn big ws := by
  intro w hw
  have h1 := List.all_eq_true.mp h w hw
  rw [hp] at hw
  obtain ⟨i, -, hi⟩ := List.mem_filterMap.mp hw
  have hm : w ∈ big := by first | exact List.mem_of_getElem? hi | exact List.getElem?_mem hi
  exact ⟨hm, good_of_word h1⟩
theorem goodIn_app {big a b : List Cond} (ha : GoodIn big a) (hb : GoodIn big b) : GoodIn big (a ++ b) := fun w h => (List.mem_append.mp h).elim (ha w) (hb w)
theorem goodIn_ca {big a b : List Cond} {c : Cond} (ha : GoodIn big (c :: a)) (hb : GoodIn big b) : GoodIn big (c :: (a ++ b)) := fun w h => (List.mem_cons.mp h).elim (fun e => ha w (List.mem_cons.mpr (Or.inl e))) (fun h => (List.mem_append.mp h).elim (fun h => ha w (List.mem_cons.mpr (Or.inr h))) (hb w))
theorem goodIn_sub {big ws : List Cond} (hm : ∀ w ∈ ws, w ∈ big) (h : ws.all goodWord = true) : GoodIn big ws := fun w hw => ⟨hm w hw, good_of_word (List.all_eq_true.mp h w hw)⟩
/-! ===== END ===== -/
/-! ===== BEGIN printed: names, fields, word lists, decode rows ===== -/
def RX0 : String := "SometimesSums$History"
def TX0 : u_T := fun k => match k with
  | 0 => ("SometimesSums$History", "length", "I", false)
  | _ => ("SometimesSums$History", "states", "[LSometimesSums$Table;", true)
def tyX0 : Nat → FieldType := fun k => match k with
  | 0 => .int
  | _ => .array (.object "SometimesSums$Table")
abbrev wsX00 : List Cond := u_ws RX0 TX0 2
theorem nmX0 : ∀ a, a < 2 → ∀ b, b < 2 → a ≠ b → (TX0 a).2.1 ≠ (TX0 b).2.1 := by decide +kernel
theorem tyX0_ok : ∀ k, k < 2 → parseFieldDescriptor (TX0 k).2.2.1 = some (tyX0 k) := by decide +kernel
abbrev cX0_init : ByteArray := prog_2_method_1_code
def yX0_init : MethodName := ⟨RX0, "<init>", "()V"⟩
abbrev cX0_remember : ByteArray := prog_2_method_2_code
def yX0_remember : MethodName := ⟨RX0, "remember", "(LSometimesSums$Table;)LSometimesSums$Table;"⟩
abbrev cX0_dropOldest : ByteArray := prog_2_method_3_code
def yX0_dropOldest : MethodName := ⟨RX0, "dropOldest", "()V"⟩
abbrev cX0_bringBack : ByteArray := prog_2_method_4_code
def yX0_bringBack : MethodName := ⟨RX0, "bringBack", "(LSometimesSums$Table;)Z"⟩
def RX1 : String := "SometimesSums$Laws"
def TX1 : u_T := fun k => match k with
  | 0 => ("SometimesSums$Laws", "breaks", "I", false)
  | 1 => ("SometimesSums$Laws", "firstLaw", "I", false)
  | 2 => ("SometimesSums$Laws", "firstA", "I", false)
  | 3 => ("SometimesSums$Laws", "firstB", "I", false)
  | _ => ("SometimesSums$Laws", "firstC", "I", false)
def tyX1 : Nat → FieldType := fun k => match k with
  | 0 => .int
  | 1 => .int
  | 2 => .int
  | 3 => .int
  | _ => .int
abbrev wsX10 : List Cond := u_ws RX1 TX1 5
theorem nmX1 : ∀ a, a < 5 → ∀ b, b < 5 → a ≠ b → (TX1 a).2.1 ≠ (TX1 b).2.1 := by decide +kernel
theorem tyX1_ok : ∀ k, k < 5 → parseFieldDescriptor (TX1 k).2.2.1 = some (tyX1 k) := by decide +kernel
abbrev cX1_init : ByteArray := prog_3_method_1_code
def yX1_init : MethodName := ⟨RX1, "<init>", "()V"⟩
abbrev cX1_check : ByteArray := prog_3_method_2_code
def yX1_check : MethodName := ⟨RX1, "check", "(LSometimesSums$Table;)V"⟩
abbrev cX1_checkRegrouping : ByteArray := prog_3_method_3_code
def yX1_checkRegrouping : MethodName := ⟨RX1, "checkRegrouping", "(LSometimesSums$Table;II)V"⟩
abbrev cX1_rests : ByteArray := prog_3_method_4_code
def yX1_rests : MethodName := ⟨RX1, "rests", "(LSometimesSums$Table;I)I"⟩
abbrev cX1_note : ByteArray := prog_3_method_5_code
def yX1_note : MethodName := ⟨RX1, "note", "(IIII)V"⟩
def RX2 : String := "SometimesSums$Relations"
def TX2 : u_T := fun k => match k with
  | 0 => ("SometimesSums$Relations", "parts", "[I", true)
  | 1 => ("SometimesSums$Relations", "wholes", "[I", true)
  | 2 => ("SometimesSums$Relations", "together", "[I", true)
  | 3 => ("SometimesSums$Relations", "rests", "[I", true)
  | _ => ("SometimesSums$Relations", "size", "I", false)
def tyX2 : Nat → FieldType := fun k => match k with
  | 0 => .array .int
  | 1 => .array .int
  | 2 => .array .int
  | 3 => .array .int
  | _ => .int
abbrev wsX20 : List Cond := u_ws RX2 TX2 5
theorem nmX2 : ∀ a, a < 5 → ∀ b, b < 5 → a ≠ b → (TX2 a).2.1 ≠ (TX2 b).2.1 := by decide +kernel
theorem tyX2_ok : ∀ k, k < 5 → parseFieldDescriptor (TX2 k).2.2.1 = some (tyX2 k) := by decide +kernel
abbrev cX2_init : ByteArray := prog_4_method_1_code
def yX2_init : MethodName := ⟨RX2, "<init>", "()V"⟩
abbrev cX2_find : ByteArray := prog_4_method_2_code
def yX2_find : MethodName := ⟨RX2, "find", "(LSometimesSums$Table;)V"⟩
abbrev cX2_findTogether : ByteArray := prog_4_method_3_code
def yX2_findTogether : MethodName := ⟨RX2, "findTogether", "(LSometimesSums$Table;III)V"⟩
abbrev cX2_isSmallestPart : ByteArray := prog_4_method_4_code
def yX2_isSmallestPart : MethodName := ⟨RX2, "isSmallestPart", "(I)Z"⟩
abbrev cX2_hasNoPartIn : ByteArray := prog_4_method_5_code
def yX2_hasNoPartIn : MethodName := ⟨RX2, "hasNoPartIn", "(II)Z"⟩
abbrev cX2_isSharp : ByteArray := prog_4_method_6_code
def yX2_isSharp : MethodName := ⟨RX2, "isSharp", "(I)Z"⟩
abbrev cX2_smallestParts : ByteArray := prog_4_method_7_code
def yX2_smallestParts : MethodName := ⟨RX2, "smallestParts", "()I"⟩
abbrev cX2_smallestPartsWithin : ByteArray := prog_4_method_8_code
def yX2_smallestPartsWithin : MethodName := ⟨RX2, "smallestPartsWithin", "(I)I"⟩
abbrev cX2_sharpThings : ByteArray := prog_4_method_9_code
def yX2_sharpThings : MethodName := ⟨RX2, "sharpThings", "()I"⟩
abbrev cX2_pairsApart : ByteArray := prog_4_method_10_code
def yX2_pairsApart : MethodName := ⟨RX2, "pairsApart", "()I"⟩
abbrev cX2_blocks : ByteArray := prog_4_method_11_code
def yX2_blocks : MethodName := ⟨RX2, "blocks", "()I"⟩
abbrev cX2_blockAt : ByteArray := prog_4_method_12_code
def yX2_blockAt : MethodName := ⟨RX2, "blockAt", "(I)I"⟩
abbrev cX2_isBlock : ByteArray := prog_4_method_13_code
def yX2_isBlock : MethodName := ⟨RX2, "isBlock", "(I)Z"⟩
def RX3 : String := "SometimesSums$Table"
def TX3 : u_T := fun k => match k with
  | 0 => ("SometimesSums$Table", "size", "I", false)
  | _ => ("SometimesSums$Table", "sums", "[I", true)
def tyX3 : Nat → FieldType := fun k => match k with
  | 0 => .int
  | _ => .array .int
abbrev wsX30 : List Cond := u_ws RX3 TX3 2
theorem nmX3 : ∀ a, a < 2 → ∀ b, b < 2 → a ≠ b → (TX3 a).2.1 ≠ (TX3 b).2.1 := by decide +kernel
theorem tyX3_ok : ∀ k, k < 2 → parseFieldDescriptor (TX3 k).2.2.1 = some (tyX3 k) := by decide +kernel
abbrev cX3_init : ByteArray := prog_5_method_1_code
def yX3_init : MethodName := ⟨RX3, "<init>", "()V"⟩
abbrev cX3_has : ByteArray := prog_5_method_2_code
def yX3_has : MethodName := ⟨RX3, "has", "(I)Z"⟩
abbrev cX3_at : ByteArray := prog_5_method_3_code
def yX3_at : MethodName := ⟨RX3, "at", "(II)I"⟩
abbrev cX3_hasSum : ByteArray := prog_5_method_4_code
def yX3_hasSum : MethodName := ⟨RX3, "hasSum", "(II)Z"⟩
abbrev cX3_put : ByteArray := prog_5_method_5_code
def yX3_put : MethodName := ⟨RX3, "put", "(III)V"⟩
abbrev cX3_empty : ByteArray := prog_5_method_6_code
def yX3_empty : MethodName := ⟨RX3, "empty", "(I)V"⟩
abbrev cX3_widen : ByteArray := prog_5_method_7_code
def yX3_widen : MethodName := ⟨RX3, "widen", "(I)V"⟩
abbrev cX3_become : ByteArray := prog_5_method_8_code
def yX3_become : MethodName := ⟨RX3, "become", "(LSometimesSums$Table;)V"⟩
abbrev cX3_addRenumbered : ByteArray := prog_5_method_9_code
def yX3_addRenumbered : MethodName := ⟨RX3, "addRenumbered", "(LSometimesSums$Table;[I)V"⟩
abbrev cX3_addChain : ByteArray := prog_5_method_10_code
def yX3_addChain : MethodName := ⟨RX3, "addChain", "(I)V"⟩
abbrev cX3_fillWithSets : ByteArray := prog_5_method_11_code
def yX3_fillWithSets : MethodName := ⟨RX3, "fillWithSets", "(I)V"⟩
abbrev cX3_thingOfSet : ByteArray := prog_5_method_12_code
def yX3_thingOfSet : MethodName := ⟨RX3, "thingOfSet", "(II)I"⟩
abbrev cX3_fillWithPairs : ByteArray := prog_5_method_13_code
def yX3_fillWithPairs : MethodName := ⟨RX3, "fillWithPairs", "(LSometimesSums$Table;)V"⟩
abbrev cX3_pairWith0 : ByteArray := prog_5_method_14_code
def yX3_pairWith0 : MethodName := ⟨RX3, "pairWith0", "(I)I"⟩
abbrev cX3_pairWith1 : ByteArray := prog_5_method_15_code
def yX3_pairWith1 : MethodName := ⟨RX3, "pairWith1", "(II)I"⟩
abbrev cX3_leastAddend : ByteArray := prog_5_method_16_code
def yX3_leastAddend : MethodName := ⟨RX3, "leastAddend", "(II)I"⟩
abbrev cX3_rest : ByteArray := prog_5_method_17_code
def yX3_rest : MethodName := ⟨RX3, "rest", "(I)I"⟩
abbrev cX3_addends : ByteArray := prog_5_method_18_code
def yX3_addends : MethodName := ⟨RX3, "addends", "(I)I"⟩
abbrev cX3_pairsWithSum : ByteArray := prog_5_method_19_code
def yX3_pairsWithSum : MethodName := ⟨RX3, "pairsWithSum", "()I"⟩
abbrev cX3_pairsNaming : ByteArray := prog_5_method_20_code
def yX3_pairsNaming : MethodName := ⟨RX3, "pairsNaming", "(II)I"⟩
def RX4 : String := "SometimesSums$Text"
def TX4 : u_T := fun k => match k with
  | 0 => ("SometimesSums$Text", "length", "I", false)
  | 1 => ("SometimesSums$Text", "characters", "[C", true)
  | 2 => ("SometimesSums$Text", "position", "I", false)
  | 3 => ("SometimesSums$Text", "told", "I", false)
  | 4 => ("SometimesSums$Text", "ones", "[I", true)
  | 5 => ("SometimesSums$Text", "others", "[I", true)
  | _ => ("SometimesSums$Text", "sums", "[I", true)
def tyX4 : Nat → FieldType := fun k => match k with
  | 0 => .int
  | 1 => .array .char
  | 2 => .int
  | 3 => .int
  | 4 => .array .int
  | 5 => .array .int
  | _ => .array .int
abbrev wsX40 : List Cond := u_ws RX4 TX4 7
theorem nmX4 : ∀ a, a < 7 → ∀ b, b < 7 → a ≠ b → (TX4 a).2.1 ≠ (TX4 b).2.1 := by decide +kernel
theorem tyX4_ok : ∀ k, k < 7 → parseFieldDescriptor (TX4 k).2.2.1 = some (tyX4 k) := by decide +kernel
abbrev cX4_init : ByteArray := prog_6_method_1_code
def yX4_init : MethodName := ⟨RX4, "<init>", "()V"⟩
def RX5 : String := "SometimesSums$Weights"
def TX5 : u_T := fun k => match k with
  | 0 => ("SometimesSums$Weights", "ways", "I", false)
  | 1 => ("SometimesSums$Weights", "first", "[I", true)
  | 2 => ("SometimesSums$Weights", "least", "[I", true)
  | 3 => ("SometimesSums$Weights", "most", "[I", true)
  | 4 => ("SometimesSums$Weights", "size", "I", false)
  | 5 => ("SometimesSums$Weights", "pairs", "I", false)
  | 6 => ("SometimesSums$Weights", "ones", "[I", true)
  | 7 => ("SometimesSums$Weights", "others", "[I", true)
  | 8 => ("SometimesSums$Weights", "sums", "[I", true)
  | 9 => ("SometimesSums$Weights", "lows", "[I", true)
  | 10 => ("SometimesSums$Weights", "highs", "[I", true)
  | 11 => ("SometimesSums$Weights", "groups", "[I", true)
  | _ => ("SometimesSums$Weights", "waysOfGroup", "I", false)
def tyX5 : Nat → FieldType := fun k => match k with
  | 0 => .int
  | 1 => .array .int
  | 2 => .array .int
  | 3 => .array .int
  | 4 => .int
  | 5 => .int
  | 6 => .array .int
  | 7 => .array .int
  | 8 => .array .int
  | 9 => .array .int
  | 10 => .array .int
  | 11 => .array .int
  | _ => .int
abbrev wsX50 : List Cond := u_ws RX5 TX5 13
theorem nmX5 : ∀ a, a < 13 → ∀ b, b < 13 → a ≠ b → (TX5 a).2.1 ≠ (TX5 b).2.1 := by decide +kernel
theorem tyX5_ok : ∀ k, k < 13 → parseFieldDescriptor (TX5 k).2.2.1 = some (tyX5 k) := by decide +kernel
abbrev cX5_init : ByteArray := prog_7_method_1_code
def yX5_init : MethodName := ⟨RX5, "<init>", "()V"⟩
abbrev cX5_find : ByteArray := prog_7_method_2_code
def yX5_find : MethodName := ⟨RX5, "find", "(LSometimesSums$Table;I)V"⟩
abbrev cX5_gatherPairs : ByteArray := prog_7_method_3_code
def yX5_gatherPairs : MethodName := ⟨RX5, "gatherPairs", "(LSometimesSums$Table;)V"⟩
abbrev cX5_setFirstRanges : ByteArray := prog_7_method_4_code
def yX5_setFirstRanges : MethodName := ⟨RX5, "setFirstRanges", "(I)V"⟩
abbrev cX5_narrow : ByteArray := prog_7_method_5_code
def yX5_narrow : MethodName := ⟨RX5, "narrow", "(I)Z"⟩
abbrev cX5_narrowBySum : ByteArray := prog_7_method_6_code
def yX5_narrowBySum : MethodName := ⟨RX5, "narrowBySum", "(III)Z"⟩
abbrev cX5_limit : ByteArray := prog_7_method_7_code
def yX5_limit : MethodName := ⟨RX5, "limit", "(III)Z"⟩
abbrev cX5_isEmpty : ByteArray := prog_7_method_8_code
def yX5_isEmpty : MethodName := ⟨RX5, "isEmpty", "(I)Z"⟩
abbrev cX5_isOpen : ByteArray := prog_7_method_9_code
def yX5_isOpen : MethodName := ⟨RX5, "isOpen", "(I)Z"⟩
abbrev cX5_formGroups : ByteArray := prog_7_method_10_code
def yX5_formGroups : MethodName := ⟨RX5, "formGroups", "()V"⟩
abbrev cX5_joinGroups : ByteArray := prog_7_method_11_code
def yX5_joinGroups : MethodName := ⟨RX5, "joinGroups", "(II)V"⟩
abbrev cX5_startRange : ByteArray := prog_7_method_12_code
def yX5_startRange : MethodName := ⟨RX5, "startRange", "(II)V"⟩
abbrev cX5_weigh : ByteArray := prog_7_method_13_code
def yX5_weigh : MethodName := ⟨RX5, "weigh", "(II)V"⟩
abbrev cX5_weighWith : ByteArray := prog_7_method_14_code
def yX5_weighWith : MethodName := ⟨RX5, "weighWith", "(IIII)V"⟩
abbrev cX5_firstOpenThing : ByteArray := prog_7_method_15_code
def yX5_firstOpenThing : MethodName := ⟨RX5, "firstOpenThing", "(II)I"⟩
abbrev cX5_copyRanges : ByteArray := prog_7_method_16_code
def yX5_copyRanges : MethodName := ⟨RX5, "copyRanges", "(I)V"⟩
abbrev cX5_noteWeighing : ByteArray := prog_7_method_17_code
def yX5_noteWeighing : MethodName := ⟨RX5, "noteWeighing", "(II)V"⟩
def RX6 : String := "SometimesSums"
def TX6 : u_T := fun k => match k with
  | 0 => ("SometimesSums", "table", "LSometimesSums$Table;", true)
  | 1 => ("SometimesSums", "snapshot", "LSometimesSums$Table;", true)
  | 2 => ("SometimesSums", "snapshotTaken", "Z", false)
  | 3 => ("SometimesSums", "history", "LSometimesSums$History;", true)
  | 4 => ("SometimesSums", "text", "LSometimesSums$Text;", true)
  | 5 => ("SometimesSums", "laws", "LSometimesSums$Laws;", true)
  | 6 => ("SometimesSums", "relations", "LSometimesSums$Relations;", true)
  | 7 => ("SometimesSums", "weights", "LSometimesSums$Weights;", true)
  | _ => ("SometimesSums", "newNumbers", "[I", true)
def tyX6 : Nat → FieldType := fun k => match k with
  | 0 => .object "SometimesSums$Table"
  | 1 => .object "SometimesSums$Table"
  | 2 => .boolean
  | 3 => .object "SometimesSums$History"
  | 4 => .object "SometimesSums$Text"
  | 5 => .object "SometimesSums$Laws"
  | 6 => .object "SometimesSums$Relations"
  | 7 => .object "SometimesSums$Weights"
  | _ => .array .int
abbrev wsX60 : List Cond := u_ws RX6 TX6 9
theorem nmX6 : ∀ a, a < 9 → ∀ b, b < 9 → a ≠ b → (TX6 a).2.1 ≠ (TX6 b).2.1 := by decide +kernel
theorem tyX6_ok : ∀ k, k < 9 → parseFieldDescriptor (TX6 k).2.2.1 = some (tyX6 k) := by decide +kernel
abbrev cX6_init : ByteArray := prog_1_method_1_code
def yX6_init : MethodName := ⟨RX6, "<init>", "()V"⟩
abbrev cX6_take : ByteArray := prog_1_method_2_code
def yX6_take : MethodName := ⟨RX6, "take", "(II)I"⟩
abbrev cX6_addThing : ByteArray := prog_1_method_3_code
def yX6_addThing : MethodName := ⟨RX6, "addThing", "()I"⟩
abbrev cX6_removeThing : ByteArray := prog_1_method_4_code
def yX6_removeThing : MethodName := ⟨RX6, "removeThing", "(I)I"⟩
abbrev cX6_setSum : ByteArray := prog_1_method_5_code
def yX6_setSum : MethodName := ⟨RX6, "setSum", "(III)I"⟩
abbrev cX6_clearSum : ByteArray := prog_1_method_6_code
def yX6_clearSum : MethodName := ⟨RX6, "clearSum", "(II)I"⟩
abbrev cX6_glue : ByteArray := prog_1_method_8_code
def yX6_glue : MethodName := ⟨RX6, "glue", "(I)I"⟩
abbrev cX6_twice : ByteArray := prog_1_method_9_code
def yX6_twice : MethodName := ⟨RX6, "twice", "()I"⟩
abbrev cX6_swap : ByteArray := prog_1_method_10_code
def yX6_swap : MethodName := ⟨RX6, "swap", "(II)I"⟩
abbrev cX6_undo : ByteArray := prog_1_method_13_code
def yX6_undo : MethodName := ⟨RX6, "undo", "()I"⟩
abbrev cX6_keep : ByteArray := prog_1_method_14_code
def yX6_keep : MethodName := ⟨RX6, "keep", "()I"⟩
abbrev cX6_restore : ByteArray := prog_1_method_15_code
def yX6_restore : MethodName := ⟨RX6, "restore", "()I"⟩
abbrev cX6_sum : ByteArray := prog_1_method_16_code
def yX6_sum : MethodName := ⟨RX6, "sum", "(II)I"⟩
abbrev cX6_difference : ByteArray := prog_1_method_17_code
def yX6_difference : MethodName := ⟨RX6, "difference", "(II)I"⟩
abbrev cX6_broken : ByteArray := prog_1_method_18_code
def yX6_broken : MethodName := ⟨RX6, "broken", "(I)I"⟩
abbrev cX6_thing : ByteArray := prog_1_method_19_code
def yX6_thing : MethodName := ⟨RX6, "thing", "(II)I"⟩
abbrev cX6_sumOf : ByteArray := prog_1_method_20_code
def yX6_sumOf : MethodName := ⟨RX6, "sumOf", "(I)I"⟩
abbrev cX6_block : ByteArray := prog_1_method_21_code
def yX6_block : MethodName := ⟨RX6, "block", "(II)I"⟩
abbrev cX6_weighings : ByteArray := prog_1_method_22_code
def yX6_weighings : MethodName := ⟨RX6, "weighings", "(I)I"⟩
abbrev cX6_weight : ByteArray := prog_1_method_23_code
def yX6_weight : MethodName := ⟨RX6, "weight", "(II)I"⟩
abbrev cX6_range : ByteArray := prog_1_method_24_code
def yX6_range : MethodName := ⟨RX6, "range", "(IIZ)I"⟩
abbrev cX6_count : ByteArray := prog_1_method_25_code
def yX6_count : MethodName := ⟨RX6, "count", "(I)I"⟩
abbrev cX6_bit : ByteArray := prog_1_method_26_code
def yX6_bit : MethodName := ⟨RX6, "bit", "(I)I"⟩
abbrev cX6_isNothingOrWhole : ByteArray := prog_1_method_27_code
def yX6_isNothingOrWhole : MethodName := ⟨RX6, "isNothingOrWhole", "(I)Z"⟩
abbrev cX6_thingOrNone : ByteArray := prog_1_method_28_code
def yX6_thingOrNone : MethodName := ⟨RX6, "thingOrNone", "(I)I"⟩
abbrev cX6_isWholeWeight : ByteArray := prog_1_method_29_code
def yX6_isWholeWeight : MethodName := ⟨RX6, "isWholeWeight", "(I)Z"⟩
abbrev cX6_weighingError : ByteArray := prog_1_method_30_code
def yX6_weighingError : MethodName := ⟨RX6, "weighingError", "(II)I"⟩
abbrev cX6_timesAddable : ByteArray := prog_1_method_31_code
def yX6_timesAddable : MethodName := ⟨RX6, "timesAddable", "(I)I"⟩
def RX7 : String := "SometimesSumsModel"
def TX7 : u_T := fun k => match k with
  | _ => ("", "", "", false)
def tyX7 : Nat → FieldType := fun k => match k with
  | _ => .int
abbrev wsX70 : List Cond := u_ws RX7 TX7 0
theorem nmX7 : ∀ a, a < 0 → ∀ b, b < 0 → a ≠ b → (TX7 a).2.1 ≠ (TX7 b).2.1 := by decide +kernel
theorem tyX7_ok : ∀ k, k < 0 → parseFieldDescriptor (TX7 k).2.2.1 = some (tyX7 k) := by decide +kernel
def RJ9 : String := "java/lang/Math"
def TJ9 : u_T := fun k => match k with
  | _ => ("", "", "", false)
def tyJ9 : Nat → FieldType := fun k => match k with
  | _ => .int
abbrev wsJ90 : List Cond := u_ws RJ9 TJ9 0
theorem nmJ9 : ∀ a, a < 0 → ∀ b, b < 0 → a ≠ b → (TJ9 a).2.1 ≠ (TJ9 b).2.1 := by decide +kernel
theorem tyJ9_ok : ∀ k, k < 0 → parseFieldDescriptor (TJ9 k).2.2.1 = some (tyJ9 k) := by decide +kernel
abbrev cJ9_max_7cf53 : ByteArray := prog_10_method_65_code
def yJ9_max_7cf53 : MethodName := ⟨RJ9, "max", "(II)I"⟩
abbrev cJ9_min_7cf53 : ByteArray := prog_10_method_69_code
def yJ9_min_7cf53 : MethodName := ⟨RJ9, "min", "(II)I"⟩
def RJ10 : String := "java/lang/System"
def TJ10 : u_T := fun k => match k with
  | _ => ("", "", "", false)
def tyJ10 : Nat → FieldType := fun k => match k with
  | _ => .int
abbrev wsJ100 : List Cond := u_ws RJ10 TJ10 0
theorem nmJ10 : ∀ a, a < 0 → ∀ b, b < 0 → a ≠ b → (TJ10 a).2.1 ≠ (TJ10 b).2.1 := by decide +kernel
theorem tyJ10_ok : ∀ k, k < 0 → parseFieldDescriptor (TJ10 k).2.2.1 = some (tyJ10 k) := by decide +kernel
def RL : String := "SometimesSumsLaw"
abbrev cL_low : ByteArray := method_2_code
def yL_low : MethodName := ⟨RL, "low", "(II)I"⟩
abbrev cL_cell : ByteArray := method_3_code
def yL_cell : MethodName := ⟨RL, "cell", "([II)I"⟩
abbrev cL_act : ByteArray := method_4_code
def yL_act : MethodName := ⟨RL, "act", "(LSometimesSums;[II)I"⟩
abbrev cL_sums : ByteArray := method_5_code
def yL_sums : MethodName := ⟨RL, "sums", "(LSometimesSums;I)Z"⟩
abbrev cL_blocks : ByteArray := method_6_code
def yL_blocks : MethodName := ⟨RL, "blocks", "(LSometimesSums;)Z"⟩
abbrev cL_weights : ByteArray := method_7_code
def yL_weights : MethodName := ⟨RL, "weights", "(LSometimesSums;II)Z"⟩
abbrev cL_law : ByteArray := code
def yL_law : MethodName := ⟨RL, "law", "([I)Z"⟩
abbrev vwCl : List vw_C := [(RX0, TX0, 2), (RX1, TX1, 5), (RX2, TX2, 5), (RX3, TX3, 2), (RX4, TX4, 7), (RX5, TX5, 13), (RX6, TX6, 9)]
end
section
/-! A small machine: ints are integers (wrapped), references are numbers of cells in the order of making (1, 2, ..), the script is the cell 0. -/
abbrev MV : Type := Int ⊕ Nat
/-- ((next cell, slots made), kinds, lengths), ints, references. Kinds: 1 int array, 2 char array, 3 array of tables, 10 + i object of the class i -/
abbrev MW : Type := ((Nat × Nat) × (Nat → Nat) × (Nat → Nat)) × (Nat → Nat → Int) × (Nat → Nat → Option Nat)
def nx (w : MW) : Nat := w.1.1.1
def sl (w : MW) : Nat := w.1.1.2
def kd (w : MW) (a : Nat) : Nat := w.1.2.1 a
def ln (w : MW) (a : Nat) : Nat := w.1.2.2 a
def gi (w : MW) (a k : Nat) : Int := w.2.1 a k
def gr (w : MW) (a k : Nat) : Option Nat := w.2.2 a k
def u1 {α : Type} (f : Nat → α) (a : Nat) (v : α) : Nat → α := fun b => if b = a then v else f b
def u2 {α : Type} (f : Nat → Nat → α) (a k : Nat) (v : α) : Nat → Nat → α := fun b j => if b = a ∧ j = k then v else f b j
def z2 {α : Type} (f : Nat → Nat → α) (a : Nat) (v : α) : Nat → Nat → α := fun b j => if b = a then v else f b j
def si (w : MW) (a k : Nat) (v : Int) : MW := (w.1, u2 w.2.1 a k v, w.2.2)
def sr (w : MW) (a k : Nat) (v : Option Nat) : MW := (w.1, w.2.1, u2 w.2.2 a k v)
def cp2 (f : Nat → Nat → Int) (s sp t tp n : Nat) : Nat → Nat → Int := fun b j => if b = t ∧ tp ≤ j ∧ j < tp + n then f s (sp + (j - tp)) else f b j
/-- arraycopy -/
def cpw (w : MW) (s sp t tp n : Nat) : MW := (w.1, cp2 w.2.1 s sp t tp n, w.2.2)
/-- a new cell of a kind -/
def al (w : MW) (kind len slots : Nat) : MW := (((nx w + 1, sl w + slots), u1 w.1.2.1 (nx w) kind, u1 w.1.2.2 (nx w) len), z2 w.2.1 (nx w) 0, z2 w.2.2 (nx w) none)
def wrap (z : Int) : Int := z.bmod 4294967296
def opI (f : Int32 → Int32 → Int32) (x y : Int) : Int := (f (Int32.ofInt x) (Int32.ofInt y)).toInt
def divI : Int → Int → Int := opI (fun x y => x / y)
def remI : Int → Int → Int := opI (fun x y => x - x / y * y)
def andI : Int → Int → Int := opI (fun x y => x &&& y)
def orI : Int → Int → Int := opI (fun x y => x ||| y)
def xorI : Int → Int → Int := opI (fun x y => x ^^^ y)
def shlI : Int → Int → Int := opI (fun x y => x <<< (y &&& 31))
def shrI : Int → Int → Int := opI (fun x y => x >>> (y &&& 31))
def ushrI : Int → Int → Int := opI (fun x y => (x.toUInt32 >>> (y.toUInt32 &&& Int32.toUInt32 31)).toInt32)
def chrI (x : Int) : Int := x % 65536
def maxI (x y : Int) : Int := if x < y then y else x
def minI (x y : Int) : Int := if y < x then y else x
/-- an instruction, its length, what it means (class, slot, callee ..), the locals that are dead there -/
abbrev MC : Type := Instr × Nat × List Nat × List Nat
/-- its class, its name, its bytes, its locals, what it returns, its code -/
abbrev MI : Type := String × MethodName × ByteArray × Nat × Option FieldType × (Nat → Option MC)
def kill (ds : List Nat) (L : List (Option MV)) : List (Option MV) := ds.foldl (fun L i => L.set i none) L
abbrev Act : Type := (Nat × List (Option MV) × List MV × MW) ⊕ (Option MV × MW) ⊕ (Nat × Nat × List MV × Nat × List (Option MV) × List MV × MW)
def aGo (pc : Nat) (L : List (Option MV)) (st : List MV) (w : MW) : Option Act := some (.inl (pc, L, st, w))
def aRet (v : Option MV) (w : MW) : Option Act := some (.inr (.inl (v, w)))
def aCall (kind k : Nat) (as : List MV) (pc : Nat) (L : List (Option MV)) (st : List MV) (w : MW) : Option Act := some (.inr (.inr (kind, k, as, pc, L, st, w)))
def gd {α : Type} (c : Prop) [Decidable c] (o : Option α) : Option α := if c then o else none
def gto (pc : Nat) (off : Int) : Nat := ((pc : Int) + off).toNat
def lgI (L : List (Option MV)) (i : Nat) (f : Int → Option Act) : Option Act := match L[i]? with
  | some (some (.inl x)) => f x
  | _ => none
def lgR (L : List (Option MV)) (i : Nat) (f : Nat → Option Act) : Option Act := match L[i]? with
  | some (some (.inr x)) => f x
  | _ => none
def s1I (st : List MV) (f : Int → List MV → Option Act) : Option Act := match st with
  | .inl x :: r => f x r
  | _ => none
def s1R (st : List MV) (f : Nat → List MV → Option Act) : Option Act := match st with
  | .inr x :: r => f x r
  | _ => none
def s2I (st : List MV) (f : Int → Int → List MV → Option Act) : Option Act := s1I st fun y r => s1I r fun x r => f x y r
def tst (c : ClassFile.Cond) (x y : Int) : Bool := match c with
  | .eq => decide (x = y)
  | .ne => decide (x ≠ y)
  | .lt => decide (x < y)
  | .ge => decide (y ≤ x)
  | .gt => decide (y < x)
  | .le => decide (x ≤ y)
def ixI (i : Int) (n : Nat) : Prop := 0 ≤ i ∧ i < n
def mcall (kind k n ci : Nat) (virt : Bool) (pc : Nat) (L : List (Option MV)) (st : List MV) (w : MW) : Option Act :=
  gd (n ≤ st.length ∧ (st.drop n).length ≤ 8) (match virt with
    | true => (match (st.take n).reverse with
      | .inr b :: as => gd (kd w b = 10 + ci) (aCall kind k (.inr b :: as) (pc + 3) L (st.drop n) w)
      | _ => none)
    | false => aCall kind k (st.take n).reverse (pc + 3) L (st.drop n) w)
/-- one instruction -/
def mstep (X : Nat × (Nat → Int)) (i : Instr) (n : Nat) (u : List Nat) (pc : Nat) (L : List (Option MV)) (st : List MV) (w : MW) : Option Act :=
  match i with
  | .iconst z => gd (-1 ≤ z ∧ z ≤ 5) (aGo (pc + 1) L (.inl z :: st) w)
  | .bipush z => gd (-128 ≤ z ∧ z ≤ 127) (aGo (pc + 2) L (.inl z :: st) w)
  | .sipush z => gd (-32768 ≤ z ∧ z ≤ 32767) (aGo (pc + 3) L (.inl z :: st) w)
  | .ldc _ => (match u with
    | v :: _ => gd (v ≤ 2147483647) (aGo (pc + 2) L (.inl (v : Int) :: st) w)
    | _ => none)
  | .iload_n j => lgI L j fun x => aGo (pc + 1) L (.inl x :: st) w
  | .iload j => lgI L j fun x => aGo (pc + 2) L (.inl x :: st) w
  | .aload_n j => lgR L j fun x => aGo (pc + 1) L (.inr x :: st) w
  | .aload j => lgR L j fun x => aGo (pc + 2) L (.inr x :: st) w
  | .istore_n j => s1I st fun x r => gd ((j : Nat) < L.length) (aGo (pc + 1) (L.set j (some (.inl x))) r w)
  | .istore j => s1I st fun x r => gd (j < L.length) (aGo (pc + 2) (L.set j (some (.inl x))) r w)
  | .astore_n j => s1R st fun x r => gd ((j : Nat) < L.length) (aGo (pc + 1) (L.set j (some (.inr x))) r w)
  | .astore j => s1R st fun x r => gd (j < L.length) (aGo (pc + 2) (L.set j (some (.inr x))) r w)
  | .iadd => s2I st fun x y r => aGo (pc + 1) L (.inl (wrap (x + y)) :: r) w
  | .isub => s2I st fun x y r => aGo (pc + 1) L (.inl (wrap (x - y)) :: r) w
  | .imul => s2I st fun x y r => aGo (pc + 1) L (.inl (wrap (x * y)) :: r) w
  | .idiv => s2I st fun x y r => gd (y ≠ 0) (aGo (pc + 1) L (.inl (divI x y) :: r) w)
  | .irem => s2I st fun x y r => gd (y ≠ 0) (aGo (pc + 1) L (.inl (remI x y) :: r) w)
  | .iand => s2I st fun x y r => aGo (pc + 1) L (.inl (andI x y) :: r) w
  | .ior => s2I st fun x y r => aGo (pc + 1) L (.inl (orI x y) :: r) w
  | .ixor => s2I st fun x y r => aGo (pc + 1) L (.inl (xorI x y) :: r) w
  | .ishl => s2I st fun x y r => aGo (pc + 1) L (.inl (shlI x y) :: r) w
  | .ishr => s2I st fun x y r => aGo (pc + 1) L (.inl (shrI x y) :: r) w
  | .iushr => s2I st fun x y r => aGo (pc + 1) L (.inl (ushrI x y) :: r) w
  | .i2c => s1I st fun x r => aGo (pc + 1) L (.inl (chrI x) :: r) w
  | .dup => (match st with
    | v :: r => aGo (pc + 1) L (v :: v :: r) w
    | _ => none)
  | .dup2 => (match st with
    | v1 :: v2 :: r => aGo (pc + 1) L (v1 :: v2 :: v1 :: v2 :: r) w
    | _ => none)
  | .pop => (match st with
    | _ :: r => aGo (pc + 1) L r w
    | _ => none)
  | .iinc j z => lgI L j fun x => gd (j < L.length ∧ -32768 ≤ z ∧ z ≤ 32767) (aGo (pc + 3) (L.set j (some (.inl (wrap (x + z))))) st w)
  | .goto off => gd (0 ≤ (pc : Int) + off) (aGo (gto pc off) L st w)
  | .ifCond c off => s1I st fun x r => gd (0 ≤ (pc : Int) + off) (if tst c x 0 then aGo (gto pc off) L r w else aGo (pc + 3) L r w)
  | .if_icmp c off => s2I st fun x y r => gd (0 ≤ (pc : Int) + off) (if tst c x y then aGo (gto pc off) L r w else aGo (pc + 3) L r w)
  | .tableswitch dflt lo hi offs => s1I st fun x r => if x < lo ∨ hi < x then gd (0 ≤ (pc : Int) + dflt) (aGo (gto pc dflt) L r w) else (match offs[(x - lo).toNat]? with
    | some off => gd (0 ≤ (pc : Int) + off) (aGo (gto pc off) L r w)
    | none => none)
  | .getfield _ => s1R st fun a r => (match u with
    | [ci, k, 0, _] => gd (kd w a = 10 + ci) (aGo (pc + 3) L (.inl (gi w a k) :: r) w)
    | [ci, k, 1, _] => gd (kd w a = 10 + ci) (match gr w a k with
      | some b => aGo (pc + 3) L (.inr b :: r) w
      | none => none)
    | _ => none)
  | .putfield _ => (match u with
    | [ci, k, 0, _] => s1I st fun v r => s1R r fun a r => gd (kd w a = 10 + ci) (aGo (pc + 3) L r (si w a k v))
    | [ci, k, 2, _] => s1I st fun v r => s1R r fun a r => gd (kd w a = 10 + ci ∧ (v = 0 ∨ v = 1)) (aGo (pc + 3) L r (si w a k v))
    | [ci, k, 1, _] => s1R st fun v r => s1R r fun a r => gd (kd w a = 10 + ci) (aGo (pc + 3) L r (sr w a k (some v)))
    | _ => none)
  | .iaload => s1I st fun j r => s1R r fun a r => (match u with
    | [] => gd (kd w a = 1 ∧ 0 ≤ j ∧ j < ln w a) (aGo (pc + 1) L (.inl (gi w a j.toNat) :: r) w)
    | _ => gd (a = 0 ∧ 0 ≤ j ∧ j < X.1) (aGo (pc + 1) L (.inl (X.2 j.toNat) :: r) w))
  | .iastore => s1I st fun v r => s1I r fun j r => s1R r fun a r => gd (kd w a = 1 ∧ 0 ≤ j ∧ j < ln w a) (aGo (pc + 1) L r (si w a j.toNat v))
  | .caload => s1I st fun j r => s1R r fun a r => gd (kd w a = 2 ∧ 0 ≤ j ∧ j < ln w a) (aGo (pc + 1) L (.inl (gi w a j.toNat) :: r) w)
  | .castore => s1I st fun v r => s1I r fun j r => s1R r fun a r => gd ((kd w a = 2 ∧ 0 ≤ j ∧ j < ln w a) ∧ 0 ≤ v ∧ v < 65536) (aGo (pc + 1) L r (si w a j.toNat v))
  | .aaload => s1I st fun j r => s1R r fun a r => gd (kd w a = 3 ∧ 0 ≤ j ∧ j < ln w a) (match gr w a j.toNat with
    | some b => aGo (pc + 1) L (.inr b :: r) w
    | none => none)
  | .aastore => s1R st fun v r => s1I r fun j r => s1R r fun a r => gd ((kd w a = 3 ∧ 0 ≤ j ∧ j < ln w a) ∧ kd w v = 13) (aGo (pc + 1) L r (sr w a j.toNat (some v)))
  | .arraylength => s1R st fun a r => (match u with
    | [] => gd (kd w a = 1 ∧ ln w a < 2147483648) (aGo (pc + 1) L (.inl (ln w a) :: r) w)
    | _ => gd (a = 0 ∧ X.1 < 2147483648) (aGo (pc + 1) L (.inl X.1 :: r) w))
  | .newarray t => s1I st fun j r => gd (0 ≤ j ∧ j ≤ 1000) (match t with
    | .int => aGo (pc + 2) L (.inr (nx w) :: r) (al w 1 j.toNat j.toNat)
    | .char => aGo (pc + 2) L (.inr (nx w) :: r) (al w 2 j.toNat j.toNat)
    | _ => none)
  | .anewarray _ => s1I st fun j r => gd (0 ≤ j ∧ j ≤ 1000) (aGo (pc + 3) L (.inr (nx w) :: r) (al w 3 j.toNat j.toNat))
  | .new _ => (match u with
    | ci :: nf :: _ => aGo (pc + 3) L (.inr (nx w) :: st) (al w (10 + ci) 0 nf)
    | _ => none)
  | .invokespecial _ => (match u with
    | 0 :: _ => s1R st fun _ r => gd (r.length ≤ 8) (aGo (pc + 3) L r w)
    | 1 :: k :: m :: ci :: _ => mcall 0 k m ci true pc L st w
    | 2 :: k :: m :: ci :: _ => mcall 0 k m ci true pc L st w
    | _ => none)
  | .invokevirtual _ => (match u with
    | kind :: k :: m :: ci :: _ => mcall kind k m ci true pc L st w
    | _ => none)
  | .invokestatic _ => (match u with
    | 0 :: kind :: k :: m :: _ => mcall kind k m 0 false pc L st w
    | 1 :: _ => s2I st fun x y r => gd (r.length ≤ 8) (aGo (pc + 3) L (.inl (maxI x y) :: r) w)
    | 2 :: _ => s2I st fun x y r => gd (r.length ≤ 8) (aGo (pc + 3) L (.inl (minI x y) :: r) w)
    | 4 :: kind :: k :: m :: _ => mcall kind k m 0 false pc L st w
    | 3 :: _ => s2I st fun tp j r => s1R r fun t r => s1I r fun sp r => s1R r fun s r => gd (r.length ≤ 8 ∧ kd w s = 1 ∧ kd w t = 1 ∧ 0 ≤ sp ∧ 0 ≤ tp ∧ 0 ≤ j ∧ sp + j ≤ ln w s ∧ tp + j ≤ ln w t) (aGo (pc + 3) L r (cpw w s sp.toNat t tp.toNat j.toNat))
    | _ => none)
  | .ireturn => (match u with
    | 0 :: _ => s1I st fun x r => gd (r = []) (aRet (some (.inl x)) w)
    | 1 :: _ => s1I st fun x r => gd (r = [] ∧ (x = 0 ∨ x = 1)) (aRet (some (.inl x)) w)
    | _ => none)
  | .areturn => s1R st fun x r => gd (r = []) (aRet (some (.inr x)) w)
  | .return_ => gd (st = []) (aRet none w)
  | _ => none
end
section
/-! the methods of the law, the class and the reference as data: printed by program out of the claim's texts -/
def mfind : List (Nat × MC) → Nat → Option MC
  | [], _ => none
  | (q, e) :: r, pc => bif Nat.beq q pc then some e else mfind r pc
def cdT (t : List (List (Nat × MC))) (pc : Nat) : Option MC := mfind (t.getD (pc / 16) []) pc
def co0 : List (List (Nat × MC)) := [[(0, .new 10, 3, [6, 9, 33, 34, 24], []), (3, .dup, 1, [], []), (4, .invokespecial 82, 3, [1, 70, 1, 6, 35, 36, 24, 37], []), (7, .astore_n 1, 1, [], []), (8, .iconst 1, 1, [], []), (9, .istore_n 2, 1, [], []), (10, .aload_n 0, 1, [], []), (11, .arraylength, 1, [1], []), (12, .iconst 5, 1, [], []), (13, .idiv, 1, [], []), (14, .bipush 14, 2, [], [])],
  [(16, .if_icmp .le 8, 3, [], []), (19, .bipush 14, 2, [], []), (21, .goto 7, 3, [], []), (24, .aload_n 0, 1, [], []), (25, .arraylength, 1, [1], []), (26, .iconst 5, 1, [], []), (27, .idiv, 1, [], []), (28, .istore_n 3, 1, [], []), (29, .iconst 0, 1, [], []), (30, .istore 4, 2, [], [])],
  [(32, .iload 4, 2, [], [5, 6, 7, 8]), (34, .iload_n 3, 1, [], []), (35, .if_icmp .ge 231, 3, [], []), (38, .iload_n 2, 1, [], []), (39, .ifCond .eq 227, 3, [], []), (42, .aload_n 1, 1, [], []), (43, .iconst 0, 1, [], []), (44, .invokevirtual 9, 3, [1, 94, 2, 6, 288, 289, 290, 24, 291], []), (47, .istore 5, 2, [], [])],
  [(49, .aload_n 1, 1, [], []), (50, .bipush 8, 2, [], []), (52, .invokevirtual 9, 3, [1, 94, 2, 6, 288, 289, 290, 24, 291], []), (55, .istore 6, 2, [], []), (57, .iload 4, 2, [], []), (59, .iconst 4, 1, [], []), (60, .if_icmp .ne 18, 3, [], []), (63, .aload_n 1, 1, [], [])],
  [(64, .invokevirtual 83, 3, [1, 83, 1, 6, 249, 250, 251, 24, 252], []), (67, .iload 5, 2, [], []), (69, .if_icmp .ne 7, 3, [], []), (72, .iconst 1, 1, [], []), (73, .goto 4, 3, [], []), (76, .iconst 0, 1, [], []), (77, .istore_n 2, 1, [], [2, 7, 8]), (78, .aload_n 1, 1, [], [7, 8]), (79, .aload_n 0, 1, [], [])],
  [(80, .iload 4, 2, [], []), (82, .invokestatic 86, 3, [0, 1, 103, 3, 358, 359, 23, 360], []), (85, .istore 7, 2, [], []), (87, .aload_n 1, 1, [], []), (88, .iconst 0, 1, [], []), (89, .invokevirtual 9, 3, [1, 94, 2, 6, 288, 289, 290, 24, 291], []), (92, .istore 8, 2, [], []), (94, .iload_n 2, 1, [], []), (95, .ifCond .eq 39, 3, [], [])],
  [(98, .iload 7, 2, [], []), (100, .ifCond .ge 21, 3, [], []), (103, .iload 8, 2, [], []), (105, .iload 5, 2, [], []), (107, .if_icmp .ne 27, 3, [], []), (110, .aload_n 1, 1, [], []), (111, .bipush 8, 2, [], [])],
  [(113, .invokevirtual 9, 3, [1, 94, 2, 6, 288, 289, 290, 24, 291], []), (116, .iload 6, 2, [], []), (118, .if_icmp .ne 16, 3, [], []), (121, .aload_n 1, 1, [], [2, 5, 6, 7]), (122, .iload 8, 2, [], []), (124, .invokestatic 90, 3, [0, 1, 104, 2, 452, 453, 23, 454], []), (127, .ifCond .eq 7, 3, [], [])],
  [(130, .iconst 1, 1, [], []), (131, .goto 4, 3, [], []), (134, .iconst 0, 1, [], [2, 5, 6, 7]), (135, .istore_n 2, 1, [], [2, 5, 6, 7]), (136, .iload_n 2, 1, [], []), (137, .ifCond .eq 70, 3, [], []), (140, .aload_n 1, 1, [], []), (141, .iconst 2, 1, [], []), (142, .invokevirtual 9, 3, [1, 94, 2, 6, 288, 289, 290, 24, 291], [])],
  [(145, .iconst 1, 1, [], []), (146, .if_icmp .ne 7, 3, [], []), (149, .iconst 1, 1, [], []), (150, .goto 4, 3, [], []), (153, .iconst 0, 1, [], []), (154, .aload_n 1, 1, [], [2, 5, 6, 7]), (155, .bipush 7, 2, [], []), (157, .invokevirtual 9, 3, [1, 94, 2, 6, 288, 289, 290, 24, 291], [])],
  [(160, .ifCond .ne 7, 3, [], []), (163, .iconst 1, 1, [], []), (164, .goto 4, 3, [], []), (167, .iconst 0, 1, [], []), (168, .if_icmp .ne 39, 3, [], [2, 5, 6, 7]), (171, .aload_n 1, 1, [], []), (172, .iconst 2, 1, [], []), (173, .invokevirtual 9, 3, [1, 94, 2, 6, 288, 289, 290, 24, 291], [])],
  [(176, .iconst 1, 1, [], []), (177, .if_icmp .ne 7, 3, [], []), (180, .iconst 1, 1, [], []), (181, .goto 4, 3, [], []), (184, .iconst 0, 1, [], []), (185, .aload_n 1, 1, [], [2, 5, 6, 7]), (186, .iconst 0, 1, [], []), (187, .invokevirtual 94, 3, [1, 87, 2, 6, 260, 261, 262, 24, 263], []), (190, .bipush (-5), 2, [], [])],
  [(192, .if_icmp .ne 7, 3, [], []), (195, .iconst 1, 1, [], []), (196, .goto 4, 3, [], []), (199, .iconst 0, 1, [], []), (200, .if_icmp .ne 7, 3, [], [2, 5, 6, 7]), (203, .iconst 1, 1, [], []), (204, .goto 4, 3, [], []), (207, .iconst 0, 1, [], [2, 5, 6, 7])],
  [(208, .istore_n 2, 1, [], [2, 5, 6, 7]), (209, .iload 4, 2, [], []), (211, .iload_n 3, 1, [], []), (212, .iconst 1, 1, [], []), (213, .isub, 1, [], []), (214, .if_icmp .ne 46, 3, [], []), (217, .iload_n 2, 1, [], []), (218, .ifCond .eq 40, 3, [], []), (221, .aload_n 1, 1, [], []), (222, .invokestatic 97, 3, [0, 1, 105, 1, 487, 488, 23, 489], [])],
  [(225, .ifCond .eq 33, 3, [], []), (228, .aload_n 1, 1, [], []), (229, .iload 8, 2, [], []), (231, .iconst 1, 1, [], []), (232, .aload_n 0, 1, [], []), (233, .iconst 5, 1, [], []), (234, .iload 4, 2, [], []), (236, .imul, 1, [], []), (237, .iconst 4, 1, [], []), (238, .iadd, 1, [], []), (239, .invokestatic 15, 3, [0, 1, 102, 2, 354, 355, 23, 356], [])],
  [(242, .bipush 6, 2, [], []), (244, .invokestatic 21, 3, [0, 1, 101, 2, 350, 351, 23, 352], []), (247, .iadd, 1, [], []), (248, .invokestatic 101, 3, [0, 1, 106, 3, 502, 503, 23, 504], []), (251, .ifCond .eq 7, 3, [], []), (254, .iconst 1, 1, [], []), (255, .goto 4, 3, [], [])],
  [(258, .iconst 0, 1, [], []), (259, .istore_n 2, 1, [], []), (260, .iinc 4 1, 3, [], []), (263, .goto (-231), 3, [], []), (266, .iload_n 2, 1, [], []), (267, .ireturn, 1, [1], [])]]
def co1 : List (List (Nat × MC)) := [[(0, .aload_n 0, 1, [], []), (1, .invokespecial 3, 3, [0, 80, 39, 40], []), (4, .aload_n 0, 1, [], []), (5, .iconst 4, 1, [], []), (6, .anewarray 9, 3, [81, 82], []), (9, .putfield 11, 3, [0, 1, 1, 86], []), (12, .iconst 0, 1, [], []), (13, .istore_n 1, 1, [], []), (14, .iload_n 1, 1, [], []), (15, .iconst 4, 1, [], [])],
  [(16, .if_icmp .ge 22, 3, [], []), (19, .aload_n 0, 1, [], []), (20, .getfield 11, 3, [0, 1, 1, 86], []), (23, .iload_n 1, 1, [], []), (24, .new 9, 3, [3, 2, 81, 42, 25], []), (27, .dup, 1, [], []), (28, .invokespecial 17, 3, [1, 23, 1, 3, 83, 44, 25, 45], []), (31, .aastore, 1, [], [])],
  [(32, .iinc 1 1, 3, [], []), (35, .goto (-21), 3, [], []), (38, .return_, 1, [], [])]]
def co2 : List (List (Nat × MC)) := [[(0, .aload_n 0, 1, [], []), (1, .getfield 18, 3, [0, 0, 0, 84], []), (4, .iconst 4, 1, [], []), (5, .if_icmp .ne 7, 3, [], []), (8, .aload_n 0, 1, [], []), (9, .invokevirtual 22, 3, [0, 3, 1, 0, 369, 371, 5, 26, 372], []), (12, .aload_n 0, 1, [], [2]), (13, .getfield 11, 3, [0, 1, 1, 86], [])],
  [(16, .aload_n 0, 1, [], []), (17, .getfield 18, 3, [0, 0, 0, 84], []), (20, .aaload, 1, [], []), (21, .astore_n 2, 1, [], []), (22, .aload_n 2, 1, [], []), (23, .aload_n 1, 1, [], []), (24, .invokevirtual 25, 3, [0, 30, 2, 3, 373, 254, 255, 25, 256], []), (27, .aload_n 0, 1, [], []), (28, .dup, 1, [], []), (29, .getfield 18, 3, [0, 0, 0, 84], [])],
  [(32, .iconst 1, 1, [], []), (33, .iadd, 1, [], []), (34, .putfield 18, 3, [0, 0, 0, 84], []), (37, .aload_n 2, 1, [], []), (38, .areturn, 1, [], [])]]
def co3 : List (List (Nat × MC)) := [[(0, .aload_n 0, 1, [], []), (1, .getfield 11, 3, [0, 1, 1, 86], []), (4, .iconst 0, 1, [], []), (5, .aaload, 1, [], []), (6, .astore_n 1, 1, [], []), (7, .iconst 1, 1, [], []), (8, .istore_n 2, 1, [], []), (9, .iload_n 2, 1, [], []), (10, .iconst 4, 1, [], []), (11, .if_icmp .ge 23, 3, [], []), (14, .aload_n 0, 1, [], []), (15, .getfield 11, 3, [0, 1, 1, 86], [])],
  [(18, .iload_n 2, 1, [], []), (19, .iconst 1, 1, [], []), (20, .isub, 1, [], []), (21, .aload_n 0, 1, [], []), (22, .getfield 11, 3, [0, 1, 1, 86], []), (25, .iload_n 2, 1, [], []), (26, .aaload, 1, [], []), (27, .aastore, 1, [], []), (28, .iinc 2 1, 3, [], []), (31, .goto (-22), 3, [], [])],
  [(34, .aload_n 0, 1, [], []), (35, .getfield 11, 3, [0, 1, 1, 86], []), (38, .iconst 3, 1, [], []), (39, .aload_n 1, 1, [], []), (40, .aastore, 1, [], []), (41, .aload_n 0, 1, [], []), (42, .iconst 3, 1, [], []), (43, .putfield 18, 3, [0, 0, 0, 84], []), (46, .return_, 1, [], [])]]
def co4 : List (List (Nat × MC)) := [[(0, .aload_n 0, 1, [], []), (1, .getfield 18, 3, [0, 0, 0, 84], []), (4, .ifCond .ne 5, 3, [], []), (7, .iconst 0, 1, [], []), (8, .ireturn, 1, [1], []), (9, .aload_n 0, 1, [], []), (10, .dup, 1, [], []), (11, .getfield 18, 3, [0, 0, 0, 84], []), (14, .iconst 1, 1, [], []), (15, .isub, 1, [], [])],
  [(16, .putfield 18, 3, [0, 0, 0, 84], []), (19, .aload_n 1, 1, [], []), (20, .aload_n 0, 1, [], []), (21, .getfield 11, 3, [0, 1, 1, 86], []), (24, .aload_n 0, 1, [], []), (25, .getfield 18, 3, [0, 0, 0, 84], []), (28, .aaload, 1, [], []), (29, .invokevirtual 25, 3, [0, 30, 2, 3, 373, 254, 255, 25, 256], [])],
  [(32, .iconst 1, 1, [], []), (33, .ireturn, 1, [1], [])]]
def co5 : List (List (Nat × MC)) := [[(0, .aload_n 0, 1, [], []), (1, .invokespecial 3, 3, [0, 124, 39, 40], []), (4, .return_, 1, [], [])]]
def co6 : List (List (Nat × MC)) := [[(0, .aload_n 0, 1, [], []), (1, .iconst 0, 1, [], []), (2, .putfield 9, 3, [1, 0, 0, 125], []), (5, .iconst 0, 1, [], []), (6, .istore_n 2, 1, [], []), (7, .iload_n 2, 1, [], [3]), (8, .aload_n 1, 1, [], []), (9, .getfield 15, 3, [3, 0, 0, 66], []), (12, .if_icmp .ge 32, 3, [], []), (15, .iconst 0, 1, [], [])],
  [(16, .istore_n 3, 1, [], []), (17, .iload_n 3, 1, [], []), (18, .aload_n 1, 1, [], []), (19, .getfield 15, 3, [3, 0, 0, 66], []), (22, .if_icmp .ge 16, 3, [], []), (25, .aload_n 0, 1, [], []), (26, .aload_n 1, 1, [], []), (27, .iload_n 2, 1, [], []), (28, .iload_n 3, 1, [], []), (29, .invokevirtual 20, 3, [0, 7, 4, 1, 268, 270, 0, 28, 271], [])],
  [(32, .iinc 3 1, 3, [], []), (35, .goto (-18), 3, [], []), (38, .iinc 2 1, 3, [], []), (41, .goto (-34), 3, [], []), (44, .iconst 0, 1, [], []), (45, .istore_n 2, 1, [], []), (46, .iload_n 2, 1, [], [3]), (47, .aload_n 1, 1, [], [])],
  [(48, .getfield 15, 3, [3, 0, 0, 66], []), (51, .if_icmp .ge 26, 3, [], []), (54, .aload_n 1, 1, [], []), (55, .iload_n 2, 1, [], []), (56, .invokestatic 24, 3, [0, 1, 8, 2, 280, 281, 28, 282], []), (59, .iconst 1, 1, [], []), (60, .if_icmp .eq 11, 3, [], []), (63, .aload_n 0, 1, [], [])],
  [(64, .iconst 1, 1, [], []), (65, .iload_n 2, 1, [], []), (66, .iconst 0, 1, [], []), (67, .iconst 0, 1, [], []), (68, .invokevirtual 28, 3, [0, 9, 5, 1, 276, 278, 1, 28, 279], []), (71, .iinc 2 1, 3, [], []), (74, .goto (-28), 3, [], []), (77, .iconst 1, 1, [], []), (78, .istore_n 2, 1, [], []), (79, .iload_n 2, 1, [], [3])],
  [(80, .aload_n 1, 1, [], []), (81, .getfield 15, 3, [3, 0, 0, 66], []), (84, .if_icmp .ge 26, 3, [], []), (87, .aload_n 1, 1, [], []), (88, .iload_n 2, 1, [], []), (89, .iconst 1, 1, [], []), (90, .invokevirtual 32, 3, [1, 26, 3, 3, 283, 284, 285, 25, 286], []), (93, .ifCond .eq 11, 3, [], [])],
  [(96, .aload_n 0, 1, [], []), (97, .iconst 2, 1, [], []), (98, .iload_n 2, 1, [], []), (99, .iconst 0, 1, [], []), (100, .iconst 0, 1, [], []), (101, .invokevirtual 28, 3, [0, 9, 5, 1, 276, 278, 1, 28, 279], []), (104, .iinc 2 1, 3, [], []), (107, .goto (-28), 3, [], []), (110, .return_, 1, [], [])]]
def co7 : List (List (Nat × MC)) := [[(0, .iconst 0, 1, [], []), (1, .istore 4, 2, [], []), (3, .iload 4, 2, [], [5, 6]), (5, .aload_n 1, 1, [], []), (6, .getfield 15, 3, [3, 0, 0, 66], []), (9, .if_icmp .ge 60, 3, [], []), (12, .aload_n 1, 1, [], []), (13, .iload_n 2, 1, [], []), (14, .aload_n 1, 1, [], []), (15, .iload_n 3, 1, [], [])],
  [(16, .iload 4, 2, [], []), (18, .invokevirtual 36, 3, [1, 25, 3, 3, 272, 273, 274, 25, 275], []), (21, .invokevirtual 36, 3, [1, 25, 3, 3, 272, 273, 274, 25, 275], []), (24, .istore 5, 2, [], []), (26, .aload_n 1, 1, [], []), (27, .aload_n 1, 1, [], []), (28, .iload_n 2, 1, [], []), (29, .iload_n 3, 1, [], []), (30, .invokevirtual 36, 3, [1, 25, 3, 3, 272, 273, 274, 25, 275], [])],
  [(33, .iload 4, 2, [], []), (35, .invokevirtual 36, 3, [1, 25, 3, 3, 272, 273, 274, 25, 275], []), (38, .istore 6, 2, [], []), (40, .iload 5, 2, [], []), (42, .bipush 12, 2, [], []), (44, .if_icmp .eq 19, 3, [], []), (47, .iload 6, 2, [], [])],
  [(49, .iload 5, 2, [], []), (51, .if_icmp .eq 12, 3, [], []), (54, .aload_n 0, 1, [], []), (55, .iconst 0, 1, [], []), (56, .iload_n 2, 1, [], []), (57, .iload_n 3, 1, [], []), (58, .iload 4, 2, [], []), (60, .invokevirtual 28, 3, [0, 9, 5, 1, 276, 278, 1, 28, 279], []), (63, .iinc 4 1, 3, [], [])],
  [(66, .goto (-63), 3, [], []), (69, .return_, 1, [], [])]]
def co8 : List (List (Nat × MC)) := [[(0, .iconst 0, 1, [], []), (1, .istore_n 2, 1, [], []), (2, .iconst 0, 1, [], []), (3, .istore_n 3, 1, [], []), (4, .iload_n 3, 1, [], []), (5, .aload_n 0, 1, [], []), (6, .getfield 15, 3, [3, 0, 0, 66], []), (9, .if_icmp .ge 22, 3, [], []), (12, .aload_n 0, 1, [], []), (13, .iload_n 1, 1, [], []), (14, .iload_n 3, 1, [], []), (15, .invokevirtual 36, 3, [1, 25, 3, 3, 272, 273, 274, 25, 275], [])],
  [(18, .iconst 1, 1, [], []), (19, .if_icmp .ne 6, 3, [], []), (22, .iinc 2 1, 3, [], []), (25, .iinc 3 1, 3, [], []), (28, .goto (-24), 3, [], []), (31, .iload_n 2, 1, [], [])],
  [(32, .ireturn, 1, [0], [])]]
def co9 : List (List (Nat × MC)) := [[(0, .aload_n 0, 1, [], []), (1, .getfield 9, 3, [1, 0, 0, 125], []), (4, .ifCond .ne 24, 3, [], []), (7, .aload_n 0, 1, [], []), (8, .iload_n 1, 1, [], []), (9, .putfield 40, 3, [1, 1, 0, 127], []), (12, .aload_n 0, 1, [], []), (13, .iload_n 2, 1, [], []), (14, .putfield 43, 3, [1, 2, 0, 129], [])],
  [(17, .aload_n 0, 1, [], []), (18, .iload_n 3, 1, [], []), (19, .putfield 46, 3, [1, 3, 0, 131], []), (22, .aload_n 0, 1, [], []), (23, .iload 4, 2, [], []), (25, .putfield 49, 3, [1, 4, 0, 133], []), (28, .aload_n 0, 1, [], []), (29, .dup, 1, [], []), (30, .getfield 9, 3, [1, 0, 0, 125], [])],
  [(33, .iconst 1, 1, [], []), (34, .iadd, 1, [], []), (35, .putfield 9, 3, [1, 0, 0, 125], []), (38, .return_, 1, [], [])]]
def co10 : List (List (Nat × MC)) := [[(0, .aload_n 0, 1, [], []), (1, .invokespecial 3, 3, [0, 151, 39, 40], []), (4, .aload_n 0, 1, [], []), (5, .bipush 12, 2, [], []), (7, .newarray .int, 2, [74], []), (9, .putfield 9, 3, [2, 0, 1, 152], []), (12, .aload_n 0, 1, [], []), (13, .bipush 12, 2, [], []), (15, .newarray .int, 2, [74], [])],
  [(17, .putfield 15, 3, [2, 1, 1, 154], []), (20, .aload_n 0, 1, [], []), (21, .bipush 12, 2, [], []), (23, .newarray .int, 2, [74], []), (25, .putfield 18, 3, [2, 2, 1, 156], []), (28, .aload_n 0, 1, [], []), (29, .bipush 12, 2, [], []), (31, .newarray .int, 2, [74], [])],
  [(33, .putfield 21, 3, [2, 3, 1, 158], []), (36, .return_, 1, [], [])]]
def co11 : List (List (Nat × MC)) := [[(0, .aload_n 0, 1, [], []), (1, .aload_n 1, 1, [], []), (2, .getfield 24, 3, [3, 0, 0, 63], []), (5, .putfield 30, 3, [2, 4, 0, 159], []), (8, .iconst 0, 1, [], []), (9, .istore_n 2, 1, [], []), (10, .iload_n 2, 1, [], [3, 4]), (11, .aload_n 0, 1, [], []), (12, .getfield 30, 3, [2, 4, 0, 159], []), (15, .if_icmp .ge 41, 3, [], [])],
  [(18, .aload_n 0, 1, [], []), (19, .getfield 9, 3, [2, 0, 1, 152], []), (22, .iload_n 2, 1, [], []), (23, .iconst 0, 1, [], []), (24, .iastore, 1, [], []), (25, .aload_n 0, 1, [], []), (26, .getfield 15, 3, [2, 1, 1, 154], []), (29, .iload_n 2, 1, [], []), (30, .iconst 0, 1, [], []), (31, .iastore, 1, [], [])],
  [(32, .aload_n 0, 1, [], []), (33, .getfield 18, 3, [2, 2, 1, 156], []), (36, .iload_n 2, 1, [], []), (37, .iconst 0, 1, [], []), (38, .iastore, 1, [], []), (39, .aload_n 0, 1, [], []), (40, .getfield 21, 3, [2, 3, 1, 158], []), (43, .iload_n 2, 1, [], []), (44, .aload_n 1, 1, [], []), (45, .iload_n 2, 1, [], []), (46, .invokevirtual 31, 3, [1, 39, 2, 3, 301, 302, 303, 25, 304], [])],
  [(49, .iastore, 1, [], []), (50, .iinc 2 1, 3, [], []), (53, .goto (-43), 3, [], []), (56, .iconst 0, 1, [], []), (57, .istore_n 2, 1, [], []), (58, .iload_n 2, 1, [], [3, 4]), (59, .aload_n 0, 1, [], []), (60, .getfield 30, 3, [2, 4, 0, 159], []), (63, .if_icmp .ge 77, 3, [], [])],
  [(66, .iconst 0, 1, [], []), (67, .istore_n 3, 1, [], []), (68, .iload_n 3, 1, [], [4]), (69, .aload_n 0, 1, [], []), (70, .getfield 30, 3, [2, 4, 0, 159], []), (73, .if_icmp .ge 61, 3, [], []), (76, .aload_n 1, 1, [], []), (77, .iload_n 2, 1, [], []), (78, .iload_n 3, 1, [], []), (79, .invokevirtual 35, 3, [1, 25, 3, 3, 309, 273, 274, 25, 275], [])],
  [(82, .istore 4, 2, [], []), (84, .iload 4, 2, [], []), (86, .bipush 12, 2, [], []), (88, .if_icmp .eq 40, 3, [], []), (91, .aload_n 0, 1, [], []), (92, .getfield 9, 3, [2, 0, 1, 152], []), (95, .iload 4, 2, [], [])],
  [(97, .dup2, 1, [], []), (98, .iaload, 1, [], []), (99, .iload_n 2, 1, [], []), (100, .invokestatic 39, 3, [4, 1, 95, 1, 2, 311, 24, 312], []), (103, .ior, 1, [], []), (104, .iastore, 1, [], []), (105, .aload_n 0, 1, [], []), (106, .getfield 15, 3, [2, 1, 1, 154], []), (109, .iload_n 2, 1, [], []), (110, .dup2, 1, [], []), (111, .iaload, 1, [], [])],
  [(112, .iload 4, 2, [], []), (114, .invokestatic 39, 3, [4, 1, 95, 1, 2, 311, 24, 312], []), (117, .ior, 1, [], []), (118, .iastore, 1, [], []), (119, .aload_n 0, 1, [], []), (120, .aload_n 1, 1, [], []), (121, .iload 4, 2, [], []), (123, .iload_n 2, 1, [], []), (124, .iload_n 3, 1, [], []), (125, .invokevirtual 42, 3, [0, 12, 5, 2, 313, 315, 2, 29, 316], [])],
  [(128, .iinc 3 1, 3, [], []), (131, .goto (-63), 3, [], []), (134, .iinc 2 1, 3, [], []), (137, .goto (-79), 3, [], []), (140, .return_, 1, [], [])]]
def co12 : List (List (Nat × MC)) := [[(0, .iconst 0, 1, [], []), (1, .istore 5, 2, [], []), (3, .iload 5, 2, [], [6]), (5, .aload_n 0, 1, [], []), (6, .getfield 30, 3, [2, 4, 0, 159], []), (9, .if_icmp .ge 60, 3, [], []), (12, .aload_n 1, 1, [], []), (13, .iload 4, 2, [], []), (15, .iload 5, 2, [], [])],
  [(17, .invokevirtual 35, 3, [1, 25, 3, 3, 309, 273, 274, 25, 275], []), (20, .istore 6, 2, [], []), (22, .iload 6, 2, [], []), (24, .bipush 12, 2, [], []), (26, .if_icmp .eq 37, 3, [], []), (29, .aload_n 1, 1, [], []), (30, .iload_n 2, 1, [], []), (31, .iload 5, 2, [], [])],
  [(33, .invokevirtual 46, 3, [1, 26, 3, 3, 317, 284, 285, 25, 286], []), (36, .ifCond .eq 27, 3, [], []), (39, .aload_n 1, 1, [], []), (40, .iload_n 3, 1, [], []), (41, .iload 6, 2, [], []), (43, .invokevirtual 46, 3, [1, 26, 3, 3, 317, 284, 285, 25, 286], []), (46, .ifCond .eq 17, 3, [], [])],
  [(49, .aload_n 0, 1, [], []), (50, .getfield 18, 3, [2, 2, 1, 156], []), (53, .iload_n 2, 1, [], []), (54, .dup2, 1, [], []), (55, .iaload, 1, [], []), (56, .iload 6, 2, [], []), (58, .invokestatic 39, 3, [4, 1, 95, 1, 2, 311, 24, 312], []), (61, .ior, 1, [], []), (62, .iastore, 1, [], []), (63, .iinc 5 1, 3, [], [])],
  [(66, .goto (-63), 3, [], []), (69, .return_, 1, [], [])]]
def co13 : List (List (Nat × MC)) := [[(0, .iload_n 1, 1, [], []), (1, .ifCond .eq 16, 3, [], []), (4, .aload_n 0, 1, [], []), (5, .iload_n 1, 1, [], []), (6, .iconst (-1), 1, [], []), (7, .invokevirtual 50, 3, [1, 14, 3, 2, 334, 336, 4, 29, 337], []), (10, .ifCond .eq 7, 3, [], []), (13, .iconst 1, 1, [], []), (14, .goto 4, 3, [], [])],
  [(17, .iconst 0, 1, [], []), (18, .ireturn, 1, [1], [])]]
def co14 : List (List (Nat × MC)) := [[(0, .aload_n 0, 1, [], []), (1, .getfield 9, 3, [2, 0, 1, 152], []), (4, .iload_n 1, 1, [], []), (5, .iaload, 1, [], []), (6, .iload_n 2, 1, [], []), (7, .iand, 1, [], []), (8, .iload_n 1, 1, [], []), (9, .invokestatic 39, 3, [4, 1, 95, 1, 2, 311, 24, 312], []), (12, .iconst (-1), 1, [], []), (13, .ixor, 1, [], []), (14, .iand, 1, [], []), (15, .iconst 0, 1, [], [])],
  [(16, .invokestatic 39, 3, [4, 1, 95, 1, 2, 311, 24, 312], []), (19, .iconst (-1), 1, [], []), (20, .ixor, 1, [], []), (21, .iand, 1, [], []), (22, .ifCond .ne 7, 3, [], []), (25, .iconst 1, 1, [], []), (26, .goto 4, 3, [], []), (29, .iconst 0, 1, [], []), (30, .ireturn, 1, [1], [])]]
def co15 : List (List (Nat × MC)) := [[(0, .aload_n 0, 1, [], []), (1, .getfield 21, 3, [2, 3, 1, 158], []), (4, .iload_n 1, 1, [], []), (5, .iaload, 1, [], []), (6, .istore_n 2, 1, [], []), (7, .iload_n 2, 1, [], []), (8, .bipush 12, 2, [], []), (10, .if_icmp .eq 27, 3, [], []), (13, .aload_n 0, 1, [], []), (14, .getfield 9, 3, [2, 0, 1, 152], [])],
  [(17, .iload_n 1, 1, [], []), (18, .iaload, 1, [], []), (19, .aload_n 0, 1, [], []), (20, .getfield 9, 3, [2, 0, 1, 152], []), (23, .iload_n 2, 1, [], []), (24, .iaload, 1, [], []), (25, .iand, 1, [], []), (26, .iconst 0, 1, [], []), (27, .invokestatic 39, 3, [4, 1, 95, 1, 2, 311, 24, 312], []), (30, .if_icmp .ne 7, 3, [], [])],
  [(33, .iconst 1, 1, [], []), (34, .goto 4, 3, [], []), (37, .iconst 0, 1, [], []), (38, .ireturn, 1, [1], [])]]
def co16 : List (List (Nat × MC)) := [[(0, .iconst 0, 1, [], []), (1, .istore_n 1, 1, [], []), (2, .iconst 0, 1, [], []), (3, .istore_n 2, 1, [], []), (4, .iload_n 2, 1, [], []), (5, .aload_n 0, 1, [], []), (6, .getfield 30, 3, [2, 4, 0, 159], []), (9, .if_icmp .ge 24, 3, [], []), (12, .aload_n 0, 1, [], []), (13, .iload_n 2, 1, [], []), (14, .invokevirtual 53, 3, [1, 13, 2, 2, 330, 331, 332, 29, 333], [])],
  [(17, .ifCond .eq 10, 3, [], []), (20, .iload_n 1, 1, [], []), (21, .iload_n 2, 1, [], []), (22, .invokestatic 39, 3, [4, 1, 95, 1, 2, 311, 24, 312], []), (25, .ior, 1, [], []), (26, .istore_n 1, 1, [], []), (27, .iinc 2 1, 3, [], []), (30, .goto (-26), 3, [], [])],
  [(33, .iload_n 1, 1, [], []), (34, .ireturn, 1, [0], [])]]
def co17 : List (List (Nat × MC)) := [[(0, .iconst 0, 1, [], []), (1, .istore_n 2, 1, [], []), (2, .iconst 1, 1, [], []), (3, .istore_n 3, 1, [], []), (4, .iload_n 3, 1, [], []), (5, .aload_n 0, 1, [], []), (6, .getfield 30, 3, [2, 4, 0, 159], []), (9, .if_icmp .ge 34, 3, [], []), (12, .iload_n 1, 1, [], []), (13, .iload_n 3, 1, [], []), (14, .invokestatic 39, 3, [4, 1, 95, 1, 2, 311, 24, 312], [])],
  [(17, .iand, 1, [], []), (18, .ifCond .eq 19, 3, [], []), (21, .aload_n 0, 1, [], []), (22, .iload_n 3, 1, [], []), (23, .iload_n 1, 1, [], []), (24, .invokevirtual 50, 3, [1, 14, 3, 2, 334, 336, 4, 29, 337], []), (27, .ifCond .eq 10, 3, [], []), (30, .iload_n 2, 1, [], []), (31, .iload_n 3, 1, [], [])],
  [(32, .invokestatic 39, 3, [4, 1, 95, 1, 2, 311, 24, 312], []), (35, .ior, 1, [], []), (36, .istore_n 2, 1, [], []), (37, .iinc 3 1, 3, [], []), (40, .goto (-36), 3, [], []), (43, .iload_n 2, 1, [], []), (44, .ireturn, 1, [0], [])]]
def co18 : List (List (Nat × MC)) := [[(0, .iconst 0, 1, [], []), (1, .istore_n 1, 1, [], []), (2, .iconst 0, 1, [], []), (3, .istore_n 2, 1, [], []), (4, .iload_n 2, 1, [], []), (5, .aload_n 0, 1, [], []), (6, .getfield 30, 3, [2, 4, 0, 159], []), (9, .if_icmp .ge 24, 3, [], []), (12, .aload_n 0, 1, [], []), (13, .iload_n 2, 1, [], []), (14, .invokevirtual 57, 3, [1, 15, 2, 2, 342, 343, 344, 29, 345], [])],
  [(17, .ifCond .eq 10, 3, [], []), (20, .iload_n 1, 1, [], []), (21, .iload_n 2, 1, [], []), (22, .invokestatic 39, 3, [4, 1, 95, 1, 2, 311, 24, 312], []), (25, .ior, 1, [], []), (26, .istore_n 1, 1, [], []), (27, .iinc 2 1, 3, [], []), (30, .goto (-26), 3, [], [])],
  [(33, .iload_n 1, 1, [], []), (34, .ireturn, 1, [0], [])]]
def co19 : List (List (Nat × MC)) := [[(0, .iconst 0, 1, [], []), (1, .istore_n 1, 1, [], []), (2, .iconst 0, 1, [], []), (3, .istore_n 2, 1, [], []), (4, .iload_n 2, 1, [], [3]), (5, .aload_n 0, 1, [], []), (6, .getfield 30, 3, [2, 4, 0, 159], []), (9, .if_icmp .ge 44, 3, [], []), (12, .iload_n 2, 1, [], []), (13, .iconst 1, 1, [], []), (14, .iadd, 1, [], []), (15, .istore_n 3, 1, [], [])],
  [(16, .iload_n 3, 1, [], []), (17, .aload_n 0, 1, [], []), (18, .getfield 30, 3, [2, 4, 0, 159], []), (21, .if_icmp .ge 26, 3, [], []), (24, .aload_n 0, 1, [], []), (25, .getfield 18, 3, [2, 2, 1, 156], []), (28, .iload_n 2, 1, [], []), (29, .iaload, 1, [], []), (30, .iload_n 3, 1, [], []), (31, .invokestatic 39, 3, [4, 1, 95, 1, 2, 311, 24, 312], [])],
  [(34, .iand, 1, [], []), (35, .ifCond .ne 6, 3, [], []), (38, .iinc 1 1, 3, [], []), (41, .iinc 3 1, 3, [], []), (44, .goto (-28), 3, [], []), (47, .iinc 2 1, 3, [], [])],
  [(50, .goto (-46), 3, [], []), (53, .iload_n 1, 1, [], []), (54, .ireturn, 1, [0], [])]]
def co20 : List (List (Nat × MC)) := [[(0, .iconst 0, 1, [], []), (1, .istore_n 1, 1, [], []), (2, .iconst 1, 1, [], []), (3, .istore_n 2, 1, [], []), (4, .iload_n 2, 1, [], []), (5, .aload_n 0, 1, [], []), (6, .getfield 30, 3, [2, 4, 0, 159], []), (9, .invokestatic 39, 3, [4, 1, 95, 1, 2, 311, 24, 312], []), (12, .if_icmp .ge 20, 3, [], []), (15, .aload_n 0, 1, [], [])],
  [(16, .iload_n 2, 1, [], []), (17, .invokevirtual 60, 3, [1, 22, 2, 2, 322, 324, 3, 29, 325], []), (20, .ifCond .eq 6, 3, [], []), (23, .iinc 1 1, 3, [], []), (26, .iinc 2 1, 3, [], []), (29, .goto (-25), 3, [], [])],
  [(32, .iload_n 1, 1, [], []), (33, .ireturn, 1, [0], [])]]
def co21 : List (List (Nat × MC)) := [[(0, .iconst 0, 1, [], []), (1, .istore_n 2, 1, [], []), (2, .iconst 1, 1, [], []), (3, .istore_n 3, 1, [], []), (4, .iload_n 3, 1, [], []), (5, .aload_n 0, 1, [], []), (6, .getfield 30, 3, [2, 4, 0, 159], []), (9, .invokestatic 39, 3, [4, 1, 95, 1, 2, 311, 24, 312], []), (12, .if_icmp .ge 27, 3, [], []), (15, .aload_n 0, 1, [], [])],
  [(16, .iload_n 3, 1, [], []), (17, .invokevirtual 60, 3, [1, 22, 2, 2, 322, 324, 3, 29, 325], []), (20, .ifCond .eq 13, 3, [], []), (23, .iload_n 2, 1, [], []), (24, .iload_n 1, 1, [], []), (25, .if_icmp .ne 5, 3, [], []), (28, .iload_n 3, 1, [], []), (29, .ireturn, 1, [0], []), (30, .iinc 2 1, 3, [], [])],
  [(33, .iinc 3 1, 3, [], []), (36, .goto (-32), 3, [], []), (39, .iconst 0, 1, [], []), (40, .ireturn, 1, [0], [])]]
def co22 : List (List (Nat × MC)) := [[(0, .iconst (-1), 1, [], []), (1, .istore_n 2, 1, [], []), (2, .iconst 0, 1, [], []), (3, .istore_n 3, 1, [], []), (4, .iload_n 3, 1, [], []), (5, .aload_n 0, 1, [], []), (6, .getfield 30, 3, [2, 4, 0, 159], []), (9, .if_icmp .ge 27, 3, [], []), (12, .iload_n 1, 1, [], []), (13, .iload_n 3, 1, [], []), (14, .invokestatic 39, 3, [4, 1, 95, 1, 2, 311, 24, 312], [])],
  [(17, .iand, 1, [], []), (18, .ifCond .eq 12, 3, [], []), (21, .iload_n 2, 1, [], []), (22, .aload_n 0, 1, [], []), (23, .getfield 18, 3, [2, 2, 1, 156], []), (26, .iload_n 3, 1, [], []), (27, .iaload, 1, [], []), (28, .iand, 1, [], []), (29, .istore_n 2, 1, [], []), (30, .iinc 3 1, 3, [], [])],
  [(33, .goto (-29), 3, [], []), (36, .iload_n 2, 1, [], []), (37, .iload_n 1, 1, [], []), (38, .if_icmp .ne 7, 3, [], []), (41, .iconst 1, 1, [], []), (42, .goto 4, 3, [], []), (45, .iconst 0, 1, [], []), (46, .ireturn, 1, [1], [])]]
def co23 : List (List (Nat × MC)) := [[(0, .aload_n 0, 1, [], []), (1, .invokespecial 3, 3, [0, 46, 39, 40], []), (4, .aload_n 0, 1, [], []), (5, .sipush 144, 3, [], []), (8, .newarray .int, 2, [74], []), (10, .putfield 9, 3, [3, 1, 1, 68], []), (13, .aload_n 0, 1, [], []), (14, .iconst 2, 1, [], []), (15, .invokevirtual 15, 3, [0, 28, 2, 3, 47, 48, 49, 25, 50], [])],
  [(18, .return_, 1, [], [])]]
def co24 : List (List (Nat × MC)) := [[(0, .iload_n 1, 1, [], []), (1, .ifCond .lt 15, 3, [], []), (4, .iload_n 1, 1, [], []), (5, .aload_n 0, 1, [], []), (6, .getfield 19, 3, [3, 0, 0, 65], []), (9, .if_icmp .ge 7, 3, [], []), (12, .iconst 1, 1, [], []), (13, .goto 4, 3, [], [])],
  [(16, .iconst 0, 1, [], []), (17, .ireturn, 1, [1], [])]]
def co25 : List (List (Nat × MC)) := [[(0, .aload_n 0, 1, [], []), (1, .iload_n 1, 1, [], []), (2, .invokevirtual 23, 3, [1, 24, 2, 3, 59, 60, 61, 25, 62], []), (5, .ifCond .eq 25, 3, [], []), (8, .aload_n 0, 1, [], []), (9, .iload_n 2, 1, [], []), (10, .invokevirtual 23, 3, [1, 24, 2, 3, 59, 60, 61, 25, 62], []), (13, .ifCond .eq 17, 3, [], [])],
  [(16, .aload_n 0, 1, [], []), (17, .getfield 9, 3, [3, 1, 1, 68], []), (20, .iload_n 1, 1, [], []), (21, .bipush 12, 2, [], []), (23, .imul, 1, [], []), (24, .iload_n 2, 1, [], []), (25, .iadd, 1, [], []), (26, .iaload, 1, [], []), (27, .goto 5, 3, [], []), (30, .bipush 12, 2, [], [])],
  [(32, .ireturn, 1, [0], [])]]
def co26 : List (List (Nat × MC)) := [[(0, .aload_n 0, 1, [], []), (1, .iload_n 1, 1, [], []), (2, .iload_n 2, 1, [], []), (3, .invokevirtual 27, 3, [1, 25, 3, 3, 287, 273, 274, 25, 275], []), (6, .bipush 12, 2, [], []), (8, .if_icmp .eq 7, 3, [], []), (11, .iconst 1, 1, [], []), (12, .goto 4, 3, [], []), (15, .iconst 0, 1, [], [])],
  [(16, .ireturn, 1, [1], [])]]
def co27 : List (List (Nat × MC)) := [[(0, .aload_n 0, 1, [], []), (1, .iload_n 1, 1, [], []), (2, .invokevirtual 23, 3, [1, 24, 2, 3, 59, 60, 61, 25, 62], []), (5, .ifCond .eq 49, 3, [], []), (8, .aload_n 0, 1, [], []), (9, .iload_n 2, 1, [], []), (10, .invokevirtual 23, 3, [1, 24, 2, 3, 59, 60, 61, 25, 62], []), (13, .ifCond .eq 41, 3, [], [])],
  [(16, .aload_n 0, 1, [], []), (17, .iload_n 3, 1, [], []), (18, .invokevirtual 23, 3, [1, 24, 2, 3, 59, 60, 61, 25, 62], []), (21, .ifCond .ne 9, 3, [], []), (24, .iload_n 3, 1, [], []), (25, .bipush 12, 2, [], []), (27, .if_icmp .ne 27, 3, [], []), (30, .aload_n 0, 1, [], []), (31, .getfield 9, 3, [3, 1, 1, 68], [])],
  [(34, .iload_n 1, 1, [], []), (35, .bipush 12, 2, [], []), (37, .imul, 1, [], []), (38, .iload_n 2, 1, [], []), (39, .iadd, 1, [], []), (40, .iload_n 3, 1, [], []), (41, .iastore, 1, [], []), (42, .aload_n 0, 1, [], []), (43, .getfield 9, 3, [3, 1, 1, 68], []), (46, .iload_n 2, 1, [], []), (47, .bipush 12, 2, [], [])],
  [(49, .imul, 1, [], []), (50, .iload_n 1, 1, [], []), (51, .iadd, 1, [], []), (52, .iload_n 3, 1, [], []), (53, .iastore, 1, [], []), (54, .return_, 1, [], [])]]
def co28 : List (List (Nat × MC)) := [[(0, .iconst 0, 1, [], []), (1, .istore_n 2, 1, [], []), (2, .iload_n 2, 1, [], []), (3, .aload_n 0, 1, [], []), (4, .getfield 9, 3, [3, 1, 1, 68], []), (7, .arraylength, 1, [], []), (8, .if_icmp .ge 17, 3, [], []), (11, .aload_n 0, 1, [], []), (12, .getfield 9, 3, [3, 1, 1, 68], []), (15, .iload_n 2, 1, [], [])],
  [(16, .bipush 12, 2, [], []), (18, .iastore, 1, [], []), (19, .iinc 2 1, 3, [], []), (22, .goto (-20), 3, [], []), (25, .aload_n 0, 1, [], []), (26, .iconst 0, 1, [], []), (27, .putfield 19, 3, [3, 0, 0, 65], []), (30, .aload_n 0, 1, [], []), (31, .iload_n 1, 1, [], [])],
  [(32, .invokevirtual 31, 3, [0, 29, 2, 3, 51, 52, 53, 25, 54], []), (35, .return_, 1, [], [])]]
def co29 : List (List (Nat × MC)) := [[(0, .iconst 0, 1, [], []), (1, .istore_n 2, 1, [], []), (2, .iload_n 2, 1, [], []), (3, .iload_n 1, 1, [], []), (4, .if_icmp .ge 45, 3, [], []), (7, .aload_n 0, 1, [], []), (8, .getfield 19, 3, [3, 0, 0, 65], []), (11, .bipush 12, 2, [], []), (13, .if_icmp .ge 36, 3, [], [])],
  [(16, .aload_n 0, 1, [], []), (17, .dup, 1, [], []), (18, .getfield 19, 3, [3, 0, 0, 65], []), (21, .iconst 1, 1, [], []), (22, .iadd, 1, [], []), (23, .putfield 19, 3, [3, 0, 0, 65], []), (26, .aload_n 0, 1, [], []), (27, .iconst 0, 1, [], []), (28, .aload_n 0, 1, [], []), (29, .getfield 19, 3, [3, 0, 0, 65], [])],
  [(32, .iconst 1, 1, [], []), (33, .isub, 1, [], []), (34, .aload_n 0, 1, [], []), (35, .getfield 19, 3, [3, 0, 0, 65], []), (38, .iconst 1, 1, [], []), (39, .isub, 1, [], []), (40, .invokevirtual 34, 3, [0, 27, 4, 3, 55, 56, 57, 25, 58], []), (43, .iinc 2 1, 3, [], []), (46, .goto (-44), 3, [], [])],
  [(49, .return_, 1, [], [])]]
def co30 : List (List (Nat × MC)) := [[(0, .aload_n 0, 1, [], []), (1, .aload_n 1, 1, [], []), (2, .getfield 19, 3, [3, 0, 0, 65], []), (5, .putfield 19, 3, [3, 0, 0, 65], []), (8, .aload_n 1, 1, [], []), (9, .getfield 9, 3, [3, 1, 1, 68], []), (12, .iconst 0, 1, [], []), (13, .aload_n 0, 1, [], []), (14, .getfield 9, 3, [3, 1, 1, 68], [])],
  [(17, .iconst 0, 1, [], []), (18, .aload_n 0, 1, [], []), (19, .getfield 9, 3, [3, 1, 1, 68], []), (22, .arraylength, 1, [], []), (23, .invokestatic 38, 3, [3, 257, 259, 258, 31], []), (26, .return_, 1, [], [])]]
def co31 : List (List (Nat × MC)) := [[(0, .iconst 1, 1, [], []), (1, .istore_n 3, 1, [], []), (2, .iload_n 3, 1, [], [4, 5]), (3, .aload_n 1, 1, [], []), (4, .getfield 19, 3, [3, 0, 0, 65], []), (7, .if_icmp .ge 66, 3, [], []), (10, .iload_n 3, 1, [], []), (11, .istore 4, 2, [], []), (13, .iload 4, 2, [], [5]), (15, .aload_n 1, 1, [], [])],
  [(16, .getfield 19, 3, [3, 0, 0, 65], []), (19, .if_icmp .ge 48, 3, [], []), (22, .aload_n 1, 1, [], []), (23, .iload_n 3, 1, [], []), (24, .iload 4, 2, [], []), (26, .invokevirtual 27, 3, [1, 25, 3, 3, 287, 273, 274, 25, 275], []), (29, .istore 5, 2, [], []), (31, .iload 5, 2, [], [])],
  [(33, .bipush 12, 2, [], []), (35, .if_icmp .eq 26, 3, [], []), (38, .aload_n 2, 1, [], []), (39, .iload 5, 2, [], []), (41, .iaload, 1, [], []), (42, .iconst (-1), 1, [], []), (43, .if_icmp .eq 18, 3, [], []), (46, .aload_n 0, 1, [], []), (47, .aload_n 2, 1, [], [])],
  [(48, .iload_n 3, 1, [], []), (49, .iaload, 1, [], []), (50, .aload_n 2, 1, [], []), (51, .iload 4, 2, [], []), (53, .iaload, 1, [], []), (54, .aload_n 2, 1, [], []), (55, .iload 5, 2, [], []), (57, .iaload, 1, [], []), (58, .invokevirtual 34, 3, [0, 27, 4, 3, 55, 56, 57, 25, 58], []), (61, .iinc 4 1, 3, [], [])],
  [(64, .goto (-51), 3, [], []), (67, .iinc 3 1, 3, [], []), (70, .goto (-68), 3, [], []), (73, .return_, 1, [], [])]]
def co32 : List (List (Nat × MC)) := [[(0, .aload_n 0, 1, [], []), (1, .getfield 19, 3, [3, 0, 0, 65], []), (4, .iconst 1, 1, [], []), (5, .isub, 1, [], []), (6, .istore_n 2, 1, [], []), (7, .aload_n 0, 1, [], []), (8, .iload_n 1, 1, [], []), (9, .iconst 1, 1, [], []), (10, .isub, 1, [], []), (11, .invokevirtual 31, 3, [0, 29, 2, 3, 51, 52, 53, 25, 54], []), (14, .iconst 1, 1, [], []), (15, .istore_n 3, 1, [], [])],
  [(16, .iload_n 3, 1, [], [4, 5]), (17, .iload_n 1, 1, [], []), (18, .if_icmp .ge 59, 3, [], []), (21, .iload_n 3, 1, [], []), (22, .istore 4, 2, [], []), (24, .iload_n 3, 1, [], [5]), (25, .iload 4, 2, [], []), (27, .iadd, 1, [], []), (28, .iload_n 1, 1, [], []), (29, .if_icmp .gt 42, 3, [], [])],
  [(32, .iload_n 3, 1, [], []), (33, .iload 4, 2, [], []), (35, .iadd, 1, [], []), (36, .iload_n 1, 1, [], []), (37, .if_icmp .ne 7, 3, [], []), (40, .iconst 1, 1, [], []), (41, .goto 9, 3, [], []), (44, .iload_n 2, 1, [], []), (45, .iload_n 3, 1, [], []), (46, .iadd, 1, [], []), (47, .iload 4, 2, [], [])],
  [(49, .iadd, 1, [], []), (50, .istore 5, 2, [], [5]), (52, .aload_n 0, 1, [], []), (53, .iload_n 2, 1, [], []), (54, .iload_n 3, 1, [], []), (55, .iadd, 1, [], []), (56, .iload_n 2, 1, [], []), (57, .iload 4, 2, [], []), (59, .iadd, 1, [], []), (60, .iload 5, 2, [], []), (62, .invokevirtual 34, 3, [0, 27, 4, 3, 55, 56, 57, 25, 58], [])],
  [(65, .iinc 4 1, 3, [], []), (68, .goto (-44), 3, [], []), (71, .iinc 3 1, 3, [], []), (74, .goto (-58), 3, [], []), (77, .return_, 1, [], [])]]
def co33 : List (List (Nat × MC)) := [[(0, .iconst 1, 1, [], []), (1, .iload_n 1, 1, [], []), (2, .ishl, 1, [], []), (3, .iconst 1, 1, [], []), (4, .isub, 1, [], []), (5, .istore_n 2, 1, [], []), (6, .aload_n 0, 1, [], []), (7, .iload_n 2, 1, [], []), (8, .iconst 1, 1, [], []), (9, .iadd, 1, [], []), (10, .invokevirtual 15, 3, [0, 28, 2, 3, 47, 48, 49, 25, 50], []), (13, .iconst 1, 1, [], []), (14, .istore_n 3, 1, [], []), (15, .iload_n 3, 1, [], [1, 4])],
  [(16, .iload_n 2, 1, [], []), (17, .if_icmp .gt 54, 3, [], []), (20, .iload_n 3, 1, [], []), (21, .istore 4, 2, [], []), (23, .iload 4, 2, [], [1]), (25, .iload_n 2, 1, [], []), (26, .if_icmp .gt 39, 3, [], []), (29, .iload_n 3, 1, [], []), (30, .iload 4, 2, [], [])],
  [(32, .iand, 1, [], []), (33, .ifCond .ne 26, 3, [], []), (36, .aload_n 0, 1, [], []), (37, .iload_n 3, 1, [], []), (38, .iload_n 2, 1, [], []), (39, .invokestatic 44, 3, [0, 1, 34, 2, 383, 384, 25, 385], []), (42, .iload 4, 2, [], []), (44, .iload_n 2, 1, [], []), (45, .invokestatic 44, 3, [0, 1, 34, 2, 383, 384, 25, 385], [])],
  [(48, .iload_n 3, 1, [], []), (49, .iload 4, 2, [], []), (51, .ior, 1, [], []), (52, .iload_n 2, 1, [], []), (53, .invokestatic 44, 3, [0, 1, 34, 2, 383, 384, 25, 385], []), (56, .invokevirtual 34, 3, [0, 27, 4, 3, 55, 56, 57, 25, 58], []), (59, .iinc 4 1, 3, [], []), (62, .goto (-39), 3, [], [])],
  [(65, .iinc 3 1, 3, [], []), (68, .goto (-53), 3, [], []), (71, .return_, 1, [], [])]]
def co34 : List (List (Nat × MC)) := [[(0, .iload_n 0, 1, [], []), (1, .iload_n 1, 1, [], []), (2, .if_icmp .ne 7, 3, [], []), (5, .iconst 1, 1, [], []), (6, .goto 6, 3, [], []), (9, .iload_n 0, 1, [], []), (10, .iconst 1, 1, [], []), (11, .iadd, 1, [], []), (12, .ireturn, 1, [0], [])]]
def co35 : List (List (Nat × MC)) := [[(0, .aload_n 1, 1, [], []), (1, .getfield 19, 3, [3, 0, 0, 65], []), (4, .istore_n 2, 1, [], []), (5, .aload_n 0, 1, [], []), (6, .iconst 2, 1, [], []), (7, .iload_n 2, 1, [], []), (8, .imul, 1, [], []), (9, .invokevirtual 15, 3, [0, 28, 2, 3, 47, 48, 49, 25, 50], []), (12, .iconst 0, 1, [], []), (13, .istore_n 3, 1, [], []), (14, .iload_n 3, 1, [], [4, 5]), (15, .iload_n 2, 1, [], [])],
  [(16, .if_icmp .ge 78, 3, [], []), (19, .iconst 0, 1, [], []), (20, .istore 4, 2, [], []), (22, .iload 4, 2, [], [5]), (24, .iload_n 2, 1, [], []), (25, .if_icmp .ge 63, 3, [], []), (28, .aload_n 1, 1, [], []), (29, .iload_n 3, 1, [], []), (30, .iload 4, 2, [], [])],
  [(32, .invokevirtual 27, 3, [1, 25, 3, 3, 287, 273, 274, 25, 275], []), (35, .istore 5, 2, [], []), (37, .iload 5, 2, [], []), (39, .bipush 12, 2, [], []), (41, .if_icmp .eq 41, 3, [], []), (44, .aload_n 0, 1, [], []), (45, .iload_n 3, 1, [], []), (46, .invokestatic 47, 3, [0, 1, 36, 1, 415, 416, 25, 417], [])],
  [(49, .iload 4, 2, [], []), (51, .invokestatic 47, 3, [0, 1, 36, 1, 415, 416, 25, 417], []), (54, .iload 5, 2, [], []), (56, .invokestatic 47, 3, [0, 1, 36, 1, 415, 416, 25, 417], []), (59, .invokevirtual 34, 3, [0, 27, 4, 3, 55, 56, 57, 25, 58], []), (62, .aload_n 0, 1, [], []), (63, .iload_n 3, 1, [], [])],
  [(64, .invokestatic 47, 3, [0, 1, 36, 1, 415, 416, 25, 417], []), (67, .iload 4, 2, [], []), (69, .iload_n 2, 1, [], []), (70, .invokestatic 51, 3, [0, 1, 37, 2, 418, 419, 25, 420], []), (73, .iload 5, 2, [], []), (75, .iload_n 2, 1, [], []), (76, .invokestatic 51, 3, [0, 1, 37, 2, 418, 419, 25, 420], []), (79, .invokevirtual 34, 3, [0, 27, 4, 3, 55, 56, 57, 25, 58], [])],
  [(82, .iinc 4 1, 3, [], []), (85, .goto (-63), 3, [], []), (88, .iinc 3 1, 3, [], []), (91, .goto (-77), 3, [], []), (94, .return_, 1, [], [])]]
def co36 : List (List (Nat × MC)) := [[(0, .iload_n 0, 1, [], []), (1, .ifCond .ne 7, 3, [], []), (4, .iconst 0, 1, [], []), (5, .goto 6, 3, [], []), (8, .iload_n 0, 1, [], []), (9, .iconst 1, 1, [], []), (10, .iadd, 1, [], []), (11, .ireturn, 1, [0], [])]]
def co37 : List (List (Nat × MC)) := [[(0, .iload_n 0, 1, [], []), (1, .iconst 1, 1, [], []), (2, .if_icmp .ne 5, 3, [], []), (5, .iconst 1, 1, [], []), (6, .ireturn, 1, [0], []), (7, .iload_n 0, 1, [], []), (8, .ifCond .ne 9, 3, [], []), (11, .iload_n 1, 1, [], []), (12, .iconst 1, 1, [], []), (13, .iadd, 1, [], []), (14, .goto 6, 3, [], [])],
  [(17, .iload_n 1, 1, [], []), (18, .iload_n 0, 1, [], []), (19, .iadd, 1, [], []), (20, .ireturn, 1, [0], [])]]
def co38 : List (List (Nat × MC)) := [[(0, .iconst 0, 1, [], []), (1, .istore_n 3, 1, [], []), (2, .iload_n 3, 1, [], []), (3, .aload_n 0, 1, [], []), (4, .getfield 19, 3, [3, 0, 0, 65], []), (7, .if_icmp .ge 21, 3, [], []), (10, .aload_n 0, 1, [], []), (11, .iload_n 1, 1, [], []), (12, .iload_n 3, 1, [], []), (13, .invokevirtual 27, 3, [1, 25, 3, 3, 287, 273, 274, 25, 275], [])],
  [(16, .iload_n 2, 1, [], []), (17, .if_icmp .ne 5, 3, [], []), (20, .iload_n 3, 1, [], []), (21, .ireturn, 1, [0], []), (22, .iinc 3 1, 3, [], []), (25, .goto (-23), 3, [], []), (28, .bipush 12, 2, [], []), (30, .ireturn, 1, [0], [])]]
def co39 : List (List (Nat × MC)) := [[(0, .aload_n 0, 1, [], []), (1, .iload_n 1, 1, [], []), (2, .iconst 1, 1, [], []), (3, .invokevirtual 54, 3, [1, 38, 3, 3, 305, 306, 307, 25, 308], []), (6, .ireturn, 1, [0], [])]]
def co40 : List (List (Nat × MC)) := [[(0, .iconst 0, 1, [], []), (1, .istore_n 2, 1, [], []), (2, .iconst 0, 1, [], []), (3, .istore_n 3, 1, [], []), (4, .iload_n 3, 1, [], []), (5, .aload_n 0, 1, [], []), (6, .getfield 19, 3, [3, 0, 0, 65], []), (9, .if_icmp .ge 25, 3, [], []), (12, .aload_n 0, 1, [], []), (13, .iload_n 1, 1, [], []), (14, .iload_n 3, 1, [], []), (15, .invokevirtual 57, 3, [1, 26, 3, 3, 296, 284, 285, 25, 286], [])],
  [(18, .ifCond .eq 10, 3, [], []), (21, .iload_n 2, 1, [], []), (22, .iload_n 3, 1, [], []), (23, .invokestatic 61, 3, [4, 1, 95, 1, 1, 311, 24, 312], []), (26, .ior, 1, [], []), (27, .istore_n 2, 1, [], []), (28, .iinc 3 1, 3, [], []), (31, .goto (-27), 3, [], [])],
  [(34, .iload_n 2, 1, [], []), (35, .ireturn, 1, [0], [])]]
def co41 : List (List (Nat × MC)) := [[(0, .iconst 0, 1, [], []), (1, .istore_n 1, 1, [], []), (2, .iconst 1, 1, [], []), (3, .istore_n 2, 1, [], []), (4, .iload_n 2, 1, [], [3]), (5, .aload_n 0, 1, [], []), (6, .getfield 19, 3, [3, 0, 0, 65], []), (9, .if_icmp .ge 37, 3, [], []), (12, .iload_n 2, 1, [], []), (13, .istore_n 3, 1, [], []), (14, .iload_n 3, 1, [], []), (15, .aload_n 0, 1, [], [])],
  [(16, .getfield 19, 3, [3, 0, 0, 65], []), (19, .if_icmp .ge 21, 3, [], []), (22, .aload_n 0, 1, [], []), (23, .iload_n 2, 1, [], []), (24, .iload_n 3, 1, [], []), (25, .invokevirtual 57, 3, [1, 26, 3, 3, 296, 284, 285, 25, 286], []), (28, .ifCond .eq 6, 3, [], []), (31, .iinc 1 1, 3, [], [])],
  [(34, .iinc 3 1, 3, [], []), (37, .goto (-23), 3, [], []), (40, .iinc 2 1, 3, [], []), (43, .goto (-39), 3, [], []), (46, .iload_n 1, 1, [], []), (47, .ireturn, 1, [0], [])]]
def co42 : List (List (Nat × MC)) := [[(0, .iload_n 1, 1, [], []), (1, .invokestatic 61, 3, [4, 1, 95, 1, 1, 311, 24, 312], []), (4, .iload_n 2, 1, [], []), (5, .invokestatic 61, 3, [4, 1, 95, 1, 1, 311, 24, 312], []), (8, .ior, 1, [], []), (9, .istore_n 3, 1, [], []), (10, .iconst 0, 1, [], []), (11, .istore 4, 2, [], []), (13, .iconst 1, 1, [], []), (14, .istore 5, 2, [], [])],
  [(16, .iload 5, 2, [], [1, 2, 6, 7]), (18, .aload_n 0, 1, [], []), (19, .getfield 19, 3, [3, 0, 0, 65], []), (22, .if_icmp .ge 70, 3, [], []), (25, .iload 5, 2, [], []), (27, .istore 6, 2, [], []), (29, .iload 6, 2, [], [1, 2, 7]), (31, .aload_n 0, 1, [], [])],
  [(32, .getfield 19, 3, [3, 0, 0, 65], []), (35, .if_icmp .ge 51, 3, [], []), (38, .aload_n 0, 1, [], []), (39, .iload 5, 2, [], []), (41, .iload 6, 2, [], []), (43, .invokevirtual 27, 3, [1, 25, 3, 3, 287, 273, 274, 25, 275], []), (46, .istore 7, 2, [], [])],
  [(48, .iload 7, 2, [], []), (50, .bipush 12, 2, [], []), (52, .if_icmp .eq 28, 3, [], []), (55, .iload 5, 2, [], []), (57, .invokestatic 61, 3, [4, 1, 95, 1, 1, 311, 24, 312], []), (60, .iload 6, 2, [], []), (62, .invokestatic 61, 3, [4, 1, 95, 1, 1, 311, 24, 312], [])],
  [(65, .ior, 1, [], []), (66, .iload 7, 2, [], []), (68, .invokestatic 61, 3, [4, 1, 95, 1, 1, 311, 24, 312], []), (71, .ior, 1, [], []), (72, .iload_n 3, 1, [], []), (73, .iand, 1, [], []), (74, .ifCond .eq 6, 3, [], []), (77, .iinc 4 1, 3, [], [])],
  [(80, .iinc 6 1, 3, [], []), (83, .goto (-54), 3, [], []), (86, .iinc 5 1, 3, [], []), (89, .goto (-73), 3, [], []), (92, .iload 4, 2, [], []), (94, .ireturn, 1, [0], [])]]
def co43 : List (List (Nat × MC)) := [[(0, .aload_n 0, 1, [], []), (1, .invokespecial 5, 3, [0, 97, 39, 40], []), (4, .aload_n 0, 1, [], []), (5, .bipush 60, 2, [], []), (7, .newarray .char, 2, [118], []), (9, .putfield 11, 3, [4, 1, 1, 99], []), (12, .aload_n 0, 1, [], []), (13, .bipush 15, 2, [], []), (15, .newarray .int, 2, [74], [])],
  [(17, .putfield 15, 3, [4, 4, 1, 100], []), (20, .aload_n 0, 1, [], []), (21, .bipush 15, 2, [], []), (23, .newarray .int, 2, [74], []), (25, .putfield 19, 3, [4, 5, 1, 101], []), (28, .aload_n 0, 1, [], []), (29, .bipush 15, 2, [], []), (31, .newarray .int, 2, [74], [])],
  [(33, .putfield 22, 3, [4, 6, 1, 102], []), (36, .return_, 1, [], [])]]
def co53 : List (List (Nat × MC)) := [[(0, .aload_n 0, 1, [], []), (1, .invokespecial 3, 3, [0, 176, 39, 40], []), (4, .aload_n 0, 1, [], []), (5, .bipush 12, 2, [], []), (7, .newarray .int, 2, [74], []), (9, .putfield 9, 3, [5, 1, 1, 179], []), (12, .aload_n 0, 1, [], []), (13, .bipush 12, 2, [], []), (15, .newarray .int, 2, [74], [])],
  [(17, .putfield 15, 3, [5, 2, 1, 181], []), (20, .aload_n 0, 1, [], []), (21, .bipush 12, 2, [], []), (23, .newarray .int, 2, [74], []), (25, .putfield 18, 3, [5, 3, 1, 183], []), (28, .aload_n 0, 1, [], []), (29, .bipush 66, 2, [], []), (31, .newarray .int, 2, [74], [])],
  [(33, .putfield 21, 3, [5, 6, 1, 187], []), (36, .aload_n 0, 1, [], []), (37, .bipush 66, 2, [], []), (39, .newarray .int, 2, [74], []), (41, .putfield 24, 3, [5, 7, 1, 188], []), (44, .aload_n 0, 1, [], []), (45, .bipush 66, 2, [], []), (47, .newarray .int, 2, [74], [])],
  [(49, .putfield 27, 3, [5, 8, 1, 189], []), (52, .aload_n 0, 1, [], []), (53, .sipush 144, 3, [], []), (56, .newarray .int, 2, [74], []), (58, .putfield 30, 3, [5, 9, 1, 190], []), (61, .aload_n 0, 1, [], []), (62, .sipush 144, 3, [], [])],
  [(65, .newarray .int, 2, [74], []), (67, .putfield 33, 3, [5, 10, 1, 191], []), (70, .aload_n 0, 1, [], []), (71, .bipush 12, 2, [], []), (73, .newarray .int, 2, [74], []), (75, .putfield 36, 3, [5, 11, 1, 192], []), (78, .return_, 1, [], [])]]
def co54 : List (List (Nat × MC)) := [[(0, .aload_n 0, 1, [], []), (1, .aload_n 1, 1, [], []), (2, .getfield 39, 3, [3, 0, 0, 64], []), (5, .putfield 45, 3, [5, 4, 0, 185], []), (8, .aload_n 0, 1, [], []), (9, .aload_n 1, 1, [], []), (10, .invokevirtual 46, 3, [0, 55, 2, 5, 516, 518, 7, 30, 519], []), (13, .aload_n 0, 1, [], []), (14, .iload_n 2, 1, [], []), (15, .invokevirtual 50, 3, [0, 56, 2, 5, 521, 523, 8, 30, 524], [])],
  [(18, .aload_n 0, 1, [], []), (19, .aload_n 0, 1, [], []), (20, .iconst 0, 1, [], []), (21, .invokevirtual 54, 3, [1, 57, 2, 5, 525, 527, 9, 30, 528], []), (24, .ifCond .eq 7, 3, [], []), (27, .iconst 1, 1, [], []), (28, .goto 4, 3, [], []), (31, .iconst 0, 1, [], [])],
  [(32, .putfield 58, 3, [5, 0, 0, 177], [1, 3]), (35, .aload_n 0, 1, [], []), (36, .getfield 58, 3, [5, 0, 0, 177], []), (39, .ifCond .ne 4, 3, [], []), (42, .return_, 1, [], []), (43, .aload_n 0, 1, [], []), (44, .invokevirtual 61, 3, [0, 62, 1, 5, 541, 543, 13, 30, 544], []), (47, .iconst 0, 1, [], [])],
  [(48, .istore_n 3, 1, [], []), (49, .iload_n 3, 1, [], [1]), (50, .aload_n 0, 1, [], []), (51, .getfield 45, 3, [5, 4, 0, 185], []), (54, .if_icmp .ge 15, 3, [], []), (57, .aload_n 0, 1, [], []), (58, .iload_n 3, 1, [], []), (59, .iload_n 2, 1, [], []), (60, .invokevirtual 64, 3, [0, 64, 3, 5, 556, 558, 16, 30, 559], []), (63, .iinc 3 1, 3, [], [])],
  [(66, .goto (-17), 3, [], []), (69, .iconst 0, 1, [], []), (70, .istore_n 3, 1, [], []), (71, .iload_n 3, 1, [], [1, 2]), (72, .aload_n 0, 1, [], []), (73, .getfield 45, 3, [5, 4, 0, 185], []), (76, .if_icmp .ge 62, 3, [], []), (79, .aload_n 0, 1, [], [])],
  [(80, .getfield 58, 3, [5, 0, 0, 177], []), (83, .ifCond .le 55, 3, [], []), (86, .aload_n 0, 1, [], []), (87, .getfield 36, 3, [5, 11, 1, 192], []), (90, .iload_n 3, 1, [], []), (91, .iaload, 1, [], []), (92, .iload_n 3, 1, [], []), (93, .if_icmp .ne 39, 3, [], [])],
  [(96, .aload_n 0, 1, [], []), (97, .iconst 0, 1, [], []), (98, .putfield 68, 3, [5, 12, 0, 193], []), (101, .aload_n 0, 1, [], []), (102, .iload_n 3, 1, [], []), (103, .iconst 0, 1, [], []), (104, .invokevirtual 71, 3, [0, 65, 3, 5, 560, 562, 17, 30, 563], []), (107, .aload_n 0, 1, [], []), (108, .sipush 1000, 3, [], []), (111, .aload_n 0, 1, [], [])],
  [(112, .getfield 58, 3, [5, 0, 0, 177], []), (115, .sipush 1000, 3, [], []), (118, .aload_n 0, 1, [], []), (119, .getfield 68, 3, [5, 12, 0, 193], []), (122, .invokestatic 74, 3, [2, 553, 554, 32, 555], []), (125, .imul, 1, [], []), (126, .invokestatic 74, 3, [2, 553, 554, 32, 555], [])],
  [(129, .putfield 58, 3, [5, 0, 0, 177], []), (132, .iinc 3 1, 3, [], []), (135, .goto (-64), 3, [], []), (138, .return_, 1, [], [])]]
def co55 : List (List (Nat × MC)) := [[(0, .aload_n 0, 1, [], []), (1, .iconst 0, 1, [], []), (2, .putfield 80, 3, [5, 5, 0, 186], []), (5, .iconst 1, 1, [], []), (6, .istore_n 2, 1, [], []), (7, .iload_n 2, 1, [], [3, 4]), (8, .aload_n 0, 1, [], []), (9, .getfield 45, 3, [5, 4, 0, 185], []), (12, .if_icmp .ge 90, 3, [], []), (15, .iload_n 2, 1, [], [])],
  [(16, .istore_n 3, 1, [], []), (17, .iload_n 3, 1, [], [4]), (18, .aload_n 0, 1, [], []), (19, .getfield 45, 3, [5, 4, 0, 185], []), (22, .if_icmp .ge 74, 3, [], []), (25, .aload_n 1, 1, [], []), (26, .iload_n 2, 1, [], []), (27, .iload_n 3, 1, [], []), (28, .invokevirtual 83, 3, [1, 25, 3, 3, 520, 273, 274, 25, 275], []), (31, .istore 4, 2, [], [])],
  [(33, .iload 4, 2, [], []), (35, .bipush 12, 2, [], []), (37, .if_icmp .eq 53, 3, [], []), (40, .aload_n 0, 1, [], []), (41, .getfield 80, 3, [5, 5, 0, 186], []), (44, .bipush 66, 2, [], []), (46, .if_icmp .ge 44, 3, [], [])],
  [(49, .aload_n 0, 1, [], []), (50, .getfield 21, 3, [5, 6, 1, 187], []), (53, .aload_n 0, 1, [], []), (54, .getfield 80, 3, [5, 5, 0, 186], []), (57, .iload_n 2, 1, [], []), (58, .iastore, 1, [], []), (59, .aload_n 0, 1, [], []), (60, .getfield 24, 3, [5, 7, 1, 188], []), (63, .aload_n 0, 1, [], [])],
  [(64, .getfield 80, 3, [5, 5, 0, 186], []), (67, .iload_n 3, 1, [], []), (68, .iastore, 1, [], []), (69, .aload_n 0, 1, [], []), (70, .getfield 27, 3, [5, 8, 1, 189], []), (73, .aload_n 0, 1, [], []), (74, .getfield 80, 3, [5, 5, 0, 186], []), (77, .iload 4, 2, [], []), (79, .iastore, 1, [], [])],
  [(80, .aload_n 0, 1, [], []), (81, .dup, 1, [], []), (82, .getfield 80, 3, [5, 5, 0, 186], []), (85, .iconst 1, 1, [], []), (86, .iadd, 1, [], []), (87, .putfield 80, 3, [5, 5, 0, 186], []), (90, .iinc 3 1, 3, [], []), (93, .goto (-76), 3, [], [])],
  [(96, .iinc 2 1, 3, [], []), (99, .goto (-92), 3, [], []), (102, .return_, 1, [], [])]]
def co56 : List (List (Nat × MC)) := [[(0, .iconst 0, 1, [], []), (1, .istore_n 2, 1, [], []), (2, .iload_n 2, 1, [], []), (3, .aload_n 0, 1, [], []), (4, .getfield 45, 3, [5, 4, 0, 185], []), (7, .if_icmp .ge 23, 3, [], []), (10, .aload_n 0, 1, [], []), (11, .getfield 30, 3, [5, 9, 1, 190], []), (14, .iload_n 2, 1, [], []), (15, .iconst 0, 1, [], [])],
  [(16, .iastore, 1, [], []), (17, .aload_n 0, 1, [], []), (18, .getfield 33, 3, [5, 10, 1, 191], []), (21, .iload_n 2, 1, [], []), (22, .iload_n 1, 1, [], []), (23, .iastore, 1, [], []), (24, .iinc 2 1, 3, [], []), (27, .goto (-25), 3, [], []), (30, .aload_n 0, 1, [], []), (31, .getfield 33, 3, [5, 10, 1, 191], [])],
  [(34, .iconst 0, 1, [], []), (35, .iconst 0, 1, [], []), (36, .iastore, 1, [], []), (37, .aload_n 0, 1, [], []), (38, .getfield 30, 3, [5, 9, 1, 190], []), (41, .iconst 1, 1, [], []), (42, .iload_n 1, 1, [], []), (43, .iastore, 1, [], []), (44, .iconst 0, 1, [], []), (45, .istore_n 2, 1, [], []), (46, .iload_n 2, 1, [], [1]), (47, .aload_n 0, 1, [], [])],
  [(48, .getfield 80, 3, [5, 5, 0, 186], []), (51, .if_icmp .ge 63, 3, [], []), (54, .aload_n 0, 1, [], []), (55, .getfield 27, 3, [5, 8, 1, 189], []), (58, .iload_n 2, 1, [], []), (59, .iaload, 1, [], []), (60, .aload_n 0, 1, [], []), (61, .getfield 21, 3, [5, 6, 1, 187], [])],
  [(64, .iload_n 2, 1, [], []), (65, .iaload, 1, [], []), (66, .if_icmp .ne 15, 3, [], []), (69, .aload_n 0, 1, [], []), (70, .getfield 33, 3, [5, 10, 1, 191], []), (73, .aload_n 0, 1, [], []), (74, .getfield 24, 3, [5, 7, 1, 188], []), (77, .iload_n 2, 1, [], []), (78, .iaload, 1, [], []), (79, .iconst 0, 1, [], [])],
  [(80, .iastore, 1, [], []), (81, .aload_n 0, 1, [], [1]), (82, .getfield 27, 3, [5, 8, 1, 189], []), (85, .iload_n 2, 1, [], []), (86, .iaload, 1, [], []), (87, .aload_n 0, 1, [], []), (88, .getfield 24, 3, [5, 7, 1, 188], []), (91, .iload_n 2, 1, [], []), (92, .iaload, 1, [], []), (93, .if_icmp .ne 15, 3, [], [])],
  [(96, .aload_n 0, 1, [], []), (97, .getfield 33, 3, [5, 10, 1, 191], []), (100, .aload_n 0, 1, [], []), (101, .getfield 21, 3, [5, 6, 1, 187], []), (104, .iload_n 2, 1, [], []), (105, .iaload, 1, [], []), (106, .iconst 0, 1, [], []), (107, .iastore, 1, [], []), (108, .iinc 2 1, 3, [], []), (111, .goto (-65), 3, [], [])],
  [(114, .return_, 1, [], [])]]
def co57 : List (List (Nat × MC)) := [[(0, .iload_n 1, 1, [], []), (1, .bipush 12, 2, [], []), (3, .imul, 1, [], []), (4, .istore_n 2, 1, [], []), (5, .iconst 0, 1, [], []), (6, .istore_n 3, 1, [], []), (7, .iload_n 3, 1, [], [1, 4, 5, 6, 7, 8]), (8, .aload_n 0, 1, [], []), (9, .getfield 45, 3, [5, 4, 0, 185], []), (12, .if_icmp .ge 21, 3, [], []), (15, .aload_n 0, 1, [], [])],
  [(16, .iload_n 2, 1, [], []), (17, .iload_n 3, 1, [], []), (18, .iadd, 1, [], []), (19, .invokevirtual 86, 3, [1, 60, 2, 5, 529, 531, 10, 30, 532], []), (22, .ifCond .eq 5, 3, [], []), (25, .iconst 0, 1, [], []), (26, .ireturn, 1, [1], []), (27, .iinc 3 1, 3, [], []), (30, .goto (-23), 3, [], [])],
  [(33, .iconst 1, 1, [], []), (34, .istore_n 3, 1, [], []), (35, .iconst 0, 1, [], []), (36, .istore 4, 2, [], []), (38, .iload 4, 2, [], [1, 5, 6, 7, 8]), (40, .bipush 100, 2, [], []), (42, .if_icmp .ge 110, 3, [], []), (45, .iload_n 3, 1, [], []), (46, .ifCond .eq 106, 3, [], [])],
  [(49, .iconst 0, 1, [], []), (50, .istore_n 3, 1, [], []), (51, .iconst 0, 1, [], []), (52, .istore 5, 2, [], []), (54, .iload 5, 2, [], [1, 6, 7, 8]), (56, .aload_n 0, 1, [], []), (57, .getfield 80, 3, [5, 5, 0, 186], []), (60, .if_icmp .ge 86, 3, [], []), (63, .iload_n 2, 1, [], [])],
  [(64, .aload_n 0, 1, [], []), (65, .getfield 21, 3, [5, 6, 1, 187], []), (68, .iload 5, 2, [], []), (70, .iaload, 1, [], []), (71, .iadd, 1, [], []), (72, .istore 6, 2, [], []), (74, .iload_n 2, 1, [], []), (75, .aload_n 0, 1, [], []), (76, .getfield 24, 3, [5, 7, 1, 188], []), (79, .iload 5, 2, [], [])],
  [(81, .iaload, 1, [], []), (82, .iadd, 1, [], []), (83, .istore 7, 2, [], []), (85, .iload_n 2, 1, [], []), (86, .aload_n 0, 1, [], []), (87, .getfield 27, 3, [5, 8, 1, 189], []), (90, .iload 5, 2, [], []), (92, .iaload, 1, [], []), (93, .iadd, 1, [], []), (94, .istore 8, 2, [], [])],
  [(96, .aload_n 0, 1, [], []), (97, .iload 6, 2, [], []), (99, .iload 7, 2, [], []), (101, .iload 8, 2, [], []), (103, .invokevirtual 89, 3, [1, 58, 4, 5, 533, 535, 11, 30, 536], []), (106, .ifCond .eq 5, 3, [], []), (109, .iconst 1, 1, [], []), (110, .istore_n 3, 1, [], []), (111, .aload_n 0, 1, [], [1])],
  [(112, .iload 6, 2, [], []), (114, .invokevirtual 86, 3, [1, 60, 2, 5, 529, 531, 10, 30, 532], []), (117, .ifCond .ne 21, 3, [], []), (120, .aload_n 0, 1, [], []), (121, .iload 7, 2, [], []), (123, .invokevirtual 86, 3, [1, 60, 2, 5, 529, 531, 10, 30, 532], []), (126, .ifCond .ne 12, 3, [], [])],
  [(129, .aload_n 0, 1, [], []), (130, .iload 8, 2, [], []), (132, .invokevirtual 86, 3, [1, 60, 2, 5, 529, 531, 10, 30, 532], []), (135, .ifCond .eq 5, 3, [], []), (138, .iconst 0, 1, [], []), (139, .ireturn, 1, [1], []), (140, .iinc 5 1, 3, [], []), (143, .goto (-89), 3, [], [])],
  [(146, .iinc 4 1, 3, [], []), (149, .goto (-111), 3, [], []), (152, .iconst 1, 1, [], []), (153, .ireturn, 1, [1], [])]]
def co58 : List (List (Nat × MC)) := [[(0, .aload_n 0, 1, [], []), (1, .iload_n 3, 1, [], []), (2, .aload_n 0, 1, [], []), (3, .getfield 30, 3, [5, 9, 1, 190], []), (6, .iload_n 1, 1, [], []), (7, .iaload, 1, [], []), (8, .aload_n 0, 1, [], []), (9, .getfield 30, 3, [5, 9, 1, 190], []), (12, .iload_n 2, 1, [], []), (13, .iaload, 1, [], []), (14, .iadd, 1, [], []), (15, .aload_n 0, 1, [], [])],
  [(16, .getfield 33, 3, [5, 10, 1, 191], []), (19, .iload_n 1, 1, [], []), (20, .iaload, 1, [], []), (21, .aload_n 0, 1, [], []), (22, .getfield 33, 3, [5, 10, 1, 191], []), (25, .iload_n 2, 1, [], []), (26, .iaload, 1, [], []), (27, .iadd, 1, [], []), (28, .invokevirtual 93, 3, [1, 59, 4, 5, 537, 539, 12, 30, 540], []), (31, .istore 4, 2, [], [])],
  [(33, .aload_n 0, 1, [], []), (34, .iload_n 1, 1, [], []), (35, .aload_n 0, 1, [], []), (36, .getfield 30, 3, [5, 9, 1, 190], []), (39, .iload_n 3, 1, [], []), (40, .iaload, 1, [], []), (41, .aload_n 0, 1, [], []), (42, .getfield 33, 3, [5, 10, 1, 191], []), (45, .iload_n 2, 1, [], []), (46, .iaload, 1, [], []), (47, .isub, 1, [], [])],
  [(48, .aload_n 0, 1, [], []), (49, .getfield 33, 3, [5, 10, 1, 191], []), (52, .iload_n 3, 1, [], []), (53, .iaload, 1, [], []), (54, .aload_n 0, 1, [], []), (55, .getfield 30, 3, [5, 9, 1, 190], []), (58, .iload_n 2, 1, [], []), (59, .iaload, 1, [], []), (60, .isub, 1, [], []), (61, .invokevirtual 93, 3, [1, 59, 4, 5, 537, 539, 12, 30, 540], [])],
  [(64, .ifCond .eq 6, 3, [], []), (67, .iconst 1, 1, [], []), (68, .istore 4, 2, [], []), (70, .aload_n 0, 1, [], []), (71, .iload_n 2, 1, [], []), (72, .aload_n 0, 1, [], []), (73, .getfield 30, 3, [5, 9, 1, 190], []), (76, .iload_n 3, 1, [], []), (77, .iaload, 1, [], []), (78, .aload_n 0, 1, [], []), (79, .getfield 33, 3, [5, 10, 1, 191], [])],
  [(82, .iload_n 1, 1, [], []), (83, .iaload, 1, [], []), (84, .isub, 1, [], []), (85, .aload_n 0, 1, [], []), (86, .getfield 33, 3, [5, 10, 1, 191], []), (89, .iload_n 3, 1, [], []), (90, .iaload, 1, [], []), (91, .aload_n 0, 1, [], []), (92, .getfield 30, 3, [5, 9, 1, 190], []), (95, .iload_n 1, 1, [], [])],
  [(96, .iaload, 1, [], []), (97, .isub, 1, [], []), (98, .invokevirtual 93, 3, [1, 59, 4, 5, 537, 539, 12, 30, 540], []), (101, .ifCond .eq 6, 3, [], []), (104, .iconst 1, 1, [], []), (105, .istore 4, 2, [], []), (107, .iload_n 1, 1, [], []), (108, .iload_n 2, 1, [], []), (109, .if_icmp .ne 32, 3, [], [])],
  [(112, .aload_n 0, 1, [], []), (113, .iload_n 1, 1, [], []), (114, .aload_n 0, 1, [], []), (115, .getfield 30, 3, [5, 9, 1, 190], []), (118, .iload_n 3, 1, [], []), (119, .iaload, 1, [], []), (120, .iconst 1, 1, [], []), (121, .iadd, 1, [], []), (122, .iconst 2, 1, [], []), (123, .idiv, 1, [], []), (124, .aload_n 0, 1, [], []), (125, .getfield 33, 3, [5, 10, 1, 191], [])],
  [(128, .iload_n 3, 1, [], []), (129, .iaload, 1, [], []), (130, .iconst 2, 1, [], []), (131, .idiv, 1, [], []), (132, .invokevirtual 93, 3, [1, 59, 4, 5, 537, 539, 12, 30, 540], []), (135, .ifCond .eq 6, 3, [], []), (138, .iconst 1, 1, [], []), (139, .istore 4, 2, [], []), (141, .iload 4, 2, [], []), (143, .ireturn, 1, [1], [])]]
def co59 : List (List (Nat × MC)) := [[(0, .iconst 0, 1, [], []), (1, .istore 4, 2, [], []), (3, .aload_n 0, 1, [], []), (4, .getfield 30, 3, [5, 9, 1, 190], []), (7, .iload_n 1, 1, [], []), (8, .iaload, 1, [], []), (9, .iload_n 2, 1, [], []), (10, .if_icmp .ge 13, 3, [], []), (13, .aload_n 0, 1, [], []), (14, .getfield 30, 3, [5, 9, 1, 190], [])],
  [(17, .iload_n 1, 1, [], []), (18, .iload_n 2, 1, [], []), (19, .iastore, 1, [], []), (20, .iconst 1, 1, [], []), (21, .istore 4, 2, [], []), (23, .aload_n 0, 1, [], [2]), (24, .getfield 33, 3, [5, 10, 1, 191], []), (27, .iload_n 1, 1, [], []), (28, .iaload, 1, [], []), (29, .iload_n 3, 1, [], []), (30, .if_icmp .le 13, 3, [], [])],
  [(33, .aload_n 0, 1, [], []), (34, .getfield 33, 3, [5, 10, 1, 191], []), (37, .iload_n 1, 1, [], []), (38, .iload_n 3, 1, [], []), (39, .iastore, 1, [], []), (40, .iconst 1, 1, [], []), (41, .istore 4, 2, [], []), (43, .iload 4, 2, [], []), (45, .ireturn, 1, [1], [])]]
def co60 : List (List (Nat × MC)) := [[(0, .aload_n 0, 1, [], []), (1, .getfield 30, 3, [5, 9, 1, 190], []), (4, .iload_n 1, 1, [], []), (5, .iaload, 1, [], []), (6, .aload_n 0, 1, [], []), (7, .getfield 33, 3, [5, 10, 1, 191], []), (10, .iload_n 1, 1, [], []), (11, .iaload, 1, [], []), (12, .if_icmp .le 7, 3, [], []), (15, .iconst 1, 1, [], [])],
  [(16, .goto 4, 3, [], []), (19, .iconst 0, 1, [], []), (20, .ireturn, 1, [1], [])]]
def co61 : List (List (Nat × MC)) := [[(0, .aload_n 0, 1, [], []), (1, .getfield 30, 3, [5, 9, 1, 190], []), (4, .iload_n 1, 1, [], []), (5, .iaload, 1, [], []), (6, .aload_n 0, 1, [], []), (7, .getfield 33, 3, [5, 10, 1, 191], []), (10, .iload_n 1, 1, [], []), (11, .iaload, 1, [], []), (12, .if_icmp .ge 7, 3, [], []), (15, .iconst 1, 1, [], [])],
  [(16, .goto 4, 3, [], []), (19, .iconst 0, 1, [], []), (20, .ireturn, 1, [1], [])]]
def co62 : List (List (Nat × MC)) := [[(0, .iconst 0, 1, [], []), (1, .istore_n 1, 1, [], []), (2, .iload_n 1, 1, [], []), (3, .aload_n 0, 1, [], []), (4, .getfield 45, 3, [5, 4, 0, 185], []), (7, .if_icmp .ge 28, 3, [], []), (10, .aload_n 0, 1, [], []), (11, .getfield 36, 3, [5, 11, 1, 192], []), (14, .iload_n 1, 1, [], []), (15, .aload_n 0, 1, [], [])],
  [(16, .iload_n 1, 1, [], []), (17, .invokevirtual 96, 3, [1, 61, 2, 5, 545, 547, 14, 30, 548], []), (20, .ifCond .eq 7, 3, [], []), (23, .iload_n 1, 1, [], []), (24, .goto 4, 3, [], []), (27, .iconst (-1), 1, [], []), (28, .iastore, 1, [], []), (29, .iinc 1 1, 3, [], [])],
  [(32, .goto (-30), 3, [], []), (35, .iconst 0, 1, [], []), (36, .istore_n 1, 1, [], []), (37, .iload_n 1, 1, [], []), (38, .aload_n 0, 1, [], []), (39, .getfield 80, 3, [5, 5, 0, 186], []), (42, .if_icmp .ge 87, 3, [], []), (45, .aload_n 0, 1, [], []), (46, .aload_n 0, 1, [], []), (47, .getfield 36, 3, [5, 11, 1, 192], [])],
  [(50, .aload_n 0, 1, [], []), (51, .getfield 21, 3, [5, 6, 1, 187], []), (54, .iload_n 1, 1, [], []), (55, .iaload, 1, [], []), (56, .iaload, 1, [], []), (57, .aload_n 0, 1, [], []), (58, .getfield 36, 3, [5, 11, 1, 192], []), (61, .aload_n 0, 1, [], []), (62, .getfield 24, 3, [5, 7, 1, 188], [])],
  [(65, .iload_n 1, 1, [], []), (66, .iaload, 1, [], []), (67, .iaload, 1, [], []), (68, .invokevirtual 99, 3, [0, 63, 3, 5, 549, 551, 15, 30, 552], []), (71, .aload_n 0, 1, [], []), (72, .aload_n 0, 1, [], []), (73, .getfield 36, 3, [5, 11, 1, 192], []), (76, .aload_n 0, 1, [], []), (77, .getfield 21, 3, [5, 6, 1, 187], [])],
  [(80, .iload_n 1, 1, [], []), (81, .iaload, 1, [], []), (82, .iaload, 1, [], []), (83, .aload_n 0, 1, [], []), (84, .getfield 36, 3, [5, 11, 1, 192], []), (87, .aload_n 0, 1, [], []), (88, .getfield 27, 3, [5, 8, 1, 189], []), (91, .iload_n 1, 1, [], []), (92, .iaload, 1, [], []), (93, .iaload, 1, [], []), (94, .invokevirtual 99, 3, [0, 63, 3, 5, 549, 551, 15, 30, 552], [])],
  [(97, .aload_n 0, 1, [], []), (98, .aload_n 0, 1, [], []), (99, .getfield 36, 3, [5, 11, 1, 192], []), (102, .aload_n 0, 1, [], []), (103, .getfield 24, 3, [5, 7, 1, 188], []), (106, .iload_n 1, 1, [], []), (107, .iaload, 1, [], []), (108, .iaload, 1, [], []), (109, .aload_n 0, 1, [], []), (110, .getfield 36, 3, [5, 11, 1, 192], [])],
  [(113, .aload_n 0, 1, [], []), (114, .getfield 27, 3, [5, 8, 1, 189], []), (117, .iload_n 1, 1, [], []), (118, .iaload, 1, [], []), (119, .iaload, 1, [], []), (120, .invokevirtual 99, 3, [0, 63, 3, 5, 549, 551, 15, 30, 552], []), (123, .iinc 1 1, 3, [], []), (126, .goto (-89), 3, [], [])],
  [(129, .return_, 1, [], [])]]
def co63 : List (List (Nat × MC)) := [[(0, .iload_n 1, 1, [], []), (1, .iconst (-1), 1, [], []), (2, .if_icmp .eq 8, 3, [], []), (5, .iload_n 2, 1, [], []), (6, .iconst (-1), 1, [], []), (7, .if_icmp .ne 4, 3, [], []), (10, .return_, 1, [], []), (11, .iconst 0, 1, [], []), (12, .istore_n 3, 1, [], []), (13, .iload_n 3, 1, [], []), (14, .aload_n 0, 1, [], []), (15, .getfield 45, 3, [5, 4, 0, 185], [])],
  [(18, .if_icmp .ge 40, 3, [], []), (21, .aload_n 0, 1, [], []), (22, .getfield 36, 3, [5, 11, 1, 192], []), (25, .iload_n 3, 1, [], []), (26, .iaload, 1, [], []), (27, .iload_n 1, 1, [], []), (28, .if_icmp .eq 13, 3, [], []), (31, .aload_n 0, 1, [], [])],
  [(32, .getfield 36, 3, [5, 11, 1, 192], []), (35, .iload_n 3, 1, [], []), (36, .iaload, 1, [], []), (37, .iload_n 2, 1, [], []), (38, .if_icmp .ne 14, 3, [], []), (41, .aload_n 0, 1, [], []), (42, .getfield 36, 3, [5, 11, 1, 192], []), (45, .iload_n 3, 1, [], []), (46, .iload_n 1, 1, [], []), (47, .iload_n 2, 1, [], [])],
  [(48, .invokestatic 74, 3, [2, 553, 554, 32, 555], []), (51, .iastore, 1, [], []), (52, .iinc 3 1, 3, [], []), (55, .goto (-42), 3, [], []), (58, .return_, 1, [], [])]]
def co64 : List (List (Nat × MC)) := [[(0, .aload_n 0, 1, [], []), (1, .getfield 36, 3, [5, 11, 1, 192], []), (4, .iload_n 1, 1, [], []), (5, .iaload, 1, [], []), (6, .iconst (-1), 1, [], []), (7, .if_icmp .ne 7, 3, [], []), (10, .iconst 1, 1, [], []), (11, .goto 4, 3, [], []), (14, .iconst 0, 1, [], []), (15, .istore_n 3, 1, [], [3])],
  [(16, .aload_n 0, 1, [], []), (17, .getfield 9, 3, [5, 1, 1, 179], []), (20, .iload_n 1, 1, [], []), (21, .aload_n 0, 1, [], []), (22, .getfield 30, 3, [5, 9, 1, 190], []), (25, .iload_n 1, 1, [], []), (26, .iaload, 1, [], []), (27, .iastore, 1, [], []), (28, .aload_n 0, 1, [], []), (29, .getfield 15, 3, [5, 2, 1, 181], [])],
  [(32, .iload_n 1, 1, [], []), (33, .iload_n 3, 1, [], []), (34, .ifCond .eq 12, 3, [], []), (37, .aload_n 0, 1, [], []), (38, .getfield 30, 3, [5, 9, 1, 190], []), (41, .iload_n 1, 1, [], []), (42, .iaload, 1, [], []), (43, .goto 4, 3, [], []), (46, .iload_n 2, 1, [], []), (47, .iastore, 1, [], [2])],
  [(48, .aload_n 0, 1, [], []), (49, .getfield 18, 3, [5, 3, 1, 183], []), (52, .iload_n 1, 1, [], []), (53, .iload_n 3, 1, [], []), (54, .ifCond .eq 12, 3, [], []), (57, .aload_n 0, 1, [], []), (58, .getfield 30, 3, [5, 9, 1, 190], []), (61, .iload_n 1, 1, [], []), (62, .iaload, 1, [], []), (63, .goto 4, 3, [], [])],
  [(66, .iconst 0, 1, [], []), (67, .iastore, 1, [], []), (68, .return_, 1, [], [])]]
def co65 : List (List (Nat × MC)) := [[(0, .aload_n 0, 1, [], []), (1, .iload_n 1, 1, [], []), (2, .iload_n 2, 1, [], []), (3, .invokevirtual 102, 3, [1, 67, 3, 5, 564, 566, 18, 30, 567], []), (6, .istore_n 3, 1, [], []), (7, .iload_n 3, 1, [], []), (8, .iconst (-1), 1, [], []), (9, .if_icmp .ne 10, 3, [], []), (12, .aload_n 0, 1, [], []), (13, .iload_n 1, 1, [], []), (14, .iload_n 2, 1, [], []), (15, .invokevirtual 105, 3, [0, 69, 3, 5, 568, 570, 19, 30, 571], [])],
  [(18, .return_, 1, [], []), (19, .iload_n 2, 1, [], []), (20, .bipush 12, 2, [], []), (22, .imul, 1, [], []), (23, .iload_n 3, 1, [], []), (24, .iadd, 1, [], []), (25, .istore 4, 2, [], []), (27, .aload_n 0, 1, [], []), (28, .getfield 30, 3, [5, 9, 1, 190], []), (31, .iload 4, 2, [], [])],
  [(33, .iaload, 1, [], []), (34, .istore 5, 2, [], []), (36, .iload 5, 2, [], []), (38, .aload_n 0, 1, [], []), (39, .getfield 33, 3, [5, 10, 1, 191], []), (42, .iload 4, 2, [], []), (44, .iaload, 1, [], []), (45, .if_icmp .gt 18, 3, [], [])],
  [(48, .aload_n 0, 1, [], []), (49, .iload_n 1, 1, [], []), (50, .iload_n 2, 1, [], []), (51, .iload_n 3, 1, [], []), (52, .iload 5, 2, [], []), (54, .invokevirtual 108, 3, [0, 66, 5, 5, 575, 577, 20, 30, 578], []), (57, .iinc 5 1, 3, [], []), (60, .goto (-24), 3, [], []), (63, .return_, 1, [], [])]]
def co66 : List (List (Nat × MC)) := [[(0, .iload_n 2, 1, [], []), (1, .iconst 1, 1, [], []), (2, .iadd, 1, [], []), (3, .istore 5, 2, [], []), (5, .iload 5, 2, [], []), (7, .bipush 12, 2, [], []), (9, .if_icmp .lt 4, 3, [], []), (12, .return_, 1, [], []), (13, .aload_n 0, 1, [], []), (14, .iload_n 2, 1, [], []), (15, .invokevirtual 112, 3, [0, 68, 2, 5, 579, 581, 21, 30, 582], [])],
  [(18, .aload_n 0, 1, [], []), (19, .getfield 30, 3, [5, 9, 1, 190], []), (22, .iload 5, 2, [], []), (24, .bipush 12, 2, [], []), (26, .imul, 1, [], []), (27, .iload_n 3, 1, [], []), (28, .iadd, 1, [], []), (29, .iload 4, 2, [], []), (31, .iastore, 1, [], [])],
  [(32, .aload_n 0, 1, [], []), (33, .getfield 33, 3, [5, 10, 1, 191], []), (36, .iload 5, 2, [], []), (38, .bipush 12, 2, [], []), (40, .imul, 1, [], []), (41, .iload_n 3, 1, [], []), (42, .iadd, 1, [], []), (43, .iload 4, 2, [], []), (45, .iastore, 1, [], []), (46, .aload_n 0, 1, [], []), (47, .iload 5, 2, [], [])],
  [(49, .invokevirtual 54, 3, [1, 57, 2, 5, 525, 527, 9, 30, 528], []), (52, .ifCond .eq 10, 3, [], []), (55, .aload_n 0, 1, [], []), (56, .iload_n 1, 1, [], []), (57, .iload 5, 2, [], []), (59, .invokevirtual 71, 3, [0, 65, 3, 5, 560, 562, 17, 30, 563], []), (62, .return_, 1, [], [])]]
def co67 : List (List (Nat × MC)) := [[(0, .iconst 0, 1, [], []), (1, .istore_n 3, 1, [], []), (2, .iload_n 3, 1, [], []), (3, .aload_n 0, 1, [], []), (4, .getfield 45, 3, [5, 4, 0, 185], []), (7, .if_icmp .ge 34, 3, [], []), (10, .aload_n 0, 1, [], []), (11, .getfield 36, 3, [5, 11, 1, 192], []), (14, .iload_n 3, 1, [], []), (15, .iaload, 1, [], [])],
  [(16, .iload_n 1, 1, [], []), (17, .if_icmp .ne 18, 3, [], []), (20, .aload_n 0, 1, [], []), (21, .iload_n 2, 1, [], []), (22, .bipush 12, 2, [], []), (24, .imul, 1, [], []), (25, .iload_n 3, 1, [], []), (26, .iadd, 1, [], []), (27, .invokevirtual 96, 3, [1, 61, 2, 5, 545, 547, 14, 30, 548], []), (30, .ifCond .eq 5, 3, [], [])],
  [(33, .iload_n 3, 1, [], []), (34, .ireturn, 1, [0], []), (35, .iinc 3 1, 3, [], []), (38, .goto (-36), 3, [], []), (41, .iconst (-1), 1, [], []), (42, .ireturn, 1, [0], [])]]
def co68 : List (List (Nat × MC)) := [[(0, .iload_n 1, 1, [], []), (1, .bipush 12, 2, [], []), (3, .imul, 1, [], []), (4, .istore_n 2, 1, [], []), (5, .aload_n 0, 1, [], []), (6, .getfield 30, 3, [5, 9, 1, 190], []), (9, .iload_n 2, 1, [], []), (10, .aload_n 0, 1, [], []), (11, .getfield 30, 3, [5, 9, 1, 190], []), (14, .iload_n 2, 1, [], []), (15, .bipush 12, 2, [], [])],
  [(17, .iadd, 1, [], []), (18, .bipush 12, 2, [], []), (20, .invokestatic 115, 3, [3, 583, 259, 258, 31], []), (23, .aload_n 0, 1, [], []), (24, .getfield 33, 3, [5, 10, 1, 191], []), (27, .iload_n 2, 1, [], []), (28, .aload_n 0, 1, [], []), (29, .getfield 33, 3, [5, 10, 1, 191], [])],
  [(32, .iload_n 2, 1, [], []), (33, .bipush 12, 2, [], []), (35, .iadd, 1, [], []), (36, .bipush 12, 2, [], []), (38, .invokestatic 115, 3, [3, 583, 259, 258, 31], []), (41, .return_, 1, [], [])]]
def co69 : List (List (Nat × MC)) := [[(0, .iconst 0, 1, [], []), (1, .istore_n 3, 1, [], []), (2, .iload_n 3, 1, [], [4]), (3, .aload_n 0, 1, [], []), (4, .getfield 45, 3, [5, 4, 0, 185], []), (7, .if_icmp .ge 81, 3, [], []), (10, .aload_n 0, 1, [], []), (11, .getfield 36, 3, [5, 11, 1, 192], []), (14, .iload_n 3, 1, [], []), (15, .iaload, 1, [], [])],
  [(16, .iload_n 1, 1, [], []), (17, .if_icmp .ne 65, 3, [], []), (20, .aload_n 0, 1, [], []), (21, .getfield 30, 3, [5, 9, 1, 190], []), (24, .iload_n 2, 1, [], []), (25, .bipush 12, 2, [], []), (27, .imul, 1, [], []), (28, .iload_n 3, 1, [], []), (29, .iadd, 1, [], []), (30, .iaload, 1, [], []), (31, .istore 4, 2, [], [])],
  [(33, .aload_n 0, 1, [], []), (34, .getfield 68, 3, [5, 12, 0, 193], []), (37, .ifCond .ne 11, 3, [], []), (40, .aload_n 0, 1, [], []), (41, .getfield 9, 3, [5, 1, 1, 179], []), (44, .iload_n 3, 1, [], []), (45, .iload 4, 2, [], []), (47, .iastore, 1, [], [])],
  [(48, .aload_n 0, 1, [], []), (49, .getfield 15, 3, [5, 2, 1, 181], []), (52, .iload_n 3, 1, [], []), (53, .aload_n 0, 1, [], []), (54, .getfield 15, 3, [5, 2, 1, 181], []), (57, .iload_n 3, 1, [], []), (58, .iaload, 1, [], []), (59, .iload 4, 2, [], []), (61, .invokestatic 74, 3, [2, 553, 554, 32, 555], [])],
  [(64, .iastore, 1, [], []), (65, .aload_n 0, 1, [], []), (66, .getfield 18, 3, [5, 3, 1, 183], []), (69, .iload_n 3, 1, [], []), (70, .aload_n 0, 1, [], []), (71, .getfield 18, 3, [5, 3, 1, 183], []), (74, .iload_n 3, 1, [], []), (75, .iaload, 1, [], []), (76, .iload 4, 2, [], []), (78, .invokestatic 121, 3, [1, 572, 573, 32, 574], [])],
  [(81, .iastore, 1, [], []), (82, .iinc 3 1, 3, [], []), (85, .goto (-83), 3, [], []), (88, .aload_n 0, 1, [], []), (89, .dup, 1, [], []), (90, .getfield 68, 3, [5, 12, 0, 193], []), (93, .iconst 1, 1, [], []), (94, .iadd, 1, [], []), (95, .putfield 68, 3, [5, 12, 0, 193], [])],
  [(98, .return_, 1, [], [])]]
def co70 : List (List (Nat × MC)) := [[(0, .aload_n 0, 1, [], []), (1, .invokespecial 1, 3, [0, 38, 39, 40], []), (4, .aload_n 0, 1, [], []), (5, .new 7, 3, [3, 2, 41, 42, 25], []), (8, .dup, 1, [], []), (9, .invokespecial 9, 3, [1, 23, 1, 3, 43, 44, 25, 45], []), (12, .putfield 10, 3, [6, 0, 1, 221], []), (15, .aload_n 0, 1, [], [])],
  [(16, .new 7, 3, [3, 2, 41, 42, 25], []), (19, .dup, 1, [], []), (20, .invokespecial 9, 3, [1, 23, 1, 3, 43, 44, 25, 45], []), (23, .putfield 16, 3, [6, 1, 1, 222], []), (26, .aload_n 0, 1, [], []), (27, .iconst 0, 1, [], []), (28, .putfield 19, 3, [6, 2, 2, 223], []), (31, .aload_n 0, 1, [], [])],
  [(32, .new 23, 3, [0, 2, 75, 76, 26], []), (35, .dup, 1, [], []), (36, .invokespecial 25, 3, [1, 1, 1, 0, 77, 78, 26, 79], []), (39, .putfield 26, 3, [6, 3, 1, 224], []), (42, .aload_n 0, 1, [], []), (43, .new 30, 3, [4, 7, 92, 93, 27], []), (46, .dup, 1, [], []), (47, .invokespecial 32, 3, [1, 43, 1, 4, 94, 95, 27, 96], [])],
  [(50, .putfield 33, 3, [6, 4, 1, 225], []), (53, .aload_n 0, 1, [], []), (54, .new 37, 3, [1, 5, 119, 120, 28], []), (57, .dup, 1, [], []), (58, .invokespecial 39, 3, [2, 5, 1, 1, 0, 122, 28, 123], []), (61, .putfield 40, 3, [6, 5, 1, 226], [])],
  [(64, .aload_n 0, 1, [], []), (65, .new 44, 3, [2, 5, 146, 147, 29], []), (68, .dup, 1, [], []), (69, .invokespecial 46, 3, [1, 10, 1, 2, 148, 149, 29, 150], []), (72, .putfield 47, 3, [6, 6, 1, 227], []), (75, .aload_n 0, 1, [], []), (76, .new 51, 3, [5, 13, 171, 172, 30], []), (79, .dup, 1, [], [])],
  [(80, .invokespecial 53, 3, [1, 53, 1, 5, 173, 174, 30, 175], []), (83, .putfield 54, 3, [6, 7, 1, 228], []), (86, .aload_n 0, 1, [], []), (87, .bipush 12, 2, [], []), (89, .newarray .int, 2, [74], []), (91, .putfield 58, 3, [6, 8, 1, 229], []), (94, .return_, 1, [], [])]]
def co71 : List (List (Nat × MC)) := [[(0, .iload_n 1, 1, [], []), (1, .ifCond .eq 11, 3, [], []), (4, .iload_n 1, 1, [], []), (5, .iconst 1, 1, [], []), (6, .if_icmp .eq 6, 3, [], []), (9, .bipush (-2), 2, [], []), (11, .ireturn, 1, [0], []), (12, .iload_n 1, 1, [], [3]), (13, .ifCond .ne 8, 3, [], [])],
  [(16, .bipush 11, 2, [], []), (18, .goto 4, 3, [], []), (21, .iconst 3, 1, [], []), (22, .istore_n 3, 1, [], [3]), (23, .iload_n 2, 1, [], []), (24, .iconst 1, 1, [], []), (25, .if_icmp .lt 8, 3, [], []), (28, .iload_n 2, 1, [], []), (29, .iload_n 3, 1, [], []), (30, .if_icmp .le 6, 3, [], [])],
  [(33, .bipush (-2), 2, [], []), (35, .ireturn, 1, [0], []), (36, .aload_n 0, 1, [], []), (37, .getfield 26, 3, [6, 3, 1, 224], []), (40, .aload_n 0, 1, [], []), (41, .getfield 10, 3, [6, 0, 1, 221], []), (44, .invokevirtual 62, 3, [2, 2, 2, 0, 365, 366, 367, 26, 368], []), (47, .pop, 1, [], [])],
  [(48, .iload_n 1, 1, [], []), (49, .ifCond .ne 22, 3, [], []), (52, .aload_n 0, 1, [], []), (53, .getfield 10, 3, [6, 0, 1, 221], []), (56, .iconst 2, 1, [], []), (57, .invokevirtual 66, 3, [0, 28, 2, 3, 374, 48, 49, 25, 50], []), (60, .aload_n 0, 1, [], []), (61, .getfield 10, 3, [6, 0, 1, 221], [])],
  [(64, .iload_n 2, 1, [], []), (65, .invokevirtual 70, 3, [0, 32, 2, 3, 375, 376, 377, 25, 378], []), (68, .goto 11, 3, [], []), (71, .aload_n 0, 1, [], []), (72, .getfield 10, 3, [6, 0, 1, 221], []), (75, .iload_n 2, 1, [], []), (76, .invokevirtual 73, 3, [0, 33, 2, 3, 379, 380, 381, 25, 382], []), (79, .aload_n 0, 1, [], [])],
  [(80, .getfield 10, 3, [6, 0, 1, 221], []), (83, .getfield 76, 3, [3, 0, 0, 67], []), (86, .ireturn, 1, [0], [])]]
def co72 : List (List (Nat × MC)) := [[(0, .aload_n 0, 1, [], []), (1, .getfield 10, 3, [6, 0, 1, 221], []), (4, .getfield 76, 3, [3, 0, 0, 67], []), (7, .bipush 12, 2, [], []), (9, .if_icmp .lt 6, 3, [], []), (12, .bipush (-3), 2, [], []), (14, .ireturn, 1, [0], []), (15, .aload_n 0, 1, [], [])],
  [(16, .getfield 26, 3, [6, 3, 1, 224], []), (19, .aload_n 0, 1, [], []), (20, .getfield 10, 3, [6, 0, 1, 221], []), (23, .invokevirtual 62, 3, [2, 2, 2, 0, 365, 366, 367, 26, 368], []), (26, .pop, 1, [], []), (27, .aload_n 0, 1, [], []), (28, .getfield 10, 3, [6, 0, 1, 221], []), (31, .iconst 1, 1, [], [])],
  [(32, .invokevirtual 80, 3, [0, 29, 2, 3, 390, 52, 53, 25, 54], []), (35, .aload_n 0, 1, [], []), (36, .getfield 10, 3, [6, 0, 1, 221], []), (39, .getfield 76, 3, [3, 0, 0, 67], []), (42, .iconst 1, 1, [], []), (43, .isub, 1, [], []), (44, .ireturn, 1, [0], [])]]
def co73 : List (List (Nat × MC)) := [[(0, .aload_n 0, 1, [], []), (1, .getfield 10, 3, [6, 0, 1, 221], []), (4, .iload_n 1, 1, [], []), (5, .invokevirtual 83, 3, [1, 24, 2, 3, 395, 60, 61, 25, 62], []), (8, .ifCond .ne 5, 3, [], []), (11, .iconst (-1), 1, [], []), (12, .ireturn, 1, [0], []), (13, .iload_n 1, 1, [], []), (14, .invokestatic 87, 3, [0, 1, 96, 1, 396, 397, 24, 398], [])],
  [(17, .ifCond .eq 6, 3, [], []), (20, .bipush (-4), 2, [], []), (22, .ireturn, 1, [0], []), (23, .aload_n 0, 1, [], []), (24, .getfield 26, 3, [6, 3, 1, 224], []), (27, .aload_n 0, 1, [], []), (28, .getfield 10, 3, [6, 0, 1, 221], []), (31, .invokevirtual 62, 3, [2, 2, 2, 0, 365, 366, 367, 26, 368], [])],
  [(34, .astore_n 2, 1, [], []), (35, .iconst 0, 1, [], []), (36, .istore_n 3, 1, [], []), (37, .iload_n 3, 1, [], []), (38, .bipush 12, 2, [], []), (40, .if_icmp .ge 27, 3, [], []), (43, .aload_n 0, 1, [], []), (44, .getfield 58, 3, [6, 8, 1, 229], []), (47, .iload_n 3, 1, [], [])],
  [(48, .iload_n 3, 1, [], []), (49, .iload_n 1, 1, [], []), (50, .if_icmp .ge 7, 3, [], []), (53, .iload_n 3, 1, [], []), (54, .goto 6, 3, [], []), (57, .iload_n 3, 1, [], []), (58, .iconst 1, 1, [], []), (59, .isub, 1, [], []), (60, .iastore, 1, [], []), (61, .iinc 3 1, 3, [], [])],
  [(64, .goto (-27), 3, [], []), (67, .aload_n 0, 1, [], []), (68, .getfield 58, 3, [6, 8, 1, 229], []), (71, .iload_n 1, 1, [], []), (72, .iconst (-1), 1, [], []), (73, .iastore, 1, [], []), (74, .aload_n 0, 1, [], []), (75, .getfield 10, 3, [6, 0, 1, 221], []), (78, .aload_n 2, 1, [], []), (79, .getfield 76, 3, [3, 0, 0, 67], [])],
  [(82, .iconst 1, 1, [], []), (83, .isub, 1, [], []), (84, .invokevirtual 66, 3, [0, 28, 2, 3, 374, 48, 49, 25, 50], []), (87, .aload_n 0, 1, [], []), (88, .getfield 10, 3, [6, 0, 1, 221], []), (91, .aload_n 2, 1, [], []), (92, .aload_n 0, 1, [], []), (93, .getfield 58, 3, [6, 8, 1, 229], [])],
  [(96, .invokevirtual 90, 3, [0, 31, 3, 3, 399, 400, 401, 25, 402], []), (99, .aload_n 0, 1, [], []), (100, .getfield 10, 3, [6, 0, 1, 221], []), (103, .getfield 76, 3, [3, 0, 0, 67], []), (106, .ireturn, 1, [0], [])]]
def co74 : List (List (Nat × MC)) := [[(0, .aload_n 0, 1, [], []), (1, .getfield 10, 3, [6, 0, 1, 221], []), (4, .iload_n 1, 1, [], []), (5, .invokevirtual 83, 3, [1, 24, 2, 3, 395, 60, 61, 25, 62], []), (8, .ifCond .eq 25, 3, [], []), (11, .aload_n 0, 1, [], []), (12, .getfield 10, 3, [6, 0, 1, 221], []), (15, .iload_n 2, 1, [], [])],
  [(16, .invokevirtual 83, 3, [1, 24, 2, 3, 395, 60, 61, 25, 62], []), (19, .ifCond .eq 14, 3, [], []), (22, .aload_n 0, 1, [], []), (23, .getfield 10, 3, [6, 0, 1, 221], []), (26, .iload_n 3, 1, [], []), (27, .invokevirtual 83, 3, [1, 24, 2, 3, 395, 60, 61, 25, 62], []), (30, .ifCond .ne 5, 3, [], [])],
  [(33, .iconst (-1), 1, [], []), (34, .ireturn, 1, [0], []), (35, .iload_n 1, 1, [], []), (36, .ifCond .eq 7, 3, [], []), (39, .iload_n 2, 1, [], []), (40, .ifCond .ne 6, 3, [], []), (43, .bipush (-4), 2, [], []), (45, .ireturn, 1, [0], []), (46, .aload_n 0, 1, [], []), (47, .getfield 10, 3, [6, 0, 1, 221], [])],
  [(50, .iload_n 1, 1, [], []), (51, .iload_n 2, 1, [], []), (52, .invokevirtual 94, 3, [1, 25, 3, 3, 446, 273, 274, 25, 275], []), (55, .istore 4, 2, [], []), (57, .iload 4, 2, [], []), (59, .iload_n 3, 1, [], []), (60, .if_icmp .ne 6, 3, [], []), (63, .bipush (-5), 2, [], [])],
  [(65, .ireturn, 1, [0], []), (66, .aload_n 0, 1, [], []), (67, .getfield 26, 3, [6, 3, 1, 224], []), (70, .aload_n 0, 1, [], []), (71, .getfield 10, 3, [6, 0, 1, 221], []), (74, .invokevirtual 62, 3, [2, 2, 2, 0, 365, 366, 367, 26, 368], []), (77, .pop, 1, [], []), (78, .aload_n 0, 1, [], []), (79, .getfield 10, 3, [6, 0, 1, 221], [])],
  [(82, .iload_n 1, 1, [], []), (83, .iload_n 2, 1, [], []), (84, .iload_n 3, 1, [], []), (85, .invokevirtual 98, 3, [0, 27, 4, 3, 447, 56, 57, 25, 58], []), (88, .iload 4, 2, [], []), (90, .ireturn, 1, [0], [])]]
def co75 : List (List (Nat × MC)) := [[(0, .aload_n 0, 1, [], []), (1, .getfield 10, 3, [6, 0, 1, 221], []), (4, .iload_n 1, 1, [], []), (5, .invokevirtual 83, 3, [1, 24, 2, 3, 395, 60, 61, 25, 62], []), (8, .ifCond .eq 14, 3, [], []), (11, .aload_n 0, 1, [], []), (12, .getfield 10, 3, [6, 0, 1, 221], []), (15, .iload_n 2, 1, [], [])],
  [(16, .invokevirtual 83, 3, [1, 24, 2, 3, 395, 60, 61, 25, 62], []), (19, .ifCond .ne 5, 3, [], []), (22, .iconst (-1), 1, [], []), (23, .ireturn, 1, [0], []), (24, .iload_n 1, 1, [], []), (25, .ifCond .eq 7, 3, [], []), (28, .iload_n 2, 1, [], []), (29, .ifCond .ne 6, 3, [], [])],
  [(32, .bipush (-4), 2, [], []), (34, .ireturn, 1, [0], []), (35, .aload_n 0, 1, [], []), (36, .getfield 10, 3, [6, 0, 1, 221], []), (39, .iload_n 1, 1, [], []), (40, .iload_n 2, 1, [], []), (41, .invokevirtual 94, 3, [1, 25, 3, 3, 446, 273, 274, 25, 275], []), (44, .istore_n 3, 1, [], []), (45, .iload_n 3, 1, [], []), (46, .bipush 12, 2, [], [])],
  [(48, .if_icmp .ne 6, 3, [], []), (51, .bipush (-5), 2, [], []), (53, .ireturn, 1, [0], []), (54, .aload_n 0, 1, [], []), (55, .getfield 26, 3, [6, 3, 1, 224], []), (58, .aload_n 0, 1, [], []), (59, .getfield 10, 3, [6, 0, 1, 221], []), (62, .invokevirtual 62, 3, [2, 2, 2, 0, 365, 366, 367, 26, 368], [])],
  [(65, .pop, 1, [], []), (66, .aload_n 0, 1, [], []), (67, .getfield 10, 3, [6, 0, 1, 221], []), (70, .iload_n 1, 1, [], []), (71, .iload_n 2, 1, [], []), (72, .bipush 12, 2, [], []), (74, .invokevirtual 98, 3, [0, 27, 4, 3, 447, 56, 57, 25, 58], []), (77, .iload_n 3, 1, [], []), (78, .ireturn, 1, [0], [])]]
def co77 : List (List (Nat × MC)) := [[(0, .iload_n 1, 1, [], []), (1, .iconst 2, 1, [], []), (2, .if_icmp .lt 9, 3, [], []), (5, .iload_n 1, 1, [], []), (6, .bipush 11, 2, [], []), (8, .if_icmp .le 6, 3, [], []), (11, .bipush (-2), 2, [], []), (13, .ireturn, 1, [0], []), (14, .aload_n 0, 1, [], []), (15, .getfield 10, 3, [6, 0, 1, 221], [])],
  [(18, .getfield 76, 3, [3, 0, 0, 67], []), (21, .iload_n 1, 1, [], []), (22, .iadd, 1, [], []), (23, .iconst 1, 1, [], []), (24, .isub, 1, [], []), (25, .bipush 12, 2, [], []), (27, .if_icmp .le 6, 3, [], []), (30, .bipush (-3), 2, [], [])],
  [(32, .ireturn, 1, [0], []), (33, .aload_n 0, 1, [], []), (34, .getfield 26, 3, [6, 3, 1, 224], []), (37, .aload_n 0, 1, [], []), (38, .getfield 10, 3, [6, 0, 1, 221], []), (41, .invokevirtual 62, 3, [2, 2, 2, 0, 365, 366, 367, 26, 368], []), (44, .pop, 1, [], []), (45, .aload_n 0, 1, [], []), (46, .getfield 10, 3, [6, 0, 1, 221], [])],
  [(49, .iload_n 1, 1, [], []), (50, .invokevirtual 70, 3, [0, 32, 2, 3, 375, 376, 377, 25, 378], []), (53, .aload_n 0, 1, [], []), (54, .getfield 10, 3, [6, 0, 1, 221], []), (57, .getfield 76, 3, [3, 0, 0, 67], []), (60, .ireturn, 1, [0], [])]]
def co78 : List (List (Nat × MC)) := [[(0, .iconst 2, 1, [], []), (1, .aload_n 0, 1, [], []), (2, .getfield 10, 3, [6, 0, 1, 221], []), (5, .getfield 76, 3, [3, 0, 0, 67], []), (8, .imul, 1, [], []), (9, .bipush 12, 2, [], []), (11, .if_icmp .le 6, 3, [], []), (14, .bipush (-3), 2, [], [])],
  [(16, .ireturn, 1, [0], []), (17, .aload_n 0, 1, [], []), (18, .getfield 26, 3, [6, 3, 1, 224], []), (21, .aload_n 0, 1, [], []), (22, .getfield 10, 3, [6, 0, 1, 221], []), (25, .invokevirtual 62, 3, [2, 2, 2, 0, 365, 366, 367, 26, 368], []), (28, .astore_n 1, 1, [], []), (29, .aload_n 0, 1, [], []), (30, .getfield 10, 3, [6, 0, 1, 221], [])],
  [(33, .aload_n 1, 1, [], []), (34, .invokevirtual 120, 3, [0, 35, 2, 3, 411, 412, 413, 25, 414], []), (37, .aload_n 0, 1, [], []), (38, .getfield 10, 3, [6, 0, 1, 221], []), (41, .getfield 76, 3, [3, 0, 0, 67], []), (44, .ireturn, 1, [0], [])]]
def co79 : List (List (Nat × MC)) := [[(0, .aload_n 0, 1, [], []), (1, .getfield 10, 3, [6, 0, 1, 221], []), (4, .iload_n 1, 1, [], []), (5, .invokevirtual 83, 3, [1, 24, 2, 3, 395, 60, 61, 25, 62], []), (8, .ifCond .eq 14, 3, [], []), (11, .aload_n 0, 1, [], []), (12, .getfield 10, 3, [6, 0, 1, 221], []), (15, .iload_n 2, 1, [], [])],
  [(16, .invokevirtual 83, 3, [1, 24, 2, 3, 395, 60, 61, 25, 62], []), (19, .ifCond .ne 5, 3, [], []), (22, .iconst (-1), 1, [], []), (23, .ireturn, 1, [0], []), (24, .iload_n 1, 1, [], []), (25, .invokestatic 87, 3, [0, 1, 96, 1, 396, 397, 24, 398], []), (28, .ifCond .ne 10, 3, [], []), (31, .iload_n 2, 1, [], [])],
  [(32, .invokestatic 87, 3, [0, 1, 96, 1, 396, 397, 24, 398], []), (35, .ifCond .eq 6, 3, [], []), (38, .bipush (-4), 2, [], []), (40, .ireturn, 1, [0], []), (41, .iload_n 1, 1, [], []), (42, .iload_n 2, 1, [], []), (43, .if_icmp .ne 6, 3, [], []), (46, .bipush (-5), 2, [], [])],
  [(48, .ireturn, 1, [0], []), (49, .aload_n 0, 1, [], []), (50, .getfield 26, 3, [6, 3, 1, 224], []), (53, .aload_n 0, 1, [], []), (54, .getfield 10, 3, [6, 0, 1, 221], []), (57, .invokevirtual 62, 3, [2, 2, 2, 0, 365, 366, 367, 26, 368], []), (60, .astore_n 3, 1, [], []), (61, .iconst 0, 1, [], []), (62, .istore 4, 2, [], [])],
  [(64, .iload 4, 2, [], []), (66, .bipush 12, 2, [], []), (68, .if_icmp .ge 18, 3, [], []), (71, .aload_n 0, 1, [], []), (72, .getfield 58, 3, [6, 8, 1, 229], []), (75, .iload 4, 2, [], []), (77, .iload 4, 2, [], []), (79, .iastore, 1, [], [])],
  [(80, .iinc 4 1, 3, [], []), (83, .goto (-19), 3, [], []), (86, .aload_n 0, 1, [], []), (87, .getfield 58, 3, [6, 8, 1, 229], []), (90, .iload_n 1, 1, [], []), (91, .iload_n 2, 1, [], []), (92, .iastore, 1, [], []), (93, .aload_n 0, 1, [], []), (94, .getfield 58, 3, [6, 8, 1, 229], [])],
  [(97, .iload_n 2, 1, [], []), (98, .iload_n 1, 1, [], []), (99, .iastore, 1, [], []), (100, .aload_n 0, 1, [], []), (101, .getfield 10, 3, [6, 0, 1, 221], []), (104, .aload_n 3, 1, [], []), (105, .getfield 76, 3, [3, 0, 0, 67], []), (108, .invokevirtual 66, 3, [0, 28, 2, 3, 374, 48, 49, 25, 50], []), (111, .aload_n 0, 1, [], [])],
  [(112, .getfield 10, 3, [6, 0, 1, 221], []), (115, .aload_n 3, 1, [], []), (116, .aload_n 0, 1, [], []), (117, .getfield 58, 3, [6, 8, 1, 229], []), (120, .invokevirtual 90, 3, [0, 31, 3, 3, 399, 400, 401, 25, 402], []), (123, .aload_n 0, 1, [], []), (124, .getfield 10, 3, [6, 0, 1, 221], []), (127, .iload_n 1, 1, [], [])],
  [(128, .iload_n 2, 1, [], []), (129, .invokevirtual 123, 3, [1, 42, 3, 3, 425, 426, 427, 25, 428], []), (132, .ireturn, 1, [0], [])]]
def co82 : List (List (Nat × MC)) := [[(0, .aload_n 0, 1, [], []), (1, .getfield 26, 3, [6, 3, 1, 224], []), (4, .aload_n 0, 1, [], []), (5, .getfield 10, 3, [6, 0, 1, 221], []), (8, .invokevirtual 133, 3, [1, 4, 2, 0, 434, 435, 436, 26, 437], []), (11, .ifCond .eq 13, 3, [], []), (14, .aload_n 0, 1, [], []), (15, .getfield 26, 3, [6, 3, 1, 224], [])],
  [(18, .getfield 137, 3, [0, 0, 0, 85], []), (21, .goto 5, 3, [], []), (24, .bipush (-5), 2, [], []), (26, .ireturn, 1, [0], [])]]
def co83 : List (List (Nat × MC)) := [[(0, .aload_n 0, 1, [], []), (1, .getfield 16, 3, [6, 1, 1, 222], []), (4, .aload_n 0, 1, [], []), (5, .getfield 10, 3, [6, 0, 1, 221], []), (8, .invokevirtual 138, 3, [0, 30, 2, 3, 253, 254, 255, 25, 256], []), (11, .aload_n 0, 1, [], []), (12, .iconst 1, 1, [], []), (13, .putfield 19, 3, [6, 2, 2, 223], [])],
  [(16, .aload_n 0, 1, [], []), (17, .getfield 10, 3, [6, 0, 1, 221], []), (20, .getfield 76, 3, [3, 0, 0, 67], []), (23, .ireturn, 1, [0], [])]]
def co84 : List (List (Nat × MC)) := [[(0, .aload_n 0, 1, [], []), (1, .getfield 19, 3, [6, 2, 0, 223], []), (4, .ifCond .ne 6, 3, [], []), (7, .bipush (-5), 2, [], []), (9, .ireturn, 1, [0], []), (10, .aload_n 0, 1, [], []), (11, .getfield 26, 3, [6, 3, 1, 224], []), (14, .aload_n 0, 1, [], []), (15, .getfield 10, 3, [6, 0, 1, 221], [])],
  [(18, .invokevirtual 62, 3, [2, 2, 2, 0, 365, 366, 367, 26, 368], []), (21, .pop, 1, [], []), (22, .aload_n 0, 1, [], []), (23, .getfield 10, 3, [6, 0, 1, 221], []), (26, .aload_n 0, 1, [], []), (27, .getfield 16, 3, [6, 1, 1, 222], []), (30, .invokevirtual 138, 3, [0, 30, 2, 3, 253, 254, 255, 25, 256], [])],
  [(33, .aload_n 0, 1, [], []), (34, .getfield 10, 3, [6, 0, 1, 221], []), (37, .getfield 76, 3, [3, 0, 0, 67], []), (40, .ireturn, 1, [0], [])]]
def co85 : List (List (Nat × MC)) := [[(0, .aload_n 0, 1, [], []), (1, .getfield 10, 3, [6, 0, 1, 221], []), (4, .iload_n 1, 1, [], []), (5, .invokevirtual 83, 3, [1, 24, 2, 3, 395, 60, 61, 25, 62], []), (8, .ifCond .eq 14, 3, [], []), (11, .aload_n 0, 1, [], []), (12, .getfield 10, 3, [6, 0, 1, 221], []), (15, .iload_n 2, 1, [], [])],
  [(16, .invokevirtual 83, 3, [1, 24, 2, 3, 395, 60, 61, 25, 62], []), (19, .ifCond .ne 5, 3, [], []), (22, .iconst (-1), 1, [], []), (23, .ireturn, 1, [0], []), (24, .aload_n 0, 1, [], []), (25, .getfield 10, 3, [6, 0, 1, 221], []), (28, .iload_n 1, 1, [], []), (29, .iload_n 2, 1, [], []), (30, .invokevirtual 94, 3, [1, 25, 3, 3, 446, 273, 274, 25, 275], [])],
  [(33, .invokestatic 141, 3, [0, 1, 97, 1, 459, 460, 24, 461], []), (36, .ireturn, 1, [0], [])]]
def co86 : List (List (Nat × MC)) := [[(0, .aload_n 0, 1, [], []), (1, .getfield 10, 3, [6, 0, 1, 221], []), (4, .iload_n 1, 1, [], []), (5, .invokevirtual 83, 3, [1, 24, 2, 3, 395, 60, 61, 25, 62], []), (8, .ifCond .eq 14, 3, [], []), (11, .aload_n 0, 1, [], []), (12, .getfield 10, 3, [6, 0, 1, 221], []), (15, .iload_n 2, 1, [], [])],
  [(16, .invokevirtual 83, 3, [1, 24, 2, 3, 395, 60, 61, 25, 62], []), (19, .ifCond .ne 5, 3, [], []), (22, .iconst (-1), 1, [], []), (23, .ireturn, 1, [0], []), (24, .aload_n 0, 1, [], []), (25, .getfield 10, 3, [6, 0, 1, 221], []), (28, .iload_n 2, 1, [], []), (29, .iload_n 1, 1, [], []), (30, .invokevirtual 145, 3, [1, 38, 3, 3, 466, 306, 307, 25, 308], [])],
  [(33, .invokestatic 141, 3, [0, 1, 97, 1, 459, 460, 24, 461], []), (36, .ireturn, 1, [0], [])]]
def co87 : List (List (Nat × MC)) := [[(0, .iload_n 1, 1, [], []), (1, .ifCond .lt 8, 3, [], []), (4, .iload_n 1, 1, [], []), (5, .iconst 3, 1, [], []), (6, .if_icmp .le 6, 3, [], []), (9, .bipush (-2), 2, [], []), (11, .ireturn, 1, [0], []), (12, .aload_n 0, 1, [], []), (13, .getfield 40, 3, [6, 5, 1, 226], [])],
  [(16, .aload_n 0, 1, [], []), (17, .getfield 10, 3, [6, 0, 1, 221], []), (20, .invokevirtual 148, 3, [0, 6, 2, 1, 264, 265, 266, 28, 267], []), (23, .aload_n 0, 1, [], []), (24, .getfield 40, 3, [6, 5, 1, 226], []), (27, .getfield 151, 3, [1, 1, 0, 128], []), (30, .ifCond .ne 7, 3, [], [])],
  [(33, .iconst 1, 1, [], []), (34, .goto 4, 3, [], []), (37, .iconst 0, 1, [], []), (38, .istore_n 2, 1, [], [2]), (39, .aload_n 0, 1, [], []), (40, .getfield 40, 3, [6, 5, 1, 226], []), (43, .getfield 154, 3, [1, 0, 0, 126], []), (46, .ifCond .eq 12, 3, [], [])],
  [(49, .iload_n 1, 1, [], []), (50, .iconst 2, 1, [], []), (51, .if_icmp .lt 10, 3, [], []), (54, .iload_n 2, 1, [], []), (55, .ifCond .ne 6, 3, [], []), (58, .bipush (-5), 2, [], []), (60, .ireturn, 1, [0], []), (61, .iload_n 1, 1, [], [2]), (62, .tableswitch 50 0 2 #[26, 34, 42], 26, [], [])],
  [],
  [(88, .aload_n 0, 1, [], []), (89, .getfield 40, 3, [6, 5, 1, 226], []), (92, .getfield 151, 3, [1, 1, 0, 128], []), (95, .ireturn, 1, [0], [])],
  [(96, .aload_n 0, 1, [], []), (97, .getfield 40, 3, [6, 5, 1, 226], []), (100, .getfield 157, 3, [1, 2, 0, 130], []), (103, .ireturn, 1, [0], []), (104, .aload_n 0, 1, [], []), (105, .getfield 40, 3, [6, 5, 1, 226], []), (108, .getfield 160, 3, [1, 3, 0, 132], []), (111, .ireturn, 1, [0], [])],
  [(112, .aload_n 0, 1, [], []), (113, .getfield 40, 3, [6, 5, 1, 226], []), (116, .getfield 163, 3, [1, 4, 0, 134], []), (119, .ireturn, 1, [0], [])]]
def co88 : List (List (Nat × MC)) := [[(0, .aload_n 0, 1, [], []), (1, .getfield 10, 3, [6, 0, 1, 221], []), (4, .iload_n 1, 1, [], []), (5, .invokevirtual 83, 3, [1, 24, 2, 3, 395, 60, 61, 25, 62], []), (8, .ifCond .ne 5, 3, [], []), (11, .iconst (-1), 1, [], []), (12, .ireturn, 1, [0], []), (13, .aload_n 0, 1, [], []), (14, .getfield 47, 3, [6, 6, 1, 227], [])],
  [(17, .aload_n 0, 1, [], []), (18, .getfield 10, 3, [6, 0, 1, 221], []), (21, .invokevirtual 166, 3, [0, 11, 2, 2, 297, 298, 299, 29, 300], []), (24, .iload_n 2, 1, [], []), (25, .tableswitch 138 0 7 #[47, 59, 69, 79, 96, 113, 123, 132], 47, [], [])],
  [],
  [],
  [(72, .aload_n 0, 1, [], []), (73, .getfield 10, 3, [6, 0, 1, 221], []), (76, .iload_n 1, 1, [], []), (77, .invokevirtual 169, 3, [1, 39, 2, 3, 476, 302, 303, 25, 304], [])],
  [(80, .invokestatic 141, 3, [0, 1, 97, 1, 459, 460, 24, 461], []), (83, .ireturn, 1, [0], []), (84, .aload_n 0, 1, [], []), (85, .getfield 47, 3, [6, 6, 1, 227], []), (88, .getfield 172, 3, [2, 0, 1, 153], []), (91, .iload_n 1, 1, [], []), (92, .iaload, 1, [], []), (93, .ireturn, 1, [0], []), (94, .aload_n 0, 1, [], []), (95, .getfield 47, 3, [6, 6, 1, 227], [])],
  [(98, .getfield 175, 3, [2, 1, 1, 155], []), (101, .iload_n 1, 1, [], []), (102, .iaload, 1, [], []), (103, .ireturn, 1, [0], []), (104, .aload_n 0, 1, [], []), (105, .getfield 47, 3, [6, 6, 1, 227], []), (108, .iload_n 1, 1, [], []), (109, .invokevirtual 178, 3, [1, 13, 2, 2, 477, 331, 332, 29, 333], [])],
  [(112, .ifCond .eq 7, 3, [], []), (115, .iconst 1, 1, [], []), (116, .goto 4, 3, [], []), (119, .iconst 0, 1, [], []), (120, .ireturn, 1, [0], []), (121, .aload_n 0, 1, [], []), (122, .getfield 47, 3, [6, 6, 1, 227], []), (125, .iload_n 1, 1, [], []), (126, .invokevirtual 181, 3, [1, 15, 2, 2, 478, 343, 344, 29, 345], [])],
  [(129, .ifCond .eq 7, 3, [], []), (132, .iconst 1, 1, [], []), (133, .goto 4, 3, [], []), (136, .iconst 0, 1, [], []), (137, .ireturn, 1, [0], []), (138, .aload_n 0, 1, [], []), (139, .getfield 47, 3, [6, 6, 1, 227], []), (142, .getfield 184, 3, [2, 2, 1, 157], [])],
  [(145, .iload_n 1, 1, [], []), (146, .iaload, 1, [], []), (147, .ireturn, 1, [0], []), (148, .aload_n 0, 1, [], []), (149, .getfield 10, 3, [6, 0, 1, 221], []), (152, .iload_n 1, 1, [], []), (153, .invokevirtual 187, 3, [1, 40, 2, 3, 479, 480, 481, 25, 482], []), (156, .ireturn, 1, [0], []), (157, .aload_n 0, 1, [], []), (158, .iload_n 1, 1, [], []), (159, .invokevirtual 190, 3, [1, 100, 2, 6, 483, 485, 6, 24, 486], [])],
  [(162, .ireturn, 1, [0], []), (163, .bipush (-2), 2, [], []), (165, .ireturn, 1, [0], [])]]
def co89 : List (List (Nat × MC)) := [[(0, .iload_n 1, 1, [], []), (1, .aload_n 0, 1, [], []), (2, .getfield 10, 3, [6, 0, 1, 221], []), (5, .getfield 76, 3, [3, 0, 0, 67], []), (8, .iushr, 1, [], []), (9, .ifCond .eq 5, 3, [], []), (12, .iconst (-1), 1, [], []), (13, .ireturn, 1, [0], []), (14, .iconst 0, 1, [], []), (15, .istore_n 2, 1, [], [])],
  [(16, .iconst 0, 1, [], []), (17, .istore_n 3, 1, [], []), (18, .iload_n 3, 1, [], []), (19, .aload_n 0, 1, [], []), (20, .getfield 10, 3, [6, 0, 1, 221], []), (23, .getfield 76, 3, [3, 0, 0, 67], []), (26, .if_icmp .ge 34, 3, [], []), (29, .iload_n 2, 1, [], []), (30, .bipush 12, 2, [], [])],
  [(32, .if_icmp .eq 28, 3, [], []), (35, .iload_n 1, 1, [], []), (36, .iload_n 3, 1, [], []), (37, .invokestatic 193, 3, [0, 1, 95, 1, 471, 311, 24, 312], []), (40, .iand, 1, [], []), (41, .ifCond .eq 13, 3, [], []), (44, .aload_n 0, 1, [], []), (45, .getfield 10, 3, [6, 0, 1, 221], [])],
  [(48, .iload_n 2, 1, [], []), (49, .iload_n 3, 1, [], []), (50, .invokevirtual 94, 3, [1, 25, 3, 3, 446, 273, 274, 25, 275], []), (53, .istore_n 2, 1, [], []), (54, .iinc 3 1, 3, [], []), (57, .goto (-39), 3, [], []), (60, .iload_n 2, 1, [], []), (61, .invokestatic 141, 3, [0, 1, 97, 1, 459, 460, 24, 461], [])],
  [(64, .ireturn, 1, [0], [])]]
def co90 : List (List (Nat × MC)) := [[(0, .iload_n 1, 1, [], []), (1, .ifCond .lt 12, 3, [], []), (4, .iload_n 2, 1, [], []), (5, .ifCond .lt 8, 3, [], []), (8, .iload_n 2, 1, [], []), (9, .iconst 1, 1, [], []), (10, .if_icmp .le 6, 3, [], []), (13, .bipush (-2), 2, [], []), (15, .ireturn, 1, [0], [])],
  [(16, .aload_n 0, 1, [], []), (17, .getfield 47, 3, [6, 6, 1, 227], []), (20, .aload_n 0, 1, [], []), (21, .getfield 10, 3, [6, 0, 1, 221], []), (24, .invokevirtual 166, 3, [0, 11, 2, 2, 297, 298, 299, 29, 300], []), (27, .aload_n 0, 1, [], []), (28, .getfield 47, 3, [6, 6, 1, 227], []), (31, .iload_n 1, 1, [], [])],
  [(32, .invokevirtual 196, 3, [1, 21, 2, 2, 494, 495, 496, 29, 497], []), (35, .istore_n 3, 1, [], []), (36, .iload_n 3, 1, [], []), (37, .ifCond .ne 6, 3, [], []), (40, .bipush (-5), 2, [], []), (42, .ireturn, 1, [0], []), (43, .iload_n 2, 1, [], []), (44, .ifCond .ne 7, 3, [], []), (47, .iload_n 3, 1, [], [])],
  [(48, .goto 11, 3, [], []), (51, .aload_n 0, 1, [], []), (52, .getfield 47, 3, [6, 6, 1, 227], []), (55, .iload_n 3, 1, [], []), (56, .invokevirtual 199, 3, [1, 17, 2, 2, 498, 499, 500, 29, 501], []), (59, .ireturn, 1, [0], [])]]
def co91 : List (List (Nat × MC)) := [[(0, .iload_n 1, 1, [], []), (1, .invokestatic 202, 3, [0, 1, 98, 1, 509, 510, 24, 511], []), (4, .ifCond .ne 6, 3, [], []), (7, .bipush (-2), 2, [], []), (9, .ireturn, 1, [0], []), (10, .aload_n 0, 1, [], []), (11, .getfield 54, 3, [6, 7, 1, 228], []), (14, .aload_n 0, 1, [], []), (15, .getfield 10, 3, [6, 0, 1, 221], [])],
  [(18, .iload_n 1, 1, [], []), (19, .invokevirtual 205, 3, [0, 54, 3, 5, 512, 513, 514, 30, 515], []), (22, .aload_n 0, 1, [], []), (23, .getfield 54, 3, [6, 7, 1, 228], []), (26, .getfield 208, 3, [5, 0, 0, 178], []), (29, .ireturn, 1, [0], [])]]
def co92 : List (List (Nat × MC)) := [[(0, .aload_n 0, 1, [], []), (1, .iload_n 1, 1, [], []), (2, .iload_n 2, 1, [], []), (3, .invokevirtual 211, 3, [1, 99, 3, 6, 588, 590, 22, 24, 591], []), (6, .istore_n 3, 1, [], []), (7, .iload_n 3, 1, [], []), (8, .ifCond .ge 7, 3, [], []), (11, .iload_n 3, 1, [], []), (12, .goto 12, 3, [], []), (15, .aload_n 0, 1, [], [])],
  [(16, .getfield 54, 3, [6, 7, 1, 228], []), (19, .getfield 214, 3, [5, 1, 1, 180], []), (22, .iload_n 2, 1, [], []), (23, .iaload, 1, [], []), (24, .ireturn, 1, [0], [])]]
def co93 : List (List (Nat × MC)) := [[(0, .aload_n 0, 1, [], []), (1, .iload_n 1, 1, [], []), (2, .iload_n 2, 1, [], []), (3, .invokevirtual 211, 3, [1, 99, 3, 6, 588, 590, 22, 24, 591], []), (6, .istore 4, 2, [], []), (8, .iload 4, 2, [], []), (10, .ifCond .ge 6, 3, [], []), (13, .iload 4, 2, [], []), (15, .ireturn, 1, [0], [])],
  [(16, .iload_n 3, 1, [], []), (17, .ifCond .eq 15, 3, [], []), (20, .aload_n 0, 1, [], []), (21, .getfield 54, 3, [6, 7, 1, 228], []), (24, .getfield 217, 3, [5, 3, 1, 184], []), (27, .iload_n 2, 1, [], []), (28, .iaload, 1, [], []), (29, .goto 12, 3, [], [])],
  [(32, .aload_n 0, 1, [], []), (33, .getfield 54, 3, [6, 7, 1, 228], []), (36, .getfield 220, 3, [5, 2, 1, 182], []), (39, .iload_n 2, 1, [], []), (40, .iaload, 1, [], []), (41, .ireturn, 1, [0], [])]]
def co94 : List (List (Nat × MC)) := [[(0, .iload_n 1, 1, [], []), (1, .tableswitch 209 0 9 #[55, 63, 71, 98, 117, 136, 155, 174, 193, 201], 55, [], [])],
  [],
  [],
  [(56, .aload_n 0, 1, [], []), (57, .getfield 10, 3, [6, 0, 1, 221], []), (60, .getfield 76, 3, [3, 0, 0, 67], []), (63, .ireturn, 1, [0], [])],
  [(64, .aload_n 0, 1, [], []), (65, .getfield 10, 3, [6, 0, 1, 221], []), (68, .invokevirtual 117, 3, [1, 41, 1, 3, 292, 293, 294, 25, 295], []), (71, .ireturn, 1, [0], []), (72, .aload_n 0, 1, [], []), (73, .getfield 40, 3, [6, 5, 1, 226], []), (76, .aload_n 0, 1, [], []), (77, .getfield 10, 3, [6, 0, 1, 221], [])],
  [(80, .invokevirtual 148, 3, [0, 6, 2, 1, 264, 265, 266, 28, 267], []), (83, .aload_n 0, 1, [], []), (84, .getfield 40, 3, [6, 5, 1, 226], []), (87, .getfield 154, 3, [1, 0, 0, 126], []), (90, .ifCond .ne 7, 3, [], []), (93, .iconst 1, 1, [], []), (94, .goto 4, 3, [], [])],
  [(97, .iconst 0, 1, [], []), (98, .ireturn, 1, [0], []), (99, .aload_n 0, 1, [], []), (100, .getfield 47, 3, [6, 6, 1, 227], []), (103, .aload_n 0, 1, [], []), (104, .getfield 10, 3, [6, 0, 1, 221], []), (107, .invokevirtual 166, 3, [0, 11, 2, 2, 297, 298, 299, 29, 300], []), (110, .aload_n 0, 1, [], []), (111, .getfield 47, 3, [6, 6, 1, 227], [])],
  [(114, .invokevirtual 223, 3, [1, 20, 1, 2, 318, 319, 320, 29, 321], []), (117, .ireturn, 1, [0], []), (118, .aload_n 0, 1, [], []), (119, .getfield 47, 3, [6, 6, 1, 227], []), (122, .aload_n 0, 1, [], []), (123, .getfield 10, 3, [6, 0, 1, 221], []), (126, .invokevirtual 166, 3, [0, 11, 2, 2, 297, 298, 299, 29, 300], [])],
  [(129, .aload_n 0, 1, [], []), (130, .getfield 47, 3, [6, 6, 1, 227], []), (133, .invokevirtual 226, 3, [1, 16, 1, 2, 326, 327, 328, 29, 329], []), (136, .ireturn, 1, [0], []), (137, .aload_n 0, 1, [], []), (138, .getfield 47, 3, [6, 6, 1, 227], []), (141, .aload_n 0, 1, [], []), (142, .getfield 10, 3, [6, 0, 1, 221], [])],
  [(145, .invokevirtual 166, 3, [0, 11, 2, 2, 297, 298, 299, 29, 300], []), (148, .aload_n 0, 1, [], []), (149, .getfield 47, 3, [6, 6, 1, 227], []), (152, .invokevirtual 229, 3, [1, 18, 1, 2, 338, 339, 340, 29, 341], []), (155, .ireturn, 1, [0], []), (156, .aload_n 0, 1, [], []), (157, .getfield 47, 3, [6, 6, 1, 227], [])],
  [(160, .aload_n 0, 1, [], []), (161, .getfield 10, 3, [6, 0, 1, 221], []), (164, .invokevirtual 166, 3, [0, 11, 2, 2, 297, 298, 299, 29, 300], []), (167, .aload_n 0, 1, [], []), (168, .getfield 47, 3, [6, 6, 1, 227], []), (171, .invokevirtual 232, 3, [1, 19, 1, 2, 346, 347, 348, 29, 349], []), (174, .ireturn, 1, [0], []), (175, .aload_n 0, 1, [], [])],
  [(176, .getfield 40, 3, [6, 5, 1, 226], []), (179, .aload_n 0, 1, [], []), (180, .getfield 10, 3, [6, 0, 1, 221], []), (183, .invokevirtual 148, 3, [0, 6, 2, 1, 264, 265, 266, 28, 267], []), (186, .aload_n 0, 1, [], []), (187, .getfield 40, 3, [6, 5, 1, 226], []), (190, .getfield 154, 3, [1, 0, 0, 126], [])],
  [(193, .ireturn, 1, [0], []), (194, .aload_n 0, 1, [], []), (195, .getfield 26, 3, [6, 3, 1, 224], []), (198, .getfield 137, 3, [0, 0, 0, 85], []), (201, .ireturn, 1, [0], []), (202, .aload_n 0, 1, [], []), (203, .getfield 33, 3, [6, 4, 1, 225], []), (206, .getfield 130, 3, [4, 0, 0, 98], [])],
  [(209, .ireturn, 1, [0], []), (210, .bipush (-2), 2, [], []), (212, .ireturn, 1, [0], [])]]
def co95 : List (List (Nat × MC)) := [[(0, .iconst 1, 1, [], []), (1, .iload_n 0, 1, [], []), (2, .ishl, 1, [], []), (3, .ireturn, 1, [0], [])]]
def co96 : List (List (Nat × MC)) := [[(0, .iload_n 0, 1, [], []), (1, .ifCond .eq 8, 3, [], []), (4, .iload_n 0, 1, [], []), (5, .iconst 1, 1, [], []), (6, .if_icmp .ne 7, 3, [], []), (9, .iconst 1, 1, [], []), (10, .goto 4, 3, [], []), (13, .iconst 0, 1, [], []), (14, .ireturn, 1, [1], [])]]
def co97 : List (List (Nat × MC)) := [[(0, .iload_n 0, 1, [], []), (1, .bipush 12, 2, [], []), (3, .if_icmp .ne 8, 3, [], []), (6, .bipush (-5), 2, [], []), (8, .goto 4, 3, [], []), (11, .iload_n 0, 1, [], []), (12, .ireturn, 1, [0], [])]]
def co98 : List (List (Nat × MC)) := [[(0, .iload_n 0, 1, [], []), (1, .iconst 1, 1, [], []), (2, .if_icmp .lt 13, 3, [], []), (5, .iload_n 0, 1, [], []), (6, .bipush 6, 2, [], []), (8, .if_icmp .gt 7, 3, [], []), (11, .iconst 1, 1, [], []), (12, .goto 4, 3, [], []), (15, .iconst 0, 1, [], [])],
  [(16, .ireturn, 1, [1], [])]]
def co99 : List (List (Nat × MC)) := [[(0, .iload_n 1, 1, [], []), (1, .invokestatic 202, 3, [0, 1, 98, 1, 509, 510, 24, 511], []), (4, .ifCond .ne 6, 3, [], []), (7, .bipush (-2), 2, [], []), (9, .ireturn, 1, [0], []), (10, .aload_n 0, 1, [], []), (11, .getfield 10, 3, [6, 0, 1, 221], []), (14, .iload_n 2, 1, [], []), (15, .invokevirtual 83, 3, [1, 24, 2, 3, 395, 60, 61, 25, 62], [])],
  [(18, .ifCond .ne 5, 3, [], []), (21, .iconst (-1), 1, [], []), (22, .ireturn, 1, [0], []), (23, .aload_n 0, 1, [], []), (24, .getfield 54, 3, [6, 7, 1, 228], []), (27, .aload_n 0, 1, [], []), (28, .getfield 10, 3, [6, 0, 1, 221], []), (31, .iload_n 1, 1, [], [])],
  [(32, .invokevirtual 205, 3, [0, 54, 3, 5, 512, 513, 514, 30, 515], []), (35, .aload_n 0, 1, [], []), (36, .getfield 54, 3, [6, 7, 1, 228], []), (39, .getfield 208, 3, [5, 0, 0, 178], []), (42, .ifCond .ne 8, 3, [], []), (45, .bipush (-5), 2, [], []), (47, .goto 4, 3, [], [])],
  [(50, .iconst 0, 1, [], []), (51, .ireturn, 1, [0], [])]]
def co100 : List (List (Nat × MC)) := [[(0, .iload_n 1, 1, [], []), (1, .istore_n 2, 1, [], []), (2, .iconst 1, 1, [], []), (3, .istore_n 3, 1, [], []), (4, .iload_n 3, 1, [], []), (5, .bipush 20, 2, [], []), (7, .if_icmp .ge 27, 3, [], []), (10, .aload_n 0, 1, [], []), (11, .getfield 10, 3, [6, 0, 1, 221], []), (14, .iload_n 2, 1, [], []), (15, .iload_n 1, 1, [], [])],
  [(16, .invokevirtual 94, 3, [1, 25, 3, 3, 446, 273, 274, 25, 275], []), (19, .istore_n 2, 1, [], []), (20, .iload_n 2, 1, [], []), (21, .bipush 12, 2, [], []), (23, .if_icmp .ne 5, 3, [], []), (26, .iload_n 3, 1, [], []), (27, .ireturn, 1, [0], []), (28, .iinc 3 1, 3, [], []), (31, .goto (-27), 3, [], [])],
  [(34, .bipush 20, 2, [], []), (36, .ireturn, 1, [0], [])]]
def co101 : List (List (Nat × MC)) := [[(0, .iload_n 0, 1, [], []), (1, .ldc 7, 2, [2147483647, 353], []), (3, .iand, 1, [], []), (4, .iload_n 1, 1, [], []), (5, .irem, 1, [], []), (6, .ireturn, 1, [0], [])]]
def co102 : List (List (Nat × MC)) := [[(0, .iload_n 1, 1, [], []), (1, .aload_n 0, 1, [], []), (2, .arraylength, 1, [1], []), (3, .if_icmp .ge 9, 3, [], []), (6, .aload_n 0, 1, [], []), (7, .iload_n 1, 1, [], []), (8, .iaload, 1, [1], []), (9, .goto 11, 3, [], []), (12, .ldc 8, 2, [40503, 357], []), (14, .iload_n 1, 1, [], []), (15, .imul, 1, [], [])],
  [(16, .sipush 977, 3, [], []), (19, .iadd, 1, [], []), (20, .ireturn, 1, [0], [])]]
def co103 : List (List (Nat × MC)) := [[(0, .aload_n 0, 1, [], []), (1, .iconst 0, 1, [], []), (2, .invokevirtual 9, 3, [1, 94, 2, 6, 288, 289, 290, 24, 291], []), (5, .istore_n 3, 1, [], []), (6, .aload_n 1, 1, [], []), (7, .iconst 5, 1, [], []), (8, .iload_n 2, 1, [], []), (9, .imul, 1, [], []), (10, .invokestatic 15, 3, [0, 1, 102, 2, 354, 355, 23, 356], []), (13, .bipush 14, 2, [], []), (15, .invokestatic 21, 3, [0, 1, 101, 2, 350, 351, 23, 352], [])],
  [(18, .istore 4, 2, [], []), (20, .aload_n 1, 1, [], []), (21, .iconst 5, 1, [], []), (22, .iload_n 2, 1, [], []), (23, .imul, 1, [], []), (24, .iconst 1, 1, [], []), (25, .iadd, 1, [], []), (26, .invokestatic 15, 3, [0, 1, 102, 2, 354, 355, 23, 356], []), (29, .iload_n 3, 1, [], []), (30, .iconst 1, 1, [], []), (31, .iadd, 1, [], [])],
  [(32, .invokestatic 21, 3, [0, 1, 101, 2, 350, 351, 23, 352], []), (35, .istore 5, 2, [], []), (37, .aload_n 1, 1, [], []), (38, .iconst 5, 1, [], []), (39, .iload_n 2, 1, [], []), (40, .imul, 1, [], []), (41, .iconst 2, 1, [], []), (42, .iadd, 1, [], []), (43, .invokestatic 15, 3, [0, 1, 102, 2, 354, 355, 23, 356], []), (46, .iload_n 3, 1, [], []), (47, .invokestatic 21, 3, [0, 1, 101, 2, 350, 351, 23, 352], [])],
  [(50, .istore 6, 2, [], []), (52, .aload_n 1, 1, [], []), (53, .iconst 5, 1, [], []), (54, .iload_n 2, 1, [], []), (55, .imul, 1, [], []), (56, .iconst 3, 1, [], []), (57, .iadd, 1, [], []), (58, .invokestatic 15, 3, [0, 1, 102, 2, 354, 355, 23, 356], []), (61, .iload_n 3, 1, [], []), (62, .invokestatic 21, 3, [0, 1, 101, 2, 350, 351, 23, 352], [])],
  [(65, .istore 7, 2, [], []), (67, .iload 4, 2, [], []), (69, .tableswitch 161 0 10 #[59, 79, 98, 103, 110, 128, 133, 142, 147, 152, 152], 59, [], [])],
  [],
  [],
  [],
  [(128, .aload_n 0, 1, [], []), (129, .iconst 0, 1, [], []), (130, .aload_n 1, 1, [], []), (131, .iconst 5, 1, [], []), (132, .iload_n 2, 1, [], []), (133, .imul, 1, [], []), (134, .iconst 1, 1, [], []), (135, .iadd, 1, [], []), (136, .invokestatic 15, 3, [0, 1, 102, 2, 354, 355, 23, 356], []), (139, .bipush 13, 2, [], []), (141, .invokestatic 21, 3, [0, 1, 101, 2, 350, 351, 23, 352], [])],
  [(144, .invokevirtual 25, 3, [1, 71, 3, 6, 361, 362, 363, 24, 364], []), (147, .ireturn, 1, [0], []), (148, .aload_n 0, 1, [], []), (149, .iconst 1, 1, [], []), (150, .aload_n 1, 1, [], []), (151, .iconst 5, 1, [], []), (152, .iload_n 2, 1, [], []), (153, .imul, 1, [], []), (154, .iconst 1, 1, [], []), (155, .iadd, 1, [], []), (156, .invokestatic 15, 3, [0, 1, 102, 2, 354, 355, 23, 356], []), (159, .iconst 5, 1, [], [])],
  [(160, .invokestatic 21, 3, [0, 1, 101, 2, 350, 351, 23, 352], []), (163, .invokevirtual 25, 3, [1, 71, 3, 6, 361, 362, 363, 24, 364], []), (166, .ireturn, 1, [0], []), (167, .aload_n 0, 1, [], []), (168, .invokevirtual 28, 3, [1, 72, 1, 6, 386, 387, 388, 24, 389], []), (171, .ireturn, 1, [0], []), (172, .aload_n 0, 1, [], []), (173, .iload 5, 2, [], []), (175, .invokevirtual 32, 3, [1, 73, 2, 6, 391, 392, 393, 24, 394], [])],
  [(178, .ireturn, 1, [0], []), (179, .aload_n 0, 1, [], []), (180, .aload_n 1, 1, [], []), (181, .iconst 5, 1, [], []), (182, .iload_n 2, 1, [], []), (183, .imul, 1, [], []), (184, .iconst 1, 1, [], []), (185, .iadd, 1, [], []), (186, .invokestatic 15, 3, [0, 1, 102, 2, 354, 355, 23, 356], []), (189, .iconst 5, 1, [], []), (190, .invokestatic 21, 3, [0, 1, 101, 2, 350, 351, 23, 352], [])],
  [(193, .invokevirtual 35, 3, [1, 77, 2, 6, 403, 404, 405, 24, 406], []), (196, .ireturn, 1, [0], []), (197, .aload_n 0, 1, [], []), (198, .invokevirtual 38, 3, [1, 78, 1, 6, 407, 408, 409, 24, 410], []), (201, .ireturn, 1, [0], []), (202, .aload_n 0, 1, [], []), (203, .iload 5, 2, [], []), (205, .iload 6, 2, [], []), (207, .invokevirtual 41, 3, [1, 79, 3, 6, 421, 422, 423, 24, 424], [])],
  [(210, .ireturn, 1, [0], []), (211, .aload_n 0, 1, [], []), (212, .invokevirtual 44, 3, [1, 82, 1, 6, 430, 431, 432, 24, 433], []), (215, .ireturn, 1, [0], []), (216, .aload_n 0, 1, [], []), (217, .invokevirtual 47, 3, [1, 84, 1, 6, 438, 439, 440, 24, 441], []), (220, .ireturn, 1, [0], []), (221, .aload_n 0, 1, [], [1, 2, 3, 4, 7]), (222, .iload 5, 2, [], [])],
  [(224, .iload 6, 2, [], []), (226, .invokevirtual 50, 3, [1, 75, 3, 6, 442, 443, 444, 24, 445], []), (229, .ireturn, 1, [0], []), (230, .aload_n 0, 1, [], []), (231, .iload 5, 2, [], []), (233, .iload 6, 2, [], []), (235, .iload 7, 2, [], []), (237, .invokevirtual 53, 3, [1, 74, 4, 6, 448, 449, 450, 24, 451], [])],
  [(240, .ireturn, 1, [0], [])]]
def co104 : List (List (Nat × MC)) := [[(0, .iconst 0, 1, [], []), (1, .istore_n 2, 1, [], []), (2, .iload_n 1, 1, [], []), (3, .iconst 2, 1, [], []), (4, .if_icmp .lt 13, 3, [], []), (7, .iload_n 1, 1, [], []), (8, .bipush 12, 2, [], []), (10, .if_icmp .gt 7, 3, [], []), (13, .iconst 1, 1, [], []), (14, .goto 4, 3, [], [])],
  [(17, .iconst 0, 1, [], []), (18, .istore_n 3, 1, [], []), (19, .iconst 0, 1, [], []), (20, .istore 4, 2, [], []), (22, .iload 4, 2, [], [5, 6]), (24, .iload_n 1, 1, [], []), (25, .if_icmp .ge 237, 3, [], []), (28, .iload_n 3, 1, [], []), (29, .ifCond .eq 233, 3, [], [])],
  [(32, .aload_n 0, 1, [], []), (33, .iload 4, 2, [], []), (35, .iconst 0, 1, [], []), (36, .invokevirtual 57, 3, [1, 85, 3, 6, 455, 456, 457, 24, 458], []), (39, .iload 4, 2, [], []), (41, .if_icmp .ne 7, 3, [], []), (44, .iconst 1, 1, [], []), (45, .goto 4, 3, [], [])],
  [(48, .iconst 0, 1, [], []), (49, .istore_n 3, 1, [], []), (50, .iconst 0, 1, [], []), (51, .istore 5, 2, [], []), (53, .iload 5, 2, [], [6]), (55, .iload_n 1, 1, [], []), (56, .if_icmp .ge 137, 3, [], []), (59, .iload_n 3, 1, [], []), (60, .ifCond .eq 133, 3, [], []), (63, .aload_n 0, 1, [], [])],
  [(64, .iload 4, 2, [], []), (66, .iload 5, 2, [], []), (68, .invokevirtual 57, 3, [1, 85, 3, 6, 455, 456, 457, 24, 458], []), (71, .istore 6, 2, [], []), (73, .iload_n 2, 1, [], []), (74, .iload 4, 2, [], []), (76, .ifCond .le 19, 3, [], []), (79, .iload 5, 2, [], [])],
  [(81, .iload 4, 2, [], []), (83, .if_icmp .lt 12, 3, [], []), (86, .iload 6, 2, [], []), (88, .ifCond .lt 7, 3, [], []), (91, .iconst 1, 1, [], []), (92, .goto 4, 3, [], []), (95, .iconst 0, 1, [], [2, 3])],
  [(96, .iadd, 1, [], [2, 3]), (97, .istore_n 2, 1, [], []), (98, .iload 6, 2, [], []), (100, .aload_n 0, 1, [], []), (101, .iload 5, 2, [], []), (103, .iload 4, 2, [], []), (105, .invokevirtual 57, 3, [1, 85, 3, 6, 455, 456, 457, 24, 458], []), (108, .if_icmp .ne 42, 3, [], []), (111, .iload 6, 2, [], [])],
  [(113, .iload_n 1, 1, [], []), (114, .if_icmp .ge 36, 3, [], []), (117, .iload 6, 2, [], []), (119, .ifCond .lt 27, 3, [], []), (122, .aload_n 0, 1, [], []), (123, .iload 6, 2, [], []), (125, .iload 4, 2, [], []), (127, .invokevirtual 60, 3, [1, 86, 3, 6, 462, 463, 464, 24, 465], [])],
  [(130, .iload 5, 2, [], []), (132, .if_icmp .gt 18, 3, [], []), (135, .aload_n 0, 1, [], []), (136, .iload 6, 2, [], []), (138, .iload 4, 2, [], []), (140, .invokevirtual 60, 3, [1, 86, 3, 6, 462, 463, 464, 24, 465], []), (143, .ifCond .lt 7, 3, [], [])],
  [(146, .iconst 1, 1, [], [3]), (147, .goto 4, 3, [], []), (150, .iconst 0, 1, [], [3]), (151, .istore_n 3, 1, [], [3]), (152, .iload_n 3, 1, [], []), (153, .ifCond .eq 32, 3, [], []), (156, .iload 4, 2, [], []), (158, .iload 5, 2, [], [])],
  [(160, .if_icmp .eq 21, 3, [], []), (163, .aload_n 0, 1, [], []), (164, .iconst 1, 1, [], []), (165, .iload 4, 2, [], []), (167, .ishl, 1, [], []), (168, .iconst 1, 1, [], []), (169, .iload 5, 2, [], []), (171, .ishl, 1, [], []), (172, .ior, 1, [], []), (173, .invokevirtual 63, 3, [1, 89, 2, 6, 467, 468, 469, 24, 470], [])],
  [(176, .iload 6, 2, [], []), (178, .if_icmp .ne 7, 3, [], []), (181, .iconst 1, 1, [], []), (182, .goto 4, 3, [], []), (185, .iconst 0, 1, [], []), (186, .istore_n 3, 1, [], []), (187, .iinc 5 1, 3, [], []), (190, .goto (-137), 3, [], [])],
  [(193, .aload_n 0, 1, [], [5, 6]), (194, .iload 4, 2, [], []), (196, .iload 4, 2, [], []), (198, .invokevirtual 57, 3, [1, 85, 3, 6, 455, 456, 457, 24, 458], []), (201, .istore 5, 2, [], []), (203, .iload_n 3, 1, [], []), (204, .ifCond .eq 50, 3, [], []), (207, .aload_n 0, 1, [], [])],
  [(208, .iload 4, 2, [], []), (210, .bipush 7, 2, [], []), (212, .invokevirtual 66, 3, [1, 88, 3, 6, 472, 473, 474, 24, 475], []), (215, .iconst 1, 1, [], []), (216, .if_icmp .ne 7, 3, [], []), (219, .iconst 1, 1, [], []), (220, .goto 4, 3, [], []), (223, .iconst 0, 1, [], [])],
  [(224, .iload 5, 2, [], [3, 6]), (226, .ifCond .ge 7, 3, [], []), (229, .iconst 1, 1, [], []), (230, .goto 4, 3, [], []), (233, .iconst 0, 1, [], []), (234, .if_icmp .ne 20, 3, [], [3, 5, 6]), (237, .aload_n 0, 1, [], []), (238, .iload 4, 2, [], [])],
  [(240, .bipush 7, 2, [], []), (242, .invokevirtual 66, 3, [1, 88, 3, 6, 472, 473, 474, 24, 475], []), (245, .bipush 20, 2, [], []), (247, .if_icmp .gt 7, 3, [], []), (250, .iconst 1, 1, [], []), (251, .goto 4, 3, [], []), (254, .iconst 0, 1, [], []), (255, .istore_n 3, 1, [], [])],
  [(256, .iinc 4 1, 3, [], []), (259, .goto (-237), 3, [], []), (262, .iload_n 3, 1, [], [4, 5, 6]), (263, .ifCond .eq 35, 3, [], []), (266, .aload_n 0, 1, [], []), (267, .iconst 1, 1, [], []), (268, .invokevirtual 9, 3, [1, 94, 2, 6, 288, 289, 290, 24, 291], []), (271, .iload_n 2, 1, [], [])],
  [(272, .if_icmp .ne 26, 3, [], []), (275, .aload_n 0, 1, [], []), (276, .iconst 0, 1, [], []), (277, .invokevirtual 63, 3, [1, 89, 2, 6, 467, 468, 469, 24, 470], []), (280, .ifCond .ne 18, 3, [], []), (283, .aload_n 0, 1, [], []), (284, .iconst 1, 1, [], []), (285, .iload_n 1, 1, [], []), (286, .ishl, 1, [], []), (287, .invokevirtual 63, 3, [1, 89, 2, 6, 467, 468, 469, 24, 470], [])],
  [(290, .iconst (-1), 1, [], []), (291, .if_icmp .ne 7, 3, [], []), (294, .iconst 1, 1, [], []), (295, .goto 4, 3, [], []), (298, .iconst 0, 1, [], []), (299, .ireturn, 1, [1], [])]]
def co105 : List (List (Nat × MC)) := [[(0, .aload_n 0, 1, [], []), (1, .iconst 3, 1, [], []), (2, .invokevirtual 9, 3, [1, 94, 2, 6, 288, 289, 290, 24, 291], []), (5, .istore_n 1, 1, [], []), (6, .iconst 0, 1, [], []), (7, .istore_n 2, 1, [], []), (8, .iload_n 1, 1, [], []), (9, .ifCond .le 7, 3, [], []), (12, .iconst 1, 1, [], []), (13, .goto 4, 3, [], [])],
  [(16, .iconst 0, 1, [], []), (17, .istore_n 3, 1, [], []), (18, .iconst 0, 1, [], []), (19, .istore 4, 2, [], []), (21, .iload 4, 2, [], [5]), (23, .iload_n 1, 1, [], []), (24, .if_icmp .ge 56, 3, [], []), (27, .iload_n 3, 1, [], []), (28, .ifCond .eq 52, 3, [], []), (31, .aload_n 0, 1, [], [])],
  [(32, .iload 4, 2, [], []), (34, .iconst 0, 1, [], []), (35, .invokevirtual 69, 3, [1, 90, 3, 6, 490, 491, 492, 24, 493], []), (38, .istore 5, 2, [], []), (40, .iload 5, 2, [], []), (42, .iload_n 2, 1, [], []), (43, .if_icmp .le 26, 3, [], []), (46, .iload 4, 2, [], [])],
  [(48, .ifCond .eq 17, 3, [], []), (51, .aload_n 0, 1, [], []), (52, .iconst 0, 1, [], []), (53, .iconst 0, 1, [], []), (54, .invokevirtual 69, 3, [1, 90, 3, 6, 490, 491, 492, 24, 493], []), (57, .iload 5, 2, [], []), (59, .iconst (-1), 1, [], []), (60, .ixor, 1, [], []), (61, .iand, 1, [], []), (62, .ifCond .eq 7, 3, [], [])],
  [(65, .iconst 1, 1, [], []), (66, .goto 4, 3, [], []), (69, .iconst 0, 1, [], []), (70, .istore_n 3, 1, [], []), (71, .iload 5, 2, [], []), (73, .istore_n 2, 1, [], []), (74, .iinc 4 1, 3, [], []), (77, .goto (-56), 3, [], [])],
  [(80, .iload_n 3, 1, [], [2, 4, 5]), (81, .ifCond .eq 18, 3, [], []), (84, .aload_n 0, 1, [], []), (85, .iload_n 1, 1, [], []), (86, .iconst 1, 1, [], []), (87, .invokevirtual 69, 3, [1, 90, 3, 6, 490, 491, 492, 24, 493], []), (90, .bipush (-5), 2, [], []), (92, .if_icmp .ne 7, 3, [], []), (95, .iconst 1, 1, [], [])],
  [(96, .goto 4, 3, [], []), (99, .iconst 0, 1, [], []), (100, .ireturn, 1, [1], [])]]
def co106 : List (List (Nat × MC)) := [[(0, .aload_n 0, 1, [], []), (1, .iload_n 2, 1, [], []), (2, .invokevirtual 72, 3, [1, 91, 2, 6, 505, 506, 507, 24, 508], []), (5, .istore_n 3, 1, [], []), (6, .iload_n 3, 1, [], []), (7, .ifCond .lt 34, 3, [], []), (10, .iload_n 3, 1, [], []), (11, .sipush 1000, 3, [], []), (14, .if_icmp .gt 27, 3, [], [])],
  [(17, .aload_n 0, 1, [], []), (18, .iload_n 2, 1, [], []), (19, .iload_n 1, 1, [], []), (20, .invokevirtual 75, 3, [1, 92, 3, 6, 584, 585, 586, 24, 587], []), (23, .iconst (-1), 1, [], []), (24, .if_icmp .ne 17, 3, [], []), (27, .aload_n 0, 1, [], []), (28, .iconst 0, 1, [], []), (29, .invokevirtual 72, 3, [1, 91, 2, 6, 505, 506, 507, 24, 508], [])],
  [(32, .bipush (-2), 2, [], []), (34, .if_icmp .ne 7, 3, [], []), (37, .iconst 1, 1, [], []), (38, .goto 4, 3, [], []), (41, .iconst 0, 1, [], []), (42, .istore 4, 2, [], []), (44, .iconst 1, 1, [], []), (45, .istore 5, 2, [], []), (47, .iconst 0, 1, [], [])],
  [(48, .istore 6, 2, [], []), (50, .iload 6, 2, [], [7, 8]), (52, .iload_n 1, 1, [], []), (53, .if_icmp .ge 104, 3, [], []), (56, .iload 4, 2, [], []), (58, .ifCond .eq 99, 3, [], []), (61, .aload_n 0, 1, [], []), (62, .iload_n 2, 1, [], []), (63, .iload 6, 2, [], [])],
  [(65, .iconst 0, 1, [], []), (66, .invokevirtual 78, 3, [1, 93, 4, 6, 592, 593, 594, 24, 595], []), (69, .istore 7, 2, [], []), (71, .aload_n 0, 1, [], []), (72, .iload_n 2, 1, [], []), (73, .iload 6, 2, [], []), (75, .iconst 1, 1, [], []), (76, .invokevirtual 78, 3, [1, 93, 4, 6, 592, 593, 594, 24, 595], []), (79, .istore 8, 2, [], [])],
  [(81, .iload_n 3, 1, [], []), (82, .ifCond .ne 25, 3, [], []), (85, .iload 7, 2, [], []), (87, .bipush (-5), 2, [], []), (89, .if_icmp .ne 14, 3, [], []), (92, .iload 8, 2, [], []), (94, .bipush (-5), 2, [], [])],
  [(96, .if_icmp .ne 7, 3, [], []), (99, .iconst 1, 1, [], []), (100, .goto 30, 3, [], []), (103, .iconst 0, 1, [], [4]), (104, .goto 26, 3, [], []), (107, .iload 7, 2, [], []), (109, .ifCond .lt 20, 3, [], [])],
  [(112, .iload 7, 2, [], []), (114, .iload 8, 2, [], []), (116, .if_icmp .gt 13, 3, [], []), (119, .iload 8, 2, [], []), (121, .iload_n 2, 1, [], []), (122, .if_icmp .gt 7, 3, [], []), (125, .iconst 1, 1, [], []), (126, .goto 4, 3, [], [])],
  [(129, .iconst 0, 1, [], [4]), (130, .istore 4, 2, [], [4]), (132, .iload 5, 2, [], []), (134, .ifCond .eq 14, 3, [], []), (137, .iload 7, 2, [], []), (139, .iload 8, 2, [], []), (141, .if_icmp .ne 7, 3, [], [])],
  [(144, .iconst 1, 1, [], []), (145, .goto 4, 3, [], []), (148, .iconst 0, 1, [], []), (149, .istore 5, 2, [], []), (151, .iinc 6 1, 3, [], []), (154, .goto (-104), 3, [], []), (157, .iload 4, 2, [], [0, 1, 2, 6, 7, 8]), (159, .ifCond .eq 34, 3, [], [])],
  [(162, .iload_n 3, 1, [], []), (163, .iconst 1, 1, [], []), (164, .if_icmp .ne 7, 3, [], []), (167, .iconst 1, 1, [], []), (168, .goto 4, 3, [], []), (171, .iconst 0, 1, [], []), (172, .iload_n 3, 1, [], [0, 1, 2, 4, 6, 7, 8]), (173, .ifCond .le 12, 3, [], [])],
  [(176, .iload 5, 2, [], []), (178, .ifCond .eq 7, 3, [], []), (181, .iconst 1, 1, [], []), (182, .goto 4, 3, [], []), (185, .iconst 0, 1, [], [0, 1, 2, 3, 4, 5, 6, 7, 8]), (186, .if_icmp .ne 7, 3, [], [0, 1, 2, 3, 4, 5, 6, 7, 8]), (189, .iconst 1, 1, [], []), (190, .goto 4, 3, [], [])],
  [(193, .iconst 0, 1, [], []), (194, .ireturn, 1, [1], [])]]
def mNo1 : MI := ("SometimesSums", ⟨"SometimesSums", "", ""⟩, ⟨#[]⟩, 0, none, fun _ => none)
def mNone : MI := ("", ⟨"", "", ""⟩, ⟨#[]⟩, 0, none, fun _ => none)
def mtl0 : List MI := [(RL, x, code, 9, some .boolean, cdT co0),
  (RX0, yX0_init, cX0_init, 2, none, cdT co1),
  (RX0, yX0_remember, cX0_remember, 3, some (.object "SometimesSums$Table"), cdT co2),
  (RX0, yX0_dropOldest, cX0_dropOldest, 3, none, cdT co3),
  (RX0, yX0_bringBack, cX0_bringBack, 2, some .boolean, cdT co4),
  (RX1, yX1_init, cX1_init, 1, none, cdT co5),
  (RX1, yX1_check, cX1_check, 4, none, cdT co6),
  (RX1, yX1_checkRegrouping, cX1_checkRegrouping, 7, none, cdT co7),
  (RX1, yX1_rests, cX1_rests, 4, some .int, cdT co8),
  (RX1, yX1_note, cX1_note, 5, none, cdT co9),
  (RX2, yX2_init, cX2_init, 1, none, cdT co10),
  (RX2, yX2_find, cX2_find, 5, none, cdT co11),
  (RX2, yX2_findTogether, cX2_findTogether, 7, none, cdT co12),
  (RX2, yX2_isSmallestPart, cX2_isSmallestPart, 2, some .boolean, cdT co13),
  (RX2, yX2_hasNoPartIn, cX2_hasNoPartIn, 3, some .boolean, cdT co14),
  (RX2, yX2_isSharp, cX2_isSharp, 3, some .boolean, cdT co15)]
def mtl1 : List MI := [(RX2, yX2_smallestParts, cX2_smallestParts, 3, some .int, cdT co16),
  (RX2, yX2_smallestPartsWithin, cX2_smallestPartsWithin, 4, some .int, cdT co17),
  (RX2, yX2_sharpThings, cX2_sharpThings, 3, some .int, cdT co18),
  (RX2, yX2_pairsApart, cX2_pairsApart, 4, some .int, cdT co19),
  (RX2, yX2_blocks, cX2_blocks, 3, some .int, cdT co20),
  (RX2, yX2_blockAt, cX2_blockAt, 4, some .int, cdT co21),
  (RX2, yX2_isBlock, cX2_isBlock, 4, some .boolean, cdT co22),
  (RX3, yX3_init, cX3_init, 1, none, cdT co23),
  (RX3, yX3_has, cX3_has, 2, some .boolean, cdT co24),
  (RX3, yX3_at, cX3_at, 3, some .int, cdT co25),
  (RX3, yX3_hasSum, cX3_hasSum, 3, some .boolean, cdT co26),
  (RX3, yX3_put, cX3_put, 4, none, cdT co27),
  (RX3, yX3_empty, cX3_empty, 3, none, cdT co28),
  (RX3, yX3_widen, cX3_widen, 3, none, cdT co29),
  (RX3, yX3_become, cX3_become, 2, none, cdT co30),
  (RX3, yX3_addRenumbered, cX3_addRenumbered, 6, none, cdT co31)]
def mtl2 : List MI := [(RX3, yX3_addChain, cX3_addChain, 6, none, cdT co32),
  (RX3, yX3_fillWithSets, cX3_fillWithSets, 5, none, cdT co33),
  (RX3, yX3_thingOfSet, cX3_thingOfSet, 2, some .int, cdT co34),
  (RX3, yX3_fillWithPairs, cX3_fillWithPairs, 6, none, cdT co35),
  (RX3, yX3_pairWith0, cX3_pairWith0, 1, some .int, cdT co36),
  (RX3, yX3_pairWith1, cX3_pairWith1, 2, some .int, cdT co37),
  (RX3, yX3_leastAddend, cX3_leastAddend, 4, some .int, cdT co38),
  (RX3, yX3_rest, cX3_rest, 2, some .int, cdT co39),
  (RX3, yX3_addends, cX3_addends, 4, some .int, cdT co40),
  (RX3, yX3_pairsWithSum, cX3_pairsWithSum, 4, some .int, cdT co41),
  (RX3, yX3_pairsNaming, cX3_pairsNaming, 8, some .int, cdT co42),
  (RX4, yX4_init, cX4_init, 1, none, cdT co43),
  mNo1,
  mNo1,
  mNo1,
  mNo1]
def mtl3 : List MI := [mNo1,
  mNo1,
  mNo1,
  mNo1,
  mNo1,
  (RX5, yX5_init, cX5_init, 1, none, cdT co53),
  (RX5, yX5_find, cX5_find, 4, none, cdT co54),
  (RX5, yX5_gatherPairs, cX5_gatherPairs, 5, none, cdT co55),
  (RX5, yX5_setFirstRanges, cX5_setFirstRanges, 3, none, cdT co56),
  (RX5, yX5_narrow, cX5_narrow, 9, some .boolean, cdT co57),
  (RX5, yX5_narrowBySum, cX5_narrowBySum, 5, some .boolean, cdT co58),
  (RX5, yX5_limit, cX5_limit, 5, some .boolean, cdT co59),
  (RX5, yX5_isEmpty, cX5_isEmpty, 2, some .boolean, cdT co60),
  (RX5, yX5_isOpen, cX5_isOpen, 2, some .boolean, cdT co61),
  (RX5, yX5_formGroups, cX5_formGroups, 2, none, cdT co62),
  (RX5, yX5_joinGroups, cX5_joinGroups, 4, none, cdT co63)]
def mtl4 : List MI := [(RX5, yX5_startRange, cX5_startRange, 4, none, cdT co64),
  (RX5, yX5_weigh, cX5_weigh, 6, none, cdT co65),
  (RX5, yX5_weighWith, cX5_weighWith, 6, none, cdT co66),
  (RX5, yX5_firstOpenThing, cX5_firstOpenThing, 4, some .int, cdT co67),
  (RX5, yX5_copyRanges, cX5_copyRanges, 3, none, cdT co68),
  (RX5, yX5_noteWeighing, cX5_noteWeighing, 5, none, cdT co69),
  (RX6, yX6_init, cX6_init, 1, none, cdT co70),
  (RX6, yX6_take, cX6_take, 4, some .int, cdT co71),
  (RX6, yX6_addThing, cX6_addThing, 1, some .int, cdT co72),
  (RX6, yX6_removeThing, cX6_removeThing, 4, some .int, cdT co73),
  (RX6, yX6_setSum, cX6_setSum, 5, some .int, cdT co74),
  (RX6, yX6_clearSum, cX6_clearSum, 4, some .int, cdT co75),
  mNo1,
  (RX6, yX6_glue, cX6_glue, 2, some .int, cdT co77),
  (RX6, yX6_twice, cX6_twice, 2, some .int, cdT co78),
  (RX6, yX6_swap, cX6_swap, 5, some .int, cdT co79)]
def mtl5 : List MI := [mNo1,
  mNo1,
  (RX6, yX6_undo, cX6_undo, 1, some .int, cdT co82),
  (RX6, yX6_keep, cX6_keep, 1, some .int, cdT co83),
  (RX6, yX6_restore, cX6_restore, 1, some .int, cdT co84),
  (RX6, yX6_sum, cX6_sum, 3, some .int, cdT co85),
  (RX6, yX6_difference, cX6_difference, 3, some .int, cdT co86),
  (RX6, yX6_broken, cX6_broken, 3, some .int, cdT co87),
  (RX6, yX6_thing, cX6_thing, 3, some .int, cdT co88),
  (RX6, yX6_sumOf, cX6_sumOf, 4, some .int, cdT co89),
  (RX6, yX6_block, cX6_block, 4, some .int, cdT co90),
  (RX6, yX6_weighings, cX6_weighings, 2, some .int, cdT co91),
  (RX6, yX6_weight, cX6_weight, 4, some .int, cdT co92),
  (RX6, yX6_range, cX6_range, 5, some .int, cdT co93),
  (RX6, yX6_count, cX6_count, 2, some .int, cdT co94),
  (RX6, yX6_bit, cX6_bit, 1, some .int, cdT co95)]
def mtl6 : List MI := [(RX6, yX6_isNothingOrWhole, cX6_isNothingOrWhole, 1, some .boolean, cdT co96),
  (RX6, yX6_thingOrNone, cX6_thingOrNone, 1, some .int, cdT co97),
  (RX6, yX6_isWholeWeight, cX6_isWholeWeight, 1, some .boolean, cdT co98),
  (RX6, yX6_weighingError, cX6_weighingError, 3, some .int, cdT co99),
  (RX6, yX6_timesAddable, cX6_timesAddable, 4, some .int, cdT co100),
  (RL, yL_low, cL_low, 2, some .int, cdT co101),
  (RL, yL_cell, cL_cell, 2, some .int, cdT co102),
  (RL, yL_act, cL_act, 8, some .int, cdT co103),
  (RL, yL_sums, cL_sums, 7, some .boolean, cdT co104),
  (RL, yL_blocks, cL_blocks, 6, some .boolean, cdT co105),
  (RL, yL_weights, cL_weights, 9, some .boolean, cdT co106)]
def mtls : List (List MI) := [mtl0, mtl1, mtl2, mtl3, mtl4, mtl5, mtl6]
def mt (k : Nat) : MI := (mtls.getD (k / 16) []).getD (k % 16) mNone
def mOwn (k : Nat) : String := (mt k).1
def mY (k : Nat) : MethodName := (mt k).2.1
def mB (k : Nat) : ByteArray := (mt k).2.2.1
def mL (k : Nat) : Nat := (mt k).2.2.2.1
def mRet (k : Nat) : Option FieldType := (mt k).2.2.2.2.1
def cd (k pc : Nat) : Option MC := (mt k).2.2.2.2.2 pc
def skds : List (List Nat) := [[0, 1], [0, 0, 0, 0, 0], [1, 1, 1, 1, 0], [0, 1], [0, 1, 0, 0, 1, 1, 1], [0, 1, 1, 1, 0, 0, 1, 1, 1, 1, 1, 1, 0], [1, 1, 2, 1, 1, 1, 1, 1, 1]]
def skd (ci k : Nat) : Nat := (skds.getD ci []).getD k 9
end
section
/-! the small machine runs: by steps and depth; then without steps -/
abbrev RS : Type := Option (Option MV × MW)
def entry (k : Nat) (as : List MV) : List (Option MV) := as.map some ++ List.replicate (mL k - as.length) none
def pushR (kind : Nat) (v : Option MV) (st : List MV) : Option (List MV) := match kind, v with
  | 0, none => some st
  | 1, some (.inl x) => some (.inl x :: st)
  | 2, some (.inr x) => some (.inr x :: st)
  | _, _ => none
def stepAt (X : Nat × (Nat → Int)) (k pc : Nat) (L : List (Option MV)) (st : List MV) (w : MW) : Option Act := match cd k pc with
  | none => none
  | some (i, n, u, ds) => mstep X i n u pc (kill ds L) st w
def ex (X : Nat × (Nat → Int)) : Nat → Nat → Nat → Nat → List (Option MV) → List MV → MW → RS
  | 0, _, _, _, _, _, _ => none
  | n + 1, d, k, pc, L, st, w => match stepAt X k pc L st w with
    | none => none
    | some (.inl (pc', L', st', w')) => ex X n d k pc' L' st' w'
    | some (.inr (.inl r)) => some r
    | some (.inr (.inr (kind, k', as, pc', L', st', w'))) => match d with
      | 0 => none
      | d + 1 => match ex X n d k' 0 (entry k' as) [] w' with
        | none => none
        | some r => match pushR kind r.1 st' with
          | none => none
          | some st2 => ex X n (d + 1) k pc' L' st2 r.2
theorem ex_step {X : Nat × (Nat → Int)} : ∀ (n d k pc : Nat) (L : List (Option MV)) (st : List MV) (w : MW) (r : Option MV × MW), ex X n d k pc L st w = some r → ex X (n + 1) d k pc L st w = some r := by
  intro n
  induction n with
  | zero => intro d k pc L st w r h; simp [ex] at h
  | succ n ih =>
    intro d k pc L st w r h
    rw [ex] at h ⊢
    cases hs : stepAt X k pc L st w with
    | none => rw [hs] at h; cases h
    | some a =>
      rw [hs] at h
      rcases a with ⟨pc', L', st', w'⟩ | r' | ⟨kind, k', as, pc', L', st', w'⟩
      · exact ih _ _ _ _ _ _ _ h
      · exact h
      · cases d with
        | zero => cases h
        | succ d =>
          dsimp only at h ⊢
          cases h1 : ex X n d k' 0 (entry k' as) [] w' with
          | none => rw [h1] at h; cases h
          | some r1 =>
            rw [h1] at h
            rw [ih _ _ _ _ _ _ _ h1]
            dsimp only at h ⊢
            cases h2 : pushR kind r1.1 st' with
            | none => rw [h2] at h; cases h
            | some st2 => rw [h2] at h; exact ih _ _ _ _ _ _ _ h
theorem ex_le {X : Nat × (Nat → Int)} {n m d k pc : Nat} {L : List (Option MV)} {st : List MV} {w : MW} {r : Option MV × MW} (hm : n ≤ m) (h : ex X n d k pc L st w = some r) : ex X m d k pc L st w = some r := by
  induction hm with
  | refl => exact h
  | step _ ih => exact ex_step _ _ _ _ _ _ _ _ ih
theorem ex_one {X : Nat × (Nat → Int)} {n m d k pc : Nat} {L : List (Option MV)} {st : List MV} {w : MW} {r q : Option MV × MW} (h : ex X n d k pc L st w = some r) (h2 : ex X m d k pc L st w = some q) : r = q := by
  have a := ex_le (Nat.le_max_left n m) h
  have b := ex_le (Nat.le_max_right n m) h2
  rw [a] at b
  exact Option.some.inj b
/-- the run, however many steps it takes -/
noncomputable def R (X : Nat × (Nat → Int)) (d k pc : Nat) (L : List (Option MV)) (st : List MV) (w : MW) : RS := by
  classical exact if h : ∃ r n, ex X n d k pc L st w = some r then some (Classical.choose h) else none
theorem R_iff {X : Nat × (Nat → Int)} {d k pc : Nat} {L : List (Option MV)} {st : List MV} {w : MW} {r : Option MV × MW} : R X d k pc L st w = some r ↔ ∃ n, ex X n d k pc L st w = some r := by
  unfold R
  constructor
  · intro h
    split at h
    · rename_i hx
      obtain ⟨n, hn⟩ := Classical.choose_spec hx
      exact ⟨n, by rw [hn]; exact h⟩
    · cases h
  · rintro ⟨n, hn⟩
    have hx : ∃ r n, ex X n d k pc L st w = some r := ⟨r, n, hn⟩
    rw [dif_pos hx]
    obtain ⟨m, hm⟩ := Classical.choose_spec hx
    rw [ex_one hm hn]
def rV (o : RS) (f : MW → RS) : RS := match o with
  | some (none, w) => f w
  | _ => none
def rI (o : RS) (f : Int → MW → RS) : RS := match o with
  | some (some (.inl x), w) => f x w
  | _ => none
def rR (o : RS) (f : Nat → MW → RS) : RS := match o with
  | some (some (.inr x), w) => f x w
  | _ => none
def rO (o : Option Nat) (f : Nat → RS) : RS := match o with
  | some x => f x
  | none => none
noncomputable def run (X : Nat × (Nat → Int)) (d k : Nat) (as : List MV) (w : MW) : RS := R X d k 0 (entry k as) [] w
noncomputable def fin (X : Nat × (Nat → Int)) (d k : Nat) : Option Act → RS
  | none => none
  | some (.inl (pc', L', st', w')) => R X d k pc' L' st' w'
  | some (.inr (.inl r)) => some r
  | some (.inr (.inr (kind, k', as, pc', L', st', w'))) => match d with
    | 0 => none
    | d + 1 => match kind with
      | 0 => rV (run X d k' as w') fun v => R X (d + 1) k pc' L' st' v
      | 1 => rI (run X d k' as w') fun x v => R X (d + 1) k pc' L' (.inl x :: st') v
      | 2 => rR (run X d k' as w') fun x v => R X (d + 1) k pc' L' (.inr x :: st') v
      | _ => none
theorem rs_ext {a b : RS} (h : ∀ r, a = some r ↔ b = some r) : a = b := by
  cases a with
  | none => cases b with
    | none => rfl
    | some y => exact absurd ((h y).mpr rfl) (by simp)
  | some x => exact ((h x).mp rfl).symm
theorem fin_call (X : Nat × (Nat → Int)) (d k kind k' : Nat) (as : List MV) (pc : Nat) (L : List (Option MV)) (st : List MV) (w : MW) (r : Option MV × MW) :
    fin X (d + 1) k (some (.inr (.inr (kind, k', as, pc, L, st, w)))) = some r ↔ ∃ q st2, run X d k' as w = some q ∧ pushR kind q.1 st = some st2 ∧ R X (d + 1) k pc L st2 q.2 = some r := by
  unfold fin
  match kind with
  | 0 =>
    dsimp only
    rcases run X d k' as w with _ | ⟨_ | x | x, v⟩ <;> simp [rV, pushR]
  | 1 =>
    dsimp only
    rcases run X d k' as w with _ | ⟨_ | x | x, v⟩ <;> simp [rI, pushR]
  | 2 =>
    dsimp only
    rcases run X d k' as w with _ | ⟨_ | x | x, v⟩ <;> simp [rR, pushR]
  | n + 3 =>
    dsimp only
    rcases run X d k' as w with _ | ⟨_ | x | x, v⟩ <;> simp [pushR]
theorem R_eq (X : Nat × (Nat → Int)) (d k pc : Nat) (L : List (Option MV)) (st : List MV) (w : MW) : R X d k pc L st w = fin X d k (stepAt X k pc L st w) := by
  apply rs_ext
  intro r
  rw [R_iff]
  constructor
  · rintro ⟨n, h⟩
    cases n with
    | zero => simp [ex] at h
    | succ n =>
      rw [ex] at h
      cases hs : stepAt X k pc L st w with
      | none => rw [hs] at h; cases h
      | some a =>
        rw [hs] at h
        rcases a with ⟨pc', L', st', w'⟩ | r' | ⟨kind, k', as, pc', L', st', w'⟩
        · exact R_iff.mpr ⟨n, h⟩
        · exact h
        · cases d with
          | zero => cases h
          | succ d =>
            dsimp only at h
            cases h1 : ex X n d k' 0 (entry k' as) [] w' with
            | none => rw [h1] at h; cases h
            | some r1 =>
              rw [h1] at h
              dsimp only at h
              cases h2 : pushR kind r1.1 st' with
              | none => rw [h2] at h; cases h
              | some st2 => rw [h2] at h; exact (fin_call ..).mpr ⟨r1, st2, R_iff.mpr ⟨n, h1⟩, h2, R_iff.mpr ⟨n, h⟩⟩
  · intro h
    cases hs : stepAt X k pc L st w with
    | none => rw [hs] at h; cases h
    | some a =>
      rw [hs] at h
      rcases a with ⟨pc', L', st', w'⟩ | r' | ⟨kind, k', as, pc', L', st', w'⟩
      · obtain ⟨n, hn⟩ := R_iff.mp h
        exact ⟨n + 1, by rw [ex, hs]; exact hn⟩
      · exact ⟨1, by rw [ex, hs]; exact h⟩
      · cases d with
        | zero => cases h
        | succ d =>
          obtain ⟨r1, st2, h1, h2, h3⟩ := (fin_call ..).mp h
          obtain ⟨n1, h1⟩ := R_iff.mp h1
          obtain ⟨n3, h3⟩ := R_iff.mp h3
          refine ⟨max n1 n3 + 1, ?_⟩
          rw [ex, hs]
          dsimp only
          rw [ex_le (Nat.le_max_left n1 n3) h1]
          dsimp only
          rw [h2]
          exact ex_le (Nat.le_max_right n1 n3) h3
theorem R_of {X : Nat × (Nat → Int)} {d k pc n : Nat} {i : Instr} {u ds : List Nat} {L L' : List (Option MV)} {st : List MV} {w : MW} (h : cd k pc = some (i, n, u, ds)) (hk : kill ds L = L') : R X d k pc L st w = fin X d k (mstep X i n u pc L' st w) := by
  rw [R_eq, stepAt, h]
  dsimp only
  rw [hk]
theorem fin_gd {X : Nat × (Nat → Int)} {d k : Nat} {c : Prop} [Decidable c] {o : Option Act} : fin X d k (gd c o) = gd c (fin X d k o) := by
  unfold gd
  split <;> rfl
theorem fin_ite {X : Nat × (Nat → Int)} {d k : Nat} {c : Prop} [Decidable c] {o o' : Option Act} : fin X d k (if c then o else o') = if c then fin X d k o else fin X d k o' := by
  split <;> rfl
end
section
/-! one row an instruction: what the run from there is, given what it is behind it -/
section Q
variable {X : Nat × (Nat → Int)} {d k pc q n : Nat} {u ds : List Nat} {L L1 : List (Option MV)} {st : List MV} {w : MW} {G : RS}
theorem q_iconst {z : Int} (h : cd k pc = some (.iconst z, n, u, ds)) (hk : kill ds L = L1) (hz : -1 ≤ z ∧ z ≤ 5) (hq : pc + 1 = q) (g : R X d k q L1 (.inl z :: st) w = G) : R X d k pc L st w = G := by subst hq; rw [R_of h hk]; simp only [mstep, gd, if_pos hz]; exact g
theorem q_bipush {z : Int} (h : cd k pc = some (.bipush z, n, u, ds)) (hk : kill ds L = L1) (hz : -128 ≤ z ∧ z ≤ 127) (hq : pc + 2 = q) (g : R X d k q L1 (.inl z :: st) w = G) : R X d k pc L st w = G := by subst hq; rw [R_of h hk]; simp only [mstep, gd, if_pos hz]; exact g
theorem q_sipush {z : Int} (h : cd k pc = some (.sipush z, n, u, ds)) (hk : kill ds L = L1) (hz : -32768 ≤ z ∧ z ≤ 32767) (hq : pc + 3 = q) (g : R X d k q L1 (.inl z :: st) w = G) : R X d k pc L st w = G := by subst hq; rw [R_of h hk]; simp only [mstep, gd, if_pos hz]; exact g
theorem q_iremv {x y : Int} (h : cd k pc = some (.irem, n, u, ds)) (hk : kill ds L = L1) (hq : pc + 1 = q) (g : R X d k q L1 (.inl (remI x y) :: st) w = G) : R X d k pc L (.inl y :: .inl x :: st) w = gd (y ≠ 0) G := by subst hq; subst g; rw [R_of h hk]; simp only [mstep, s2I, s1I]; exact fin_gd
theorem q_ldc {j v : Nat} {us : List Nat} {z : Int} (h : cd k pc = some (.ldc j, n, u, ds)) (hk : kill ds L = L1) (hu : u = v :: us) (hz : (v : Int) = z ∧ v ≤ 2147483647) (hq : pc + 2 = q) (g : R X d k q L1 (.inl z :: st) w = G) : R X d k pc L st w = G := by subst hq; subst hu; rw [R_of h hk]; simp only [mstep, gd, if_pos hz.2, hz.1]; exact g
theorem q_iload_n {j : Fin 4} {v : Int} (h : cd k pc = some (.iload_n j, n, u, ds)) (hk : kill ds L = L1) (hl : L1[(j : Nat)]? = some (some (.inl v))) (hq : pc + 1 = q) (g : R X d k q L1 (.inl v :: st) w = G) : R X d k pc L st w = G := by subst hq; rw [R_of h hk]; simp only [mstep, lgI, lgR, hl]; exact g
theorem q_iload {j : Nat} {v : Int} (h : cd k pc = some (.iload j, n, u, ds)) (hk : kill ds L = L1) (hl : L1[(j : Nat)]? = some (some (.inl v))) (hq : pc + 2 = q) (g : R X d k q L1 (.inl v :: st) w = G) : R X d k pc L st w = G := by subst hq; rw [R_of h hk]; simp only [mstep, lgI, lgR, hl]; exact g
theorem q_aload_n {j : Fin 4} {v : Nat} (h : cd k pc = some (.aload_n j, n, u, ds)) (hk : kill ds L = L1) (hl : L1[(j : Nat)]? = some (some (.inr v))) (hq : pc + 1 = q) (g : R X d k q L1 (.inr v :: st) w = G) : R X d k pc L st w = G := by subst hq; rw [R_of h hk]; simp only [mstep, lgI, lgR, hl]; exact g
theorem q_aload {j : Nat} {v : Nat} (h : cd k pc = some (.aload j, n, u, ds)) (hk : kill ds L = L1) (hl : L1[(j : Nat)]? = some (some (.inr v))) (hq : pc + 2 = q) (g : R X d k q L1 (.inr v :: st) w = G) : R X d k pc L st w = G := by subst hq; rw [R_of h hk]; simp only [mstep, lgI, lgR, hl]; exact g
theorem q_istore_n {j : Fin 4} {v : Int} {L2 : List (Option MV)} (h : cd k pc = some (.istore_n j, n, u, ds)) (hk : kill ds L = L1) (hj : Nat.blt (j : Nat) L1.length = true) (hl : L1.set (j : Nat) (some (.inl v)) = L2) (hq : pc + 1 = q) (g : R X d k q L2 st w = G) : R X d k pc L (.inl v :: st) w = G := by subst hq; subst hl; rw [R_of h hk]; simp only [mstep, s1I, s1R, gd, if_pos (show (j : Nat) < L1.length from Nat.le_of_ble_eq_true hj)]; exact g
theorem q_istore {j : Nat} {v : Int} {L2 : List (Option MV)} (h : cd k pc = some (.istore j, n, u, ds)) (hk : kill ds L = L1) (hj : Nat.blt (j : Nat) L1.length = true) (hl : L1.set (j : Nat) (some (.inl v)) = L2) (hq : pc + 2 = q) (g : R X d k q L2 st w = G) : R X d k pc L (.inl v :: st) w = G := by subst hq; subst hl; rw [R_of h hk]; simp only [mstep, s1I, s1R, gd, if_pos (show (j : Nat) < L1.length from Nat.le_of_ble_eq_true hj)]; exact g
theorem q_astore_n {j : Fin 4} {v : Nat} {L2 : List (Option MV)} (h : cd k pc = some (.astore_n j, n, u, ds)) (hk : kill ds L = L1) (hj : Nat.blt (j : Nat) L1.length = true) (hl : L1.set (j : Nat) (some (.inr v)) = L2) (hq : pc + 1 = q) (g : R X d k q L2 st w = G) : R X d k pc L (.inr v :: st) w = G := by subst hq; subst hl; rw [R_of h hk]; simp only [mstep, s1I, s1R, gd, if_pos (show (j : Nat) < L1.length from Nat.le_of_ble_eq_true hj)]; exact g
theorem q_astore {j : Nat} {v : Nat} {L2 : List (Option MV)} (h : cd k pc = some (.astore j, n, u, ds)) (hk : kill ds L = L1) (hj : Nat.blt (j : Nat) L1.length = true) (hl : L1.set (j : Nat) (some (.inr v)) = L2) (hq : pc + 2 = q) (g : R X d k q L2 st w = G) : R X d k pc L (.inr v :: st) w = G := by subst hq; subst hl; rw [R_of h hk]; simp only [mstep, s1I, s1R, gd, if_pos (show (j : Nat) < L1.length from Nat.le_of_ble_eq_true hj)]; exact g
theorem q_iadd {x y : Int} (h : cd k pc = some (.iadd, n, u, ds)) (hk : kill ds L = L1)  (hq : pc + 1 = q) (g : R X d k q L1 (.inl (wrap (x + y)) :: st) w = G) : R X d k pc L (.inl y :: .inl x :: st) w = G := by subst hq; exact (R_of h hk).trans g
theorem q_isub {x y : Int} (h : cd k pc = some (.isub, n, u, ds)) (hk : kill ds L = L1)  (hq : pc + 1 = q) (g : R X d k q L1 (.inl (wrap (x - y)) :: st) w = G) : R X d k pc L (.inl y :: .inl x :: st) w = G := by subst hq; exact (R_of h hk).trans g
theorem q_imul {x y : Int} (h : cd k pc = some (.imul, n, u, ds)) (hk : kill ds L = L1)  (hq : pc + 1 = q) (g : R X d k q L1 (.inl (wrap (x * y)) :: st) w = G) : R X d k pc L (.inl y :: .inl x :: st) w = G := by subst hq; exact (R_of h hk).trans g
theorem q_iand {x y : Int} (h : cd k pc = some (.iand, n, u, ds)) (hk : kill ds L = L1)  (hq : pc + 1 = q) (g : R X d k q L1 (.inl (andI x y) :: st) w = G) : R X d k pc L (.inl y :: .inl x :: st) w = G := by subst hq; exact (R_of h hk).trans g
theorem q_ior {x y : Int} (h : cd k pc = some (.ior, n, u, ds)) (hk : kill ds L = L1)  (hq : pc + 1 = q) (g : R X d k q L1 (.inl (orI x y) :: st) w = G) : R X d k pc L (.inl y :: .inl x :: st) w = G := by subst hq; exact (R_of h hk).trans g
theorem q_ixor {x y : Int} (h : cd k pc = some (.ixor, n, u, ds)) (hk : kill ds L = L1)  (hq : pc + 1 = q) (g : R X d k q L1 (.inl (xorI x y) :: st) w = G) : R X d k pc L (.inl y :: .inl x :: st) w = G := by subst hq; exact (R_of h hk).trans g
theorem q_ishl {x y : Int} (h : cd k pc = some (.ishl, n, u, ds)) (hk : kill ds L = L1)  (hq : pc + 1 = q) (g : R X d k q L1 (.inl (shlI x y) :: st) w = G) : R X d k pc L (.inl y :: .inl x :: st) w = G := by subst hq; exact (R_of h hk).trans g
theorem q_ishr {x y : Int} (h : cd k pc = some (.ishr, n, u, ds)) (hk : kill ds L = L1)  (hq : pc + 1 = q) (g : R X d k q L1 (.inl (shrI x y) :: st) w = G) : R X d k pc L (.inl y :: .inl x :: st) w = G := by subst hq; exact (R_of h hk).trans g
theorem q_iushr {x y : Int} (h : cd k pc = some (.iushr, n, u, ds)) (hk : kill ds L = L1)  (hq : pc + 1 = q) (g : R X d k q L1 (.inl (ushrI x y) :: st) w = G) : R X d k pc L (.inl y :: .inl x :: st) w = G := by subst hq; exact (R_of h hk).trans g
theorem q_idiv {x y : Int} (h : cd k pc = some (.idiv, n, u, ds)) (hk : kill ds L = L1) (hy : y ≠ 0) (hq : pc + 1 = q) (g : R X d k q L1 (.inl (divI x y) :: st) w = G) : R X d k pc L (.inl y :: .inl x :: st) w = G := by subst hq; rw [R_of h hk]; simp only [mstep, s2I, s1I, gd, if_pos hy]; exact g
theorem q_irem {x y : Int} (h : cd k pc = some (.irem, n, u, ds)) (hk : kill ds L = L1) (hy : y ≠ 0) (hq : pc + 1 = q) (g : R X d k q L1 (.inl (remI x y) :: st) w = G) : R X d k pc L (.inl y :: .inl x :: st) w = G := by subst hq; rw [R_of h hk]; simp only [mstep, s2I, s1I, gd, if_pos hy]; exact g
theorem q_i2c {x : Int} (h : cd k pc = some (.i2c, n, u, ds)) (hk : kill ds L = L1)  (hq : pc + 1 = q) (g : R X d k q L1 (.inl (chrI x) :: st) w = G) : R X d k pc L (.inl x :: st) w = G := by subst hq; exact (R_of h hk).trans g
theorem q_dup {v : MV} (h : cd k pc = some (.dup, n, u, ds)) (hk : kill ds L = L1)  (hq : pc + 1 = q) (g : R X d k q L1 (v :: v :: st) w = G) : R X d k pc L (v :: st) w = G := by subst hq; exact (R_of h hk).trans g
theorem q_dup2 {v v2 : MV} (h : cd k pc = some (.dup2, n, u, ds)) (hk : kill ds L = L1)  (hq : pc + 1 = q) (g : R X d k q L1 (v :: v2 :: v :: v2 :: st) w = G) : R X d k pc L (v :: v2 :: st) w = G := by subst hq; exact (R_of h hk).trans g
theorem q_pop {v : MV} (h : cd k pc = some (.pop, n, u, ds)) (hk : kill ds L = L1)  (hq : pc + 1 = q) (g : R X d k q L1 st w = G) : R X d k pc L (v :: st) w = G := by subst hq; exact (R_of h hk).trans g
theorem q_iinc {j : Nat} {z x : Int} {L2 : List (Option MV)} (h : cd k pc = some (.iinc j z, n, u, ds)) (hk : kill ds L = L1) (hl : L1[j]? = some (some (.inl x))) (hz : -32768 ≤ z ∧ z ≤ 32767) (h2 : L1.set j (some (.inl (wrap (x + z)))) = L2) (hq : pc + 3 = q) (g : R X d k q L2 st w = G) : R X d k pc L st w = G := by subst hq; subst h2; rw [R_of h hk]; simp only [mstep, lgI, hl, gd, if_pos (show j < L1.length ∧ -32768 ≤ z ∧ z ≤ 32767 from ⟨(List.getElem?_eq_some_iff.mp hl).1, hz⟩)]; exact g
theorem q_goto {off : Int} (h : cd k pc = some (.goto off, n, u, ds)) (hk : kill ds L = L1) (ho : 0 ≤ (pc : Int) + off) (hq : gto pc off = q) (g : R X d k q L1 st w = G) : R X d k pc L st w = G := by subst hq; rw [R_of h hk]; simp only [mstep, gd, if_pos ho]; exact g
theorem q_if_eq {off : Int} {q2 : Nat} {x : Int} {G2 : RS} (h : cd k pc = some (.ifCond .eq off, n, u, ds)) (hk : kill ds L = L1) (ho : 0 ≤ (pc : Int) + off) (hq : gto pc off = q) (hq2 : pc + 3 = q2) (g : R X d k q L1 st w = G) (g2 : R X d k q2 L1 st w = G2) : R X d k pc L (.inl x :: st) w = if x = 0 then G else G2 := by subst hq; subst hq2; subst g; subst g2; rw [R_of h hk]; simp only [mstep, s1I, gd, if_pos ho, tst, decide_eq_true_eq, fin_ite]; rfl
theorem q_icmp_eq {off : Int} {q2 : Nat} {x y : Int} {G2 : RS} (h : cd k pc = some (.if_icmp .eq off, n, u, ds)) (hk : kill ds L = L1) (ho : 0 ≤ (pc : Int) + off) (hq : gto pc off = q) (hq2 : pc + 3 = q2) (g : R X d k q L1 st w = G) (g2 : R X d k q2 L1 st w = G2) : R X d k pc L (.inl y :: .inl x :: st) w = if x = y then G else G2 := by subst hq; subst hq2; subst g; subst g2; rw [R_of h hk]; simp only [mstep, s2I, s1I, gd, if_pos ho, tst, decide_eq_true_eq, fin_ite]; rfl
theorem q_if_ne {off : Int} {q2 : Nat} {x : Int} {G2 : RS} (h : cd k pc = some (.ifCond .ne off, n, u, ds)) (hk : kill ds L = L1) (ho : 0 ≤ (pc : Int) + off) (hq : gto pc off = q) (hq2 : pc + 3 = q2) (g : R X d k q L1 st w = G) (g2 : R X d k q2 L1 st w = G2) : R X d k pc L (.inl x :: st) w = if x ≠ 0 then G else G2 := by subst hq; subst hq2; subst g; subst g2; rw [R_of h hk]; simp only [mstep, s1I, gd, if_pos ho, tst, decide_eq_true_eq, fin_ite]; rfl
theorem q_icmp_ne {off : Int} {q2 : Nat} {x y : Int} {G2 : RS} (h : cd k pc = some (.if_icmp .ne off, n, u, ds)) (hk : kill ds L = L1) (ho : 0 ≤ (pc : Int) + off) (hq : gto pc off = q) (hq2 : pc + 3 = q2) (g : R X d k q L1 st w = G) (g2 : R X d k q2 L1 st w = G2) : R X d k pc L (.inl y :: .inl x :: st) w = if x ≠ y then G else G2 := by subst hq; subst hq2; subst g; subst g2; rw [R_of h hk]; simp only [mstep, s2I, s1I, gd, if_pos ho, tst, decide_eq_true_eq, fin_ite]; rfl
theorem q_if_lt {off : Int} {q2 : Nat} {x : Int} {G2 : RS} (h : cd k pc = some (.ifCond .lt off, n, u, ds)) (hk : kill ds L = L1) (ho : 0 ≤ (pc : Int) + off) (hq : gto pc off = q) (hq2 : pc + 3 = q2) (g : R X d k q L1 st w = G) (g2 : R X d k q2 L1 st w = G2) : R X d k pc L (.inl x :: st) w = if x < 0 then G else G2 := by subst hq; subst hq2; subst g; subst g2; rw [R_of h hk]; simp only [mstep, s1I, gd, if_pos ho, tst, decide_eq_true_eq, fin_ite]; rfl
theorem q_icmp_lt {off : Int} {q2 : Nat} {x y : Int} {G2 : RS} (h : cd k pc = some (.if_icmp .lt off, n, u, ds)) (hk : kill ds L = L1) (ho : 0 ≤ (pc : Int) + off) (hq : gto pc off = q) (hq2 : pc + 3 = q2) (g : R X d k q L1 st w = G) (g2 : R X d k q2 L1 st w = G2) : R X d k pc L (.inl y :: .inl x :: st) w = if x < y then G else G2 := by subst hq; subst hq2; subst g; subst g2; rw [R_of h hk]; simp only [mstep, s2I, s1I, gd, if_pos ho, tst, decide_eq_true_eq, fin_ite]; rfl
theorem q_if_ge {off : Int} {q2 : Nat} {x : Int} {G2 : RS} (h : cd k pc = some (.ifCond .ge off, n, u, ds)) (hk : kill ds L = L1) (ho : 0 ≤ (pc : Int) + off) (hq : gto pc off = q) (hq2 : pc + 3 = q2) (g : R X d k q L1 st w = G) (g2 : R X d k q2 L1 st w = G2) : R X d k pc L (.inl x :: st) w = if 0 ≤ x then G else G2 := by subst hq; subst hq2; subst g; subst g2; rw [R_of h hk]; simp only [mstep, s1I, gd, if_pos ho, tst, decide_eq_true_eq, fin_ite]; rfl
theorem q_icmp_ge {off : Int} {q2 : Nat} {x y : Int} {G2 : RS} (h : cd k pc = some (.if_icmp .ge off, n, u, ds)) (hk : kill ds L = L1) (ho : 0 ≤ (pc : Int) + off) (hq : gto pc off = q) (hq2 : pc + 3 = q2) (g : R X d k q L1 st w = G) (g2 : R X d k q2 L1 st w = G2) : R X d k pc L (.inl y :: .inl x :: st) w = if y ≤ x then G else G2 := by subst hq; subst hq2; subst g; subst g2; rw [R_of h hk]; simp only [mstep, s2I, s1I, gd, if_pos ho, tst, decide_eq_true_eq, fin_ite]; rfl
theorem q_if_gt {off : Int} {q2 : Nat} {x : Int} {G2 : RS} (h : cd k pc = some (.ifCond .gt off, n, u, ds)) (hk : kill ds L = L1) (ho : 0 ≤ (pc : Int) + off) (hq : gto pc off = q) (hq2 : pc + 3 = q2) (g : R X d k q L1 st w = G) (g2 : R X d k q2 L1 st w = G2) : R X d k pc L (.inl x :: st) w = if 0 < x then G else G2 := by subst hq; subst hq2; subst g; subst g2; rw [R_of h hk]; simp only [mstep, s1I, gd, if_pos ho, tst, decide_eq_true_eq, fin_ite]; rfl
theorem q_icmp_gt {off : Int} {q2 : Nat} {x y : Int} {G2 : RS} (h : cd k pc = some (.if_icmp .gt off, n, u, ds)) (hk : kill ds L = L1) (ho : 0 ≤ (pc : Int) + off) (hq : gto pc off = q) (hq2 : pc + 3 = q2) (g : R X d k q L1 st w = G) (g2 : R X d k q2 L1 st w = G2) : R X d k pc L (.inl y :: .inl x :: st) w = if y < x then G else G2 := by subst hq; subst hq2; subst g; subst g2; rw [R_of h hk]; simp only [mstep, s2I, s1I, gd, if_pos ho, tst, decide_eq_true_eq, fin_ite]; rfl
theorem q_if_le {off : Int} {q2 : Nat} {x : Int} {G2 : RS} (h : cd k pc = some (.ifCond .le off, n, u, ds)) (hk : kill ds L = L1) (ho : 0 ≤ (pc : Int) + off) (hq : gto pc off = q) (hq2 : pc + 3 = q2) (g : R X d k q L1 st w = G) (g2 : R X d k q2 L1 st w = G2) : R X d k pc L (.inl x :: st) w = if x ≤ 0 then G else G2 := by subst hq; subst hq2; subst g; subst g2; rw [R_of h hk]; simp only [mstep, s1I, gd, if_pos ho, tst, decide_eq_true_eq, fin_ite]; rfl
theorem q_icmp_le {off : Int} {q2 : Nat} {x y : Int} {G2 : RS} (h : cd k pc = some (.if_icmp .le off, n, u, ds)) (hk : kill ds L = L1) (ho : 0 ≤ (pc : Int) + off) (hq : gto pc off = q) (hq2 : pc + 3 = q2) (g : R X d k q L1 st w = G) (g2 : R X d k q2 L1 st w = G2) : R X d k pc L (.inl y :: .inl x :: st) w = if x ≤ y then G else G2 := by subst hq; subst hq2; subst g; subst g2; rw [R_of h hk]; simp only [mstep, s2I, s1I, gd, if_pos ho, tst, decide_eq_true_eq, fin_ite]; rfl
def swt (x : Int) : List RS → Int → RS → RS
  | [], _, G => G
  | g :: r, z, G => if x = z then g else swt x r (z + 1) G
theorem q_switch {dflt hi : Int} {offs : Array Int} {x : Int} {gs : List RS} (h : cd k pc = some (.tableswitch dflt 0 hi offs, n, u, ds)) (hk : kill ds L = L1) (hd : 0 ≤ (pc : Int) + dflt ∧ hi + 1 = offs.size) (hs : (offs.toList.all fun o => decide (0 ≤ (pc : Int) + o)) = true) (hg : gs = offs.toList.map fun o => R X d k (gto pc o) L1 st w) (hq : gto pc dflt = q) (g : R X d k q L1 st w = G) : R X d k pc L (.inl x :: st) w = swt x gs 0 G := by
  subst hq; subst g; subst hg
  rw [R_of h hk]
  simp only [mstep, s1I]
  rw [fin_ite]
  obtain ⟨hd, hh⟩ := hd
  obtain ⟨l⟩ := offs
  simp only [List.size_toArray] at hh
  have key : ∀ (l : List Int) (z : Int), (l.all fun o => decide (0 ≤ (pc : Int) + o)) = true → swt x (l.map fun o => R X d k (gto pc o) L1 st w) z (R X d k (gto pc dflt) L1 st w) = if x < z ∨ z + l.length ≤ x then R X d k (gto pc dflt) L1 st w else fin X d k (match l[(x - z).toNat]? with
    | some off => gd (0 ≤ (pc : Int) + off) (aGo (gto pc off) L1 st w)
    | none => none) := by
    intro l
    induction l with
    | nil => intro z _; rw [if_pos (by simp only [List.length_nil]; omega)]; rfl
    | cons a l ih =>
      intro z ha
      simp only [List.all_cons, Bool.and_eq_true, decide_eq_true_eq] at ha
      simp only [List.map_cons, swt]
      by_cases hx : x = z
      · subst hx
        rw [if_pos rfl, if_neg (by simp only [List.length_cons]; omega)]
        simp only [Int.sub_self, Int.toNat_zero, List.getElem?_cons_zero, gd, if_pos ha.1]
        rfl
      · rw [if_neg hx, ih (z + 1) ha.2]
        by_cases hc : x < z + 1 ∨ z + 1 + l.length ≤ x
        · rw [if_pos hc, if_pos (by simp only [List.length_cons]; omega)]
        · rw [if_neg hc, if_neg (by simp only [List.length_cons]; omega)]
          have e : (x - z).toNat = (x - (z + 1)).toNat + 1 := by omega
          rw [e, List.getElem?_cons_succ]
  rw [key l 0 hs]
  by_cases hc : x < 0 ∨ hi < x
  · rw [if_pos hc, if_pos (by omega), fin_gd, gd, if_pos hd]
    rfl
  · rw [if_neg hc, if_neg (by omega)]
    simp only [List.getElem?_toArray]
    cases l[(x - 0).toNat]? <;> rfl
theorem q_getf {j ci f z cc : Nat} {a : Nat} (h : cd k pc = some (.getfield j, n, u, ds)) (hk : kill ds L = L1) (hu : u = [ci, f, 0, z]) (hc : 10 + ci = cc) (hq : pc + 3 = q) (g : R X d k q L1 (.inl (gi w a f) :: st) w = G) : R X d k pc L (.inr a :: st) w = gd (kd w a = cc) G := by subst hq; subst hc; subst hu; subst g; rw [R_of h hk]; simp only [mstep, s1R]; exact fin_gd
theorem q_getr {j ci f z cc : Nat} {a : Nat} {F : Nat → RS} (h : cd k pc = some (.getfield j, n, u, ds)) (hk : kill ds L = L1) (hu : u = [ci, f, 1, z]) (hc : 10 + ci = cc) (hq : pc + 3 = q) (g : ∀ b : Nat, R X d k q L1 (.inr b :: st) w = F b) : R X d k pc L (.inr a :: st) w = gd (kd w a = cc) (rO (gr w a f) F) := by subst hq; subst hc; subst hu; rw [R_of h hk]; simp only [mstep, s1R]; rw [fin_gd]; congr 1; cases gr w a f with
  | none => rfl
  | some b => exact g b
theorem q_putf {j ci f z cc : Nat} {a : Nat} {v : Int} (h : cd k pc = some (.putfield j, n, u, ds)) (hk : kill ds L = L1) (hu : u = [ci, f, 0, z]) (hc : 10 + ci = cc) (hq : pc + 3 = q) (g : R X d k q L1 st (si w a f v) = G) : R X d k pc L (.inl v :: .inr a :: st) w = gd (kd w a = cc) G := by subst hq; subst hc; subst hu; subst g; rw [R_of h hk]; simp only [mstep, s1I, s1R]; exact fin_gd
theorem q_putz {j ci f z cc : Nat} {a : Nat} {v : Int} (h : cd k pc = some (.putfield j, n, u, ds)) (hk : kill ds L = L1) (hu : u = [ci, f, 2, z]) (hc : 10 + ci = cc) (hq : pc + 3 = q) (g : R X d k q L1 st (si w a f v) = G) : R X d k pc L (.inl v :: .inr a :: st) w = gd (kd w a = cc ∧ (v = 0 ∨ v = 1)) G := by subst hq; subst hc; subst hu; subst g; rw [R_of h hk]; simp only [mstep, s1I, s1R]; exact fin_gd
theorem q_putr {j ci f z cc : Nat} {a v : Nat} (h : cd k pc = some (.putfield j, n, u, ds)) (hk : kill ds L = L1) (hu : u = [ci, f, 1, z]) (hc : 10 + ci = cc) (hq : pc + 3 = q) (g : R X d k q L1 st (sr w a f (some v)) = G) : R X d k pc L (.inr v :: .inr a :: st) w = gd (kd w a = cc) G := by subst hq; subst hc; subst hu; subst g; rw [R_of h hk]; simp only [mstep, s1I, s1R]; exact fin_gd
theorem q_iald {a : Nat} {j : Int} (h : cd k pc = some (.iaload, n, u, ds)) (hk : kill ds L = L1) (hu : u = []) (hq : pc + 1 = q) (g : R X d k q L1 (.inl (gi w a j.toNat) :: st) w = G) : R X d k pc L (.inl j :: .inr a :: st) w = gd (kd w a = 1 ∧ 0 ≤ j ∧ j < ln w a) G := by subst hq; subst hu; subst g; rw [R_of h hk]; simp only [mstep, s1I, s1R]; exact fin_gd
theorem q_sald {a : Nat} {j : Int} (h : cd k pc = some (.iaload, n, u, ds)) (hk : kill ds L = L1) (hu : u = [1]) (hq : pc + 1 = q) (g : R X d k q L1 (.inl (X.2 j.toNat) :: st) w = G) : R X d k pc L (.inl j :: .inr a :: st) w = gd (a = 0 ∧ 0 ≤ j ∧ j < X.1) G := by subst hq; subst hu; subst g; rw [R_of h hk]; simp only [mstep, s1I, s1R]; exact fin_gd
theorem q_cald {a : Nat} {j : Int} (h : cd k pc = some (.caload, n, u, ds)) (hk : kill ds L = L1) (hq : pc + 1 = q) (g : R X d k q L1 (.inl (gi w a j.toNat) :: st) w = G) : R X d k pc L (.inl j :: .inr a :: st) w = gd (kd w a = 2 ∧ 0 ≤ j ∧ j < ln w a) G := by subst hq; subst g; rw [R_of h hk]; simp only [mstep, s1I, s1R]; exact fin_gd
theorem q_aald {a : Nat} {j : Int} {F : Nat → RS} (h : cd k pc = some (.aaload, n, u, ds)) (hk : kill ds L = L1) (hq : pc + 1 = q) (g : ∀ b : Nat, R X d k q L1 (.inr b :: st) w = F b) : R X d k pc L (.inl j :: .inr a :: st) w = gd (kd w a = 3 ∧ 0 ≤ j ∧ j < ln w a) (rO (gr w a j.toNat) F) := by subst hq; rw [R_of h hk]; simp only [mstep, s1I, s1R]; rw [fin_gd]; congr 1; cases gr w a j.toNat with
  | none => rfl
  | some b => exact g b
theorem q_iast {a : Nat} {j v : Int} (h : cd k pc = some (.iastore, n, u, ds)) (hk : kill ds L = L1) (hq : pc + 1 = q) (g : R X d k q L1 st (si w a j.toNat v) = G) : R X d k pc L (.inl v :: .inl j :: .inr a :: st) w = gd (kd w a = 1 ∧ 0 ≤ j ∧ j < ln w a) G := by subst hq; subst g; rw [R_of h hk]; simp only [mstep, s1I, s1R]; exact fin_gd
theorem q_cast {a : Nat} {j v : Int} (h : cd k pc = some (.castore, n, u, ds)) (hk : kill ds L = L1) (hq : pc + 1 = q) (g : R X d k q L1 st (si w a j.toNat v) = G) : R X d k pc L (.inl v :: .inl j :: .inr a :: st) w = gd ((kd w a = 2 ∧ 0 ≤ j ∧ j < ln w a) ∧ 0 ≤ v ∧ v < 65536) G := by subst hq; subst g; rw [R_of h hk]; simp only [mstep, s1I, s1R]; exact fin_gd
theorem q_aast {a v : Nat} {j : Int} (h : cd k pc = some (.aastore, n, u, ds)) (hk : kill ds L = L1) (hq : pc + 1 = q) (g : R X d k q L1 st (sr w a j.toNat (some v)) = G) : R X d k pc L (.inr v :: .inl j :: .inr a :: st) w = gd ((kd w a = 3 ∧ 0 ≤ j ∧ j < ln w a) ∧ kd w v = 13) G := by subst hq; subst g; rw [R_of h hk]; simp only [mstep, s1I, s1R]; exact fin_gd
theorem q_alen {a : Nat} (h : cd k pc = some (.arraylength, n, u, ds)) (hk : kill ds L = L1) (hu : u = []) (hq : pc + 1 = q) (g : R X d k q L1 (.inl (ln w a) :: st) w = G) : R X d k pc L (.inr a :: st) w = gd (kd w a = 1 ∧ ln w a < 2147483648) G := by subst hq; subst hu; subst g; rw [R_of h hk]; simp only [mstep, s1I, s1R]; exact fin_gd
theorem q_slen {a : Nat} (h : cd k pc = some (.arraylength, n, u, ds)) (hk : kill ds L = L1) (hu : u = [1]) (hq : pc + 1 = q) (g : R X d k q L1 (.inl X.1 :: st) w = G) : R X d k pc L (.inr a :: st) w = gd (a = 0 ∧ X.1 < 2147483648) G := by subst hq; subst hu; subst g; rw [R_of h hk]; simp only [mstep, s1I, s1R]; exact fin_gd
theorem q_newi {j : Int} (h : cd k pc = some (.newarray .int, n, u, ds)) (hk : kill ds L = L1) (hj : 0 ≤ j ∧ j ≤ 1000) (hq : pc + 2 = q) (g : R X d k q L1 (.inr (nx w) :: st) (al w 1 j.toNat j.toNat) = G) : R X d k pc L (.inl j :: st) w = G := by subst hq; subst g; rw [R_of h hk]; simp only [mstep, s1I, gd, if_pos hj]; rfl
theorem q_newc {j : Int} (h : cd k pc = some (.newarray .char, n, u, ds)) (hk : kill ds L = L1) (hj : 0 ≤ j ∧ j ≤ 1000) (hq : pc + 2 = q) (g : R X d k q L1 (.inr (nx w) :: st) (al w 2 j.toNat j.toNat) = G) : R X d k pc L (.inl j :: st) w = G := by subst hq; subst g; rw [R_of h hk]; simp only [mstep, s1I, gd, if_pos hj]; rfl
theorem q_newq {i : Nat} {j : Int} (h : cd k pc = some (.anewarray i, n, u, ds)) (hk : kill ds L = L1) (hj : 0 ≤ j ∧ j ≤ 1000) (hq : pc + 3 = q) (g : R X d k q L1 (.inr (nx w) :: st) (al w 3 j.toNat j.toNat) = G) : R X d k pc L (.inl j :: st) w = G := by subst hq; subst g; rw [R_of h hk]; simp only [mstep, s1I, gd, if_pos hj]; rfl
theorem q_new {i ci nf : Nat} {us : List Nat} (h : cd k pc = some (.new i, n, u, ds)) (hk : kill ds L = L1) (hu : u = ci :: nf :: us) (hq : pc + 3 = q) (g : R X d k q L1 (.inr (nx w) :: st) (al w (10 + ci) 0 nf) = G) : R X d k pc L st w = G := by subst hq; subst hu; subst g; rw [R_of h hk]; rfl
theorem q_objinit {i a : Nat} {us : List Nat} (h : cd k pc = some (.invokespecial i, n, u, ds)) (hk : kill ds L = L1) (hu : u = 0 :: us) (hr : st.length ≤ 8) (hq : pc + 3 = q) (g : R X d k q L1 st w = G) : R X d k pc L (.inr a :: st) w = G := by subst hq; subst hu; subst g; rw [R_of h hk]; simp only [mstep, s1R, gd, if_pos hr]; rfl
theorem q_max {i : Nat} {x y : Int} {us : List Nat} (h : cd k pc = some (.invokestatic i, n, u, ds)) (hk : kill ds L = L1) (hu : u = 1 :: us) (hr : st.length ≤ 8) (hq : pc + 3 = q) (g : R X d k q L1 (.inl (maxI x y) :: st) w = G) : R X d k pc L (.inl y :: .inl x :: st) w = G := by subst hq; subst hu; subst g; rw [R_of h hk]; simp only [mstep, s2I, s1I, gd, if_pos hr]; rfl
theorem q_min {i : Nat} {x y : Int} {us : List Nat} (h : cd k pc = some (.invokestatic i, n, u, ds)) (hk : kill ds L = L1) (hu : u = 2 :: us) (hr : st.length ≤ 8) (hq : pc + 3 = q) (g : R X d k q L1 (.inl (minI x y) :: st) w = G) : R X d k pc L (.inl y :: .inl x :: st) w = G := by subst hq; subst hu; subst g; rw [R_of h hk]; simp only [mstep, s2I, s1I, gd, if_pos hr]; rfl
theorem q_copy {i a b : Nat} {sp tp j : Int} {us : List Nat} (h : cd k pc = some (.invokestatic i, n, u, ds)) (hk : kill ds L = L1) (hu : u = 3 :: us) (hr : st.length ≤ 8) (hq : pc + 3 = q) (g : R X d k q L1 st (cpw w a sp.toNat b tp.toNat j.toNat) = G) : R X d k pc L (.inl j :: .inl tp :: .inr b :: .inl sp :: .inr a :: st) w = gd (kd w a = 1 ∧ kd w b = 1 ∧ 0 ≤ sp ∧ 0 ≤ tp ∧ 0 ≤ j ∧ sp + j ≤ ln w a ∧ tp + j ≤ ln w b) G := by
  subst hq; subst hu; subst g
  rw [R_of h hk]
  simp only [mstep, s2I, s1I, s1R]
  rw [fin_gd]
  simp only [gd, hr, true_and]
  rfl
theorem q_iret {x : Int} {us : List Nat} (h : cd k pc = some (.ireturn, n, u, ds)) (hk : kill ds L = L1) (hu : u = 0 :: us) : R X d k pc L [.inl x] w = some (some (.inl x), w) := by subst hu; rw [R_of h hk]; rfl
theorem q_zret {x : Int} {us : List Nat} (h : cd k pc = some (.ireturn, n, u, ds)) (hk : kill ds L = L1) (hu : u = 1 :: us) : R X d k pc L [.inl x] w = gd (x = 0 ∨ x = 1) (some (some (.inl x), w)) := by subst hu; rw [R_of h hk]; simp only [mstep, s1I]; rw [fin_gd]; simp only [gd, true_and]; rfl
theorem q_zret0 {us : List Nat} (h : cd k pc = some (.ireturn, n, u, ds)) (hk : kill ds L = L1) (hu : u = 1 :: us) : R X d k pc L [.inl 0] w = some (some (.inl 0), w) := by subst hu; rw [R_of h hk]; rfl
theorem q_zret1 {us : List Nat} (h : cd k pc = some (.ireturn, n, u, ds)) (hk : kill ds L = L1) (hu : u = 1 :: us) : R X d k pc L [.inl 1] w = some (some (.inl 1), w) := by subst hu; rw [R_of h hk]; rfl
theorem q_aret {x : Nat} (h : cd k pc = some (.areturn, n, u, ds)) (hk : kill ds L = L1)  : R X d k pc L [.inr x] w = some (some (.inr x), w) := by rw [R_of h hk]; rfl
theorem q_vret  (h : cd k pc = some (.return_, n, u, ds)) (hk : kill ds L = L1)  : R X d k pc L [] w = some (none, w) := by rw [R_of h hk]; rfl
end Q
section QC
variable {X : Nat × (Nat → Int)} {d k pc q n : Nat} {u ds : List Nat} {L L1 : List (Option MV)} {st s2 : List MV} {w : MW}
theorem mc_virt {kind k1 m ci : Nat} {as : List MV} {b : Nat} (hn : (Nat.ble m st.length && Nat.ble s2.length 8) = true) (ha : (st.take m).reverse = .inr b :: as) (hs : st.drop m = s2) : mcall kind k1 m ci true pc L st w = gd (kd w b = 10 + ci) (aCall kind k1 (.inr b :: as) (pc + 3) L s2 w) := by
  subst hs
  simp only [Bool.and_eq_true, Nat.ble_eq] at hn
  unfold mcall
  rw [ha]
  simp only [gd, if_pos hn]
theorem mc_stat {kind k1 m ci : Nat} {as : List MV} (hn : (Nat.ble m st.length && Nat.ble s2.length 8) = true) (ha : (st.take m).reverse = as) (hs : st.drop m = s2) : mcall kind k1 m ci false pc L st w = aCall kind k1 as (pc + 3) L s2 w := by
  subst hs; subst ha
  simp only [Bool.and_eq_true, Nat.ble_eq] at hn
  unfold mcall
  simp only [gd, if_pos hn]
theorem q_callVv {i k1 m ci b cc : Nat} {as : List MV} {us : List Nat} {F : MW → RS} (h : cd k pc = some (.invokevirtual i, n, u, ds)) (hk : kill ds L = L1) (hu : u = 0 :: k1 :: m :: ci :: us) (hc : 10 + ci = cc) (hn : (Nat.ble m st.length && Nat.ble s2.length 8) = true) (ha : (st.take m).reverse = .inr b :: as) (hs : st.drop m = s2) (hq : pc + 3 = q) (g : ∀ v : MW, R X (d + 1) k q L1 s2 v = F v) : R X (d + 1) k pc L st w = gd (kd w b = cc) (rV (run X d k1 (.inr b :: as) w) F) := by
  subst hq; subst hu; subst hc; rw [R_of h hk]; simp only [mstep]; rw [mc_virt hn ha hs, fin_gd]; congr 1; show rV _ _ = _; congr 1; funext v; exact g v
theorem q_callIv {i k1 m ci b cc : Nat} {as : List MV} {us : List Nat} {F : MW → RS} (h : cd k pc = some (.invokespecial i, n, u, ds)) (hk : kill ds L = L1) (hu : u = 1 :: k1 :: m :: ci :: us) (hc : 10 + ci = cc) (hn : (Nat.ble m st.length && Nat.ble s2.length 8) = true) (ha : (st.take m).reverse = .inr b :: as) (hs : st.drop m = s2) (hq : pc + 3 = q) (g : ∀ v : MW, R X (d + 1) k q L1 s2 v = F v) : R X (d + 1) k pc L st w = gd (kd w b = cc) (rV (run X d k1 (.inr b :: as) w) F) := by
  subst hq; subst hu; subst hc; rw [R_of h hk]; simp only [mstep]; rw [mc_virt hn ha hs, fin_gd]; congr 1; show rV _ _ = _; congr 1; funext v; exact g v
theorem q_callJv {i k1 m ci b cc : Nat} {as : List MV} {us : List Nat} {F : MW → RS} (h : cd k pc = some (.invokespecial i, n, u, ds)) (hk : kill ds L = L1) (hu : u = 2 :: k1 :: m :: ci :: us) (hc : 10 + ci = cc) (hn : (Nat.ble m st.length && Nat.ble s2.length 8) = true) (ha : (st.take m).reverse = .inr b :: as) (hs : st.drop m = s2) (hq : pc + 3 = q) (g : ∀ v : MW, R X (d + 1) k q L1 s2 v = F v) : R X (d + 1) k pc L st w = gd (kd w b = cc) (rV (run X d k1 (.inr b :: as) w) F) := by
  subst hq; subst hu; subst hc; rw [R_of h hk]; simp only [mstep]; rw [mc_virt hn ha hs, fin_gd]; congr 1; show rV _ _ = _; congr 1; funext v; exact g v
theorem q_callSv {i k1 m : Nat} {as : List MV} {us : List Nat} {F : MW → RS} (h : cd k pc = some (.invokestatic i, n, u, ds)) (hk : kill ds L = L1) (hu : u = 0 :: 0 :: k1 :: m :: us) (hn : (Nat.ble m st.length && Nat.ble s2.length 8) = true) (ha : (st.take m).reverse = as) (hs : st.drop m = s2) (hq : pc + 3 = q) (g : ∀ v : MW, R X (d + 1) k q L1 s2 v = F v) : R X (d + 1) k pc L st w = rV (run X d k1 as w) F := by
  subst hq; subst hu; rw [R_of h hk]; simp only [mstep]; rw [mc_stat hn ha hs]; show rV _ _ = _; congr 1; funext v; exact g v
theorem q_callTv {i k1 m : Nat} {as : List MV} {us : List Nat} {F : MW → RS} (h : cd k pc = some (.invokestatic i, n, u, ds)) (hk : kill ds L = L1) (hu : u = 4 :: 0 :: k1 :: m :: us) (hn : (Nat.ble m st.length && Nat.ble s2.length 8) = true) (ha : (st.take m).reverse = as) (hs : st.drop m = s2) (hq : pc + 3 = q) (g : ∀ v : MW, R X (d + 1) k q L1 s2 v = F v) : R X (d + 1) k pc L st w = rV (run X d k1 as w) F := by
  subst hq; subst hu; rw [R_of h hk]; simp only [mstep]; rw [mc_stat hn ha hs]; show rV _ _ = _; congr 1; funext v; exact g v
theorem q_callVi {i k1 m ci b cc : Nat} {as : List MV} {us : List Nat} {F : Int → MW → RS} (h : cd k pc = some (.invokevirtual i, n, u, ds)) (hk : kill ds L = L1) (hu : u = 1 :: k1 :: m :: ci :: us) (hc : 10 + ci = cc) (hn : (Nat.ble m st.length && Nat.ble s2.length 8) = true) (ha : (st.take m).reverse = .inr b :: as) (hs : st.drop m = s2) (hq : pc + 3 = q) (g : ∀ (x : Int) (v : MW), R X (d + 1) k q L1 (.inl x :: s2) v = F x v) : R X (d + 1) k pc L st w = gd (kd w b = cc) (rI (run X d k1 (.inr b :: as) w) F) := by
  subst hq; subst hu; subst hc; rw [R_of h hk]; simp only [mstep]; rw [mc_virt hn ha hs, fin_gd]; congr 1; show rI _ _ = _; congr 1; funext x v; exact g x v
theorem q_callSi {i k1 m : Nat} {as : List MV} {us : List Nat} {F : Int → MW → RS} (h : cd k pc = some (.invokestatic i, n, u, ds)) (hk : kill ds L = L1) (hu : u = 0 :: 1 :: k1 :: m :: us) (hn : (Nat.ble m st.length && Nat.ble s2.length 8) = true) (ha : (st.take m).reverse = as) (hs : st.drop m = s2) (hq : pc + 3 = q) (g : ∀ (x : Int) (v : MW), R X (d + 1) k q L1 (.inl x :: s2) v = F x v) : R X (d + 1) k pc L st w = rI (run X d k1 as w) F := by
  subst hq; subst hu; rw [R_of h hk]; simp only [mstep]; rw [mc_stat hn ha hs]; show rI _ _ = _; congr 1; funext x v; exact g x v
theorem q_callTi {i k1 m : Nat} {as : List MV} {us : List Nat} {F : Int → MW → RS} (h : cd k pc = some (.invokestatic i, n, u, ds)) (hk : kill ds L = L1) (hu : u = 4 :: 1 :: k1 :: m :: us) (hn : (Nat.ble m st.length && Nat.ble s2.length 8) = true) (ha : (st.take m).reverse = as) (hs : st.drop m = s2) (hq : pc + 3 = q) (g : ∀ (x : Int) (v : MW), R X (d + 1) k q L1 (.inl x :: s2) v = F x v) : R X (d + 1) k pc L st w = rI (run X d k1 as w) F := by
  subst hq; subst hu; rw [R_of h hk]; simp only [mstep]; rw [mc_stat hn ha hs]; show rI _ _ = _; congr 1; funext x v; exact g x v
theorem q_callVr {i k1 m ci b cc : Nat} {as : List MV} {us : List Nat} {F : Nat → MW → RS} (h : cd k pc = some (.invokevirtual i, n, u, ds)) (hk : kill ds L = L1) (hu : u = 2 :: k1 :: m :: ci :: us) (hc : 10 + ci = cc) (hn : (Nat.ble m st.length && Nat.ble s2.length 8) = true) (ha : (st.take m).reverse = .inr b :: as) (hs : st.drop m = s2) (hq : pc + 3 = q) (g : ∀ (x : Nat) (v : MW), R X (d + 1) k q L1 (.inr x :: s2) v = F x v) : R X (d + 1) k pc L st w = gd (kd w b = cc) (rR (run X d k1 (.inr b :: as) w) F) := by
  subst hq; subst hu; subst hc; rw [R_of h hk]; simp only [mstep]; rw [mc_virt hn ha hs, fin_gd]; congr 1; show rR _ _ = _; congr 1; funext x v; exact g x v
theorem q_callSr {i k1 m : Nat} {as : List MV} {us : List Nat} {F : Nat → MW → RS} (h : cd k pc = some (.invokestatic i, n, u, ds)) (hk : kill ds L = L1) (hu : u = 0 :: 2 :: k1 :: m :: us) (hn : (Nat.ble m st.length && Nat.ble s2.length 8) = true) (ha : (st.take m).reverse = as) (hs : st.drop m = s2) (hq : pc + 3 = q) (g : ∀ (x : Nat) (v : MW), R X (d + 1) k q L1 (.inr x :: s2) v = F x v) : R X (d + 1) k pc L st w = rR (run X d k1 as w) F := by
  subst hq; subst hu; rw [R_of h hk]; simp only [mstep]; rw [mc_stat hn ha hs]; show rR _ _ = _; congr 1; funext x v; exact g x v
theorem q_callTr {i k1 m : Nat} {as : List MV} {us : List Nat} {F : Nat → MW → RS} (h : cd k pc = some (.invokestatic i, n, u, ds)) (hk : kill ds L = L1) (hu : u = 4 :: 2 :: k1 :: m :: us) (hn : (Nat.ble m st.length && Nat.ble s2.length 8) = true) (ha : (st.take m).reverse = as) (hs : st.drop m = s2) (hq : pc + 3 = q) (g : ∀ (x : Nat) (v : MW), R X (d + 1) k q L1 (.inr x :: s2) v = F x v) : R X (d + 1) k pc L st w = rR (run X d k1 as w) F := by
  subst hq; subst hu; rw [R_of h hk]; simp only [mstep]; rw [mc_stat hn ha hs]; show rR _ _ = _; congr 1; funext x v; exact g x v
end QC
theorem q_kill {X : Nat × (Nat → Int)} {d k pc n : Nat} {i : Instr} {u ds : List Nat} {L L1 : List (Option MV)} {st : List MV} {w : MW} {G : RS} (h : cd k pc = some (i, n, u, ds)) (hk : kill ds L = L1) (hk2 : kill ds L1 = L1) (g : R X d k pc L1 st w = G) : R X d k pc L st w = G := by
  rw [R_of h hk]
  rw [R_of h hk2] at g
  exact g
section QP
variable {X : Nat × (Nat → Int)} {d k pc q n : Nat} {u : List Nat} {L : List (Option MV)} {st s2 : List MV} {w : MW} {G : RS}
theorem p_iconst {z : Int} (h : cd k pc = some (.iconst z, n, u, [])) (hz : -1 ≤ z ∧ z ≤ 5) (hq : pc + 1 = q) (g : R X d k q L (.inl z :: st) w = G) : R X d k pc L st w = G := q_iconst h rfl hz hq g
theorem p_bipush {z : Int} (h : cd k pc = some (.bipush z, n, u, [])) (hz : -128 ≤ z ∧ z ≤ 127) (hq : pc + 2 = q) (g : R X d k q L (.inl z :: st) w = G) : R X d k pc L st w = G := q_bipush h rfl hz hq g
theorem p_sipush {z : Int} (h : cd k pc = some (.sipush z, n, u, [])) (hz : -32768 ≤ z ∧ z ≤ 32767) (hq : pc + 3 = q) (g : R X d k q L (.inl z :: st) w = G) : R X d k pc L st w = G := q_sipush h rfl hz hq g
theorem p_iremv {x y : Int} (h : cd k pc = some (.irem, n, u, [])) (hq : pc + 1 = q) (g : R X d k q L (.inl (remI x y) :: st) w = G) : R X d k pc L (.inl y :: .inl x :: st) w = gd (y ≠ 0) G := q_iremv h rfl hq g
theorem p_ldc {j v : Nat} {us : List Nat} {z : Int} (h : cd k pc = some (.ldc j, n, u, [])) (hu : u = v :: us) (hz : (v : Int) = z ∧ v ≤ 2147483647) (hq : pc + 2 = q) (g : R X d k q L (.inl z :: st) w = G) : R X d k pc L st w = G := q_ldc h rfl hu hz hq g
theorem p_iload_n {j : Fin 4} {v : Int} (h : cd k pc = some (.iload_n j, n, u, [])) (hl : L[(j : Nat)]? = some (some (.inl v))) (hq : pc + 1 = q) (g : R X d k q L (.inl v :: st) w = G) : R X d k pc L st w = G := q_iload_n h rfl hl hq g
theorem p_iload {j : Nat} {v : Int} (h : cd k pc = some (.iload j, n, u, [])) (hl : L[(j : Nat)]? = some (some (.inl v))) (hq : pc + 2 = q) (g : R X d k q L (.inl v :: st) w = G) : R X d k pc L st w = G := q_iload h rfl hl hq g
theorem p_aload_n {j : Fin 4} {v : Nat} (h : cd k pc = some (.aload_n j, n, u, [])) (hl : L[(j : Nat)]? = some (some (.inr v))) (hq : pc + 1 = q) (g : R X d k q L (.inr v :: st) w = G) : R X d k pc L st w = G := q_aload_n h rfl hl hq g
theorem p_aload {j : Nat} {v : Nat} (h : cd k pc = some (.aload j, n, u, [])) (hl : L[(j : Nat)]? = some (some (.inr v))) (hq : pc + 2 = q) (g : R X d k q L (.inr v :: st) w = G) : R X d k pc L st w = G := q_aload h rfl hl hq g
theorem p_istore_n {j : Fin 4} {v : Int} {L2 : List (Option MV)} (h : cd k pc = some (.istore_n j, n, u, [])) (hj : Nat.blt (j : Nat) L.length = true) (hl : L.set (j : Nat) (some (.inl v)) = L2) (hq : pc + 1 = q) (g : R X d k q L2 st w = G) : R X d k pc L (.inl v :: st) w = G := q_istore_n h rfl hj hl hq g
theorem p_istore {j : Nat} {v : Int} {L2 : List (Option MV)} (h : cd k pc = some (.istore j, n, u, [])) (hj : Nat.blt (j : Nat) L.length = true) (hl : L.set (j : Nat) (some (.inl v)) = L2) (hq : pc + 2 = q) (g : R X d k q L2 st w = G) : R X d k pc L (.inl v :: st) w = G := q_istore h rfl hj hl hq g
theorem p_astore_n {j : Fin 4} {v : Nat} {L2 : List (Option MV)} (h : cd k pc = some (.astore_n j, n, u, [])) (hj : Nat.blt (j : Nat) L.length = true) (hl : L.set (j : Nat) (some (.inr v)) = L2) (hq : pc + 1 = q) (g : R X d k q L2 st w = G) : R X d k pc L (.inr v :: st) w = G := q_astore_n h rfl hj hl hq g
theorem p_astore {j : Nat} {v : Nat} {L2 : List (Option MV)} (h : cd k pc = some (.astore j, n, u, [])) (hj : Nat.blt (j : Nat) L.length = true) (hl : L.set (j : Nat) (some (.inr v)) = L2) (hq : pc + 2 = q) (g : R X d k q L2 st w = G) : R X d k pc L (.inr v :: st) w = G := q_astore h rfl hj hl hq g
theorem p_iadd {x y : Int} (h : cd k pc = some (.iadd, n, u, []))  (hq : pc + 1 = q) (g : R X d k q L (.inl (wrap (x + y)) :: st) w = G) : R X d k pc L (.inl y :: .inl x :: st) w = G := q_iadd h rfl hq g
theorem p_isub {x y : Int} (h : cd k pc = some (.isub, n, u, []))  (hq : pc + 1 = q) (g : R X d k q L (.inl (wrap (x - y)) :: st) w = G) : R X d k pc L (.inl y :: .inl x :: st) w = G := q_isub h rfl hq g
theorem p_imul {x y : Int} (h : cd k pc = some (.imul, n, u, []))  (hq : pc + 1 = q) (g : R X d k q L (.inl (wrap (x * y)) :: st) w = G) : R X d k pc L (.inl y :: .inl x :: st) w = G := q_imul h rfl hq g
theorem p_iand {x y : Int} (h : cd k pc = some (.iand, n, u, []))  (hq : pc + 1 = q) (g : R X d k q L (.inl (andI x y) :: st) w = G) : R X d k pc L (.inl y :: .inl x :: st) w = G := q_iand h rfl hq g
theorem p_ior {x y : Int} (h : cd k pc = some (.ior, n, u, []))  (hq : pc + 1 = q) (g : R X d k q L (.inl (orI x y) :: st) w = G) : R X d k pc L (.inl y :: .inl x :: st) w = G := q_ior h rfl hq g
theorem p_ixor {x y : Int} (h : cd k pc = some (.ixor, n, u, []))  (hq : pc + 1 = q) (g : R X d k q L (.inl (xorI x y) :: st) w = G) : R X d k pc L (.inl y :: .inl x :: st) w = G := q_ixor h rfl hq g
theorem p_ishl {x y : Int} (h : cd k pc = some (.ishl, n, u, []))  (hq : pc + 1 = q) (g : R X d k q L (.inl (shlI x y) :: st) w = G) : R X d k pc L (.inl y :: .inl x :: st) w = G := q_ishl h rfl hq g
theorem p_ishr {x y : Int} (h : cd k pc = some (.ishr, n, u, []))  (hq : pc + 1 = q) (g : R X d k q L (.inl (shrI x y) :: st) w = G) : R X d k pc L (.inl y :: .inl x :: st) w = G := q_ishr h rfl hq g
theorem p_iushr {x y : Int} (h : cd k pc = some (.iushr, n, u, []))  (hq : pc + 1 = q) (g : R X d k q L (.inl (ushrI x y) :: st) w = G) : R X d k pc L (.inl y :: .inl x :: st) w = G := q_iushr h rfl hq g
theorem p_idiv {x y : Int} (h : cd k pc = some (.idiv, n, u, [])) (hy : y ≠ 0) (hq : pc + 1 = q) (g : R X d k q L (.inl (divI x y) :: st) w = G) : R X d k pc L (.inl y :: .inl x :: st) w = G := q_idiv h rfl hy hq g
theorem p_irem {x y : Int} (h : cd k pc = some (.irem, n, u, [])) (hy : y ≠ 0) (hq : pc + 1 = q) (g : R X d k q L (.inl (remI x y) :: st) w = G) : R X d k pc L (.inl y :: .inl x :: st) w = G := q_irem h rfl hy hq g
theorem p_i2c {x : Int} (h : cd k pc = some (.i2c, n, u, []))  (hq : pc + 1 = q) (g : R X d k q L (.inl (chrI x) :: st) w = G) : R X d k pc L (.inl x :: st) w = G := q_i2c h rfl hq g
theorem p_dup {v : MV} (h : cd k pc = some (.dup, n, u, []))  (hq : pc + 1 = q) (g : R X d k q L (v :: v :: st) w = G) : R X d k pc L (v :: st) w = G := q_dup h rfl hq g
theorem p_dup2 {v v2 : MV} (h : cd k pc = some (.dup2, n, u, []))  (hq : pc + 1 = q) (g : R X d k q L (v :: v2 :: v :: v2 :: st) w = G) : R X d k pc L (v :: v2 :: st) w = G := q_dup2 h rfl hq g
theorem p_pop {v : MV} (h : cd k pc = some (.pop, n, u, []))  (hq : pc + 1 = q) (g : R X d k q L st w = G) : R X d k pc L (v :: st) w = G := q_pop h rfl hq g
theorem p_iinc {j : Nat} {z x : Int} {L2 : List (Option MV)} (h : cd k pc = some (.iinc j z, n, u, [])) (hl : L[j]? = some (some (.inl x))) (hz : -32768 ≤ z ∧ z ≤ 32767) (h2 : L.set j (some (.inl (wrap (x + z)))) = L2) (hq : pc + 3 = q) (g : R X d k q L2 st w = G) : R X d k pc L st w = G := q_iinc h rfl hl hz h2 hq g
theorem p_goto {off : Int} (h : cd k pc = some (.goto off, n, u, [])) (ho : 0 ≤ (pc : Int) + off) (hq : gto pc off = q) (g : R X d k q L st w = G) : R X d k pc L st w = G := q_goto h rfl ho hq g
theorem p_if_eq {off : Int} {q2 : Nat} {x : Int} {G2 : RS} (h : cd k pc = some (.ifCond .eq off, n, u, [])) (ho : 0 ≤ (pc : Int) + off) (hq : gto pc off = q) (hq2 : pc + 3 = q2) (g : R X d k q L st w = G) (g2 : R X d k q2 L st w = G2) : R X d k pc L (.inl x :: st) w = if x = 0 then G else G2 := q_if_eq h rfl ho hq hq2 g g2
theorem p_icmp_eq {off : Int} {q2 : Nat} {x y : Int} {G2 : RS} (h : cd k pc = some (.if_icmp .eq off, n, u, [])) (ho : 0 ≤ (pc : Int) + off) (hq : gto pc off = q) (hq2 : pc + 3 = q2) (g : R X d k q L st w = G) (g2 : R X d k q2 L st w = G2) : R X d k pc L (.inl y :: .inl x :: st) w = if x = y then G else G2 := q_icmp_eq h rfl ho hq hq2 g g2
theorem p_if_ne {off : Int} {q2 : Nat} {x : Int} {G2 : RS} (h : cd k pc = some (.ifCond .ne off, n, u, [])) (ho : 0 ≤ (pc : Int) + off) (hq : gto pc off = q) (hq2 : pc + 3 = q2) (g : R X d k q L st w = G) (g2 : R X d k q2 L st w = G2) : R X d k pc L (.inl x :: st) w = if x ≠ 0 then G else G2 := q_if_ne h rfl ho hq hq2 g g2
theorem p_icmp_ne {off : Int} {q2 : Nat} {x y : Int} {G2 : RS} (h : cd k pc = some (.if_icmp .ne off, n, u, [])) (ho : 0 ≤ (pc : Int) + off) (hq : gto pc off = q) (hq2 : pc + 3 = q2) (g : R X d k q L st w = G) (g2 : R X d k q2 L st w = G2) : R X d k pc L (.inl y :: .inl x :: st) w = if x ≠ y then G else G2 := q_icmp_ne h rfl ho hq hq2 g g2
theorem p_if_lt {off : Int} {q2 : Nat} {x : Int} {G2 : RS} (h : cd k pc = some (.ifCond .lt off, n, u, [])) (ho : 0 ≤ (pc : Int) + off) (hq : gto pc off = q) (hq2 : pc + 3 = q2) (g : R X d k q L st w = G) (g2 : R X d k q2 L st w = G2) : R X d k pc L (.inl x :: st) w = if x < 0 then G else G2 := q_if_lt h rfl ho hq hq2 g g2
theorem p_icmp_lt {off : Int} {q2 : Nat} {x y : Int} {G2 : RS} (h : cd k pc = some (.if_icmp .lt off, n, u, [])) (ho : 0 ≤ (pc : Int) + off) (hq : gto pc off = q) (hq2 : pc + 3 = q2) (g : R X d k q L st w = G) (g2 : R X d k q2 L st w = G2) : R X d k pc L (.inl y :: .inl x :: st) w = if x < y then G else G2 := q_icmp_lt h rfl ho hq hq2 g g2
theorem p_if_ge {off : Int} {q2 : Nat} {x : Int} {G2 : RS} (h : cd k pc = some (.ifCond .ge off, n, u, [])) (ho : 0 ≤ (pc : Int) + off) (hq : gto pc off = q) (hq2 : pc + 3 = q2) (g : R X d k q L st w = G) (g2 : R X d k q2 L st w = G2) : R X d k pc L (.inl x :: st) w = if 0 ≤ x then G else G2 := q_if_ge h rfl ho hq hq2 g g2
theorem p_icmp_ge {off : Int} {q2 : Nat} {x y : Int} {G2 : RS} (h : cd k pc = some (.if_icmp .ge off, n, u, [])) (ho : 0 ≤ (pc : Int) + off) (hq : gto pc off = q) (hq2 : pc + 3 = q2) (g : R X d k q L st w = G) (g2 : R X d k q2 L st w = G2) : R X d k pc L (.inl y :: .inl x :: st) w = if y ≤ x then G else G2 := q_icmp_ge h rfl ho hq hq2 g g2
theorem p_if_gt {off : Int} {q2 : Nat} {x : Int} {G2 : RS} (h : cd k pc = some (.ifCond .gt off, n, u, [])) (ho : 0 ≤ (pc : Int) + off) (hq : gto pc off = q) (hq2 : pc + 3 = q2) (g : R X d k q L st w = G) (g2 : R X d k q2 L st w = G2) : R X d k pc L (.inl x :: st) w = if 0 < x then G else G2 := q_if_gt h rfl ho hq hq2 g g2
theorem p_icmp_gt {off : Int} {q2 : Nat} {x y : Int} {G2 : RS} (h : cd k pc = some (.if_icmp .gt off, n, u, [])) (ho : 0 ≤ (pc : Int) + off) (hq : gto pc off = q) (hq2 : pc + 3 = q2) (g : R X d k q L st w = G) (g2 : R X d k q2 L st w = G2) : R X d k pc L (.inl y :: .inl x :: st) w = if y < x then G else G2 := q_icmp_gt h rfl ho hq hq2 g g2
theorem p_if_le {off : Int} {q2 : Nat} {x : Int} {G2 : RS} (h : cd k pc = some (.ifCond .le off, n, u, [])) (ho : 0 ≤ (pc : Int) + off) (hq : gto pc off = q) (hq2 : pc + 3 = q2) (g : R X d k q L st w = G) (g2 : R X d k q2 L st w = G2) : R X d k pc L (.inl x :: st) w = if x ≤ 0 then G else G2 := q_if_le h rfl ho hq hq2 g g2
theorem p_icmp_le {off : Int} {q2 : Nat} {x y : Int} {G2 : RS} (h : cd k pc = some (.if_icmp .le off, n, u, [])) (ho : 0 ≤ (pc : Int) + off) (hq : gto pc off = q) (hq2 : pc + 3 = q2) (g : R X d k q L st w = G) (g2 : R X d k q2 L st w = G2) : R X d k pc L (.inl y :: .inl x :: st) w = if x ≤ y then G else G2 := q_icmp_le h rfl ho hq hq2 g g2
theorem p_switch {dflt hi : Int} {offs : Array Int} {x : Int} {gs : List RS} (h : cd k pc = some (.tableswitch dflt 0 hi offs, n, u, [])) (hd : 0 ≤ (pc : Int) + dflt ∧ hi + 1 = offs.size) (hs : (offs.toList.all fun o => decide (0 ≤ (pc : Int) + o)) = true) (hg : gs = offs.toList.map fun o => R X d k (gto pc o) L st w) (hq : gto pc dflt = q) (g : R X d k q L st w = G) : R X d k pc L (.inl x :: st) w = swt x gs 0 G := q_switch h rfl hd hs hg hq g
theorem p_getf {j ci f z cc : Nat} {a : Nat} (h : cd k pc = some (.getfield j, n, u, [])) (hu : u = [ci, f, 0, z]) (hc : 10 + ci = cc) (hq : pc + 3 = q) (g : R X d k q L (.inl (gi w a f) :: st) w = G) : R X d k pc L (.inr a :: st) w = gd (kd w a = cc) G := q_getf h rfl hu hc hq g
theorem p_getr {j ci f z cc : Nat} {a : Nat} {F : Nat → RS} (h : cd k pc = some (.getfield j, n, u, [])) (hu : u = [ci, f, 1, z]) (hc : 10 + ci = cc) (hq : pc + 3 = q) (g : ∀ b : Nat, R X d k q L (.inr b :: st) w = F b) : R X d k pc L (.inr a :: st) w = gd (kd w a = cc) (rO (gr w a f) F) := q_getr h rfl hu hc hq g
theorem p_putf {j ci f z cc : Nat} {a : Nat} {v : Int} (h : cd k pc = some (.putfield j, n, u, [])) (hu : u = [ci, f, 0, z]) (hc : 10 + ci = cc) (hq : pc + 3 = q) (g : R X d k q L st (si w a f v) = G) : R X d k pc L (.inl v :: .inr a :: st) w = gd (kd w a = cc) G := q_putf h rfl hu hc hq g
theorem p_putz {j ci f z cc : Nat} {a : Nat} {v : Int} (h : cd k pc = some (.putfield j, n, u, [])) (hu : u = [ci, f, 2, z]) (hc : 10 + ci = cc) (hq : pc + 3 = q) (g : R X d k q L st (si w a f v) = G) : R X d k pc L (.inl v :: .inr a :: st) w = gd (kd w a = cc ∧ (v = 0 ∨ v = 1)) G := q_putz h rfl hu hc hq g
theorem p_putr {j ci f z cc : Nat} {a v : Nat} (h : cd k pc = some (.putfield j, n, u, [])) (hu : u = [ci, f, 1, z]) (hc : 10 + ci = cc) (hq : pc + 3 = q) (g : R X d k q L st (sr w a f (some v)) = G) : R X d k pc L (.inr v :: .inr a :: st) w = gd (kd w a = cc) G := q_putr h rfl hu hc hq g
theorem p_iald {a : Nat} {j : Int} (h : cd k pc = some (.iaload, n, u, [])) (hu : u = []) (hq : pc + 1 = q) (g : R X d k q L (.inl (gi w a j.toNat) :: st) w = G) : R X d k pc L (.inl j :: .inr a :: st) w = gd (kd w a = 1 ∧ 0 ≤ j ∧ j < ln w a) G := q_iald h rfl hu hq g
theorem p_sald {a : Nat} {j : Int} (h : cd k pc = some (.iaload, n, u, [])) (hu : u = [1]) (hq : pc + 1 = q) (g : R X d k q L (.inl (X.2 j.toNat) :: st) w = G) : R X d k pc L (.inl j :: .inr a :: st) w = gd (a = 0 ∧ 0 ≤ j ∧ j < X.1) G := q_sald h rfl hu hq g
theorem p_cald {a : Nat} {j : Int} (h : cd k pc = some (.caload, n, u, [])) (hq : pc + 1 = q) (g : R X d k q L (.inl (gi w a j.toNat) :: st) w = G) : R X d k pc L (.inl j :: .inr a :: st) w = gd (kd w a = 2 ∧ 0 ≤ j ∧ j < ln w a) G := q_cald h rfl hq g
theorem p_aald {a : Nat} {j : Int} {F : Nat → RS} (h : cd k pc = some (.aaload, n, u, [])) (hq : pc + 1 = q) (g : ∀ b : Nat, R X d k q L (.inr b :: st) w = F b) : R X d k pc L (.inl j :: .inr a :: st) w = gd (kd w a = 3 ∧ 0 ≤ j ∧ j < ln w a) (rO (gr w a j.toNat) F) := q_aald h rfl hq g
theorem p_iast {a : Nat} {j v : Int} (h : cd k pc = some (.iastore, n, u, [])) (hq : pc + 1 = q) (g : R X d k q L st (si w a j.toNat v) = G) : R X d k pc L (.inl v :: .inl j :: .inr a :: st) w = gd (kd w a = 1 ∧ 0 ≤ j ∧ j < ln w a) G := q_iast h rfl hq g
theorem p_cast {a : Nat} {j v : Int} (h : cd k pc = some (.castore, n, u, [])) (hq : pc + 1 = q) (g : R X d k q L st (si w a j.toNat v) = G) : R X d k pc L (.inl v :: .inl j :: .inr a :: st) w = gd ((kd w a = 2 ∧ 0 ≤ j ∧ j < ln w a) ∧ 0 ≤ v ∧ v < 65536) G := q_cast h rfl hq g
theorem p_aast {a v : Nat} {j : Int} (h : cd k pc = some (.aastore, n, u, [])) (hq : pc + 1 = q) (g : R X d k q L st (sr w a j.toNat (some v)) = G) : R X d k pc L (.inr v :: .inl j :: .inr a :: st) w = gd ((kd w a = 3 ∧ 0 ≤ j ∧ j < ln w a) ∧ kd w v = 13) G := q_aast h rfl hq g
theorem p_alen {a : Nat} (h : cd k pc = some (.arraylength, n, u, [])) (hu : u = []) (hq : pc + 1 = q) (g : R X d k q L (.inl (ln w a) :: st) w = G) : R X d k pc L (.inr a :: st) w = gd (kd w a = 1 ∧ ln w a < 2147483648) G := q_alen h rfl hu hq g
theorem p_slen {a : Nat} (h : cd k pc = some (.arraylength, n, u, [])) (hu : u = [1]) (hq : pc + 1 = q) (g : R X d k q L (.inl X.1 :: st) w = G) : R X d k pc L (.inr a :: st) w = gd (a = 0 ∧ X.1 < 2147483648) G := q_slen h rfl hu hq g
theorem p_newi {j : Int} (h : cd k pc = some (.newarray .int, n, u, [])) (hj : 0 ≤ j ∧ j ≤ 1000) (hq : pc + 2 = q) (g : R X d k q L (.inr (nx w) :: st) (al w 1 j.toNat j.toNat) = G) : R X d k pc L (.inl j :: st) w = G := q_newi h rfl hj hq g
theorem p_newc {j : Int} (h : cd k pc = some (.newarray .char, n, u, [])) (hj : 0 ≤ j ∧ j ≤ 1000) (hq : pc + 2 = q) (g : R X d k q L (.inr (nx w) :: st) (al w 2 j.toNat j.toNat) = G) : R X d k pc L (.inl j :: st) w = G := q_newc h rfl hj hq g
theorem p_newq {i : Nat} {j : Int} (h : cd k pc = some (.anewarray i, n, u, [])) (hj : 0 ≤ j ∧ j ≤ 1000) (hq : pc + 3 = q) (g : R X d k q L (.inr (nx w) :: st) (al w 3 j.toNat j.toNat) = G) : R X d k pc L (.inl j :: st) w = G := q_newq h rfl hj hq g
theorem p_new {i ci nf : Nat} {us : List Nat} (h : cd k pc = some (.new i, n, u, [])) (hu : u = ci :: nf :: us) (hq : pc + 3 = q) (g : R X d k q L (.inr (nx w) :: st) (al w (10 + ci) 0 nf) = G) : R X d k pc L st w = G := q_new h rfl hu hq g
theorem p_objinit {i a : Nat} {us : List Nat} (h : cd k pc = some (.invokespecial i, n, u, [])) (hu : u = 0 :: us) (hr : st.length ≤ 8) (hq : pc + 3 = q) (g : R X d k q L st w = G) : R X d k pc L (.inr a :: st) w = G := q_objinit h rfl hu hr hq g
theorem p_max {i : Nat} {x y : Int} {us : List Nat} (h : cd k pc = some (.invokestatic i, n, u, [])) (hu : u = 1 :: us) (hr : st.length ≤ 8) (hq : pc + 3 = q) (g : R X d k q L (.inl (maxI x y) :: st) w = G) : R X d k pc L (.inl y :: .inl x :: st) w = G := q_max h rfl hu hr hq g
theorem p_min {i : Nat} {x y : Int} {us : List Nat} (h : cd k pc = some (.invokestatic i, n, u, [])) (hu : u = 2 :: us) (hr : st.length ≤ 8) (hq : pc + 3 = q) (g : R X d k q L (.inl (minI x y) :: st) w = G) : R X d k pc L (.inl y :: .inl x :: st) w = G := q_min h rfl hu hr hq g
theorem p_copy {i a b : Nat} {sp tp j : Int} {us : List Nat} (h : cd k pc = some (.invokestatic i, n, u, [])) (hu : u = 3 :: us) (hr : st.length ≤ 8) (hq : pc + 3 = q) (g : R X d k q L st (cpw w a sp.toNat b tp.toNat j.toNat) = G) : R X d k pc L (.inl j :: .inl tp :: .inr b :: .inl sp :: .inr a :: st) w = gd (kd w a = 1 ∧ kd w b = 1 ∧ 0 ≤ sp ∧ 0 ≤ tp ∧ 0 ≤ j ∧ sp + j ≤ ln w a ∧ tp + j ≤ ln w b) G := q_copy h rfl hu hr hq g
theorem p_iret {x : Int} {us : List Nat} (h : cd k pc = some (.ireturn, n, u, [])) (hu : u = 0 :: us) : R X d k pc L [.inl x] w = some (some (.inl x), w) := q_iret h rfl hu
theorem p_zret {x : Int} {us : List Nat} (h : cd k pc = some (.ireturn, n, u, [])) (hu : u = 1 :: us) : R X d k pc L [.inl x] w = gd (x = 0 ∨ x = 1) (some (some (.inl x), w)) := q_zret h rfl hu
theorem p_zret0 {us : List Nat} (h : cd k pc = some (.ireturn, n, u, [])) (hu : u = 1 :: us) : R X d k pc L [.inl 0] w = some (some (.inl 0), w) := q_zret0 h rfl hu
theorem p_zret1 {us : List Nat} (h : cd k pc = some (.ireturn, n, u, [])) (hu : u = 1 :: us) : R X d k pc L [.inl 1] w = some (some (.inl 1), w) := q_zret1 h rfl hu
theorem p_aret {x : Nat} (h : cd k pc = some (.areturn, n, u, []))  : R X d k pc L [.inr x] w = some (some (.inr x), w) := q_aret h rfl
theorem p_vret  (h : cd k pc = some (.return_, n, u, []))  : R X d k pc L [] w = some (none, w) := q_vret h rfl
theorem p_callVv {i k1 m ci b cc : Nat} {as : List MV} {us : List Nat} {F : MW → RS} (h : cd k pc = some (.invokevirtual i, n, u, [])) (hu : u = 0 :: k1 :: m :: ci :: us) (hc : 10 + ci = cc) (hn : (Nat.ble m st.length && Nat.ble s2.length 8) = true) (ha : (st.take m).reverse = .inr b :: as) (hs : st.drop m = s2) (hq : pc + 3 = q) (g : ∀ v : MW, R X (d + 1) k q L s2 v = F v) : R X (d + 1) k pc L st w = gd (kd w b = cc) (rV (run X d k1 (.inr b :: as) w) F) := q_callVv h rfl hu hc hn ha hs hq g
theorem p_callIv {i k1 m ci b cc : Nat} {as : List MV} {us : List Nat} {F : MW → RS} (h : cd k pc = some (.invokespecial i, n, u, [])) (hu : u = 1 :: k1 :: m :: ci :: us) (hc : 10 + ci = cc) (hn : (Nat.ble m st.length && Nat.ble s2.length 8) = true) (ha : (st.take m).reverse = .inr b :: as) (hs : st.drop m = s2) (hq : pc + 3 = q) (g : ∀ v : MW, R X (d + 1) k q L s2 v = F v) : R X (d + 1) k pc L st w = gd (kd w b = cc) (rV (run X d k1 (.inr b :: as) w) F) := q_callIv h rfl hu hc hn ha hs hq g
theorem p_callJv {i k1 m ci b cc : Nat} {as : List MV} {us : List Nat} {F : MW → RS} (h : cd k pc = some (.invokespecial i, n, u, [])) (hu : u = 2 :: k1 :: m :: ci :: us) (hc : 10 + ci = cc) (hn : (Nat.ble m st.length && Nat.ble s2.length 8) = true) (ha : (st.take m).reverse = .inr b :: as) (hs : st.drop m = s2) (hq : pc + 3 = q) (g : ∀ v : MW, R X (d + 1) k q L s2 v = F v) : R X (d + 1) k pc L st w = gd (kd w b = cc) (rV (run X d k1 (.inr b :: as) w) F) := q_callJv h rfl hu hc hn ha hs hq g
theorem p_callSv {i k1 m : Nat} {as : List MV} {us : List Nat} {F : MW → RS} (h : cd k pc = some (.invokestatic i, n, u, [])) (hu : u = 0 :: 0 :: k1 :: m :: us) (hn : (Nat.ble m st.length && Nat.ble s2.length 8) = true) (ha : (st.take m).reverse = as) (hs : st.drop m = s2) (hq : pc + 3 = q) (g : ∀ v : MW, R X (d + 1) k q L s2 v = F v) : R X (d + 1) k pc L st w = rV (run X d k1 as w) F := q_callSv h rfl hu hn ha hs hq g
theorem p_callTv {i k1 m : Nat} {as : List MV} {us : List Nat} {F : MW → RS} (h : cd k pc = some (.invokestatic i, n, u, [])) (hu : u = 4 :: 0 :: k1 :: m :: us) (hn : (Nat.ble m st.length && Nat.ble s2.length 8) = true) (ha : (st.take m).reverse = as) (hs : st.drop m = s2) (hq : pc + 3 = q) (g : ∀ v : MW, R X (d + 1) k q L s2 v = F v) : R X (d + 1) k pc L st w = rV (run X d k1 as w) F := q_callTv h rfl hu hn ha hs hq g
theorem p_callVi {i k1 m ci b cc : Nat} {as : List MV} {us : List Nat} {F : Int → MW → RS} (h : cd k pc = some (.invokevirtual i, n, u, [])) (hu : u = 1 :: k1 :: m :: ci :: us) (hc : 10 + ci = cc) (hn : (Nat.ble m st.length && Nat.ble s2.length 8) = true) (ha : (st.take m).reverse = .inr b :: as) (hs : st.drop m = s2) (hq : pc + 3 = q) (g : ∀ (x : Int) (v : MW), R X (d + 1) k q L (.inl x :: s2) v = F x v) : R X (d + 1) k pc L st w = gd (kd w b = cc) (rI (run X d k1 (.inr b :: as) w) F) := q_callVi h rfl hu hc hn ha hs hq g
theorem p_callSi {i k1 m : Nat} {as : List MV} {us : List Nat} {F : Int → MW → RS} (h : cd k pc = some (.invokestatic i, n, u, [])) (hu : u = 0 :: 1 :: k1 :: m :: us) (hn : (Nat.ble m st.length && Nat.ble s2.length 8) = true) (ha : (st.take m).reverse = as) (hs : st.drop m = s2) (hq : pc + 3 = q) (g : ∀ (x : Int) (v : MW), R X (d + 1) k q L (.inl x :: s2) v = F x v) : R X (d + 1) k pc L st w = rI (run X d k1 as w) F := q_callSi h rfl hu hn ha hs hq g
theorem p_callTi {i k1 m : Nat} {as : List MV} {us : List Nat} {F : Int → MW → RS} (h : cd k pc = some (.invokestatic i, n, u, [])) (hu : u = 4 :: 1 :: k1 :: m :: us) (hn : (Nat.ble m st.length && Nat.ble s2.length 8) = true) (ha : (st.take m).reverse = as) (hs : st.drop m = s2) (hq : pc + 3 = q) (g : ∀ (x : Int) (v : MW), R X (d + 1) k q L (.inl x :: s2) v = F x v) : R X (d + 1) k pc L st w = rI (run X d k1 as w) F := q_callTi h rfl hu hn ha hs hq g
theorem p_callVr {i k1 m ci b cc : Nat} {as : List MV} {us : List Nat} {F : Nat → MW → RS} (h : cd k pc = some (.invokevirtual i, n, u, [])) (hu : u = 2 :: k1 :: m :: ci :: us) (hc : 10 + ci = cc) (hn : (Nat.ble m st.length && Nat.ble s2.length 8) = true) (ha : (st.take m).reverse = .inr b :: as) (hs : st.drop m = s2) (hq : pc + 3 = q) (g : ∀ (x : Nat) (v : MW), R X (d + 1) k q L (.inr x :: s2) v = F x v) : R X (d + 1) k pc L st w = gd (kd w b = cc) (rR (run X d k1 (.inr b :: as) w) F) := q_callVr h rfl hu hc hn ha hs hq g
theorem p_callSr {i k1 m : Nat} {as : List MV} {us : List Nat} {F : Nat → MW → RS} (h : cd k pc = some (.invokestatic i, n, u, [])) (hu : u = 0 :: 2 :: k1 :: m :: us) (hn : (Nat.ble m st.length && Nat.ble s2.length 8) = true) (ha : (st.take m).reverse = as) (hs : st.drop m = s2) (hq : pc + 3 = q) (g : ∀ (x : Nat) (v : MW), R X (d + 1) k q L (.inr x :: s2) v = F x v) : R X (d + 1) k pc L st w = rR (run X d k1 as w) F := q_callSr h rfl hu hn ha hs hq g
theorem p_callTr {i k1 m : Nat} {as : List MV} {us : List Nat} {F : Nat → MW → RS} (h : cd k pc = some (.invokestatic i, n, u, [])) (hu : u = 4 :: 2 :: k1 :: m :: us) (hn : (Nat.ble m st.length && Nat.ble s2.length 8) = true) (ha : (st.take m).reverse = as) (hs : st.drop m = s2) (hq : pc + 3 = q) (g : ∀ (x : Nat) (v : MW), R X (d + 1) k q L (.inr x :: s2) v = F x v) : R X (d + 1) k pc L st w = rR (run X d k1 as w) F := q_callTr h rfl hu hn ha hs hq g
end QP
end
section
theorem q_cons {a b : RS} {l r : List RS} (h : a = b) (g : l = r) : a :: l = b :: r := by rw [h, g]
/-- Table.<init>, from 0 -/
theorem b23_0 (X : Nat × (Nat → Int)) (d : Nat) (r0 : Nat) (w : MW) : run X (d + 1) 23 [.inr r0] w = gd (kd (al w 1 144 144) r0 = 13) (gd (kd (sr (al w 1 144 144) r0 1 (some (nx w))) r0 = 13) (rV (run X d 28 [.inr r0, .inl 2] (sr (al w 1 144 144) r0 1 (some (nx w)))) fun w1 => some (none, w1))) := (show R X (d + 1) 23 0 [some (.inr r0)] [] w = _ from p_aload_n (q := 1) rfl rfl rfl (p_objinit (q := 4) rfl rfl (Nat.le_of_ble_eq_true rfl) rfl (p_aload_n (q := 5) rfl rfl rfl (p_sipush (q := 8) (z := 144) rfl (by decide) rfl (p_newi (q := 10) rfl (by decide) rfl (p_putr (q := 13) rfl rfl rfl rfl (p_aload_n (q := 14) rfl rfl rfl (p_iconst (q := 15) (z := 2) rfl (by decide) rfl (p_callVv (q := 18) (s2 := []) rfl rfl rfl rfl rfl rfl rfl (fun w1 => p_vret rfl))))))))))
/-- Table.has, from 0 -/
theorem b24_0 (X : Nat × (Nat → Int)) (d : Nat) (r0 : Nat) (l1 : Int) (w : MW) : run X d 24 [.inr r0, .inl l1] w = if l1 < 0 then (some (some (.inl 0), w)) else (gd (kd w r0 = 13) (if (gi w r0 0) ≤ l1 then (some (some (.inl 0), w)) else (some (some (.inl 1), w)))) := (show R X d 24 0 [some (.inr r0), some (.inl l1)] [] w = _ from p_iload_n (q := 1) rfl rfl rfl (p_if_lt (q := 16) (q2 := 4) (off := 15) rfl (by decide) rfl rfl (p_iconst (q := 17) (z := 0) rfl (by decide) rfl (p_zret0 rfl rfl)) (p_iload_n (q := 5) rfl rfl rfl (p_aload_n (q := 6) rfl rfl rfl (p_getf (q := 9) rfl rfl rfl rfl (p_icmp_ge (q := 16) (q2 := 12) (off := 7) rfl (by decide) rfl rfl (p_iconst (q := 17) (z := 0) rfl (by decide) rfl (p_zret0 rfl rfl)) (p_iconst (q := 13) (z := 1) rfl (by decide) rfl (p_goto (q := 17) (off := 4) rfl (by decide) rfl (p_zret1 rfl rfl)))))))))
/-- Table.at, from 0 -/
theorem b25_0 (X : Nat × (Nat → Int)) (d : Nat) (r0 : Nat) (l1 : Int) (l2 : Int) (w : MW) : run X (d + 1) 25 [.inr r0, .inl l1, .inl l2] w = gd (kd w r0 = 13) (rI (run X d 24 [.inr r0, .inl l1] w) fun v1 w1 => if v1 = 0 then (some (some (.inl 12), w1)) else (gd (kd w1 r0 = 13) (rI (run X d 24 [.inr r0, .inl l2] w1) fun v2 w2 => if v2 = 0 then (some (some (.inl 12), w2)) else (gd (kd w2 r0 = 13) (rO (gr w2 r0 1) fun b3 => gd (kd w2 b3 = 1 ∧ 0 ≤ (wrap ((wrap (l1 * 12)) + l2)) ∧ (wrap ((wrap (l1 * 12)) + l2)) < ln w2 b3) (some (some (.inl (gi w2 b3 (Int.toNat (wrap ((wrap (l1 * 12)) + l2))))), w2))))))) := (show R X (d + 1) 25 0 [some (.inr r0), some (.inl l1), some (.inl l2)] [] w = _ from p_aload_n (q := 1) rfl rfl rfl (p_iload_n (q := 2) rfl rfl rfl (p_callVi (q := 5) (s2 := []) rfl rfl rfl rfl rfl rfl rfl (fun v1 w1 => p_if_eq (q := 30) (q2 := 8) (off := 25) rfl (by decide) rfl rfl (p_bipush (q := 32) (z := 12) rfl (by decide) rfl (p_iret rfl rfl)) (p_aload_n (q := 9) rfl rfl rfl (p_iload_n (q := 10) rfl rfl rfl (p_callVi (q := 13) (s2 := []) rfl rfl rfl rfl rfl rfl rfl (fun v2 w2 => p_if_eq (q := 30) (q2 := 16) (off := 17) rfl (by decide) rfl rfl (p_bipush (q := 32) (z := 12) rfl (by decide) rfl (p_iret rfl rfl)) (p_aload_n (q := 17) rfl rfl rfl (p_getr (q := 20) rfl rfl rfl rfl (fun b3 => p_iload_n (q := 21) rfl rfl rfl (p_bipush (q := 23) (z := 12) rfl (by decide) rfl (p_imul (q := 24) rfl rfl (p_iload_n (q := 25) rfl rfl rfl (p_iadd (q := 26) rfl rfl (p_iald (q := 27) rfl rfl rfl (p_goto (q := 32) (off := 5) rfl (by decide) rfl (p_iret rfl rfl))))))))))))))))))
/-- Table.hasSum, from 0 -/
theorem b26_0 (X : Nat × (Nat → Int)) (d : Nat) (r0 : Nat) (l1 : Int) (l2 : Int) (w : MW) : run X (d + 1) 26 [.inr r0, .inl l1, .inl l2] w = gd (kd w r0 = 13) (rI (run X d 25 [.inr r0, .inl l1, .inl l2] w) fun v1 w1 => if v1 = (12 : Int) then (some (some (.inl 0), w1)) else (some (some (.inl 1), w1))) := (show R X (d + 1) 26 0 [some (.inr r0), some (.inl l1), some (.inl l2)] [] w = _ from p_aload_n (q := 1) rfl rfl rfl (p_iload_n (q := 2) rfl rfl rfl (p_iload_n (q := 3) rfl rfl rfl (p_callVi (q := 6) (s2 := []) rfl rfl rfl rfl rfl rfl rfl (fun v1 w1 => p_bipush (q := 8) (z := 12) rfl (by decide) rfl (p_icmp_eq (q := 15) (q2 := 11) (off := 7) rfl (by decide) rfl rfl (p_iconst (q := 16) (z := 0) rfl (by decide) rfl (p_zret0 rfl rfl)) (p_iconst (q := 12) (z := 1) rfl (by decide) rfl (p_goto (q := 16) (off := 4) rfl (by decide) rfl (p_zret1 rfl rfl)))))))))
/-- Table.put, from 0 -/
theorem b27_0 (X : Nat × (Nat → Int)) (d : Nat) (r0 : Nat) (l1 : Int) (l2 : Int) (l3 : Int) (w : MW) : run X (d + 1) 27 [.inr r0, .inl l1, .inl l2, .inl l3] w = gd (kd w r0 = 13) (rI (run X d 24 [.inr r0, .inl l1] w) fun v1 w1 => if v1 = 0 then (some (none, w1)) else (gd (kd w1 r0 = 13) (rI (run X d 24 [.inr r0, .inl l2] w1) fun v2 w2 => if v2 = 0 then (some (none, w2)) else (gd (kd w2 r0 = 13) (rI (run X d 24 [.inr r0, .inl l3] w2) fun v3 w3 => if v3 ≠ 0 then (R X (d + 1) 27 30 [some (.inr r0), some (.inl l1), some (.inl l2), some (.inl l3)] [] w3) else (if l3 ≠ (12 : Int) then (some (none, w3)) else (R X (d + 1) 27 30 [some (.inr r0), some (.inl l1), some (.inl l2), some (.inl l3)] [] w3))))))) := (show R X (d + 1) 27 0 [some (.inr r0), some (.inl l1), some (.inl l2), some (.inl l3)] [] w = _ from p_aload_n (q := 1) rfl rfl rfl (p_iload_n (q := 2) rfl rfl rfl (p_callVi (q := 5) (s2 := []) rfl rfl rfl rfl rfl rfl rfl (fun v1 w1 => p_if_eq (q := 54) (q2 := 8) (off := 49) rfl (by decide) rfl rfl (p_vret rfl) (p_aload_n (q := 9) rfl rfl rfl (p_iload_n (q := 10) rfl rfl rfl (p_callVi (q := 13) (s2 := []) rfl rfl rfl rfl rfl rfl rfl (fun v2 w2 => p_if_eq (q := 54) (q2 := 16) (off := 41) rfl (by decide) rfl rfl (p_vret rfl) (p_aload_n (q := 17) rfl rfl rfl (p_iload_n (q := 18) rfl rfl rfl (p_callVi (q := 21) (s2 := []) rfl rfl rfl rfl rfl rfl rfl (fun v3 w3 => p_if_ne (q := 30) (q2 := 24) (off := 9) rfl (by decide) rfl rfl (rfl) (p_iload_n (q := 25) rfl rfl rfl (p_bipush (q := 27) (z := 12) rfl (by decide) rfl (p_icmp_ne (q := 54) (q2 := 30) (off := 27) rfl (by decide) rfl rfl (p_vret rfl) (rfl))))))))))))))))
/-- Table.put, from 30 -/
theorem b27_30 (X : Nat × (Nat → Int)) (d : Nat) (r0 : Nat) (l1 : Int) (l2 : Int) (l3 : Int) (w : MW) : R X (d + 1) 27 30 [some (.inr r0), some (.inl l1), some (.inl l2), some (.inl l3)] [] w = gd (kd w r0 = 13) (rO (gr w r0 1) fun b1 => gd (kd w b1 = 1 ∧ 0 ≤ (wrap ((wrap (l1 * 12)) + l2)) ∧ (wrap ((wrap (l1 * 12)) + l2)) < ln w b1) (gd (kd (si w b1 (Int.toNat (wrap ((wrap (l1 * 12)) + l2))) l3) r0 = 13) (rO (gr (si w b1 (Int.toNat (wrap ((wrap (l1 * 12)) + l2))) l3) r0 1) fun b2 => gd (kd (si w b1 (Int.toNat (wrap ((wrap (l1 * 12)) + l2))) l3) b2 = 1 ∧ 0 ≤ (wrap ((wrap (l2 * 12)) + l1)) ∧ (wrap ((wrap (l2 * 12)) + l1)) < ln (si w b1 (Int.toNat (wrap ((wrap (l1 * 12)) + l2))) l3) b2) (some (none, si (si w b1 (Int.toNat (wrap ((wrap (l1 * 12)) + l2))) l3) b2 (Int.toNat (wrap ((wrap (l2 * 12)) + l1))) l3))))) := p_aload_n (q := 31) rfl rfl rfl (p_getr (q := 34) rfl rfl rfl rfl (fun b1 => p_iload_n (q := 35) rfl rfl rfl (p_bipush (q := 37) (z := 12) rfl (by decide) rfl (p_imul (q := 38) rfl rfl (p_iload_n (q := 39) rfl rfl rfl (p_iadd (q := 40) rfl rfl (p_iload_n (q := 41) rfl rfl rfl (p_iast (q := 42) rfl rfl (p_aload_n (q := 43) rfl rfl rfl (p_getr (q := 46) rfl rfl rfl rfl (fun b2 => p_iload_n (q := 47) rfl rfl rfl (p_bipush (q := 49) (z := 12) rfl (by decide) rfl (p_imul (q := 50) rfl rfl (p_iload_n (q := 51) rfl rfl rfl (p_iadd (q := 52) rfl rfl (p_iload_n (q := 53) rfl rfl rfl (p_iast (q := 54) rfl rfl (p_vret rfl))))))))))))))))))
/-- Table.empty, from 0 -/
theorem b28_0 (X : Nat × (Nat → Int)) (d : Nat) (r0 : Nat) (l1 : Int) (w : MW) : run X (d + 1) 28 [.inr r0, .inl l1] w = R X (d + 1) 28 2 [some (.inr r0), some (.inl l1), some (.inl 0)] [] w := (show R X (d + 1) 28 0 [some (.inr r0), some (.inl l1), none] [] w = _ from p_iconst (q := 1) (z := 0) rfl (by decide) rfl (p_istore_n (q := 2) (L2 := [some (.inr r0), some (.inl l1), some (.inl 0)]) rfl rfl rfl rfl (rfl)))
/-- Table.empty, from 2 -/
theorem b28_2 (X : Nat × (Nat → Int)) (d : Nat) (r0 : Nat) (l1 : Int) (l2 : Int) (w : MW) : R X (d + 1) 28 2 [some (.inr r0), some (.inl l1), some (.inl l2)] [] w = gd (kd w r0 = 13) (rO (gr w r0 1) fun b1 => gd (kd w b1 = 1 ∧ ln w b1 < 2147483648) (if ((ln w b1 : Int)) ≤ l2 then (gd (kd w r0 = 13) (gd (kd (si w r0 0 0) r0 = 13) (rV (run X d 29 [.inr r0, .inl l1] (si w r0 0 0)) fun w2 => some (none, w2)))) else (gd (kd w r0 = 13) (rO (gr w r0 1) fun b3 => gd (kd w b3 = 1 ∧ 0 ≤ l2 ∧ l2 < ln w b3) (R X (d + 1) 28 2 [some (.inr r0), some (.inl l1), some (.inl (wrap (l2 + 1)))] [] (si w b3 (Int.toNat (l2)) (12 : Int))))))) := p_iload_n (q := 3) rfl rfl rfl (p_aload_n (q := 4) rfl rfl rfl (p_getr (q := 7) rfl rfl rfl rfl (fun b1 => p_alen (q := 8) rfl rfl rfl (p_icmp_ge (q := 25) (q2 := 11) (off := 17) rfl (by decide) rfl rfl (p_aload_n (q := 26) rfl rfl rfl (p_iconst (q := 27) (z := 0) rfl (by decide) rfl (p_putf (q := 30) rfl rfl rfl rfl (p_aload_n (q := 31) rfl rfl rfl (p_iload_n (q := 32) rfl rfl rfl (p_callVv (q := 35) (s2 := []) rfl rfl rfl rfl rfl rfl rfl (fun w2 => p_vret rfl))))))) (p_aload_n (q := 12) rfl rfl rfl (p_getr (q := 15) rfl rfl rfl rfl (fun b3 => p_iload_n (q := 16) rfl rfl rfl (p_bipush (q := 18) (z := 12) rfl (by decide) rfl (p_iast (q := 19) rfl rfl (p_iinc (q := 22) (z := 1) (L2 := [some (.inr r0), some (.inl l1), some (.inl (wrap (l2 + 1)))]) rfl rfl (by decide) rfl rfl (p_goto (q := 2) (off := (-20)) rfl (by decide) rfl (rfl))))))))))))
/-- Table.widen, from 0 -/
theorem b29_0 (X : Nat × (Nat → Int)) (d : Nat) (r0 : Nat) (l1 : Int) (w : MW) : run X (d + 1) 29 [.inr r0, .inl l1] w = R X (d + 1) 29 2 [some (.inr r0), some (.inl l1), some (.inl 0)] [] w := (show R X (d + 1) 29 0 [some (.inr r0), some (.inl l1), none] [] w = _ from p_iconst (q := 1) (z := 0) rfl (by decide) rfl (p_istore_n (q := 2) (L2 := [some (.inr r0), some (.inl l1), some (.inl 0)]) rfl rfl rfl rfl (rfl)))
/-- Table.widen, from 2 -/
theorem b29_2 (X : Nat × (Nat → Int)) (d : Nat) (r0 : Nat) (l1 : Int) (l2 : Int) (w : MW) : R X (d + 1) 29 2 [some (.inr r0), some (.inl l1), some (.inl l2)] [] w = if l1 ≤ l2 then (some (none, w)) else (gd (kd w r0 = 13) (if (12 : Int) ≤ (gi w r0 0) then (some (none, w)) else (gd (kd w r0 = 13) (gd (kd w r0 = 13) (gd (kd (si w r0 0 (wrap ((gi w r0 0) + 1))) r0 = 13) (gd (kd (si w r0 0 (wrap ((gi w r0 0) + 1))) r0 = 13) (gd (kd (si w r0 0 (wrap ((gi w r0 0) + 1))) r0 = 13) (rV (run X d 27 [.inr r0, .inl 0, .inl (wrap ((gi (si w r0 0 (wrap ((gi w r0 0) + 1))) r0 0) - 1)), .inl (wrap ((gi (si w r0 0 (wrap ((gi w r0 0) + 1))) r0 0) - 1))] (si w r0 0 (wrap ((gi w r0 0) + 1)))) fun w1 => R X (d + 1) 29 2 [some (.inr r0), some (.inl l1), some (.inl (wrap (l2 + 1)))] [] w1)))))))) := p_iload_n (q := 3) rfl rfl rfl (p_iload_n (q := 4) rfl rfl rfl (p_icmp_ge (q := 49) (q2 := 7) (off := 45) rfl (by decide) rfl rfl (p_vret rfl) (p_aload_n (q := 8) rfl rfl rfl (p_getf (q := 11) rfl rfl rfl rfl (p_bipush (q := 13) (z := 12) rfl (by decide) rfl (p_icmp_ge (q := 49) (q2 := 16) (off := 36) rfl (by decide) rfl rfl (p_vret rfl) (p_aload_n (q := 17) rfl rfl rfl (p_dup (q := 18) rfl rfl (p_getf (q := 21) rfl rfl rfl rfl (p_iconst (q := 22) (z := 1) rfl (by decide) rfl (p_iadd (q := 23) rfl rfl (p_putf (q := 26) rfl rfl rfl rfl (p_aload_n (q := 27) rfl rfl rfl (p_iconst (q := 28) (z := 0) rfl (by decide) rfl (p_aload_n (q := 29) rfl rfl rfl (p_getf (q := 32) rfl rfl rfl rfl (p_iconst (q := 33) (z := 1) rfl (by decide) rfl (p_isub (q := 34) rfl rfl (p_aload_n (q := 35) rfl rfl rfl (p_getf (q := 38) rfl rfl rfl rfl (p_iconst (q := 39) (z := 1) rfl (by decide) rfl (p_isub (q := 40) rfl rfl (p_callVv (q := 43) (s2 := []) rfl rfl rfl rfl rfl rfl rfl (fun w1 => p_iinc (q := 46) (z := 1) (L2 := [some (.inr r0), some (.inl l1), some (.inl (wrap (l2 + 1)))]) rfl rfl (by decide) rfl rfl (p_goto (q := 2) (off := (-44)) rfl (by decide) rfl (rfl))))))))))))))))))))))))))
/-- Table.become, from 0 -/
theorem b30_0 (X : Nat × (Nat → Int)) (d : Nat) (r0 : Nat) (r1 : Nat) (w : MW) : run X d 30 [.inr r0, .inr r1] w = gd (kd w r1 = 13) (gd (kd w r0 = 13) (gd (kd (si w r0 0 (gi w r1 0)) r1 = 13) (rO (gr (si w r0 0 (gi w r1 0)) r1 1) fun b1 => gd (kd (si w r0 0 (gi w r1 0)) r0 = 13) (rO (gr (si w r0 0 (gi w r1 0)) r0 1) fun b2 => gd (kd (si w r0 0 (gi w r1 0)) r0 = 13) (rO (gr (si w r0 0 (gi w r1 0)) r0 1) fun b3 => gd (kd (si w r0 0 (gi w r1 0)) b3 = 1 ∧ ln (si w r0 0 (gi w r1 0)) b3 < 2147483648) (gd (kd (si w r0 0 (gi w r1 0)) b1 = 1 ∧ kd (si w r0 0 (gi w r1 0)) b2 = 1 ∧ 0 ≤ (0 : Int) ∧ 0 ≤ (0 : Int) ∧ 0 ≤ ((ln (si w r0 0 (gi w r1 0)) b3 : Int) : Int) ∧ (0 : Int) + ((ln (si w r0 0 (gi w r1 0)) b3 : Int) : Int) ≤ ln (si w r0 0 (gi w r1 0)) b1 ∧ (0 : Int) + ((ln (si w r0 0 (gi w r1 0)) b3 : Int) : Int) ≤ ln (si w r0 0 (gi w r1 0)) b2) (some (none, cpw (si w r0 0 (gi w r1 0)) b1 (Int.toNat (0)) b2 (Int.toNat (0)) (Int.toNat ((ln (si w r0 0 (gi w r1 0)) b3 : Int))))))))))) := (show R X d 30 0 [some (.inr r0), some (.inr r1)] [] w = _ from p_aload_n (q := 1) rfl rfl rfl (p_aload_n (q := 2) rfl rfl rfl (p_getf (q := 5) rfl rfl rfl rfl (p_putf (q := 8) rfl rfl rfl rfl (p_aload_n (q := 9) rfl rfl rfl (p_getr (q := 12) rfl rfl rfl rfl (fun b1 => p_iconst (q := 13) (z := 0) rfl (by decide) rfl (p_aload_n (q := 14) rfl rfl rfl (p_getr (q := 17) rfl rfl rfl rfl (fun b2 => p_iconst (q := 18) (z := 0) rfl (by decide) rfl (p_aload_n (q := 19) rfl rfl rfl (p_getr (q := 22) rfl rfl rfl rfl (fun b3 => p_alen (q := 23) rfl rfl rfl (p_copy (q := 26) rfl rfl (Nat.le_of_ble_eq_true rfl) rfl (p_vret rfl)))))))))))))))
/-- Table.addRenumbered, from 0 -/
theorem b31_0 (X : Nat × (Nat → Int)) (d : Nat) (r0 : Nat) (r1 : Nat) (r2 : Nat) (w : MW) : run X (d + 1) 31 [.inr r0, .inr r1, .inr r2] w = R X (d + 1) 31 2 [some (.inr r0), some (.inr r1), some (.inr r2), some (.inl 1), none, none] [] w := (show R X (d + 1) 31 0 [some (.inr r0), some (.inr r1), some (.inr r2), none, none, none] [] w = _ from p_iconst (q := 1) (z := 1) rfl (by decide) rfl (p_istore_n (q := 2) (L2 := [some (.inr r0), some (.inr r1), some (.inr r2), some (.inl 1), none, none]) rfl rfl rfl rfl (rfl)))
/-- Table.addRenumbered, from 2 -/
theorem b31_2 (X : Nat × (Nat → Int)) (d : Nat) (r0 : Nat) (r1 : Nat) (r2 : Nat) (l3 : Int) (w : MW) : R X (d + 1) 31 2 [some (.inr r0), some (.inr r1), some (.inr r2), some (.inl l3), none, none] [] w = gd (kd w r1 = 13) (if (gi w r1 0) ≤ l3 then (some (none, w)) else (R X (d + 1) 31 13 [some (.inr r0), some (.inr r1), some (.inr r2), some (.inl l3), some (.inl l3), none] [] w)) := q_iload_n (q := 3) (L1 := [some (.inr r0), some (.inr r1), some (.inr r2), some (.inl l3), none, none]) rfl rfl rfl rfl (p_aload_n (q := 4) rfl rfl rfl (p_getf (q := 7) rfl rfl rfl rfl (p_icmp_ge (q := 73) (q2 := 10) (off := 66) rfl (by decide) rfl rfl (p_vret rfl) (p_iload_n (q := 11) rfl rfl rfl (p_istore (q := 13) (L2 := [some (.inr r0), some (.inr r1), some (.inr r2), some (.inl l3), some (.inl l3), none]) rfl rfl rfl rfl (rfl))))))
/-- Table.addRenumbered, from 13 -/
theorem b31_13 (X : Nat × (Nat → Int)) (d : Nat) (r0 : Nat) (r1 : Nat) (r2 : Nat) (l3 : Int) (l4 : Int) (w : MW) : R X (d + 1) 31 13 [some (.inr r0), some (.inr r1), some (.inr r2), some (.inl l3), some (.inl l4), none] [] w = gd (kd w r1 = 13) (if (gi w r1 0) ≤ l4 then (R X (d + 1) 31 2 [some (.inr r0), some (.inr r1), some (.inr r2), some (.inl (wrap (l3 + 1))), none, none] [] w) else (gd (kd w r1 = 13) (rI (run X d 25 [.inr r1, .inl l3, .inl l4] w) fun v1 w1 => if v1 = (12 : Int) then (R X (d + 1) 31 13 [some (.inr r0), some (.inr r1), some (.inr r2), some (.inl l3), some (.inl (wrap (l4 + 1))), none] [] w1) else (gd (kd w1 r2 = 1 ∧ 0 ≤ v1 ∧ v1 < ln w1 r2) (if (gi w1 r2 (Int.toNat (v1))) = (-1 : Int) then (R X (d + 1) 31 13 [some (.inr r0), some (.inr r1), some (.inr r2), some (.inl l3), some (.inl (wrap (l4 + 1))), none] [] w1) else (gd (kd w1 r2 = 1 ∧ 0 ≤ l3 ∧ l3 < ln w1 r2) (gd (kd w1 r2 = 1 ∧ 0 ≤ l4 ∧ l4 < ln w1 r2) (gd (kd w1 r2 = 1 ∧ 0 ≤ v1 ∧ v1 < ln w1 r2) (gd (kd w1 r0 = 13) (rV (run X d 27 [.inr r0, .inl (gi w1 r2 (Int.toNat (l3))), .inl (gi w1 r2 (Int.toNat (l4))), .inl (gi w1 r2 (Int.toNat (v1)))] w1) fun w2 => R X (d + 1) 31 13 [some (.inr r0), some (.inr r1), some (.inr r2), some (.inl l3), some (.inl (wrap (l4 + 1))), none] [] w2)))))))))) := q_iload (q := 15) (L1 := [some (.inr r0), some (.inr r1), some (.inr r2), some (.inl l3), some (.inl l4), none]) rfl rfl rfl rfl (p_aload_n (q := 16) rfl rfl rfl (p_getf (q := 19) rfl rfl rfl rfl (p_icmp_ge (q := 67) (q2 := 22) (off := 48) rfl (by decide) rfl rfl (p_iinc (q := 70) (z := 1) (L2 := [some (.inr r0), some (.inr r1), some (.inr r2), some (.inl (wrap (l3 + 1))), some (.inl l4), none]) rfl rfl (by decide) rfl rfl (p_goto (q := 2) (off := (-68)) rfl (by decide) rfl (q_kill rfl rfl rfl rfl))) (p_aload_n (q := 23) rfl rfl rfl (p_iload_n (q := 24) rfl rfl rfl (p_iload (q := 26) rfl rfl rfl (p_callVi (q := 29) (s2 := []) rfl rfl rfl rfl rfl rfl rfl (fun v1 w1 => p_istore (q := 31) (L2 := [some (.inr r0), some (.inr r1), some (.inr r2), some (.inl l3), some (.inl l4), some (.inl v1)]) rfl rfl rfl rfl (p_iload (q := 33) rfl rfl rfl (p_bipush (q := 35) (z := 12) rfl (by decide) rfl (p_icmp_eq (q := 61) (q2 := 38) (off := 26) rfl (by decide) rfl rfl (p_iinc (q := 64) (z := 1) (L2 := [some (.inr r0), some (.inr r1), some (.inr r2), some (.inl l3), some (.inl (wrap (l4 + 1))), some (.inl v1)]) rfl rfl (by decide) rfl rfl (p_goto (q := 13) (off := (-51)) rfl (by decide) rfl (q_kill rfl rfl rfl rfl))) (p_aload_n (q := 39) rfl rfl rfl (p_iload (q := 41) rfl rfl rfl (p_iald (q := 42) rfl rfl rfl (p_iconst (q := 43) (z := (-1)) rfl (by decide) rfl (p_icmp_eq (q := 61) (q2 := 46) (off := 18) rfl (by decide) rfl rfl (p_iinc (q := 64) (z := 1) (L2 := [some (.inr r0), some (.inr r1), some (.inr r2), some (.inl l3), some (.inl (wrap (l4 + 1))), some (.inl v1)]) rfl rfl (by decide) rfl rfl (p_goto (q := 13) (off := (-51)) rfl (by decide) rfl (q_kill rfl rfl rfl rfl))) (p_aload_n (q := 47) rfl rfl rfl (p_aload_n (q := 48) rfl rfl rfl (p_iload_n (q := 49) rfl rfl rfl (p_iald (q := 50) rfl rfl rfl (p_aload_n (q := 51) rfl rfl rfl (p_iload (q := 53) rfl rfl rfl (p_iald (q := 54) rfl rfl rfl (p_aload_n (q := 55) rfl rfl rfl (p_iload (q := 57) rfl rfl rfl (p_iald (q := 58) rfl rfl rfl (p_callVv (q := 61) (s2 := []) rfl rfl rfl rfl rfl rfl rfl (fun w2 => p_iinc (q := 64) (z := 1) (L2 := [some (.inr r0), some (.inr r1), some (.inr r2), some (.inl l3), some (.inl (wrap (l4 + 1))), some (.inl v1)]) rfl rfl (by decide) rfl rfl (p_goto (q := 13) (off := (-51)) rfl (by decide) rfl (q_kill rfl rfl rfl rfl))))))))))))))))))))))))))))))
/-- Table.addChain, from 0 -/
theorem b32_0 (X : Nat × (Nat → Int)) (d : Nat) (r0 : Nat) (l1 : Int) (w : MW) : run X (d + 1) 32 [.inr r0, .inl l1] w = gd (kd w r0 = 13) (gd (kd w r0 = 13) (rV (run X d 29 [.inr r0, .inl (wrap (l1 - 1))] w) fun w1 => R X (d + 1) 32 16 [some (.inr r0), some (.inl l1), some (.inl (wrap ((gi w r0 0) - 1))), some (.inl 1), none, none] [] w1)) := (show R X (d + 1) 32 0 [some (.inr r0), some (.inl l1), none, none, none, none] [] w = _ from p_aload_n (q := 1) rfl rfl rfl (p_getf (q := 4) rfl rfl rfl rfl (p_iconst (q := 5) (z := 1) rfl (by decide) rfl (p_isub (q := 6) rfl rfl (p_istore_n (q := 7) (L2 := [some (.inr r0), some (.inl l1), some (.inl (wrap ((gi w r0 0) - 1))), none, none, none]) rfl rfl rfl rfl (p_aload_n (q := 8) rfl rfl rfl (p_iload_n (q := 9) rfl rfl rfl (p_iconst (q := 10) (z := 1) rfl (by decide) rfl (p_isub (q := 11) rfl rfl (p_callVv (q := 14) (s2 := []) rfl rfl rfl rfl rfl rfl rfl (fun w1 => p_iconst (q := 15) (z := 1) rfl (by decide) rfl (p_istore_n (q := 16) (L2 := [some (.inr r0), some (.inl l1), some (.inl (wrap ((gi w r0 0) - 1))), some (.inl 1), none, none]) rfl rfl rfl rfl (rfl)))))))))))))
/-- Table.addChain, from 16 -/
theorem b32_16 (X : Nat × (Nat → Int)) (d : Nat) (r0 : Nat) (l1 : Int) (l2 : Int) (l3 : Int) (w : MW) : R X (d + 1) 32 16 [some (.inr r0), some (.inl l1), some (.inl l2), some (.inl l3), none, none] [] w = if l1 ≤ l3 then (some (none, w)) else (R X (d + 1) 32 24 [some (.inr r0), some (.inl l1), some (.inl l2), some (.inl l3), some (.inl l3), none] [] w) := q_iload_n (q := 17) (L1 := [some (.inr r0), some (.inl l1), some (.inl l2), some (.inl l3), none, none]) rfl rfl rfl rfl (p_iload_n (q := 18) rfl rfl rfl (p_icmp_ge (q := 77) (q2 := 21) (off := 59) rfl (by decide) rfl rfl (p_vret rfl) (p_iload_n (q := 22) rfl rfl rfl (p_istore (q := 24) (L2 := [some (.inr r0), some (.inl l1), some (.inl l2), some (.inl l3), some (.inl l3), none]) rfl rfl rfl rfl (rfl)))))
/-- Table.addChain, from 24 -/
theorem b32_24 (X : Nat × (Nat → Int)) (d : Nat) (r0 : Nat) (l1 : Int) (l2 : Int) (l3 : Int) (l4 : Int) (w : MW) : R X (d + 1) 32 24 [some (.inr r0), some (.inl l1), some (.inl l2), some (.inl l3), some (.inl l4), none] [] w = if l1 < (wrap (l3 + l4)) then (R X (d + 1) 32 16 [some (.inr r0), some (.inl l1), some (.inl l2), some (.inl (wrap (l3 + 1))), none, none] [] w) else (if (wrap (l3 + l4)) ≠ l1 then (R X (d + 1) 32 50 [some (.inr r0), some (.inl l1), some (.inl l2), some (.inl l3), some (.inl l4), none] [.inl (wrap ((wrap (l2 + l3)) + l4))] w) else (R X (d + 1) 32 50 [some (.inr r0), some (.inl l1), some (.inl l2), some (.inl l3), some (.inl l4), none] [.inl 1] w)) := q_iload_n (q := 25) (L1 := [some (.inr r0), some (.inl l1), some (.inl l2), some (.inl l3), some (.inl l4), none]) rfl rfl rfl rfl (p_iload (q := 27) rfl rfl rfl (p_iadd (q := 28) rfl rfl (p_iload_n (q := 29) rfl rfl rfl (p_icmp_gt (q := 71) (q2 := 32) (off := 42) rfl (by decide) rfl rfl (p_iinc (q := 74) (z := 1) (L2 := [some (.inr r0), some (.inl l1), some (.inl l2), some (.inl (wrap (l3 + 1))), some (.inl l4), none]) rfl rfl (by decide) rfl rfl (p_goto (q := 16) (off := (-58)) rfl (by decide) rfl (q_kill rfl rfl rfl rfl))) (p_iload_n (q := 33) rfl rfl rfl (p_iload (q := 35) rfl rfl rfl (p_iadd (q := 36) rfl rfl (p_iload_n (q := 37) rfl rfl rfl (p_icmp_ne (q := 44) (q2 := 40) (off := 7) rfl (by decide) rfl rfl (p_iload_n (q := 45) rfl rfl rfl (p_iload_n (q := 46) rfl rfl rfl (p_iadd (q := 47) rfl rfl (p_iload (q := 49) rfl rfl rfl (p_iadd (q := 50) rfl rfl (rfl)))))) (p_iconst (q := 41) (z := 1) rfl (by decide) rfl (p_goto (q := 50) (off := 9) rfl (by decide) rfl (rfl))))))))))))
/-- Table.addChain, from 50 -/
theorem b32_50 (X : Nat × (Nat → Int)) (d : Nat) (r0 : Nat) (l1 : Int) (l2 : Int) (l3 : Int) (l4 : Int) (t0 : Int) (w : MW) : R X (d + 1) 32 50 [some (.inr r0), some (.inl l1), some (.inl l2), some (.inl l3), some (.inl l4), none] [.inl t0] w = gd (kd w r0 = 13) (rV (run X d 27 [.inr r0, .inl (wrap (l2 + l3)), .inl (wrap (l2 + l4)), .inl t0] w) fun w1 => R X (d + 1) 32 24 [some (.inr r0), some (.inl l1), some (.inl l2), some (.inl l3), some (.inl (wrap (l4 + 1))), none] [] w1) := q_istore (q := 52) (L1 := [some (.inr r0), some (.inl l1), some (.inl l2), some (.inl l3), some (.inl l4), none]) (L2 := [some (.inr r0), some (.inl l1), some (.inl l2), some (.inl l3), some (.inl l4), some (.inl t0)]) rfl rfl rfl rfl rfl (p_aload_n (q := 53) rfl rfl rfl (p_iload_n (q := 54) rfl rfl rfl (p_iload_n (q := 55) rfl rfl rfl (p_iadd (q := 56) rfl rfl (p_iload_n (q := 57) rfl rfl rfl (p_iload (q := 59) rfl rfl rfl (p_iadd (q := 60) rfl rfl (p_iload (q := 62) rfl rfl rfl (p_callVv (q := 65) (s2 := []) rfl rfl rfl rfl rfl rfl rfl (fun w1 => p_iinc (q := 68) (z := 1) (L2 := [some (.inr r0), some (.inl l1), some (.inl l2), some (.inl l3), some (.inl (wrap (l4 + 1))), some (.inl t0)]) rfl rfl (by decide) rfl rfl (p_goto (q := 24) (off := (-44)) rfl (by decide) rfl (q_kill rfl rfl rfl rfl))))))))))))
/-- Table.fillWithSets, from 0 -/
theorem b33_0 (X : Nat × (Nat → Int)) (d : Nat) (r0 : Nat) (l1 : Int) (w : MW) : run X (d + 1) 33 [.inr r0, .inl l1] w = gd (kd w r0 = 13) (rV (run X d 28 [.inr r0, .inl (wrap ((wrap ((shlI 1 l1) - 1)) + 1))] w) fun w1 => R X (d + 1) 33 15 [some (.inr r0), none, some (.inl (wrap ((shlI 1 l1) - 1))), some (.inl 1), none] [] w1) := (show R X (d + 1) 33 0 [some (.inr r0), some (.inl l1), none, none, none] [] w = _ from p_iconst (q := 1) (z := 1) rfl (by decide) rfl (p_iload_n (q := 2) rfl rfl rfl (p_ishl (q := 3) rfl rfl (p_iconst (q := 4) (z := 1) rfl (by decide) rfl (p_isub (q := 5) rfl rfl (p_istore_n (q := 6) (L2 := [some (.inr r0), some (.inl l1), some (.inl (wrap ((shlI 1 l1) - 1))), none, none]) rfl rfl rfl rfl (p_aload_n (q := 7) rfl rfl rfl (p_iload_n (q := 8) rfl rfl rfl (p_iconst (q := 9) (z := 1) rfl (by decide) rfl (p_iadd (q := 10) rfl rfl (p_callVv (q := 13) (s2 := []) rfl rfl rfl rfl rfl rfl rfl (fun w1 => p_iconst (q := 14) (z := 1) rfl (by decide) rfl (p_istore_n (q := 15) (L2 := [some (.inr r0), some (.inl l1), some (.inl (wrap ((shlI 1 l1) - 1))), some (.inl 1), none]) rfl rfl rfl rfl (q_kill rfl rfl rfl rfl))))))))))))))
/-- Table.fillWithSets, from 15 -/
theorem b33_15 (X : Nat × (Nat → Int)) (d : Nat) (r0 : Nat) (l2 : Int) (l3 : Int) (w : MW) : R X (d + 1) 33 15 [some (.inr r0), none, some (.inl l2), some (.inl l3), none] [] w = if l2 < l3 then (some (none, w)) else (R X (d + 1) 33 23 [some (.inr r0), none, some (.inl l2), some (.inl l3), some (.inl l3)] [] w) := q_iload_n (q := 16) (L1 := [some (.inr r0), none, some (.inl l2), some (.inl l3), none]) rfl rfl rfl rfl (p_iload_n (q := 17) rfl rfl rfl (p_icmp_gt (q := 71) (q2 := 20) (off := 54) rfl (by decide) rfl rfl (p_vret rfl) (p_iload_n (q := 21) rfl rfl rfl (p_istore (q := 23) (L2 := [some (.inr r0), none, some (.inl l2), some (.inl l3), some (.inl l3)]) rfl rfl rfl rfl (rfl)))))
/-- Table.fillWithSets, from 23 -/
theorem b33_23 (X : Nat × (Nat → Int)) (d : Nat) (r0 : Nat) (l2 : Int) (l3 : Int) (l4 : Int) (w : MW) : R X (d + 1) 33 23 [some (.inr r0), none, some (.inl l2), some (.inl l3), some (.inl l4)] [] w = if l2 < l4 then (R X (d + 1) 33 15 [some (.inr r0), none, some (.inl l2), some (.inl (wrap (l3 + 1))), none] [] w) else (if (andI l3 l4) ≠ 0 then (R X (d + 1) 33 23 [some (.inr r0), none, some (.inl l2), some (.inl l3), some (.inl (wrap (l4 + 1)))] [] w) else (rI (run X d 34 [.inl l3, .inl l2] w) fun v1 w1 => rI (run X d 34 [.inl l4, .inl l2] w1) fun v2 w2 => rI (run X d 34 [.inl (orI l3 l4), .inl l2] w2) fun v3 w3 => gd (kd w3 r0 = 13) (rV (run X d 27 [.inr r0, .inl v1, .inl v2, .inl v3] w3) fun w4 => R X (d + 1) 33 23 [some (.inr r0), none, some (.inl l2), some (.inl l3), some (.inl (wrap (l4 + 1)))] [] w4))) := q_iload (q := 25) (L1 := [some (.inr r0), none, some (.inl l2), some (.inl l3), some (.inl l4)]) rfl rfl rfl rfl (p_iload_n (q := 26) rfl rfl rfl (p_icmp_gt (q := 65) (q2 := 29) (off := 39) rfl (by decide) rfl rfl (p_iinc (q := 68) (z := 1) (L2 := [some (.inr r0), none, some (.inl l2), some (.inl (wrap (l3 + 1))), some (.inl l4)]) rfl rfl (by decide) rfl rfl (p_goto (q := 15) (off := (-53)) rfl (by decide) rfl (q_kill rfl rfl rfl rfl))) (p_iload_n (q := 30) rfl rfl rfl (p_iload (q := 32) rfl rfl rfl (p_iand (q := 33) rfl rfl (p_if_ne (q := 59) (q2 := 36) (off := 26) rfl (by decide) rfl rfl (p_iinc (q := 62) (z := 1) (L2 := [some (.inr r0), none, some (.inl l2), some (.inl l3), some (.inl (wrap (l4 + 1)))]) rfl rfl (by decide) rfl rfl (p_goto (q := 23) (off := (-39)) rfl (by decide) rfl (rfl))) (p_aload_n (q := 37) rfl rfl rfl (p_iload_n (q := 38) rfl rfl rfl (p_iload_n (q := 39) rfl rfl rfl (p_callSi (q := 42) (s2 := [.inr r0]) rfl rfl rfl rfl rfl rfl (fun v1 w1 => p_iload (q := 44) rfl rfl rfl (p_iload_n (q := 45) rfl rfl rfl (p_callSi (q := 48) (s2 := [.inl v1, .inr r0]) rfl rfl rfl rfl rfl rfl (fun v2 w2 => p_iload_n (q := 49) rfl rfl rfl (p_iload (q := 51) rfl rfl rfl (p_ior (q := 52) rfl rfl (p_iload_n (q := 53) rfl rfl rfl (p_callSi (q := 56) (s2 := [.inl v2, .inl v1, .inr r0]) rfl rfl rfl rfl rfl rfl (fun v3 w3 => p_callVv (q := 59) (s2 := []) rfl rfl rfl rfl rfl rfl rfl (fun w4 => p_iinc (q := 62) (z := 1) (L2 := [some (.inr r0), none, some (.inl l2), some (.inl l3), some (.inl (wrap (l4 + 1)))]) rfl rfl (by decide) rfl rfl (p_goto (q := 23) (off := (-39)) rfl (by decide) rfl (rfl))))))))))))))))))))))
/-- Table.thingOfSet, from 0 -/
theorem b34_0 (X : Nat × (Nat → Int)) (d : Nat) (l0 : Int) (l1 : Int) (w : MW) : run X d 34 [.inl l0, .inl l1] w = if l0 ≠ l1 then (some (some (.inl (wrap (l0 + 1))), w)) else (some (some (.inl 1), w)) := (show R X d 34 0 [some (.inl l0), some (.inl l1)] [] w = _ from p_iload_n (q := 1) rfl rfl rfl (p_iload_n (q := 2) rfl rfl rfl (p_icmp_ne (q := 9) (q2 := 5) (off := 7) rfl (by decide) rfl rfl (p_iload_n (q := 10) rfl rfl rfl (p_iconst (q := 11) (z := 1) rfl (by decide) rfl (p_iadd (q := 12) rfl rfl (p_iret rfl rfl)))) (p_iconst (q := 6) (z := 1) rfl (by decide) rfl (p_goto (q := 12) (off := 6) rfl (by decide) rfl (p_iret rfl rfl))))))
/-- Table.fillWithPairs, from 0 -/
theorem b35_0 (X : Nat × (Nat → Int)) (d : Nat) (r0 : Nat) (r1 : Nat) (w : MW) : run X (d + 1) 35 [.inr r0, .inr r1] w = gd (kd w r1 = 13) (gd (kd w r0 = 13) (rV (run X d 28 [.inr r0, .inl (wrap (2 * (gi w r1 0)))] w) fun w1 => R X (d + 1) 35 14 [some (.inr r0), some (.inr r1), some (.inl (gi w r1 0)), some (.inl 0), none, none] [] w1)) := (show R X (d + 1) 35 0 [some (.inr r0), some (.inr r1), none, none, none, none] [] w = _ from p_aload_n (q := 1) rfl rfl rfl (p_getf (q := 4) rfl rfl rfl rfl (p_istore_n (q := 5) (L2 := [some (.inr r0), some (.inr r1), some (.inl (gi w r1 0)), none, none, none]) rfl rfl rfl rfl (p_aload_n (q := 6) rfl rfl rfl (p_iconst (q := 7) (z := 2) rfl (by decide) rfl (p_iload_n (q := 8) rfl rfl rfl (p_imul (q := 9) rfl rfl (p_callVv (q := 12) (s2 := []) rfl rfl rfl rfl rfl rfl rfl (fun w1 => p_iconst (q := 13) (z := 0) rfl (by decide) rfl (p_istore_n (q := 14) (L2 := [some (.inr r0), some (.inr r1), some (.inl (gi w r1 0)), some (.inl 0), none, none]) rfl rfl rfl rfl (rfl)))))))))))
/-- Table.fillWithPairs, from 14 -/
theorem b35_14 (X : Nat × (Nat → Int)) (d : Nat) (r0 : Nat) (r1 : Nat) (l2 : Int) (l3 : Int) (w : MW) : R X (d + 1) 35 14 [some (.inr r0), some (.inr r1), some (.inl l2), some (.inl l3), none, none] [] w = if l2 ≤ l3 then (some (none, w)) else (R X (d + 1) 35 22 [some (.inr r0), some (.inr r1), some (.inl l2), some (.inl l3), some (.inl 0), none] [] w) := q_iload_n (q := 15) (L1 := [some (.inr r0), some (.inr r1), some (.inl l2), some (.inl l3), none, none]) rfl rfl rfl rfl (p_iload_n (q := 16) rfl rfl rfl (p_icmp_ge (q := 94) (q2 := 19) (off := 78) rfl (by decide) rfl rfl (p_vret rfl) (p_iconst (q := 20) (z := 0) rfl (by decide) rfl (p_istore (q := 22) (L2 := [some (.inr r0), some (.inr r1), some (.inl l2), some (.inl l3), some (.inl 0), none]) rfl rfl rfl rfl (rfl)))))
/-- Table.fillWithPairs, from 22 -/
theorem b35_22 (X : Nat × (Nat → Int)) (d : Nat) (r0 : Nat) (r1 : Nat) (l2 : Int) (l3 : Int) (l4 : Int) (w : MW) : R X (d + 1) 35 22 [some (.inr r0), some (.inr r1), some (.inl l2), some (.inl l3), some (.inl l4), none] [] w = if l2 ≤ l4 then (R X (d + 1) 35 14 [some (.inr r0), some (.inr r1), some (.inl l2), some (.inl (wrap (l3 + 1))), none, none] [] w) else (gd (kd w r1 = 13) (rI (run X d 25 [.inr r1, .inl l3, .inl l4] w) fun v1 w1 => if v1 = (12 : Int) then (R X (d + 1) 35 22 [some (.inr r0), some (.inr r1), some (.inl l2), some (.inl l3), some (.inl (wrap (l4 + 1))), none] [] w1) else (rI (run X d 36 [.inl l3] w1) fun v2 w2 => rI (run X d 36 [.inl l4] w2) fun v3 w3 => rI (run X d 36 [.inl v1] w3) fun v4 w4 => gd (kd w4 r0 = 13) (rV (run X d 27 [.inr r0, .inl v2, .inl v3, .inl v4] w4) fun w5 => rI (run X d 36 [.inl l3] w5) fun v6 w6 => rI (run X d 37 [.inl l4, .inl l2] w6) fun v7 w7 => rI (run X d 37 [.inl v1, .inl l2] w7) fun v8 w8 => gd (kd w8 r0 = 13) (rV (run X d 27 [.inr r0, .inl v6, .inl v7, .inl v8] w8) fun w9 => R X (d + 1) 35 22 [some (.inr r0), some (.inr r1), some (.inl l2), some (.inl l3), some (.inl (wrap (l4 + 1))), none] [] w9))))) := q_iload (q := 24) (L1 := [some (.inr r0), some (.inr r1), some (.inl l2), some (.inl l3), some (.inl l4), none]) rfl rfl rfl rfl (p_iload_n (q := 25) rfl rfl rfl (p_icmp_ge (q := 88) (q2 := 28) (off := 63) rfl (by decide) rfl rfl (p_iinc (q := 91) (z := 1) (L2 := [some (.inr r0), some (.inr r1), some (.inl l2), some (.inl (wrap (l3 + 1))), some (.inl l4), none]) rfl rfl (by decide) rfl rfl (p_goto (q := 14) (off := (-77)) rfl (by decide) rfl (q_kill rfl rfl rfl rfl))) (p_aload_n (q := 29) rfl rfl rfl (p_iload_n (q := 30) rfl rfl rfl (p_iload (q := 32) rfl rfl rfl (p_callVi (q := 35) (s2 := []) rfl rfl rfl rfl rfl rfl rfl (fun v1 w1 => p_istore (q := 37) (L2 := [some (.inr r0), some (.inr r1), some (.inl l2), some (.inl l3), some (.inl l4), some (.inl v1)]) rfl rfl rfl rfl (p_iload (q := 39) rfl rfl rfl (p_bipush (q := 41) (z := 12) rfl (by decide) rfl (p_icmp_eq (q := 82) (q2 := 44) (off := 41) rfl (by decide) rfl rfl (p_iinc (q := 85) (z := 1) (L2 := [some (.inr r0), some (.inr r1), some (.inl l2), some (.inl l3), some (.inl (wrap (l4 + 1))), some (.inl v1)]) rfl rfl (by decide) rfl rfl (p_goto (q := 22) (off := (-63)) rfl (by decide) rfl (q_kill rfl rfl rfl rfl))) (p_aload_n (q := 45) rfl rfl rfl (p_iload_n (q := 46) rfl rfl rfl (p_callSi (q := 49) (s2 := [.inr r0]) rfl rfl rfl rfl rfl rfl (fun v2 w2 => p_iload (q := 51) rfl rfl rfl (p_callSi (q := 54) (s2 := [.inl v2, .inr r0]) rfl rfl rfl rfl rfl rfl (fun v3 w3 => p_iload (q := 56) rfl rfl rfl (p_callSi (q := 59) (s2 := [.inl v3, .inl v2, .inr r0]) rfl rfl rfl rfl rfl rfl (fun v4 w4 => p_callVv (q := 62) (s2 := []) rfl rfl rfl rfl rfl rfl rfl (fun w5 => p_aload_n (q := 63) rfl rfl rfl (p_iload_n (q := 64) rfl rfl rfl (p_callSi (q := 67) (s2 := [.inr r0]) rfl rfl rfl rfl rfl rfl (fun v6 w6 => p_iload (q := 69) rfl rfl rfl (p_iload_n (q := 70) rfl rfl rfl (p_callSi (q := 73) (s2 := [.inl v6, .inr r0]) rfl rfl rfl rfl rfl rfl (fun v7 w7 => p_iload (q := 75) rfl rfl rfl (p_iload_n (q := 76) rfl rfl rfl (p_callSi (q := 79) (s2 := [.inl v7, .inl v6, .inr r0]) rfl rfl rfl rfl rfl rfl (fun v8 w8 => p_callVv (q := 82) (s2 := []) rfl rfl rfl rfl rfl rfl rfl (fun w9 => p_iinc (q := 85) (z := 1) (L2 := [some (.inr r0), some (.inr r1), some (.inl l2), some (.inl l3), some (.inl (wrap (l4 + 1))), some (.inl v1)]) rfl rfl (by decide) rfl rfl (p_goto (q := 22) (off := (-63)) rfl (by decide) rfl (q_kill rfl rfl rfl rfl)))))))))))))))))))))))))))))))
/-- Table.pairWith0, from 0 -/
theorem b36_0 (X : Nat × (Nat → Int)) (d : Nat) (l0 : Int) (w : MW) : run X d 36 [.inl l0] w = if l0 ≠ 0 then (some (some (.inl (wrap (l0 + 1))), w)) else (some (some (.inl 0), w)) := (show R X d 36 0 [some (.inl l0)] [] w = _ from p_iload_n (q := 1) rfl rfl rfl (p_if_ne (q := 8) (q2 := 4) (off := 7) rfl (by decide) rfl rfl (p_iload_n (q := 9) rfl rfl rfl (p_iconst (q := 10) (z := 1) rfl (by decide) rfl (p_iadd (q := 11) rfl rfl (p_iret rfl rfl)))) (p_iconst (q := 5) (z := 0) rfl (by decide) rfl (p_goto (q := 11) (off := 6) rfl (by decide) rfl (p_iret rfl rfl)))))
/-- Table.pairWith1, from 0 -/
theorem b37_0 (X : Nat × (Nat → Int)) (d : Nat) (l0 : Int) (l1 : Int) (w : MW) : run X d 37 [.inl l0, .inl l1] w = if l0 ≠ (1 : Int) then (if l0 ≠ 0 then (some (some (.inl (wrap (l1 + l0))), w)) else (some (some (.inl (wrap (l1 + 1))), w))) else (some (some (.inl 1), w)) := (show R X d 37 0 [some (.inl l0), some (.inl l1)] [] w = _ from p_iload_n (q := 1) rfl rfl rfl (p_iconst (q := 2) (z := 1) rfl (by decide) rfl (p_icmp_ne (q := 7) (q2 := 5) (off := 5) rfl (by decide) rfl rfl (p_iload_n (q := 8) rfl rfl rfl (p_if_ne (q := 17) (q2 := 11) (off := 9) rfl (by decide) rfl rfl (p_iload_n (q := 18) rfl rfl rfl (p_iload_n (q := 19) rfl rfl rfl (p_iadd (q := 20) rfl rfl (p_iret rfl rfl)))) (p_iload_n (q := 12) rfl rfl rfl (p_iconst (q := 13) (z := 1) rfl (by decide) rfl (p_iadd (q := 14) rfl rfl (p_goto (q := 20) (off := 6) rfl (by decide) rfl (p_iret rfl rfl))))))) (p_iconst (q := 6) (z := 1) rfl (by decide) rfl (p_iret rfl rfl)))))
/-- Table.leastAddend, from 0 -/
theorem b38_0 (X : Nat × (Nat → Int)) (d : Nat) (r0 : Nat) (l1 : Int) (l2 : Int) (w : MW) : run X (d + 1) 38 [.inr r0, .inl l1, .inl l2] w = R X (d + 1) 38 2 [some (.inr r0), some (.inl l1), some (.inl l2), some (.inl 0)] [] w := (show R X (d + 1) 38 0 [some (.inr r0), some (.inl l1), some (.inl l2), none] [] w = _ from p_iconst (q := 1) (z := 0) rfl (by decide) rfl (p_istore_n (q := 2) (L2 := [some (.inr r0), some (.inl l1), some (.inl l2), some (.inl 0)]) rfl rfl rfl rfl (rfl)))
/-- Table.leastAddend, from 2 -/
theorem b38_2 (X : Nat × (Nat → Int)) (d : Nat) (r0 : Nat) (l1 : Int) (l2 : Int) (l3 : Int) (w : MW) : R X (d + 1) 38 2 [some (.inr r0), some (.inl l1), some (.inl l2), some (.inl l3)] [] w = gd (kd w r0 = 13) (if (gi w r0 0) ≤ l3 then (some (some (.inl 12), w)) else (gd (kd w r0 = 13) (rI (run X d 25 [.inr r0, .inl l1, .inl l3] w) fun v1 w1 => if v1 ≠ l2 then (R X (d + 1) 38 2 [some (.inr r0), some (.inl l1), some (.inl l2), some (.inl (wrap (l3 + 1)))] [] w1) else (some (some (.inl l3), w1))))) := p_iload_n (q := 3) rfl rfl rfl (p_aload_n (q := 4) rfl rfl rfl (p_getf (q := 7) rfl rfl rfl rfl (p_icmp_ge (q := 28) (q2 := 10) (off := 21) rfl (by decide) rfl rfl (p_bipush (q := 30) (z := 12) rfl (by decide) rfl (p_iret rfl rfl)) (p_aload_n (q := 11) rfl rfl rfl (p_iload_n (q := 12) rfl rfl rfl (p_iload_n (q := 13) rfl rfl rfl (p_callVi (q := 16) (s2 := []) rfl rfl rfl rfl rfl rfl rfl (fun v1 w1 => p_iload_n (q := 17) rfl rfl rfl (p_icmp_ne (q := 22) (q2 := 20) (off := 5) rfl (by decide) rfl rfl (p_iinc (q := 25) (z := 1) (L2 := [some (.inr r0), some (.inl l1), some (.inl l2), some (.inl (wrap (l3 + 1)))]) rfl rfl (by decide) rfl rfl (p_goto (q := 2) (off := (-23)) rfl (by decide) rfl (rfl))) (p_iload_n (q := 21) rfl rfl rfl (p_iret rfl rfl)))))))))))
/-- Table.rest, from 0 -/
theorem b39_0 (X : Nat × (Nat → Int)) (d : Nat) (r0 : Nat) (l1 : Int) (w : MW) : run X (d + 1) 39 [.inr r0, .inl l1] w = gd (kd w r0 = 13) (rI (run X d 38 [.inr r0, .inl l1, .inl 1] w) fun v1 w1 => some (some (.inl v1), w1)) := (show R X (d + 1) 39 0 [some (.inr r0), some (.inl l1)] [] w = _ from p_aload_n (q := 1) rfl rfl rfl (p_iload_n (q := 2) rfl rfl rfl (p_iconst (q := 3) (z := 1) rfl (by decide) rfl (p_callVi (q := 6) (s2 := []) rfl rfl rfl rfl rfl rfl rfl (fun v1 w1 => p_iret rfl rfl)))))
/-- Table.addends, from 0 -/
theorem b40_0 (X : Nat × (Nat → Int)) (d : Nat) (r0 : Nat) (l1 : Int) (w : MW) : run X (d + 1) 40 [.inr r0, .inl l1] w = R X (d + 1) 40 4 [some (.inr r0), some (.inl l1), some (.inl 0), some (.inl 0)] [] w := (show R X (d + 1) 40 0 [some (.inr r0), some (.inl l1), none, none] [] w = _ from p_iconst (q := 1) (z := 0) rfl (by decide) rfl (p_istore_n (q := 2) (L2 := [some (.inr r0), some (.inl l1), some (.inl 0), none]) rfl rfl rfl rfl (p_iconst (q := 3) (z := 0) rfl (by decide) rfl (p_istore_n (q := 4) (L2 := [some (.inr r0), some (.inl l1), some (.inl 0), some (.inl 0)]) rfl rfl rfl rfl (rfl)))))
/-- Table.addends, from 4 -/
theorem b40_4 (X : Nat × (Nat → Int)) (d : Nat) (r0 : Nat) (l1 : Int) (l2 : Int) (l3 : Int) (w : MW) : R X (d + 1) 40 4 [some (.inr r0), some (.inl l1), some (.inl l2), some (.inl l3)] [] w = gd (kd w r0 = 13) (if (gi w r0 0) ≤ l3 then (some (some (.inl l2), w)) else (gd (kd w r0 = 13) (rI (run X d 26 [.inr r0, .inl l1, .inl l3] w) fun v1 w1 => if v1 = 0 then (R X (d + 1) 40 4 [some (.inr r0), some (.inl l1), some (.inl l2), some (.inl (wrap (l3 + 1)))] [] w1) else (rI (run X d 95 [.inl l3] w1) fun v2 w2 => R X (d + 1) 40 4 [some (.inr r0), some (.inl l1), some (.inl (orI l2 v2)), some (.inl (wrap (l3 + 1)))] [] w2)))) := p_iload_n (q := 5) rfl rfl rfl (p_aload_n (q := 6) rfl rfl rfl (p_getf (q := 9) rfl rfl rfl rfl (p_icmp_ge (q := 34) (q2 := 12) (off := 25) rfl (by decide) rfl rfl (p_iload_n (q := 35) rfl rfl rfl (p_iret rfl rfl)) (p_aload_n (q := 13) rfl rfl rfl (p_iload_n (q := 14) rfl rfl rfl (p_iload_n (q := 15) rfl rfl rfl (p_callVi (q := 18) (s2 := []) rfl rfl rfl rfl rfl rfl rfl (fun v1 w1 => p_if_eq (q := 28) (q2 := 21) (off := 10) rfl (by decide) rfl rfl (p_iinc (q := 31) (z := 1) (L2 := [some (.inr r0), some (.inl l1), some (.inl l2), some (.inl (wrap (l3 + 1)))]) rfl rfl (by decide) rfl rfl (p_goto (q := 4) (off := (-27)) rfl (by decide) rfl (rfl))) (p_iload_n (q := 22) rfl rfl rfl (p_iload_n (q := 23) rfl rfl rfl (p_callTi (q := 26) (s2 := [.inl l2]) rfl rfl rfl rfl rfl rfl (fun v2 w2 => p_ior (q := 27) rfl rfl (p_istore_n (q := 28) (L2 := [some (.inr r0), some (.inl l1), some (.inl (orI l2 v2)), some (.inl l3)]) rfl rfl rfl rfl (p_iinc (q := 31) (z := 1) (L2 := [some (.inr r0), some (.inl l1), some (.inl (orI l2 v2)), some (.inl (wrap (l3 + 1)))]) rfl rfl (by decide) rfl rfl (p_goto (q := 4) (off := (-27)) rfl (by decide) rfl (rfl))))))))))))))))
/-- Table.pairsWithSum, from 0 -/
theorem b41_0 (X : Nat × (Nat → Int)) (d : Nat) (r0 : Nat) (w : MW) : run X (d + 1) 41 [.inr r0] w = R X (d + 1) 41 4 [some (.inr r0), some (.inl 0), some (.inl 1), none] [] w := (show R X (d + 1) 41 0 [some (.inr r0), none, none, none] [] w = _ from p_iconst (q := 1) (z := 0) rfl (by decide) rfl (p_istore_n (q := 2) (L2 := [some (.inr r0), some (.inl 0), none, none]) rfl rfl rfl rfl (p_iconst (q := 3) (z := 1) rfl (by decide) rfl (p_istore_n (q := 4) (L2 := [some (.inr r0), some (.inl 0), some (.inl 1), none]) rfl rfl rfl rfl (rfl)))))
/-- Table.pairsWithSum, from 4 -/
theorem b41_4 (X : Nat × (Nat → Int)) (d : Nat) (r0 : Nat) (l1 : Int) (l2 : Int) (w : MW) : R X (d + 1) 41 4 [some (.inr r0), some (.inl l1), some (.inl l2), none] [] w = gd (kd w r0 = 13) (if (gi w r0 0) ≤ l2 then (some (some (.inl l1), w)) else (R X (d + 1) 41 14 [some (.inr r0), some (.inl l1), some (.inl l2), some (.inl l2)] [] w)) := q_iload_n (q := 5) (L1 := [some (.inr r0), some (.inl l1), some (.inl l2), none]) rfl rfl rfl rfl (p_aload_n (q := 6) rfl rfl rfl (p_getf (q := 9) rfl rfl rfl rfl (p_icmp_ge (q := 46) (q2 := 12) (off := 37) rfl (by decide) rfl rfl (p_iload_n (q := 47) rfl rfl rfl (p_iret rfl rfl)) (p_iload_n (q := 13) rfl rfl rfl (p_istore_n (q := 14) (L2 := [some (.inr r0), some (.inl l1), some (.inl l2), some (.inl l2)]) rfl rfl rfl rfl (rfl))))))
/-- Table.pairsWithSum, from 14 -/
theorem b41_14 (X : Nat × (Nat → Int)) (d : Nat) (r0 : Nat) (l1 : Int) (l2 : Int) (l3 : Int) (w : MW) : R X (d + 1) 41 14 [some (.inr r0), some (.inl l1), some (.inl l2), some (.inl l3)] [] w = gd (kd w r0 = 13) (if (gi w r0 0) ≤ l3 then (R X (d + 1) 41 4 [some (.inr r0), some (.inl l1), some (.inl (wrap (l2 + 1))), none] [] w) else (gd (kd w r0 = 13) (rI (run X d 26 [.inr r0, .inl l2, .inl l3] w) fun v1 w1 => if v1 = 0 then (R X (d + 1) 41 14 [some (.inr r0), some (.inl l1), some (.inl l2), some (.inl (wrap (l3 + 1)))] [] w1) else (R X (d + 1) 41 14 [some (.inr r0), some (.inl (wrap (l1 + 1))), some (.inl l2), some (.inl (wrap (l3 + 1)))] [] w1)))) := p_iload_n (q := 15) rfl rfl rfl (p_aload_n (q := 16) rfl rfl rfl (p_getf (q := 19) rfl rfl rfl rfl (p_icmp_ge (q := 40) (q2 := 22) (off := 21) rfl (by decide) rfl rfl (p_iinc (q := 43) (z := 1) (L2 := [some (.inr r0), some (.inl l1), some (.inl (wrap (l2 + 1))), some (.inl l3)]) rfl rfl (by decide) rfl rfl (p_goto (q := 4) (off := (-39)) rfl (by decide) rfl (q_kill rfl rfl rfl rfl))) (p_aload_n (q := 23) rfl rfl rfl (p_iload_n (q := 24) rfl rfl rfl (p_iload_n (q := 25) rfl rfl rfl (p_callVi (q := 28) (s2 := []) rfl rfl rfl rfl rfl rfl rfl (fun v1 w1 => p_if_eq (q := 34) (q2 := 31) (off := 6) rfl (by decide) rfl rfl (p_iinc (q := 37) (z := 1) (L2 := [some (.inr r0), some (.inl l1), some (.inl l2), some (.inl (wrap (l3 + 1)))]) rfl rfl (by decide) rfl rfl (p_goto (q := 14) (off := (-23)) rfl (by decide) rfl (rfl))) (p_iinc (q := 34) (z := 1) (L2 := [some (.inr r0), some (.inl (wrap (l1 + 1))), some (.inl l2), some (.inl l3)]) rfl rfl (by decide) rfl rfl (p_iinc (q := 37) (z := 1) (L2 := [some (.inr r0), some (.inl (wrap (l1 + 1))), some (.inl l2), some (.inl (wrap (l3 + 1)))]) rfl rfl (by decide) rfl rfl (p_goto (q := 14) (off := (-23)) rfl (by decide) rfl (rfl))))))))))))
/-- Table.pairsNaming, from 0 -/
theorem b42_0 (X : Nat × (Nat → Int)) (d : Nat) (r0 : Nat) (l1 : Int) (l2 : Int) (w : MW) : run X (d + 1) 42 [.inr r0, .inl l1, .inl l2] w = rI (run X d 95 [.inl l1] w) fun v1 w1 => rI (run X d 95 [.inl l2] w1) fun v2 w2 => R X (d + 1) 42 16 [some (.inr r0), none, none, some (.inl (orI v1 v2)), some (.inl 0), some (.inl 1), none, none] [] w2 := (show R X (d + 1) 42 0 [some (.inr r0), some (.inl l1), some (.inl l2), none, none, none, none, none] [] w = _ from p_iload_n (q := 1) rfl rfl rfl (p_callTi (q := 4) (s2 := []) rfl rfl rfl rfl rfl rfl (fun v1 w1 => p_iload_n (q := 5) rfl rfl rfl (p_callTi (q := 8) (s2 := [.inl v1]) rfl rfl rfl rfl rfl rfl (fun v2 w2 => p_ior (q := 9) rfl rfl (p_istore_n (q := 10) (L2 := [some (.inr r0), some (.inl l1), some (.inl l2), some (.inl (orI v1 v2)), none, none, none, none]) rfl rfl rfl rfl (p_iconst (q := 11) (z := 0) rfl (by decide) rfl (p_istore (q := 13) (L2 := [some (.inr r0), some (.inl l1), some (.inl l2), some (.inl (orI v1 v2)), some (.inl 0), none, none, none]) rfl rfl rfl rfl (p_iconst (q := 14) (z := 1) rfl (by decide) rfl (p_istore (q := 16) (L2 := [some (.inr r0), some (.inl l1), some (.inl l2), some (.inl (orI v1 v2)), some (.inl 0), some (.inl 1), none, none]) rfl rfl rfl rfl (q_kill rfl rfl rfl rfl)))))))))))
/-- Table.pairsNaming, from 16 -/
theorem b42_16 (X : Nat × (Nat → Int)) (d : Nat) (r0 : Nat) (l3 : Int) (l4 : Int) (l5 : Int) (w : MW) : R X (d + 1) 42 16 [some (.inr r0), none, none, some (.inl l3), some (.inl l4), some (.inl l5), none, none] [] w = gd (kd w r0 = 13) (if (gi w r0 0) ≤ l5 then (some (some (.inl l4), w)) else (R X (d + 1) 42 29 [some (.inr r0), none, none, some (.inl l3), some (.inl l4), some (.inl l5), some (.inl l5), none] [] w)) := q_iload (q := 18) (L1 := [some (.inr r0), none, none, some (.inl l3), some (.inl l4), some (.inl l5), none, none]) rfl rfl rfl rfl (p_aload_n (q := 19) rfl rfl rfl (p_getf (q := 22) rfl rfl rfl rfl (p_icmp_ge (q := 92) (q2 := 25) (off := 70) rfl (by decide) rfl rfl (p_iload (q := 94) rfl rfl rfl (p_iret rfl rfl)) (p_iload (q := 27) rfl rfl rfl (p_istore (q := 29) (L2 := [some (.inr r0), none, none, some (.inl l3), some (.inl l4), some (.inl l5), some (.inl l5), none]) rfl rfl rfl rfl (rfl))))))
/-- Table.pairsNaming, from 29 -/
theorem b42_29 (X : Nat × (Nat → Int)) (d : Nat) (r0 : Nat) (l3 : Int) (l4 : Int) (l5 : Int) (l6 : Int) (w : MW) : R X (d + 1) 42 29 [some (.inr r0), none, none, some (.inl l3), some (.inl l4), some (.inl l5), some (.inl l6), none] [] w = gd (kd w r0 = 13) (if (gi w r0 0) ≤ l6 then (R X (d + 1) 42 16 [some (.inr r0), none, none, some (.inl l3), some (.inl l4), some (.inl (wrap (l5 + 1))), none, none] [] w) else (gd (kd w r0 = 13) (rI (run X d 25 [.inr r0, .inl l5, .inl l6] w) fun v1 w1 => if v1 = (12 : Int) then (R X (d + 1) 42 29 [some (.inr r0), none, none, some (.inl l3), some (.inl l4), some (.inl l5), some (.inl (wrap (l6 + 1))), none] [] w1) else (rI (run X d 95 [.inl l5] w1) fun v2 w2 => rI (run X d 95 [.inl l6] w2) fun v3 w3 => rI (run X d 95 [.inl v1] w3) fun v4 w4 => if (andI (orI (orI v2 v3) v4) l3) = 0 then (R X (d + 1) 42 29 [some (.inr r0), none, none, some (.inl l3), some (.inl l4), some (.inl l5), some (.inl (wrap (l6 + 1))), none] [] w4) else (R X (d + 1) 42 29 [some (.inr r0), none, none, some (.inl l3), some (.inl (wrap (l4 + 1))), some (.inl l5), some (.inl (wrap (l6 + 1))), none] [] w4))))) := q_iload (q := 31) (L1 := [some (.inr r0), none, none, some (.inl l3), some (.inl l4), some (.inl l5), some (.inl l6), none]) rfl rfl rfl rfl (p_aload_n (q := 32) rfl rfl rfl (p_getf (q := 35) rfl rfl rfl rfl (p_icmp_ge (q := 86) (q2 := 38) (off := 51) rfl (by decide) rfl rfl (p_iinc (q := 89) (z := 1) (L2 := [some (.inr r0), none, none, some (.inl l3), some (.inl l4), some (.inl (wrap (l5 + 1))), some (.inl l6), none]) rfl rfl (by decide) rfl rfl (p_goto (q := 16) (off := (-73)) rfl (by decide) rfl (q_kill rfl rfl rfl rfl))) (p_aload_n (q := 39) rfl rfl rfl (p_iload (q := 41) rfl rfl rfl (p_iload (q := 43) rfl rfl rfl (p_callVi (q := 46) (s2 := []) rfl rfl rfl rfl rfl rfl rfl (fun v1 w1 => p_istore (q := 48) (L2 := [some (.inr r0), none, none, some (.inl l3), some (.inl l4), some (.inl l5), some (.inl l6), some (.inl v1)]) rfl rfl rfl rfl (p_iload (q := 50) rfl rfl rfl (p_bipush (q := 52) (z := 12) rfl (by decide) rfl (p_icmp_eq (q := 80) (q2 := 55) (off := 28) rfl (by decide) rfl rfl (p_iinc (q := 83) (z := 1) (L2 := [some (.inr r0), none, none, some (.inl l3), some (.inl l4), some (.inl l5), some (.inl (wrap (l6 + 1))), some (.inl v1)]) rfl rfl (by decide) rfl rfl (p_goto (q := 29) (off := (-54)) rfl (by decide) rfl (q_kill rfl rfl rfl rfl))) (p_iload (q := 57) rfl rfl rfl (p_callTi (q := 60) (s2 := []) rfl rfl rfl rfl rfl rfl (fun v2 w2 => p_iload (q := 62) rfl rfl rfl (p_callTi (q := 65) (s2 := [.inl v2]) rfl rfl rfl rfl rfl rfl (fun v3 w3 => p_ior (q := 66) rfl rfl (p_iload (q := 68) rfl rfl rfl (p_callTi (q := 71) (s2 := [.inl (orI v2 v3)]) rfl rfl rfl rfl rfl rfl (fun v4 w4 => p_ior (q := 72) rfl rfl (p_iload_n (q := 73) rfl rfl rfl (p_iand (q := 74) rfl rfl (p_if_eq (q := 80) (q2 := 77) (off := 6) rfl (by decide) rfl rfl (p_iinc (q := 83) (z := 1) (L2 := [some (.inr r0), none, none, some (.inl l3), some (.inl l4), some (.inl l5), some (.inl (wrap (l6 + 1))), some (.inl v1)]) rfl rfl (by decide) rfl rfl (p_goto (q := 29) (off := (-54)) rfl (by decide) rfl (q_kill rfl rfl rfl rfl))) (p_iinc (q := 80) (z := 1) (L2 := [some (.inr r0), none, none, some (.inl l3), some (.inl (wrap (l4 + 1))), some (.inl l5), some (.inl l6), some (.inl v1)]) rfl rfl (by decide) rfl rfl (p_iinc (q := 83) (z := 1) (L2 := [some (.inr r0), none, none, some (.inl l3), some (.inl (wrap (l4 + 1))), some (.inl l5), some (.inl (wrap (l6 + 1))), some (.inl v1)]) rfl rfl (by decide) rfl rfl (p_goto (q := 29) (off := (-54)) rfl (by decide) rfl (q_kill rfl rfl rfl rfl))))))))))))))))))))))))))
end
section
/-- History.<init>, from 0 -/
theorem b1_0 (X : Nat × (Nat → Int)) (d : Nat) (r0 : Nat) (w : MW) : run X (d + 1) 1 [.inr r0] w = gd (kd (al w 3 4 4) r0 = 10) (R X (d + 1) 1 14 [some (.inr r0), some (.inl 0)] [] (sr (al w 3 4 4) r0 1 (some (nx w)))) := (show R X (d + 1) 1 0 [some (.inr r0), none] [] w = _ from p_aload_n (q := 1) rfl rfl rfl (p_objinit (q := 4) rfl rfl (Nat.le_of_ble_eq_true rfl) rfl (p_aload_n (q := 5) rfl rfl rfl (p_iconst (q := 6) (z := 4) rfl (by decide) rfl (p_newq (q := 9) rfl (by decide) rfl (p_putr (q := 12) rfl rfl rfl rfl (p_iconst (q := 13) (z := 0) rfl (by decide) rfl (p_istore_n (q := 14) (L2 := [some (.inr r0), some (.inl 0)]) rfl rfl rfl rfl (rfl)))))))))
/-- History.<init>, from 14 -/
theorem b1_14 (X : Nat × (Nat → Int)) (d : Nat) (r0 : Nat) (l1 : Int) (w : MW) : R X (d + 1) 1 14 [some (.inr r0), some (.inl l1)] [] w = if (4 : Int) ≤ l1 then (some (none, w)) else (gd (kd w r0 = 10) (rO (gr w r0 1) fun b1 => gd (kd (al w 13 0 2) (nx w) = 13) (rV (run X d 23 [.inr (nx w)] (al w 13 0 2)) fun w2 => gd ((kd w2 b1 = 3 ∧ 0 ≤ l1 ∧ l1 < ln w2 b1) ∧ kd w2 (nx w) = 13) (R X (d + 1) 1 14 [some (.inr r0), some (.inl (wrap (l1 + 1)))] [] (sr w2 b1 (Int.toNat (l1)) (some (nx w))))))) := p_iload_n (q := 15) rfl rfl rfl (p_iconst (q := 16) (z := 4) rfl (by decide) rfl (p_icmp_ge (q := 38) (q2 := 19) (off := 22) rfl (by decide) rfl rfl (p_vret rfl) (p_aload_n (q := 20) rfl rfl rfl (p_getr (q := 23) rfl rfl rfl rfl (fun b1 => p_iload_n (q := 24) rfl rfl rfl (p_new (q := 27) rfl rfl rfl (p_dup (q := 28) rfl rfl (p_callIv (q := 31) (s2 := [.inr (nx w), .inl l1, .inr b1]) rfl rfl rfl rfl rfl rfl rfl (fun w2 => p_aast (q := 32) rfl rfl (p_iinc (q := 35) (z := 1) (L2 := [some (.inr r0), some (.inl (wrap (l1 + 1)))]) rfl rfl (by decide) rfl rfl (p_goto (q := 14) (off := (-21)) rfl (by decide) rfl (rfl))))))))))))
/-- History.remember, from 0 -/
theorem b2_0 (X : Nat × (Nat → Int)) (d : Nat) (r0 : Nat) (r1 : Nat) (w : MW) : run X (d + 1) 2 [.inr r0, .inr r1] w = gd (kd w r0 = 10) (if (gi w r0 0) ≠ (4 : Int) then (R X (d + 1) 2 12 [some (.inr r0), some (.inr r1), none] [] w) else (gd (kd w r0 = 10) (rV (run X d 3 [.inr r0] w) fun w1 => R X (d + 1) 2 12 [some (.inr r0), some (.inr r1), none] [] w1))) := (show R X (d + 1) 2 0 [some (.inr r0), some (.inr r1), none] [] w = _ from p_aload_n (q := 1) rfl rfl rfl (p_getf (q := 4) rfl rfl rfl rfl (p_iconst (q := 5) (z := 4) rfl (by decide) rfl (p_icmp_ne (q := 12) (q2 := 8) (off := 7) rfl (by decide) rfl rfl (rfl) (p_aload_n (q := 9) rfl rfl rfl (p_callVv (q := 12) (s2 := []) rfl rfl rfl rfl rfl rfl rfl (fun w1 => rfl)))))))
/-- History.remember, from 12 -/
theorem b2_12 (X : Nat × (Nat → Int)) (d : Nat) (r0 : Nat) (r1 : Nat) (w : MW) : R X (d + 1) 2 12 [some (.inr r0), some (.inr r1), none] [] w = gd (kd w r0 = 10) (rO (gr w r0 1) fun b1 => gd (kd w r0 = 10) (gd (kd w b1 = 3 ∧ 0 ≤ (gi w r0 0) ∧ (gi w r0 0) < ln w b1) (rO (gr w b1 (Int.toNat (gi w r0 0))) fun b2 => gd (kd w b2 = 13) (rV (run X d 30 [.inr b2, .inr r1] w) fun w3 => gd (kd w3 r0 = 10) (gd (kd w3 r0 = 10) (some (some (.inr b2), si w3 r0 0 (wrap ((gi w3 r0 0) + 1))))))))) := q_aload_n (q := 13) (L1 := [some (.inr r0), some (.inr r1), none]) rfl rfl rfl rfl (p_getr (q := 16) rfl rfl rfl rfl (fun b1 => p_aload_n (q := 17) rfl rfl rfl (p_getf (q := 20) rfl rfl rfl rfl (p_aald (q := 21) rfl rfl (fun b2 => p_astore_n (q := 22) (L2 := [some (.inr r0), some (.inr r1), some (.inr b2)]) rfl rfl rfl rfl (p_aload_n (q := 23) rfl rfl rfl (p_aload_n (q := 24) rfl rfl rfl (p_callVv (q := 27) (s2 := []) rfl rfl rfl rfl rfl rfl rfl (fun w3 => p_aload_n (q := 28) rfl rfl rfl (p_dup (q := 29) rfl rfl (p_getf (q := 32) rfl rfl rfl rfl (p_iconst (q := 33) (z := 1) rfl (by decide) rfl (p_iadd (q := 34) rfl rfl (p_putf (q := 37) rfl rfl rfl rfl (p_aload_n (q := 38) rfl rfl rfl (p_aret rfl))))))))))))))))
/-- History.dropOldest, from 0 -/
theorem b3_0 (X : Nat × (Nat → Int)) (d : Nat) (r0 : Nat) (w : MW) : run X d 3 [.inr r0] w = gd (kd w r0 = 10) (rO (gr w r0 1) fun b1 => gd (kd w b1 = 3 ∧ 0 ≤ (0 : Int) ∧ (0 : Int) < ln w b1) (rO (gr w b1 (Int.toNat (0))) fun b2 => R X d 3 9 [some (.inr r0), some (.inr b2), some (.inl 1)] [] w)) := (show R X d 3 0 [some (.inr r0), none, none] [] w = _ from p_aload_n (q := 1) rfl rfl rfl (p_getr (q := 4) rfl rfl rfl rfl (fun b1 => p_iconst (q := 5) (z := 0) rfl (by decide) rfl (p_aald (q := 6) rfl rfl (fun b2 => p_astore_n (q := 7) (L2 := [some (.inr r0), some (.inr b2), none]) rfl rfl rfl rfl (p_iconst (q := 8) (z := 1) rfl (by decide) rfl (p_istore_n (q := 9) (L2 := [some (.inr r0), some (.inr b2), some (.inl 1)]) rfl rfl rfl rfl (rfl))))))))
/-- History.dropOldest, from 9 -/
theorem b3_9 (X : Nat × (Nat → Int)) (d : Nat) (r0 : Nat) (r1 : Nat) (l2 : Int) (w : MW) : R X d 3 9 [some (.inr r0), some (.inr r1), some (.inl l2)] [] w = if (4 : Int) ≤ l2 then (gd (kd w r0 = 10) (rO (gr w r0 1) fun b1 => gd ((kd w b1 = 3 ∧ 0 ≤ (3 : Int) ∧ (3 : Int) < ln w b1) ∧ kd w r1 = 13) (gd (kd (sr w b1 (Int.toNat (3)) (some r1)) r0 = 10) (some (none, si (sr w b1 (Int.toNat (3)) (some r1)) r0 0 3))))) else (gd (kd w r0 = 10) (rO (gr w r0 1) fun b2 => gd (kd w r0 = 10) (rO (gr w r0 1) fun b3 => gd (kd w b3 = 3 ∧ 0 ≤ l2 ∧ l2 < ln w b3) (rO (gr w b3 (Int.toNat (l2))) fun b4 => gd ((kd w b2 = 3 ∧ 0 ≤ (wrap (l2 - 1)) ∧ (wrap (l2 - 1)) < ln w b2) ∧ kd w b4 = 13) (R X d 3 9 [some (.inr r0), some (.inr r1), some (.inl (wrap (l2 + 1)))] [] (sr w b2 (Int.toNat (wrap (l2 - 1))) (some b4))))))) := p_iload_n (q := 10) rfl rfl rfl (p_iconst (q := 11) (z := 4) rfl (by decide) rfl (p_icmp_ge (q := 34) (q2 := 14) (off := 23) rfl (by decide) rfl rfl (p_aload_n (q := 35) rfl rfl rfl (p_getr (q := 38) rfl rfl rfl rfl (fun b1 => p_iconst (q := 39) (z := 3) rfl (by decide) rfl (p_aload_n (q := 40) rfl rfl rfl (p_aast (q := 41) rfl rfl (p_aload_n (q := 42) rfl rfl rfl (p_iconst (q := 43) (z := 3) rfl (by decide) rfl (p_putf (q := 46) rfl rfl rfl rfl (p_vret rfl))))))))) (p_aload_n (q := 15) rfl rfl rfl (p_getr (q := 18) rfl rfl rfl rfl (fun b2 => p_iload_n (q := 19) rfl rfl rfl (p_iconst (q := 20) (z := 1) rfl (by decide) rfl (p_isub (q := 21) rfl rfl (p_aload_n (q := 22) rfl rfl rfl (p_getr (q := 25) rfl rfl rfl rfl (fun b3 => p_iload_n (q := 26) rfl rfl rfl (p_aald (q := 27) rfl rfl (fun b4 => p_aast (q := 28) rfl rfl (p_iinc (q := 31) (z := 1) (L2 := [some (.inr r0), some (.inr r1), some (.inl (wrap (l2 + 1)))]) rfl rfl (by decide) rfl rfl (p_goto (q := 9) (off := (-22)) rfl (by decide) rfl (rfl)))))))))))))))
/-- History.bringBack, from 0 -/
theorem b4_0 (X : Nat × (Nat → Int)) (d : Nat) (r0 : Nat) (r1 : Nat) (w : MW) : run X (d + 1) 4 [.inr r0, .inr r1] w = gd (kd w r0 = 10) (if (gi w r0 0) ≠ 0 then (gd (kd w r0 = 10) (gd (kd w r0 = 10) (gd (kd (si w r0 0 (wrap ((gi w r0 0) - 1))) r0 = 10) (rO (gr (si w r0 0 (wrap ((gi w r0 0) - 1))) r0 1) fun b1 => gd (kd (si w r0 0 (wrap ((gi w r0 0) - 1))) r0 = 10) (gd (kd (si w r0 0 (wrap ((gi w r0 0) - 1))) b1 = 3 ∧ 0 ≤ (gi (si w r0 0 (wrap ((gi w r0 0) - 1))) r0 0) ∧ (gi (si w r0 0 (wrap ((gi w r0 0) - 1))) r0 0) < ln (si w r0 0 (wrap ((gi w r0 0) - 1))) b1) (rO (gr (si w r0 0 (wrap ((gi w r0 0) - 1))) b1 (Int.toNat (gi (si w r0 0 (wrap ((gi w r0 0) - 1))) r0 0))) fun b2 => gd (kd (si w r0 0 (wrap ((gi w r0 0) - 1))) r1 = 13) (rV (run X d 30 [.inr r1, .inr b2] (si w r0 0 (wrap ((gi w r0 0) - 1)))) fun w3 => some (some (.inl 1), w3)))))))) else (some (some (.inl 0), w))) := (show R X (d + 1) 4 0 [some (.inr r0), some (.inr r1)] [] w = _ from p_aload_n (q := 1) rfl rfl rfl (p_getf (q := 4) rfl rfl rfl rfl (p_if_ne (q := 9) (q2 := 7) (off := 5) rfl (by decide) rfl rfl (p_aload_n (q := 10) rfl rfl rfl (p_dup (q := 11) rfl rfl (p_getf (q := 14) rfl rfl rfl rfl (p_iconst (q := 15) (z := 1) rfl (by decide) rfl (p_isub (q := 16) rfl rfl (p_putf (q := 19) rfl rfl rfl rfl (p_aload_n (q := 20) rfl rfl rfl (p_aload_n (q := 21) rfl rfl rfl (p_getr (q := 24) rfl rfl rfl rfl (fun b1 => p_aload_n (q := 25) rfl rfl rfl (p_getf (q := 28) rfl rfl rfl rfl (p_aald (q := 29) rfl rfl (fun b2 => p_callVv (q := 32) (s2 := []) rfl rfl rfl rfl rfl rfl rfl (fun w3 => p_iconst (q := 33) (z := 1) rfl (by decide) rfl (p_zret1 rfl rfl))))))))))))))) (p_iconst (q := 8) (z := 0) rfl (by decide) rfl (p_zret0 rfl rfl)))))
end
section
/-- Laws.<init>, from 0 -/
theorem b5_0 (X : Nat × (Nat → Int)) (d : Nat) (r0 : Nat) (w : MW) : run X d 5 [.inr r0] w = some (none, w) := (show R X d 5 0 [some (.inr r0)] [] w = _ from p_aload_n (q := 1) rfl rfl rfl (p_objinit (q := 4) rfl rfl (Nat.le_of_ble_eq_true rfl) rfl (p_vret rfl)))
/-- Laws.check, from 0 -/
theorem b6_0 (X : Nat × (Nat → Int)) (d : Nat) (r0 : Nat) (r1 : Nat) (w : MW) : run X (d + 1) 6 [.inr r0, .inr r1] w = gd (kd w r0 = 11) (R X (d + 1) 6 7 [some (.inr r0), some (.inr r1), some (.inl 0), none] [] (si w r0 0 0)) := (show R X (d + 1) 6 0 [some (.inr r0), some (.inr r1), none, none] [] w = _ from p_aload_n (q := 1) rfl rfl rfl (p_iconst (q := 2) (z := 0) rfl (by decide) rfl (p_putf (q := 5) rfl rfl rfl rfl (p_iconst (q := 6) (z := 0) rfl (by decide) rfl (p_istore_n (q := 7) (L2 := [some (.inr r0), some (.inr r1), some (.inl 0), none]) rfl rfl rfl rfl (rfl))))))
/-- Laws.check, from 7 -/
theorem b6_7 (X : Nat × (Nat → Int)) (d : Nat) (r0 : Nat) (r1 : Nat) (l2 : Int) (w : MW) : R X (d + 1) 6 7 [some (.inr r0), some (.inr r1), some (.inl l2), none] [] w = gd (kd w r1 = 13) (if (gi w r1 0) ≤ l2 then (R X (d + 1) 6 46 [some (.inr r0), some (.inr r1), some (.inl 0), none] [] w) else (R X (d + 1) 6 17 [some (.inr r0), some (.inr r1), some (.inl l2), some (.inl 0)] [] w)) := q_iload_n (q := 8) (L1 := [some (.inr r0), some (.inr r1), some (.inl l2), none]) rfl rfl rfl rfl (p_aload_n (q := 9) rfl rfl rfl (p_getf (q := 12) rfl rfl rfl rfl (p_icmp_ge (q := 44) (q2 := 15) (off := 32) rfl (by decide) rfl rfl (p_iconst (q := 45) (z := 0) rfl (by decide) rfl (p_istore_n (q := 46) (L2 := [some (.inr r0), some (.inr r1), some (.inl 0), none]) rfl rfl rfl rfl (rfl))) (p_iconst (q := 16) (z := 0) rfl (by decide) rfl (p_istore_n (q := 17) (L2 := [some (.inr r0), some (.inr r1), some (.inl l2), some (.inl 0)]) rfl rfl rfl rfl (rfl))))))
/-- Laws.check, from 17 -/
theorem b6_17 (X : Nat × (Nat → Int)) (d : Nat) (r0 : Nat) (r1 : Nat) (l2 : Int) (l3 : Int) (w : MW) : R X (d + 1) 6 17 [some (.inr r0), some (.inr r1), some (.inl l2), some (.inl l3)] [] w = gd (kd w r1 = 13) (if (gi w r1 0) ≤ l3 then (R X (d + 1) 6 7 [some (.inr r0), some (.inr r1), some (.inl (wrap (l2 + 1))), none] [] w) else (gd (kd w r0 = 11) (rV (run X d 7 [.inr r0, .inr r1, .inl l2, .inl l3] w) fun w1 => R X (d + 1) 6 17 [some (.inr r0), some (.inr r1), some (.inl l2), some (.inl (wrap (l3 + 1)))] [] w1))) := p_iload_n (q := 18) rfl rfl rfl (p_aload_n (q := 19) rfl rfl rfl (p_getf (q := 22) rfl rfl rfl rfl (p_icmp_ge (q := 38) (q2 := 25) (off := 16) rfl (by decide) rfl rfl (p_iinc (q := 41) (z := 1) (L2 := [some (.inr r0), some (.inr r1), some (.inl (wrap (l2 + 1))), some (.inl l3)]) rfl rfl (by decide) rfl rfl (p_goto (q := 7) (off := (-34)) rfl (by decide) rfl (q_kill rfl rfl rfl rfl))) (p_aload_n (q := 26) rfl rfl rfl (p_aload_n (q := 27) rfl rfl rfl (p_iload_n (q := 28) rfl rfl rfl (p_iload_n (q := 29) rfl rfl rfl (p_callVv (q := 32) (s2 := []) rfl rfl rfl rfl rfl rfl rfl (fun w1 => p_iinc (q := 35) (z := 1) (L2 := [some (.inr r0), some (.inr r1), some (.inl l2), some (.inl (wrap (l3 + 1)))]) rfl rfl (by decide) rfl rfl (p_goto (q := 17) (off := (-18)) rfl (by decide) rfl (rfl)))))))))))
/-- Laws.check, from 46 -/
theorem b6_46 (X : Nat × (Nat → Int)) (d : Nat) (r0 : Nat) (r1 : Nat) (l2 : Int) (w : MW) : R X (d + 1) 6 46 [some (.inr r0), some (.inr r1), some (.inl l2), none] [] w = gd (kd w r1 = 13) (if (gi w r1 0) ≤ l2 then (R X (d + 1) 6 79 [some (.inr r0), some (.inr r1), some (.inl 1), none] [] w) else (rI (run X d 8 [.inr r1, .inl l2] w) fun v1 w1 => if v1 = (1 : Int) then (R X (d + 1) 6 46 [some (.inr r0), some (.inr r1), some (.inl (wrap (l2 + 1))), none] [] w1) else (gd (kd w1 r0 = 11) (rV (run X d 9 [.inr r0, .inl 1, .inl l2, .inl 0, .inl 0] w1) fun w2 => R X (d + 1) 6 46 [some (.inr r0), some (.inr r1), some (.inl (wrap (l2 + 1))), none] [] w2)))) := q_iload_n (q := 47) (L1 := [some (.inr r0), some (.inr r1), some (.inl l2), none]) rfl rfl rfl rfl (p_aload_n (q := 48) rfl rfl rfl (p_getf (q := 51) rfl rfl rfl rfl (p_icmp_ge (q := 77) (q2 := 54) (off := 26) rfl (by decide) rfl rfl (p_iconst (q := 78) (z := 1) rfl (by decide) rfl (p_istore_n (q := 79) (L2 := [some (.inr r0), some (.inr r1), some (.inl 1), none]) rfl rfl rfl rfl (rfl))) (p_aload_n (q := 55) rfl rfl rfl (p_iload_n (q := 56) rfl rfl rfl (p_callSi (q := 59) (s2 := []) rfl rfl rfl rfl rfl rfl (fun v1 w1 => p_iconst (q := 60) (z := 1) rfl (by decide) rfl (p_icmp_eq (q := 71) (q2 := 63) (off := 11) rfl (by decide) rfl rfl (p_iinc (q := 74) (z := 1) (L2 := [some (.inr r0), some (.inr r1), some (.inl (wrap (l2 + 1))), none]) rfl rfl (by decide) rfl rfl (p_goto (q := 46) (off := (-28)) rfl (by decide) rfl (rfl))) (p_aload_n (q := 64) rfl rfl rfl (p_iconst (q := 65) (z := 1) rfl (by decide) rfl (p_iload_n (q := 66) rfl rfl rfl (p_iconst (q := 67) (z := 0) rfl (by decide) rfl (p_iconst (q := 68) (z := 0) rfl (by decide) rfl (p_callVv (q := 71) (s2 := []) rfl rfl rfl rfl rfl rfl rfl (fun w2 => p_iinc (q := 74) (z := 1) (L2 := [some (.inr r0), some (.inr r1), some (.inl (wrap (l2 + 1))), none]) rfl rfl (by decide) rfl rfl (p_goto (q := 46) (off := (-28)) rfl (by decide) rfl (rfl)))))))))))))))))
/-- Laws.check, from 79 -/
theorem b6_79 (X : Nat × (Nat → Int)) (d : Nat) (r0 : Nat) (r1 : Nat) (l2 : Int) (w : MW) : R X (d + 1) 6 79 [some (.inr r0), some (.inr r1), some (.inl l2), none] [] w = gd (kd w r1 = 13) (if (gi w r1 0) ≤ l2 then (some (none, w)) else (gd (kd w r1 = 13) (rI (run X d 26 [.inr r1, .inl l2, .inl 1] w) fun v1 w1 => if v1 = 0 then (R X (d + 1) 6 79 [some (.inr r0), some (.inr r1), some (.inl (wrap (l2 + 1))), none] [] w1) else (gd (kd w1 r0 = 11) (rV (run X d 9 [.inr r0, .inl 2, .inl l2, .inl 0, .inl 0] w1) fun w2 => R X (d + 1) 6 79 [some (.inr r0), some (.inr r1), some (.inl (wrap (l2 + 1))), none] [] w2))))) := q_iload_n (q := 80) (L1 := [some (.inr r0), some (.inr r1), some (.inl l2), none]) rfl rfl rfl rfl (p_aload_n (q := 81) rfl rfl rfl (p_getf (q := 84) rfl rfl rfl rfl (p_icmp_ge (q := 110) (q2 := 87) (off := 26) rfl (by decide) rfl rfl (p_vret rfl) (p_aload_n (q := 88) rfl rfl rfl (p_iload_n (q := 89) rfl rfl rfl (p_iconst (q := 90) (z := 1) rfl (by decide) rfl (p_callVi (q := 93) (s2 := []) rfl rfl rfl rfl rfl rfl rfl (fun v1 w1 => p_if_eq (q := 104) (q2 := 96) (off := 11) rfl (by decide) rfl rfl (p_iinc (q := 107) (z := 1) (L2 := [some (.inr r0), some (.inr r1), some (.inl (wrap (l2 + 1))), none]) rfl rfl (by decide) rfl rfl (p_goto (q := 79) (off := (-28)) rfl (by decide) rfl (rfl))) (p_aload_n (q := 97) rfl rfl rfl (p_iconst (q := 98) (z := 2) rfl (by decide) rfl (p_iload_n (q := 99) rfl rfl rfl (p_iconst (q := 100) (z := 0) rfl (by decide) rfl (p_iconst (q := 101) (z := 0) rfl (by decide) rfl (p_callVv (q := 104) (s2 := []) rfl rfl rfl rfl rfl rfl rfl (fun w2 => p_iinc (q := 107) (z := 1) (L2 := [some (.inr r0), some (.inr r1), some (.inl (wrap (l2 + 1))), none]) rfl rfl (by decide) rfl rfl (p_goto (q := 79) (off := (-28)) rfl (by decide) rfl (rfl)))))))))))))))))
/-- Laws.checkRegrouping, from 0 -/
theorem b7_0 (X : Nat × (Nat → Int)) (d : Nat) (r0 : Nat) (r1 : Nat) (l2 : Int) (l3 : Int) (w : MW) : run X (d + 1) 7 [.inr r0, .inr r1, .inl l2, .inl l3] w = R X (d + 1) 7 3 [some (.inr r0), some (.inr r1), some (.inl l2), some (.inl l3), some (.inl 0), none, none] [] w := (show R X (d + 1) 7 0 [some (.inr r0), some (.inr r1), some (.inl l2), some (.inl l3), none, none, none] [] w = _ from p_iconst (q := 1) (z := 0) rfl (by decide) rfl (p_istore (q := 3) (L2 := [some (.inr r0), some (.inr r1), some (.inl l2), some (.inl l3), some (.inl 0), none, none]) rfl rfl rfl rfl (rfl)))
/-- Laws.checkRegrouping, from 3 -/
theorem b7_3 (X : Nat × (Nat → Int)) (d : Nat) (r0 : Nat) (r1 : Nat) (l2 : Int) (l3 : Int) (l4 : Int) (w : MW) : R X (d + 1) 7 3 [some (.inr r0), some (.inr r1), some (.inl l2), some (.inl l3), some (.inl l4), none, none] [] w = gd (kd w r1 = 13) (if (gi w r1 0) ≤ l4 then (some (none, w)) else (gd (kd w r1 = 13) (rI (run X d 25 [.inr r1, .inl l3, .inl l4] w) fun v1 w1 => gd (kd w1 r1 = 13) (rI (run X d 25 [.inr r1, .inl l2, .inl v1] w1) fun v2 w2 => gd (kd w2 r1 = 13) (rI (run X d 25 [.inr r1, .inl l2, .inl l3] w2) fun v3 w3 => gd (kd w3 r1 = 13) (rI (run X d 25 [.inr r1, .inl v3, .inl l4] w3) fun v4 w4 => if v2 = (12 : Int) then (R X (d + 1) 7 3 [some (.inr r0), some (.inr r1), some (.inl l2), some (.inl l3), some (.inl (wrap (l4 + 1))), none, none] [] w4) else (if v4 = v2 then (R X (d + 1) 7 3 [some (.inr r0), some (.inr r1), some (.inl l2), some (.inl l3), some (.inl (wrap (l4 + 1))), none, none] [] w4) else (gd (kd w4 r0 = 11) (rV (run X d 9 [.inr r0, .inl 0, .inl l2, .inl l3, .inl l4] w4) fun w5 => R X (d + 1) 7 3 [some (.inr r0), some (.inr r1), some (.inl l2), some (.inl l3), some (.inl (wrap (l4 + 1))), none, none] [] w5))))))))) := q_iload (q := 5) (L1 := [some (.inr r0), some (.inr r1), some (.inl l2), some (.inl l3), some (.inl l4), none, none]) rfl rfl rfl rfl (p_aload_n (q := 6) rfl rfl rfl (p_getf (q := 9) rfl rfl rfl rfl (p_icmp_ge (q := 69) (q2 := 12) (off := 60) rfl (by decide) rfl rfl (p_vret rfl) (p_aload_n (q := 13) rfl rfl rfl (p_iload_n (q := 14) rfl rfl rfl (p_aload_n (q := 15) rfl rfl rfl (p_iload_n (q := 16) rfl rfl rfl (p_iload (q := 18) rfl rfl rfl (p_callVi (q := 21) (s2 := [.inl l2, .inr r1]) rfl rfl rfl rfl rfl rfl rfl (fun v1 w1 => p_callVi (q := 24) (s2 := []) rfl rfl rfl rfl rfl rfl rfl (fun v2 w2 => p_istore (q := 26) (L2 := [some (.inr r0), some (.inr r1), some (.inl l2), some (.inl l3), some (.inl l4), some (.inl v2), none]) rfl rfl rfl rfl (p_aload_n (q := 27) rfl rfl rfl (p_aload_n (q := 28) rfl rfl rfl (p_iload_n (q := 29) rfl rfl rfl (p_iload_n (q := 30) rfl rfl rfl (p_callVi (q := 33) (s2 := [.inr r1]) rfl rfl rfl rfl rfl rfl rfl (fun v3 w3 => p_iload (q := 35) rfl rfl rfl (p_callVi (q := 38) (s2 := []) rfl rfl rfl rfl rfl rfl rfl (fun v4 w4 => p_istore (q := 40) (L2 := [some (.inr r0), some (.inr r1), some (.inl l2), some (.inl l3), some (.inl l4), some (.inl v2), some (.inl v4)]) rfl rfl rfl rfl (p_iload (q := 42) rfl rfl rfl (p_bipush (q := 44) (z := 12) rfl (by decide) rfl (p_icmp_eq (q := 63) (q2 := 47) (off := 19) rfl (by decide) rfl rfl (p_iinc (q := 66) (z := 1) (L2 := [some (.inr r0), some (.inr r1), some (.inl l2), some (.inl l3), some (.inl (wrap (l4 + 1))), some (.inl v2), some (.inl v4)]) rfl rfl (by decide) rfl rfl (p_goto (q := 3) (off := (-63)) rfl (by decide) rfl (q_kill rfl rfl rfl rfl))) (p_iload (q := 49) rfl rfl rfl (p_iload (q := 51) rfl rfl rfl (p_icmp_eq (q := 63) (q2 := 54) (off := 12) rfl (by decide) rfl rfl (p_iinc (q := 66) (z := 1) (L2 := [some (.inr r0), some (.inr r1), some (.inl l2), some (.inl l3), some (.inl (wrap (l4 + 1))), some (.inl v2), some (.inl v4)]) rfl rfl (by decide) rfl rfl (p_goto (q := 3) (off := (-63)) rfl (by decide) rfl (q_kill rfl rfl rfl rfl))) (p_aload_n (q := 55) rfl rfl rfl (p_iconst (q := 56) (z := 0) rfl (by decide) rfl (p_iload_n (q := 57) rfl rfl rfl (p_iload_n (q := 58) rfl rfl rfl (p_iload (q := 60) rfl rfl rfl (p_callVv (q := 63) (s2 := []) rfl rfl rfl rfl rfl rfl rfl (fun w5 => p_iinc (q := 66) (z := 1) (L2 := [some (.inr r0), some (.inr r1), some (.inl l2), some (.inl l3), some (.inl (wrap (l4 + 1))), some (.inl v2), some (.inl v4)]) rfl rfl (by decide) rfl rfl (p_goto (q := 3) (off := (-63)) rfl (by decide) rfl (q_kill rfl rfl rfl rfl))))))))))))))))))))))))))))))))))
/-- Laws.rests, from 0 -/
theorem b8_0 (X : Nat × (Nat → Int)) (d : Nat) (r0 : Nat) (l1 : Int) (w : MW) : run X (d + 1) 8 [.inr r0, .inl l1] w = R X (d + 1) 8 4 [some (.inr r0), some (.inl l1), some (.inl 0), some (.inl 0)] [] w := (show R X (d + 1) 8 0 [some (.inr r0), some (.inl l1), none, none] [] w = _ from p_iconst (q := 1) (z := 0) rfl (by decide) rfl (p_istore_n (q := 2) (L2 := [some (.inr r0), some (.inl l1), some (.inl 0), none]) rfl rfl rfl rfl (p_iconst (q := 3) (z := 0) rfl (by decide) rfl (p_istore_n (q := 4) (L2 := [some (.inr r0), some (.inl l1), some (.inl 0), some (.inl 0)]) rfl rfl rfl rfl (rfl)))))
/-- Laws.rests, from 4 -/
theorem b8_4 (X : Nat × (Nat → Int)) (d : Nat) (r0 : Nat) (l1 : Int) (l2 : Int) (l3 : Int) (w : MW) : R X (d + 1) 8 4 [some (.inr r0), some (.inl l1), some (.inl l2), some (.inl l3)] [] w = gd (kd w r0 = 13) (if (gi w r0 0) ≤ l3 then (some (some (.inl l2), w)) else (gd (kd w r0 = 13) (rI (run X d 25 [.inr r0, .inl l1, .inl l3] w) fun v1 w1 => if v1 ≠ (1 : Int) then (R X (d + 1) 8 4 [some (.inr r0), some (.inl l1), some (.inl l2), some (.inl (wrap (l3 + 1)))] [] w1) else (R X (d + 1) 8 4 [some (.inr r0), some (.inl l1), some (.inl (wrap (l2 + 1))), some (.inl (wrap (l3 + 1)))] [] w1)))) := p_iload_n (q := 5) rfl rfl rfl (p_aload_n (q := 6) rfl rfl rfl (p_getf (q := 9) rfl rfl rfl rfl (p_icmp_ge (q := 31) (q2 := 12) (off := 22) rfl (by decide) rfl rfl (p_iload_n (q := 32) rfl rfl rfl (p_iret rfl rfl)) (p_aload_n (q := 13) rfl rfl rfl (p_iload_n (q := 14) rfl rfl rfl (p_iload_n (q := 15) rfl rfl rfl (p_callVi (q := 18) (s2 := []) rfl rfl rfl rfl rfl rfl rfl (fun v1 w1 => p_iconst (q := 19) (z := 1) rfl (by decide) rfl (p_icmp_ne (q := 25) (q2 := 22) (off := 6) rfl (by decide) rfl rfl (p_iinc (q := 28) (z := 1) (L2 := [some (.inr r0), some (.inl l1), some (.inl l2), some (.inl (wrap (l3 + 1)))]) rfl rfl (by decide) rfl rfl (p_goto (q := 4) (off := (-24)) rfl (by decide) rfl (rfl))) (p_iinc (q := 25) (z := 1) (L2 := [some (.inr r0), some (.inl l1), some (.inl (wrap (l2 + 1))), some (.inl l3)]) rfl rfl (by decide) rfl rfl (p_iinc (q := 28) (z := 1) (L2 := [some (.inr r0), some (.inl l1), some (.inl (wrap (l2 + 1))), some (.inl (wrap (l3 + 1)))]) rfl rfl (by decide) rfl rfl (p_goto (q := 4) (off := (-24)) rfl (by decide) rfl (rfl)))))))))))))
/-- Laws.note, from 0 -/
theorem b9_0 (X : Nat × (Nat → Int)) (d : Nat) (r0 : Nat) (l1 : Int) (l2 : Int) (l3 : Int) (l4 : Int) (w : MW) : run X d 9 [.inr r0, .inl l1, .inl l2, .inl l3, .inl l4] w = gd (kd w r0 = 11) (if (gi w r0 0) ≠ 0 then (gd (kd w r0 = 11) (gd (kd w r0 = 11) (some (none, si w r0 0 (wrap ((gi w r0 0) + 1)))))) else (gd (kd w r0 = 11) (gd (kd (si w r0 1 l1) r0 = 11) (gd (kd (si (si w r0 1 l1) r0 2 l2) r0 = 11) (gd (kd (si (si (si w r0 1 l1) r0 2 l2) r0 3 l3) r0 = 11) (gd (kd (si (si (si (si w r0 1 l1) r0 2 l2) r0 3 l3) r0 4 l4) r0 = 11) (gd (kd (si (si (si (si w r0 1 l1) r0 2 l2) r0 3 l3) r0 4 l4) r0 = 11) (some (none, si (si (si (si (si w r0 1 l1) r0 2 l2) r0 3 l3) r0 4 l4) r0 0 (wrap ((gi (si (si (si (si w r0 1 l1) r0 2 l2) r0 3 l3) r0 4 l4) r0 0) + 1))))))))))) := (show R X d 9 0 [some (.inr r0), some (.inl l1), some (.inl l2), some (.inl l3), some (.inl l4)] [] w = _ from p_aload_n (q := 1) rfl rfl rfl (p_getf (q := 4) rfl rfl rfl rfl (p_if_ne (q := 28) (q2 := 7) (off := 24) rfl (by decide) rfl rfl (p_aload_n (q := 29) rfl rfl rfl (p_dup (q := 30) rfl rfl (p_getf (q := 33) rfl rfl rfl rfl (p_iconst (q := 34) (z := 1) rfl (by decide) rfl (p_iadd (q := 35) rfl rfl (p_putf (q := 38) rfl rfl rfl rfl (p_vret rfl))))))) (p_aload_n (q := 8) rfl rfl rfl (p_iload_n (q := 9) rfl rfl rfl (p_putf (q := 12) rfl rfl rfl rfl (p_aload_n (q := 13) rfl rfl rfl (p_iload_n (q := 14) rfl rfl rfl (p_putf (q := 17) rfl rfl rfl rfl (p_aload_n (q := 18) rfl rfl rfl (p_iload_n (q := 19) rfl rfl rfl (p_putf (q := 22) rfl rfl rfl rfl (p_aload_n (q := 23) rfl rfl rfl (p_iload (q := 25) rfl rfl rfl (p_putf (q := 28) rfl rfl rfl rfl (p_aload_n (q := 29) rfl rfl rfl (p_dup (q := 30) rfl rfl (p_getf (q := 33) rfl rfl rfl rfl (p_iconst (q := 34) (z := 1) rfl (by decide) rfl (p_iadd (q := 35) rfl rfl (p_putf (q := 38) rfl rfl rfl rfl (p_vret rfl))))))))))))))))))))))
end
section
/-- Relations.<init>, from 0 -/
theorem b10_0 (X : Nat × (Nat → Int)) (d : Nat) (r0 : Nat) (w : MW) : run X d 10 [.inr r0] w = gd (kd (al w 1 12 12) r0 = 12) (gd (kd (al (sr (al w 1 12 12) r0 0 (some (nx w))) 1 12 12) r0 = 12) (gd (kd (al (sr (al (sr (al w 1 12 12) r0 0 (some (nx w))) 1 12 12) r0 1 (some (nx (sr (al w 1 12 12) r0 0 (some (nx w)))))) 1 12 12) r0 = 12) (gd (kd (al (sr (al (sr (al (sr (al w 1 12 12) r0 0 (some (nx w))) 1 12 12) r0 1 (some (nx (sr (al w 1 12 12) r0 0 (some (nx w)))))) 1 12 12) r0 2 (some (nx (sr (al (sr (al w 1 12 12) r0 0 (some (nx w))) 1 12 12) r0 1 (some (nx (sr (al w 1 12 12) r0 0 (some (nx w))))))))) 1 12 12) r0 = 12) (some (none, sr (al (sr (al (sr (al (sr (al w 1 12 12) r0 0 (some (nx w))) 1 12 12) r0 1 (some (nx (sr (al w 1 12 12) r0 0 (some (nx w)))))) 1 12 12) r0 2 (some (nx (sr (al (sr (al w 1 12 12) r0 0 (some (nx w))) 1 12 12) r0 1 (some (nx (sr (al w 1 12 12) r0 0 (some (nx w))))))))) 1 12 12) r0 3 (some (nx (sr (al (sr (al (sr (al w 1 12 12) r0 0 (some (nx w))) 1 12 12) r0 1 (some (nx (sr (al w 1 12 12) r0 0 (some (nx w)))))) 1 12 12) r0 2 (some (nx (sr (al (sr (al w 1 12 12) r0 0 (some (nx w))) 1 12 12) r0 1 (some (nx (sr (al w 1 12 12) r0 0 (some (nx w)))))))))))))))) := (show R X d 10 0 [some (.inr r0)] [] w = _ from p_aload_n (q := 1) rfl rfl rfl (p_objinit (q := 4) rfl rfl (Nat.le_of_ble_eq_true rfl) rfl (p_aload_n (q := 5) rfl rfl rfl (p_bipush (q := 7) (z := 12) rfl (by decide) rfl (p_newi (q := 9) rfl (by decide) rfl (p_putr (q := 12) rfl rfl rfl rfl (p_aload_n (q := 13) rfl rfl rfl (p_bipush (q := 15) (z := 12) rfl (by decide) rfl (p_newi (q := 17) rfl (by decide) rfl (p_putr (q := 20) rfl rfl rfl rfl (p_aload_n (q := 21) rfl rfl rfl (p_bipush (q := 23) (z := 12) rfl (by decide) rfl (p_newi (q := 25) rfl (by decide) rfl (p_putr (q := 28) rfl rfl rfl rfl (p_aload_n (q := 29) rfl rfl rfl (p_bipush (q := 31) (z := 12) rfl (by decide) rfl (p_newi (q := 33) rfl (by decide) rfl (p_putr (q := 36) rfl rfl rfl rfl (p_vret rfl)))))))))))))))))))
/-- Relations.find, from 0 -/
theorem b11_0 (X : Nat × (Nat → Int)) (d : Nat) (r0 : Nat) (r1 : Nat) (w : MW) : run X (d + 1) 11 [.inr r0, .inr r1] w = gd (kd w r1 = 13) (gd (kd w r0 = 12) (R X (d + 1) 11 10 [some (.inr r0), some (.inr r1), some (.inl 0), none, none] [] (si w r0 4 (gi w r1 0)))) := (show R X (d + 1) 11 0 [some (.inr r0), some (.inr r1), none, none, none] [] w = _ from p_aload_n (q := 1) rfl rfl rfl (p_aload_n (q := 2) rfl rfl rfl (p_getf (q := 5) rfl rfl rfl rfl (p_putf (q := 8) rfl rfl rfl rfl (p_iconst (q := 9) (z := 0) rfl (by decide) rfl (p_istore_n (q := 10) (L2 := [some (.inr r0), some (.inr r1), some (.inl 0), none, none]) rfl rfl rfl rfl (rfl)))))))
/-- Relations.find, from 10 -/
theorem b11_10 (X : Nat × (Nat → Int)) (d : Nat) (r0 : Nat) (r1 : Nat) (l2 : Int) (w : MW) : R X (d + 1) 11 10 [some (.inr r0), some (.inr r1), some (.inl l2), none, none] [] w = gd (kd w r0 = 12) (if (gi w r0 4) ≤ l2 then (R X (d + 1) 11 58 [some (.inr r0), some (.inr r1), some (.inl 0), none, none] [] w) else (gd (kd w r0 = 12) (rO (gr w r0 0) fun b1 => gd (kd w b1 = 1 ∧ 0 ≤ l2 ∧ l2 < ln w b1) (gd (kd (si w b1 (Int.toNat (l2)) (0 : Int)) r0 = 12) (rO (gr (si w b1 (Int.toNat (l2)) (0 : Int)) r0 1) fun b2 => gd (kd (si w b1 (Int.toNat (l2)) (0 : Int)) b2 = 1 ∧ 0 ≤ l2 ∧ l2 < ln (si w b1 (Int.toNat (l2)) (0 : Int)) b2) (gd (kd (si (si w b1 (Int.toNat (l2)) (0 : Int)) b2 (Int.toNat (l2)) (0 : Int)) r0 = 12) (rO (gr (si (si w b1 (Int.toNat (l2)) (0 : Int)) b2 (Int.toNat (l2)) (0 : Int)) r0 2) fun b3 => gd (kd (si (si w b1 (Int.toNat (l2)) (0 : Int)) b2 (Int.toNat (l2)) (0 : Int)) b3 = 1 ∧ 0 ≤ l2 ∧ l2 < ln (si (si w b1 (Int.toNat (l2)) (0 : Int)) b2 (Int.toNat (l2)) (0 : Int)) b3) (gd (kd (si (si (si w b1 (Int.toNat (l2)) (0 : Int)) b2 (Int.toNat (l2)) (0 : Int)) b3 (Int.toNat (l2)) (0 : Int)) r0 = 12) (rO (gr (si (si (si w b1 (Int.toNat (l2)) (0 : Int)) b2 (Int.toNat (l2)) (0 : Int)) b3 (Int.toNat (l2)) (0 : Int)) r0 3) fun b4 => gd (kd (si (si (si w b1 (Int.toNat (l2)) (0 : Int)) b2 (Int.toNat (l2)) (0 : Int)) b3 (Int.toNat (l2)) (0 : Int)) r1 = 13) (rI (run X d 39 [.inr r1, .inl l2] (si (si (si w b1 (Int.toNat (l2)) (0 : Int)) b2 (Int.toNat (l2)) (0 : Int)) b3 (Int.toNat (l2)) (0 : Int))) fun v5 w5 => gd (kd w5 b4 = 1 ∧ 0 ≤ l2 ∧ l2 < ln w5 b4) (R X (d + 1) 11 10 [some (.inr r0), some (.inr r1), some (.inl (wrap (l2 + 1))), none, none] [] (si w5 b4 (Int.toNat (l2)) v5)))))))))))) := q_iload_n (q := 11) (L1 := [some (.inr r0), some (.inr r1), some (.inl l2), none, none]) rfl rfl rfl rfl (p_aload_n (q := 12) rfl rfl rfl (p_getf (q := 15) rfl rfl rfl rfl (p_icmp_ge (q := 56) (q2 := 18) (off := 41) rfl (by decide) rfl rfl (p_iconst (q := 57) (z := 0) rfl (by decide) rfl (p_istore_n (q := 58) (L2 := [some (.inr r0), some (.inr r1), some (.inl 0), none, none]) rfl rfl rfl rfl (rfl))) (p_aload_n (q := 19) rfl rfl rfl (p_getr (q := 22) rfl rfl rfl rfl (fun b1 => p_iload_n (q := 23) rfl rfl rfl (p_iconst (q := 24) (z := 0) rfl (by decide) rfl (p_iast (q := 25) rfl rfl (p_aload_n (q := 26) rfl rfl rfl (p_getr (q := 29) rfl rfl rfl rfl (fun b2 => p_iload_n (q := 30) rfl rfl rfl (p_iconst (q := 31) (z := 0) rfl (by decide) rfl (p_iast (q := 32) rfl rfl (p_aload_n (q := 33) rfl rfl rfl (p_getr (q := 36) rfl rfl rfl rfl (fun b3 => p_iload_n (q := 37) rfl rfl rfl (p_iconst (q := 38) (z := 0) rfl (by decide) rfl (p_iast (q := 39) rfl rfl (p_aload_n (q := 40) rfl rfl rfl (p_getr (q := 43) rfl rfl rfl rfl (fun b4 => p_iload_n (q := 44) rfl rfl rfl (p_aload_n (q := 45) rfl rfl rfl (p_iload_n (q := 46) rfl rfl rfl (p_callVi (q := 49) (s2 := [.inl l2, .inr b4]) rfl rfl rfl rfl rfl rfl rfl (fun v5 w5 => p_iast (q := 50) rfl rfl (p_iinc (q := 53) (z := 1) (L2 := [some (.inr r0), some (.inr r1), some (.inl (wrap (l2 + 1))), none, none]) rfl rfl (by decide) rfl rfl (p_goto (q := 10) (off := (-43)) rfl (by decide) rfl (rfl))))))))))))))))))))))))))))
/-- Relations.find, from 58 -/
theorem b11_58 (X : Nat × (Nat → Int)) (d : Nat) (r0 : Nat) (r1 : Nat) (l2 : Int) (w : MW) : R X (d + 1) 11 58 [some (.inr r0), some (.inr r1), some (.inl l2), none, none] [] w = gd (kd w r0 = 12) (if (gi w r0 4) ≤ l2 then (some (none, w)) else (R X (d + 1) 11 68 [some (.inr r0), some (.inr r1), some (.inl l2), some (.inl 0), none] [] w)) := q_iload_n (q := 59) (L1 := [some (.inr r0), some (.inr r1), some (.inl l2), none, none]) rfl rfl rfl rfl (p_aload_n (q := 60) rfl rfl rfl (p_getf (q := 63) rfl rfl rfl rfl (p_icmp_ge (q := 140) (q2 := 66) (off := 77) rfl (by decide) rfl rfl (p_vret rfl) (p_iconst (q := 67) (z := 0) rfl (by decide) rfl (p_istore_n (q := 68) (L2 := [some (.inr r0), some (.inr r1), some (.inl l2), some (.inl 0), none]) rfl rfl rfl rfl (rfl))))))
/-- Relations.find, from 68 -/
theorem b11_68 (X : Nat × (Nat → Int)) (d : Nat) (r0 : Nat) (r1 : Nat) (l2 : Int) (l3 : Int) (w : MW) : R X (d + 1) 11 68 [some (.inr r0), some (.inr r1), some (.inl l2), some (.inl l3), none] [] w = gd (kd w r0 = 12) (if (gi w r0 4) ≤ l3 then (R X (d + 1) 11 58 [some (.inr r0), some (.inr r1), some (.inl (wrap (l2 + 1))), none, none] [] w) else (gd (kd w r1 = 13) (rI (run X d 25 [.inr r1, .inl l2, .inl l3] w) fun v1 w1 => if v1 = (12 : Int) then (R X (d + 1) 11 68 [some (.inr r0), some (.inr r1), some (.inl l2), some (.inl (wrap (l3 + 1))), none] [] w1) else (gd (kd w1 r0 = 12) (rO (gr w1 r0 0) fun b2 => gd (kd w1 b2 = 1 ∧ 0 ≤ v1 ∧ v1 < ln w1 b2) (rI (run X d 95 [.inl l2] w1) fun v3 w3 => gd (kd w3 b2 = 1 ∧ 0 ≤ v1 ∧ v1 < ln w3 b2) (gd (kd (si w3 b2 (Int.toNat (v1)) (orI (gi w1 b2 (Int.toNat (v1))) v3)) r0 = 12) (rO (gr (si w3 b2 (Int.toNat (v1)) (orI (gi w1 b2 (Int.toNat (v1))) v3)) r0 1) fun b4 => gd (kd (si w3 b2 (Int.toNat (v1)) (orI (gi w1 b2 (Int.toNat (v1))) v3)) b4 = 1 ∧ 0 ≤ l2 ∧ l2 < ln (si w3 b2 (Int.toNat (v1)) (orI (gi w1 b2 (Int.toNat (v1))) v3)) b4) (rI (run X d 95 [.inl v1] (si w3 b2 (Int.toNat (v1)) (orI (gi w1 b2 (Int.toNat (v1))) v3))) fun v5 w5 => gd (kd w5 b4 = 1 ∧ 0 ≤ l2 ∧ l2 < ln w5 b4) (gd (kd (si w5 b4 (Int.toNat (l2)) (orI (gi (si w3 b2 (Int.toNat (v1)) (orI (gi w1 b2 (Int.toNat (v1))) v3)) b4 (Int.toNat (l2))) v5)) r0 = 12) (rV (run X d 12 [.inr r0, .inr r1, .inl v1, .inl l2, .inl l3] (si w5 b4 (Int.toNat (l2)) (orI (gi (si w3 b2 (Int.toNat (v1)) (orI (gi w1 b2 (Int.toNat (v1))) v3)) b4 (Int.toNat (l2))) v5))) fun w6 => R X (d + 1) 11 68 [some (.inr r0), some (.inr r1), some (.inl l2), some (.inl (wrap (l3 + 1))), none] [] w6))))))))))) := q_iload_n (q := 69) (L1 := [some (.inr r0), some (.inr r1), some (.inl l2), some (.inl l3), none]) rfl rfl rfl rfl (p_aload_n (q := 70) rfl rfl rfl (p_getf (q := 73) rfl rfl rfl rfl (p_icmp_ge (q := 134) (q2 := 76) (off := 61) rfl (by decide) rfl rfl (p_iinc (q := 137) (z := 1) (L2 := [some (.inr r0), some (.inr r1), some (.inl (wrap (l2 + 1))), some (.inl l3), none]) rfl rfl (by decide) rfl rfl (p_goto (q := 58) (off := (-79)) rfl (by decide) rfl (q_kill rfl rfl rfl rfl))) (p_aload_n (q := 77) rfl rfl rfl (p_iload_n (q := 78) rfl rfl rfl (p_iload_n (q := 79) rfl rfl rfl (p_callVi (q := 82) (s2 := []) rfl rfl rfl rfl rfl rfl rfl (fun v1 w1 => p_istore (q := 84) (L2 := [some (.inr r0), some (.inr r1), some (.inl l2), some (.inl l3), some (.inl v1)]) rfl rfl rfl rfl (p_iload (q := 86) rfl rfl rfl (p_bipush (q := 88) (z := 12) rfl (by decide) rfl (p_icmp_eq (q := 128) (q2 := 91) (off := 40) rfl (by decide) rfl rfl (p_iinc (q := 131) (z := 1) (L2 := [some (.inr r0), some (.inr r1), some (.inl l2), some (.inl (wrap (l3 + 1))), some (.inl v1)]) rfl rfl (by decide) rfl rfl (p_goto (q := 68) (off := (-63)) rfl (by decide) rfl (q_kill rfl rfl rfl rfl))) (p_aload_n (q := 92) rfl rfl rfl (p_getr (q := 95) rfl rfl rfl rfl (fun b2 => p_iload (q := 97) rfl rfl rfl (p_dup2 (q := 98) rfl rfl (p_iald (q := 99) rfl rfl rfl (p_iload_n (q := 100) rfl rfl rfl (p_callTi (q := 103) (s2 := [.inl (gi w1 b2 (Int.toNat (v1))), .inl v1, .inr b2]) rfl rfl rfl rfl rfl rfl (fun v3 w3 => p_ior (q := 104) rfl rfl (p_iast (q := 105) rfl rfl (p_aload_n (q := 106) rfl rfl rfl (p_getr (q := 109) rfl rfl rfl rfl (fun b4 => p_iload_n (q := 110) rfl rfl rfl (p_dup2 (q := 111) rfl rfl (p_iald (q := 112) rfl rfl rfl (p_iload (q := 114) rfl rfl rfl (p_callTi (q := 117) (s2 := [.inl (gi (si w3 b2 (Int.toNat (v1)) (orI (gi w1 b2 (Int.toNat (v1))) v3)) b4 (Int.toNat (l2))), .inl l2, .inr b4]) rfl rfl rfl rfl rfl rfl (fun v5 w5 => p_ior (q := 118) rfl rfl (p_iast (q := 119) rfl rfl (p_aload_n (q := 120) rfl rfl rfl (p_aload_n (q := 121) rfl rfl rfl (p_iload (q := 123) rfl rfl rfl (p_iload_n (q := 124) rfl rfl rfl (p_iload_n (q := 125) rfl rfl rfl (p_callVv (q := 128) (s2 := []) rfl rfl rfl rfl rfl rfl rfl (fun w6 => p_iinc (q := 131) (z := 1) (L2 := [some (.inr r0), some (.inr r1), some (.inl l2), some (.inl (wrap (l3 + 1))), some (.inl v1)]) rfl rfl (by decide) rfl rfl (p_goto (q := 68) (off := (-63)) rfl (by decide) rfl (q_kill rfl rfl rfl rfl))))))))))))))))))))))))))))))))))))))
/-- Relations.findTogether, from 0 -/
theorem b12_0 (X : Nat × (Nat → Int)) (d : Nat) (r0 : Nat) (r1 : Nat) (l2 : Int) (l3 : Int) (l4 : Int) (w : MW) : run X (d + 1) 12 [.inr r0, .inr r1, .inl l2, .inl l3, .inl l4] w = R X (d + 1) 12 3 [some (.inr r0), some (.inr r1), some (.inl l2), some (.inl l3), some (.inl l4), some (.inl 0), none] [] w := (show R X (d + 1) 12 0 [some (.inr r0), some (.inr r1), some (.inl l2), some (.inl l3), some (.inl l4), none, none] [] w = _ from p_iconst (q := 1) (z := 0) rfl (by decide) rfl (p_istore (q := 3) (L2 := [some (.inr r0), some (.inr r1), some (.inl l2), some (.inl l3), some (.inl l4), some (.inl 0), none]) rfl rfl rfl rfl (rfl)))
/-- Relations.findTogether, from 3 -/
theorem b12_3 (X : Nat × (Nat → Int)) (d : Nat) (r0 : Nat) (r1 : Nat) (l2 : Int) (l3 : Int) (l4 : Int) (l5 : Int) (w : MW) : R X (d + 1) 12 3 [some (.inr r0), some (.inr r1), some (.inl l2), some (.inl l3), some (.inl l4), some (.inl l5), none] [] w = gd (kd w r0 = 12) (if (gi w r0 4) ≤ l5 then (some (none, w)) else (gd (kd w r1 = 13) (rI (run X d 25 [.inr r1, .inl l4, .inl l5] w) fun v1 w1 => if v1 = (12 : Int) then (R X (d + 1) 12 3 [some (.inr r0), some (.inr r1), some (.inl l2), some (.inl l3), some (.inl l4), some (.inl (wrap (l5 + 1))), none] [] w1) else (gd (kd w1 r1 = 13) (rI (run X d 26 [.inr r1, .inl l2, .inl l5] w1) fun v2 w2 => if v2 = 0 then (R X (d + 1) 12 3 [some (.inr r0), some (.inr r1), some (.inl l2), some (.inl l3), some (.inl l4), some (.inl (wrap (l5 + 1))), none] [] w2) else (gd (kd w2 r1 = 13) (rI (run X d 26 [.inr r1, .inl l3, .inl v1] w2) fun v3 w3 => if v3 = 0 then (R X (d + 1) 12 3 [some (.inr r0), some (.inr r1), some (.inl l2), some (.inl l3), some (.inl l4), some (.inl (wrap (l5 + 1))), none] [] w3) else (gd (kd w3 r0 = 12) (rO (gr w3 r0 2) fun b4 => gd (kd w3 b4 = 1 ∧ 0 ≤ l2 ∧ l2 < ln w3 b4) (rI (run X d 95 [.inl v1] w3) fun v5 w5 => gd (kd w5 b4 = 1 ∧ 0 ≤ l2 ∧ l2 < ln w5 b4) (R X (d + 1) 12 3 [some (.inr r0), some (.inr r1), some (.inl l2), some (.inl l3), some (.inl l4), some (.inl (wrap (l5 + 1))), none] [] (si w5 b4 (Int.toNat (l2)) (orI (gi w3 b4 (Int.toNat (l2))) v5))))))))))))) := q_iload (q := 5) (L1 := [some (.inr r0), some (.inr r1), some (.inl l2), some (.inl l3), some (.inl l4), some (.inl l5), none]) rfl rfl rfl rfl (p_aload_n (q := 6) rfl rfl rfl (p_getf (q := 9) rfl rfl rfl rfl (p_icmp_ge (q := 69) (q2 := 12) (off := 60) rfl (by decide) rfl rfl (p_vret rfl) (p_aload_n (q := 13) rfl rfl rfl (p_iload (q := 15) rfl rfl rfl (p_iload (q := 17) rfl rfl rfl (p_callVi (q := 20) (s2 := []) rfl rfl rfl rfl rfl rfl rfl (fun v1 w1 => p_istore (q := 22) (L2 := [some (.inr r0), some (.inr r1), some (.inl l2), some (.inl l3), some (.inl l4), some (.inl l5), some (.inl v1)]) rfl rfl rfl rfl (p_iload (q := 24) rfl rfl rfl (p_bipush (q := 26) (z := 12) rfl (by decide) rfl (p_icmp_eq (q := 63) (q2 := 29) (off := 37) rfl (by decide) rfl rfl (p_iinc (q := 66) (z := 1) (L2 := [some (.inr r0), some (.inr r1), some (.inl l2), some (.inl l3), some (.inl l4), some (.inl (wrap (l5 + 1))), some (.inl v1)]) rfl rfl (by decide) rfl rfl (p_goto (q := 3) (off := (-63)) rfl (by decide) rfl (q_kill rfl rfl rfl rfl))) (p_aload_n (q := 30) rfl rfl rfl (p_iload_n (q := 31) rfl rfl rfl (p_iload (q := 33) rfl rfl rfl (p_callVi (q := 36) (s2 := []) rfl rfl rfl rfl rfl rfl rfl (fun v2 w2 => p_if_eq (q := 63) (q2 := 39) (off := 27) rfl (by decide) rfl rfl (p_iinc (q := 66) (z := 1) (L2 := [some (.inr r0), some (.inr r1), some (.inl l2), some (.inl l3), some (.inl l4), some (.inl (wrap (l5 + 1))), some (.inl v1)]) rfl rfl (by decide) rfl rfl (p_goto (q := 3) (off := (-63)) rfl (by decide) rfl (q_kill rfl rfl rfl rfl))) (p_aload_n (q := 40) rfl rfl rfl (p_iload_n (q := 41) rfl rfl rfl (p_iload (q := 43) rfl rfl rfl (p_callVi (q := 46) (s2 := []) rfl rfl rfl rfl rfl rfl rfl (fun v3 w3 => p_if_eq (q := 63) (q2 := 49) (off := 17) rfl (by decide) rfl rfl (p_iinc (q := 66) (z := 1) (L2 := [some (.inr r0), some (.inr r1), some (.inl l2), some (.inl l3), some (.inl l4), some (.inl (wrap (l5 + 1))), some (.inl v1)]) rfl rfl (by decide) rfl rfl (p_goto (q := 3) (off := (-63)) rfl (by decide) rfl (q_kill rfl rfl rfl rfl))) (p_aload_n (q := 50) rfl rfl rfl (p_getr (q := 53) rfl rfl rfl rfl (fun b4 => p_iload_n (q := 54) rfl rfl rfl (p_dup2 (q := 55) rfl rfl (p_iald (q := 56) rfl rfl rfl (p_iload (q := 58) rfl rfl rfl (p_callTi (q := 61) (s2 := [.inl (gi w3 b4 (Int.toNat (l2))), .inl l2, .inr b4]) rfl rfl rfl rfl rfl rfl (fun v5 w5 => p_ior (q := 62) rfl rfl (p_iast (q := 63) rfl rfl (p_iinc (q := 66) (z := 1) (L2 := [some (.inr r0), some (.inr r1), some (.inl l2), some (.inl l3), some (.inl l4), some (.inl (wrap (l5 + 1))), some (.inl v1)]) rfl rfl (by decide) rfl rfl (p_goto (q := 3) (off := (-63)) rfl (by decide) rfl (q_kill rfl rfl rfl rfl)))))))))))))))))))))))))))))))))
/-- Relations.isSmallestPart, from 0 -/
theorem b13_0 (X : Nat × (Nat → Int)) (d : Nat) (r0 : Nat) (l1 : Int) (w : MW) : run X (d + 1) 13 [.inr r0, .inl l1] w = if l1 = 0 then (some (some (.inl 0), w)) else (gd (kd w r0 = 12) (rI (run X d 14 [.inr r0, .inl l1, .inl (-1)] w) fun v1 w1 => if v1 = 0 then (some (some (.inl 0), w1)) else (some (some (.inl 1), w1)))) := (show R X (d + 1) 13 0 [some (.inr r0), some (.inl l1)] [] w = _ from p_iload_n (q := 1) rfl rfl rfl (p_if_eq (q := 17) (q2 := 4) (off := 16) rfl (by decide) rfl rfl (p_iconst (q := 18) (z := 0) rfl (by decide) rfl (p_zret0 rfl rfl)) (p_aload_n (q := 5) rfl rfl rfl (p_iload_n (q := 6) rfl rfl rfl (p_iconst (q := 7) (z := (-1)) rfl (by decide) rfl (p_callVi (q := 10) (s2 := []) rfl rfl rfl rfl rfl rfl rfl (fun v1 w1 => p_if_eq (q := 17) (q2 := 13) (off := 7) rfl (by decide) rfl rfl (p_iconst (q := 18) (z := 0) rfl (by decide) rfl (p_zret0 rfl rfl)) (p_iconst (q := 14) (z := 1) rfl (by decide) rfl (p_goto (q := 18) (off := 4) rfl (by decide) rfl (p_zret1 rfl rfl))))))))))
/-- Relations.hasNoPartIn, from 0 -/
theorem b14_0 (X : Nat × (Nat → Int)) (d : Nat) (r0 : Nat) (l1 : Int) (l2 : Int) (w : MW) : run X (d + 1) 14 [.inr r0, .inl l1, .inl l2] w = gd (kd w r0 = 12) (rO (gr w r0 0) fun b1 => gd (kd w b1 = 1 ∧ 0 ≤ l1 ∧ l1 < ln w b1) (rI (run X d 95 [.inl l1] w) fun v2 w2 => rI (run X d 95 [.inl 0] w2) fun v3 w3 => if (andI (andI (andI (gi w b1 (Int.toNat (l1))) l2) (xorI v2 (-1))) (xorI v3 (-1))) ≠ 0 then (some (some (.inl 0), w3)) else (some (some (.inl 1), w3)))) := (show R X (d + 1) 14 0 [some (.inr r0), some (.inl l1), some (.inl l2)] [] w = _ from p_aload_n (q := 1) rfl rfl rfl (p_getr (q := 4) rfl rfl rfl rfl (fun b1 => p_iload_n (q := 5) rfl rfl rfl (p_iald (q := 6) rfl rfl rfl (p_iload_n (q := 7) rfl rfl rfl (p_iand (q := 8) rfl rfl (p_iload_n (q := 9) rfl rfl rfl (p_callTi (q := 12) (s2 := [.inl (andI (gi w b1 (Int.toNat (l1))) l2)]) rfl rfl rfl rfl rfl rfl (fun v2 w2 => p_iconst (q := 13) (z := (-1)) rfl (by decide) rfl (p_ixor (q := 14) rfl rfl (p_iand (q := 15) rfl rfl (p_iconst (q := 16) (z := 0) rfl (by decide) rfl (p_callTi (q := 19) (s2 := [.inl (andI (andI (gi w b1 (Int.toNat (l1))) l2) (xorI v2 (-1)))]) rfl rfl rfl rfl rfl rfl (fun v3 w3 => p_iconst (q := 20) (z := (-1)) rfl (by decide) rfl (p_ixor (q := 21) rfl rfl (p_iand (q := 22) rfl rfl (p_if_ne (q := 29) (q2 := 25) (off := 7) rfl (by decide) rfl rfl (p_iconst (q := 30) (z := 0) rfl (by decide) rfl (p_zret0 rfl rfl)) (p_iconst (q := 26) (z := 1) rfl (by decide) rfl (p_goto (q := 30) (off := 4) rfl (by decide) rfl (p_zret1 rfl rfl))))))))))))))))))))
/-- Relations.isSharp, from 0 -/
theorem b15_0 (X : Nat × (Nat → Int)) (d : Nat) (r0 : Nat) (l1 : Int) (w : MW) : run X (d + 1) 15 [.inr r0, .inl l1] w = gd (kd w r0 = 12) (rO (gr w r0 3) fun b1 => gd (kd w b1 = 1 ∧ 0 ≤ l1 ∧ l1 < ln w b1) (if (gi w b1 (Int.toNat (l1))) = (12 : Int) then (some (some (.inl 0), w)) else (gd (kd w r0 = 12) (rO (gr w r0 0) fun b2 => gd (kd w b2 = 1 ∧ 0 ≤ l1 ∧ l1 < ln w b2) (gd (kd w r0 = 12) (rO (gr w r0 0) fun b3 => gd (kd w b3 = 1 ∧ 0 ≤ (gi w b1 (Int.toNat (l1))) ∧ (gi w b1 (Int.toNat (l1))) < ln w b3) (rI (run X d 95 [.inl 0] w) fun v4 w4 => if (andI (gi w b2 (Int.toNat (l1))) (gi w b3 (Int.toNat (gi w b1 (Int.toNat (l1)))))) ≠ v4 then (some (some (.inl 0), w4)) else (some (some (.inl 1), w4))))))))) := (show R X (d + 1) 15 0 [some (.inr r0), some (.inl l1), none] [] w = _ from p_aload_n (q := 1) rfl rfl rfl (p_getr (q := 4) rfl rfl rfl rfl (fun b1 => p_iload_n (q := 5) rfl rfl rfl (p_iald (q := 6) rfl rfl rfl (p_istore_n (q := 7) (L2 := [some (.inr r0), some (.inl l1), some (.inl (gi w b1 (Int.toNat (l1))))]) rfl rfl rfl rfl (p_iload_n (q := 8) rfl rfl rfl (p_bipush (q := 10) (z := 12) rfl (by decide) rfl (p_icmp_eq (q := 37) (q2 := 13) (off := 27) rfl (by decide) rfl rfl (p_iconst (q := 38) (z := 0) rfl (by decide) rfl (p_zret0 rfl rfl)) (p_aload_n (q := 14) rfl rfl rfl (p_getr (q := 17) rfl rfl rfl rfl (fun b2 => p_iload_n (q := 18) rfl rfl rfl (p_iald (q := 19) rfl rfl rfl (p_aload_n (q := 20) rfl rfl rfl (p_getr (q := 23) rfl rfl rfl rfl (fun b3 => p_iload_n (q := 24) rfl rfl rfl (p_iald (q := 25) rfl rfl rfl (p_iand (q := 26) rfl rfl (p_iconst (q := 27) (z := 0) rfl (by decide) rfl (p_callTi (q := 30) (s2 := [.inl (andI (gi w b2 (Int.toNat (l1))) (gi w b3 (Int.toNat (gi w b1 (Int.toNat (l1))))))]) rfl rfl rfl rfl rfl rfl (fun v4 w4 => p_icmp_ne (q := 37) (q2 := 33) (off := 7) rfl (by decide) rfl rfl (p_iconst (q := 38) (z := 0) rfl (by decide) rfl (p_zret0 rfl rfl)) (p_iconst (q := 34) (z := 1) rfl (by decide) rfl (p_goto (q := 38) (off := 4) rfl (by decide) rfl (p_zret1 rfl rfl)))))))))))))))))))))))
/-- Relations.smallestParts, from 0 -/
theorem b16_0 (X : Nat × (Nat → Int)) (d : Nat) (r0 : Nat) (w : MW) : run X (d + 1) 16 [.inr r0] w = R X (d + 1) 16 4 [some (.inr r0), some (.inl 0), some (.inl 0)] [] w := (show R X (d + 1) 16 0 [some (.inr r0), none, none] [] w = _ from p_iconst (q := 1) (z := 0) rfl (by decide) rfl (p_istore_n (q := 2) (L2 := [some (.inr r0), some (.inl 0), none]) rfl rfl rfl rfl (p_iconst (q := 3) (z := 0) rfl (by decide) rfl (p_istore_n (q := 4) (L2 := [some (.inr r0), some (.inl 0), some (.inl 0)]) rfl rfl rfl rfl (rfl)))))
/-- Relations.smallestParts, from 4 -/
theorem b16_4 (X : Nat × (Nat → Int)) (d : Nat) (r0 : Nat) (l1 : Int) (l2 : Int) (w : MW) : R X (d + 1) 16 4 [some (.inr r0), some (.inl l1), some (.inl l2)] [] w = gd (kd w r0 = 12) (if (gi w r0 4) ≤ l2 then (some (some (.inl l1), w)) else (gd (kd w r0 = 12) (rI (run X d 13 [.inr r0, .inl l2] w) fun v1 w1 => if v1 = 0 then (R X (d + 1) 16 4 [some (.inr r0), some (.inl l1), some (.inl (wrap (l2 + 1)))] [] w1) else (rI (run X d 95 [.inl l2] w1) fun v2 w2 => R X (d + 1) 16 4 [some (.inr r0), some (.inl (orI l1 v2)), some (.inl (wrap (l2 + 1)))] [] w2)))) := p_iload_n (q := 5) rfl rfl rfl (p_aload_n (q := 6) rfl rfl rfl (p_getf (q := 9) rfl rfl rfl rfl (p_icmp_ge (q := 33) (q2 := 12) (off := 24) rfl (by decide) rfl rfl (p_iload_n (q := 34) rfl rfl rfl (p_iret rfl rfl)) (p_aload_n (q := 13) rfl rfl rfl (p_iload_n (q := 14) rfl rfl rfl (p_callVi (q := 17) (s2 := []) rfl rfl rfl rfl rfl rfl rfl (fun v1 w1 => p_if_eq (q := 27) (q2 := 20) (off := 10) rfl (by decide) rfl rfl (p_iinc (q := 30) (z := 1) (L2 := [some (.inr r0), some (.inl l1), some (.inl (wrap (l2 + 1)))]) rfl rfl (by decide) rfl rfl (p_goto (q := 4) (off := (-26)) rfl (by decide) rfl (rfl))) (p_iload_n (q := 21) rfl rfl rfl (p_iload_n (q := 22) rfl rfl rfl (p_callTi (q := 25) (s2 := [.inl l1]) rfl rfl rfl rfl rfl rfl (fun v2 w2 => p_ior (q := 26) rfl rfl (p_istore_n (q := 27) (L2 := [some (.inr r0), some (.inl (orI l1 v2)), some (.inl l2)]) rfl rfl rfl rfl (p_iinc (q := 30) (z := 1) (L2 := [some (.inr r0), some (.inl (orI l1 v2)), some (.inl (wrap (l2 + 1)))]) rfl rfl (by decide) rfl rfl (p_goto (q := 4) (off := (-26)) rfl (by decide) rfl (rfl)))))))))))))))
/-- Relations.smallestPartsWithin, from 0 -/
theorem b17_0 (X : Nat × (Nat → Int)) (d : Nat) (r0 : Nat) (l1 : Int) (w : MW) : run X (d + 1) 17 [.inr r0, .inl l1] w = R X (d + 1) 17 4 [some (.inr r0), some (.inl l1), some (.inl 0), some (.inl 1)] [] w := (show R X (d + 1) 17 0 [some (.inr r0), some (.inl l1), none, none] [] w = _ from p_iconst (q := 1) (z := 0) rfl (by decide) rfl (p_istore_n (q := 2) (L2 := [some (.inr r0), some (.inl l1), some (.inl 0), none]) rfl rfl rfl rfl (p_iconst (q := 3) (z := 1) rfl (by decide) rfl (p_istore_n (q := 4) (L2 := [some (.inr r0), some (.inl l1), some (.inl 0), some (.inl 1)]) rfl rfl rfl rfl (rfl)))))
/-- Relations.smallestPartsWithin, from 4 -/
theorem b17_4 (X : Nat × (Nat → Int)) (d : Nat) (r0 : Nat) (l1 : Int) (l2 : Int) (l3 : Int) (w : MW) : R X (d + 1) 17 4 [some (.inr r0), some (.inl l1), some (.inl l2), some (.inl l3)] [] w = gd (kd w r0 = 12) (if (gi w r0 4) ≤ l3 then (some (some (.inl l2), w)) else (rI (run X d 95 [.inl l3] w) fun v1 w1 => if (andI l1 v1) = 0 then (R X (d + 1) 17 4 [some (.inr r0), some (.inl l1), some (.inl l2), some (.inl (wrap (l3 + 1)))] [] w1) else (gd (kd w1 r0 = 12) (rI (run X d 14 [.inr r0, .inl l3, .inl l1] w1) fun v2 w2 => if v2 = 0 then (R X (d + 1) 17 4 [some (.inr r0), some (.inl l1), some (.inl l2), some (.inl (wrap (l3 + 1)))] [] w2) else (rI (run X d 95 [.inl l3] w2) fun v3 w3 => R X (d + 1) 17 4 [some (.inr r0), some (.inl l1), some (.inl (orI l2 v3)), some (.inl (wrap (l3 + 1)))] [] w3))))) := p_iload_n (q := 5) rfl rfl rfl (p_aload_n (q := 6) rfl rfl rfl (p_getf (q := 9) rfl rfl rfl rfl (p_icmp_ge (q := 43) (q2 := 12) (off := 34) rfl (by decide) rfl rfl (p_iload_n (q := 44) rfl rfl rfl (p_iret rfl rfl)) (p_iload_n (q := 13) rfl rfl rfl (p_iload_n (q := 14) rfl rfl rfl (p_callTi (q := 17) (s2 := [.inl l1]) rfl rfl rfl rfl rfl rfl (fun v1 w1 => p_iand (q := 18) rfl rfl (p_if_eq (q := 37) (q2 := 21) (off := 19) rfl (by decide) rfl rfl (p_iinc (q := 40) (z := 1) (L2 := [some (.inr r0), some (.inl l1), some (.inl l2), some (.inl (wrap (l3 + 1)))]) rfl rfl (by decide) rfl rfl (p_goto (q := 4) (off := (-36)) rfl (by decide) rfl (rfl))) (p_aload_n (q := 22) rfl rfl rfl (p_iload_n (q := 23) rfl rfl rfl (p_iload_n (q := 24) rfl rfl rfl (p_callVi (q := 27) (s2 := []) rfl rfl rfl rfl rfl rfl rfl (fun v2 w2 => p_if_eq (q := 37) (q2 := 30) (off := 10) rfl (by decide) rfl rfl (p_iinc (q := 40) (z := 1) (L2 := [some (.inr r0), some (.inl l1), some (.inl l2), some (.inl (wrap (l3 + 1)))]) rfl rfl (by decide) rfl rfl (p_goto (q := 4) (off := (-36)) rfl (by decide) rfl (rfl))) (p_iload_n (q := 31) rfl rfl rfl (p_iload_n (q := 32) rfl rfl rfl (p_callTi (q := 35) (s2 := [.inl l2]) rfl rfl rfl rfl rfl rfl (fun v3 w3 => p_ior (q := 36) rfl rfl (p_istore_n (q := 37) (L2 := [some (.inr r0), some (.inl l1), some (.inl (orI l2 v3)), some (.inl l3)]) rfl rfl rfl rfl (p_iinc (q := 40) (z := 1) (L2 := [some (.inr r0), some (.inl l1), some (.inl (orI l2 v3)), some (.inl (wrap (l3 + 1)))]) rfl rfl (by decide) rfl rfl (p_goto (q := 4) (off := (-36)) rfl (by decide) rfl (rfl)))))))))))))))))))))
/-- Relations.sharpThings, from 0 -/
theorem b18_0 (X : Nat × (Nat → Int)) (d : Nat) (r0 : Nat) (w : MW) : run X (d + 1) 18 [.inr r0] w = R X (d + 1) 18 4 [some (.inr r0), some (.inl 0), some (.inl 0)] [] w := (show R X (d + 1) 18 0 [some (.inr r0), none, none] [] w = _ from p_iconst (q := 1) (z := 0) rfl (by decide) rfl (p_istore_n (q := 2) (L2 := [some (.inr r0), some (.inl 0), none]) rfl rfl rfl rfl (p_iconst (q := 3) (z := 0) rfl (by decide) rfl (p_istore_n (q := 4) (L2 := [some (.inr r0), some (.inl 0), some (.inl 0)]) rfl rfl rfl rfl (rfl)))))
/-- Relations.sharpThings, from 4 -/
theorem b18_4 (X : Nat × (Nat → Int)) (d : Nat) (r0 : Nat) (l1 : Int) (l2 : Int) (w : MW) : R X (d + 1) 18 4 [some (.inr r0), some (.inl l1), some (.inl l2)] [] w = gd (kd w r0 = 12) (if (gi w r0 4) ≤ l2 then (some (some (.inl l1), w)) else (gd (kd w r0 = 12) (rI (run X d 15 [.inr r0, .inl l2] w) fun v1 w1 => if v1 = 0 then (R X (d + 1) 18 4 [some (.inr r0), some (.inl l1), some (.inl (wrap (l2 + 1)))] [] w1) else (rI (run X d 95 [.inl l2] w1) fun v2 w2 => R X (d + 1) 18 4 [some (.inr r0), some (.inl (orI l1 v2)), some (.inl (wrap (l2 + 1)))] [] w2)))) := p_iload_n (q := 5) rfl rfl rfl (p_aload_n (q := 6) rfl rfl rfl (p_getf (q := 9) rfl rfl rfl rfl (p_icmp_ge (q := 33) (q2 := 12) (off := 24) rfl (by decide) rfl rfl (p_iload_n (q := 34) rfl rfl rfl (p_iret rfl rfl)) (p_aload_n (q := 13) rfl rfl rfl (p_iload_n (q := 14) rfl rfl rfl (p_callVi (q := 17) (s2 := []) rfl rfl rfl rfl rfl rfl rfl (fun v1 w1 => p_if_eq (q := 27) (q2 := 20) (off := 10) rfl (by decide) rfl rfl (p_iinc (q := 30) (z := 1) (L2 := [some (.inr r0), some (.inl l1), some (.inl (wrap (l2 + 1)))]) rfl rfl (by decide) rfl rfl (p_goto (q := 4) (off := (-26)) rfl (by decide) rfl (rfl))) (p_iload_n (q := 21) rfl rfl rfl (p_iload_n (q := 22) rfl rfl rfl (p_callTi (q := 25) (s2 := [.inl l1]) rfl rfl rfl rfl rfl rfl (fun v2 w2 => p_ior (q := 26) rfl rfl (p_istore_n (q := 27) (L2 := [some (.inr r0), some (.inl (orI l1 v2)), some (.inl l2)]) rfl rfl rfl rfl (p_iinc (q := 30) (z := 1) (L2 := [some (.inr r0), some (.inl (orI l1 v2)), some (.inl (wrap (l2 + 1)))]) rfl rfl (by decide) rfl rfl (p_goto (q := 4) (off := (-26)) rfl (by decide) rfl (rfl)))))))))))))))
/-- Relations.pairsApart, from 0 -/
theorem b19_0 (X : Nat × (Nat → Int)) (d : Nat) (r0 : Nat) (w : MW) : run X (d + 1) 19 [.inr r0] w = R X (d + 1) 19 4 [some (.inr r0), some (.inl 0), some (.inl 0), none] [] w := (show R X (d + 1) 19 0 [some (.inr r0), none, none, none] [] w = _ from p_iconst (q := 1) (z := 0) rfl (by decide) rfl (p_istore_n (q := 2) (L2 := [some (.inr r0), some (.inl 0), none, none]) rfl rfl rfl rfl (p_iconst (q := 3) (z := 0) rfl (by decide) rfl (p_istore_n (q := 4) (L2 := [some (.inr r0), some (.inl 0), some (.inl 0), none]) rfl rfl rfl rfl (rfl)))))
/-- Relations.pairsApart, from 4 -/
theorem b19_4 (X : Nat × (Nat → Int)) (d : Nat) (r0 : Nat) (l1 : Int) (l2 : Int) (w : MW) : R X (d + 1) 19 4 [some (.inr r0), some (.inl l1), some (.inl l2), none] [] w = gd (kd w r0 = 12) (if (gi w r0 4) ≤ l2 then (some (some (.inl l1), w)) else (R X (d + 1) 19 16 [some (.inr r0), some (.inl l1), some (.inl l2), some (.inl (wrap (l2 + 1)))] [] w)) := q_iload_n (q := 5) (L1 := [some (.inr r0), some (.inl l1), some (.inl l2), none]) rfl rfl rfl rfl (p_aload_n (q := 6) rfl rfl rfl (p_getf (q := 9) rfl rfl rfl rfl (p_icmp_ge (q := 53) (q2 := 12) (off := 44) rfl (by decide) rfl rfl (p_iload_n (q := 54) rfl rfl rfl (p_iret rfl rfl)) (p_iload_n (q := 13) rfl rfl rfl (p_iconst (q := 14) (z := 1) rfl (by decide) rfl (p_iadd (q := 15) rfl rfl (p_istore_n (q := 16) (L2 := [some (.inr r0), some (.inl l1), some (.inl l2), some (.inl (wrap (l2 + 1)))]) rfl rfl rfl rfl (rfl))))))))
/-- Relations.pairsApart, from 16 -/
theorem b19_16 (X : Nat × (Nat → Int)) (d : Nat) (r0 : Nat) (l1 : Int) (l2 : Int) (l3 : Int) (w : MW) : R X (d + 1) 19 16 [some (.inr r0), some (.inl l1), some (.inl l2), some (.inl l3)] [] w = gd (kd w r0 = 12) (if (gi w r0 4) ≤ l3 then (R X (d + 1) 19 4 [some (.inr r0), some (.inl l1), some (.inl (wrap (l2 + 1))), none] [] w) else (gd (kd w r0 = 12) (rO (gr w r0 2) fun b1 => gd (kd w b1 = 1 ∧ 0 ≤ l2 ∧ l2 < ln w b1) (rI (run X d 95 [.inl l3] w) fun v2 w2 => if (andI (gi w b1 (Int.toNat (l2))) v2) ≠ 0 then (R X (d + 1) 19 16 [some (.inr r0), some (.inl l1), some (.inl l2), some (.inl (wrap (l3 + 1)))] [] w2) else (R X (d + 1) 19 16 [some (.inr r0), some (.inl (wrap (l1 + 1))), some (.inl l2), some (.inl (wrap (l3 + 1)))] [] w2))))) := p_iload_n (q := 17) rfl rfl rfl (p_aload_n (q := 18) rfl rfl rfl (p_getf (q := 21) rfl rfl rfl rfl (p_icmp_ge (q := 47) (q2 := 24) (off := 26) rfl (by decide) rfl rfl (p_iinc (q := 50) (z := 1) (L2 := [some (.inr r0), some (.inl l1), some (.inl (wrap (l2 + 1))), some (.inl l3)]) rfl rfl (by decide) rfl rfl (p_goto (q := 4) (off := (-46)) rfl (by decide) rfl (q_kill rfl rfl rfl rfl))) (p_aload_n (q := 25) rfl rfl rfl (p_getr (q := 28) rfl rfl rfl rfl (fun b1 => p_iload_n (q := 29) rfl rfl rfl (p_iald (q := 30) rfl rfl rfl (p_iload_n (q := 31) rfl rfl rfl (p_callTi (q := 34) (s2 := [.inl (gi w b1 (Int.toNat (l2)))]) rfl rfl rfl rfl rfl rfl (fun v2 w2 => p_iand (q := 35) rfl rfl (p_if_ne (q := 41) (q2 := 38) (off := 6) rfl (by decide) rfl rfl (p_iinc (q := 44) (z := 1) (L2 := [some (.inr r0), some (.inl l1), some (.inl l2), some (.inl (wrap (l3 + 1)))]) rfl rfl (by decide) rfl rfl (p_goto (q := 16) (off := (-28)) rfl (by decide) rfl (rfl))) (p_iinc (q := 41) (z := 1) (L2 := [some (.inr r0), some (.inl (wrap (l1 + 1))), some (.inl l2), some (.inl l3)]) rfl rfl (by decide) rfl rfl (p_iinc (q := 44) (z := 1) (L2 := [some (.inr r0), some (.inl (wrap (l1 + 1))), some (.inl l2), some (.inl (wrap (l3 + 1)))]) rfl rfl (by decide) rfl rfl (p_goto (q := 16) (off := (-28)) rfl (by decide) rfl (rfl)))))))))))))))
/-- Relations.blocks, from 0 -/
theorem b20_0 (X : Nat × (Nat → Int)) (d : Nat) (r0 : Nat) (w : MW) : run X (d + 1) 20 [.inr r0] w = R X (d + 1) 20 4 [some (.inr r0), some (.inl 0), some (.inl 1)] [] w := (show R X (d + 1) 20 0 [some (.inr r0), none, none] [] w = _ from p_iconst (q := 1) (z := 0) rfl (by decide) rfl (p_istore_n (q := 2) (L2 := [some (.inr r0), some (.inl 0), none]) rfl rfl rfl rfl (p_iconst (q := 3) (z := 1) rfl (by decide) rfl (p_istore_n (q := 4) (L2 := [some (.inr r0), some (.inl 0), some (.inl 1)]) rfl rfl rfl rfl (rfl)))))
/-- Relations.blocks, from 4 -/
theorem b20_4 (X : Nat × (Nat → Int)) (d : Nat) (r0 : Nat) (l1 : Int) (l2 : Int) (w : MW) : R X (d + 1) 20 4 [some (.inr r0), some (.inl l1), some (.inl l2)] [] w = gd (kd w r0 = 12) (rI (run X d 95 [.inl (gi w r0 4)] w) fun v1 w1 => if v1 ≤ l2 then (some (some (.inl l1), w1)) else (gd (kd w1 r0 = 12) (rI (run X d 22 [.inr r0, .inl l2] w1) fun v2 w2 => if v2 = 0 then (R X (d + 1) 20 4 [some (.inr r0), some (.inl l1), some (.inl (wrap (l2 + 1)))] [] w2) else (R X (d + 1) 20 4 [some (.inr r0), some (.inl (wrap (l1 + 1))), some (.inl (wrap (l2 + 1)))] [] w2)))) := p_iload_n (q := 5) rfl rfl rfl (p_aload_n (q := 6) rfl rfl rfl (p_getf (q := 9) rfl rfl rfl rfl (p_callTi (q := 12) (s2 := [.inl l2]) rfl rfl rfl rfl rfl rfl (fun v1 w1 => p_icmp_ge (q := 32) (q2 := 15) (off := 20) rfl (by decide) rfl rfl (p_iload_n (q := 33) rfl rfl rfl (p_iret rfl rfl)) (p_aload_n (q := 16) rfl rfl rfl (p_iload_n (q := 17) rfl rfl rfl (p_callVi (q := 20) (s2 := []) rfl rfl rfl rfl rfl rfl rfl (fun v2 w2 => p_if_eq (q := 26) (q2 := 23) (off := 6) rfl (by decide) rfl rfl (p_iinc (q := 29) (z := 1) (L2 := [some (.inr r0), some (.inl l1), some (.inl (wrap (l2 + 1)))]) rfl rfl (by decide) rfl rfl (p_goto (q := 4) (off := (-25)) rfl (by decide) rfl (rfl))) (p_iinc (q := 26) (z := 1) (L2 := [some (.inr r0), some (.inl (wrap (l1 + 1))), some (.inl l2)]) rfl rfl (by decide) rfl rfl (p_iinc (q := 29) (z := 1) (L2 := [some (.inr r0), some (.inl (wrap (l1 + 1))), some (.inl (wrap (l2 + 1)))]) rfl rfl (by decide) rfl rfl (p_goto (q := 4) (off := (-25)) rfl (by decide) rfl (rfl))))))))))))
/-- Relations.blockAt, from 0 -/
theorem b21_0 (X : Nat × (Nat → Int)) (d : Nat) (r0 : Nat) (l1 : Int) (w : MW) : run X (d + 1) 21 [.inr r0, .inl l1] w = R X (d + 1) 21 4 [some (.inr r0), some (.inl l1), some (.inl 0), some (.inl 1)] [] w := (show R X (d + 1) 21 0 [some (.inr r0), some (.inl l1), none, none] [] w = _ from p_iconst (q := 1) (z := 0) rfl (by decide) rfl (p_istore_n (q := 2) (L2 := [some (.inr r0), some (.inl l1), some (.inl 0), none]) rfl rfl rfl rfl (p_iconst (q := 3) (z := 1) rfl (by decide) rfl (p_istore_n (q := 4) (L2 := [some (.inr r0), some (.inl l1), some (.inl 0), some (.inl 1)]) rfl rfl rfl rfl (rfl)))))
/-- Relations.blockAt, from 4 -/
theorem b21_4 (X : Nat × (Nat → Int)) (d : Nat) (r0 : Nat) (l1 : Int) (l2 : Int) (l3 : Int) (w : MW) : R X (d + 1) 21 4 [some (.inr r0), some (.inl l1), some (.inl l2), some (.inl l3)] [] w = gd (kd w r0 = 12) (rI (run X d 95 [.inl (gi w r0 4)] w) fun v1 w1 => if v1 ≤ l3 then (some (some (.inl 0), w1)) else (gd (kd w1 r0 = 12) (rI (run X d 22 [.inr r0, .inl l3] w1) fun v2 w2 => if v2 = 0 then (R X (d + 1) 21 4 [some (.inr r0), some (.inl l1), some (.inl l2), some (.inl (wrap (l3 + 1)))] [] w2) else (if l2 ≠ l1 then (R X (d + 1) 21 4 [some (.inr r0), some (.inl l1), some (.inl (wrap (l2 + 1))), some (.inl (wrap (l3 + 1)))] [] w2) else (some (some (.inl l3), w2)))))) := p_iload_n (q := 5) rfl rfl rfl (p_aload_n (q := 6) rfl rfl rfl (p_getf (q := 9) rfl rfl rfl rfl (p_callTi (q := 12) (s2 := [.inl l3]) rfl rfl rfl rfl rfl rfl (fun v1 w1 => p_icmp_ge (q := 39) (q2 := 15) (off := 27) rfl (by decide) rfl rfl (p_iconst (q := 40) (z := 0) rfl (by decide) rfl (p_iret rfl rfl)) (p_aload_n (q := 16) rfl rfl rfl (p_iload_n (q := 17) rfl rfl rfl (p_callVi (q := 20) (s2 := []) rfl rfl rfl rfl rfl rfl rfl (fun v2 w2 => p_if_eq (q := 33) (q2 := 23) (off := 13) rfl (by decide) rfl rfl (p_iinc (q := 36) (z := 1) (L2 := [some (.inr r0), some (.inl l1), some (.inl l2), some (.inl (wrap (l3 + 1)))]) rfl rfl (by decide) rfl rfl (p_goto (q := 4) (off := (-32)) rfl (by decide) rfl (rfl))) (p_iload_n (q := 24) rfl rfl rfl (p_iload_n (q := 25) rfl rfl rfl (p_icmp_ne (q := 30) (q2 := 28) (off := 5) rfl (by decide) rfl rfl (p_iinc (q := 33) (z := 1) (L2 := [some (.inr r0), some (.inl l1), some (.inl (wrap (l2 + 1))), some (.inl l3)]) rfl rfl (by decide) rfl rfl (p_iinc (q := 36) (z := 1) (L2 := [some (.inr r0), some (.inl l1), some (.inl (wrap (l2 + 1))), some (.inl (wrap (l3 + 1)))]) rfl rfl (by decide) rfl rfl (p_goto (q := 4) (off := (-32)) rfl (by decide) rfl (rfl)))) (p_iload_n (q := 29) rfl rfl rfl (p_iret rfl rfl)))))))))))))
/-- Relations.isBlock, from 0 -/
theorem b22_0 (X : Nat × (Nat → Int)) (d : Nat) (r0 : Nat) (l1 : Int) (w : MW) : run X (d + 1) 22 [.inr r0, .inl l1] w = R X (d + 1) 22 4 [some (.inr r0), some (.inl l1), some (.inl (-1)), some (.inl 0)] [] w := (show R X (d + 1) 22 0 [some (.inr r0), some (.inl l1), none, none] [] w = _ from p_iconst (q := 1) (z := (-1)) rfl (by decide) rfl (p_istore_n (q := 2) (L2 := [some (.inr r0), some (.inl l1), some (.inl (-1)), none]) rfl rfl rfl rfl (p_iconst (q := 3) (z := 0) rfl (by decide) rfl (p_istore_n (q := 4) (L2 := [some (.inr r0), some (.inl l1), some (.inl (-1)), some (.inl 0)]) rfl rfl rfl rfl (rfl)))))
/-- Relations.isBlock, from 4 -/
theorem b22_4 (X : Nat × (Nat → Int)) (d : Nat) (r0 : Nat) (l1 : Int) (l2 : Int) (l3 : Int) (w : MW) : R X (d + 1) 22 4 [some (.inr r0), some (.inl l1), some (.inl l2), some (.inl l3)] [] w = gd (kd w r0 = 12) (if (gi w r0 4) ≤ l3 then (if l2 ≠ l1 then (some (some (.inl 0), w)) else (some (some (.inl 1), w))) else (rI (run X d 95 [.inl l3] w) fun v1 w1 => if (andI l1 v1) = 0 then (R X (d + 1) 22 4 [some (.inr r0), some (.inl l1), some (.inl l2), some (.inl (wrap (l3 + 1)))] [] w1) else (gd (kd w1 r0 = 12) (rO (gr w1 r0 2) fun b2 => gd (kd w1 b2 = 1 ∧ 0 ≤ l3 ∧ l3 < ln w1 b2) (R X (d + 1) 22 4 [some (.inr r0), some (.inl l1), some (.inl (andI l2 (gi w1 b2 (Int.toNat (l3))))), some (.inl (wrap (l3 + 1)))] [] w1))))) := p_iload_n (q := 5) rfl rfl rfl (p_aload_n (q := 6) rfl rfl rfl (p_getf (q := 9) rfl rfl rfl rfl (p_icmp_ge (q := 36) (q2 := 12) (off := 27) rfl (by decide) rfl rfl (p_iload_n (q := 37) rfl rfl rfl (p_iload_n (q := 38) rfl rfl rfl (p_icmp_ne (q := 45) (q2 := 41) (off := 7) rfl (by decide) rfl rfl (p_iconst (q := 46) (z := 0) rfl (by decide) rfl (p_zret0 rfl rfl)) (p_iconst (q := 42) (z := 1) rfl (by decide) rfl (p_goto (q := 46) (off := 4) rfl (by decide) rfl (p_zret1 rfl rfl)))))) (p_iload_n (q := 13) rfl rfl rfl (p_iload_n (q := 14) rfl rfl rfl (p_callTi (q := 17) (s2 := [.inl l1]) rfl rfl rfl rfl rfl rfl (fun v1 w1 => p_iand (q := 18) rfl rfl (p_if_eq (q := 30) (q2 := 21) (off := 12) rfl (by decide) rfl rfl (p_iinc (q := 33) (z := 1) (L2 := [some (.inr r0), some (.inl l1), some (.inl l2), some (.inl (wrap (l3 + 1)))]) rfl rfl (by decide) rfl rfl (p_goto (q := 4) (off := (-29)) rfl (by decide) rfl (rfl))) (p_iload_n (q := 22) rfl rfl rfl (p_aload_n (q := 23) rfl rfl rfl (p_getr (q := 26) rfl rfl rfl rfl (fun b2 => p_iload_n (q := 27) rfl rfl rfl (p_iald (q := 28) rfl rfl rfl (p_iand (q := 29) rfl rfl (p_istore_n (q := 30) (L2 := [some (.inr r0), some (.inl l1), some (.inl (andI l2 (gi w1 b2 (Int.toNat (l3))))), some (.inl l3)]) rfl rfl rfl rfl (p_iinc (q := 33) (z := 1) (L2 := [some (.inr r0), some (.inl l1), some (.inl (andI l2 (gi w1 b2 (Int.toNat (l3))))), some (.inl (wrap (l3 + 1)))]) rfl rfl (by decide) rfl rfl (p_goto (q := 4) (off := (-29)) rfl (by decide) rfl (rfl))))))))))))))))))
end
section
/-- Text.<init>, from 0 -/
theorem b43_0 (X : Nat × (Nat → Int)) (d : Nat) (r0 : Nat) (w : MW) : run X d 43 [.inr r0] w = gd (kd (al w 2 60 60) r0 = 14) (gd (kd (al (sr (al w 2 60 60) r0 1 (some (nx w))) 1 15 15) r0 = 14) (gd (kd (al (sr (al (sr (al w 2 60 60) r0 1 (some (nx w))) 1 15 15) r0 4 (some (nx (sr (al w 2 60 60) r0 1 (some (nx w)))))) 1 15 15) r0 = 14) (gd (kd (al (sr (al (sr (al (sr (al w 2 60 60) r0 1 (some (nx w))) 1 15 15) r0 4 (some (nx (sr (al w 2 60 60) r0 1 (some (nx w)))))) 1 15 15) r0 5 (some (nx (sr (al (sr (al w 2 60 60) r0 1 (some (nx w))) 1 15 15) r0 4 (some (nx (sr (al w 2 60 60) r0 1 (some (nx w))))))))) 1 15 15) r0 = 14) (some (none, sr (al (sr (al (sr (al (sr (al w 2 60 60) r0 1 (some (nx w))) 1 15 15) r0 4 (some (nx (sr (al w 2 60 60) r0 1 (some (nx w)))))) 1 15 15) r0 5 (some (nx (sr (al (sr (al w 2 60 60) r0 1 (some (nx w))) 1 15 15) r0 4 (some (nx (sr (al w 2 60 60) r0 1 (some (nx w))))))))) 1 15 15) r0 6 (some (nx (sr (al (sr (al (sr (al w 2 60 60) r0 1 (some (nx w))) 1 15 15) r0 4 (some (nx (sr (al w 2 60 60) r0 1 (some (nx w)))))) 1 15 15) r0 5 (some (nx (sr (al (sr (al w 2 60 60) r0 1 (some (nx w))) 1 15 15) r0 4 (some (nx (sr (al w 2 60 60) r0 1 (some (nx w)))))))))))))))) := (show R X d 43 0 [some (.inr r0)] [] w = _ from p_aload_n (q := 1) rfl rfl rfl (p_objinit (q := 4) rfl rfl (Nat.le_of_ble_eq_true rfl) rfl (p_aload_n (q := 5) rfl rfl rfl (p_bipush (q := 7) (z := 60) rfl (by decide) rfl (p_newc (q := 9) rfl (by decide) rfl (p_putr (q := 12) rfl rfl rfl rfl (p_aload_n (q := 13) rfl rfl rfl (p_bipush (q := 15) (z := 15) rfl (by decide) rfl (p_newi (q := 17) rfl (by decide) rfl (p_putr (q := 20) rfl rfl rfl rfl (p_aload_n (q := 21) rfl rfl rfl (p_bipush (q := 23) (z := 15) rfl (by decide) rfl (p_newi (q := 25) rfl (by decide) rfl (p_putr (q := 28) rfl rfl rfl rfl (p_aload_n (q := 29) rfl rfl rfl (p_bipush (q := 31) (z := 15) rfl (by decide) rfl (p_newi (q := 33) rfl (by decide) rfl (p_putr (q := 36) rfl rfl rfl rfl (p_vret rfl)))))))))))))))))))
end
section
/-- Weights.<init>, from 0 -/
theorem b53_0 (X : Nat × (Nat → Int)) (d : Nat) (r0 : Nat) (w : MW) : run X d 53 [.inr r0] w = gd (kd (al w 1 12 12) r0 = 15) (gd (kd (al (sr (al w 1 12 12) r0 1 (some (nx w))) 1 12 12) r0 = 15) (gd (kd (al (sr (al (sr (al w 1 12 12) r0 1 (some (nx w))) 1 12 12) r0 2 (some (nx (sr (al w 1 12 12) r0 1 (some (nx w)))))) 1 12 12) r0 = 15) (gd (kd (al (sr (al (sr (al (sr (al w 1 12 12) r0 1 (some (nx w))) 1 12 12) r0 2 (some (nx (sr (al w 1 12 12) r0 1 (some (nx w)))))) 1 12 12) r0 3 (some (nx (sr (al (sr (al w 1 12 12) r0 1 (some (nx w))) 1 12 12) r0 2 (some (nx (sr (al w 1 12 12) r0 1 (some (nx w))))))))) 1 66 66) r0 = 15) (gd (kd (al (sr (al (sr (al (sr (al (sr (al w 1 12 12) r0 1 (some (nx w))) 1 12 12) r0 2 (some (nx (sr (al w 1 12 12) r0 1 (some (nx w)))))) 1 12 12) r0 3 (some (nx (sr (al (sr (al w 1 12 12) r0 1 (some (nx w))) 1 12 12) r0 2 (some (nx (sr (al w 1 12 12) r0 1 (some (nx w))))))))) 1 66 66) r0 6 (some (nx (sr (al (sr (al (sr (al w 1 12 12) r0 1 (some (nx w))) 1 12 12) r0 2 (some (nx (sr (al w 1 12 12) r0 1 (some (nx w)))))) 1 12 12) r0 3 (some (nx (sr (al (sr (al w 1 12 12) r0 1 (some (nx w))) 1 12 12) r0 2 (some (nx (sr (al w 1 12 12) r0 1 (some (nx w)))))))))))) 1 66 66) r0 = 15) (gd (kd (al (sr (al (sr (al (sr (al (sr (al (sr (al w 1 12 12) r0 1 (some (nx w))) 1 12 12) r0 2 (some (nx (sr (al w 1 12 12) r0 1 (some (nx w)))))) 1 12 12) r0 3 (some (nx (sr (al (sr (al w 1 12 12) r0 1 (some (nx w))) 1 12 12) r0 2 (some (nx (sr (al w 1 12 12) r0 1 (some (nx w))))))))) 1 66 66) r0 6 (some (nx (sr (al (sr (al (sr (al w 1 12 12) r0 1 (some (nx w))) 1 12 12) r0 2 (some (nx (sr (al w 1 12 12) r0 1 (some (nx w)))))) 1 12 12) r0 3 (some (nx (sr (al (sr (al w 1 12 12) r0 1 (some (nx w))) 1 12 12) r0 2 (some (nx (sr (al w 1 12 12) r0 1 (some (nx w)))))))))))) 1 66 66) r0 7 (some (nx (sr (al (sr (al (sr (al (sr (al w 1 12 12) r0 1 (some (nx w))) 1 12 12) r0 2 (some (nx (sr (al w 1 12 12) r0 1 (some (nx w)))))) 1 12 12) r0 3 (some (nx (sr (al (sr (al w 1 12 12) r0 1 (some (nx w))) 1 12 12) r0 2 (some (nx (sr (al w 1 12 12) r0 1 (some (nx w))))))))) 1 66 66) r0 6 (some (nx (sr (al (sr (al (sr (al w 1 12 12) r0 1 (some (nx w))) 1 12 12) r0 2 (some (nx (sr (al w 1 12 12) r0 1 (some (nx w)))))) 1 12 12) r0 3 (some (nx (sr (al (sr (al w 1 12 12) r0 1 (some (nx w))) 1 12 12) r0 2 (some (nx (sr (al w 1 12 12) r0 1 (some (nx w))))))))))))))) 1 66 66) r0 = 15) (gd (kd (al (sr (al (sr (al (sr (al (sr (al (sr (al (sr (al w 1 12 12) r0 1 (some (nx w))) 1 12 12) r0 2 (some (nx (sr (al w 1 12 12) r0 1 (some (nx w)))))) 1 12 12) r0 3 (some (nx (sr (al (sr (al w 1 12 12) r0 1 (some (nx w))) 1 12 12) r0 2 (some (nx (sr (al w 1 12 12) r0 1 (some (nx w))))))))) 1 66 66) r0 6 (some (nx (sr (al (sr (al (sr (al w 1 12 12) r0 1 (some (nx w))) 1 12 12) r0 2 (some (nx (sr (al w 1 12 12) r0 1 (some (nx w)))))) 1 12 12) r0 3 (some (nx (sr (al (sr (al w 1 12 12) r0 1 (some (nx w))) 1 12 12) r0 2 (some (nx (sr (al w 1 12 12) r0 1 (some (nx w)))))))))))) 1 66 66) r0 7 (some (nx (sr (al (sr (al (sr (al (sr (al w 1 12 12) r0 1 (some (nx w))) 1 12 12) r0 2 (some (nx (sr (al w 1 12 12) r0 1 (some (nx w)))))) 1 12 12) r0 3 (some (nx (sr (al (sr (al w 1 12 12) r0 1 (some (nx w))) 1 12 12) r0 2 (some (nx (sr (al w 1 12 12) r0 1 (some (nx w))))))))) 1 66 66) r0 6 (some (nx (sr (al (sr (al (sr (al w 1 12 12) r0 1 (some (nx w))) 1 12 12) r0 2 (some (nx (sr (al w 1 12 12) r0 1 (some (nx w)))))) 1 12 12) r0 3 (some (nx (sr (al (sr (al w 1 12 12) r0 1 (some (nx w))) 1 12 12) r0 2 (some (nx (sr (al w 1 12 12) r0 1 (some (nx w))))))))))))))) 1 66 66) r0 8 (some (nx (sr (al (sr (al (sr (al (sr (al (sr (al w 1 12 12) r0 1 (some (nx w))) 1 12 12) r0 2 (some (nx (sr (al w 1 12 12) r0 1 (some (nx w)))))) 1 12 12) r0 3 (some (nx (sr (al (sr (al w 1 12 12) r0 1 (some (nx w))) 1 12 12) r0 2 (some (nx (sr (al w 1 12 12) r0 1 (some (nx w))))))))) 1 66 66) r0 6 (some (nx (sr (al (sr (al (sr (al w 1 12 12) r0 1 (some (nx w))) 1 12 12) r0 2 (some (nx (sr (al w 1 12 12) r0 1 (some (nx w)))))) 1 12 12) r0 3 (some (nx (sr (al (sr (al w 1 12 12) r0 1 (some (nx w))) 1 12 12) r0 2 (some (nx (sr (al w 1 12 12) r0 1 (some (nx w)))))))))))) 1 66 66) r0 7 (some (nx (sr (al (sr (al (sr (al (sr (al w 1 12 12) r0 1 (some (nx w))) 1 12 12) r0 2 (some (nx (sr (al w 1 12 12) r0 1 (some (nx w)))))) 1 12 12) r0 3 (some (nx (sr (al (sr (al w 1 12 12) r0 1 (some (nx w))) 1 12 12) r0 2 (some (nx (sr (al w 1 12 12) r0 1 (some (nx w))))))))) 1 66 66) r0 6 (some (nx (sr (al (sr (al (sr (al w 1 12 12) r0 1 (some (nx w))) 1 12 12) r0 2 (some (nx (sr (al w 1 12 12) r0 1 (some (nx w)))))) 1 12 12) r0 3 (some (nx (sr (al (sr (al w 1 12 12) r0 1 (some (nx w))) 1 12 12) r0 2 (some (nx (sr (al w 1 12 12) r0 1 (some (nx w)))))))))))))))))) 1 144 144) r0 = 15) (gd (kd (al (sr (al (sr (al (sr (al (sr (al (sr (al (sr (al (sr (al w 1 12 12) r0 1 (some (nx w))) 1 12 12) r0 2 (some (nx (sr (al w 1 12 12) r0 1 (some (nx w)))))) 1 12 12) r0 3 (some (nx (sr (al (sr (al w 1 12 12) r0 1 (some (nx w))) 1 12 12) r0 2 (some (nx (sr (al w 1 12 12) r0 1 (some (nx w))))))))) 1 66 66) r0 6 (some (nx (sr (al (sr (al (sr (al w 1 12 12) r0 1 (some (nx w))) 1 12 12) r0 2 (some (nx (sr (al w 1 12 12) r0 1 (some (nx w)))))) 1 12 12) r0 3 (some (nx (sr (al (sr (al w 1 12 12) r0 1 (some (nx w))) 1 12 12) r0 2 (some (nx (sr (al w 1 12 12) r0 1 (some (nx w)))))))))))) 1 66 66) r0 7 (some (nx (sr (al (sr (al (sr (al (sr (al w 1 12 12) r0 1 (some (nx w))) 1 12 12) r0 2 (some (nx (sr (al w 1 12 12) r0 1 (some (nx w)))))) 1 12 12) r0 3 (some (nx (sr (al (sr (al w 1 12 12) r0 1 (some (nx w))) 1 12 12) r0 2 (some (nx (sr (al w 1 12 12) r0 1 (some (nx w))))))))) 1 66 66) r0 6 (some (nx (sr (al (sr (al (sr (al w 1 12 12) r0 1 (some (nx w))) 1 12 12) r0 2 (some (nx (sr (al w 1 12 12) r0 1 (some (nx w)))))) 1 12 12) r0 3 (some (nx (sr (al (sr (al w 1 12 12) r0 1 (some (nx w))) 1 12 12) r0 2 (some (nx (sr (al w 1 12 12) r0 1 (some (nx w))))))))))))))) 1 66 66) r0 8 (some (nx (sr (al (sr (al (sr (al (sr (al (sr (al w 1 12 12) r0 1 (some (nx w))) 1 12 12) r0 2 (some (nx (sr (al w 1 12 12) r0 1 (some (nx w)))))) 1 12 12) r0 3 (some (nx (sr (al (sr (al w 1 12 12) r0 1 (some (nx w))) 1 12 12) r0 2 (some (nx (sr (al w 1 12 12) r0 1 (some (nx w))))))))) 1 66 66) r0 6 (some (nx (sr (al (sr (al (sr (al w 1 12 12) r0 1 (some (nx w))) 1 12 12) r0 2 (some (nx (sr (al w 1 12 12) r0 1 (some (nx w)))))) 1 12 12) r0 3 (some (nx (sr (al (sr (al w 1 12 12) r0 1 (some (nx w))) 1 12 12) r0 2 (some (nx (sr (al w 1 12 12) r0 1 (some (nx w)))))))))))) 1 66 66) r0 7 (some (nx (sr (al (sr (al (sr (al (sr (al w 1 12 12) r0 1 (some (nx w))) 1 12 12) r0 2 (some (nx (sr (al w 1 12 12) r0 1 (some (nx w)))))) 1 12 12) r0 3 (some (nx (sr (al (sr (al w 1 12 12) r0 1 (some (nx w))) 1 12 12) r0 2 (some (nx (sr (al w 1 12 12) r0 1 (some (nx w))))))))) 1 66 66) r0 6 (some (nx (sr (al (sr (al (sr (al w 1 12 12) r0 1 (some (nx w))) 1 12 12) r0 2 (some (nx (sr (al w 1 12 12) r0 1 (some (nx w)))))) 1 12 12) r0 3 (some (nx (sr (al (sr (al w 1 12 12) r0 1 (some (nx w))) 1 12 12) r0 2 (some (nx (sr (al w 1 12 12) r0 1 (some (nx w)))))))))))))))))) 1 144 144) r0 9 (some (nx (sr (al (sr (al (sr (al (sr (al (sr (al (sr (al w 1 12 12) r0 1 (some (nx w))) 1 12 12) r0 2 (some (nx (sr (al w 1 12 12) r0 1 (some (nx w)))))) 1 12 12) r0 3 (some (nx (sr (al (sr (al w 1 12 12) r0 1 (some (nx w))) 1 12 12) r0 2 (some (nx (sr (al w 1 12 12) r0 1 (some (nx w))))))))) 1 66 66) r0 6 (some (nx (sr (al (sr (al (sr (al w 1 12 12) r0 1 (some (nx w))) 1 12 12) r0 2 (some (nx (sr (al w 1 12 12) r0 1 (some (nx w)))))) 1 12 12) r0 3 (some (nx (sr (al (sr (al w 1 12 12) r0 1 (some (nx w))) 1 12 12) r0 2 (some (nx (sr (al w 1 12 12) r0 1 (some (nx w)))))))))))) 1 66 66) r0 7 (some (nx (sr (al (sr (al (sr (al (sr (al w 1 12 12) r0 1 (some (nx w))) 1 12 12) r0 2 (some (nx (sr (al w 1 12 12) r0 1 (some (nx w)))))) 1 12 12) r0 3 (some (nx (sr (al (sr (al w 1 12 12) r0 1 (some (nx w))) 1 12 12) r0 2 (some (nx (sr (al w 1 12 12) r0 1 (some (nx w))))))))) 1 66 66) r0 6 (some (nx (sr (al (sr (al (sr (al w 1 12 12) r0 1 (some (nx w))) 1 12 12) r0 2 (some (nx (sr (al w 1 12 12) r0 1 (some (nx w)))))) 1 12 12) r0 3 (some (nx (sr (al (sr (al w 1 12 12) r0 1 (some (nx w))) 1 12 12) r0 2 (some (nx (sr (al w 1 12 12) r0 1 (some (nx w))))))))))))))) 1 66 66) r0 8 (some (nx (sr (al (sr (al (sr (al (sr (al (sr (al w 1 12 12) r0 1 (some (nx w))) 1 12 12) r0 2 (some (nx (sr (al w 1 12 12) r0 1 (some (nx w)))))) 1 12 12) r0 3 (some (nx (sr (al (sr (al w 1 12 12) r0 1 (some (nx w))) 1 12 12) r0 2 (some (nx (sr (al w 1 12 12) r0 1 (some (nx w))))))))) 1 66 66) r0 6 (some (nx (sr (al (sr (al (sr (al w 1 12 12) r0 1 (some (nx w))) 1 12 12) r0 2 (some (nx (sr (al w 1 12 12) r0 1 (some (nx w)))))) 1 12 12) r0 3 (some (nx (sr (al (sr (al w 1 12 12) r0 1 (some (nx w))) 1 12 12) r0 2 (some (nx (sr (al w 1 12 12) r0 1 (some (nx w)))))))))))) 1 66 66) r0 7 (some (nx (sr (al (sr (al (sr (al (sr (al w 1 12 12) r0 1 (some (nx w))) 1 12 12) r0 2 (some (nx (sr (al w 1 12 12) r0 1 (some (nx w)))))) 1 12 12) r0 3 (some (nx (sr (al (sr (al w 1 12 12) r0 1 (some (nx w))) 1 12 12) r0 2 (some (nx (sr (al w 1 12 12) r0 1 (some (nx w))))))))) 1 66 66) r0 6 (some (nx (sr (al (sr (al (sr (al w 1 12 12) r0 1 (some (nx w))) 1 12 12) r0 2 (some (nx (sr (al w 1 12 12) r0 1 (some (nx w)))))) 1 12 12) r0 3 (some (nx (sr (al (sr (al w 1 12 12) r0 1 (some (nx w))) 1 12 12) r0 2 (some (nx (sr (al w 1 12 12) r0 1 (some (nx w))))))))))))))))))))) 1 144 144) r0 = 15) (gd (kd (al (sr (al (sr (al (sr (al (sr (al (sr (al (sr (al (sr (al (sr (al w 1 12 12) r0 1 (some (nx w))) 1 12 12) r0 2 (some (nx (sr (al w 1 12 12) r0 1 (some (nx w)))))) 1 12 12) r0 3 (some (nx (sr (al (sr (al w 1 12 12) r0 1 (some (nx w))) 1 12 12) r0 2 (some (nx (sr (al w 1 12 12) r0 1 (some (nx w))))))))) 1 66 66) r0 6 (some (nx (sr (al (sr (al (sr (al w 1 12 12) r0 1 (some (nx w))) 1 12 12) r0 2 (some (nx (sr (al w 1 12 12) r0 1 (some (nx w)))))) 1 12 12) r0 3 (some (nx (sr (al (sr (al w 1 12 12) r0 1 (some (nx w))) 1 12 12) r0 2 (some (nx (sr (al w 1 12 12) r0 1 (some (nx w)))))))))))) 1 66 66) r0 7 (some (nx (sr (al (sr (al (sr (al (sr (al w 1 12 12) r0 1 (some (nx w))) 1 12 12) r0 2 (some (nx (sr (al w 1 12 12) r0 1 (some (nx w)))))) 1 12 12) r0 3 (some (nx (sr (al (sr (al w 1 12 12) r0 1 (some (nx w))) 1 12 12) r0 2 (some (nx (sr (al w 1 12 12) r0 1 (some (nx w))))))))) 1 66 66) r0 6 (some (nx (sr (al (sr (al (sr (al w 1 12 12) r0 1 (some (nx w))) 1 12 12) r0 2 (some (nx (sr (al w 1 12 12) r0 1 (some (nx w)))))) 1 12 12) r0 3 (some (nx (sr (al (sr (al w 1 12 12) r0 1 (some (nx w))) 1 12 12) r0 2 (some (nx (sr (al w 1 12 12) r0 1 (some (nx w))))))))))))))) 1 66 66) r0 8 (some (nx (sr (al (sr (al (sr (al (sr (al (sr (al w 1 12 12) r0 1 (some (nx w))) 1 12 12) r0 2 (some (nx (sr (al w 1 12 12) r0 1 (some (nx w)))))) 1 12 12) r0 3 (some (nx (sr (al (sr (al w 1 12 12) r0 1 (some (nx w))) 1 12 12) r0 2 (some (nx (sr (al w 1 12 12) r0 1 (some (nx w))))))))) 1 66 66) r0 6 (some (nx (sr (al (sr (al (sr (al w 1 12 12) r0 1 (some (nx w))) 1 12 12) r0 2 (some (nx (sr (al w 1 12 12) r0 1 (some (nx w)))))) 1 12 12) r0 3 (some (nx (sr (al (sr (al w 1 12 12) r0 1 (some (nx w))) 1 12 12) r0 2 (some (nx (sr (al w 1 12 12) r0 1 (some (nx w)))))))))))) 1 66 66) r0 7 (some (nx (sr (al (sr (al (sr (al (sr (al w 1 12 12) r0 1 (some (nx w))) 1 12 12) r0 2 (some (nx (sr (al w 1 12 12) r0 1 (some (nx w)))))) 1 12 12) r0 3 (some (nx (sr (al (sr (al w 1 12 12) r0 1 (some (nx w))) 1 12 12) r0 2 (some (nx (sr (al w 1 12 12) r0 1 (some (nx w))))))))) 1 66 66) r0 6 (some (nx (sr (al (sr (al (sr (al w 1 12 12) r0 1 (some (nx w))) 1 12 12) r0 2 (some (nx (sr (al w 1 12 12) r0 1 (some (nx w)))))) 1 12 12) r0 3 (some (nx (sr (al (sr (al w 1 12 12) r0 1 (some (nx w))) 1 12 12) r0 2 (some (nx (sr (al w 1 12 12) r0 1 (some (nx w)))))))))))))))))) 1 144 144) r0 9 (some (nx (sr (al (sr (al (sr (al (sr (al (sr (al (sr (al w 1 12 12) r0 1 (some (nx w))) 1 12 12) r0 2 (some (nx (sr (al w 1 12 12) r0 1 (some (nx w)))))) 1 12 12) r0 3 (some (nx (sr (al (sr (al w 1 12 12) r0 1 (some (nx w))) 1 12 12) r0 2 (some (nx (sr (al w 1 12 12) r0 1 (some (nx w))))))))) 1 66 66) r0 6 (some (nx (sr (al (sr (al (sr (al w 1 12 12) r0 1 (some (nx w))) 1 12 12) r0 2 (some (nx (sr (al w 1 12 12) r0 1 (some (nx w)))))) 1 12 12) r0 3 (some (nx (sr (al (sr (al w 1 12 12) r0 1 (some (nx w))) 1 12 12) r0 2 (some (nx (sr (al w 1 12 12) r0 1 (some (nx w)))))))))))) 1 66 66) r0 7 (some (nx (sr (al (sr (al (sr (al (sr (al w 1 12 12) r0 1 (some (nx w))) 1 12 12) r0 2 (some (nx (sr (al w 1 12 12) r0 1 (some (nx w)))))) 1 12 12) r0 3 (some (nx (sr (al (sr (al w 1 12 12) r0 1 (some (nx w))) 1 12 12) r0 2 (some (nx (sr (al w 1 12 12) r0 1 (some (nx w))))))))) 1 66 66) r0 6 (some (nx (sr (al (sr (al (sr (al w 1 12 12) r0 1 (some (nx w))) 1 12 12) r0 2 (some (nx (sr (al w 1 12 12) r0 1 (some (nx w)))))) 1 12 12) r0 3 (some (nx (sr (al (sr (al w 1 12 12) r0 1 (some (nx w))) 1 12 12) r0 2 (some (nx (sr (al w 1 12 12) r0 1 (some (nx w))))))))))))))) 1 66 66) r0 8 (some (nx (sr (al (sr (al (sr (al (sr (al (sr (al w 1 12 12) r0 1 (some (nx w))) 1 12 12) r0 2 (some (nx (sr (al w 1 12 12) r0 1 (some (nx w)))))) 1 12 12) r0 3 (some (nx (sr (al (sr (al w 1 12 12) r0 1 (some (nx w))) 1 12 12) r0 2 (some (nx (sr (al w 1 12 12) r0 1 (some (nx w))))))))) 1 66 66) r0 6 (some (nx (sr (al (sr (al (sr (al w 1 12 12) r0 1 (some (nx w))) 1 12 12) r0 2 (some (nx (sr (al w 1 12 12) r0 1 (some (nx w)))))) 1 12 12) r0 3 (some (nx (sr (al (sr (al w 1 12 12) r0 1 (some (nx w))) 1 12 12) r0 2 (some (nx (sr (al w 1 12 12) r0 1 (some (nx w)))))))))))) 1 66 66) r0 7 (some (nx (sr (al (sr (al (sr (al (sr (al w 1 12 12) r0 1 (some (nx w))) 1 12 12) r0 2 (some (nx (sr (al w 1 12 12) r0 1 (some (nx w)))))) 1 12 12) r0 3 (some (nx (sr (al (sr (al w 1 12 12) r0 1 (some (nx w))) 1 12 12) r0 2 (some (nx (sr (al w 1 12 12) r0 1 (some (nx w))))))))) 1 66 66) r0 6 (some (nx (sr (al (sr (al (sr (al w 1 12 12) r0 1 (some (nx w))) 1 12 12) r0 2 (some (nx (sr (al w 1 12 12) r0 1 (some (nx w)))))) 1 12 12) r0 3 (some (nx (sr (al (sr (al w 1 12 12) r0 1 (some (nx w))) 1 12 12) r0 2 (some (nx (sr (al w 1 12 12) r0 1 (some (nx w))))))))))))))))))))) 1 144 144) r0 10 (some (nx (sr (al (sr (al (sr (al (sr (al (sr (al (sr (al (sr (al w 1 12 12) r0 1 (some (nx w))) 1 12 12) r0 2 (some (nx (sr (al w 1 12 12) r0 1 (some (nx w)))))) 1 12 12) r0 3 (some (nx (sr (al (sr (al w 1 12 12) r0 1 (some (nx w))) 1 12 12) r0 2 (some (nx (sr (al w 1 12 12) r0 1 (some (nx w))))))))) 1 66 66) r0 6 (some (nx (sr (al (sr (al (sr (al w 1 12 12) r0 1 (some (nx w))) 1 12 12) r0 2 (some (nx (sr (al w 1 12 12) r0 1 (some (nx w)))))) 1 12 12) r0 3 (some (nx (sr (al (sr (al w 1 12 12) r0 1 (some (nx w))) 1 12 12) r0 2 (some (nx (sr (al w 1 12 12) r0 1 (some (nx w)))))))))))) 1 66 66) r0 7 (some (nx (sr (al (sr (al (sr (al (sr (al w 1 12 12) r0 1 (some (nx w))) 1 12 12) r0 2 (some (nx (sr (al w 1 12 12) r0 1 (some (nx w)))))) 1 12 12) r0 3 (some (nx (sr (al (sr (al w 1 12 12) r0 1 (some (nx w))) 1 12 12) r0 2 (some (nx (sr (al w 1 12 12) r0 1 (some (nx w))))))))) 1 66 66) r0 6 (some (nx (sr (al (sr (al (sr (al w 1 12 12) r0 1 (some (nx w))) 1 12 12) r0 2 (some (nx (sr (al w 1 12 12) r0 1 (some (nx w)))))) 1 12 12) r0 3 (some (nx (sr (al (sr (al w 1 12 12) r0 1 (some (nx w))) 1 12 12) r0 2 (some (nx (sr (al w 1 12 12) r0 1 (some (nx w))))))))))))))) 1 66 66) r0 8 (some (nx (sr (al (sr (al (sr (al (sr (al (sr (al w 1 12 12) r0 1 (some (nx w))) 1 12 12) r0 2 (some (nx (sr (al w 1 12 12) r0 1 (some (nx w)))))) 1 12 12) r0 3 (some (nx (sr (al (sr (al w 1 12 12) r0 1 (some (nx w))) 1 12 12) r0 2 (some (nx (sr (al w 1 12 12) r0 1 (some (nx w))))))))) 1 66 66) r0 6 (some (nx (sr (al (sr (al (sr (al w 1 12 12) r0 1 (some (nx w))) 1 12 12) r0 2 (some (nx (sr (al w 1 12 12) r0 1 (some (nx w)))))) 1 12 12) r0 3 (some (nx (sr (al (sr (al w 1 12 12) r0 1 (some (nx w))) 1 12 12) r0 2 (some (nx (sr (al w 1 12 12) r0 1 (some (nx w)))))))))))) 1 66 66) r0 7 (some (nx (sr (al (sr (al (sr (al (sr (al w 1 12 12) r0 1 (some (nx w))) 1 12 12) r0 2 (some (nx (sr (al w 1 12 12) r0 1 (some (nx w)))))) 1 12 12) r0 3 (some (nx (sr (al (sr (al w 1 12 12) r0 1 (some (nx w))) 1 12 12) r0 2 (some (nx (sr (al w 1 12 12) r0 1 (some (nx w))))))))) 1 66 66) r0 6 (some (nx (sr (al (sr (al (sr (al w 1 12 12) r0 1 (some (nx w))) 1 12 12) r0 2 (some (nx (sr (al w 1 12 12) r0 1 (some (nx w)))))) 1 12 12) r0 3 (some (nx (sr (al (sr (al w 1 12 12) r0 1 (some (nx w))) 1 12 12) r0 2 (some (nx (sr (al w 1 12 12) r0 1 (some (nx w)))))))))))))))))) 1 144 144) r0 9 (some (nx (sr (al (sr (al (sr (al (sr (al (sr (al (sr (al w 1 12 12) r0 1 (some (nx w))) 1 12 12) r0 2 (some (nx (sr (al w 1 12 12) r0 1 (some (nx w)))))) 1 12 12) r0 3 (some (nx (sr (al (sr (al w 1 12 12) r0 1 (some (nx w))) 1 12 12) r0 2 (some (nx (sr (al w 1 12 12) r0 1 (some (nx w))))))))) 1 66 66) r0 6 (some (nx (sr (al (sr (al (sr (al w 1 12 12) r0 1 (some (nx w))) 1 12 12) r0 2 (some (nx (sr (al w 1 12 12) r0 1 (some (nx w)))))) 1 12 12) r0 3 (some (nx (sr (al (sr (al w 1 12 12) r0 1 (some (nx w))) 1 12 12) r0 2 (some (nx (sr (al w 1 12 12) r0 1 (some (nx w)))))))))))) 1 66 66) r0 7 (some (nx (sr (al (sr (al (sr (al (sr (al w 1 12 12) r0 1 (some (nx w))) 1 12 12) r0 2 (some (nx (sr (al w 1 12 12) r0 1 (some (nx w)))))) 1 12 12) r0 3 (some (nx (sr (al (sr (al w 1 12 12) r0 1 (some (nx w))) 1 12 12) r0 2 (some (nx (sr (al w 1 12 12) r0 1 (some (nx w))))))))) 1 66 66) r0 6 (some (nx (sr (al (sr (al (sr (al w 1 12 12) r0 1 (some (nx w))) 1 12 12) r0 2 (some (nx (sr (al w 1 12 12) r0 1 (some (nx w)))))) 1 12 12) r0 3 (some (nx (sr (al (sr (al w 1 12 12) r0 1 (some (nx w))) 1 12 12) r0 2 (some (nx (sr (al w 1 12 12) r0 1 (some (nx w))))))))))))))) 1 66 66) r0 8 (some (nx (sr (al (sr (al (sr (al (sr (al (sr (al w 1 12 12) r0 1 (some (nx w))) 1 12 12) r0 2 (some (nx (sr (al w 1 12 12) r0 1 (some (nx w)))))) 1 12 12) r0 3 (some (nx (sr (al (sr (al w 1 12 12) r0 1 (some (nx w))) 1 12 12) r0 2 (some (nx (sr (al w 1 12 12) r0 1 (some (nx w))))))))) 1 66 66) r0 6 (some (nx (sr (al (sr (al (sr (al w 1 12 12) r0 1 (some (nx w))) 1 12 12) r0 2 (some (nx (sr (al w 1 12 12) r0 1 (some (nx w)))))) 1 12 12) r0 3 (some (nx (sr (al (sr (al w 1 12 12) r0 1 (some (nx w))) 1 12 12) r0 2 (some (nx (sr (al w 1 12 12) r0 1 (some (nx w)))))))))))) 1 66 66) r0 7 (some (nx (sr (al (sr (al (sr (al (sr (al w 1 12 12) r0 1 (some (nx w))) 1 12 12) r0 2 (some (nx (sr (al w 1 12 12) r0 1 (some (nx w)))))) 1 12 12) r0 3 (some (nx (sr (al (sr (al w 1 12 12) r0 1 (some (nx w))) 1 12 12) r0 2 (some (nx (sr (al w 1 12 12) r0 1 (some (nx w))))))))) 1 66 66) r0 6 (some (nx (sr (al (sr (al (sr (al w 1 12 12) r0 1 (some (nx w))) 1 12 12) r0 2 (some (nx (sr (al w 1 12 12) r0 1 (some (nx w)))))) 1 12 12) r0 3 (some (nx (sr (al (sr (al w 1 12 12) r0 1 (some (nx w))) 1 12 12) r0 2 (some (nx (sr (al w 1 12 12) r0 1 (some (nx w)))))))))))))))))))))))) 1 12 12) r0 = 15) (some (none, sr (al (sr (al (sr (al (sr (al (sr (al (sr (al (sr (al (sr (al (sr (al w 1 12 12) r0 1 (some (nx w))) 1 12 12) r0 2 (some (nx (sr (al w 1 12 12) r0 1 (some (nx w)))))) 1 12 12) r0 3 (some (nx (sr (al (sr (al w 1 12 12) r0 1 (some (nx w))) 1 12 12) r0 2 (some (nx (sr (al w 1 12 12) r0 1 (some (nx w))))))))) 1 66 66) r0 6 (some (nx (sr (al (sr (al (sr (al w 1 12 12) r0 1 (some (nx w))) 1 12 12) r0 2 (some (nx (sr (al w 1 12 12) r0 1 (some (nx w)))))) 1 12 12) r0 3 (some (nx (sr (al (sr (al w 1 12 12) r0 1 (some (nx w))) 1 12 12) r0 2 (some (nx (sr (al w 1 12 12) r0 1 (some (nx w)))))))))))) 1 66 66) r0 7 (some (nx (sr (al (sr (al (sr (al (sr (al w 1 12 12) r0 1 (some (nx w))) 1 12 12) r0 2 (some (nx (sr (al w 1 12 12) r0 1 (some (nx w)))))) 1 12 12) r0 3 (some (nx (sr (al (sr (al w 1 12 12) r0 1 (some (nx w))) 1 12 12) r0 2 (some (nx (sr (al w 1 12 12) r0 1 (some (nx w))))))))) 1 66 66) r0 6 (some (nx (sr (al (sr (al (sr (al w 1 12 12) r0 1 (some (nx w))) 1 12 12) r0 2 (some (nx (sr (al w 1 12 12) r0 1 (some (nx w)))))) 1 12 12) r0 3 (some (nx (sr (al (sr (al w 1 12 12) r0 1 (some (nx w))) 1 12 12) r0 2 (some (nx (sr (al w 1 12 12) r0 1 (some (nx w))))))))))))))) 1 66 66) r0 8 (some (nx (sr (al (sr (al (sr (al (sr (al (sr (al w 1 12 12) r0 1 (some (nx w))) 1 12 12) r0 2 (some (nx (sr (al w 1 12 12) r0 1 (some (nx w)))))) 1 12 12) r0 3 (some (nx (sr (al (sr (al w 1 12 12) r0 1 (some (nx w))) 1 12 12) r0 2 (some (nx (sr (al w 1 12 12) r0 1 (some (nx w))))))))) 1 66 66) r0 6 (some (nx (sr (al (sr (al (sr (al w 1 12 12) r0 1 (some (nx w))) 1 12 12) r0 2 (some (nx (sr (al w 1 12 12) r0 1 (some (nx w)))))) 1 12 12) r0 3 (some (nx (sr (al (sr (al w 1 12 12) r0 1 (some (nx w))) 1 12 12) r0 2 (some (nx (sr (al w 1 12 12) r0 1 (some (nx w)))))))))))) 1 66 66) r0 7 (some (nx (sr (al (sr (al (sr (al (sr (al w 1 12 12) r0 1 (some (nx w))) 1 12 12) r0 2 (some (nx (sr (al w 1 12 12) r0 1 (some (nx w)))))) 1 12 12) r0 3 (some (nx (sr (al (sr (al w 1 12 12) r0 1 (some (nx w))) 1 12 12) r0 2 (some (nx (sr (al w 1 12 12) r0 1 (some (nx w))))))))) 1 66 66) r0 6 (some (nx (sr (al (sr (al (sr (al w 1 12 12) r0 1 (some (nx w))) 1 12 12) r0 2 (some (nx (sr (al w 1 12 12) r0 1 (some (nx w)))))) 1 12 12) r0 3 (some (nx (sr (al (sr (al w 1 12 12) r0 1 (some (nx w))) 1 12 12) r0 2 (some (nx (sr (al w 1 12 12) r0 1 (some (nx w)))))))))))))))))) 1 144 144) r0 9 (some (nx (sr (al (sr (al (sr (al (sr (al (sr (al (sr (al w 1 12 12) r0 1 (some (nx w))) 1 12 12) r0 2 (some (nx (sr (al w 1 12 12) r0 1 (some (nx w)))))) 1 12 12) r0 3 (some (nx (sr (al (sr (al w 1 12 12) r0 1 (some (nx w))) 1 12 12) r0 2 (some (nx (sr (al w 1 12 12) r0 1 (some (nx w))))))))) 1 66 66) r0 6 (some (nx (sr (al (sr (al (sr (al w 1 12 12) r0 1 (some (nx w))) 1 12 12) r0 2 (some (nx (sr (al w 1 12 12) r0 1 (some (nx w)))))) 1 12 12) r0 3 (some (nx (sr (al (sr (al w 1 12 12) r0 1 (some (nx w))) 1 12 12) r0 2 (some (nx (sr (al w 1 12 12) r0 1 (some (nx w)))))))))))) 1 66 66) r0 7 (some (nx (sr (al (sr (al (sr (al (sr (al w 1 12 12) r0 1 (some (nx w))) 1 12 12) r0 2 (some (nx (sr (al w 1 12 12) r0 1 (some (nx w)))))) 1 12 12) r0 3 (some (nx (sr (al (sr (al w 1 12 12) r0 1 (some (nx w))) 1 12 12) r0 2 (some (nx (sr (al w 1 12 12) r0 1 (some (nx w))))))))) 1 66 66) r0 6 (some (nx (sr (al (sr (al (sr (al w 1 12 12) r0 1 (some (nx w))) 1 12 12) r0 2 (some (nx (sr (al w 1 12 12) r0 1 (some (nx w)))))) 1 12 12) r0 3 (some (nx (sr (al (sr (al w 1 12 12) r0 1 (some (nx w))) 1 12 12) r0 2 (some (nx (sr (al w 1 12 12) r0 1 (some (nx w))))))))))))))) 1 66 66) r0 8 (some (nx (sr (al (sr (al (sr (al (sr (al (sr (al w 1 12 12) r0 1 (some (nx w))) 1 12 12) r0 2 (some (nx (sr (al w 1 12 12) r0 1 (some (nx w)))))) 1 12 12) r0 3 (some (nx (sr (al (sr (al w 1 12 12) r0 1 (some (nx w))) 1 12 12) r0 2 (some (nx (sr (al w 1 12 12) r0 1 (some (nx w))))))))) 1 66 66) r0 6 (some (nx (sr (al (sr (al (sr (al w 1 12 12) r0 1 (some (nx w))) 1 12 12) r0 2 (some (nx (sr (al w 1 12 12) r0 1 (some (nx w)))))) 1 12 12) r0 3 (some (nx (sr (al (sr (al w 1 12 12) r0 1 (some (nx w))) 1 12 12) r0 2 (some (nx (sr (al w 1 12 12) r0 1 (some (nx w)))))))))))) 1 66 66) r0 7 (some (nx (sr (al (sr (al (sr (al (sr (al w 1 12 12) r0 1 (some (nx w))) 1 12 12) r0 2 (some (nx (sr (al w 1 12 12) r0 1 (some (nx w)))))) 1 12 12) r0 3 (some (nx (sr (al (sr (al w 1 12 12) r0 1 (some (nx w))) 1 12 12) r0 2 (some (nx (sr (al w 1 12 12) r0 1 (some (nx w))))))))) 1 66 66) r0 6 (some (nx (sr (al (sr (al (sr (al w 1 12 12) r0 1 (some (nx w))) 1 12 12) r0 2 (some (nx (sr (al w 1 12 12) r0 1 (some (nx w)))))) 1 12 12) r0 3 (some (nx (sr (al (sr (al w 1 12 12) r0 1 (some (nx w))) 1 12 12) r0 2 (some (nx (sr (al w 1 12 12) r0 1 (some (nx w))))))))))))))))))))) 1 144 144) r0 10 (some (nx (sr (al (sr (al (sr (al (sr (al (sr (al (sr (al (sr (al w 1 12 12) r0 1 (some (nx w))) 1 12 12) r0 2 (some (nx (sr (al w 1 12 12) r0 1 (some (nx w)))))) 1 12 12) r0 3 (some (nx (sr (al (sr (al w 1 12 12) r0 1 (some (nx w))) 1 12 12) r0 2 (some (nx (sr (al w 1 12 12) r0 1 (some (nx w))))))))) 1 66 66) r0 6 (some (nx (sr (al (sr (al (sr (al w 1 12 12) r0 1 (some (nx w))) 1 12 12) r0 2 (some (nx (sr (al w 1 12 12) r0 1 (some (nx w)))))) 1 12 12) r0 3 (some (nx (sr (al (sr (al w 1 12 12) r0 1 (some (nx w))) 1 12 12) r0 2 (some (nx (sr (al w 1 12 12) r0 1 (some (nx w)))))))))))) 1 66 66) r0 7 (some (nx (sr (al (sr (al (sr (al (sr (al w 1 12 12) r0 1 (some (nx w))) 1 12 12) r0 2 (some (nx (sr (al w 1 12 12) r0 1 (some (nx w)))))) 1 12 12) r0 3 (some (nx (sr (al (sr (al w 1 12 12) r0 1 (some (nx w))) 1 12 12) r0 2 (some (nx (sr (al w 1 12 12) r0 1 (some (nx w))))))))) 1 66 66) r0 6 (some (nx (sr (al (sr (al (sr (al w 1 12 12) r0 1 (some (nx w))) 1 12 12) r0 2 (some (nx (sr (al w 1 12 12) r0 1 (some (nx w)))))) 1 12 12) r0 3 (some (nx (sr (al (sr (al w 1 12 12) r0 1 (some (nx w))) 1 12 12) r0 2 (some (nx (sr (al w 1 12 12) r0 1 (some (nx w))))))))))))))) 1 66 66) r0 8 (some (nx (sr (al (sr (al (sr (al (sr (al (sr (al w 1 12 12) r0 1 (some (nx w))) 1 12 12) r0 2 (some (nx (sr (al w 1 12 12) r0 1 (some (nx w)))))) 1 12 12) r0 3 (some (nx (sr (al (sr (al w 1 12 12) r0 1 (some (nx w))) 1 12 12) r0 2 (some (nx (sr (al w 1 12 12) r0 1 (some (nx w))))))))) 1 66 66) r0 6 (some (nx (sr (al (sr (al (sr (al w 1 12 12) r0 1 (some (nx w))) 1 12 12) r0 2 (some (nx (sr (al w 1 12 12) r0 1 (some (nx w)))))) 1 12 12) r0 3 (some (nx (sr (al (sr (al w 1 12 12) r0 1 (some (nx w))) 1 12 12) r0 2 (some (nx (sr (al w 1 12 12) r0 1 (some (nx w)))))))))))) 1 66 66) r0 7 (some (nx (sr (al (sr (al (sr (al (sr (al w 1 12 12) r0 1 (some (nx w))) 1 12 12) r0 2 (some (nx (sr (al w 1 12 12) r0 1 (some (nx w)))))) 1 12 12) r0 3 (some (nx (sr (al (sr (al w 1 12 12) r0 1 (some (nx w))) 1 12 12) r0 2 (some (nx (sr (al w 1 12 12) r0 1 (some (nx w))))))))) 1 66 66) r0 6 (some (nx (sr (al (sr (al (sr (al w 1 12 12) r0 1 (some (nx w))) 1 12 12) r0 2 (some (nx (sr (al w 1 12 12) r0 1 (some (nx w)))))) 1 12 12) r0 3 (some (nx (sr (al (sr (al w 1 12 12) r0 1 (some (nx w))) 1 12 12) r0 2 (some (nx (sr (al w 1 12 12) r0 1 (some (nx w)))))))))))))))))) 1 144 144) r0 9 (some (nx (sr (al (sr (al (sr (al (sr (al (sr (al (sr (al w 1 12 12) r0 1 (some (nx w))) 1 12 12) r0 2 (some (nx (sr (al w 1 12 12) r0 1 (some (nx w)))))) 1 12 12) r0 3 (some (nx (sr (al (sr (al w 1 12 12) r0 1 (some (nx w))) 1 12 12) r0 2 (some (nx (sr (al w 1 12 12) r0 1 (some (nx w))))))))) 1 66 66) r0 6 (some (nx (sr (al (sr (al (sr (al w 1 12 12) r0 1 (some (nx w))) 1 12 12) r0 2 (some (nx (sr (al w 1 12 12) r0 1 (some (nx w)))))) 1 12 12) r0 3 (some (nx (sr (al (sr (al w 1 12 12) r0 1 (some (nx w))) 1 12 12) r0 2 (some (nx (sr (al w 1 12 12) r0 1 (some (nx w)))))))))))) 1 66 66) r0 7 (some (nx (sr (al (sr (al (sr (al (sr (al w 1 12 12) r0 1 (some (nx w))) 1 12 12) r0 2 (some (nx (sr (al w 1 12 12) r0 1 (some (nx w)))))) 1 12 12) r0 3 (some (nx (sr (al (sr (al w 1 12 12) r0 1 (some (nx w))) 1 12 12) r0 2 (some (nx (sr (al w 1 12 12) r0 1 (some (nx w))))))))) 1 66 66) r0 6 (some (nx (sr (al (sr (al (sr (al w 1 12 12) r0 1 (some (nx w))) 1 12 12) r0 2 (some (nx (sr (al w 1 12 12) r0 1 (some (nx w)))))) 1 12 12) r0 3 (some (nx (sr (al (sr (al w 1 12 12) r0 1 (some (nx w))) 1 12 12) r0 2 (some (nx (sr (al w 1 12 12) r0 1 (some (nx w))))))))))))))) 1 66 66) r0 8 (some (nx (sr (al (sr (al (sr (al (sr (al (sr (al w 1 12 12) r0 1 (some (nx w))) 1 12 12) r0 2 (some (nx (sr (al w 1 12 12) r0 1 (some (nx w)))))) 1 12 12) r0 3 (some (nx (sr (al (sr (al w 1 12 12) r0 1 (some (nx w))) 1 12 12) r0 2 (some (nx (sr (al w 1 12 12) r0 1 (some (nx w))))))))) 1 66 66) r0 6 (some (nx (sr (al (sr (al (sr (al w 1 12 12) r0 1 (some (nx w))) 1 12 12) r0 2 (some (nx (sr (al w 1 12 12) r0 1 (some (nx w)))))) 1 12 12) r0 3 (some (nx (sr (al (sr (al w 1 12 12) r0 1 (some (nx w))) 1 12 12) r0 2 (some (nx (sr (al w 1 12 12) r0 1 (some (nx w)))))))))))) 1 66 66) r0 7 (some (nx (sr (al (sr (al (sr (al (sr (al w 1 12 12) r0 1 (some (nx w))) 1 12 12) r0 2 (some (nx (sr (al w 1 12 12) r0 1 (some (nx w)))))) 1 12 12) r0 3 (some (nx (sr (al (sr (al w 1 12 12) r0 1 (some (nx w))) 1 12 12) r0 2 (some (nx (sr (al w 1 12 12) r0 1 (some (nx w))))))))) 1 66 66) r0 6 (some (nx (sr (al (sr (al (sr (al w 1 12 12) r0 1 (some (nx w))) 1 12 12) r0 2 (some (nx (sr (al w 1 12 12) r0 1 (some (nx w)))))) 1 12 12) r0 3 (some (nx (sr (al (sr (al w 1 12 12) r0 1 (some (nx w))) 1 12 12) r0 2 (some (nx (sr (al w 1 12 12) r0 1 (some (nx w)))))))))))))))))))))))) 1 12 12) r0 11 (some (nx (sr (al (sr (al (sr (al (sr (al (sr (al (sr (al (sr (al (sr (al w 1 12 12) r0 1 (some (nx w))) 1 12 12) r0 2 (some (nx (sr (al w 1 12 12) r0 1 (some (nx w)))))) 1 12 12) r0 3 (some (nx (sr (al (sr (al w 1 12 12) r0 1 (some (nx w))) 1 12 12) r0 2 (some (nx (sr (al w 1 12 12) r0 1 (some (nx w))))))))) 1 66 66) r0 6 (some (nx (sr (al (sr (al (sr (al w 1 12 12) r0 1 (some (nx w))) 1 12 12) r0 2 (some (nx (sr (al w 1 12 12) r0 1 (some (nx w)))))) 1 12 12) r0 3 (some (nx (sr (al (sr (al w 1 12 12) r0 1 (some (nx w))) 1 12 12) r0 2 (some (nx (sr (al w 1 12 12) r0 1 (some (nx w)))))))))))) 1 66 66) r0 7 (some (nx (sr (al (sr (al (sr (al (sr (al w 1 12 12) r0 1 (some (nx w))) 1 12 12) r0 2 (some (nx (sr (al w 1 12 12) r0 1 (some (nx w)))))) 1 12 12) r0 3 (some (nx (sr (al (sr (al w 1 12 12) r0 1 (some (nx w))) 1 12 12) r0 2 (some (nx (sr (al w 1 12 12) r0 1 (some (nx w))))))))) 1 66 66) r0 6 (some (nx (sr (al (sr (al (sr (al w 1 12 12) r0 1 (some (nx w))) 1 12 12) r0 2 (some (nx (sr (al w 1 12 12) r0 1 (some (nx w)))))) 1 12 12) r0 3 (some (nx (sr (al (sr (al w 1 12 12) r0 1 (some (nx w))) 1 12 12) r0 2 (some (nx (sr (al w 1 12 12) r0 1 (some (nx w))))))))))))))) 1 66 66) r0 8 (some (nx (sr (al (sr (al (sr (al (sr (al (sr (al w 1 12 12) r0 1 (some (nx w))) 1 12 12) r0 2 (some (nx (sr (al w 1 12 12) r0 1 (some (nx w)))))) 1 12 12) r0 3 (some (nx (sr (al (sr (al w 1 12 12) r0 1 (some (nx w))) 1 12 12) r0 2 (some (nx (sr (al w 1 12 12) r0 1 (some (nx w))))))))) 1 66 66) r0 6 (some (nx (sr (al (sr (al (sr (al w 1 12 12) r0 1 (some (nx w))) 1 12 12) r0 2 (some (nx (sr (al w 1 12 12) r0 1 (some (nx w)))))) 1 12 12) r0 3 (some (nx (sr (al (sr (al w 1 12 12) r0 1 (some (nx w))) 1 12 12) r0 2 (some (nx (sr (al w 1 12 12) r0 1 (some (nx w)))))))))))) 1 66 66) r0 7 (some (nx (sr (al (sr (al (sr (al (sr (al w 1 12 12) r0 1 (some (nx w))) 1 12 12) r0 2 (some (nx (sr (al w 1 12 12) r0 1 (some (nx w)))))) 1 12 12) r0 3 (some (nx (sr (al (sr (al w 1 12 12) r0 1 (some (nx w))) 1 12 12) r0 2 (some (nx (sr (al w 1 12 12) r0 1 (some (nx w))))))))) 1 66 66) r0 6 (some (nx (sr (al (sr (al (sr (al w 1 12 12) r0 1 (some (nx w))) 1 12 12) r0 2 (some (nx (sr (al w 1 12 12) r0 1 (some (nx w)))))) 1 12 12) r0 3 (some (nx (sr (al (sr (al w 1 12 12) r0 1 (some (nx w))) 1 12 12) r0 2 (some (nx (sr (al w 1 12 12) r0 1 (some (nx w)))))))))))))))))) 1 144 144) r0 9 (some (nx (sr (al (sr (al (sr (al (sr (al (sr (al (sr (al w 1 12 12) r0 1 (some (nx w))) 1 12 12) r0 2 (some (nx (sr (al w 1 12 12) r0 1 (some (nx w)))))) 1 12 12) r0 3 (some (nx (sr (al (sr (al w 1 12 12) r0 1 (some (nx w))) 1 12 12) r0 2 (some (nx (sr (al w 1 12 12) r0 1 (some (nx w))))))))) 1 66 66) r0 6 (some (nx (sr (al (sr (al (sr (al w 1 12 12) r0 1 (some (nx w))) 1 12 12) r0 2 (some (nx (sr (al w 1 12 12) r0 1 (some (nx w)))))) 1 12 12) r0 3 (some (nx (sr (al (sr (al w 1 12 12) r0 1 (some (nx w))) 1 12 12) r0 2 (some (nx (sr (al w 1 12 12) r0 1 (some (nx w)))))))))))) 1 66 66) r0 7 (some (nx (sr (al (sr (al (sr (al (sr (al w 1 12 12) r0 1 (some (nx w))) 1 12 12) r0 2 (some (nx (sr (al w 1 12 12) r0 1 (some (nx w)))))) 1 12 12) r0 3 (some (nx (sr (al (sr (al w 1 12 12) r0 1 (some (nx w))) 1 12 12) r0 2 (some (nx (sr (al w 1 12 12) r0 1 (some (nx w))))))))) 1 66 66) r0 6 (some (nx (sr (al (sr (al (sr (al w 1 12 12) r0 1 (some (nx w))) 1 12 12) r0 2 (some (nx (sr (al w 1 12 12) r0 1 (some (nx w)))))) 1 12 12) r0 3 (some (nx (sr (al (sr (al w 1 12 12) r0 1 (some (nx w))) 1 12 12) r0 2 (some (nx (sr (al w 1 12 12) r0 1 (some (nx w))))))))))))))) 1 66 66) r0 8 (some (nx (sr (al (sr (al (sr (al (sr (al (sr (al w 1 12 12) r0 1 (some (nx w))) 1 12 12) r0 2 (some (nx (sr (al w 1 12 12) r0 1 (some (nx w)))))) 1 12 12) r0 3 (some (nx (sr (al (sr (al w 1 12 12) r0 1 (some (nx w))) 1 12 12) r0 2 (some (nx (sr (al w 1 12 12) r0 1 (some (nx w))))))))) 1 66 66) r0 6 (some (nx (sr (al (sr (al (sr (al w 1 12 12) r0 1 (some (nx w))) 1 12 12) r0 2 (some (nx (sr (al w 1 12 12) r0 1 (some (nx w)))))) 1 12 12) r0 3 (some (nx (sr (al (sr (al w 1 12 12) r0 1 (some (nx w))) 1 12 12) r0 2 (some (nx (sr (al w 1 12 12) r0 1 (some (nx w)))))))))))) 1 66 66) r0 7 (some (nx (sr (al (sr (al (sr (al (sr (al w 1 12 12) r0 1 (some (nx w))) 1 12 12) r0 2 (some (nx (sr (al w 1 12 12) r0 1 (some (nx w)))))) 1 12 12) r0 3 (some (nx (sr (al (sr (al w 1 12 12) r0 1 (some (nx w))) 1 12 12) r0 2 (some (nx (sr (al w 1 12 12) r0 1 (some (nx w))))))))) 1 66 66) r0 6 (some (nx (sr (al (sr (al (sr (al w 1 12 12) r0 1 (some (nx w))) 1 12 12) r0 2 (some (nx (sr (al w 1 12 12) r0 1 (some (nx w)))))) 1 12 12) r0 3 (some (nx (sr (al (sr (al w 1 12 12) r0 1 (some (nx w))) 1 12 12) r0 2 (some (nx (sr (al w 1 12 12) r0 1 (some (nx w))))))))))))))))))))) 1 144 144) r0 10 (some (nx (sr (al (sr (al (sr (al (sr (al (sr (al (sr (al (sr (al w 1 12 12) r0 1 (some (nx w))) 1 12 12) r0 2 (some (nx (sr (al w 1 12 12) r0 1 (some (nx w)))))) 1 12 12) r0 3 (some (nx (sr (al (sr (al w 1 12 12) r0 1 (some (nx w))) 1 12 12) r0 2 (some (nx (sr (al w 1 12 12) r0 1 (some (nx w))))))))) 1 66 66) r0 6 (some (nx (sr (al (sr (al (sr (al w 1 12 12) r0 1 (some (nx w))) 1 12 12) r0 2 (some (nx (sr (al w 1 12 12) r0 1 (some (nx w)))))) 1 12 12) r0 3 (some (nx (sr (al (sr (al w 1 12 12) r0 1 (some (nx w))) 1 12 12) r0 2 (some (nx (sr (al w 1 12 12) r0 1 (some (nx w)))))))))))) 1 66 66) r0 7 (some (nx (sr (al (sr (al (sr (al (sr (al w 1 12 12) r0 1 (some (nx w))) 1 12 12) r0 2 (some (nx (sr (al w 1 12 12) r0 1 (some (nx w)))))) 1 12 12) r0 3 (some (nx (sr (al (sr (al w 1 12 12) r0 1 (some (nx w))) 1 12 12) r0 2 (some (nx (sr (al w 1 12 12) r0 1 (some (nx w))))))))) 1 66 66) r0 6 (some (nx (sr (al (sr (al (sr (al w 1 12 12) r0 1 (some (nx w))) 1 12 12) r0 2 (some (nx (sr (al w 1 12 12) r0 1 (some (nx w)))))) 1 12 12) r0 3 (some (nx (sr (al (sr (al w 1 12 12) r0 1 (some (nx w))) 1 12 12) r0 2 (some (nx (sr (al w 1 12 12) r0 1 (some (nx w))))))))))))))) 1 66 66) r0 8 (some (nx (sr (al (sr (al (sr (al (sr (al (sr (al w 1 12 12) r0 1 (some (nx w))) 1 12 12) r0 2 (some (nx (sr (al w 1 12 12) r0 1 (some (nx w)))))) 1 12 12) r0 3 (some (nx (sr (al (sr (al w 1 12 12) r0 1 (some (nx w))) 1 12 12) r0 2 (some (nx (sr (al w 1 12 12) r0 1 (some (nx w))))))))) 1 66 66) r0 6 (some (nx (sr (al (sr (al (sr (al w 1 12 12) r0 1 (some (nx w))) 1 12 12) r0 2 (some (nx (sr (al w 1 12 12) r0 1 (some (nx w)))))) 1 12 12) r0 3 (some (nx (sr (al (sr (al w 1 12 12) r0 1 (some (nx w))) 1 12 12) r0 2 (some (nx (sr (al w 1 12 12) r0 1 (some (nx w)))))))))))) 1 66 66) r0 7 (some (nx (sr (al (sr (al (sr (al (sr (al w 1 12 12) r0 1 (some (nx w))) 1 12 12) r0 2 (some (nx (sr (al w 1 12 12) r0 1 (some (nx w)))))) 1 12 12) r0 3 (some (nx (sr (al (sr (al w 1 12 12) r0 1 (some (nx w))) 1 12 12) r0 2 (some (nx (sr (al w 1 12 12) r0 1 (some (nx w))))))))) 1 66 66) r0 6 (some (nx (sr (al (sr (al (sr (al w 1 12 12) r0 1 (some (nx w))) 1 12 12) r0 2 (some (nx (sr (al w 1 12 12) r0 1 (some (nx w)))))) 1 12 12) r0 3 (some (nx (sr (al (sr (al w 1 12 12) r0 1 (some (nx w))) 1 12 12) r0 2 (some (nx (sr (al w 1 12 12) r0 1 (some (nx w)))))))))))))))))) 1 144 144) r0 9 (some (nx (sr (al (sr (al (sr (al (sr (al (sr (al (sr (al w 1 12 12) r0 1 (some (nx w))) 1 12 12) r0 2 (some (nx (sr (al w 1 12 12) r0 1 (some (nx w)))))) 1 12 12) r0 3 (some (nx (sr (al (sr (al w 1 12 12) r0 1 (some (nx w))) 1 12 12) r0 2 (some (nx (sr (al w 1 12 12) r0 1 (some (nx w))))))))) 1 66 66) r0 6 (some (nx (sr (al (sr (al (sr (al w 1 12 12) r0 1 (some (nx w))) 1 12 12) r0 2 (some (nx (sr (al w 1 12 12) r0 1 (some (nx w)))))) 1 12 12) r0 3 (some (nx (sr (al (sr (al w 1 12 12) r0 1 (some (nx w))) 1 12 12) r0 2 (some (nx (sr (al w 1 12 12) r0 1 (some (nx w)))))))))))) 1 66 66) r0 7 (some (nx (sr (al (sr (al (sr (al (sr (al w 1 12 12) r0 1 (some (nx w))) 1 12 12) r0 2 (some (nx (sr (al w 1 12 12) r0 1 (some (nx w)))))) 1 12 12) r0 3 (some (nx (sr (al (sr (al w 1 12 12) r0 1 (some (nx w))) 1 12 12) r0 2 (some (nx (sr (al w 1 12 12) r0 1 (some (nx w))))))))) 1 66 66) r0 6 (some (nx (sr (al (sr (al (sr (al w 1 12 12) r0 1 (some (nx w))) 1 12 12) r0 2 (some (nx (sr (al w 1 12 12) r0 1 (some (nx w)))))) 1 12 12) r0 3 (some (nx (sr (al (sr (al w 1 12 12) r0 1 (some (nx w))) 1 12 12) r0 2 (some (nx (sr (al w 1 12 12) r0 1 (some (nx w))))))))))))))) 1 66 66) r0 8 (some (nx (sr (al (sr (al (sr (al (sr (al (sr (al w 1 12 12) r0 1 (some (nx w))) 1 12 12) r0 2 (some (nx (sr (al w 1 12 12) r0 1 (some (nx w)))))) 1 12 12) r0 3 (some (nx (sr (al (sr (al w 1 12 12) r0 1 (some (nx w))) 1 12 12) r0 2 (some (nx (sr (al w 1 12 12) r0 1 (some (nx w))))))))) 1 66 66) r0 6 (some (nx (sr (al (sr (al (sr (al w 1 12 12) r0 1 (some (nx w))) 1 12 12) r0 2 (some (nx (sr (al w 1 12 12) r0 1 (some (nx w)))))) 1 12 12) r0 3 (some (nx (sr (al (sr (al w 1 12 12) r0 1 (some (nx w))) 1 12 12) r0 2 (some (nx (sr (al w 1 12 12) r0 1 (some (nx w)))))))))))) 1 66 66) r0 7 (some (nx (sr (al (sr (al (sr (al (sr (al w 1 12 12) r0 1 (some (nx w))) 1 12 12) r0 2 (some (nx (sr (al w 1 12 12) r0 1 (some (nx w)))))) 1 12 12) r0 3 (some (nx (sr (al (sr (al w 1 12 12) r0 1 (some (nx w))) 1 12 12) r0 2 (some (nx (sr (al w 1 12 12) r0 1 (some (nx w))))))))) 1 66 66) r0 6 (some (nx (sr (al (sr (al (sr (al w 1 12 12) r0 1 (some (nx w))) 1 12 12) r0 2 (some (nx (sr (al w 1 12 12) r0 1 (some (nx w)))))) 1 12 12) r0 3 (some (nx (sr (al (sr (al w 1 12 12) r0 1 (some (nx w))) 1 12 12) r0 2 (some (nx (sr (al w 1 12 12) r0 1 (some (nx w)))))))))))))))))))))))))))))))))))) := (show R X d 53 0 [some (.inr r0)] [] w = _ from p_aload_n (q := 1) rfl rfl rfl (p_objinit (q := 4) rfl rfl (Nat.le_of_ble_eq_true rfl) rfl (p_aload_n (q := 5) rfl rfl rfl (p_bipush (q := 7) (z := 12) rfl (by decide) rfl (p_newi (q := 9) rfl (by decide) rfl (p_putr (q := 12) rfl rfl rfl rfl (p_aload_n (q := 13) rfl rfl rfl (p_bipush (q := 15) (z := 12) rfl (by decide) rfl (p_newi (q := 17) rfl (by decide) rfl (p_putr (q := 20) rfl rfl rfl rfl (p_aload_n (q := 21) rfl rfl rfl (p_bipush (q := 23) (z := 12) rfl (by decide) rfl (p_newi (q := 25) rfl (by decide) rfl (p_putr (q := 28) rfl rfl rfl rfl (p_aload_n (q := 29) rfl rfl rfl (p_bipush (q := 31) (z := 66) rfl (by decide) rfl (p_newi (q := 33) rfl (by decide) rfl (p_putr (q := 36) rfl rfl rfl rfl (p_aload_n (q := 37) rfl rfl rfl (p_bipush (q := 39) (z := 66) rfl (by decide) rfl (p_newi (q := 41) rfl (by decide) rfl (p_putr (q := 44) rfl rfl rfl rfl (p_aload_n (q := 45) rfl rfl rfl (p_bipush (q := 47) (z := 66) rfl (by decide) rfl (p_newi (q := 49) rfl (by decide) rfl (p_putr (q := 52) rfl rfl rfl rfl (p_aload_n (q := 53) rfl rfl rfl (p_sipush (q := 56) (z := 144) rfl (by decide) rfl (p_newi (q := 58) rfl (by decide) rfl (p_putr (q := 61) rfl rfl rfl rfl (p_aload_n (q := 62) rfl rfl rfl (p_sipush (q := 65) (z := 144) rfl (by decide) rfl (p_newi (q := 67) rfl (by decide) rfl (p_putr (q := 70) rfl rfl rfl rfl (p_aload_n (q := 71) rfl rfl rfl (p_bipush (q := 73) (z := 12) rfl (by decide) rfl (p_newi (q := 75) rfl (by decide) rfl (p_putr (q := 78) rfl rfl rfl rfl (p_vret rfl)))))))))))))))))))))))))))))))))))))))
/-- Weights.find, from 0 -/
theorem b54_0 (X : Nat × (Nat → Int)) (d : Nat) (r0 : Nat) (r1 : Nat) (l2 : Int) (w : MW) : run X (d + 1) 54 [.inr r0, .inr r1, .inl l2] w = gd (kd w r1 = 13) (gd (kd w r0 = 15) (gd (kd (si w r0 4 (gi w r1 0)) r0 = 15) (rV (run X d 55 [.inr r0, .inr r1] (si w r0 4 (gi w r1 0))) fun w1 => gd (kd w1 r0 = 15) (rV (run X d 56 [.inr r0, .inl l2] w1) fun w2 => gd (kd w2 r0 = 15) (rI (run X d 57 [.inr r0, .inl 0] w2) fun v3 w3 => if v3 = 0 then (R X (d + 1) 54 32 [some (.inr r0), none, some (.inl l2), none] [.inl 0, .inr r0] w3) else (R X (d + 1) 54 32 [some (.inr r0), none, some (.inl l2), none] [.inl 1, .inr r0] w3)))))) := (show R X (d + 1) 54 0 [some (.inr r0), some (.inr r1), some (.inl l2), none] [] w = _ from p_aload_n (q := 1) rfl rfl rfl (p_aload_n (q := 2) rfl rfl rfl (p_getf (q := 5) rfl rfl rfl rfl (p_putf (q := 8) rfl rfl rfl rfl (p_aload_n (q := 9) rfl rfl rfl (p_aload_n (q := 10) rfl rfl rfl (p_callVv (q := 13) (s2 := []) rfl rfl rfl rfl rfl rfl rfl (fun w1 => p_aload_n (q := 14) rfl rfl rfl (p_iload_n (q := 15) rfl rfl rfl (p_callVv (q := 18) (s2 := []) rfl rfl rfl rfl rfl rfl rfl (fun w2 => p_aload_n (q := 19) rfl rfl rfl (p_aload_n (q := 20) rfl rfl rfl (p_iconst (q := 21) (z := 0) rfl (by decide) rfl (p_callVi (q := 24) (s2 := [.inr r0]) rfl rfl rfl rfl rfl rfl rfl (fun v3 w3 => p_if_eq (q := 31) (q2 := 27) (off := 7) rfl (by decide) rfl rfl (p_iconst (q := 32) (z := 0) rfl (by decide) rfl (q_kill rfl rfl rfl rfl)) (p_iconst (q := 28) (z := 1) rfl (by decide) rfl (p_goto (q := 32) (off := 4) rfl (by decide) rfl (q_kill rfl rfl rfl rfl))))))))))))))))))
/-- Weights.find, from 32 -/
theorem b54_32 (X : Nat × (Nat → Int)) (d : Nat) (r0 : Nat) (l2 : Int) (t0 : Int) (p1 : Nat) (w : MW) : R X (d + 1) 54 32 [some (.inr r0), none, some (.inl l2), none] [.inl t0, .inr p1] w = gd (kd w p1 = 15) (gd (kd (si w p1 0 t0) r0 = 15) (if (gi (si w p1 0 t0) r0 0) ≠ 0 then (gd (kd (si w p1 0 t0) r0 = 15) (rV (run X d 62 [.inr r0] (si w p1 0 t0)) fun w1 => R X (d + 1) 54 49 [some (.inr r0), none, some (.inl l2), some (.inl 0)] [] w1)) else (some (none, si w p1 0 t0)))) := q_putf (q := 35) (L1 := [some (.inr r0), none, some (.inl l2), none]) rfl rfl rfl rfl rfl (p_aload_n (q := 36) rfl rfl rfl (p_getf (q := 39) rfl rfl rfl rfl (p_if_ne (q := 43) (q2 := 42) (off := 4) rfl (by decide) rfl rfl (p_aload_n (q := 44) rfl rfl rfl (p_callVv (q := 47) (s2 := []) rfl rfl rfl rfl rfl rfl rfl (fun w1 => p_iconst (q := 48) (z := 0) rfl (by decide) rfl (p_istore_n (q := 49) (L2 := [some (.inr r0), none, some (.inl l2), some (.inl 0)]) rfl rfl rfl rfl (rfl))))) (p_vret rfl))))
/-- Weights.find, from 49 -/
theorem b54_49 (X : Nat × (Nat → Int)) (d : Nat) (r0 : Nat) (l2 : Int) (l3 : Int) (w : MW) : R X (d + 1) 54 49 [some (.inr r0), none, some (.inl l2), some (.inl l3)] [] w = gd (kd w r0 = 15) (if (gi w r0 4) ≤ l3 then (R X (d + 1) 54 71 [some (.inr r0), none, none, some (.inl 0)] [] w) else (gd (kd w r0 = 15) (rV (run X d 64 [.inr r0, .inl l3, .inl l2] w) fun w1 => R X (d + 1) 54 49 [some (.inr r0), none, some (.inl l2), some (.inl (wrap (l3 + 1)))] [] w1))) := q_iload_n (q := 50) (L1 := [some (.inr r0), none, some (.inl l2), some (.inl l3)]) rfl rfl rfl rfl (p_aload_n (q := 51) rfl rfl rfl (p_getf (q := 54) rfl rfl rfl rfl (p_icmp_ge (q := 69) (q2 := 57) (off := 15) rfl (by decide) rfl rfl (p_iconst (q := 70) (z := 0) rfl (by decide) rfl (p_istore_n (q := 71) (L2 := [some (.inr r0), none, some (.inl l2), some (.inl 0)]) rfl rfl rfl rfl (q_kill rfl rfl rfl rfl))) (p_aload_n (q := 58) rfl rfl rfl (p_iload_n (q := 59) rfl rfl rfl (p_iload_n (q := 60) rfl rfl rfl (p_callVv (q := 63) (s2 := []) rfl rfl rfl rfl rfl rfl rfl (fun w1 => p_iinc (q := 66) (z := 1) (L2 := [some (.inr r0), none, some (.inl l2), some (.inl (wrap (l3 + 1)))]) rfl rfl (by decide) rfl rfl (p_goto (q := 49) (off := (-17)) rfl (by decide) rfl (rfl))))))))))
/-- Weights.find, from 71 -/
theorem b54_71 (X : Nat × (Nat → Int)) (d : Nat) (r0 : Nat) (l3 : Int) (w : MW) : R X (d + 1) 54 71 [some (.inr r0), none, none, some (.inl l3)] [] w = gd (kd w r0 = 15) (if (gi w r0 4) ≤ l3 then (some (none, w)) else (gd (kd w r0 = 15) (if (gi w r0 0) ≤ 0 then (some (none, w)) else (gd (kd w r0 = 15) (rO (gr w r0 11) fun b1 => gd (kd w b1 = 1 ∧ 0 ≤ l3 ∧ l3 < ln w b1) (if (gi w b1 (Int.toNat (l3))) ≠ l3 then (R X (d + 1) 54 71 [some (.inr r0), none, none, some (.inl (wrap (l3 + 1)))] [] w) else (gd (kd w r0 = 15) (gd (kd (si w r0 12 0) r0 = 15) (rV (run X d 65 [.inr r0, .inl l3, .inl 0] (si w r0 12 0)) fun w2 => gd (kd w2 r0 = 15) (gd (kd w2 r0 = 15) (gd (kd w2 r0 = 15) (R X (d + 1) 54 71 [some (.inr r0), none, none, some (.inl (wrap (l3 + 1)))] [] (si w2 r0 0 (minI 1000 (wrap ((gi w2 r0 0) * (minI 1000 (gi w2 r0 12)))))))))))))))))) := q_iload_n (q := 72) (L1 := [some (.inr r0), none, none, some (.inl l3)]) rfl rfl rfl rfl (p_aload_n (q := 73) rfl rfl rfl (p_getf (q := 76) rfl rfl rfl rfl (p_icmp_ge (q := 138) (q2 := 79) (off := 62) rfl (by decide) rfl rfl (p_vret rfl) (p_aload_n (q := 80) rfl rfl rfl (p_getf (q := 83) rfl rfl rfl rfl (p_if_le (q := 138) (q2 := 86) (off := 55) rfl (by decide) rfl rfl (p_vret rfl) (p_aload_n (q := 87) rfl rfl rfl (p_getr (q := 90) rfl rfl rfl rfl (fun b1 => p_iload_n (q := 91) rfl rfl rfl (p_iald (q := 92) rfl rfl rfl (p_iload_n (q := 93) rfl rfl rfl (p_icmp_ne (q := 132) (q2 := 96) (off := 39) rfl (by decide) rfl rfl (p_iinc (q := 135) (z := 1) (L2 := [some (.inr r0), none, none, some (.inl (wrap (l3 + 1)))]) rfl rfl (by decide) rfl rfl (p_goto (q := 71) (off := (-64)) rfl (by decide) rfl (rfl))) (p_aload_n (q := 97) rfl rfl rfl (p_iconst (q := 98) (z := 0) rfl (by decide) rfl (p_putf (q := 101) rfl rfl rfl rfl (p_aload_n (q := 102) rfl rfl rfl (p_iload_n (q := 103) rfl rfl rfl (p_iconst (q := 104) (z := 0) rfl (by decide) rfl (p_callVv (q := 107) (s2 := []) rfl rfl rfl rfl rfl rfl rfl (fun w2 => p_aload_n (q := 108) rfl rfl rfl (p_sipush (q := 111) (z := 1000) rfl (by decide) rfl (p_aload_n (q := 112) rfl rfl rfl (p_getf (q := 115) rfl rfl rfl rfl (p_sipush (q := 118) (z := 1000) rfl (by decide) rfl (p_aload_n (q := 119) rfl rfl rfl (p_getf (q := 122) rfl rfl rfl rfl (p_min (q := 125) rfl rfl (Nat.le_of_ble_eq_true rfl) rfl (p_imul (q := 126) rfl rfl (p_min (q := 129) rfl rfl (Nat.le_of_ble_eq_true rfl) rfl (p_putf (q := 132) rfl rfl rfl rfl (p_iinc (q := 135) (z := 1) (L2 := [some (.inr r0), none, none, some (.inl (wrap (l3 + 1)))]) rfl rfl (by decide) rfl rfl (p_goto (q := 71) (off := (-64)) rfl (by decide) rfl (rfl)))))))))))))))))))))))))))))))))
/-- Weights.gatherPairs, from 0 -/
theorem b55_0 (X : Nat × (Nat → Int)) (d : Nat) (r0 : Nat) (r1 : Nat) (w : MW) : run X (d + 1) 55 [.inr r0, .inr r1] w = gd (kd w r0 = 15) (R X (d + 1) 55 7 [some (.inr r0), some (.inr r1), some (.inl 1), none, none] [] (si w r0 5 0)) := (show R X (d + 1) 55 0 [some (.inr r0), some (.inr r1), none, none, none] [] w = _ from p_aload_n (q := 1) rfl rfl rfl (p_iconst (q := 2) (z := 0) rfl (by decide) rfl (p_putf (q := 5) rfl rfl rfl rfl (p_iconst (q := 6) (z := 1) rfl (by decide) rfl (p_istore_n (q := 7) (L2 := [some (.inr r0), some (.inr r1), some (.inl 1), none, none]) rfl rfl rfl rfl (rfl))))))
/-- Weights.gatherPairs, from 7 -/
theorem b55_7 (X : Nat × (Nat → Int)) (d : Nat) (r0 : Nat) (r1 : Nat) (l2 : Int) (w : MW) : R X (d + 1) 55 7 [some (.inr r0), some (.inr r1), some (.inl l2), none, none] [] w = gd (kd w r0 = 15) (if (gi w r0 4) ≤ l2 then (some (none, w)) else (R X (d + 1) 55 17 [some (.inr r0), some (.inr r1), some (.inl l2), some (.inl l2), none] [] w)) := q_iload_n (q := 8) (L1 := [some (.inr r0), some (.inr r1), some (.inl l2), none, none]) rfl rfl rfl rfl (p_aload_n (q := 9) rfl rfl rfl (p_getf (q := 12) rfl rfl rfl rfl (p_icmp_ge (q := 102) (q2 := 15) (off := 90) rfl (by decide) rfl rfl (p_vret rfl) (p_iload_n (q := 16) rfl rfl rfl (p_istore_n (q := 17) (L2 := [some (.inr r0), some (.inr r1), some (.inl l2), some (.inl l2), none]) rfl rfl rfl rfl (rfl))))))
/-- Weights.gatherPairs, from 17 -/
theorem b55_17 (X : Nat × (Nat → Int)) (d : Nat) (r0 : Nat) (r1 : Nat) (l2 : Int) (l3 : Int) (w : MW) : R X (d + 1) 55 17 [some (.inr r0), some (.inr r1), some (.inl l2), some (.inl l3), none] [] w = gd (kd w r0 = 15) (if (gi w r0 4) ≤ l3 then (R X (d + 1) 55 7 [some (.inr r0), some (.inr r1), some (.inl (wrap (l2 + 1))), none, none] [] w) else (gd (kd w r1 = 13) (rI (run X d 25 [.inr r1, .inl l2, .inl l3] w) fun v1 w1 => if v1 = (12 : Int) then (R X (d + 1) 55 17 [some (.inr r0), some (.inr r1), some (.inl l2), some (.inl (wrap (l3 + 1))), none] [] w1) else (gd (kd w1 r0 = 15) (if (66 : Int) ≤ (gi w1 r0 5) then (R X (d + 1) 55 17 [some (.inr r0), some (.inr r1), some (.inl l2), some (.inl (wrap (l3 + 1))), none] [] w1) else (gd (kd w1 r0 = 15) (rO (gr w1 r0 6) fun b2 => gd (kd w1 r0 = 15) (gd (kd w1 b2 = 1 ∧ 0 ≤ (gi w1 r0 5) ∧ (gi w1 r0 5) < ln w1 b2) (gd (kd (si w1 b2 (Int.toNat (gi w1 r0 5)) l2) r0 = 15) (rO (gr (si w1 b2 (Int.toNat (gi w1 r0 5)) l2) r0 7) fun b3 => gd (kd (si w1 b2 (Int.toNat (gi w1 r0 5)) l2) r0 = 15) (gd (kd (si w1 b2 (Int.toNat (gi w1 r0 5)) l2) b3 = 1 ∧ 0 ≤ (gi (si w1 b2 (Int.toNat (gi w1 r0 5)) l2) r0 5) ∧ (gi (si w1 b2 (Int.toNat (gi w1 r0 5)) l2) r0 5) < ln (si w1 b2 (Int.toNat (gi w1 r0 5)) l2) b3) (gd (kd (si (si w1 b2 (Int.toNat (gi w1 r0 5)) l2) b3 (Int.toNat (gi (si w1 b2 (Int.toNat (gi w1 r0 5)) l2) r0 5)) l3) r0 = 15) (rO (gr (si (si w1 b2 (Int.toNat (gi w1 r0 5)) l2) b3 (Int.toNat (gi (si w1 b2 (Int.toNat (gi w1 r0 5)) l2) r0 5)) l3) r0 8) fun b4 => gd (kd (si (si w1 b2 (Int.toNat (gi w1 r0 5)) l2) b3 (Int.toNat (gi (si w1 b2 (Int.toNat (gi w1 r0 5)) l2) r0 5)) l3) r0 = 15) (gd (kd (si (si w1 b2 (Int.toNat (gi w1 r0 5)) l2) b3 (Int.toNat (gi (si w1 b2 (Int.toNat (gi w1 r0 5)) l2) r0 5)) l3) b4 = 1 ∧ 0 ≤ (gi (si (si w1 b2 (Int.toNat (gi w1 r0 5)) l2) b3 (Int.toNat (gi (si w1 b2 (Int.toNat (gi w1 r0 5)) l2) r0 5)) l3) r0 5) ∧ (gi (si (si w1 b2 (Int.toNat (gi w1 r0 5)) l2) b3 (Int.toNat (gi (si w1 b2 (Int.toNat (gi w1 r0 5)) l2) r0 5)) l3) r0 5) < ln (si (si w1 b2 (Int.toNat (gi w1 r0 5)) l2) b3 (Int.toNat (gi (si w1 b2 (Int.toNat (gi w1 r0 5)) l2) r0 5)) l3) b4) (gd (kd (si (si (si w1 b2 (Int.toNat (gi w1 r0 5)) l2) b3 (Int.toNat (gi (si w1 b2 (Int.toNat (gi w1 r0 5)) l2) r0 5)) l3) b4 (Int.toNat (gi (si (si w1 b2 (Int.toNat (gi w1 r0 5)) l2) b3 (Int.toNat (gi (si w1 b2 (Int.toNat (gi w1 r0 5)) l2) r0 5)) l3) r0 5)) v1) r0 = 15) (gd (kd (si (si (si w1 b2 (Int.toNat (gi w1 r0 5)) l2) b3 (Int.toNat (gi (si w1 b2 (Int.toNat (gi w1 r0 5)) l2) r0 5)) l3) b4 (Int.toNat (gi (si (si w1 b2 (Int.toNat (gi w1 r0 5)) l2) b3 (Int.toNat (gi (si w1 b2 (Int.toNat (gi w1 r0 5)) l2) r0 5)) l3) r0 5)) v1) r0 = 15) (R X (d + 1) 55 17 [some (.inr r0), some (.inr r1), some (.inl l2), some (.inl (wrap (l3 + 1))), none] [] (si (si (si (si w1 b2 (Int.toNat (gi w1 r0 5)) l2) b3 (Int.toNat (gi (si w1 b2 (Int.toNat (gi w1 r0 5)) l2) r0 5)) l3) b4 (Int.toNat (gi (si (si w1 b2 (Int.toNat (gi w1 r0 5)) l2) b3 (Int.toNat (gi (si w1 b2 (Int.toNat (gi w1 r0 5)) l2) r0 5)) l3) r0 5)) v1) r0 5 (wrap ((gi (si (si (si w1 b2 (Int.toNat (gi w1 r0 5)) l2) b3 (Int.toNat (gi (si w1 b2 (Int.toNat (gi w1 r0 5)) l2) r0 5)) l3) b4 (Int.toNat (gi (si (si w1 b2 (Int.toNat (gi w1 r0 5)) l2) b3 (Int.toNat (gi (si w1 b2 (Int.toNat (gi w1 r0 5)) l2) r0 5)) l3) r0 5)) v1) r0 5) + 1)))))))))))))))))))) := q_iload_n (q := 18) (L1 := [some (.inr r0), some (.inr r1), some (.inl l2), some (.inl l3), none]) rfl rfl rfl rfl (p_aload_n (q := 19) rfl rfl rfl (p_getf (q := 22) rfl rfl rfl rfl (p_icmp_ge (q := 96) (q2 := 25) (off := 74) rfl (by decide) rfl rfl (p_iinc (q := 99) (z := 1) (L2 := [some (.inr r0), some (.inr r1), some (.inl (wrap (l2 + 1))), some (.inl l3), none]) rfl rfl (by decide) rfl rfl (p_goto (q := 7) (off := (-92)) rfl (by decide) rfl (q_kill rfl rfl rfl rfl))) (p_aload_n (q := 26) rfl rfl rfl (p_iload_n (q := 27) rfl rfl rfl (p_iload_n (q := 28) rfl rfl rfl (p_callVi (q := 31) (s2 := []) rfl rfl rfl rfl rfl rfl rfl (fun v1 w1 => p_istore (q := 33) (L2 := [some (.inr r0), some (.inr r1), some (.inl l2), some (.inl l3), some (.inl v1)]) rfl rfl rfl rfl (p_iload (q := 35) rfl rfl rfl (p_bipush (q := 37) (z := 12) rfl (by decide) rfl (p_icmp_eq (q := 90) (q2 := 40) (off := 53) rfl (by decide) rfl rfl (p_iinc (q := 93) (z := 1) (L2 := [some (.inr r0), some (.inr r1), some (.inl l2), some (.inl (wrap (l3 + 1))), some (.inl v1)]) rfl rfl (by decide) rfl rfl (p_goto (q := 17) (off := (-76)) rfl (by decide) rfl (q_kill rfl rfl rfl rfl))) (p_aload_n (q := 41) rfl rfl rfl (p_getf (q := 44) rfl rfl rfl rfl (p_bipush (q := 46) (z := 66) rfl (by decide) rfl (p_icmp_ge (q := 90) (q2 := 49) (off := 44) rfl (by decide) rfl rfl (p_iinc (q := 93) (z := 1) (L2 := [some (.inr r0), some (.inr r1), some (.inl l2), some (.inl (wrap (l3 + 1))), some (.inl v1)]) rfl rfl (by decide) rfl rfl (p_goto (q := 17) (off := (-76)) rfl (by decide) rfl (q_kill rfl rfl rfl rfl))) (p_aload_n (q := 50) rfl rfl rfl (p_getr (q := 53) rfl rfl rfl rfl (fun b2 => p_aload_n (q := 54) rfl rfl rfl (p_getf (q := 57) rfl rfl rfl rfl (p_iload_n (q := 58) rfl rfl rfl (p_iast (q := 59) rfl rfl (p_aload_n (q := 60) rfl rfl rfl (p_getr (q := 63) rfl rfl rfl rfl (fun b3 => p_aload_n (q := 64) rfl rfl rfl (p_getf (q := 67) rfl rfl rfl rfl (p_iload_n (q := 68) rfl rfl rfl (p_iast (q := 69) rfl rfl (p_aload_n (q := 70) rfl rfl rfl (p_getr (q := 73) rfl rfl rfl rfl (fun b4 => p_aload_n (q := 74) rfl rfl rfl (p_getf (q := 77) rfl rfl rfl rfl (p_iload (q := 79) rfl rfl rfl (p_iast (q := 80) rfl rfl (p_aload_n (q := 81) rfl rfl rfl (p_dup (q := 82) rfl rfl (p_getf (q := 85) rfl rfl rfl rfl (p_iconst (q := 86) (z := 1) rfl (by decide) rfl (p_iadd (q := 87) rfl rfl (p_putf (q := 90) rfl rfl rfl rfl (p_iinc (q := 93) (z := 1) (L2 := [some (.inr r0), some (.inr r1), some (.inl l2), some (.inl (wrap (l3 + 1))), some (.inl v1)]) rfl rfl (by decide) rfl rfl (p_goto (q := 17) (off := (-76)) rfl (by decide) rfl (q_kill rfl rfl rfl rfl))))))))))))))))))))))))))))))))))))))))))
/-- Weights.setFirstRanges, from 0 -/
theorem b56_0 (X : Nat × (Nat → Int)) (d : Nat) (r0 : Nat) (l1 : Int) (w : MW) : run X d 56 [.inr r0, .inl l1] w = R X d 56 2 [some (.inr r0), some (.inl l1), some (.inl 0)] [] w := (show R X d 56 0 [some (.inr r0), some (.inl l1), none] [] w = _ from p_iconst (q := 1) (z := 0) rfl (by decide) rfl (p_istore_n (q := 2) (L2 := [some (.inr r0), some (.inl l1), some (.inl 0)]) rfl rfl rfl rfl (rfl)))
/-- Weights.setFirstRanges, from 2 -/
theorem b56_2 (X : Nat × (Nat → Int)) (d : Nat) (r0 : Nat) (l1 : Int) (l2 : Int) (w : MW) : R X d 56 2 [some (.inr r0), some (.inl l1), some (.inl l2)] [] w = gd (kd w r0 = 15) (if (gi w r0 4) ≤ l2 then (gd (kd w r0 = 15) (rO (gr w r0 10) fun b1 => gd (kd w b1 = 1 ∧ 0 ≤ (0 : Int) ∧ (0 : Int) < ln w b1) (gd (kd (si w b1 (Int.toNat (0)) (0 : Int)) r0 = 15) (rO (gr (si w b1 (Int.toNat (0)) (0 : Int)) r0 9) fun b2 => gd (kd (si w b1 (Int.toNat (0)) (0 : Int)) b2 = 1 ∧ 0 ≤ (1 : Int) ∧ (1 : Int) < ln (si w b1 (Int.toNat (0)) (0 : Int)) b2) (R X d 56 46 [some (.inr r0), none, some (.inl 0)] [] (si (si w b1 (Int.toNat (0)) (0 : Int)) b2 (Int.toNat (1)) l1)))))) else (gd (kd w r0 = 15) (rO (gr w r0 9) fun b3 => gd (kd w b3 = 1 ∧ 0 ≤ l2 ∧ l2 < ln w b3) (gd (kd (si w b3 (Int.toNat (l2)) (0 : Int)) r0 = 15) (rO (gr (si w b3 (Int.toNat (l2)) (0 : Int)) r0 10) fun b4 => gd (kd (si w b3 (Int.toNat (l2)) (0 : Int)) b4 = 1 ∧ 0 ≤ l2 ∧ l2 < ln (si w b3 (Int.toNat (l2)) (0 : Int)) b4) (R X d 56 2 [some (.inr r0), some (.inl l1), some (.inl (wrap (l2 + 1)))] [] (si (si w b3 (Int.toNat (l2)) (0 : Int)) b4 (Int.toNat (l2)) l1))))))) := p_iload_n (q := 3) rfl rfl rfl (p_aload_n (q := 4) rfl rfl rfl (p_getf (q := 7) rfl rfl rfl rfl (p_icmp_ge (q := 30) (q2 := 10) (off := 23) rfl (by decide) rfl rfl (p_aload_n (q := 31) rfl rfl rfl (p_getr (q := 34) rfl rfl rfl rfl (fun b1 => p_iconst (q := 35) (z := 0) rfl (by decide) rfl (p_iconst (q := 36) (z := 0) rfl (by decide) rfl (p_iast (q := 37) rfl rfl (p_aload_n (q := 38) rfl rfl rfl (p_getr (q := 41) rfl rfl rfl rfl (fun b2 => p_iconst (q := 42) (z := 1) rfl (by decide) rfl (p_iload_n (q := 43) rfl rfl rfl (p_iast (q := 44) rfl rfl (p_iconst (q := 45) (z := 0) rfl (by decide) rfl (p_istore_n (q := 46) (L2 := [some (.inr r0), some (.inl l1), some (.inl 0)]) rfl rfl rfl rfl (q_kill rfl rfl rfl rfl))))))))))))) (p_aload_n (q := 11) rfl rfl rfl (p_getr (q := 14) rfl rfl rfl rfl (fun b3 => p_iload_n (q := 15) rfl rfl rfl (p_iconst (q := 16) (z := 0) rfl (by decide) rfl (p_iast (q := 17) rfl rfl (p_aload_n (q := 18) rfl rfl rfl (p_getr (q := 21) rfl rfl rfl rfl (fun b4 => p_iload_n (q := 22) rfl rfl rfl (p_iload_n (q := 23) rfl rfl rfl (p_iast (q := 24) rfl rfl (p_iinc (q := 27) (z := 1) (L2 := [some (.inr r0), some (.inl l1), some (.inl (wrap (l2 + 1)))]) rfl rfl (by decide) rfl rfl (p_goto (q := 2) (off := (-25)) rfl (by decide) rfl (rfl))))))))))))))))
/-- Weights.setFirstRanges, from 46 -/
theorem b56_46 (X : Nat × (Nat → Int)) (d : Nat) (r0 : Nat) (l2 : Int) (w : MW) : R X d 56 46 [some (.inr r0), none, some (.inl l2)] [] w = gd (kd w r0 = 15) (if (gi w r0 5) ≤ l2 then (some (none, w)) else (gd (kd w r0 = 15) (rO (gr w r0 8) fun b1 => gd (kd w b1 = 1 ∧ 0 ≤ l2 ∧ l2 < ln w b1) (gd (kd w r0 = 15) (rO (gr w r0 6) fun b2 => gd (kd w b2 = 1 ∧ 0 ≤ l2 ∧ l2 < ln w b2) (if (gi w b1 (Int.toNat (l2))) ≠ (gi w b2 (Int.toNat (l2))) then (R X d 56 81 [some (.inr r0), none, some (.inl l2)] [] w) else (gd (kd w r0 = 15) (rO (gr w r0 10) fun b3 => gd (kd w r0 = 15) (rO (gr w r0 7) fun b4 => gd (kd w b4 = 1 ∧ 0 ≤ l2 ∧ l2 < ln w b4) (gd (kd w b3 = 1 ∧ 0 ≤ (gi w b4 (Int.toNat (l2))) ∧ (gi w b4 (Int.toNat (l2))) < ln w b3) (R X d 56 81 [some (.inr r0), none, some (.inl l2)] [] (si w b3 (Int.toNat (gi w b4 (Int.toNat (l2)))) (0 : Int))))))))))))) := q_iload_n (q := 47) (L1 := [some (.inr r0), none, some (.inl l2)]) rfl rfl rfl rfl (p_aload_n (q := 48) rfl rfl rfl (p_getf (q := 51) rfl rfl rfl rfl (p_icmp_ge (q := 114) (q2 := 54) (off := 63) rfl (by decide) rfl rfl (p_vret rfl) (p_aload_n (q := 55) rfl rfl rfl (p_getr (q := 58) rfl rfl rfl rfl (fun b1 => p_iload_n (q := 59) rfl rfl rfl (p_iald (q := 60) rfl rfl rfl (p_aload_n (q := 61) rfl rfl rfl (p_getr (q := 64) rfl rfl rfl rfl (fun b2 => p_iload_n (q := 65) rfl rfl rfl (p_iald (q := 66) rfl rfl rfl (p_icmp_ne (q := 81) (q2 := 69) (off := 15) rfl (by decide) rfl rfl (rfl) (p_aload_n (q := 70) rfl rfl rfl (p_getr (q := 73) rfl rfl rfl rfl (fun b3 => p_aload_n (q := 74) rfl rfl rfl (p_getr (q := 77) rfl rfl rfl rfl (fun b4 => p_iload_n (q := 78) rfl rfl rfl (p_iald (q := 79) rfl rfl rfl (p_iconst (q := 80) (z := 0) rfl (by decide) rfl (p_iast (q := 81) rfl rfl (rfl)))))))))))))))))))))
/-- Weights.setFirstRanges, from 81 -/
theorem b56_81 (X : Nat × (Nat → Int)) (d : Nat) (r0 : Nat) (l2 : Int) (w : MW) : R X d 56 81 [some (.inr r0), none, some (.inl l2)] [] w = gd (kd w r0 = 15) (rO (gr w r0 8) fun b1 => gd (kd w b1 = 1 ∧ 0 ≤ l2 ∧ l2 < ln w b1) (gd (kd w r0 = 15) (rO (gr w r0 7) fun b2 => gd (kd w b2 = 1 ∧ 0 ≤ l2 ∧ l2 < ln w b2) (if (gi w b1 (Int.toNat (l2))) ≠ (gi w b2 (Int.toNat (l2))) then (R X d 56 46 [some (.inr r0), none, some (.inl (wrap (l2 + 1)))] [] w) else (gd (kd w r0 = 15) (rO (gr w r0 10) fun b3 => gd (kd w r0 = 15) (rO (gr w r0 6) fun b4 => gd (kd w b4 = 1 ∧ 0 ≤ l2 ∧ l2 < ln w b4) (gd (kd w b3 = 1 ∧ 0 ≤ (gi w b4 (Int.toNat (l2))) ∧ (gi w b4 (Int.toNat (l2))) < ln w b3) (R X d 56 46 [some (.inr r0), none, some (.inl (wrap (l2 + 1)))] [] (si w b3 (Int.toNat (gi w b4 (Int.toNat (l2)))) (0 : Int))))))))))) := q_aload_n (q := 82) (L1 := [some (.inr r0), none, some (.inl l2)]) rfl rfl rfl rfl (p_getr (q := 85) rfl rfl rfl rfl (fun b1 => p_iload_n (q := 86) rfl rfl rfl (p_iald (q := 87) rfl rfl rfl (p_aload_n (q := 88) rfl rfl rfl (p_getr (q := 91) rfl rfl rfl rfl (fun b2 => p_iload_n (q := 92) rfl rfl rfl (p_iald (q := 93) rfl rfl rfl (p_icmp_ne (q := 108) (q2 := 96) (off := 15) rfl (by decide) rfl rfl (p_iinc (q := 111) (z := 1) (L2 := [some (.inr r0), none, some (.inl (wrap (l2 + 1)))]) rfl rfl (by decide) rfl rfl (p_goto (q := 46) (off := (-65)) rfl (by decide) rfl (rfl))) (p_aload_n (q := 97) rfl rfl rfl (p_getr (q := 100) rfl rfl rfl rfl (fun b3 => p_aload_n (q := 101) rfl rfl rfl (p_getr (q := 104) rfl rfl rfl rfl (fun b4 => p_iload_n (q := 105) rfl rfl rfl (p_iald (q := 106) rfl rfl rfl (p_iconst (q := 107) (z := 0) rfl (by decide) rfl (p_iast (q := 108) rfl rfl (p_iinc (q := 111) (z := 1) (L2 := [some (.inr r0), none, some (.inl (wrap (l2 + 1)))]) rfl rfl (by decide) rfl rfl (p_goto (q := 46) (off := (-65)) rfl (by decide) rfl (rfl)))))))))))))))))))
/-- Weights.narrow, from 0 -/
theorem b57_0 (X : Nat × (Nat → Int)) (d : Nat) (r0 : Nat) (l1 : Int) (w : MW) : run X (d + 1) 57 [.inr r0, .inl l1] w = R X (d + 1) 57 7 [some (.inr r0), none, some (.inl (wrap (l1 * 12))), some (.inl 0), none, none, none, none, none] [] w := (show R X (d + 1) 57 0 [some (.inr r0), some (.inl l1), none, none, none, none, none, none, none] [] w = _ from p_iload_n (q := 1) rfl rfl rfl (p_bipush (q := 3) (z := 12) rfl (by decide) rfl (p_imul (q := 4) rfl rfl (p_istore_n (q := 5) (L2 := [some (.inr r0), some (.inl l1), some (.inl (wrap (l1 * 12))), none, none, none, none, none, none]) rfl rfl rfl rfl (p_iconst (q := 6) (z := 0) rfl (by decide) rfl (p_istore_n (q := 7) (L2 := [some (.inr r0), some (.inl l1), some (.inl (wrap (l1 * 12))), some (.inl 0), none, none, none, none, none]) rfl rfl rfl rfl (q_kill rfl rfl rfl rfl)))))))
/-- Weights.narrow, from 7 -/
theorem b57_7 (X : Nat × (Nat → Int)) (d : Nat) (r0 : Nat) (l2 : Int) (l3 : Int) (w : MW) : R X (d + 1) 57 7 [some (.inr r0), none, some (.inl l2), some (.inl l3), none, none, none, none, none] [] w = gd (kd w r0 = 15) (if (gi w r0 4) ≤ l3 then (R X (d + 1) 57 38 [some (.inr r0), none, some (.inl l2), some (.inl 1), some (.inl 0), none, none, none, none] [] w) else (gd (kd w r0 = 15) (rI (run X d 60 [.inr r0, .inl (wrap (l2 + l3))] w) fun v1 w1 => if v1 = 0 then (R X (d + 1) 57 7 [some (.inr r0), none, some (.inl l2), some (.inl (wrap (l3 + 1))), none, none, none, none, none] [] w1) else (some (some (.inl 0), w1))))) := q_iload_n (q := 8) (L1 := [some (.inr r0), none, some (.inl l2), some (.inl l3), none, none, none, none, none]) rfl rfl rfl rfl (p_aload_n (q := 9) rfl rfl rfl (p_getf (q := 12) rfl rfl rfl rfl (p_icmp_ge (q := 33) (q2 := 15) (off := 21) rfl (by decide) rfl rfl (p_iconst (q := 34) (z := 1) rfl (by decide) rfl (p_istore_n (q := 35) (L2 := [some (.inr r0), none, some (.inl l2), some (.inl 1), none, none, none, none, none]) rfl rfl rfl rfl (p_iconst (q := 36) (z := 0) rfl (by decide) rfl (p_istore (q := 38) (L2 := [some (.inr r0), none, some (.inl l2), some (.inl 1), some (.inl 0), none, none, none, none]) rfl rfl rfl rfl (rfl))))) (p_aload_n (q := 16) rfl rfl rfl (p_iload_n (q := 17) rfl rfl rfl (p_iload_n (q := 18) rfl rfl rfl (p_iadd (q := 19) rfl rfl (p_callVi (q := 22) (s2 := []) rfl rfl rfl rfl rfl rfl rfl (fun v1 w1 => p_if_eq (q := 27) (q2 := 25) (off := 5) rfl (by decide) rfl rfl (p_iinc (q := 30) (z := 1) (L2 := [some (.inr r0), none, some (.inl l2), some (.inl (wrap (l3 + 1))), none, none, none, none, none]) rfl rfl (by decide) rfl rfl (p_goto (q := 7) (off := (-23)) rfl (by decide) rfl (rfl))) (p_iconst (q := 26) (z := 0) rfl (by decide) rfl (p_zret0 rfl rfl)))))))))))
/-- Weights.narrow, from 38 -/
theorem b57_38 (X : Nat × (Nat → Int)) (d : Nat) (r0 : Nat) (l2 : Int) (l3 : Int) (l4 : Int) (w : MW) : R X (d + 1) 57 38 [some (.inr r0), none, some (.inl l2), some (.inl l3), some (.inl l4), none, none, none, none] [] w = if (100 : Int) ≤ l4 then (some (some (.inl 1), w)) else (if l3 = 0 then (some (some (.inl 1), w)) else (R X (d + 1) 57 54 [some (.inr r0), none, some (.inl l2), some (.inl 0), some (.inl l4), some (.inl 0), none, none, none] [] w)) := q_iload (q := 40) (L1 := [some (.inr r0), none, some (.inl l2), some (.inl l3), some (.inl l4), none, none, none, none]) rfl rfl rfl rfl (p_bipush (q := 42) (z := 100) rfl (by decide) rfl (p_icmp_ge (q := 152) (q2 := 45) (off := 110) rfl (by decide) rfl rfl (p_iconst (q := 153) (z := 1) rfl (by decide) rfl (p_zret1 rfl rfl)) (p_iload_n (q := 46) rfl rfl rfl (p_if_eq (q := 152) (q2 := 49) (off := 106) rfl (by decide) rfl rfl (p_iconst (q := 153) (z := 1) rfl (by decide) rfl (p_zret1 rfl rfl)) (p_iconst (q := 50) (z := 0) rfl (by decide) rfl (p_istore_n (q := 51) (L2 := [some (.inr r0), none, some (.inl l2), some (.inl 0), some (.inl l4), none, none, none, none]) rfl rfl rfl rfl (p_iconst (q := 52) (z := 0) rfl (by decide) rfl (p_istore (q := 54) (L2 := [some (.inr r0), none, some (.inl l2), some (.inl 0), some (.inl l4), some (.inl 0), none, none, none]) rfl rfl rfl rfl (rfl)))))))))
/-- Weights.narrow, from 54 -/
theorem b57_54 (X : Nat × (Nat → Int)) (d : Nat) (r0 : Nat) (l2 : Int) (l3 : Int) (l4 : Int) (l5 : Int) (w : MW) : R X (d + 1) 57 54 [some (.inr r0), none, some (.inl l2), some (.inl l3), some (.inl l4), some (.inl l5), none, none, none] [] w = gd (kd w r0 = 15) (if (gi w r0 5) ≤ l5 then (R X (d + 1) 57 38 [some (.inr r0), none, some (.inl l2), some (.inl l3), some (.inl (wrap (l4 + 1))), none, none, none, none] [] w) else (gd (kd w r0 = 15) (rO (gr w r0 6) fun b1 => gd (kd w b1 = 1 ∧ 0 ≤ l5 ∧ l5 < ln w b1) (gd (kd w r0 = 15) (rO (gr w r0 7) fun b2 => gd (kd w b2 = 1 ∧ 0 ≤ l5 ∧ l5 < ln w b2) (gd (kd w r0 = 15) (rO (gr w r0 8) fun b3 => gd (kd w b3 = 1 ∧ 0 ≤ l5 ∧ l5 < ln w b3) (gd (kd w r0 = 15) (rI (run X d 58 [.inr r0, .inl (wrap (l2 + (gi w b1 (Int.toNat (l5))))), .inl (wrap (l2 + (gi w b2 (Int.toNat (l5))))), .inl (wrap (l2 + (gi w b3 (Int.toNat (l5)))))] w) fun v4 w4 => if v4 = 0 then (R X (d + 1) 57 111 [some (.inr r0), none, some (.inl l2), some (.inl l3), some (.inl l4), some (.inl l5), some (.inl (wrap (l2 + (gi w b1 (Int.toNat (l5)))))), some (.inl (wrap (l2 + (gi w b2 (Int.toNat (l5)))))), some (.inl (wrap (l2 + (gi w b3 (Int.toNat (l5))))))] [] w4) else (R X (d + 1) 57 111 [some (.inr r0), none, some (.inl l2), some (.inl 1), some (.inl l4), some (.inl l5), some (.inl (wrap (l2 + (gi w b1 (Int.toNat (l5)))))), some (.inl (wrap (l2 + (gi w b2 (Int.toNat (l5)))))), some (.inl (wrap (l2 + (gi w b3 (Int.toNat (l5))))))] [] w4)))))))))) := q_iload (q := 56) (L1 := [some (.inr r0), none, some (.inl l2), some (.inl l3), some (.inl l4), some (.inl l5), none, none, none]) rfl rfl rfl rfl (p_aload_n (q := 57) rfl rfl rfl (p_getf (q := 60) rfl rfl rfl rfl (p_icmp_ge (q := 146) (q2 := 63) (off := 86) rfl (by decide) rfl rfl (p_iinc (q := 149) (z := 1) (L2 := [some (.inr r0), none, some (.inl l2), some (.inl l3), some (.inl (wrap (l4 + 1))), some (.inl l5), none, none, none]) rfl rfl (by decide) rfl rfl (p_goto (q := 38) (off := (-111)) rfl (by decide) rfl (q_kill rfl rfl rfl rfl))) (p_iload_n (q := 64) rfl rfl rfl (p_aload_n (q := 65) rfl rfl rfl (p_getr (q := 68) rfl rfl rfl rfl (fun b1 => p_iload (q := 70) rfl rfl rfl (p_iald (q := 71) rfl rfl rfl (p_iadd (q := 72) rfl rfl (p_istore (q := 74) (L2 := [some (.inr r0), none, some (.inl l2), some (.inl l3), some (.inl l4), some (.inl l5), some (.inl (wrap (l2 + (gi w b1 (Int.toNat (l5)))))), none, none]) rfl rfl rfl rfl (p_iload_n (q := 75) rfl rfl rfl (p_aload_n (q := 76) rfl rfl rfl (p_getr (q := 79) rfl rfl rfl rfl (fun b2 => p_iload (q := 81) rfl rfl rfl (p_iald (q := 82) rfl rfl rfl (p_iadd (q := 83) rfl rfl (p_istore (q := 85) (L2 := [some (.inr r0), none, some (.inl l2), some (.inl l3), some (.inl l4), some (.inl l5), some (.inl (wrap (l2 + (gi w b1 (Int.toNat (l5)))))), some (.inl (wrap (l2 + (gi w b2 (Int.toNat (l5)))))), none]) rfl rfl rfl rfl (p_iload_n (q := 86) rfl rfl rfl (p_aload_n (q := 87) rfl rfl rfl (p_getr (q := 90) rfl rfl rfl rfl (fun b3 => p_iload (q := 92) rfl rfl rfl (p_iald (q := 93) rfl rfl rfl (p_iadd (q := 94) rfl rfl (p_istore (q := 96) (L2 := [some (.inr r0), none, some (.inl l2), some (.inl l3), some (.inl l4), some (.inl l5), some (.inl (wrap (l2 + (gi w b1 (Int.toNat (l5)))))), some (.inl (wrap (l2 + (gi w b2 (Int.toNat (l5)))))), some (.inl (wrap (l2 + (gi w b3 (Int.toNat (l5))))))]) rfl rfl rfl rfl (p_aload_n (q := 97) rfl rfl rfl (p_iload (q := 99) rfl rfl rfl (p_iload (q := 101) rfl rfl rfl (p_iload (q := 103) rfl rfl rfl (p_callVi (q := 106) (s2 := []) rfl rfl rfl rfl rfl rfl rfl (fun v4 w4 => p_if_eq (q := 111) (q2 := 109) (off := 5) rfl (by decide) rfl rfl (rfl) (p_iconst (q := 110) (z := 1) rfl (by decide) rfl (p_istore_n (q := 111) (L2 := [some (.inr r0), none, some (.inl l2), some (.inl 1), some (.inl l4), some (.inl l5), some (.inl (wrap (l2 + (gi w b1 (Int.toNat (l5)))))), some (.inl (wrap (l2 + (gi w b2 (Int.toNat (l5)))))), some (.inl (wrap (l2 + (gi w b3 (Int.toNat (l5))))))]) rfl rfl rfl rfl (rfl)))))))))))))))))))))))))))))))))
/-- Weights.narrow, from 111 -/
theorem b57_111 (X : Nat × (Nat → Int)) (d : Nat) (r0 : Nat) (l2 : Int) (l3 : Int) (l4 : Int) (l5 : Int) (l6 : Int) (l7 : Int) (l8 : Int) (w : MW) : R X (d + 1) 57 111 [some (.inr r0), none, some (.inl l2), some (.inl l3), some (.inl l4), some (.inl l5), some (.inl l6), some (.inl l7), some (.inl l8)] [] w = gd (kd w r0 = 15) (rI (run X d 60 [.inr r0, .inl l6] w) fun v1 w1 => if v1 ≠ 0 then (some (some (.inl 0), w1)) else (gd (kd w1 r0 = 15) (rI (run X d 60 [.inr r0, .inl l7] w1) fun v2 w2 => if v2 ≠ 0 then (some (some (.inl 0), w2)) else (gd (kd w2 r0 = 15) (rI (run X d 60 [.inr r0, .inl l8] w2) fun v3 w3 => if v3 = 0 then (R X (d + 1) 57 54 [some (.inr r0), none, some (.inl l2), some (.inl l3), some (.inl l4), some (.inl (wrap (l5 + 1))), none, none, none] [] w3) else (some (some (.inl 0), w3))))))) := q_aload_n (q := 112) (L1 := [some (.inr r0), none, some (.inl l2), some (.inl l3), some (.inl l4), some (.inl l5), some (.inl l6), some (.inl l7), some (.inl l8)]) rfl rfl rfl rfl (p_iload (q := 114) rfl rfl rfl (p_callVi (q := 117) (s2 := []) rfl rfl rfl rfl rfl rfl rfl (fun v1 w1 => p_if_ne (q := 138) (q2 := 120) (off := 21) rfl (by decide) rfl rfl (p_iconst (q := 139) (z := 0) rfl (by decide) rfl (p_zret0 rfl rfl)) (p_aload_n (q := 121) rfl rfl rfl (p_iload (q := 123) rfl rfl rfl (p_callVi (q := 126) (s2 := []) rfl rfl rfl rfl rfl rfl rfl (fun v2 w2 => p_if_ne (q := 138) (q2 := 129) (off := 12) rfl (by decide) rfl rfl (p_iconst (q := 139) (z := 0) rfl (by decide) rfl (p_zret0 rfl rfl)) (p_aload_n (q := 130) rfl rfl rfl (p_iload (q := 132) rfl rfl rfl (p_callVi (q := 135) (s2 := []) rfl rfl rfl rfl rfl rfl rfl (fun v3 w3 => p_if_eq (q := 140) (q2 := 138) (off := 5) rfl (by decide) rfl rfl (p_iinc (q := 143) (z := 1) (L2 := [some (.inr r0), none, some (.inl l2), some (.inl l3), some (.inl l4), some (.inl (wrap (l5 + 1))), some (.inl l6), some (.inl l7), some (.inl l8)]) rfl rfl (by decide) rfl rfl (p_goto (q := 54) (off := (-89)) rfl (by decide) rfl (q_kill rfl rfl rfl rfl))) (p_iconst (q := 139) (z := 0) rfl (by decide) rfl (p_zret0 rfl rfl)))))))))))))
/-- Weights.narrowBySum, from 0 -/
theorem b58_0 (X : Nat × (Nat → Int)) (d : Nat) (r0 : Nat) (l1 : Int) (l2 : Int) (l3 : Int) (w : MW) : run X (d + 1) 58 [.inr r0, .inl l1, .inl l2, .inl l3] w = gd (kd w r0 = 15) (rO (gr w r0 9) fun b1 => gd (kd w b1 = 1 ∧ 0 ≤ l1 ∧ l1 < ln w b1) (gd (kd w r0 = 15) (rO (gr w r0 9) fun b2 => gd (kd w b2 = 1 ∧ 0 ≤ l2 ∧ l2 < ln w b2) (gd (kd w r0 = 15) (rO (gr w r0 10) fun b3 => gd (kd w b3 = 1 ∧ 0 ≤ l1 ∧ l1 < ln w b3) (gd (kd w r0 = 15) (rO (gr w r0 10) fun b4 => gd (kd w b4 = 1 ∧ 0 ≤ l2 ∧ l2 < ln w b4) (gd (kd w r0 = 15) (rI (run X d 59 [.inr r0, .inl l3, .inl (wrap ((gi w b1 (Int.toNat (l1))) + (gi w b2 (Int.toNat (l2))))), .inl (wrap ((gi w b3 (Int.toNat (l1))) + (gi w b4 (Int.toNat (l2)))))] w) fun v5 w5 => gd (kd w5 r0 = 15) (rO (gr w5 r0 9) fun b6 => gd (kd w5 b6 = 1 ∧ 0 ≤ l3 ∧ l3 < ln w5 b6) (gd (kd w5 r0 = 15) (rO (gr w5 r0 10) fun b7 => gd (kd w5 b7 = 1 ∧ 0 ≤ l2 ∧ l2 < ln w5 b7) (gd (kd w5 r0 = 15) (rO (gr w5 r0 10) fun b8 => gd (kd w5 b8 = 1 ∧ 0 ≤ l3 ∧ l3 < ln w5 b8) (gd (kd w5 r0 = 15) (rO (gr w5 r0 9) fun b9 => gd (kd w5 b9 = 1 ∧ 0 ≤ l2 ∧ l2 < ln w5 b9) (gd (kd w5 r0 = 15) (rI (run X d 59 [.inr r0, .inl l1, .inl (wrap ((gi w5 b6 (Int.toNat (l3))) - (gi w5 b7 (Int.toNat (l2))))), .inl (wrap ((gi w5 b8 (Int.toNat (l3))) - (gi w5 b9 (Int.toNat (l2)))))] w5) fun v10 w10 => if v10 = 0 then (R X (d + 1) 58 70 [some (.inr r0), some (.inl l1), some (.inl l2), some (.inl l3), some (.inl v5)] [] w10) else (R X (d + 1) 58 70 [some (.inr r0), some (.inl l1), some (.inl l2), some (.inl l3), some (.inl 1)] [] w10))))))))))))))))))) := (show R X (d + 1) 58 0 [some (.inr r0), some (.inl l1), some (.inl l2), some (.inl l3), none] [] w = _ from p_aload_n (q := 1) rfl rfl rfl (p_iload_n (q := 2) rfl rfl rfl (p_aload_n (q := 3) rfl rfl rfl (p_getr (q := 6) rfl rfl rfl rfl (fun b1 => p_iload_n (q := 7) rfl rfl rfl (p_iald (q := 8) rfl rfl rfl (p_aload_n (q := 9) rfl rfl rfl (p_getr (q := 12) rfl rfl rfl rfl (fun b2 => p_iload_n (q := 13) rfl rfl rfl (p_iald (q := 14) rfl rfl rfl (p_iadd (q := 15) rfl rfl (p_aload_n (q := 16) rfl rfl rfl (p_getr (q := 19) rfl rfl rfl rfl (fun b3 => p_iload_n (q := 20) rfl rfl rfl (p_iald (q := 21) rfl rfl rfl (p_aload_n (q := 22) rfl rfl rfl (p_getr (q := 25) rfl rfl rfl rfl (fun b4 => p_iload_n (q := 26) rfl rfl rfl (p_iald (q := 27) rfl rfl rfl (p_iadd (q := 28) rfl rfl (p_callVi (q := 31) (s2 := []) rfl rfl rfl rfl rfl rfl rfl (fun v5 w5 => p_istore (q := 33) (L2 := [some (.inr r0), some (.inl l1), some (.inl l2), some (.inl l3), some (.inl v5)]) rfl rfl rfl rfl (p_aload_n (q := 34) rfl rfl rfl (p_iload_n (q := 35) rfl rfl rfl (p_aload_n (q := 36) rfl rfl rfl (p_getr (q := 39) rfl rfl rfl rfl (fun b6 => p_iload_n (q := 40) rfl rfl rfl (p_iald (q := 41) rfl rfl rfl (p_aload_n (q := 42) rfl rfl rfl (p_getr (q := 45) rfl rfl rfl rfl (fun b7 => p_iload_n (q := 46) rfl rfl rfl (p_iald (q := 47) rfl rfl rfl (p_isub (q := 48) rfl rfl (p_aload_n (q := 49) rfl rfl rfl (p_getr (q := 52) rfl rfl rfl rfl (fun b8 => p_iload_n (q := 53) rfl rfl rfl (p_iald (q := 54) rfl rfl rfl (p_aload_n (q := 55) rfl rfl rfl (p_getr (q := 58) rfl rfl rfl rfl (fun b9 => p_iload_n (q := 59) rfl rfl rfl (p_iald (q := 60) rfl rfl rfl (p_isub (q := 61) rfl rfl (p_callVi (q := 64) (s2 := []) rfl rfl rfl rfl rfl rfl rfl (fun v10 w10 => p_if_eq (q := 70) (q2 := 67) (off := 6) rfl (by decide) rfl rfl (rfl) (p_iconst (q := 68) (z := 1) rfl (by decide) rfl (p_istore (q := 70) (L2 := [some (.inr r0), some (.inl l1), some (.inl l2), some (.inl l3), some (.inl 1)]) rfl rfl rfl rfl (rfl)))))))))))))))))))))))))))))))))))))))))))))))
/-- Weights.narrowBySum, from 70 -/
theorem b58_70 (X : Nat × (Nat → Int)) (d : Nat) (r0 : Nat) (l1 : Int) (l2 : Int) (l3 : Int) (l4 : Int) (w : MW) : R X (d + 1) 58 70 [some (.inr r0), some (.inl l1), some (.inl l2), some (.inl l3), some (.inl l4)] [] w = gd (kd w r0 = 15) (rO (gr w r0 9) fun b1 => gd (kd w b1 = 1 ∧ 0 ≤ l3 ∧ l3 < ln w b1) (gd (kd w r0 = 15) (rO (gr w r0 10) fun b2 => gd (kd w b2 = 1 ∧ 0 ≤ l1 ∧ l1 < ln w b2) (gd (kd w r0 = 15) (rO (gr w r0 10) fun b3 => gd (kd w b3 = 1 ∧ 0 ≤ l3 ∧ l3 < ln w b3) (gd (kd w r0 = 15) (rO (gr w r0 9) fun b4 => gd (kd w b4 = 1 ∧ 0 ≤ l1 ∧ l1 < ln w b4) (gd (kd w r0 = 15) (rI (run X d 59 [.inr r0, .inl l2, .inl (wrap ((gi w b1 (Int.toNat (l3))) - (gi w b2 (Int.toNat (l1))))), .inl (wrap ((gi w b3 (Int.toNat (l3))) - (gi w b4 (Int.toNat (l1)))))] w) fun v5 w5 => if v5 = 0 then (R X (d + 1) 58 107 [some (.inr r0), some (.inl l1), some (.inl l2), some (.inl l3), some (.inl l4)] [] w5) else (R X (d + 1) 58 107 [some (.inr r0), some (.inl l1), some (.inl l2), some (.inl l3), some (.inl 1)] [] w5)))))))))) := p_aload_n (q := 71) rfl rfl rfl (p_iload_n (q := 72) rfl rfl rfl (p_aload_n (q := 73) rfl rfl rfl (p_getr (q := 76) rfl rfl rfl rfl (fun b1 => p_iload_n (q := 77) rfl rfl rfl (p_iald (q := 78) rfl rfl rfl (p_aload_n (q := 79) rfl rfl rfl (p_getr (q := 82) rfl rfl rfl rfl (fun b2 => p_iload_n (q := 83) rfl rfl rfl (p_iald (q := 84) rfl rfl rfl (p_isub (q := 85) rfl rfl (p_aload_n (q := 86) rfl rfl rfl (p_getr (q := 89) rfl rfl rfl rfl (fun b3 => p_iload_n (q := 90) rfl rfl rfl (p_iald (q := 91) rfl rfl rfl (p_aload_n (q := 92) rfl rfl rfl (p_getr (q := 95) rfl rfl rfl rfl (fun b4 => p_iload_n (q := 96) rfl rfl rfl (p_iald (q := 97) rfl rfl rfl (p_isub (q := 98) rfl rfl (p_callVi (q := 101) (s2 := []) rfl rfl rfl rfl rfl rfl rfl (fun v5 w5 => p_if_eq (q := 107) (q2 := 104) (off := 6) rfl (by decide) rfl rfl (rfl) (p_iconst (q := 105) (z := 1) rfl (by decide) rfl (p_istore (q := 107) (L2 := [some (.inr r0), some (.inl l1), some (.inl l2), some (.inl l3), some (.inl 1)]) rfl rfl rfl rfl (rfl))))))))))))))))))))))))
/-- Weights.narrowBySum, from 107 -/
theorem b58_107 (X : Nat × (Nat → Int)) (d : Nat) (r0 : Nat) (l1 : Int) (l2 : Int) (l3 : Int) (l4 : Int) (w : MW) : R X (d + 1) 58 107 [some (.inr r0), some (.inl l1), some (.inl l2), some (.inl l3), some (.inl l4)] [] w = if l1 ≠ l2 then (gd (l4 = 0 ∨ l4 = 1) (some (some (.inl l4), w))) else (gd (kd w r0 = 15) (rO (gr w r0 9) fun b1 => gd (kd w b1 = 1 ∧ 0 ≤ l3 ∧ l3 < ln w b1) (gd (kd w r0 = 15) (rO (gr w r0 10) fun b2 => gd (kd w b2 = 1 ∧ 0 ≤ l3 ∧ l3 < ln w b2) (gd (kd w r0 = 15) (rI (run X d 59 [.inr r0, .inl l1, .inl (divI (wrap ((gi w b1 (Int.toNat (l3))) + 1)) 2), .inl (divI (gi w b2 (Int.toNat (l3))) 2)] w) fun v3 w3 => if v3 = 0 then (gd (l4 = 0 ∨ l4 = 1) (some (some (.inl l4), w3))) else (some (some (.inl 1), w3)))))))) := p_iload_n (q := 108) rfl rfl rfl (p_iload_n (q := 109) rfl rfl rfl (p_icmp_ne (q := 141) (q2 := 112) (off := 32) rfl (by decide) rfl rfl (p_iload (q := 143) rfl rfl rfl (p_zret rfl rfl)) (p_aload_n (q := 113) rfl rfl rfl (p_iload_n (q := 114) rfl rfl rfl (p_aload_n (q := 115) rfl rfl rfl (p_getr (q := 118) rfl rfl rfl rfl (fun b1 => p_iload_n (q := 119) rfl rfl rfl (p_iald (q := 120) rfl rfl rfl (p_iconst (q := 121) (z := 1) rfl (by decide) rfl (p_iadd (q := 122) rfl rfl (p_iconst (q := 123) (z := 2) rfl (by decide) rfl (p_idiv (q := 124) rfl (by decide) rfl (p_aload_n (q := 125) rfl rfl rfl (p_getr (q := 128) rfl rfl rfl rfl (fun b2 => p_iload_n (q := 129) rfl rfl rfl (p_iald (q := 130) rfl rfl rfl (p_iconst (q := 131) (z := 2) rfl (by decide) rfl (p_idiv (q := 132) rfl (by decide) rfl (p_callVi (q := 135) (s2 := []) rfl rfl rfl rfl rfl rfl rfl (fun v3 w3 => p_if_eq (q := 141) (q2 := 138) (off := 6) rfl (by decide) rfl rfl (p_iload (q := 143) rfl rfl rfl (p_zret rfl rfl)) (p_iconst (q := 139) (z := 1) rfl (by decide) rfl (p_istore (q := 141) (L2 := [some (.inr r0), some (.inl l1), some (.inl l2), some (.inl l3), some (.inl 1)]) rfl rfl rfl rfl (p_iload (q := 143) rfl rfl rfl (p_zret1 rfl rfl))))))))))))))))))))))))
/-- Weights.limit, from 0 -/
theorem b59_0 (X : Nat × (Nat → Int)) (d : Nat) (r0 : Nat) (l1 : Int) (l2 : Int) (l3 : Int) (w : MW) : run X d 59 [.inr r0, .inl l1, .inl l2, .inl l3] w = gd (kd w r0 = 15) (rO (gr w r0 9) fun b1 => gd (kd w b1 = 1 ∧ 0 ≤ l1 ∧ l1 < ln w b1) (if l2 ≤ (gi w b1 (Int.toNat (l1))) then (R X d 59 23 [some (.inr r0), some (.inl l1), none, some (.inl l3), some (.inl 0)] [] w) else (gd (kd w r0 = 15) (rO (gr w r0 9) fun b2 => gd (kd w b2 = 1 ∧ 0 ≤ l1 ∧ l1 < ln w b2) (R X d 59 23 [some (.inr r0), some (.inl l1), none, some (.inl l3), some (.inl 1)] [] (si w b2 (Int.toNat (l1)) l2)))))) := (show R X d 59 0 [some (.inr r0), some (.inl l1), some (.inl l2), some (.inl l3), none] [] w = _ from p_iconst (q := 1) (z := 0) rfl (by decide) rfl (p_istore (q := 3) (L2 := [some (.inr r0), some (.inl l1), some (.inl l2), some (.inl l3), some (.inl 0)]) rfl rfl rfl rfl (p_aload_n (q := 4) rfl rfl rfl (p_getr (q := 7) rfl rfl rfl rfl (fun b1 => p_iload_n (q := 8) rfl rfl rfl (p_iald (q := 9) rfl rfl rfl (p_iload_n (q := 10) rfl rfl rfl (p_icmp_ge (q := 23) (q2 := 13) (off := 13) rfl (by decide) rfl rfl (q_kill rfl rfl rfl rfl) (p_aload_n (q := 14) rfl rfl rfl (p_getr (q := 17) rfl rfl rfl rfl (fun b2 => p_iload_n (q := 18) rfl rfl rfl (p_iload_n (q := 19) rfl rfl rfl (p_iast (q := 20) rfl rfl (p_iconst (q := 21) (z := 1) rfl (by decide) rfl (p_istore (q := 23) (L2 := [some (.inr r0), some (.inl l1), some (.inl l2), some (.inl l3), some (.inl 1)]) rfl rfl rfl rfl (q_kill rfl rfl rfl rfl))))))))))))))))
/-- Weights.limit, from 23 -/
theorem b59_23 (X : Nat × (Nat → Int)) (d : Nat) (r0 : Nat) (l1 : Int) (l3 : Int) (l4 : Int) (w : MW) : R X d 59 23 [some (.inr r0), some (.inl l1), none, some (.inl l3), some (.inl l4)] [] w = gd (kd w r0 = 15) (rO (gr w r0 10) fun b1 => gd (kd w b1 = 1 ∧ 0 ≤ l1 ∧ l1 < ln w b1) (if (gi w b1 (Int.toNat (l1))) ≤ l3 then (gd (l4 = 0 ∨ l4 = 1) (some (some (.inl l4), w))) else (gd (kd w r0 = 15) (rO (gr w r0 10) fun b2 => gd (kd w b2 = 1 ∧ 0 ≤ l1 ∧ l1 < ln w b2) (some (some (.inl 1), si w b2 (Int.toNat (l1)) l3)))))) := q_aload_n (q := 24) (L1 := [some (.inr r0), some (.inl l1), none, some (.inl l3), some (.inl l4)]) rfl rfl rfl rfl (p_getr (q := 27) rfl rfl rfl rfl (fun b1 => p_iload_n (q := 28) rfl rfl rfl (p_iald (q := 29) rfl rfl rfl (p_iload_n (q := 30) rfl rfl rfl (p_icmp_le (q := 43) (q2 := 33) (off := 13) rfl (by decide) rfl rfl (p_iload (q := 45) rfl rfl rfl (p_zret rfl rfl)) (p_aload_n (q := 34) rfl rfl rfl (p_getr (q := 37) rfl rfl rfl rfl (fun b2 => p_iload_n (q := 38) rfl rfl rfl (p_iload_n (q := 39) rfl rfl rfl (p_iast (q := 40) rfl rfl (p_iconst (q := 41) (z := 1) rfl (by decide) rfl (p_istore (q := 43) (L2 := [some (.inr r0), some (.inl l1), none, some (.inl l3), some (.inl 1)]) rfl rfl rfl rfl (p_iload (q := 45) rfl rfl rfl (p_zret1 rfl rfl))))))))))))))
/-- Weights.isEmpty, from 0 -/
theorem b60_0 (X : Nat × (Nat → Int)) (d : Nat) (r0 : Nat) (l1 : Int) (w : MW) : run X d 60 [.inr r0, .inl l1] w = gd (kd w r0 = 15) (rO (gr w r0 9) fun b1 => gd (kd w b1 = 1 ∧ 0 ≤ l1 ∧ l1 < ln w b1) (gd (kd w r0 = 15) (rO (gr w r0 10) fun b2 => gd (kd w b2 = 1 ∧ 0 ≤ l1 ∧ l1 < ln w b2) (if (gi w b1 (Int.toNat (l1))) ≤ (gi w b2 (Int.toNat (l1))) then (some (some (.inl 0), w)) else (some (some (.inl 1), w)))))) := (show R X d 60 0 [some (.inr r0), some (.inl l1)] [] w = _ from p_aload_n (q := 1) rfl rfl rfl (p_getr (q := 4) rfl rfl rfl rfl (fun b1 => p_iload_n (q := 5) rfl rfl rfl (p_iald (q := 6) rfl rfl rfl (p_aload_n (q := 7) rfl rfl rfl (p_getr (q := 10) rfl rfl rfl rfl (fun b2 => p_iload_n (q := 11) rfl rfl rfl (p_iald (q := 12) rfl rfl rfl (p_icmp_le (q := 19) (q2 := 15) (off := 7) rfl (by decide) rfl rfl (p_iconst (q := 20) (z := 0) rfl (by decide) rfl (p_zret0 rfl rfl)) (p_iconst (q := 16) (z := 1) rfl (by decide) rfl (p_goto (q := 20) (off := 4) rfl (by decide) rfl (p_zret1 rfl rfl))))))))))))
/-- Weights.isOpen, from 0 -/
theorem b61_0 (X : Nat × (Nat → Int)) (d : Nat) (r0 : Nat) (l1 : Int) (w : MW) : run X d 61 [.inr r0, .inl l1] w = gd (kd w r0 = 15) (rO (gr w r0 9) fun b1 => gd (kd w b1 = 1 ∧ 0 ≤ l1 ∧ l1 < ln w b1) (gd (kd w r0 = 15) (rO (gr w r0 10) fun b2 => gd (kd w b2 = 1 ∧ 0 ≤ l1 ∧ l1 < ln w b2) (if (gi w b2 (Int.toNat (l1))) ≤ (gi w b1 (Int.toNat (l1))) then (some (some (.inl 0), w)) else (some (some (.inl 1), w)))))) := (show R X d 61 0 [some (.inr r0), some (.inl l1)] [] w = _ from p_aload_n (q := 1) rfl rfl rfl (p_getr (q := 4) rfl rfl rfl rfl (fun b1 => p_iload_n (q := 5) rfl rfl rfl (p_iald (q := 6) rfl rfl rfl (p_aload_n (q := 7) rfl rfl rfl (p_getr (q := 10) rfl rfl rfl rfl (fun b2 => p_iload_n (q := 11) rfl rfl rfl (p_iald (q := 12) rfl rfl rfl (p_icmp_ge (q := 19) (q2 := 15) (off := 7) rfl (by decide) rfl rfl (p_iconst (q := 20) (z := 0) rfl (by decide) rfl (p_zret0 rfl rfl)) (p_iconst (q := 16) (z := 1) rfl (by decide) rfl (p_goto (q := 20) (off := 4) rfl (by decide) rfl (p_zret1 rfl rfl))))))))))))
/-- Weights.formGroups, from 0 -/
theorem b62_0 (X : Nat × (Nat → Int)) (d : Nat) (r0 : Nat) (w : MW) : run X (d + 1) 62 [.inr r0] w = R X (d + 1) 62 2 [some (.inr r0), some (.inl 0)] [] w := (show R X (d + 1) 62 0 [some (.inr r0), none] [] w = _ from p_iconst (q := 1) (z := 0) rfl (by decide) rfl (p_istore_n (q := 2) (L2 := [some (.inr r0), some (.inl 0)]) rfl rfl rfl rfl (rfl)))
/-- Weights.formGroups, from 2 -/
theorem b62_2 (X : Nat × (Nat → Int)) (d : Nat) (r0 : Nat) (l1 : Int) (w : MW) : R X (d + 1) 62 2 [some (.inr r0), some (.inl l1)] [] w = gd (kd w r0 = 15) (if (gi w r0 4) ≤ l1 then (R X (d + 1) 62 37 [some (.inr r0), some (.inl 0)] [] w) else (gd (kd w r0 = 15) (rO (gr w r0 11) fun b1 => gd (kd w r0 = 15) (rI (run X d 61 [.inr r0, .inl l1] w) fun v2 w2 => if v2 = 0 then (gd (kd w2 b1 = 1 ∧ 0 ≤ l1 ∧ l1 < ln w2 b1) (R X (d + 1) 62 2 [some (.inr r0), some (.inl (wrap (l1 + 1)))] [] (si w2 b1 (Int.toNat (l1)) (-1 : Int)))) else (gd (kd w2 b1 = 1 ∧ 0 ≤ l1 ∧ l1 < ln w2 b1) (R X (d + 1) 62 2 [some (.inr r0), some (.inl (wrap (l1 + 1)))] [] (si w2 b1 (Int.toNat (l1)) l1))))))) := p_iload_n (q := 3) rfl rfl rfl (p_aload_n (q := 4) rfl rfl rfl (p_getf (q := 7) rfl rfl rfl rfl (p_icmp_ge (q := 35) (q2 := 10) (off := 28) rfl (by decide) rfl rfl (p_iconst (q := 36) (z := 0) rfl (by decide) rfl (p_istore_n (q := 37) (L2 := [some (.inr r0), some (.inl 0)]) rfl rfl rfl rfl (rfl))) (p_aload_n (q := 11) rfl rfl rfl (p_getr (q := 14) rfl rfl rfl rfl (fun b1 => p_iload_n (q := 15) rfl rfl rfl (p_aload_n (q := 16) rfl rfl rfl (p_iload_n (q := 17) rfl rfl rfl (p_callVi (q := 20) (s2 := [.inl l1, .inr b1]) rfl rfl rfl rfl rfl rfl rfl (fun v2 w2 => p_if_eq (q := 27) (q2 := 23) (off := 7) rfl (by decide) rfl rfl (p_iconst (q := 28) (z := (-1)) rfl (by decide) rfl (p_iast (q := 29) rfl rfl (p_iinc (q := 32) (z := 1) (L2 := [some (.inr r0), some (.inl (wrap (l1 + 1)))]) rfl rfl (by decide) rfl rfl (p_goto (q := 2) (off := (-30)) rfl (by decide) rfl (rfl))))) (p_iload_n (q := 24) rfl rfl rfl (p_goto (q := 28) (off := 4) rfl (by decide) rfl (p_iast (q := 29) rfl rfl (p_iinc (q := 32) (z := 1) (L2 := [some (.inr r0), some (.inl (wrap (l1 + 1)))]) rfl rfl (by decide) rfl rfl (p_goto (q := 2) (off := (-30)) rfl (by decide) rfl (rfl))))))))))))))))
/-- Weights.formGroups, from 37 -/
theorem b62_37 (X : Nat × (Nat → Int)) (d : Nat) (r0 : Nat) (l1 : Int) (w : MW) : R X (d + 1) 62 37 [some (.inr r0), some (.inl l1)] [] w = gd (kd w r0 = 15) (if (gi w r0 5) ≤ l1 then (some (none, w)) else (gd (kd w r0 = 15) (rO (gr w r0 11) fun b1 => gd (kd w r0 = 15) (rO (gr w r0 6) fun b2 => gd (kd w b2 = 1 ∧ 0 ≤ l1 ∧ l1 < ln w b2) (gd (kd w b1 = 1 ∧ 0 ≤ (gi w b2 (Int.toNat (l1))) ∧ (gi w b2 (Int.toNat (l1))) < ln w b1) (gd (kd w r0 = 15) (rO (gr w r0 11) fun b3 => gd (kd w r0 = 15) (rO (gr w r0 7) fun b4 => gd (kd w b4 = 1 ∧ 0 ≤ l1 ∧ l1 < ln w b4) (gd (kd w b3 = 1 ∧ 0 ≤ (gi w b4 (Int.toNat (l1))) ∧ (gi w b4 (Int.toNat (l1))) < ln w b3) (gd (kd w r0 = 15) (rV (run X d 63 [.inr r0, .inl (gi w b1 (Int.toNat (gi w b2 (Int.toNat (l1))))), .inl (gi w b3 (Int.toNat (gi w b4 (Int.toNat (l1)))))] w) fun w5 => gd (kd w5 r0 = 15) (rO (gr w5 r0 11) fun b6 => gd (kd w5 r0 = 15) (rO (gr w5 r0 6) fun b7 => gd (kd w5 b7 = 1 ∧ 0 ≤ l1 ∧ l1 < ln w5 b7) (gd (kd w5 b6 = 1 ∧ 0 ≤ (gi w5 b7 (Int.toNat (l1))) ∧ (gi w5 b7 (Int.toNat (l1))) < ln w5 b6) (gd (kd w5 r0 = 15) (rO (gr w5 r0 11) fun b8 => gd (kd w5 r0 = 15) (rO (gr w5 r0 8) fun b9 => gd (kd w5 b9 = 1 ∧ 0 ≤ l1 ∧ l1 < ln w5 b9) (gd (kd w5 b8 = 1 ∧ 0 ≤ (gi w5 b9 (Int.toNat (l1))) ∧ (gi w5 b9 (Int.toNat (l1))) < ln w5 b8) (gd (kd w5 r0 = 15) (rV (run X d 63 [.inr r0, .inl (gi w5 b6 (Int.toNat (gi w5 b7 (Int.toNat (l1))))), .inl (gi w5 b8 (Int.toNat (gi w5 b9 (Int.toNat (l1)))))] w5) fun w10 => gd (kd w10 r0 = 15) (rO (gr w10 r0 11) fun b11 => gd (kd w10 r0 = 15) (rO (gr w10 r0 7) fun b12 => gd (kd w10 b12 = 1 ∧ 0 ≤ l1 ∧ l1 < ln w10 b12) (gd (kd w10 b11 = 1 ∧ 0 ≤ (gi w10 b12 (Int.toNat (l1))) ∧ (gi w10 b12 (Int.toNat (l1))) < ln w10 b11) (gd (kd w10 r0 = 15) (rO (gr w10 r0 11) fun b13 => gd (kd w10 r0 = 15) (rO (gr w10 r0 8) fun b14 => gd (kd w10 b14 = 1 ∧ 0 ≤ l1 ∧ l1 < ln w10 b14) (gd (kd w10 b13 = 1 ∧ 0 ≤ (gi w10 b14 (Int.toNat (l1))) ∧ (gi w10 b14 (Int.toNat (l1))) < ln w10 b13) (gd (kd w10 r0 = 15) (rV (run X d 63 [.inr r0, .inl (gi w10 b11 (Int.toNat (gi w10 b12 (Int.toNat (l1))))), .inl (gi w10 b13 (Int.toNat (gi w10 b14 (Int.toNat (l1)))))] w10) fun w15 => R X (d + 1) 62 37 [some (.inr r0), some (.inl (wrap (l1 + 1)))] [] w15))))))))))))))))))))))))))))) := p_iload_n (q := 38) rfl rfl rfl (p_aload_n (q := 39) rfl rfl rfl (p_getf (q := 42) rfl rfl rfl rfl (p_icmp_ge (q := 129) (q2 := 45) (off := 87) rfl (by decide) rfl rfl (p_vret rfl) (p_aload_n (q := 46) rfl rfl rfl (p_aload_n (q := 47) rfl rfl rfl (p_getr (q := 50) rfl rfl rfl rfl (fun b1 => p_aload_n (q := 51) rfl rfl rfl (p_getr (q := 54) rfl rfl rfl rfl (fun b2 => p_iload_n (q := 55) rfl rfl rfl (p_iald (q := 56) rfl rfl rfl (p_iald (q := 57) rfl rfl rfl (p_aload_n (q := 58) rfl rfl rfl (p_getr (q := 61) rfl rfl rfl rfl (fun b3 => p_aload_n (q := 62) rfl rfl rfl (p_getr (q := 65) rfl rfl rfl rfl (fun b4 => p_iload_n (q := 66) rfl rfl rfl (p_iald (q := 67) rfl rfl rfl (p_iald (q := 68) rfl rfl rfl (p_callVv (q := 71) (s2 := []) rfl rfl rfl rfl rfl rfl rfl (fun w5 => p_aload_n (q := 72) rfl rfl rfl (p_aload_n (q := 73) rfl rfl rfl (p_getr (q := 76) rfl rfl rfl rfl (fun b6 => p_aload_n (q := 77) rfl rfl rfl (p_getr (q := 80) rfl rfl rfl rfl (fun b7 => p_iload_n (q := 81) rfl rfl rfl (p_iald (q := 82) rfl rfl rfl (p_iald (q := 83) rfl rfl rfl (p_aload_n (q := 84) rfl rfl rfl (p_getr (q := 87) rfl rfl rfl rfl (fun b8 => p_aload_n (q := 88) rfl rfl rfl (p_getr (q := 91) rfl rfl rfl rfl (fun b9 => p_iload_n (q := 92) rfl rfl rfl (p_iald (q := 93) rfl rfl rfl (p_iald (q := 94) rfl rfl rfl (p_callVv (q := 97) (s2 := []) rfl rfl rfl rfl rfl rfl rfl (fun w10 => p_aload_n (q := 98) rfl rfl rfl (p_aload_n (q := 99) rfl rfl rfl (p_getr (q := 102) rfl rfl rfl rfl (fun b11 => p_aload_n (q := 103) rfl rfl rfl (p_getr (q := 106) rfl rfl rfl rfl (fun b12 => p_iload_n (q := 107) rfl rfl rfl (p_iald (q := 108) rfl rfl rfl (p_iald (q := 109) rfl rfl rfl (p_aload_n (q := 110) rfl rfl rfl (p_getr (q := 113) rfl rfl rfl rfl (fun b13 => p_aload_n (q := 114) rfl rfl rfl (p_getr (q := 117) rfl rfl rfl rfl (fun b14 => p_iload_n (q := 118) rfl rfl rfl (p_iald (q := 119) rfl rfl rfl (p_iald (q := 120) rfl rfl rfl (p_callVv (q := 123) (s2 := []) rfl rfl rfl rfl rfl rfl rfl (fun w15 => p_iinc (q := 126) (z := 1) (L2 := [some (.inr r0), some (.inl (wrap (l1 + 1)))]) rfl rfl (by decide) rfl rfl (p_goto (q := 37) (off := (-89)) rfl (by decide) rfl (rfl))))))))))))))))))))))))))))))))))))))))))))))))))))))
/-- Weights.joinGroups, from 0 -/
theorem b63_0 (X : Nat × (Nat → Int)) (d : Nat) (r0 : Nat) (l1 : Int) (l2 : Int) (w : MW) : run X d 63 [.inr r0, .inl l1, .inl l2] w = if l1 = (-1 : Int) then (some (none, w)) else (if l2 ≠ (-1 : Int) then (R X d 63 13 [some (.inr r0), some (.inl l1), some (.inl l2), some (.inl 0)] [] w) else (some (none, w))) := (show R X d 63 0 [some (.inr r0), some (.inl l1), some (.inl l2), none] [] w = _ from p_iload_n (q := 1) rfl rfl rfl (p_iconst (q := 2) (z := (-1)) rfl (by decide) rfl (p_icmp_eq (q := 10) (q2 := 5) (off := 8) rfl (by decide) rfl rfl (p_vret rfl) (p_iload_n (q := 6) rfl rfl rfl (p_iconst (q := 7) (z := (-1)) rfl (by decide) rfl (p_icmp_ne (q := 11) (q2 := 10) (off := 4) rfl (by decide) rfl rfl (p_iconst (q := 12) (z := 0) rfl (by decide) rfl (p_istore_n (q := 13) (L2 := [some (.inr r0), some (.inl l1), some (.inl l2), some (.inl 0)]) rfl rfl rfl rfl (rfl))) (p_vret rfl)))))))
/-- Weights.joinGroups, from 13 -/
theorem b63_13 (X : Nat × (Nat → Int)) (d : Nat) (r0 : Nat) (l1 : Int) (l2 : Int) (l3 : Int) (w : MW) : R X d 63 13 [some (.inr r0), some (.inl l1), some (.inl l2), some (.inl l3)] [] w = gd (kd w r0 = 15) (if (gi w r0 4) ≤ l3 then (some (none, w)) else (gd (kd w r0 = 15) (rO (gr w r0 11) fun b1 => gd (kd w b1 = 1 ∧ 0 ≤ l3 ∧ l3 < ln w b1) (if (gi w b1 (Int.toNat (l3))) = l1 then (R X d 63 41 [some (.inr r0), some (.inl l1), some (.inl l2), some (.inl l3)] [] w) else (gd (kd w r0 = 15) (rO (gr w r0 11) fun b2 => gd (kd w b2 = 1 ∧ 0 ≤ l3 ∧ l3 < ln w b2) (if (gi w b2 (Int.toNat (l3))) ≠ l2 then (R X d 63 13 [some (.inr r0), some (.inl l1), some (.inl l2), some (.inl (wrap (l3 + 1)))] [] w) else (R X d 63 41 [some (.inr r0), some (.inl l1), some (.inl l2), some (.inl l3)] [] w)))))))) := p_iload_n (q := 14) rfl rfl rfl (p_aload_n (q := 15) rfl rfl rfl (p_getf (q := 18) rfl rfl rfl rfl (p_icmp_ge (q := 58) (q2 := 21) (off := 40) rfl (by decide) rfl rfl (p_vret rfl) (p_aload_n (q := 22) rfl rfl rfl (p_getr (q := 25) rfl rfl rfl rfl (fun b1 => p_iload_n (q := 26) rfl rfl rfl (p_iald (q := 27) rfl rfl rfl (p_iload_n (q := 28) rfl rfl rfl (p_icmp_eq (q := 41) (q2 := 31) (off := 13) rfl (by decide) rfl rfl (rfl) (p_aload_n (q := 32) rfl rfl rfl (p_getr (q := 35) rfl rfl rfl rfl (fun b2 => p_iload_n (q := 36) rfl rfl rfl (p_iald (q := 37) rfl rfl rfl (p_iload_n (q := 38) rfl rfl rfl (p_icmp_ne (q := 52) (q2 := 41) (off := 14) rfl (by decide) rfl rfl (p_iinc (q := 55) (z := 1) (L2 := [some (.inr r0), some (.inl l1), some (.inl l2), some (.inl (wrap (l3 + 1)))]) rfl rfl (by decide) rfl rfl (p_goto (q := 13) (off := (-42)) rfl (by decide) rfl (rfl))) (rfl))))))))))))))))
/-- Weights.joinGroups, from 41 -/
theorem b63_41 (X : Nat × (Nat → Int)) (d : Nat) (r0 : Nat) (l1 : Int) (l2 : Int) (l3 : Int) (w : MW) : R X d 63 41 [some (.inr r0), some (.inl l1), some (.inl l2), some (.inl l3)] [] w = gd (kd w r0 = 15) (rO (gr w r0 11) fun b1 => gd (kd w b1 = 1 ∧ 0 ≤ l3 ∧ l3 < ln w b1) (R X d 63 13 [some (.inr r0), some (.inl l1), some (.inl l2), some (.inl (wrap (l3 + 1)))] [] (si w b1 (Int.toNat (l3)) (minI l1 l2)))) := p_aload_n (q := 42) rfl rfl rfl (p_getr (q := 45) rfl rfl rfl rfl (fun b1 => p_iload_n (q := 46) rfl rfl rfl (p_iload_n (q := 47) rfl rfl rfl (p_iload_n (q := 48) rfl rfl rfl (p_min (q := 51) rfl rfl (Nat.le_of_ble_eq_true rfl) rfl (p_iast (q := 52) rfl rfl (p_iinc (q := 55) (z := 1) (L2 := [some (.inr r0), some (.inl l1), some (.inl l2), some (.inl (wrap (l3 + 1)))]) rfl rfl (by decide) rfl rfl (p_goto (q := 13) (off := (-42)) rfl (by decide) rfl (rfl)))))))))
/-- Weights.startRange, from 0 -/
theorem b64_0 (X : Nat × (Nat → Int)) (d : Nat) (r0 : Nat) (l1 : Int) (l2 : Int) (w : MW) : run X d 64 [.inr r0, .inl l1, .inl l2] w = gd (kd w r0 = 15) (rO (gr w r0 11) fun b1 => gd (kd w b1 = 1 ∧ 0 ≤ l1 ∧ l1 < ln w b1) (if (gi w b1 (Int.toNat (l1))) ≠ (-1 : Int) then (R X d 64 15 [some (.inr r0), some (.inl l1), some (.inl l2), none] [.inl 0] w) else (R X d 64 15 [some (.inr r0), some (.inl l1), some (.inl l2), none] [.inl 1] w))) := (show R X d 64 0 [some (.inr r0), some (.inl l1), some (.inl l2), none] [] w = _ from p_aload_n (q := 1) rfl rfl rfl (p_getr (q := 4) rfl rfl rfl rfl (fun b1 => p_iload_n (q := 5) rfl rfl rfl (p_iald (q := 6) rfl rfl rfl (p_iconst (q := 7) (z := (-1)) rfl (by decide) rfl (p_icmp_ne (q := 14) (q2 := 10) (off := 7) rfl (by decide) rfl rfl (p_iconst (q := 15) (z := 0) rfl (by decide) rfl (rfl)) (p_iconst (q := 11) (z := 1) rfl (by decide) rfl (p_goto (q := 15) (off := 4) rfl (by decide) rfl (rfl)))))))))
/-- Weights.startRange, from 15 -/
theorem b64_15 (X : Nat × (Nat → Int)) (d : Nat) (r0 : Nat) (l1 : Int) (l2 : Int) (t0 : Int) (w : MW) : R X d 64 15 [some (.inr r0), some (.inl l1), some (.inl l2), none] [.inl t0] w = gd (kd w r0 = 15) (rO (gr w r0 1) fun b1 => gd (kd w r0 = 15) (rO (gr w r0 9) fun b2 => gd (kd w b2 = 1 ∧ 0 ≤ l1 ∧ l1 < ln w b2) (gd (kd w b1 = 1 ∧ 0 ≤ l1 ∧ l1 < ln w b1) (gd (kd (si w b1 (Int.toNat (l1)) (gi w b2 (Int.toNat (l1)))) r0 = 15) (rO (gr (si w b1 (Int.toNat (l1)) (gi w b2 (Int.toNat (l1)))) r0 2) fun b3 => if t0 = 0 then (R X d 64 47 [some (.inr r0), some (.inl l1), none, some (.inl t0)] [.inl l2, .inl l1, .inr b3] (si w b1 (Int.toNat (l1)) (gi w b2 (Int.toNat (l1))))) else (gd (kd (si w b1 (Int.toNat (l1)) (gi w b2 (Int.toNat (l1)))) r0 = 15) (rO (gr (si w b1 (Int.toNat (l1)) (gi w b2 (Int.toNat (l1)))) r0 9) fun b4 => gd (kd (si w b1 (Int.toNat (l1)) (gi w b2 (Int.toNat (l1)))) b4 = 1 ∧ 0 ≤ l1 ∧ l1 < ln (si w b1 (Int.toNat (l1)) (gi w b2 (Int.toNat (l1)))) b4) (R X d 64 47 [some (.inr r0), some (.inl l1), none, some (.inl t0)] [.inl (gi (si w b1 (Int.toNat (l1)) (gi w b2 (Int.toNat (l1)))) b4 (Int.toNat (l1))), .inl l1, .inr b3] (si w b1 (Int.toNat (l1)) (gi w b2 (Int.toNat (l1)))))))))))) := q_istore_n (q := 16) (L1 := [some (.inr r0), some (.inl l1), some (.inl l2), none]) (L2 := [some (.inr r0), some (.inl l1), some (.inl l2), some (.inl t0)]) rfl rfl rfl rfl rfl (p_aload_n (q := 17) rfl rfl rfl (p_getr (q := 20) rfl rfl rfl rfl (fun b1 => p_iload_n (q := 21) rfl rfl rfl (p_aload_n (q := 22) rfl rfl rfl (p_getr (q := 25) rfl rfl rfl rfl (fun b2 => p_iload_n (q := 26) rfl rfl rfl (p_iald (q := 27) rfl rfl rfl (p_iast (q := 28) rfl rfl (p_aload_n (q := 29) rfl rfl rfl (p_getr (q := 32) rfl rfl rfl rfl (fun b3 => p_iload_n (q := 33) rfl rfl rfl (p_iload_n (q := 34) rfl rfl rfl (p_if_eq (q := 46) (q2 := 37) (off := 12) rfl (by decide) rfl rfl (p_iload_n (q := 47) rfl rfl rfl (q_kill rfl rfl rfl rfl)) (p_aload_n (q := 38) rfl rfl rfl (p_getr (q := 41) rfl rfl rfl rfl (fun b4 => p_iload_n (q := 42) rfl rfl rfl (p_iald (q := 43) rfl rfl rfl (p_goto (q := 47) (off := 4) rfl (by decide) rfl (q_kill rfl rfl rfl rfl)))))))))))))))))))
/-- Weights.startRange, from 47 -/
theorem b64_47 (X : Nat × (Nat → Int)) (d : Nat) (r0 : Nat) (l1 : Int) (l3 : Int) (t0 : Int) (t1 : Int) (p2 : Nat) (w : MW) : R X d 64 47 [some (.inr r0), some (.inl l1), none, some (.inl l3)] [.inl t0, .inl t1, .inr p2] w = gd (kd w p2 = 1 ∧ 0 ≤ t1 ∧ t1 < ln w p2) (gd (kd (si w p2 (Int.toNat (t1)) t0) r0 = 15) (rO (gr (si w p2 (Int.toNat (t1)) t0) r0 3) fun b1 => if l3 = 0 then (gd (kd (si w p2 (Int.toNat (t1)) t0) b1 = 1 ∧ 0 ≤ l1 ∧ l1 < ln (si w p2 (Int.toNat (t1)) t0) b1) (some (none, si (si w p2 (Int.toNat (t1)) t0) b1 (Int.toNat (l1)) (0 : Int)))) else (gd (kd (si w p2 (Int.toNat (t1)) t0) r0 = 15) (rO (gr (si w p2 (Int.toNat (t1)) t0) r0 9) fun b2 => gd (kd (si w p2 (Int.toNat (t1)) t0) b2 = 1 ∧ 0 ≤ l1 ∧ l1 < ln (si w p2 (Int.toNat (t1)) t0) b2) (gd (kd (si w p2 (Int.toNat (t1)) t0) b1 = 1 ∧ 0 ≤ l1 ∧ l1 < ln (si w p2 (Int.toNat (t1)) t0) b1) (some (none, si (si w p2 (Int.toNat (t1)) t0) b1 (Int.toNat (l1)) (gi (si w p2 (Int.toNat (t1)) t0) b2 (Int.toNat (l1)))))))))) := q_iast (q := 48) (L1 := [some (.inr r0), some (.inl l1), none, some (.inl l3)]) rfl rfl rfl (p_aload_n (q := 49) rfl rfl rfl (p_getr (q := 52) rfl rfl rfl rfl (fun b1 => p_iload_n (q := 53) rfl rfl rfl (p_iload_n (q := 54) rfl rfl rfl (p_if_eq (q := 66) (q2 := 57) (off := 12) rfl (by decide) rfl rfl (p_iconst (q := 67) (z := 0) rfl (by decide) rfl (p_iast (q := 68) rfl rfl (p_vret rfl))) (p_aload_n (q := 58) rfl rfl rfl (p_getr (q := 61) rfl rfl rfl rfl (fun b2 => p_iload_n (q := 62) rfl rfl rfl (p_iald (q := 63) rfl rfl rfl (p_goto (q := 67) (off := 4) rfl (by decide) rfl (p_iast (q := 68) rfl rfl (p_vret rfl))))))))))))
/-- Weights.weigh, from 0 -/
theorem b65_0 (X : Nat × (Nat → Int)) (d : Nat) (r0 : Nat) (l1 : Int) (l2 : Int) (w : MW) : run X (d + 1) 65 [.inr r0, .inl l1, .inl l2] w = gd (kd w r0 = 15) (rI (run X d 67 [.inr r0, .inl l1, .inl l2] w) fun v1 w1 => if v1 ≠ (-1 : Int) then (gd (kd w1 r0 = 15) (rO (gr w1 r0 9) fun b2 => gd (kd w1 b2 = 1 ∧ 0 ≤ (wrap ((wrap (l2 * 12)) + v1)) ∧ (wrap ((wrap (l2 * 12)) + v1)) < ln w1 b2) (R X (d + 1) 65 36 [some (.inr r0), some (.inl l1), some (.inl l2), some (.inl v1), some (.inl (wrap ((wrap (l2 * 12)) + v1))), some (.inl (gi w1 b2 (Int.toNat (wrap ((wrap (l2 * 12)) + v1)))))] [] w1))) else (gd (kd w1 r0 = 15) (rV (run X d 69 [.inr r0, .inl l1, .inl l2] w1) fun w3 => some (none, w3)))) := (show R X (d + 1) 65 0 [some (.inr r0), some (.inl l1), some (.inl l2), none, none, none] [] w = _ from p_aload_n (q := 1) rfl rfl rfl (p_iload_n (q := 2) rfl rfl rfl (p_iload_n (q := 3) rfl rfl rfl (p_callVi (q := 6) (s2 := []) rfl rfl rfl rfl rfl rfl rfl (fun v1 w1 => p_istore_n (q := 7) (L2 := [some (.inr r0), some (.inl l1), some (.inl l2), some (.inl v1), none, none]) rfl rfl rfl rfl (p_iload_n (q := 8) rfl rfl rfl (p_iconst (q := 9) (z := (-1)) rfl (by decide) rfl (p_icmp_ne (q := 19) (q2 := 12) (off := 10) rfl (by decide) rfl rfl (p_iload_n (q := 20) rfl rfl rfl (p_bipush (q := 22) (z := 12) rfl (by decide) rfl (p_imul (q := 23) rfl rfl (p_iload_n (q := 24) rfl rfl rfl (p_iadd (q := 25) rfl rfl (p_istore (q := 27) (L2 := [some (.inr r0), some (.inl l1), some (.inl l2), some (.inl v1), some (.inl (wrap ((wrap (l2 * 12)) + v1))), none]) rfl rfl rfl rfl (p_aload_n (q := 28) rfl rfl rfl (p_getr (q := 31) rfl rfl rfl rfl (fun b2 => p_iload (q := 33) rfl rfl rfl (p_iald (q := 34) rfl rfl rfl (p_istore (q := 36) (L2 := [some (.inr r0), some (.inl l1), some (.inl l2), some (.inl v1), some (.inl (wrap ((wrap (l2 * 12)) + v1))), some (.inl (gi w1 b2 (Int.toNat (wrap ((wrap (l2 * 12)) + v1)))))]) rfl rfl rfl rfl (rfl)))))))))))) (p_aload_n (q := 13) rfl rfl rfl (p_iload_n (q := 14) rfl rfl rfl (p_iload_n (q := 15) rfl rfl rfl (p_callVv (q := 18) (s2 := []) rfl rfl rfl rfl rfl rfl rfl (fun w3 => p_vret rfl)))))))))))))
/-- Weights.weigh, from 36 -/
theorem b65_36 (X : Nat × (Nat → Int)) (d : Nat) (r0 : Nat) (l1 : Int) (l2 : Int) (l3 : Int) (l4 : Int) (l5 : Int) (w : MW) : R X (d + 1) 65 36 [some (.inr r0), some (.inl l1), some (.inl l2), some (.inl l3), some (.inl l4), some (.inl l5)] [] w = gd (kd w r0 = 15) (rO (gr w r0 10) fun b1 => gd (kd w b1 = 1 ∧ 0 ≤ l4 ∧ l4 < ln w b1) (if (gi w b1 (Int.toNat (l4))) < l5 then (some (none, w)) else (gd (kd w r0 = 15) (rV (run X d 66 [.inr r0, .inl l1, .inl l2, .inl l3, .inl l5] w) fun w2 => R X (d + 1) 65 36 [some (.inr r0), some (.inl l1), some (.inl l2), some (.inl l3), some (.inl l4), some (.inl (wrap (l5 + 1)))] [] w2)))) := p_iload (q := 38) rfl rfl rfl (p_aload_n (q := 39) rfl rfl rfl (p_getr (q := 42) rfl rfl rfl rfl (fun b1 => p_iload (q := 44) rfl rfl rfl (p_iald (q := 45) rfl rfl rfl (p_icmp_gt (q := 63) (q2 := 48) (off := 18) rfl (by decide) rfl rfl (p_vret rfl) (p_aload_n (q := 49) rfl rfl rfl (p_iload_n (q := 50) rfl rfl rfl (p_iload_n (q := 51) rfl rfl rfl (p_iload_n (q := 52) rfl rfl rfl (p_iload (q := 54) rfl rfl rfl (p_callVv (q := 57) (s2 := []) rfl rfl rfl rfl rfl rfl rfl (fun w2 => p_iinc (q := 60) (z := 1) (L2 := [some (.inr r0), some (.inl l1), some (.inl l2), some (.inl l3), some (.inl l4), some (.inl (wrap (l5 + 1)))]) rfl rfl (by decide) rfl rfl (p_goto (q := 36) (off := (-24)) rfl (by decide) rfl (rfl))))))))))))))
/-- Weights.weighWith, from 0 -/
theorem b66_0 (X : Nat × (Nat → Int)) (d : Nat) (r0 : Nat) (l1 : Int) (l2 : Int) (l3 : Int) (l4 : Int) (w : MW) : run X (d + 1) 66 [.inr r0, .inl l1, .inl l2, .inl l3, .inl l4] w = if (wrap (l2 + 1)) < (12 : Int) then (gd (kd w r0 = 15) (rV (run X d 68 [.inr r0, .inl l2] w) fun w1 => gd (kd w1 r0 = 15) (rO (gr w1 r0 9) fun b2 => gd (kd w1 b2 = 1 ∧ 0 ≤ (wrap ((wrap ((wrap (l2 + 1)) * 12)) + l3)) ∧ (wrap ((wrap ((wrap (l2 + 1)) * 12)) + l3)) < ln w1 b2) (gd (kd (si w1 b2 (Int.toNat (wrap ((wrap ((wrap (l2 + 1)) * 12)) + l3))) l4) r0 = 15) (rO (gr (si w1 b2 (Int.toNat (wrap ((wrap ((wrap (l2 + 1)) * 12)) + l3))) l4) r0 10) fun b3 => gd (kd (si w1 b2 (Int.toNat (wrap ((wrap ((wrap (l2 + 1)) * 12)) + l3))) l4) b3 = 1 ∧ 0 ≤ (wrap ((wrap ((wrap (l2 + 1)) * 12)) + l3)) ∧ (wrap ((wrap ((wrap (l2 + 1)) * 12)) + l3)) < ln (si w1 b2 (Int.toNat (wrap ((wrap ((wrap (l2 + 1)) * 12)) + l3))) l4) b3) (gd (kd (si (si w1 b2 (Int.toNat (wrap ((wrap ((wrap (l2 + 1)) * 12)) + l3))) l4) b3 (Int.toNat (wrap ((wrap ((wrap (l2 + 1)) * 12)) + l3))) l4) r0 = 15) (rI (run X d 57 [.inr r0, .inl (wrap (l2 + 1))] (si (si w1 b2 (Int.toNat (wrap ((wrap ((wrap (l2 + 1)) * 12)) + l3))) l4) b3 (Int.toNat (wrap ((wrap ((wrap (l2 + 1)) * 12)) + l3))) l4)) fun v4 w4 => if v4 = 0 then (some (none, w4)) else (gd (kd w4 r0 = 15) (rV (run X d 65 [.inr r0, .inl l1, .inl (wrap (l2 + 1))] w4) fun w5 => some (none, w5)))))))))) else (some (none, w)) := (show R X (d + 1) 66 0 [some (.inr r0), some (.inl l1), some (.inl l2), some (.inl l3), some (.inl l4), none] [] w = _ from p_iload_n (q := 1) rfl rfl rfl (p_iconst (q := 2) (z := 1) rfl (by decide) rfl (p_iadd (q := 3) rfl rfl (p_istore (q := 5) (L2 := [some (.inr r0), some (.inl l1), some (.inl l2), some (.inl l3), some (.inl l4), some (.inl (wrap (l2 + 1)))]) rfl rfl rfl rfl (p_iload (q := 7) rfl rfl rfl (p_bipush (q := 9) (z := 12) rfl (by decide) rfl (p_icmp_lt (q := 13) (q2 := 12) (off := 4) rfl (by decide) rfl rfl (p_aload_n (q := 14) rfl rfl rfl (p_iload_n (q := 15) rfl rfl rfl (p_callVv (q := 18) (s2 := []) rfl rfl rfl rfl rfl rfl rfl (fun w1 => p_aload_n (q := 19) rfl rfl rfl (p_getr (q := 22) rfl rfl rfl rfl (fun b2 => p_iload (q := 24) rfl rfl rfl (p_bipush (q := 26) (z := 12) rfl (by decide) rfl (p_imul (q := 27) rfl rfl (p_iload_n (q := 28) rfl rfl rfl (p_iadd (q := 29) rfl rfl (p_iload (q := 31) rfl rfl rfl (p_iast (q := 32) rfl rfl (p_aload_n (q := 33) rfl rfl rfl (p_getr (q := 36) rfl rfl rfl rfl (fun b3 => p_iload (q := 38) rfl rfl rfl (p_bipush (q := 40) (z := 12) rfl (by decide) rfl (p_imul (q := 41) rfl rfl (p_iload_n (q := 42) rfl rfl rfl (p_iadd (q := 43) rfl rfl (p_iload (q := 45) rfl rfl rfl (p_iast (q := 46) rfl rfl (p_aload_n (q := 47) rfl rfl rfl (p_iload (q := 49) rfl rfl rfl (p_callVi (q := 52) (s2 := []) rfl rfl rfl rfl rfl rfl rfl (fun v4 w4 => p_if_eq (q := 62) (q2 := 55) (off := 10) rfl (by decide) rfl rfl (p_vret rfl) (p_aload_n (q := 56) rfl rfl rfl (p_iload_n (q := 57) rfl rfl rfl (p_iload (q := 59) rfl rfl rfl (p_callVv (q := 62) (s2 := []) rfl rfl rfl rfl rfl rfl rfl (fun w5 => p_vret rfl)))))))))))))))))))))))))))))) (p_vret rfl))))))))
/-- Weights.firstOpenThing, from 0 -/
theorem b67_0 (X : Nat × (Nat → Int)) (d : Nat) (r0 : Nat) (l1 : Int) (l2 : Int) (w : MW) : run X (d + 1) 67 [.inr r0, .inl l1, .inl l2] w = R X (d + 1) 67 2 [some (.inr r0), some (.inl l1), some (.inl l2), some (.inl 0)] [] w := (show R X (d + 1) 67 0 [some (.inr r0), some (.inl l1), some (.inl l2), none] [] w = _ from p_iconst (q := 1) (z := 0) rfl (by decide) rfl (p_istore_n (q := 2) (L2 := [some (.inr r0), some (.inl l1), some (.inl l2), some (.inl 0)]) rfl rfl rfl rfl (rfl)))
/-- Weights.firstOpenThing, from 2 -/
theorem b67_2 (X : Nat × (Nat → Int)) (d : Nat) (r0 : Nat) (l1 : Int) (l2 : Int) (l3 : Int) (w : MW) : R X (d + 1) 67 2 [some (.inr r0), some (.inl l1), some (.inl l2), some (.inl l3)] [] w = gd (kd w r0 = 15) (if (gi w r0 4) ≤ l3 then (some (some (.inl (-1)), w)) else (gd (kd w r0 = 15) (rO (gr w r0 11) fun b1 => gd (kd w b1 = 1 ∧ 0 ≤ l3 ∧ l3 < ln w b1) (if (gi w b1 (Int.toNat (l3))) ≠ l1 then (R X (d + 1) 67 2 [some (.inr r0), some (.inl l1), some (.inl l2), some (.inl (wrap (l3 + 1)))] [] w) else (gd (kd w r0 = 15) (rI (run X d 61 [.inr r0, .inl (wrap ((wrap (l2 * 12)) + l3))] w) fun v2 w2 => if v2 = 0 then (R X (d + 1) 67 2 [some (.inr r0), some (.inl l1), some (.inl l2), some (.inl (wrap (l3 + 1)))] [] w2) else (some (some (.inl l3), w2)))))))) := p_iload_n (q := 3) rfl rfl rfl (p_aload_n (q := 4) rfl rfl rfl (p_getf (q := 7) rfl rfl rfl rfl (p_icmp_ge (q := 41) (q2 := 10) (off := 34) rfl (by decide) rfl rfl (p_iconst (q := 42) (z := (-1)) rfl (by decide) rfl (p_iret rfl rfl)) (p_aload_n (q := 11) rfl rfl rfl (p_getr (q := 14) rfl rfl rfl rfl (fun b1 => p_iload_n (q := 15) rfl rfl rfl (p_iald (q := 16) rfl rfl rfl (p_iload_n (q := 17) rfl rfl rfl (p_icmp_ne (q := 35) (q2 := 20) (off := 18) rfl (by decide) rfl rfl (p_iinc (q := 38) (z := 1) (L2 := [some (.inr r0), some (.inl l1), some (.inl l2), some (.inl (wrap (l3 + 1)))]) rfl rfl (by decide) rfl rfl (p_goto (q := 2) (off := (-36)) rfl (by decide) rfl (rfl))) (p_aload_n (q := 21) rfl rfl rfl (p_iload_n (q := 22) rfl rfl rfl (p_bipush (q := 24) (z := 12) rfl (by decide) rfl (p_imul (q := 25) rfl rfl (p_iload_n (q := 26) rfl rfl rfl (p_iadd (q := 27) rfl rfl (p_callVi (q := 30) (s2 := []) rfl rfl rfl rfl rfl rfl rfl (fun v2 w2 => p_if_eq (q := 35) (q2 := 33) (off := 5) rfl (by decide) rfl rfl (p_iinc (q := 38) (z := 1) (L2 := [some (.inr r0), some (.inl l1), some (.inl l2), some (.inl (wrap (l3 + 1)))]) rfl rfl (by decide) rfl rfl (p_goto (q := 2) (off := (-36)) rfl (by decide) rfl (rfl))) (p_iload_n (q := 34) rfl rfl rfl (p_iret rfl rfl)))))))))))))))))))
/-- Weights.copyRanges, from 0 -/
theorem b68_0 (X : Nat × (Nat → Int)) (d : Nat) (r0 : Nat) (l1 : Int) (w : MW) : run X d 68 [.inr r0, .inl l1] w = gd (kd w r0 = 15) (rO (gr w r0 9) fun b1 => gd (kd w r0 = 15) (rO (gr w r0 9) fun b2 => gd (kd w b1 = 1 ∧ kd w b2 = 1 ∧ 0 ≤ (wrap (l1 * 12) : Int) ∧ 0 ≤ (wrap ((wrap (l1 * 12)) + 12) : Int) ∧ 0 ≤ (12 : Int) ∧ (wrap (l1 * 12) : Int) + (12 : Int) ≤ ln w b1 ∧ (wrap ((wrap (l1 * 12)) + 12) : Int) + (12 : Int) ≤ ln w b2) (gd (kd (cpw w b1 (Int.toNat (wrap (l1 * 12))) b2 (Int.toNat (wrap ((wrap (l1 * 12)) + 12))) (Int.toNat (12))) r0 = 15) (rO (gr (cpw w b1 (Int.toNat (wrap (l1 * 12))) b2 (Int.toNat (wrap ((wrap (l1 * 12)) + 12))) (Int.toNat (12))) r0 10) fun b3 => gd (kd (cpw w b1 (Int.toNat (wrap (l1 * 12))) b2 (Int.toNat (wrap ((wrap (l1 * 12)) + 12))) (Int.toNat (12))) r0 = 15) (rO (gr (cpw w b1 (Int.toNat (wrap (l1 * 12))) b2 (Int.toNat (wrap ((wrap (l1 * 12)) + 12))) (Int.toNat (12))) r0 10) fun b4 => gd (kd (cpw w b1 (Int.toNat (wrap (l1 * 12))) b2 (Int.toNat (wrap ((wrap (l1 * 12)) + 12))) (Int.toNat (12))) b3 = 1 ∧ kd (cpw w b1 (Int.toNat (wrap (l1 * 12))) b2 (Int.toNat (wrap ((wrap (l1 * 12)) + 12))) (Int.toNat (12))) b4 = 1 ∧ 0 ≤ (wrap (l1 * 12) : Int) ∧ 0 ≤ (wrap ((wrap (l1 * 12)) + 12) : Int) ∧ 0 ≤ (12 : Int) ∧ (wrap (l1 * 12) : Int) + (12 : Int) ≤ ln (cpw w b1 (Int.toNat (wrap (l1 * 12))) b2 (Int.toNat (wrap ((wrap (l1 * 12)) + 12))) (Int.toNat (12))) b3 ∧ (wrap ((wrap (l1 * 12)) + 12) : Int) + (12 : Int) ≤ ln (cpw w b1 (Int.toNat (wrap (l1 * 12))) b2 (Int.toNat (wrap ((wrap (l1 * 12)) + 12))) (Int.toNat (12))) b4) (some (none, cpw (cpw w b1 (Int.toNat (wrap (l1 * 12))) b2 (Int.toNat (wrap ((wrap (l1 * 12)) + 12))) (Int.toNat (12))) b3 (Int.toNat (wrap (l1 * 12))) b4 (Int.toNat (wrap ((wrap (l1 * 12)) + 12))) (Int.toNat (12))))))))) := (show R X d 68 0 [some (.inr r0), some (.inl l1), none] [] w = _ from p_iload_n (q := 1) rfl rfl rfl (p_bipush (q := 3) (z := 12) rfl (by decide) rfl (p_imul (q := 4) rfl rfl (p_istore_n (q := 5) (L2 := [some (.inr r0), some (.inl l1), some (.inl (wrap (l1 * 12)))]) rfl rfl rfl rfl (p_aload_n (q := 6) rfl rfl rfl (p_getr (q := 9) rfl rfl rfl rfl (fun b1 => p_iload_n (q := 10) rfl rfl rfl (p_aload_n (q := 11) rfl rfl rfl (p_getr (q := 14) rfl rfl rfl rfl (fun b2 => p_iload_n (q := 15) rfl rfl rfl (p_bipush (q := 17) (z := 12) rfl (by decide) rfl (p_iadd (q := 18) rfl rfl (p_bipush (q := 20) (z := 12) rfl (by decide) rfl (p_copy (q := 23) rfl rfl (Nat.le_of_ble_eq_true rfl) rfl (p_aload_n (q := 24) rfl rfl rfl (p_getr (q := 27) rfl rfl rfl rfl (fun b3 => p_iload_n (q := 28) rfl rfl rfl (p_aload_n (q := 29) rfl rfl rfl (p_getr (q := 32) rfl rfl rfl rfl (fun b4 => p_iload_n (q := 33) rfl rfl rfl (p_bipush (q := 35) (z := 12) rfl (by decide) rfl (p_iadd (q := 36) rfl rfl (p_bipush (q := 38) (z := 12) rfl (by decide) rfl (p_copy (q := 41) rfl rfl (Nat.le_of_ble_eq_true rfl) rfl (p_vret rfl)))))))))))))))))))))))))
/-- Weights.noteWeighing, from 0 -/
theorem b69_0 (X : Nat × (Nat → Int)) (d : Nat) (r0 : Nat) (l1 : Int) (l2 : Int) (w : MW) : run X d 69 [.inr r0, .inl l1, .inl l2] w = R X d 69 2 [some (.inr r0), some (.inl l1), some (.inl l2), some (.inl 0), none] [] w := (show R X d 69 0 [some (.inr r0), some (.inl l1), some (.inl l2), none, none] [] w = _ from p_iconst (q := 1) (z := 0) rfl (by decide) rfl (p_istore_n (q := 2) (L2 := [some (.inr r0), some (.inl l1), some (.inl l2), some (.inl 0), none]) rfl rfl rfl rfl (rfl)))
/-- Weights.noteWeighing, from 2 -/
theorem b69_2 (X : Nat × (Nat → Int)) (d : Nat) (r0 : Nat) (l1 : Int) (l2 : Int) (l3 : Int) (w : MW) : R X d 69 2 [some (.inr r0), some (.inl l1), some (.inl l2), some (.inl l3), none] [] w = gd (kd w r0 = 15) (if (gi w r0 4) ≤ l3 then (gd (kd w r0 = 15) (gd (kd w r0 = 15) (some (none, si w r0 12 (wrap ((gi w r0 12) + 1)))))) else (gd (kd w r0 = 15) (rO (gr w r0 11) fun b1 => gd (kd w b1 = 1 ∧ 0 ≤ l3 ∧ l3 < ln w b1) (if (gi w b1 (Int.toNat (l3))) ≠ l1 then (R X d 69 2 [some (.inr r0), some (.inl l1), some (.inl l2), some (.inl (wrap (l3 + 1))), none] [] w) else (gd (kd w r0 = 15) (rO (gr w r0 9) fun b2 => gd (kd w b2 = 1 ∧ 0 ≤ (wrap ((wrap (l2 * 12)) + l3)) ∧ (wrap ((wrap (l2 * 12)) + l3)) < ln w b2) (gd (kd w r0 = 15) (if (gi w r0 12) ≠ 0 then (R X d 69 48 [some (.inr r0), some (.inl l1), some (.inl l2), some (.inl l3), some (.inl (gi w b2 (Int.toNat (wrap ((wrap (l2 * 12)) + l3)))))] [] w) else (gd (kd w r0 = 15) (rO (gr w r0 1) fun b3 => gd (kd w b3 = 1 ∧ 0 ≤ l3 ∧ l3 < ln w b3) (R X d 69 48 [some (.inr r0), some (.inl l1), some (.inl l2), some (.inl l3), some (.inl (gi w b2 (Int.toNat (wrap ((wrap (l2 * 12)) + l3)))))] [] (si w b3 (Int.toNat (l3)) (gi w b2 (Int.toNat (wrap ((wrap (l2 * 12)) + l3)))))))))))))))) := q_iload_n (q := 3) (L1 := [some (.inr r0), some (.inl l1), some (.inl l2), some (.inl l3), none]) rfl rfl rfl rfl (p_aload_n (q := 4) rfl rfl rfl (p_getf (q := 7) rfl rfl rfl rfl (p_icmp_ge (q := 88) (q2 := 10) (off := 81) rfl (by decide) rfl rfl (p_aload_n (q := 89) rfl rfl rfl (p_dup (q := 90) rfl rfl (p_getf (q := 93) rfl rfl rfl rfl (p_iconst (q := 94) (z := 1) rfl (by decide) rfl (p_iadd (q := 95) rfl rfl (p_putf (q := 98) rfl rfl rfl rfl (p_vret rfl))))))) (p_aload_n (q := 11) rfl rfl rfl (p_getr (q := 14) rfl rfl rfl rfl (fun b1 => p_iload_n (q := 15) rfl rfl rfl (p_iald (q := 16) rfl rfl rfl (p_iload_n (q := 17) rfl rfl rfl (p_icmp_ne (q := 82) (q2 := 20) (off := 65) rfl (by decide) rfl rfl (p_iinc (q := 85) (z := 1) (L2 := [some (.inr r0), some (.inl l1), some (.inl l2), some (.inl (wrap (l3 + 1))), none]) rfl rfl (by decide) rfl rfl (p_goto (q := 2) (off := (-83)) rfl (by decide) rfl (rfl))) (p_aload_n (q := 21) rfl rfl rfl (p_getr (q := 24) rfl rfl rfl rfl (fun b2 => p_iload_n (q := 25) rfl rfl rfl (p_bipush (q := 27) (z := 12) rfl (by decide) rfl (p_imul (q := 28) rfl rfl (p_iload_n (q := 29) rfl rfl rfl (p_iadd (q := 30) rfl rfl (p_iald (q := 31) rfl rfl rfl (p_istore (q := 33) (L2 := [some (.inr r0), some (.inl l1), some (.inl l2), some (.inl l3), some (.inl (gi w b2 (Int.toNat (wrap ((wrap (l2 * 12)) + l3)))))]) rfl rfl rfl rfl (p_aload_n (q := 34) rfl rfl rfl (p_getf (q := 37) rfl rfl rfl rfl (p_if_ne (q := 48) (q2 := 40) (off := 11) rfl (by decide) rfl rfl (rfl) (p_aload_n (q := 41) rfl rfl rfl (p_getr (q := 44) rfl rfl rfl rfl (fun b3 => p_iload_n (q := 45) rfl rfl rfl (p_iload (q := 47) rfl rfl rfl (p_iast (q := 48) rfl rfl (rfl)))))))))))))))))))))))))))
/-- Weights.noteWeighing, from 48 -/
theorem b69_48 (X : Nat × (Nat → Int)) (d : Nat) (r0 : Nat) (l1 : Int) (l2 : Int) (l3 : Int) (l4 : Int) (w : MW) : R X d 69 48 [some (.inr r0), some (.inl l1), some (.inl l2), some (.inl l3), some (.inl l4)] [] w = gd (kd w r0 = 15) (rO (gr w r0 2) fun b1 => gd (kd w r0 = 15) (rO (gr w r0 2) fun b2 => gd (kd w b2 = 1 ∧ 0 ≤ l3 ∧ l3 < ln w b2) (gd (kd w b1 = 1 ∧ 0 ≤ l3 ∧ l3 < ln w b1) (gd (kd (si w b1 (Int.toNat (l3)) (minI (gi w b2 (Int.toNat (l3))) l4)) r0 = 15) (rO (gr (si w b1 (Int.toNat (l3)) (minI (gi w b2 (Int.toNat (l3))) l4)) r0 3) fun b3 => gd (kd (si w b1 (Int.toNat (l3)) (minI (gi w b2 (Int.toNat (l3))) l4)) r0 = 15) (rO (gr (si w b1 (Int.toNat (l3)) (minI (gi w b2 (Int.toNat (l3))) l4)) r0 3) fun b4 => gd (kd (si w b1 (Int.toNat (l3)) (minI (gi w b2 (Int.toNat (l3))) l4)) b4 = 1 ∧ 0 ≤ l3 ∧ l3 < ln (si w b1 (Int.toNat (l3)) (minI (gi w b2 (Int.toNat (l3))) l4)) b4) (gd (kd (si w b1 (Int.toNat (l3)) (minI (gi w b2 (Int.toNat (l3))) l4)) b3 = 1 ∧ 0 ≤ l3 ∧ l3 < ln (si w b1 (Int.toNat (l3)) (minI (gi w b2 (Int.toNat (l3))) l4)) b3) (R X d 69 2 [some (.inr r0), some (.inl l1), some (.inl l2), some (.inl (wrap (l3 + 1))), none] [] (si (si w b1 (Int.toNat (l3)) (minI (gi w b2 (Int.toNat (l3))) l4)) b3 (Int.toNat (l3)) (maxI (gi (si w b1 (Int.toNat (l3)) (minI (gi w b2 (Int.toNat (l3))) l4)) b4 (Int.toNat (l3))) l4)))))))))) := p_aload_n (q := 49) rfl rfl rfl (p_getr (q := 52) rfl rfl rfl rfl (fun b1 => p_iload_n (q := 53) rfl rfl rfl (p_aload_n (q := 54) rfl rfl rfl (p_getr (q := 57) rfl rfl rfl rfl (fun b2 => p_iload_n (q := 58) rfl rfl rfl (p_iald (q := 59) rfl rfl rfl (p_iload (q := 61) rfl rfl rfl (p_min (q := 64) rfl rfl (Nat.le_of_ble_eq_true rfl) rfl (p_iast (q := 65) rfl rfl (p_aload_n (q := 66) rfl rfl rfl (p_getr (q := 69) rfl rfl rfl rfl (fun b3 => p_iload_n (q := 70) rfl rfl rfl (p_aload_n (q := 71) rfl rfl rfl (p_getr (q := 74) rfl rfl rfl rfl (fun b4 => p_iload_n (q := 75) rfl rfl rfl (p_iald (q := 76) rfl rfl rfl (p_iload (q := 78) rfl rfl rfl (p_max (q := 81) rfl rfl (Nat.le_of_ble_eq_true rfl) rfl (p_iast (q := 82) rfl rfl (p_iinc (q := 85) (z := 1) (L2 := [some (.inr r0), some (.inl l1), some (.inl l2), some (.inl (wrap (l3 + 1))), some (.inl l4)]) rfl rfl (by decide) rfl rfl (p_goto (q := 2) (off := (-83)) rfl (by decide) rfl (q_kill rfl rfl rfl rfl))))))))))))))))))))))
end
section
/-- SometimesSums.<init>, from 0 -/
theorem b70_0 (X : Nat × (Nat → Int)) (d : Nat) (r0 : Nat) (w : MW) : run X (d + 1) 70 [.inr r0] w = gd (kd (al w 13 0 2) (nx w) = 13) (rV (run X d 23 [.inr (nx w)] (al w 13 0 2)) fun w1 => gd (kd w1 r0 = 16) (gd (kd (al (sr w1 r0 0 (some (nx w))) 13 0 2) (nx (sr w1 r0 0 (some (nx w)))) = 13) (rV (run X d 23 [.inr (nx (sr w1 r0 0 (some (nx w))))] (al (sr w1 r0 0 (some (nx w))) 13 0 2)) fun w2 => gd (kd w2 r0 = 16) (gd (kd (sr w2 r0 1 (some (nx (sr w1 r0 0 (some (nx w)))))) r0 = 16 ∧ ((0 : Int) = 0 ∨ (0 : Int) = 1)) (gd (kd (al (si (sr w2 r0 1 (some (nx (sr w1 r0 0 (some (nx w)))))) r0 2 0) 10 0 2) (nx (si (sr w2 r0 1 (some (nx (sr w1 r0 0 (some (nx w)))))) r0 2 0)) = 10) (rV (run X d 1 [.inr (nx (si (sr w2 r0 1 (some (nx (sr w1 r0 0 (some (nx w)))))) r0 2 0))] (al (si (sr w2 r0 1 (some (nx (sr w1 r0 0 (some (nx w)))))) r0 2 0) 10 0 2)) fun w3 => gd (kd w3 r0 = 16) (gd (kd (al (sr w3 r0 3 (some (nx (si (sr w2 r0 1 (some (nx (sr w1 r0 0 (some (nx w)))))) r0 2 0)))) 14 0 7) (nx (sr w3 r0 3 (some (nx (si (sr w2 r0 1 (some (nx (sr w1 r0 0 (some (nx w)))))) r0 2 0))))) = 14) (rV (run X d 43 [.inr (nx (sr w3 r0 3 (some (nx (si (sr w2 r0 1 (some (nx (sr w1 r0 0 (some (nx w)))))) r0 2 0)))))] (al (sr w3 r0 3 (some (nx (si (sr w2 r0 1 (some (nx (sr w1 r0 0 (some (nx w)))))) r0 2 0)))) 14 0 7)) fun w4 => gd (kd w4 r0 = 16) (gd (kd (al (sr w4 r0 4 (some (nx (sr w3 r0 3 (some (nx (si (sr w2 r0 1 (some (nx (sr w1 r0 0 (some (nx w)))))) r0 2 0))))))) 11 0 5) (nx (sr w4 r0 4 (some (nx (sr w3 r0 3 (some (nx (si (sr w2 r0 1 (some (nx (sr w1 r0 0 (some (nx w)))))) r0 2 0)))))))) = 11) (rV (run X d 5 [.inr (nx (sr w4 r0 4 (some (nx (sr w3 r0 3 (some (nx (si (sr w2 r0 1 (some (nx (sr w1 r0 0 (some (nx w)))))) r0 2 0))))))))] (al (sr w4 r0 4 (some (nx (sr w3 r0 3 (some (nx (si (sr w2 r0 1 (some (nx (sr w1 r0 0 (some (nx w)))))) r0 2 0))))))) 11 0 5)) fun w5 => gd (kd w5 r0 = 16) (gd (kd (al (sr w5 r0 5 (some (nx (sr w4 r0 4 (some (nx (sr w3 r0 3 (some (nx (si (sr w2 r0 1 (some (nx (sr w1 r0 0 (some (nx w)))))) r0 2 0)))))))))) 12 0 5) (nx (sr w5 r0 5 (some (nx (sr w4 r0 4 (some (nx (sr w3 r0 3 (some (nx (si (sr w2 r0 1 (some (nx (sr w1 r0 0 (some (nx w)))))) r0 2 0))))))))))) = 12) (rV (run X d 10 [.inr (nx (sr w5 r0 5 (some (nx (sr w4 r0 4 (some (nx (sr w3 r0 3 (some (nx (si (sr w2 r0 1 (some (nx (sr w1 r0 0 (some (nx w)))))) r0 2 0)))))))))))] (al (sr w5 r0 5 (some (nx (sr w4 r0 4 (some (nx (sr w3 r0 3 (some (nx (si (sr w2 r0 1 (some (nx (sr w1 r0 0 (some (nx w)))))) r0 2 0)))))))))) 12 0 5)) fun w6 => gd (kd w6 r0 = 16) (gd (kd (al (sr w6 r0 6 (some (nx (sr w5 r0 5 (some (nx (sr w4 r0 4 (some (nx (sr w3 r0 3 (some (nx (si (sr w2 r0 1 (some (nx (sr w1 r0 0 (some (nx w)))))) r0 2 0))))))))))))) 15 0 13) (nx (sr w6 r0 6 (some (nx (sr w5 r0 5 (some (nx (sr w4 r0 4 (some (nx (sr w3 r0 3 (some (nx (si (sr w2 r0 1 (some (nx (sr w1 r0 0 (some (nx w)))))) r0 2 0)))))))))))))) = 15) (rV (run X d 53 [.inr (nx (sr w6 r0 6 (some (nx (sr w5 r0 5 (some (nx (sr w4 r0 4 (some (nx (sr w3 r0 3 (some (nx (si (sr w2 r0 1 (some (nx (sr w1 r0 0 (some (nx w)))))) r0 2 0))))))))))))))] (al (sr w6 r0 6 (some (nx (sr w5 r0 5 (some (nx (sr w4 r0 4 (some (nx (sr w3 r0 3 (some (nx (si (sr w2 r0 1 (some (nx (sr w1 r0 0 (some (nx w)))))) r0 2 0))))))))))))) 15 0 13)) fun w7 => gd (kd w7 r0 = 16) (gd (kd (al (sr w7 r0 7 (some (nx (sr w6 r0 6 (some (nx (sr w5 r0 5 (some (nx (sr w4 r0 4 (some (nx (sr w3 r0 3 (some (nx (si (sr w2 r0 1 (some (nx (sr w1 r0 0 (some (nx w)))))) r0 2 0)))))))))))))))) 1 12 12) r0 = 16) (some (none, sr (al (sr w7 r0 7 (some (nx (sr w6 r0 6 (some (nx (sr w5 r0 5 (some (nx (sr w4 r0 4 (some (nx (sr w3 r0 3 (some (nx (si (sr w2 r0 1 (some (nx (sr w1 r0 0 (some (nx w)))))) r0 2 0)))))))))))))))) 1 12 12) r0 8 (some (nx (sr w7 r0 7 (some (nx (sr w6 r0 6 (some (nx (sr w5 r0 5 (some (nx (sr w4 r0 4 (some (nx (sr w3 r0 3 (some (nx (si (sr w2 r0 1 (some (nx (sr w1 r0 0 (some (nx w)))))) r0 2 0))))))))))))))))))))))))))))))))))) := (show R X (d + 1) 70 0 [some (.inr r0)] [] w = _ from p_aload_n (q := 1) rfl rfl rfl (p_objinit (q := 4) rfl rfl (Nat.le_of_ble_eq_true rfl) rfl (p_aload_n (q := 5) rfl rfl rfl (p_new (q := 8) rfl rfl rfl (p_dup (q := 9) rfl rfl (p_callIv (q := 12) (s2 := [.inr (nx w), .inr r0]) rfl rfl rfl rfl rfl rfl rfl (fun w1 => p_putr (q := 15) rfl rfl rfl rfl (p_aload_n (q := 16) rfl rfl rfl (p_new (q := 19) rfl rfl rfl (p_dup (q := 20) rfl rfl (p_callIv (q := 23) (s2 := [.inr (nx (sr w1 r0 0 (some (nx w)))), .inr r0]) rfl rfl rfl rfl rfl rfl rfl (fun w2 => p_putr (q := 26) rfl rfl rfl rfl (p_aload_n (q := 27) rfl rfl rfl (p_iconst (q := 28) (z := 0) rfl (by decide) rfl (p_putz (q := 31) rfl rfl rfl rfl (p_aload_n (q := 32) rfl rfl rfl (p_new (q := 35) rfl rfl rfl (p_dup (q := 36) rfl rfl (p_callIv (q := 39) (s2 := [.inr (nx (si (sr w2 r0 1 (some (nx (sr w1 r0 0 (some (nx w)))))) r0 2 0)), .inr r0]) rfl rfl rfl rfl rfl rfl rfl (fun w3 => p_putr (q := 42) rfl rfl rfl rfl (p_aload_n (q := 43) rfl rfl rfl (p_new (q := 46) rfl rfl rfl (p_dup (q := 47) rfl rfl (p_callIv (q := 50) (s2 := [.inr (nx (sr w3 r0 3 (some (nx (si (sr w2 r0 1 (some (nx (sr w1 r0 0 (some (nx w)))))) r0 2 0))))), .inr r0]) rfl rfl rfl rfl rfl rfl rfl (fun w4 => p_putr (q := 53) rfl rfl rfl rfl (p_aload_n (q := 54) rfl rfl rfl (p_new (q := 57) rfl rfl rfl (p_dup (q := 58) rfl rfl (p_callJv (q := 61) (s2 := [.inr (nx (sr w4 r0 4 (some (nx (sr w3 r0 3 (some (nx (si (sr w2 r0 1 (some (nx (sr w1 r0 0 (some (nx w)))))) r0 2 0)))))))), .inr r0]) rfl rfl rfl rfl rfl rfl rfl (fun w5 => p_putr (q := 64) rfl rfl rfl rfl (p_aload_n (q := 65) rfl rfl rfl (p_new (q := 68) rfl rfl rfl (p_dup (q := 69) rfl rfl (p_callIv (q := 72) (s2 := [.inr (nx (sr w5 r0 5 (some (nx (sr w4 r0 4 (some (nx (sr w3 r0 3 (some (nx (si (sr w2 r0 1 (some (nx (sr w1 r0 0 (some (nx w)))))) r0 2 0))))))))))), .inr r0]) rfl rfl rfl rfl rfl rfl rfl (fun w6 => p_putr (q := 75) rfl rfl rfl rfl (p_aload_n (q := 76) rfl rfl rfl (p_new (q := 79) rfl rfl rfl (p_dup (q := 80) rfl rfl (p_callIv (q := 83) (s2 := [.inr (nx (sr w6 r0 6 (some (nx (sr w5 r0 5 (some (nx (sr w4 r0 4 (some (nx (sr w3 r0 3 (some (nx (si (sr w2 r0 1 (some (nx (sr w1 r0 0 (some (nx w)))))) r0 2 0)))))))))))))), .inr r0]) rfl rfl rfl rfl rfl rfl rfl (fun w7 => p_putr (q := 86) rfl rfl rfl rfl (p_aload_n (q := 87) rfl rfl rfl (p_bipush (q := 89) (z := 12) rfl (by decide) rfl (p_newi (q := 91) rfl (by decide) rfl (p_putr (q := 94) rfl rfl rfl rfl (p_vret rfl)))))))))))))))))))))))))))))))))))))))))))))
/-- SometimesSums.take, from 0 -/
theorem b71_0 (X : Nat × (Nat → Int)) (d : Nat) (r0 : Nat) (l1 : Int) (l2 : Int) (w : MW) : run X (d + 1) 71 [.inr r0, .inl l1, .inl l2] w = if l1 = 0 then (R X (d + 1) 71 12 [some (.inr r0), some (.inl l1), some (.inl l2), none] [] w) else (if l1 = (1 : Int) then (R X (d + 1) 71 12 [some (.inr r0), some (.inl l1), some (.inl l2), none] [] w) else (some (some (.inl (-2)), w))) := (show R X (d + 1) 71 0 [some (.inr r0), some (.inl l1), some (.inl l2), none] [] w = _ from p_iload_n (q := 1) rfl rfl rfl (p_if_eq (q := 12) (q2 := 4) (off := 11) rfl (by decide) rfl rfl (rfl) (p_iload_n (q := 5) rfl rfl rfl (p_iconst (q := 6) (z := 1) rfl (by decide) rfl (p_icmp_eq (q := 12) (q2 := 9) (off := 6) rfl (by decide) rfl rfl (rfl) (p_bipush (q := 11) (z := (-2)) rfl (by decide) rfl (p_iret rfl rfl)))))))
/-- SometimesSums.take, from 12 -/
theorem b71_12 (X : Nat × (Nat → Int)) (d : Nat) (r0 : Nat) (l1 : Int) (l2 : Int) (w : MW) : R X (d + 1) 71 12 [some (.inr r0), some (.inl l1), some (.inl l2), none] [] w = if l1 ≠ 0 then (R X (d + 1) 71 22 [some (.inr r0), some (.inl l1), some (.inl l2), none] [.inl 3] w) else (R X (d + 1) 71 22 [some (.inr r0), some (.inl l1), some (.inl l2), none] [.inl 11] w) := q_iload_n (q := 13) (L1 := [some (.inr r0), some (.inl l1), some (.inl l2), none]) rfl rfl rfl rfl (p_if_ne (q := 21) (q2 := 16) (off := 8) rfl (by decide) rfl rfl (p_iconst (q := 22) (z := 3) rfl (by decide) rfl (rfl)) (p_bipush (q := 18) (z := 11) rfl (by decide) rfl (p_goto (q := 22) (off := 4) rfl (by decide) rfl (rfl))))
/-- SometimesSums.take, from 22 -/
theorem b71_22 (X : Nat × (Nat → Int)) (d : Nat) (r0 : Nat) (l1 : Int) (l2 : Int) (t0 : Int) (w : MW) : R X (d + 1) 71 22 [some (.inr r0), some (.inl l1), some (.inl l2), none] [.inl t0] w = if l2 < (1 : Int) then (some (some (.inl (-2)), w)) else (if l2 ≤ t0 then (gd (kd w r0 = 16) (rO (gr w r0 3) fun b1 => gd (kd w r0 = 16) (rO (gr w r0 0) fun b2 => gd (kd w b1 = 10) (rR (run X d 2 [.inr b1, .inr b2] w) fun v3 w3 => if l1 ≠ 0 then (gd (kd w3 r0 = 16) (rO (gr w3 r0 0) fun b4 => gd (kd w3 b4 = 13) (rV (run X d 33 [.inr b4, .inl l2] w3) fun w5 => gd (kd w5 r0 = 16) (rO (gr w5 r0 0) fun b6 => gd (kd w5 b6 = 13) (some (some (.inl (gi w5 b6 0)), w5)))))) else (gd (kd w3 r0 = 16) (rO (gr w3 r0 0) fun b7 => gd (kd w3 b7 = 13) (rV (run X d 28 [.inr b7, .inl 2] w3) fun w8 => gd (kd w8 r0 = 16) (rO (gr w8 r0 0) fun b9 => gd (kd w8 b9 = 13) (rV (run X d 32 [.inr b9, .inl l2] w8) fun w10 => gd (kd w10 r0 = 16) (rO (gr w10 r0 0) fun b11 => gd (kd w10 b11 = 13) (some (some (.inl (gi w10 b11 0)), w10)))))))))))) else (some (some (.inl (-2)), w))) := q_istore_n (q := 23) (L1 := [some (.inr r0), some (.inl l1), some (.inl l2), none]) (L2 := [some (.inr r0), some (.inl l1), some (.inl l2), some (.inl t0)]) rfl rfl rfl rfl rfl (p_iload_n (q := 24) rfl rfl rfl (p_iconst (q := 25) (z := 1) rfl (by decide) rfl (p_icmp_lt (q := 33) (q2 := 28) (off := 8) rfl (by decide) rfl rfl (p_bipush (q := 35) (z := (-2)) rfl (by decide) rfl (p_iret rfl rfl)) (p_iload_n (q := 29) rfl rfl rfl (p_iload_n (q := 30) rfl rfl rfl (p_icmp_le (q := 36) (q2 := 33) (off := 6) rfl (by decide) rfl rfl (p_aload_n (q := 37) rfl rfl rfl (p_getr (q := 40) rfl rfl rfl rfl (fun b1 => p_aload_n (q := 41) rfl rfl rfl (p_getr (q := 44) rfl rfl rfl rfl (fun b2 => p_callVr (q := 47) (s2 := []) rfl rfl rfl rfl rfl rfl rfl (fun v3 w3 => p_pop (q := 48) rfl rfl (p_iload_n (q := 49) rfl rfl rfl (p_if_ne (q := 71) (q2 := 52) (off := 22) rfl (by decide) rfl rfl (p_aload_n (q := 72) rfl rfl rfl (p_getr (q := 75) rfl rfl rfl rfl (fun b4 => p_iload_n (q := 76) rfl rfl rfl (p_callVv (q := 79) (s2 := []) rfl rfl rfl rfl rfl rfl rfl (fun w5 => p_aload_n (q := 80) rfl rfl rfl (p_getr (q := 83) rfl rfl rfl rfl (fun b6 => p_getf (q := 86) rfl rfl rfl rfl (p_iret rfl rfl)))))))) (p_aload_n (q := 53) rfl rfl rfl (p_getr (q := 56) rfl rfl rfl rfl (fun b7 => p_iconst (q := 57) (z := 2) rfl (by decide) rfl (p_callVv (q := 60) (s2 := []) rfl rfl rfl rfl rfl rfl rfl (fun w8 => p_aload_n (q := 61) rfl rfl rfl (p_getr (q := 64) rfl rfl rfl rfl (fun b9 => p_iload_n (q := 65) rfl rfl rfl (p_callVv (q := 68) (s2 := []) rfl rfl rfl rfl rfl rfl rfl (fun w10 => p_goto (q := 79) (off := 11) rfl (by decide) rfl (p_aload_n (q := 80) rfl rfl rfl (p_getr (q := 83) rfl rfl rfl rfl (fun b11 => p_getf (q := 86) rfl rfl rfl rfl (p_iret rfl rfl))))))))))))))))))))) (p_bipush (q := 35) (z := (-2)) rfl (by decide) rfl (p_iret rfl rfl))))))))
/-- SometimesSums.addThing, from 0 -/
theorem b72_0 (X : Nat × (Nat → Int)) (d : Nat) (r0 : Nat) (w : MW) : run X (d + 1) 72 [.inr r0] w = gd (kd w r0 = 16) (rO (gr w r0 0) fun b1 => gd (kd w b1 = 13) (if (gi w b1 0) < (12 : Int) then (gd (kd w r0 = 16) (rO (gr w r0 3) fun b2 => gd (kd w r0 = 16) (rO (gr w r0 0) fun b3 => gd (kd w b2 = 10) (rR (run X d 2 [.inr b2, .inr b3] w) fun v4 w4 => gd (kd w4 r0 = 16) (rO (gr w4 r0 0) fun b5 => gd (kd w4 b5 = 13) (rV (run X d 29 [.inr b5, .inl 1] w4) fun w6 => gd (kd w6 r0 = 16) (rO (gr w6 r0 0) fun b7 => gd (kd w6 b7 = 13) (some (some (.inl (wrap ((gi w6 b7 0) - 1))), w6))))))))) else (some (some (.inl (-3)), w)))) := (show R X (d + 1) 72 0 [some (.inr r0)] [] w = _ from p_aload_n (q := 1) rfl rfl rfl (p_getr (q := 4) rfl rfl rfl rfl (fun b1 => p_getf (q := 7) rfl rfl rfl rfl (p_bipush (q := 9) (z := 12) rfl (by decide) rfl (p_icmp_lt (q := 15) (q2 := 12) (off := 6) rfl (by decide) rfl rfl (p_aload_n (q := 16) rfl rfl rfl (p_getr (q := 19) rfl rfl rfl rfl (fun b2 => p_aload_n (q := 20) rfl rfl rfl (p_getr (q := 23) rfl rfl rfl rfl (fun b3 => p_callVr (q := 26) (s2 := []) rfl rfl rfl rfl rfl rfl rfl (fun v4 w4 => p_pop (q := 27) rfl rfl (p_aload_n (q := 28) rfl rfl rfl (p_getr (q := 31) rfl rfl rfl rfl (fun b5 => p_iconst (q := 32) (z := 1) rfl (by decide) rfl (p_callVv (q := 35) (s2 := []) rfl rfl rfl rfl rfl rfl rfl (fun w6 => p_aload_n (q := 36) rfl rfl rfl (p_getr (q := 39) rfl rfl rfl rfl (fun b7 => p_getf (q := 42) rfl rfl rfl rfl (p_iconst (q := 43) (z := 1) rfl (by decide) rfl (p_isub (q := 44) rfl rfl (p_iret rfl rfl)))))))))))))))) (p_bipush (q := 14) (z := (-3)) rfl (by decide) rfl (p_iret rfl rfl)))))))
/-- SometimesSums.removeThing, from 0 -/
theorem b73_0 (X : Nat × (Nat → Int)) (d : Nat) (r0 : Nat) (l1 : Int) (w : MW) : run X (d + 1) 73 [.inr r0, .inl l1] w = gd (kd w r0 = 16) (rO (gr w r0 0) fun b1 => gd (kd w b1 = 13) (rI (run X d 24 [.inr b1, .inl l1] w) fun v2 w2 => if v2 ≠ 0 then (rI (run X d 96 [.inl l1] w2) fun v3 w3 => if v3 = 0 then (gd (kd w3 r0 = 16) (rO (gr w3 r0 3) fun b4 => gd (kd w3 r0 = 16) (rO (gr w3 r0 0) fun b5 => gd (kd w3 b4 = 10) (rR (run X d 2 [.inr b4, .inr b5] w3) fun v6 w6 => R X (d + 1) 73 37 [some (.inr r0), some (.inl l1), some (.inr v6), some (.inl 0)] [] w6)))) else (some (some (.inl (-4)), w3))) else (some (some (.inl (-1)), w2)))) := (show R X (d + 1) 73 0 [some (.inr r0), some (.inl l1), none, none] [] w = _ from p_aload_n (q := 1) rfl rfl rfl (p_getr (q := 4) rfl rfl rfl rfl (fun b1 => p_iload_n (q := 5) rfl rfl rfl (p_callVi (q := 8) (s2 := []) rfl rfl rfl rfl rfl rfl rfl (fun v2 w2 => p_if_ne (q := 13) (q2 := 11) (off := 5) rfl (by decide) rfl rfl (p_iload_n (q := 14) rfl rfl rfl (p_callSi (q := 17) (s2 := []) rfl rfl rfl rfl rfl rfl (fun v3 w3 => p_if_eq (q := 23) (q2 := 20) (off := 6) rfl (by decide) rfl rfl (p_aload_n (q := 24) rfl rfl rfl (p_getr (q := 27) rfl rfl rfl rfl (fun b4 => p_aload_n (q := 28) rfl rfl rfl (p_getr (q := 31) rfl rfl rfl rfl (fun b5 => p_callVr (q := 34) (s2 := []) rfl rfl rfl rfl rfl rfl rfl (fun v6 w6 => p_astore_n (q := 35) (L2 := [some (.inr r0), some (.inl l1), some (.inr v6), none]) rfl rfl rfl rfl (p_iconst (q := 36) (z := 0) rfl (by decide) rfl (p_istore_n (q := 37) (L2 := [some (.inr r0), some (.inl l1), some (.inr v6), some (.inl 0)]) rfl rfl rfl rfl (rfl))))))))) (p_bipush (q := 22) (z := (-4)) rfl (by decide) rfl (p_iret rfl rfl))))) (p_iconst (q := 12) (z := (-1)) rfl (by decide) rfl (p_iret rfl rfl)))))))
/-- SometimesSums.removeThing, from 37 -/
theorem b73_37 (X : Nat × (Nat → Int)) (d : Nat) (r0 : Nat) (l1 : Int) (r2 : Nat) (l3 : Int) (w : MW) : R X (d + 1) 73 37 [some (.inr r0), some (.inl l1), some (.inr r2), some (.inl l3)] [] w = if (12 : Int) ≤ l3 then (gd (kd w r0 = 16) (rO (gr w r0 8) fun b1 => gd (kd w b1 = 1 ∧ 0 ≤ l1 ∧ l1 < ln w b1) (gd (kd (si w b1 (Int.toNat (l1)) (-1 : Int)) r0 = 16) (rO (gr (si w b1 (Int.toNat (l1)) (-1 : Int)) r0 0) fun b2 => gd (kd (si w b1 (Int.toNat (l1)) (-1 : Int)) r2 = 13) (gd (kd (si w b1 (Int.toNat (l1)) (-1 : Int)) b2 = 13) (rV (run X d 28 [.inr b2, .inl (wrap ((gi (si w b1 (Int.toNat (l1)) (-1 : Int)) r2 0) - 1))] (si w b1 (Int.toNat (l1)) (-1 : Int))) fun w3 => gd (kd w3 r0 = 16) (rO (gr w3 r0 0) fun b4 => gd (kd w3 r0 = 16) (rO (gr w3 r0 8) fun b5 => gd (kd w3 b4 = 13) (rV (run X d 31 [.inr b4, .inr r2, .inr b5] w3) fun w6 => gd (kd w6 r0 = 16) (rO (gr w6 r0 0) fun b7 => gd (kd w6 b7 = 13) (some (some (.inl (gi w6 b7 0)), w6)))))))))))) else (gd (kd w r0 = 16) (rO (gr w r0 8) fun b8 => if l1 ≤ l3 then (gd (kd w b8 = 1 ∧ 0 ≤ l3 ∧ l3 < ln w b8) (R X (d + 1) 73 37 [some (.inr r0), some (.inl l1), some (.inr r2), some (.inl (wrap (l3 + 1)))] [] (si w b8 (Int.toNat (l3)) (wrap (l3 - 1))))) else (gd (kd w b8 = 1 ∧ 0 ≤ l3 ∧ l3 < ln w b8) (R X (d + 1) 73 37 [some (.inr r0), some (.inl l1), some (.inr r2), some (.inl (wrap (l3 + 1)))] [] (si w b8 (Int.toNat (l3)) l3))))) := p_iload_n (q := 38) rfl rfl rfl (p_bipush (q := 40) (z := 12) rfl (by decide) rfl (p_icmp_ge (q := 67) (q2 := 43) (off := 27) rfl (by decide) rfl rfl (p_aload_n (q := 68) rfl rfl rfl (p_getr (q := 71) rfl rfl rfl rfl (fun b1 => p_iload_n (q := 72) rfl rfl rfl (p_iconst (q := 73) (z := (-1)) rfl (by decide) rfl (p_iast (q := 74) rfl rfl (p_aload_n (q := 75) rfl rfl rfl (p_getr (q := 78) rfl rfl rfl rfl (fun b2 => p_aload_n (q := 79) rfl rfl rfl (p_getf (q := 82) rfl rfl rfl rfl (p_iconst (q := 83) (z := 1) rfl (by decide) rfl (p_isub (q := 84) rfl rfl (p_callVv (q := 87) (s2 := []) rfl rfl rfl rfl rfl rfl rfl (fun w3 => p_aload_n (q := 88) rfl rfl rfl (p_getr (q := 91) rfl rfl rfl rfl (fun b4 => p_aload_n (q := 92) rfl rfl rfl (p_aload_n (q := 93) rfl rfl rfl (p_getr (q := 96) rfl rfl rfl rfl (fun b5 => p_callVv (q := 99) (s2 := []) rfl rfl rfl rfl rfl rfl rfl (fun w6 => p_aload_n (q := 100) rfl rfl rfl (p_getr (q := 103) rfl rfl rfl rfl (fun b7 => p_getf (q := 106) rfl rfl rfl rfl (p_iret rfl rfl)))))))))))))))))))))) (p_aload_n (q := 44) rfl rfl rfl (p_getr (q := 47) rfl rfl rfl rfl (fun b8 => p_iload_n (q := 48) rfl rfl rfl (p_iload_n (q := 49) rfl rfl rfl (p_iload_n (q := 50) rfl rfl rfl (p_icmp_ge (q := 57) (q2 := 53) (off := 7) rfl (by decide) rfl rfl (p_iload_n (q := 58) rfl rfl rfl (p_iconst (q := 59) (z := 1) rfl (by decide) rfl (p_isub (q := 60) rfl rfl (p_iast (q := 61) rfl rfl (p_iinc (q := 64) (z := 1) (L2 := [some (.inr r0), some (.inl l1), some (.inr r2), some (.inl (wrap (l3 + 1)))]) rfl rfl (by decide) rfl rfl (p_goto (q := 37) (off := (-27)) rfl (by decide) rfl (rfl))))))) (p_iload_n (q := 54) rfl rfl rfl (p_goto (q := 60) (off := 6) rfl (by decide) rfl (p_iast (q := 61) rfl rfl (p_iinc (q := 64) (z := 1) (L2 := [some (.inr r0), some (.inl l1), some (.inr r2), some (.inl (wrap (l3 + 1)))]) rfl rfl (by decide) rfl rfl (p_goto (q := 37) (off := (-27)) rfl (by decide) rfl (rfl))))))))))))))
/-- SometimesSums.setSum, from 0 -/
theorem b74_0 (X : Nat × (Nat → Int)) (d : Nat) (r0 : Nat) (l1 : Int) (l2 : Int) (l3 : Int) (w : MW) : run X (d + 1) 74 [.inr r0, .inl l1, .inl l2, .inl l3] w = gd (kd w r0 = 16) (rO (gr w r0 0) fun b1 => gd (kd w b1 = 13) (rI (run X d 24 [.inr b1, .inl l1] w) fun v2 w2 => if v2 = 0 then (some (some (.inl (-1)), w2)) else (gd (kd w2 r0 = 16) (rO (gr w2 r0 0) fun b3 => gd (kd w2 b3 = 13) (rI (run X d 24 [.inr b3, .inl l2] w2) fun v4 w4 => if v4 = 0 then (some (some (.inl (-1)), w4)) else (gd (kd w4 r0 = 16) (rO (gr w4 r0 0) fun b5 => gd (kd w4 b5 = 13) (rI (run X d 24 [.inr b5, .inl l3] w4) fun v6 w6 => if v6 ≠ 0 then (if l1 = 0 then (some (some (.inl (-4)), w6)) else (if l2 ≠ 0 then (gd (kd w6 r0 = 16) (rO (gr w6 r0 0) fun b7 => gd (kd w6 b7 = 13) (rI (run X d 25 [.inr b7, .inl l1, .inl l2] w6) fun v8 w8 => if v8 ≠ l3 then (gd (kd w8 r0 = 16) (rO (gr w8 r0 3) fun b9 => gd (kd w8 r0 = 16) (rO (gr w8 r0 0) fun b10 => gd (kd w8 b9 = 10) (rR (run X d 2 [.inr b9, .inr b10] w8) fun v11 w11 => gd (kd w11 r0 = 16) (rO (gr w11 r0 0) fun b12 => gd (kd w11 b12 = 13) (rV (run X d 27 [.inr b12, .inl l1, .inl l2, .inl l3] w11) fun w13 => some (some (.inl v8), w13))))))) else (some (some (.inl (-5)), w8))))) else (some (some (.inl (-4)), w6)))) else (some (some (.inl (-1)), w6)))))))))) := (show R X (d + 1) 74 0 [some (.inr r0), some (.inl l1), some (.inl l2), some (.inl l3), none] [] w = _ from p_aload_n (q := 1) rfl rfl rfl (p_getr (q := 4) rfl rfl rfl rfl (fun b1 => p_iload_n (q := 5) rfl rfl rfl (p_callVi (q := 8) (s2 := []) rfl rfl rfl rfl rfl rfl rfl (fun v2 w2 => p_if_eq (q := 33) (q2 := 11) (off := 25) rfl (by decide) rfl rfl (p_iconst (q := 34) (z := (-1)) rfl (by decide) rfl (p_iret rfl rfl)) (p_aload_n (q := 12) rfl rfl rfl (p_getr (q := 15) rfl rfl rfl rfl (fun b3 => p_iload_n (q := 16) rfl rfl rfl (p_callVi (q := 19) (s2 := []) rfl rfl rfl rfl rfl rfl rfl (fun v4 w4 => p_if_eq (q := 33) (q2 := 22) (off := 14) rfl (by decide) rfl rfl (p_iconst (q := 34) (z := (-1)) rfl (by decide) rfl (p_iret rfl rfl)) (p_aload_n (q := 23) rfl rfl rfl (p_getr (q := 26) rfl rfl rfl rfl (fun b5 => p_iload_n (q := 27) rfl rfl rfl (p_callVi (q := 30) (s2 := []) rfl rfl rfl rfl rfl rfl rfl (fun v6 w6 => p_if_ne (q := 35) (q2 := 33) (off := 5) rfl (by decide) rfl rfl (p_iload_n (q := 36) rfl rfl rfl (p_if_eq (q := 43) (q2 := 39) (off := 7) rfl (by decide) rfl rfl (p_bipush (q := 45) (z := (-4)) rfl (by decide) rfl (p_iret rfl rfl)) (p_iload_n (q := 40) rfl rfl rfl (p_if_ne (q := 46) (q2 := 43) (off := 6) rfl (by decide) rfl rfl (p_aload_n (q := 47) rfl rfl rfl (p_getr (q := 50) rfl rfl rfl rfl (fun b7 => p_iload_n (q := 51) rfl rfl rfl (p_iload_n (q := 52) rfl rfl rfl (p_callVi (q := 55) (s2 := []) rfl rfl rfl rfl rfl rfl rfl (fun v8 w8 => p_istore (q := 57) (L2 := [some (.inr r0), some (.inl l1), some (.inl l2), some (.inl l3), some (.inl v8)]) rfl rfl rfl rfl (p_iload (q := 59) rfl rfl rfl (p_iload_n (q := 60) rfl rfl rfl (p_icmp_ne (q := 66) (q2 := 63) (off := 6) rfl (by decide) rfl rfl (p_aload_n (q := 67) rfl rfl rfl (p_getr (q := 70) rfl rfl rfl rfl (fun b9 => p_aload_n (q := 71) rfl rfl rfl (p_getr (q := 74) rfl rfl rfl rfl (fun b10 => p_callVr (q := 77) (s2 := []) rfl rfl rfl rfl rfl rfl rfl (fun v11 w11 => p_pop (q := 78) rfl rfl (p_aload_n (q := 79) rfl rfl rfl (p_getr (q := 82) rfl rfl rfl rfl (fun b12 => p_iload_n (q := 83) rfl rfl rfl (p_iload_n (q := 84) rfl rfl rfl (p_iload_n (q := 85) rfl rfl rfl (p_callVv (q := 88) (s2 := []) rfl rfl rfl rfl rfl rfl rfl (fun w13 => p_iload (q := 90) rfl rfl rfl (p_iret rfl rfl)))))))))))))) (p_bipush (q := 65) (z := (-5)) rfl (by decide) rfl (p_iret rfl rfl))))))))))) (p_bipush (q := 45) (z := (-4)) rfl (by decide) rfl (p_iret rfl rfl)))))) (p_iconst (q := 34) (z := (-1)) rfl (by decide) rfl (p_iret rfl rfl)))))))))))))))))
/-- SometimesSums.clearSum, from 0 -/
theorem b75_0 (X : Nat × (Nat → Int)) (d : Nat) (r0 : Nat) (l1 : Int) (l2 : Int) (w : MW) : run X (d + 1) 75 [.inr r0, .inl l1, .inl l2] w = gd (kd w r0 = 16) (rO (gr w r0 0) fun b1 => gd (kd w b1 = 13) (rI (run X d 24 [.inr b1, .inl l1] w) fun v2 w2 => if v2 = 0 then (some (some (.inl (-1)), w2)) else (gd (kd w2 r0 = 16) (rO (gr w2 r0 0) fun b3 => gd (kd w2 b3 = 13) (rI (run X d 24 [.inr b3, .inl l2] w2) fun v4 w4 => if v4 ≠ 0 then (if l1 = 0 then (some (some (.inl (-4)), w4)) else (if l2 ≠ 0 then (gd (kd w4 r0 = 16) (rO (gr w4 r0 0) fun b5 => gd (kd w4 b5 = 13) (rI (run X d 25 [.inr b5, .inl l1, .inl l2] w4) fun v6 w6 => if v6 ≠ (12 : Int) then (gd (kd w6 r0 = 16) (rO (gr w6 r0 3) fun b7 => gd (kd w6 r0 = 16) (rO (gr w6 r0 0) fun b8 => gd (kd w6 b7 = 10) (rR (run X d 2 [.inr b7, .inr b8] w6) fun v9 w9 => gd (kd w9 r0 = 16) (rO (gr w9 r0 0) fun b10 => gd (kd w9 b10 = 13) (rV (run X d 27 [.inr b10, .inl l1, .inl l2, .inl 12] w9) fun w11 => some (some (.inl v6), w11))))))) else (some (some (.inl (-5)), w6))))) else (some (some (.inl (-4)), w4)))) else (some (some (.inl (-1)), w4))))))) := (show R X (d + 1) 75 0 [some (.inr r0), some (.inl l1), some (.inl l2), none] [] w = _ from p_aload_n (q := 1) rfl rfl rfl (p_getr (q := 4) rfl rfl rfl rfl (fun b1 => p_iload_n (q := 5) rfl rfl rfl (p_callVi (q := 8) (s2 := []) rfl rfl rfl rfl rfl rfl rfl (fun v2 w2 => p_if_eq (q := 22) (q2 := 11) (off := 14) rfl (by decide) rfl rfl (p_iconst (q := 23) (z := (-1)) rfl (by decide) rfl (p_iret rfl rfl)) (p_aload_n (q := 12) rfl rfl rfl (p_getr (q := 15) rfl rfl rfl rfl (fun b3 => p_iload_n (q := 16) rfl rfl rfl (p_callVi (q := 19) (s2 := []) rfl rfl rfl rfl rfl rfl rfl (fun v4 w4 => p_if_ne (q := 24) (q2 := 22) (off := 5) rfl (by decide) rfl rfl (p_iload_n (q := 25) rfl rfl rfl (p_if_eq (q := 32) (q2 := 28) (off := 7) rfl (by decide) rfl rfl (p_bipush (q := 34) (z := (-4)) rfl (by decide) rfl (p_iret rfl rfl)) (p_iload_n (q := 29) rfl rfl rfl (p_if_ne (q := 35) (q2 := 32) (off := 6) rfl (by decide) rfl rfl (p_aload_n (q := 36) rfl rfl rfl (p_getr (q := 39) rfl rfl rfl rfl (fun b5 => p_iload_n (q := 40) rfl rfl rfl (p_iload_n (q := 41) rfl rfl rfl (p_callVi (q := 44) (s2 := []) rfl rfl rfl rfl rfl rfl rfl (fun v6 w6 => p_istore_n (q := 45) (L2 := [some (.inr r0), some (.inl l1), some (.inl l2), some (.inl v6)]) rfl rfl rfl rfl (p_iload_n (q := 46) rfl rfl rfl (p_bipush (q := 48) (z := 12) rfl (by decide) rfl (p_icmp_ne (q := 54) (q2 := 51) (off := 6) rfl (by decide) rfl rfl (p_aload_n (q := 55) rfl rfl rfl (p_getr (q := 58) rfl rfl rfl rfl (fun b7 => p_aload_n (q := 59) rfl rfl rfl (p_getr (q := 62) rfl rfl rfl rfl (fun b8 => p_callVr (q := 65) (s2 := []) rfl rfl rfl rfl rfl rfl rfl (fun v9 w9 => p_pop (q := 66) rfl rfl (p_aload_n (q := 67) rfl rfl rfl (p_getr (q := 70) rfl rfl rfl rfl (fun b10 => p_iload_n (q := 71) rfl rfl rfl (p_iload_n (q := 72) rfl rfl rfl (p_bipush (q := 74) (z := 12) rfl (by decide) rfl (p_callVv (q := 77) (s2 := []) rfl rfl rfl rfl rfl rfl rfl (fun w11 => p_iload_n (q := 78) rfl rfl rfl (p_iret rfl rfl)))))))))))))) (p_bipush (q := 53) (z := (-5)) rfl (by decide) rfl (p_iret rfl rfl))))))))))) (p_bipush (q := 34) (z := (-4)) rfl (by decide) rfl (p_iret rfl rfl)))))) (p_iconst (q := 23) (z := (-1)) rfl (by decide) rfl (p_iret rfl rfl))))))))))))
/-- SometimesSums.glue, from 0 -/
theorem b77_0 (X : Nat × (Nat → Int)) (d : Nat) (r0 : Nat) (l1 : Int) (w : MW) : run X (d + 1) 77 [.inr r0, .inl l1] w = if l1 < (2 : Int) then (some (some (.inl (-2)), w)) else (if l1 ≤ (11 : Int) then (gd (kd w r0 = 16) (rO (gr w r0 0) fun b1 => gd (kd w b1 = 13) (if (wrap ((wrap ((gi w b1 0) + l1)) - 1)) ≤ (12 : Int) then (gd (kd w r0 = 16) (rO (gr w r0 3) fun b2 => gd (kd w r0 = 16) (rO (gr w r0 0) fun b3 => gd (kd w b2 = 10) (rR (run X d 2 [.inr b2, .inr b3] w) fun v4 w4 => gd (kd w4 r0 = 16) (rO (gr w4 r0 0) fun b5 => gd (kd w4 b5 = 13) (rV (run X d 32 [.inr b5, .inl l1] w4) fun w6 => gd (kd w6 r0 = 16) (rO (gr w6 r0 0) fun b7 => gd (kd w6 b7 = 13) (some (some (.inl (gi w6 b7 0)), w6))))))))) else (some (some (.inl (-3)), w))))) else (some (some (.inl (-2)), w))) := (show R X (d + 1) 77 0 [some (.inr r0), some (.inl l1)] [] w = _ from p_iload_n (q := 1) rfl rfl rfl (p_iconst (q := 2) (z := 2) rfl (by decide) rfl (p_icmp_lt (q := 11) (q2 := 5) (off := 9) rfl (by decide) rfl rfl (p_bipush (q := 13) (z := (-2)) rfl (by decide) rfl (p_iret rfl rfl)) (p_iload_n (q := 6) rfl rfl rfl (p_bipush (q := 8) (z := 11) rfl (by decide) rfl (p_icmp_le (q := 14) (q2 := 11) (off := 6) rfl (by decide) rfl rfl (p_aload_n (q := 15) rfl rfl rfl (p_getr (q := 18) rfl rfl rfl rfl (fun b1 => p_getf (q := 21) rfl rfl rfl rfl (p_iload_n (q := 22) rfl rfl rfl (p_iadd (q := 23) rfl rfl (p_iconst (q := 24) (z := 1) rfl (by decide) rfl (p_isub (q := 25) rfl rfl (p_bipush (q := 27) (z := 12) rfl (by decide) rfl (p_icmp_le (q := 33) (q2 := 30) (off := 6) rfl (by decide) rfl rfl (p_aload_n (q := 34) rfl rfl rfl (p_getr (q := 37) rfl rfl rfl rfl (fun b2 => p_aload_n (q := 38) rfl rfl rfl (p_getr (q := 41) rfl rfl rfl rfl (fun b3 => p_callVr (q := 44) (s2 := []) rfl rfl rfl rfl rfl rfl rfl (fun v4 w4 => p_pop (q := 45) rfl rfl (p_aload_n (q := 46) rfl rfl rfl (p_getr (q := 49) rfl rfl rfl rfl (fun b5 => p_iload_n (q := 50) rfl rfl rfl (p_callVv (q := 53) (s2 := []) rfl rfl rfl rfl rfl rfl rfl (fun w6 => p_aload_n (q := 54) rfl rfl rfl (p_getr (q := 57) rfl rfl rfl rfl (fun b7 => p_getf (q := 60) rfl rfl rfl rfl (p_iret rfl rfl)))))))))))))) (p_bipush (q := 32) (z := (-3)) rfl (by decide) rfl (p_iret rfl rfl))))))))))) (p_bipush (q := 13) (z := (-2)) rfl (by decide) rfl (p_iret rfl rfl))))))))
/-- SometimesSums.twice, from 0 -/
theorem b78_0 (X : Nat × (Nat → Int)) (d : Nat) (r0 : Nat) (w : MW) : run X (d + 1) 78 [.inr r0] w = gd (kd w r0 = 16) (rO (gr w r0 0) fun b1 => gd (kd w b1 = 13) (if (wrap (2 * (gi w b1 0))) ≤ (12 : Int) then (gd (kd w r0 = 16) (rO (gr w r0 3) fun b2 => gd (kd w r0 = 16) (rO (gr w r0 0) fun b3 => gd (kd w b2 = 10) (rR (run X d 2 [.inr b2, .inr b3] w) fun v4 w4 => gd (kd w4 r0 = 16) (rO (gr w4 r0 0) fun b5 => gd (kd w4 b5 = 13) (rV (run X d 35 [.inr b5, .inr v4] w4) fun w6 => gd (kd w6 r0 = 16) (rO (gr w6 r0 0) fun b7 => gd (kd w6 b7 = 13) (some (some (.inl (gi w6 b7 0)), w6))))))))) else (some (some (.inl (-3)), w)))) := (show R X (d + 1) 78 0 [some (.inr r0), none] [] w = _ from p_iconst (q := 1) (z := 2) rfl (by decide) rfl (p_aload_n (q := 2) rfl rfl rfl (p_getr (q := 5) rfl rfl rfl rfl (fun b1 => p_getf (q := 8) rfl rfl rfl rfl (p_imul (q := 9) rfl rfl (p_bipush (q := 11) (z := 12) rfl (by decide) rfl (p_icmp_le (q := 17) (q2 := 14) (off := 6) rfl (by decide) rfl rfl (p_aload_n (q := 18) rfl rfl rfl (p_getr (q := 21) rfl rfl rfl rfl (fun b2 => p_aload_n (q := 22) rfl rfl rfl (p_getr (q := 25) rfl rfl rfl rfl (fun b3 => p_callVr (q := 28) (s2 := []) rfl rfl rfl rfl rfl rfl rfl (fun v4 w4 => p_astore_n (q := 29) (L2 := [some (.inr r0), some (.inr v4)]) rfl rfl rfl rfl (p_aload_n (q := 30) rfl rfl rfl (p_getr (q := 33) rfl rfl rfl rfl (fun b5 => p_aload_n (q := 34) rfl rfl rfl (p_callVv (q := 37) (s2 := []) rfl rfl rfl rfl rfl rfl rfl (fun w6 => p_aload_n (q := 38) rfl rfl rfl (p_getr (q := 41) rfl rfl rfl rfl (fun b7 => p_getf (q := 44) rfl rfl rfl rfl (p_iret rfl rfl)))))))))))))) (p_bipush (q := 16) (z := (-3)) rfl (by decide) rfl (p_iret rfl rfl)))))))))
/-- SometimesSums.swap, from 0 -/
theorem b79_0 (X : Nat × (Nat → Int)) (d : Nat) (r0 : Nat) (l1 : Int) (l2 : Int) (w : MW) : run X (d + 1) 79 [.inr r0, .inl l1, .inl l2] w = gd (kd w r0 = 16) (rO (gr w r0 0) fun b1 => gd (kd w b1 = 13) (rI (run X d 24 [.inr b1, .inl l1] w) fun v2 w2 => if v2 = 0 then (some (some (.inl (-1)), w2)) else (gd (kd w2 r0 = 16) (rO (gr w2 r0 0) fun b3 => gd (kd w2 b3 = 13) (rI (run X d 24 [.inr b3, .inl l2] w2) fun v4 w4 => if v4 ≠ 0 then (rI (run X d 96 [.inl l1] w4) fun v5 w5 => if v5 ≠ 0 then (some (some (.inl (-4)), w5)) else (rI (run X d 96 [.inl l2] w5) fun v6 w6 => if v6 = 0 then (if l1 ≠ l2 then (gd (kd w6 r0 = 16) (rO (gr w6 r0 3) fun b7 => gd (kd w6 r0 = 16) (rO (gr w6 r0 0) fun b8 => gd (kd w6 b7 = 10) (rR (run X d 2 [.inr b7, .inr b8] w6) fun v9 w9 => R X (d + 1) 79 64 [some (.inr r0), some (.inl l1), some (.inl l2), some (.inr v9), some (.inl 0)] [] w9)))) else (some (some (.inl (-5)), w6))) else (some (some (.inl (-4)), w6)))) else (some (some (.inl (-1)), w4))))))) := (show R X (d + 1) 79 0 [some (.inr r0), some (.inl l1), some (.inl l2), none, none] [] w = _ from p_aload_n (q := 1) rfl rfl rfl (p_getr (q := 4) rfl rfl rfl rfl (fun b1 => p_iload_n (q := 5) rfl rfl rfl (p_callVi (q := 8) (s2 := []) rfl rfl rfl rfl rfl rfl rfl (fun v2 w2 => p_if_eq (q := 22) (q2 := 11) (off := 14) rfl (by decide) rfl rfl (p_iconst (q := 23) (z := (-1)) rfl (by decide) rfl (p_iret rfl rfl)) (p_aload_n (q := 12) rfl rfl rfl (p_getr (q := 15) rfl rfl rfl rfl (fun b3 => p_iload_n (q := 16) rfl rfl rfl (p_callVi (q := 19) (s2 := []) rfl rfl rfl rfl rfl rfl rfl (fun v4 w4 => p_if_ne (q := 24) (q2 := 22) (off := 5) rfl (by decide) rfl rfl (p_iload_n (q := 25) rfl rfl rfl (p_callSi (q := 28) (s2 := []) rfl rfl rfl rfl rfl rfl (fun v5 w5 => p_if_ne (q := 38) (q2 := 31) (off := 10) rfl (by decide) rfl rfl (p_bipush (q := 40) (z := (-4)) rfl (by decide) rfl (p_iret rfl rfl)) (p_iload_n (q := 32) rfl rfl rfl (p_callSi (q := 35) (s2 := []) rfl rfl rfl rfl rfl rfl (fun v6 w6 => p_if_eq (q := 41) (q2 := 38) (off := 6) rfl (by decide) rfl rfl (p_iload_n (q := 42) rfl rfl rfl (p_iload_n (q := 43) rfl rfl rfl (p_icmp_ne (q := 49) (q2 := 46) (off := 6) rfl (by decide) rfl rfl (p_aload_n (q := 50) rfl rfl rfl (p_getr (q := 53) rfl rfl rfl rfl (fun b7 => p_aload_n (q := 54) rfl rfl rfl (p_getr (q := 57) rfl rfl rfl rfl (fun b8 => p_callVr (q := 60) (s2 := []) rfl rfl rfl rfl rfl rfl rfl (fun v9 w9 => p_astore_n (q := 61) (L2 := [some (.inr r0), some (.inl l1), some (.inl l2), some (.inr v9), none]) rfl rfl rfl rfl (p_iconst (q := 62) (z := 0) rfl (by decide) rfl (p_istore (q := 64) (L2 := [some (.inr r0), some (.inl l1), some (.inl l2), some (.inr v9), some (.inl 0)]) rfl rfl rfl rfl (rfl))))))))) (p_bipush (q := 48) (z := (-5)) rfl (by decide) rfl (p_iret rfl rfl))))) (p_bipush (q := 40) (z := (-4)) rfl (by decide) rfl (p_iret rfl rfl)))))))) (p_iconst (q := 23) (z := (-1)) rfl (by decide) rfl (p_iret rfl rfl))))))))))))
/-- SometimesSums.swap, from 64 -/
theorem b79_64 (X : Nat × (Nat → Int)) (d : Nat) (r0 : Nat) (l1 : Int) (l2 : Int) (r3 : Nat) (l4 : Int) (w : MW) : R X (d + 1) 79 64 [some (.inr r0), some (.inl l1), some (.inl l2), some (.inr r3), some (.inl l4)] [] w = if (12 : Int) ≤ l4 then (gd (kd w r0 = 16) (rO (gr w r0 8) fun b1 => gd (kd w b1 = 1 ∧ 0 ≤ l1 ∧ l1 < ln w b1) (gd (kd (si w b1 (Int.toNat (l1)) l2) r0 = 16) (rO (gr (si w b1 (Int.toNat (l1)) l2) r0 8) fun b2 => gd (kd (si w b1 (Int.toNat (l1)) l2) b2 = 1 ∧ 0 ≤ l2 ∧ l2 < ln (si w b1 (Int.toNat (l1)) l2) b2) (gd (kd (si (si w b1 (Int.toNat (l1)) l2) b2 (Int.toNat (l2)) l1) r0 = 16) (rO (gr (si (si w b1 (Int.toNat (l1)) l2) b2 (Int.toNat (l2)) l1) r0 0) fun b3 => gd (kd (si (si w b1 (Int.toNat (l1)) l2) b2 (Int.toNat (l2)) l1) r3 = 13) (gd (kd (si (si w b1 (Int.toNat (l1)) l2) b2 (Int.toNat (l2)) l1) b3 = 13) (rV (run X d 28 [.inr b3, .inl (gi (si (si w b1 (Int.toNat (l1)) l2) b2 (Int.toNat (l2)) l1) r3 0)] (si (si w b1 (Int.toNat (l1)) l2) b2 (Int.toNat (l2)) l1)) fun w4 => gd (kd w4 r0 = 16) (rO (gr w4 r0 0) fun b5 => gd (kd w4 r0 = 16) (rO (gr w4 r0 8) fun b6 => gd (kd w4 b5 = 13) (rV (run X d 31 [.inr b5, .inr r3, .inr b6] w4) fun w7 => gd (kd w7 r0 = 16) (rO (gr w7 r0 0) fun b8 => gd (kd w7 b8 = 13) (rI (run X d 42 [.inr b8, .inl l1, .inl l2] w7) fun v9 w9 => some (some (.inl v9), w9)))))))))))))) else (gd (kd w r0 = 16) (rO (gr w r0 8) fun b10 => gd (kd w b10 = 1 ∧ 0 ≤ l4 ∧ l4 < ln w b10) (R X (d + 1) 79 64 [some (.inr r0), some (.inl l1), some (.inl l2), some (.inr r3), some (.inl (wrap (l4 + 1)))] [] (si w b10 (Int.toNat (l4)) l4)))) := p_iload (q := 66) rfl rfl rfl (p_bipush (q := 68) (z := 12) rfl (by decide) rfl (p_icmp_ge (q := 86) (q2 := 71) (off := 18) rfl (by decide) rfl rfl (p_aload_n (q := 87) rfl rfl rfl (p_getr (q := 90) rfl rfl rfl rfl (fun b1 => p_iload_n (q := 91) rfl rfl rfl (p_iload_n (q := 92) rfl rfl rfl (p_iast (q := 93) rfl rfl (p_aload_n (q := 94) rfl rfl rfl (p_getr (q := 97) rfl rfl rfl rfl (fun b2 => p_iload_n (q := 98) rfl rfl rfl (p_iload_n (q := 99) rfl rfl rfl (p_iast (q := 100) rfl rfl (p_aload_n (q := 101) rfl rfl rfl (p_getr (q := 104) rfl rfl rfl rfl (fun b3 => p_aload_n (q := 105) rfl rfl rfl (p_getf (q := 108) rfl rfl rfl rfl (p_callVv (q := 111) (s2 := []) rfl rfl rfl rfl rfl rfl rfl (fun w4 => p_aload_n (q := 112) rfl rfl rfl (p_getr (q := 115) rfl rfl rfl rfl (fun b5 => p_aload_n (q := 116) rfl rfl rfl (p_aload_n (q := 117) rfl rfl rfl (p_getr (q := 120) rfl rfl rfl rfl (fun b6 => p_callVv (q := 123) (s2 := []) rfl rfl rfl rfl rfl rfl rfl (fun w7 => p_aload_n (q := 124) rfl rfl rfl (p_getr (q := 127) rfl rfl rfl rfl (fun b8 => p_iload_n (q := 128) rfl rfl rfl (p_iload_n (q := 129) rfl rfl rfl (p_callVi (q := 132) (s2 := []) rfl rfl rfl rfl rfl rfl rfl (fun v9 w9 => p_iret rfl rfl))))))))))))))))))))))))))) (p_aload_n (q := 72) rfl rfl rfl (p_getr (q := 75) rfl rfl rfl rfl (fun b10 => p_iload (q := 77) rfl rfl rfl (p_iload (q := 79) rfl rfl rfl (p_iast (q := 80) rfl rfl (p_iinc (q := 83) (z := 1) (L2 := [some (.inr r0), some (.inl l1), some (.inl l2), some (.inr r3), some (.inl (wrap (l4 + 1)))]) rfl rfl (by decide) rfl rfl (p_goto (q := 64) (off := (-19)) rfl (by decide) rfl (rfl))))))))))
/-- SometimesSums.undo, from 0 -/
theorem b82_0 (X : Nat × (Nat → Int)) (d : Nat) (r0 : Nat) (w : MW) : run X (d + 1) 82 [.inr r0] w = gd (kd w r0 = 16) (rO (gr w r0 3) fun b1 => gd (kd w r0 = 16) (rO (gr w r0 0) fun b2 => gd (kd w b1 = 10) (rI (run X d 4 [.inr b1, .inr b2] w) fun v3 w3 => if v3 = 0 then (some (some (.inl (-5)), w3)) else (gd (kd w3 r0 = 16) (rO (gr w3 r0 3) fun b4 => gd (kd w3 b4 = 10) (some (some (.inl (gi w3 b4 0)), w3))))))) := (show R X (d + 1) 82 0 [some (.inr r0)] [] w = _ from p_aload_n (q := 1) rfl rfl rfl (p_getr (q := 4) rfl rfl rfl rfl (fun b1 => p_aload_n (q := 5) rfl rfl rfl (p_getr (q := 8) rfl rfl rfl rfl (fun b2 => p_callVi (q := 11) (s2 := []) rfl rfl rfl rfl rfl rfl rfl (fun v3 w3 => p_if_eq (q := 24) (q2 := 14) (off := 13) rfl (by decide) rfl rfl (p_bipush (q := 26) (z := (-5)) rfl (by decide) rfl (p_iret rfl rfl)) (p_aload_n (q := 15) rfl rfl rfl (p_getr (q := 18) rfl rfl rfl rfl (fun b4 => p_getf (q := 21) rfl rfl rfl rfl (p_goto (q := 26) (off := 5) rfl (by decide) rfl (p_iret rfl rfl)))))))))))
/-- SometimesSums.keep, from 0 -/
theorem b83_0 (X : Nat × (Nat → Int)) (d : Nat) (r0 : Nat) (w : MW) : run X (d + 1) 83 [.inr r0] w = gd (kd w r0 = 16) (rO (gr w r0 1) fun b1 => gd (kd w r0 = 16) (rO (gr w r0 0) fun b2 => gd (kd w b1 = 13) (rV (run X d 30 [.inr b1, .inr b2] w) fun w3 => gd (kd w3 r0 = 16 ∧ ((1 : Int) = 0 ∨ (1 : Int) = 1)) (gd (kd (si w3 r0 2 1) r0 = 16) (rO (gr (si w3 r0 2 1) r0 0) fun b4 => gd (kd (si w3 r0 2 1) b4 = 13) (some (some (.inl (gi (si w3 r0 2 1) b4 0)), si w3 r0 2 1))))))) := (show R X (d + 1) 83 0 [some (.inr r0)] [] w = _ from p_aload_n (q := 1) rfl rfl rfl (p_getr (q := 4) rfl rfl rfl rfl (fun b1 => p_aload_n (q := 5) rfl rfl rfl (p_getr (q := 8) rfl rfl rfl rfl (fun b2 => p_callVv (q := 11) (s2 := []) rfl rfl rfl rfl rfl rfl rfl (fun w3 => p_aload_n (q := 12) rfl rfl rfl (p_iconst (q := 13) (z := 1) rfl (by decide) rfl (p_putz (q := 16) rfl rfl rfl rfl (p_aload_n (q := 17) rfl rfl rfl (p_getr (q := 20) rfl rfl rfl rfl (fun b4 => p_getf (q := 23) rfl rfl rfl rfl (p_iret rfl rfl))))))))))))
/-- SometimesSums.restore, from 0 -/
theorem b84_0 (X : Nat × (Nat → Int)) (d : Nat) (r0 : Nat) (w : MW) : run X (d + 1) 84 [.inr r0] w = gd (kd w r0 = 16) (if (gi w r0 2) ≠ 0 then (gd (kd w r0 = 16) (rO (gr w r0 3) fun b1 => gd (kd w r0 = 16) (rO (gr w r0 0) fun b2 => gd (kd w b1 = 10) (rR (run X d 2 [.inr b1, .inr b2] w) fun v3 w3 => gd (kd w3 r0 = 16) (rO (gr w3 r0 0) fun b4 => gd (kd w3 r0 = 16) (rO (gr w3 r0 1) fun b5 => gd (kd w3 b4 = 13) (rV (run X d 30 [.inr b4, .inr b5] w3) fun w6 => gd (kd w6 r0 = 16) (rO (gr w6 r0 0) fun b7 => gd (kd w6 b7 = 13) (some (some (.inl (gi w6 b7 0)), w6)))))))))) else (some (some (.inl (-5)), w))) := (show R X (d + 1) 84 0 [some (.inr r0)] [] w = _ from p_aload_n (q := 1) rfl rfl rfl (p_getf (q := 4) rfl rfl rfl rfl (p_if_ne (q := 10) (q2 := 7) (off := 6) rfl (by decide) rfl rfl (p_aload_n (q := 11) rfl rfl rfl (p_getr (q := 14) rfl rfl rfl rfl (fun b1 => p_aload_n (q := 15) rfl rfl rfl (p_getr (q := 18) rfl rfl rfl rfl (fun b2 => p_callVr (q := 21) (s2 := []) rfl rfl rfl rfl rfl rfl rfl (fun v3 w3 => p_pop (q := 22) rfl rfl (p_aload_n (q := 23) rfl rfl rfl (p_getr (q := 26) rfl rfl rfl rfl (fun b4 => p_aload_n (q := 27) rfl rfl rfl (p_getr (q := 30) rfl rfl rfl rfl (fun b5 => p_callVv (q := 33) (s2 := []) rfl rfl rfl rfl rfl rfl rfl (fun w6 => p_aload_n (q := 34) rfl rfl rfl (p_getr (q := 37) rfl rfl rfl rfl (fun b7 => p_getf (q := 40) rfl rfl rfl rfl (p_iret rfl rfl))))))))))))))) (p_bipush (q := 9) (z := (-5)) rfl (by decide) rfl (p_iret rfl rfl)))))
/-- SometimesSums.sum, from 0 -/
theorem b85_0 (X : Nat × (Nat → Int)) (d : Nat) (r0 : Nat) (l1 : Int) (l2 : Int) (w : MW) : run X (d + 1) 85 [.inr r0, .inl l1, .inl l2] w = gd (kd w r0 = 16) (rO (gr w r0 0) fun b1 => gd (kd w b1 = 13) (rI (run X d 24 [.inr b1, .inl l1] w) fun v2 w2 => if v2 = 0 then (some (some (.inl (-1)), w2)) else (gd (kd w2 r0 = 16) (rO (gr w2 r0 0) fun b3 => gd (kd w2 b3 = 13) (rI (run X d 24 [.inr b3, .inl l2] w2) fun v4 w4 => if v4 ≠ 0 then (gd (kd w4 r0 = 16) (rO (gr w4 r0 0) fun b5 => gd (kd w4 b5 = 13) (rI (run X d 25 [.inr b5, .inl l1, .inl l2] w4) fun v6 w6 => rI (run X d 97 [.inl v6] w6) fun v7 w7 => some (some (.inl v7), w7)))) else (some (some (.inl (-1)), w4))))))) := (show R X (d + 1) 85 0 [some (.inr r0), some (.inl l1), some (.inl l2)] [] w = _ from p_aload_n (q := 1) rfl rfl rfl (p_getr (q := 4) rfl rfl rfl rfl (fun b1 => p_iload_n (q := 5) rfl rfl rfl (p_callVi (q := 8) (s2 := []) rfl rfl rfl rfl rfl rfl rfl (fun v2 w2 => p_if_eq (q := 22) (q2 := 11) (off := 14) rfl (by decide) rfl rfl (p_iconst (q := 23) (z := (-1)) rfl (by decide) rfl (p_iret rfl rfl)) (p_aload_n (q := 12) rfl rfl rfl (p_getr (q := 15) rfl rfl rfl rfl (fun b3 => p_iload_n (q := 16) rfl rfl rfl (p_callVi (q := 19) (s2 := []) rfl rfl rfl rfl rfl rfl rfl (fun v4 w4 => p_if_ne (q := 24) (q2 := 22) (off := 5) rfl (by decide) rfl rfl (p_aload_n (q := 25) rfl rfl rfl (p_getr (q := 28) rfl rfl rfl rfl (fun b5 => p_iload_n (q := 29) rfl rfl rfl (p_iload_n (q := 30) rfl rfl rfl (p_callVi (q := 33) (s2 := []) rfl rfl rfl rfl rfl rfl rfl (fun v6 w6 => p_callSi (q := 36) (s2 := []) rfl rfl rfl rfl rfl rfl (fun v7 w7 => p_iret rfl rfl))))))) (p_iconst (q := 23) (z := (-1)) rfl (by decide) rfl (p_iret rfl rfl))))))))))))
/-- SometimesSums.difference, from 0 -/
theorem b86_0 (X : Nat × (Nat → Int)) (d : Nat) (r0 : Nat) (l1 : Int) (l2 : Int) (w : MW) : run X (d + 1) 86 [.inr r0, .inl l1, .inl l2] w = gd (kd w r0 = 16) (rO (gr w r0 0) fun b1 => gd (kd w b1 = 13) (rI (run X d 24 [.inr b1, .inl l1] w) fun v2 w2 => if v2 = 0 then (some (some (.inl (-1)), w2)) else (gd (kd w2 r0 = 16) (rO (gr w2 r0 0) fun b3 => gd (kd w2 b3 = 13) (rI (run X d 24 [.inr b3, .inl l2] w2) fun v4 w4 => if v4 ≠ 0 then (gd (kd w4 r0 = 16) (rO (gr w4 r0 0) fun b5 => gd (kd w4 b5 = 13) (rI (run X d 38 [.inr b5, .inl l2, .inl l1] w4) fun v6 w6 => rI (run X d 97 [.inl v6] w6) fun v7 w7 => some (some (.inl v7), w7)))) else (some (some (.inl (-1)), w4))))))) := (show R X (d + 1) 86 0 [some (.inr r0), some (.inl l1), some (.inl l2)] [] w = _ from p_aload_n (q := 1) rfl rfl rfl (p_getr (q := 4) rfl rfl rfl rfl (fun b1 => p_iload_n (q := 5) rfl rfl rfl (p_callVi (q := 8) (s2 := []) rfl rfl rfl rfl rfl rfl rfl (fun v2 w2 => p_if_eq (q := 22) (q2 := 11) (off := 14) rfl (by decide) rfl rfl (p_iconst (q := 23) (z := (-1)) rfl (by decide) rfl (p_iret rfl rfl)) (p_aload_n (q := 12) rfl rfl rfl (p_getr (q := 15) rfl rfl rfl rfl (fun b3 => p_iload_n (q := 16) rfl rfl rfl (p_callVi (q := 19) (s2 := []) rfl rfl rfl rfl rfl rfl rfl (fun v4 w4 => p_if_ne (q := 24) (q2 := 22) (off := 5) rfl (by decide) rfl rfl (p_aload_n (q := 25) rfl rfl rfl (p_getr (q := 28) rfl rfl rfl rfl (fun b5 => p_iload_n (q := 29) rfl rfl rfl (p_iload_n (q := 30) rfl rfl rfl (p_callVi (q := 33) (s2 := []) rfl rfl rfl rfl rfl rfl rfl (fun v6 w6 => p_callSi (q := 36) (s2 := []) rfl rfl rfl rfl rfl rfl (fun v7 w7 => p_iret rfl rfl))))))) (p_iconst (q := 23) (z := (-1)) rfl (by decide) rfl (p_iret rfl rfl))))))))))))
/-- SometimesSums.broken, from 0 -/
theorem b87_0 (X : Nat × (Nat → Int)) (d : Nat) (r0 : Nat) (l1 : Int) (w : MW) : run X (d + 1) 87 [.inr r0, .inl l1] w = if l1 < 0 then (some (some (.inl (-2)), w)) else (if l1 ≤ (3 : Int) then (gd (kd w r0 = 16) (rO (gr w r0 5) fun b1 => gd (kd w r0 = 16) (rO (gr w r0 0) fun b2 => gd (kd w b1 = 11) (rV (run X d 6 [.inr b1, .inr b2] w) fun w3 => gd (kd w3 r0 = 16) (rO (gr w3 r0 5) fun b4 => gd (kd w3 b4 = 11) (if (gi w3 b4 1) ≠ 0 then (R X (d + 1) 87 38 [some (.inr r0), some (.inl l1), none] [.inl 0] w3) else (R X (d + 1) 87 38 [some (.inr r0), some (.inl l1), none] [.inl 1] w3))))))) else (some (some (.inl (-2)), w))) := (show R X (d + 1) 87 0 [some (.inr r0), some (.inl l1), none] [] w = _ from p_iload_n (q := 1) rfl rfl rfl (p_if_lt (q := 9) (q2 := 4) (off := 8) rfl (by decide) rfl rfl (p_bipush (q := 11) (z := (-2)) rfl (by decide) rfl (p_iret rfl rfl)) (p_iload_n (q := 5) rfl rfl rfl (p_iconst (q := 6) (z := 3) rfl (by decide) rfl (p_icmp_le (q := 12) (q2 := 9) (off := 6) rfl (by decide) rfl rfl (p_aload_n (q := 13) rfl rfl rfl (p_getr (q := 16) rfl rfl rfl rfl (fun b1 => p_aload_n (q := 17) rfl rfl rfl (p_getr (q := 20) rfl rfl rfl rfl (fun b2 => p_callVv (q := 23) (s2 := []) rfl rfl rfl rfl rfl rfl rfl (fun w3 => p_aload_n (q := 24) rfl rfl rfl (p_getr (q := 27) rfl rfl rfl rfl (fun b4 => p_getf (q := 30) rfl rfl rfl rfl (p_if_ne (q := 37) (q2 := 33) (off := 7) rfl (by decide) rfl rfl (p_iconst (q := 38) (z := 0) rfl (by decide) rfl (rfl)) (p_iconst (q := 34) (z := 1) rfl (by decide) rfl (p_goto (q := 38) (off := 4) rfl (by decide) rfl (rfl)))))))))))) (p_bipush (q := 11) (z := (-2)) rfl (by decide) rfl (p_iret rfl rfl)))))))
/-- SometimesSums.broken, from 38 -/
theorem b87_38 (X : Nat × (Nat → Int)) (d : Nat) (r0 : Nat) (l1 : Int) (t0 : Int) (w : MW) : R X (d + 1) 87 38 [some (.inr r0), some (.inl l1), none] [.inl t0] w = gd (kd w r0 = 16) (rO (gr w r0 5) fun b1 => gd (kd w b1 = 11) (if (gi w b1 0) = 0 then (some (some (.inl (-5)), w)) else (if l1 < (2 : Int) then (R X (d + 1) 87 61 [some (.inr r0), some (.inl l1), none] [] w) else (if t0 ≠ 0 then (R X (d + 1) 87 61 [some (.inr r0), some (.inl l1), none] [] w) else (some (some (.inl (-5)), w)))))) := q_istore_n (q := 39) (L1 := [some (.inr r0), some (.inl l1), none]) (L2 := [some (.inr r0), some (.inl l1), some (.inl t0)]) rfl rfl rfl rfl rfl (p_aload_n (q := 40) rfl rfl rfl (p_getr (q := 43) rfl rfl rfl rfl (fun b1 => p_getf (q := 46) rfl rfl rfl rfl (p_if_eq (q := 58) (q2 := 49) (off := 12) rfl (by decide) rfl rfl (p_bipush (q := 60) (z := (-5)) rfl (by decide) rfl (p_iret rfl rfl)) (p_iload_n (q := 50) rfl rfl rfl (p_iconst (q := 51) (z := 2) rfl (by decide) rfl (p_icmp_lt (q := 61) (q2 := 54) (off := 10) rfl (by decide) rfl rfl (q_kill rfl rfl rfl rfl) (p_iload_n (q := 55) rfl rfl rfl (p_if_ne (q := 61) (q2 := 58) (off := 6) rfl (by decide) rfl rfl (q_kill rfl rfl rfl rfl) (p_bipush (q := 60) (z := (-5)) rfl (by decide) rfl (p_iret rfl rfl)))))))))))
/-- SometimesSums.broken, from 61 -/
theorem b87_61 (X : Nat × (Nat → Int)) (d : Nat) (r0 : Nat) (l1 : Int) (w : MW) : R X (d + 1) 87 61 [some (.inr r0), some (.inl l1), none] [] w = swt l1 [gd (kd w r0 = 16) (rO (gr w r0 5) fun b1 => gd (kd w b1 = 11) (some (some (.inl (gi w b1 1)), w))), gd (kd w r0 = 16) (rO (gr w r0 5) fun b2 => gd (kd w b2 = 11) (some (some (.inl (gi w b2 2)), w))), gd (kd w r0 = 16) (rO (gr w r0 5) fun b3 => gd (kd w b3 = 11) (some (some (.inl (gi w b3 3)), w)))] 0 (gd (kd w r0 = 16) (rO (gr w r0 5) fun b4 => gd (kd w b4 = 11) (some (some (.inl (gi w b4 4)), w)))) := q_iload_n (q := 62) (L1 := [some (.inr r0), some (.inl l1), none]) rfl rfl rfl rfl (p_switch (q := 112) (dflt := 50) (hi := 2) (offs := #[26, 34, 42]) rfl (by decide) (by decide) (q_cons (Eq.symm (p_aload_n (q := 89) rfl rfl rfl (p_getr (q := 92) rfl rfl rfl rfl (fun b1 => p_getf (q := 95) rfl rfl rfl rfl (p_iret rfl rfl))))) (q_cons (Eq.symm (p_aload_n (q := 97) rfl rfl rfl (p_getr (q := 100) rfl rfl rfl rfl (fun b2 => p_getf (q := 103) rfl rfl rfl rfl (p_iret rfl rfl))))) (q_cons (Eq.symm (p_aload_n (q := 105) rfl rfl rfl (p_getr (q := 108) rfl rfl rfl rfl (fun b3 => p_getf (q := 111) rfl rfl rfl rfl (p_iret rfl rfl))))) (rfl)))) rfl (p_aload_n (q := 113) rfl rfl rfl (p_getr (q := 116) rfl rfl rfl rfl (fun b4 => p_getf (q := 119) rfl rfl rfl rfl (p_iret rfl rfl)))))
/-- SometimesSums.thing, from 0 -/
theorem b88_0 (X : Nat × (Nat → Int)) (d : Nat) (r0 : Nat) (l1 : Int) (l2 : Int) (w : MW) : run X (d + 1) 88 [.inr r0, .inl l1, .inl l2] w = gd (kd w r0 = 16) (rO (gr w r0 0) fun b1 => gd (kd w b1 = 13) (rI (run X d 24 [.inr b1, .inl l1] w) fun v2 w2 => if v2 ≠ 0 then (gd (kd w2 r0 = 16) (rO (gr w2 r0 6) fun b3 => gd (kd w2 r0 = 16) (rO (gr w2 r0 0) fun b4 => gd (kd w2 b3 = 12) (rV (run X d 11 [.inr b3, .inr b4] w2) fun w5 => swt l2 [gd (kd w5 r0 = 16) (rO (gr w5 r0 0) fun b6 => gd (kd w5 b6 = 13) (rI (run X d 39 [.inr b6, .inl l1] w5) fun v7 w7 => rI (run X d 97 [.inl v7] w7) fun v8 w8 => some (some (.inl v8), w8))), gd (kd w5 r0 = 16) (rO (gr w5 r0 6) fun b9 => gd (kd w5 b9 = 12) (rO (gr w5 b9 0) fun b10 => gd (kd w5 b10 = 1 ∧ 0 ≤ l1 ∧ l1 < ln w5 b10) (some (some (.inl (gi w5 b10 (Int.toNat (l1)))), w5)))), gd (kd w5 r0 = 16) (rO (gr w5 r0 6) fun b11 => gd (kd w5 b11 = 12) (rO (gr w5 b11 1) fun b12 => gd (kd w5 b12 = 1 ∧ 0 ≤ l1 ∧ l1 < ln w5 b12) (some (some (.inl (gi w5 b12 (Int.toNat (l1)))), w5)))), gd (kd w5 r0 = 16) (rO (gr w5 r0 6) fun b13 => gd (kd w5 b13 = 12) (rI (run X d 13 [.inr b13, .inl l1] w5) fun v14 w14 => if v14 = 0 then (some (some (.inl 0), w14)) else (some (some (.inl 1), w14)))), gd (kd w5 r0 = 16) (rO (gr w5 r0 6) fun b15 => gd (kd w5 b15 = 12) (rI (run X d 15 [.inr b15, .inl l1] w5) fun v16 w16 => if v16 = 0 then (some (some (.inl 0), w16)) else (some (some (.inl 1), w16)))), gd (kd w5 r0 = 16) (rO (gr w5 r0 6) fun b17 => gd (kd w5 b17 = 12) (rO (gr w5 b17 2) fun b18 => gd (kd w5 b18 = 1 ∧ 0 ≤ l1 ∧ l1 < ln w5 b18) (some (some (.inl (gi w5 b18 (Int.toNat (l1)))), w5)))), gd (kd w5 r0 = 16) (rO (gr w5 r0 0) fun b19 => gd (kd w5 b19 = 13) (rI (run X d 40 [.inr b19, .inl l1] w5) fun v20 w20 => some (some (.inl v20), w20))), gd (kd w5 r0 = 16) (rI (run X d 100 [.inr r0, .inl l1] w5) fun v21 w21 => some (some (.inl v21), w21))] 0 (some (some (.inl (-2)), w5)))))) else (some (some (.inl (-1)), w2)))) := (show R X (d + 1) 88 0 [some (.inr r0), some (.inl l1), some (.inl l2)] [] w = _ from p_aload_n (q := 1) rfl rfl rfl (p_getr (q := 4) rfl rfl rfl rfl (fun b1 => p_iload_n (q := 5) rfl rfl rfl (p_callVi (q := 8) (s2 := []) rfl rfl rfl rfl rfl rfl rfl (fun v2 w2 => p_if_ne (q := 13) (q2 := 11) (off := 5) rfl (by decide) rfl rfl (p_aload_n (q := 14) rfl rfl rfl (p_getr (q := 17) rfl rfl rfl rfl (fun b3 => p_aload_n (q := 18) rfl rfl rfl (p_getr (q := 21) rfl rfl rfl rfl (fun b4 => p_callVv (q := 24) (s2 := []) rfl rfl rfl rfl rfl rfl rfl (fun w5 => p_iload_n (q := 25) rfl rfl rfl (p_switch (q := 163) (dflt := 138) (hi := 7) (offs := #[47, 59, 69, 79, 96, 113, 123, 132]) rfl (by decide) (by decide) (q_cons (Eq.symm (p_aload_n (q := 73) rfl rfl rfl (p_getr (q := 76) rfl rfl rfl rfl (fun b6 => p_iload_n (q := 77) rfl rfl rfl (p_callVi (q := 80) (s2 := []) rfl rfl rfl rfl rfl rfl rfl (fun v7 w7 => p_callSi (q := 83) (s2 := []) rfl rfl rfl rfl rfl rfl (fun v8 w8 => p_iret rfl rfl))))))) (q_cons (Eq.symm (p_aload_n (q := 85) rfl rfl rfl (p_getr (q := 88) rfl rfl rfl rfl (fun b9 => p_getr (q := 91) rfl rfl rfl rfl (fun b10 => p_iload_n (q := 92) rfl rfl rfl (p_iald (q := 93) rfl rfl rfl (p_iret rfl rfl))))))) (q_cons (Eq.symm (p_aload_n (q := 95) rfl rfl rfl (p_getr (q := 98) rfl rfl rfl rfl (fun b11 => p_getr (q := 101) rfl rfl rfl rfl (fun b12 => p_iload_n (q := 102) rfl rfl rfl (p_iald (q := 103) rfl rfl rfl (p_iret rfl rfl))))))) (q_cons (Eq.symm (p_aload_n (q := 105) rfl rfl rfl (p_getr (q := 108) rfl rfl rfl rfl (fun b13 => p_iload_n (q := 109) rfl rfl rfl (p_callVi (q := 112) (s2 := []) rfl rfl rfl rfl rfl rfl rfl (fun v14 w14 => p_if_eq (q := 119) (q2 := 115) (off := 7) rfl (by decide) rfl rfl (p_iconst (q := 120) (z := 0) rfl (by decide) rfl (p_iret rfl rfl)) (p_iconst (q := 116) (z := 1) rfl (by decide) rfl (p_goto (q := 120) (off := 4) rfl (by decide) rfl (p_iret rfl rfl))))))))) (q_cons (Eq.symm (p_aload_n (q := 122) rfl rfl rfl (p_getr (q := 125) rfl rfl rfl rfl (fun b15 => p_iload_n (q := 126) rfl rfl rfl (p_callVi (q := 129) (s2 := []) rfl rfl rfl rfl rfl rfl rfl (fun v16 w16 => p_if_eq (q := 136) (q2 := 132) (off := 7) rfl (by decide) rfl rfl (p_iconst (q := 137) (z := 0) rfl (by decide) rfl (p_iret rfl rfl)) (p_iconst (q := 133) (z := 1) rfl (by decide) rfl (p_goto (q := 137) (off := 4) rfl (by decide) rfl (p_iret rfl rfl))))))))) (q_cons (Eq.symm (p_aload_n (q := 139) rfl rfl rfl (p_getr (q := 142) rfl rfl rfl rfl (fun b17 => p_getr (q := 145) rfl rfl rfl rfl (fun b18 => p_iload_n (q := 146) rfl rfl rfl (p_iald (q := 147) rfl rfl rfl (p_iret rfl rfl))))))) (q_cons (Eq.symm (p_aload_n (q := 149) rfl rfl rfl (p_getr (q := 152) rfl rfl rfl rfl (fun b19 => p_iload_n (q := 153) rfl rfl rfl (p_callVi (q := 156) (s2 := []) rfl rfl rfl rfl rfl rfl rfl (fun v20 w20 => p_iret rfl rfl)))))) (q_cons (Eq.symm (p_aload_n (q := 158) rfl rfl rfl (p_iload_n (q := 159) rfl rfl rfl (p_callVi (q := 162) (s2 := []) rfl rfl rfl rfl rfl rfl rfl (fun v21 w21 => p_iret rfl rfl))))) (rfl))))))))) rfl (p_bipush (q := 165) (z := (-2)) rfl (by decide) rfl (p_iret rfl rfl))))))))) (p_iconst (q := 12) (z := (-1)) rfl (by decide) rfl (p_iret rfl rfl)))))))
/-- SometimesSums.sumOf, from 0 -/
theorem b89_0 (X : Nat × (Nat → Int)) (d : Nat) (r0 : Nat) (l1 : Int) (w : MW) : run X (d + 1) 89 [.inr r0, .inl l1] w = gd (kd w r0 = 16) (rO (gr w r0 0) fun b1 => gd (kd w b1 = 13) (if (ushrI l1 (gi w b1 0)) = 0 then (R X (d + 1) 89 18 [some (.inr r0), some (.inl l1), some (.inl 0), some (.inl 0)] [] w) else (some (some (.inl (-1)), w)))) := (show R X (d + 1) 89 0 [some (.inr r0), some (.inl l1), none, none] [] w = _ from p_iload_n (q := 1) rfl rfl rfl (p_aload_n (q := 2) rfl rfl rfl (p_getr (q := 5) rfl rfl rfl rfl (fun b1 => p_getf (q := 8) rfl rfl rfl rfl (p_iushr (q := 9) rfl rfl (p_if_eq (q := 14) (q2 := 12) (off := 5) rfl (by decide) rfl rfl (p_iconst (q := 15) (z := 0) rfl (by decide) rfl (p_istore_n (q := 16) (L2 := [some (.inr r0), some (.inl l1), some (.inl 0), none]) rfl rfl rfl rfl (p_iconst (q := 17) (z := 0) rfl (by decide) rfl (p_istore_n (q := 18) (L2 := [some (.inr r0), some (.inl l1), some (.inl 0), some (.inl 0)]) rfl rfl rfl rfl (rfl))))) (p_iconst (q := 13) (z := (-1)) rfl (by decide) rfl (p_iret rfl rfl))))))))
/-- SometimesSums.sumOf, from 18 -/
theorem b89_18 (X : Nat × (Nat → Int)) (d : Nat) (r0 : Nat) (l1 : Int) (l2 : Int) (l3 : Int) (w : MW) : R X (d + 1) 89 18 [some (.inr r0), some (.inl l1), some (.inl l2), some (.inl l3)] [] w = gd (kd w r0 = 16) (rO (gr w r0 0) fun b1 => gd (kd w b1 = 13) (if (gi w b1 0) ≤ l3 then (rI (run X d 97 [.inl l2] w) fun v2 w2 => some (some (.inl v2), w2)) else (if l2 = (12 : Int) then (rI (run X d 97 [.inl l2] w) fun v3 w3 => some (some (.inl v3), w3)) else (rI (run X d 95 [.inl l3] w) fun v4 w4 => if (andI l1 v4) = 0 then (R X (d + 1) 89 18 [some (.inr r0), some (.inl l1), some (.inl l2), some (.inl (wrap (l3 + 1)))] [] w4) else (gd (kd w4 r0 = 16) (rO (gr w4 r0 0) fun b5 => gd (kd w4 b5 = 13) (rI (run X d 25 [.inr b5, .inl l2, .inl l3] w4) fun v6 w6 => R X (d + 1) 89 18 [some (.inr r0), some (.inl l1), some (.inl v6), some (.inl (wrap (l3 + 1)))] [] w6))))))) := p_iload_n (q := 19) rfl rfl rfl (p_aload_n (q := 20) rfl rfl rfl (p_getr (q := 23) rfl rfl rfl rfl (fun b1 => p_getf (q := 26) rfl rfl rfl rfl (p_icmp_ge (q := 60) (q2 := 29) (off := 34) rfl (by decide) rfl rfl (p_iload_n (q := 61) rfl rfl rfl (p_callSi (q := 64) (s2 := []) rfl rfl rfl rfl rfl rfl (fun v2 w2 => p_iret rfl rfl))) (p_iload_n (q := 30) rfl rfl rfl (p_bipush (q := 32) (z := 12) rfl (by decide) rfl (p_icmp_eq (q := 60) (q2 := 35) (off := 28) rfl (by decide) rfl rfl (p_iload_n (q := 61) rfl rfl rfl (p_callSi (q := 64) (s2 := []) rfl rfl rfl rfl rfl rfl (fun v3 w3 => p_iret rfl rfl))) (p_iload_n (q := 36) rfl rfl rfl (p_iload_n (q := 37) rfl rfl rfl (p_callSi (q := 40) (s2 := [.inl l1]) rfl rfl rfl rfl rfl rfl (fun v4 w4 => p_iand (q := 41) rfl rfl (p_if_eq (q := 54) (q2 := 44) (off := 13) rfl (by decide) rfl rfl (p_iinc (q := 57) (z := 1) (L2 := [some (.inr r0), some (.inl l1), some (.inl l2), some (.inl (wrap (l3 + 1)))]) rfl rfl (by decide) rfl rfl (p_goto (q := 18) (off := (-39)) rfl (by decide) rfl (rfl))) (p_aload_n (q := 45) rfl rfl rfl (p_getr (q := 48) rfl rfl rfl rfl (fun b5 => p_iload_n (q := 49) rfl rfl rfl (p_iload_n (q := 50) rfl rfl rfl (p_callVi (q := 53) (s2 := []) rfl rfl rfl rfl rfl rfl rfl (fun v6 w6 => p_istore_n (q := 54) (L2 := [some (.inr r0), some (.inl l1), some (.inl v6), some (.inl l3)]) rfl rfl rfl rfl (p_iinc (q := 57) (z := 1) (L2 := [some (.inr r0), some (.inl l1), some (.inl v6), some (.inl (wrap (l3 + 1)))]) rfl rfl (by decide) rfl rfl (p_goto (q := 18) (off := (-39)) rfl (by decide) rfl (rfl)))))))))))))))))))))
/-- SometimesSums.block, from 0 -/
theorem b90_0 (X : Nat × (Nat → Int)) (d : Nat) (r0 : Nat) (l1 : Int) (l2 : Int) (w : MW) : run X (d + 1) 90 [.inr r0, .inl l1, .inl l2] w = if l1 < 0 then (some (some (.inl (-2)), w)) else (if l2 < 0 then (some (some (.inl (-2)), w)) else (if l2 ≤ (1 : Int) then (gd (kd w r0 = 16) (rO (gr w r0 6) fun b1 => gd (kd w r0 = 16) (rO (gr w r0 0) fun b2 => gd (kd w b1 = 12) (rV (run X d 11 [.inr b1, .inr b2] w) fun w3 => gd (kd w3 r0 = 16) (rO (gr w3 r0 6) fun b4 => gd (kd w3 b4 = 12) (rI (run X d 21 [.inr b4, .inl l1] w3) fun v5 w5 => if v5 ≠ 0 then (if l2 ≠ 0 then (gd (kd w5 r0 = 16) (rO (gr w5 r0 6) fun b6 => gd (kd w5 b6 = 12) (rI (run X d 17 [.inr b6, .inl v5] w5) fun v7 w7 => some (some (.inl v7), w7)))) else (some (some (.inl v5), w5))) else (some (some (.inl (-5)), w5)))))))) else (some (some (.inl (-2)), w)))) := (show R X (d + 1) 90 0 [some (.inr r0), some (.inl l1), some (.inl l2), none] [] w = _ from p_iload_n (q := 1) rfl rfl rfl (p_if_lt (q := 13) (q2 := 4) (off := 12) rfl (by decide) rfl rfl (p_bipush (q := 15) (z := (-2)) rfl (by decide) rfl (p_iret rfl rfl)) (p_iload_n (q := 5) rfl rfl rfl (p_if_lt (q := 13) (q2 := 8) (off := 8) rfl (by decide) rfl rfl (p_bipush (q := 15) (z := (-2)) rfl (by decide) rfl (p_iret rfl rfl)) (p_iload_n (q := 9) rfl rfl rfl (p_iconst (q := 10) (z := 1) rfl (by decide) rfl (p_icmp_le (q := 16) (q2 := 13) (off := 6) rfl (by decide) rfl rfl (p_aload_n (q := 17) rfl rfl rfl (p_getr (q := 20) rfl rfl rfl rfl (fun b1 => p_aload_n (q := 21) rfl rfl rfl (p_getr (q := 24) rfl rfl rfl rfl (fun b2 => p_callVv (q := 27) (s2 := []) rfl rfl rfl rfl rfl rfl rfl (fun w3 => p_aload_n (q := 28) rfl rfl rfl (p_getr (q := 31) rfl rfl rfl rfl (fun b4 => p_iload_n (q := 32) rfl rfl rfl (p_callVi (q := 35) (s2 := []) rfl rfl rfl rfl rfl rfl rfl (fun v5 w5 => p_istore_n (q := 36) (L2 := [some (.inr r0), some (.inl l1), some (.inl l2), some (.inl v5)]) rfl rfl rfl rfl (p_iload_n (q := 37) rfl rfl rfl (p_if_ne (q := 43) (q2 := 40) (off := 6) rfl (by decide) rfl rfl (p_iload_n (q := 44) rfl rfl rfl (p_if_ne (q := 51) (q2 := 47) (off := 7) rfl (by decide) rfl rfl (p_aload_n (q := 52) rfl rfl rfl (p_getr (q := 55) rfl rfl rfl rfl (fun b6 => p_iload_n (q := 56) rfl rfl rfl (p_callVi (q := 59) (s2 := []) rfl rfl rfl rfl rfl rfl rfl (fun v7 w7 => p_iret rfl rfl))))) (p_iload_n (q := 48) rfl rfl rfl (p_goto (q := 59) (off := 11) rfl (by decide) rfl (p_iret rfl rfl))))) (p_bipush (q := 42) (z := (-5)) rfl (by decide) rfl (p_iret rfl rfl)))))))))))))) (p_bipush (q := 15) (z := (-2)) rfl (by decide) rfl (p_iret rfl rfl)))))))))
/-- SometimesSums.weighings, from 0 -/
theorem b91_0 (X : Nat × (Nat → Int)) (d : Nat) (r0 : Nat) (l1 : Int) (w : MW) : run X (d + 1) 91 [.inr r0, .inl l1] w = rI (run X d 98 [.inl l1] w) fun v1 w1 => if v1 ≠ 0 then (gd (kd w1 r0 = 16) (rO (gr w1 r0 7) fun b2 => gd (kd w1 r0 = 16) (rO (gr w1 r0 0) fun b3 => gd (kd w1 b2 = 15) (rV (run X d 54 [.inr b2, .inr b3, .inl l1] w1) fun w4 => gd (kd w4 r0 = 16) (rO (gr w4 r0 7) fun b5 => gd (kd w4 b5 = 15) (some (some (.inl (gi w4 b5 0)), w4))))))) else (some (some (.inl (-2)), w1)) := (show R X (d + 1) 91 0 [some (.inr r0), some (.inl l1)] [] w = _ from p_iload_n (q := 1) rfl rfl rfl (p_callSi (q := 4) (s2 := []) rfl rfl rfl rfl rfl rfl (fun v1 w1 => p_if_ne (q := 10) (q2 := 7) (off := 6) rfl (by decide) rfl rfl (p_aload_n (q := 11) rfl rfl rfl (p_getr (q := 14) rfl rfl rfl rfl (fun b2 => p_aload_n (q := 15) rfl rfl rfl (p_getr (q := 18) rfl rfl rfl rfl (fun b3 => p_iload_n (q := 19) rfl rfl rfl (p_callVv (q := 22) (s2 := []) rfl rfl rfl rfl rfl rfl rfl (fun w4 => p_aload_n (q := 23) rfl rfl rfl (p_getr (q := 26) rfl rfl rfl rfl (fun b5 => p_getf (q := 29) rfl rfl rfl rfl (p_iret rfl rfl)))))))))) (p_bipush (q := 9) (z := (-2)) rfl (by decide) rfl (p_iret rfl rfl)))))
/-- SometimesSums.weight, from 0 -/
theorem b92_0 (X : Nat × (Nat → Int)) (d : Nat) (r0 : Nat) (l1 : Int) (l2 : Int) (w : MW) : run X (d + 1) 92 [.inr r0, .inl l1, .inl l2] w = gd (kd w r0 = 16) (rI (run X d 99 [.inr r0, .inl l1, .inl l2] w) fun v1 w1 => if 0 ≤ v1 then (gd (kd w1 r0 = 16) (rO (gr w1 r0 7) fun b2 => gd (kd w1 b2 = 15) (rO (gr w1 b2 1) fun b3 => gd (kd w1 b3 = 1 ∧ 0 ≤ l2 ∧ l2 < ln w1 b3) (some (some (.inl (gi w1 b3 (Int.toNat (l2)))), w1))))) else (some (some (.inl v1), w1))) := (show R X (d + 1) 92 0 [some (.inr r0), some (.inl l1), some (.inl l2), none] [] w = _ from p_aload_n (q := 1) rfl rfl rfl (p_iload_n (q := 2) rfl rfl rfl (p_iload_n (q := 3) rfl rfl rfl (p_callVi (q := 6) (s2 := []) rfl rfl rfl rfl rfl rfl rfl (fun v1 w1 => p_istore_n (q := 7) (L2 := [some (.inr r0), some (.inl l1), some (.inl l2), some (.inl v1)]) rfl rfl rfl rfl (p_iload_n (q := 8) rfl rfl rfl (p_if_ge (q := 15) (q2 := 11) (off := 7) rfl (by decide) rfl rfl (p_aload_n (q := 16) rfl rfl rfl (p_getr (q := 19) rfl rfl rfl rfl (fun b2 => p_getr (q := 22) rfl rfl rfl rfl (fun b3 => p_iload_n (q := 23) rfl rfl rfl (p_iald (q := 24) rfl rfl rfl (p_iret rfl rfl)))))) (p_iload_n (q := 12) rfl rfl rfl (p_goto (q := 24) (off := 12) rfl (by decide) rfl (p_iret rfl rfl))))))))))
/-- SometimesSums.range, from 0 -/
theorem b93_0 (X : Nat × (Nat → Int)) (d : Nat) (r0 : Nat) (l1 : Int) (l2 : Int) (l3 : Int) (w : MW) : run X (d + 1) 93 [.inr r0, .inl l1, .inl l2, .inl l3] w = gd (kd w r0 = 16) (rI (run X d 99 [.inr r0, .inl l1, .inl l2] w) fun v1 w1 => if 0 ≤ v1 then (if l3 = 0 then (gd (kd w1 r0 = 16) (rO (gr w1 r0 7) fun b2 => gd (kd w1 b2 = 15) (rO (gr w1 b2 2) fun b3 => gd (kd w1 b3 = 1 ∧ 0 ≤ l2 ∧ l2 < ln w1 b3) (some (some (.inl (gi w1 b3 (Int.toNat (l2)))), w1))))) else (gd (kd w1 r0 = 16) (rO (gr w1 r0 7) fun b4 => gd (kd w1 b4 = 15) (rO (gr w1 b4 3) fun b5 => gd (kd w1 b5 = 1 ∧ 0 ≤ l2 ∧ l2 < ln w1 b5) (some (some (.inl (gi w1 b5 (Int.toNat (l2)))), w1)))))) else (some (some (.inl v1), w1))) := (show R X (d + 1) 93 0 [some (.inr r0), some (.inl l1), some (.inl l2), some (.inl l3), none] [] w = _ from p_aload_n (q := 1) rfl rfl rfl (p_iload_n (q := 2) rfl rfl rfl (p_iload_n (q := 3) rfl rfl rfl (p_callVi (q := 6) (s2 := []) rfl rfl rfl rfl rfl rfl rfl (fun v1 w1 => p_istore (q := 8) (L2 := [some (.inr r0), some (.inl l1), some (.inl l2), some (.inl l3), some (.inl v1)]) rfl rfl rfl rfl (p_iload (q := 10) rfl rfl rfl (p_if_ge (q := 16) (q2 := 13) (off := 6) rfl (by decide) rfl rfl (p_iload_n (q := 17) rfl rfl rfl (p_if_eq (q := 32) (q2 := 20) (off := 15) rfl (by decide) rfl rfl (p_aload_n (q := 33) rfl rfl rfl (p_getr (q := 36) rfl rfl rfl rfl (fun b2 => p_getr (q := 39) rfl rfl rfl rfl (fun b3 => p_iload_n (q := 40) rfl rfl rfl (p_iald (q := 41) rfl rfl rfl (p_iret rfl rfl)))))) (p_aload_n (q := 21) rfl rfl rfl (p_getr (q := 24) rfl rfl rfl rfl (fun b4 => p_getr (q := 27) rfl rfl rfl rfl (fun b5 => p_iload_n (q := 28) rfl rfl rfl (p_iald (q := 29) rfl rfl rfl (p_goto (q := 41) (off := 12) rfl (by decide) rfl (p_iret rfl rfl))))))))) (p_iload (q := 15) rfl rfl rfl (p_iret rfl rfl)))))))))
/-- SometimesSums.count, from 0 -/
theorem b94_0 (X : Nat × (Nat → Int)) (d : Nat) (r0 : Nat) (l1 : Int) (w : MW) : run X (d + 1) 94 [.inr r0, .inl l1] w = swt l1 [gd (kd w r0 = 16) (rO (gr w r0 0) fun b1 => gd (kd w b1 = 13) (some (some (.inl (gi w b1 0)), w))), gd (kd w r0 = 16) (rO (gr w r0 0) fun b2 => gd (kd w b2 = 13) (rI (run X d 41 [.inr b2] w) fun v3 w3 => some (some (.inl v3), w3))), gd (kd w r0 = 16) (rO (gr w r0 5) fun b4 => gd (kd w r0 = 16) (rO (gr w r0 0) fun b5 => gd (kd w b4 = 11) (rV (run X d 6 [.inr b4, .inr b5] w) fun w6 => gd (kd w6 r0 = 16) (rO (gr w6 r0 5) fun b7 => gd (kd w6 b7 = 11) (if (gi w6 b7 0) ≠ 0 then (some (some (.inl 0), w6)) else (some (some (.inl 1), w6))))))), gd (kd w r0 = 16) (rO (gr w r0 6) fun b8 => gd (kd w r0 = 16) (rO (gr w r0 0) fun b9 => gd (kd w b8 = 12) (rV (run X d 11 [.inr b8, .inr b9] w) fun w10 => gd (kd w10 r0 = 16) (rO (gr w10 r0 6) fun b11 => gd (kd w10 b11 = 12) (rI (run X d 20 [.inr b11] w10) fun v12 w12 => some (some (.inl v12), w12)))))), gd (kd w r0 = 16) (rO (gr w r0 6) fun b13 => gd (kd w r0 = 16) (rO (gr w r0 0) fun b14 => gd (kd w b13 = 12) (rV (run X d 11 [.inr b13, .inr b14] w) fun w15 => gd (kd w15 r0 = 16) (rO (gr w15 r0 6) fun b16 => gd (kd w15 b16 = 12) (rI (run X d 16 [.inr b16] w15) fun v17 w17 => some (some (.inl v17), w17)))))), gd (kd w r0 = 16) (rO (gr w r0 6) fun b18 => gd (kd w r0 = 16) (rO (gr w r0 0) fun b19 => gd (kd w b18 = 12) (rV (run X d 11 [.inr b18, .inr b19] w) fun w20 => gd (kd w20 r0 = 16) (rO (gr w20 r0 6) fun b21 => gd (kd w20 b21 = 12) (rI (run X d 18 [.inr b21] w20) fun v22 w22 => some (some (.inl v22), w22)))))), gd (kd w r0 = 16) (rO (gr w r0 6) fun b23 => gd (kd w r0 = 16) (rO (gr w r0 0) fun b24 => gd (kd w b23 = 12) (rV (run X d 11 [.inr b23, .inr b24] w) fun w25 => gd (kd w25 r0 = 16) (rO (gr w25 r0 6) fun b26 => gd (kd w25 b26 = 12) (rI (run X d 19 [.inr b26] w25) fun v27 w27 => some (some (.inl v27), w27)))))), gd (kd w r0 = 16) (rO (gr w r0 5) fun b28 => gd (kd w r0 = 16) (rO (gr w r0 0) fun b29 => gd (kd w b28 = 11) (rV (run X d 6 [.inr b28, .inr b29] w) fun w30 => gd (kd w30 r0 = 16) (rO (gr w30 r0 5) fun b31 => gd (kd w30 b31 = 11) (some (some (.inl (gi w30 b31 0)), w30)))))), gd (kd w r0 = 16) (rO (gr w r0 3) fun b32 => gd (kd w b32 = 10) (some (some (.inl (gi w b32 0)), w))), gd (kd w r0 = 16) (rO (gr w r0 4) fun b33 => gd (kd w b33 = 14) (some (some (.inl (gi w b33 0)), w)))] 0 (some (some (.inl (-2)), w)) := (show R X (d + 1) 94 0 [some (.inr r0), some (.inl l1)] [] w = _ from p_iload_n (q := 1) rfl rfl rfl (p_switch (q := 210) (dflt := 209) (hi := 9) (offs := #[55, 63, 71, 98, 117, 136, 155, 174, 193, 201]) rfl (by decide) (by decide) (q_cons (Eq.symm (p_aload_n (q := 57) rfl rfl rfl (p_getr (q := 60) rfl rfl rfl rfl (fun b1 => p_getf (q := 63) rfl rfl rfl rfl (p_iret rfl rfl))))) (q_cons (Eq.symm (p_aload_n (q := 65) rfl rfl rfl (p_getr (q := 68) rfl rfl rfl rfl (fun b2 => p_callVi (q := 71) (s2 := []) rfl rfl rfl rfl rfl rfl rfl (fun v3 w3 => p_iret rfl rfl))))) (q_cons (Eq.symm (p_aload_n (q := 73) rfl rfl rfl (p_getr (q := 76) rfl rfl rfl rfl (fun b4 => p_aload_n (q := 77) rfl rfl rfl (p_getr (q := 80) rfl rfl rfl rfl (fun b5 => p_callVv (q := 83) (s2 := []) rfl rfl rfl rfl rfl rfl rfl (fun w6 => p_aload_n (q := 84) rfl rfl rfl (p_getr (q := 87) rfl rfl rfl rfl (fun b7 => p_getf (q := 90) rfl rfl rfl rfl (p_if_ne (q := 97) (q2 := 93) (off := 7) rfl (by decide) rfl rfl (p_iconst (q := 98) (z := 0) rfl (by decide) rfl (p_iret rfl rfl)) (p_iconst (q := 94) (z := 1) rfl (by decide) rfl (p_goto (q := 98) (off := 4) rfl (by decide) rfl (p_iret rfl rfl))))))))))))) (q_cons (Eq.symm (p_aload_n (q := 100) rfl rfl rfl (p_getr (q := 103) rfl rfl rfl rfl (fun b8 => p_aload_n (q := 104) rfl rfl rfl (p_getr (q := 107) rfl rfl rfl rfl (fun b9 => p_callVv (q := 110) (s2 := []) rfl rfl rfl rfl rfl rfl rfl (fun w10 => p_aload_n (q := 111) rfl rfl rfl (p_getr (q := 114) rfl rfl rfl rfl (fun b11 => p_callVi (q := 117) (s2 := []) rfl rfl rfl rfl rfl rfl rfl (fun v12 w12 => p_iret rfl rfl)))))))))) (q_cons (Eq.symm (p_aload_n (q := 119) rfl rfl rfl (p_getr (q := 122) rfl rfl rfl rfl (fun b13 => p_aload_n (q := 123) rfl rfl rfl (p_getr (q := 126) rfl rfl rfl rfl (fun b14 => p_callVv (q := 129) (s2 := []) rfl rfl rfl rfl rfl rfl rfl (fun w15 => p_aload_n (q := 130) rfl rfl rfl (p_getr (q := 133) rfl rfl rfl rfl (fun b16 => p_callVi (q := 136) (s2 := []) rfl rfl rfl rfl rfl rfl rfl (fun v17 w17 => p_iret rfl rfl)))))))))) (q_cons (Eq.symm (p_aload_n (q := 138) rfl rfl rfl (p_getr (q := 141) rfl rfl rfl rfl (fun b18 => p_aload_n (q := 142) rfl rfl rfl (p_getr (q := 145) rfl rfl rfl rfl (fun b19 => p_callVv (q := 148) (s2 := []) rfl rfl rfl rfl rfl rfl rfl (fun w20 => p_aload_n (q := 149) rfl rfl rfl (p_getr (q := 152) rfl rfl rfl rfl (fun b21 => p_callVi (q := 155) (s2 := []) rfl rfl rfl rfl rfl rfl rfl (fun v22 w22 => p_iret rfl rfl)))))))))) (q_cons (Eq.symm (p_aload_n (q := 157) rfl rfl rfl (p_getr (q := 160) rfl rfl rfl rfl (fun b23 => p_aload_n (q := 161) rfl rfl rfl (p_getr (q := 164) rfl rfl rfl rfl (fun b24 => p_callVv (q := 167) (s2 := []) rfl rfl rfl rfl rfl rfl rfl (fun w25 => p_aload_n (q := 168) rfl rfl rfl (p_getr (q := 171) rfl rfl rfl rfl (fun b26 => p_callVi (q := 174) (s2 := []) rfl rfl rfl rfl rfl rfl rfl (fun v27 w27 => p_iret rfl rfl)))))))))) (q_cons (Eq.symm (p_aload_n (q := 176) rfl rfl rfl (p_getr (q := 179) rfl rfl rfl rfl (fun b28 => p_aload_n (q := 180) rfl rfl rfl (p_getr (q := 183) rfl rfl rfl rfl (fun b29 => p_callVv (q := 186) (s2 := []) rfl rfl rfl rfl rfl rfl rfl (fun w30 => p_aload_n (q := 187) rfl rfl rfl (p_getr (q := 190) rfl rfl rfl rfl (fun b31 => p_getf (q := 193) rfl rfl rfl rfl (p_iret rfl rfl)))))))))) (q_cons (Eq.symm (p_aload_n (q := 195) rfl rfl rfl (p_getr (q := 198) rfl rfl rfl rfl (fun b32 => p_getf (q := 201) rfl rfl rfl rfl (p_iret rfl rfl))))) (q_cons (Eq.symm (p_aload_n (q := 203) rfl rfl rfl (p_getr (q := 206) rfl rfl rfl rfl (fun b33 => p_getf (q := 209) rfl rfl rfl rfl (p_iret rfl rfl))))) (rfl))))))))))) rfl (p_bipush (q := 212) (z := (-2)) rfl (by decide) rfl (p_iret rfl rfl))))
/-- SometimesSums.bit, from 0 -/
theorem b95_0 (X : Nat × (Nat → Int)) (d : Nat) (l0 : Int) (w : MW) : run X d 95 [.inl l0] w = some (some (.inl (shlI 1 l0)), w) := (show R X d 95 0 [some (.inl l0)] [] w = _ from p_iconst (q := 1) (z := 1) rfl (by decide) rfl (p_iload_n (q := 2) rfl rfl rfl (p_ishl (q := 3) rfl rfl (p_iret rfl rfl))))
/-- SometimesSums.isNothingOrWhole, from 0 -/
theorem b96_0 (X : Nat × (Nat → Int)) (d : Nat) (l0 : Int) (w : MW) : run X d 96 [.inl l0] w = if l0 = 0 then (some (some (.inl 1), w)) else (if l0 ≠ (1 : Int) then (some (some (.inl 0), w)) else (some (some (.inl 1), w))) := (show R X d 96 0 [some (.inl l0)] [] w = _ from p_iload_n (q := 1) rfl rfl rfl (p_if_eq (q := 9) (q2 := 4) (off := 8) rfl (by decide) rfl rfl (p_iconst (q := 10) (z := 1) rfl (by decide) rfl (p_goto (q := 14) (off := 4) rfl (by decide) rfl (p_zret1 rfl rfl))) (p_iload_n (q := 5) rfl rfl rfl (p_iconst (q := 6) (z := 1) rfl (by decide) rfl (p_icmp_ne (q := 13) (q2 := 9) (off := 7) rfl (by decide) rfl rfl (p_iconst (q := 14) (z := 0) rfl (by decide) rfl (p_zret0 rfl rfl)) (p_iconst (q := 10) (z := 1) rfl (by decide) rfl (p_goto (q := 14) (off := 4) rfl (by decide) rfl (p_zret1 rfl rfl))))))))
/-- SometimesSums.thingOrNone, from 0 -/
theorem b97_0 (X : Nat × (Nat → Int)) (d : Nat) (l0 : Int) (w : MW) : run X d 97 [.inl l0] w = if l0 ≠ (12 : Int) then (some (some (.inl l0), w)) else (some (some (.inl (-5)), w)) := (show R X d 97 0 [some (.inl l0)] [] w = _ from p_iload_n (q := 1) rfl rfl rfl (p_bipush (q := 3) (z := 12) rfl (by decide) rfl (p_icmp_ne (q := 11) (q2 := 6) (off := 8) rfl (by decide) rfl rfl (p_iload_n (q := 12) rfl rfl rfl (p_iret rfl rfl)) (p_bipush (q := 8) (z := (-5)) rfl (by decide) rfl (p_goto (q := 12) (off := 4) rfl (by decide) rfl (p_iret rfl rfl))))))
/-- SometimesSums.isWholeWeight, from 0 -/
theorem b98_0 (X : Nat × (Nat → Int)) (d : Nat) (l0 : Int) (w : MW) : run X d 98 [.inl l0] w = if l0 < (1 : Int) then (some (some (.inl 0), w)) else (if (6 : Int) < l0 then (some (some (.inl 0), w)) else (some (some (.inl 1), w))) := (show R X d 98 0 [some (.inl l0)] [] w = _ from p_iload_n (q := 1) rfl rfl rfl (p_iconst (q := 2) (z := 1) rfl (by decide) rfl (p_icmp_lt (q := 15) (q2 := 5) (off := 13) rfl (by decide) rfl rfl (p_iconst (q := 16) (z := 0) rfl (by decide) rfl (p_zret0 rfl rfl)) (p_iload_n (q := 6) rfl rfl rfl (p_bipush (q := 8) (z := 6) rfl (by decide) rfl (p_icmp_gt (q := 15) (q2 := 11) (off := 7) rfl (by decide) rfl rfl (p_iconst (q := 16) (z := 0) rfl (by decide) rfl (p_zret0 rfl rfl)) (p_iconst (q := 12) (z := 1) rfl (by decide) rfl (p_goto (q := 16) (off := 4) rfl (by decide) rfl (p_zret1 rfl rfl)))))))))
/-- SometimesSums.weighingError, from 0 -/
theorem b99_0 (X : Nat × (Nat → Int)) (d : Nat) (r0 : Nat) (l1 : Int) (l2 : Int) (w : MW) : run X (d + 1) 99 [.inr r0, .inl l1, .inl l2] w = rI (run X d 98 [.inl l1] w) fun v1 w1 => if v1 ≠ 0 then (gd (kd w1 r0 = 16) (rO (gr w1 r0 0) fun b2 => gd (kd w1 b2 = 13) (rI (run X d 24 [.inr b2, .inl l2] w1) fun v3 w3 => if v3 ≠ 0 then (gd (kd w3 r0 = 16) (rO (gr w3 r0 7) fun b4 => gd (kd w3 r0 = 16) (rO (gr w3 r0 0) fun b5 => gd (kd w3 b4 = 15) (rV (run X d 54 [.inr b4, .inr b5, .inl l1] w3) fun w6 => gd (kd w6 r0 = 16) (rO (gr w6 r0 7) fun b7 => gd (kd w6 b7 = 15) (if (gi w6 b7 0) ≠ 0 then (some (some (.inl 0), w6)) else (some (some (.inl (-5)), w6)))))))) else (some (some (.inl (-1)), w3))))) else (some (some (.inl (-2)), w1)) := (show R X (d + 1) 99 0 [some (.inr r0), some (.inl l1), some (.inl l2)] [] w = _ from p_iload_n (q := 1) rfl rfl rfl (p_callSi (q := 4) (s2 := []) rfl rfl rfl rfl rfl rfl (fun v1 w1 => p_if_ne (q := 10) (q2 := 7) (off := 6) rfl (by decide) rfl rfl (p_aload_n (q := 11) rfl rfl rfl (p_getr (q := 14) rfl rfl rfl rfl (fun b2 => p_iload_n (q := 15) rfl rfl rfl (p_callVi (q := 18) (s2 := []) rfl rfl rfl rfl rfl rfl rfl (fun v3 w3 => p_if_ne (q := 23) (q2 := 21) (off := 5) rfl (by decide) rfl rfl (p_aload_n (q := 24) rfl rfl rfl (p_getr (q := 27) rfl rfl rfl rfl (fun b4 => p_aload_n (q := 28) rfl rfl rfl (p_getr (q := 31) rfl rfl rfl rfl (fun b5 => p_iload_n (q := 32) rfl rfl rfl (p_callVv (q := 35) (s2 := []) rfl rfl rfl rfl rfl rfl rfl (fun w6 => p_aload_n (q := 36) rfl rfl rfl (p_getr (q := 39) rfl rfl rfl rfl (fun b7 => p_getf (q := 42) rfl rfl rfl rfl (p_if_ne (q := 50) (q2 := 45) (off := 8) rfl (by decide) rfl rfl (p_iconst (q := 51) (z := 0) rfl (by decide) rfl (p_iret rfl rfl)) (p_bipush (q := 47) (z := (-5)) rfl (by decide) rfl (p_goto (q := 51) (off := 4) rfl (by decide) rfl (p_iret rfl rfl))))))))))))) (p_iconst (q := 22) (z := (-1)) rfl (by decide) rfl (p_iret rfl rfl))))))) (p_bipush (q := 9) (z := (-2)) rfl (by decide) rfl (p_iret rfl rfl)))))
/-- SometimesSums.timesAddable, from 0 -/
theorem b100_0 (X : Nat × (Nat → Int)) (d : Nat) (r0 : Nat) (l1 : Int) (w : MW) : run X (d + 1) 100 [.inr r0, .inl l1] w = R X (d + 1) 100 4 [some (.inr r0), some (.inl l1), some (.inl l1), some (.inl 1)] [] w := (show R X (d + 1) 100 0 [some (.inr r0), some (.inl l1), none, none] [] w = _ from p_iload_n (q := 1) rfl rfl rfl (p_istore_n (q := 2) (L2 := [some (.inr r0), some (.inl l1), some (.inl l1), none]) rfl rfl rfl rfl (p_iconst (q := 3) (z := 1) rfl (by decide) rfl (p_istore_n (q := 4) (L2 := [some (.inr r0), some (.inl l1), some (.inl l1), some (.inl 1)]) rfl rfl rfl rfl (rfl)))))
/-- SometimesSums.timesAddable, from 4 -/
theorem b100_4 (X : Nat × (Nat → Int)) (d : Nat) (r0 : Nat) (l1 : Int) (l2 : Int) (l3 : Int) (w : MW) : R X (d + 1) 100 4 [some (.inr r0), some (.inl l1), some (.inl l2), some (.inl l3)] [] w = if (20 : Int) ≤ l3 then (some (some (.inl 20), w)) else (gd (kd w r0 = 16) (rO (gr w r0 0) fun b1 => gd (kd w b1 = 13) (rI (run X d 25 [.inr b1, .inl l2, .inl l1] w) fun v2 w2 => if v2 ≠ (12 : Int) then (R X (d + 1) 100 4 [some (.inr r0), some (.inl l1), some (.inl v2), some (.inl (wrap (l3 + 1)))] [] w2) else (some (some (.inl l3), w2))))) := p_iload_n (q := 5) rfl rfl rfl (p_bipush (q := 7) (z := 20) rfl (by decide) rfl (p_icmp_ge (q := 34) (q2 := 10) (off := 27) rfl (by decide) rfl rfl (p_bipush (q := 36) (z := 20) rfl (by decide) rfl (p_iret rfl rfl)) (p_aload_n (q := 11) rfl rfl rfl (p_getr (q := 14) rfl rfl rfl rfl (fun b1 => p_iload_n (q := 15) rfl rfl rfl (p_iload_n (q := 16) rfl rfl rfl (p_callVi (q := 19) (s2 := []) rfl rfl rfl rfl rfl rfl rfl (fun v2 w2 => p_istore_n (q := 20) (L2 := [some (.inr r0), some (.inl l1), some (.inl v2), some (.inl l3)]) rfl rfl rfl rfl (p_iload_n (q := 21) rfl rfl rfl (p_bipush (q := 23) (z := 12) rfl (by decide) rfl (p_icmp_ne (q := 28) (q2 := 26) (off := 5) rfl (by decide) rfl rfl (p_iinc (q := 31) (z := 1) (L2 := [some (.inr r0), some (.inl l1), some (.inl v2), some (.inl (wrap (l3 + 1)))]) rfl rfl (by decide) rfl rfl (p_goto (q := 4) (off := (-27)) rfl (by decide) rfl (rfl))) (p_iload_n (q := 27) rfl rfl rfl (p_iret rfl rfl)))))))))))))
end
section
/-- SometimesSumsLaw.law, from 0 -/
theorem b0_0 (X : Nat × (Nat → Int)) (d : Nat) (r0 : Nat) (w : MW) : run X (d + 1) 0 [.inr r0] w = gd (kd (al w 16 0 9) (nx w) = 16) (rV (run X d 70 [.inr (nx w)] (al w 16 0 9)) fun w1 => gd (r0 = 0 ∧ X.1 < 2147483648) (if (divI ((X.1 : Int)) 5) ≤ (14 : Int) then (gd (r0 = 0 ∧ X.1 < 2147483648) (R X (d + 1) 0 32 [some (.inr r0), some (.inr (nx w)), some (.inl 1), some (.inl (divI ((X.1 : Int)) 5)), some (.inl 0), none, none, none, none] [] w1)) else (R X (d + 1) 0 32 [some (.inr r0), some (.inr (nx w)), some (.inl 1), some (.inl 14), some (.inl 0), none, none, none, none] [] w1))) := (show R X (d + 1) 0 0 [some (.inr r0), none, none, none, none, none, none, none, none] [] w = _ from p_new (q := 3) rfl rfl rfl (p_dup (q := 4) rfl rfl (p_callIv (q := 7) (s2 := [.inr (nx w)]) rfl rfl rfl rfl rfl rfl rfl (fun w1 => p_astore_n (q := 8) (L2 := [some (.inr r0), some (.inr (nx w)), none, none, none, none, none, none, none]) rfl rfl rfl rfl (p_iconst (q := 9) (z := 1) rfl (by decide) rfl (p_istore_n (q := 10) (L2 := [some (.inr r0), some (.inr (nx w)), some (.inl 1), none, none, none, none, none, none]) rfl rfl rfl rfl (p_aload_n (q := 11) rfl rfl rfl (p_slen (q := 12) rfl rfl rfl (p_iconst (q := 13) (z := 5) rfl (by decide) rfl (p_idiv (q := 14) rfl (by decide) rfl (p_bipush (q := 16) (z := 14) rfl (by decide) rfl (p_icmp_le (q := 24) (q2 := 19) (off := 8) rfl (by decide) rfl rfl (p_aload_n (q := 25) rfl rfl rfl (p_slen (q := 26) rfl rfl rfl (p_iconst (q := 27) (z := 5) rfl (by decide) rfl (p_idiv (q := 28) rfl (by decide) rfl (p_istore_n (q := 29) (L2 := [some (.inr r0), some (.inr (nx w)), some (.inl 1), some (.inl (divI ((X.1 : Int)) 5)), none, none, none, none, none]) rfl rfl rfl rfl (p_iconst (q := 30) (z := 0) rfl (by decide) rfl (p_istore (q := 32) (L2 := [some (.inr r0), some (.inr (nx w)), some (.inl 1), some (.inl (divI ((X.1 : Int)) 5)), some (.inl 0), none, none, none, none]) rfl rfl rfl rfl (rfl)))))))) (p_bipush (q := 21) (z := 14) rfl (by decide) rfl (p_goto (q := 28) (off := 7) rfl (by decide) rfl (p_istore_n (q := 29) (L2 := [some (.inr r0), some (.inr (nx w)), some (.inl 1), some (.inl 14), none, none, none, none, none]) rfl rfl rfl rfl (p_iconst (q := 30) (z := 0) rfl (by decide) rfl (p_istore (q := 32) (L2 := [some (.inr r0), some (.inr (nx w)), some (.inl 1), some (.inl 14), some (.inl 0), none, none, none, none]) rfl rfl rfl rfl (rfl))))))))))))))))))
/-- SometimesSumsLaw.law, from 32 -/
theorem b0_32 (X : Nat × (Nat → Int)) (d : Nat) (r0 : Nat) (r1 : Nat) (l2 : Int) (l3 : Int) (l4 : Int) (w : MW) : R X (d + 1) 0 32 [some (.inr r0), some (.inr r1), some (.inl l2), some (.inl l3), some (.inl l4), none, none, none, none] [] w = if l3 ≤ l4 then (gd (l2 = 0 ∨ l2 = 1) (some (some (.inl l2), w))) else (if l2 = 0 then (gd (l2 = 0 ∨ l2 = 1) (some (some (.inl l2), w))) else (gd (kd w r1 = 16) (rI (run X d 94 [.inr r1, .inl 0] w) fun v1 w1 => gd (kd w1 r1 = 16) (rI (run X d 94 [.inr r1, .inl 8] w1) fun v2 w2 => if l4 ≠ (4 : Int) then (R X (d + 1) 0 78 [some (.inr r0), some (.inr r1), some (.inl l2), some (.inl l3), some (.inl l4), some (.inl v1), some (.inl v2), none, none] [] w2) else (gd (kd w2 r1 = 16) (rI (run X d 83 [.inr r1] w2) fun v3 w3 => if v3 ≠ v1 then (R X (d + 1) 0 77 [some (.inr r0), some (.inr r1), none, some (.inl l3), some (.inl l4), some (.inl v1), some (.inl v2), none, none] [.inl 0] w3) else (R X (d + 1) 0 77 [some (.inr r0), some (.inr r1), none, some (.inl l3), some (.inl l4), some (.inl v1), some (.inl v2), none, none] [.inl 1] w3))))))) := q_iload (q := 34) (L1 := [some (.inr r0), some (.inr r1), some (.inl l2), some (.inl l3), some (.inl l4), none, none, none, none]) rfl rfl rfl rfl (p_iload_n (q := 35) rfl rfl rfl (p_icmp_ge (q := 266) (q2 := 38) (off := 231) rfl (by decide) rfl rfl (p_iload_n (q := 267) rfl rfl rfl (p_zret rfl rfl)) (p_iload_n (q := 39) rfl rfl rfl (p_if_eq (q := 266) (q2 := 42) (off := 227) rfl (by decide) rfl rfl (p_iload_n (q := 267) rfl rfl rfl (p_zret rfl rfl)) (p_aload_n (q := 43) rfl rfl rfl (p_iconst (q := 44) (z := 0) rfl (by decide) rfl (p_callVi (q := 47) (s2 := []) rfl rfl rfl rfl rfl rfl rfl (fun v1 w1 => p_istore (q := 49) (L2 := [some (.inr r0), some (.inr r1), some (.inl l2), some (.inl l3), some (.inl l4), some (.inl v1), none, none, none]) rfl rfl rfl rfl (p_aload_n (q := 50) rfl rfl rfl (p_bipush (q := 52) (z := 8) rfl (by decide) rfl (p_callVi (q := 55) (s2 := []) rfl rfl rfl rfl rfl rfl rfl (fun v2 w2 => p_istore (q := 57) (L2 := [some (.inr r0), some (.inr r1), some (.inl l2), some (.inl l3), some (.inl l4), some (.inl v1), some (.inl v2), none, none]) rfl rfl rfl rfl (p_iload (q := 59) rfl rfl rfl (p_iconst (q := 60) (z := 4) rfl (by decide) rfl (p_icmp_ne (q := 78) (q2 := 63) (off := 18) rfl (by decide) rfl rfl (rfl) (p_aload_n (q := 64) rfl rfl rfl (p_callVi (q := 67) (s2 := []) rfl rfl rfl rfl rfl rfl rfl (fun v3 w3 => p_iload (q := 69) rfl rfl rfl (p_icmp_ne (q := 76) (q2 := 72) (off := 7) rfl (by decide) rfl rfl (p_iconst (q := 77) (z := 0) rfl (by decide) rfl (q_kill rfl rfl rfl rfl)) (p_iconst (q := 73) (z := 1) rfl (by decide) rfl (p_goto (q := 77) (off := 4) rfl (by decide) rfl (q_kill rfl rfl rfl rfl))))))))))))))))))))))
/-- SometimesSumsLaw.law, from 77 -/
theorem b0_77 (X : Nat × (Nat → Int)) (d : Nat) (r0 : Nat) (r1 : Nat) (l3 : Int) (l4 : Int) (l5 : Int) (l6 : Int) (t0 : Int) (w : MW) : R X (d + 1) 0 77 [some (.inr r0), some (.inr r1), none, some (.inl l3), some (.inl l4), some (.inl l5), some (.inl l6), none, none] [.inl t0] w = R X (d + 1) 0 78 [some (.inr r0), some (.inr r1), some (.inl t0), some (.inl l3), some (.inl l4), some (.inl l5), some (.inl l6), none, none] [] w := q_istore_n (q := 78) (L1 := [some (.inr r0), some (.inr r1), none, some (.inl l3), some (.inl l4), some (.inl l5), some (.inl l6), none, none]) (L2 := [some (.inr r0), some (.inr r1), some (.inl t0), some (.inl l3), some (.inl l4), some (.inl l5), some (.inl l6), none, none]) rfl rfl rfl rfl rfl (rfl)
/-- SometimesSumsLaw.law, from 78 -/
theorem b0_78 (X : Nat × (Nat → Int)) (d : Nat) (r0 : Nat) (r1 : Nat) (l2 : Int) (l3 : Int) (l4 : Int) (l5 : Int) (l6 : Int) (w : MW) : R X (d + 1) 0 78 [some (.inr r0), some (.inr r1), some (.inl l2), some (.inl l3), some (.inl l4), some (.inl l5), some (.inl l6), none, none] [] w = rI (run X d 103 [.inr r1, .inr r0, .inl l4] w) fun v1 w1 => gd (kd w1 r1 = 16) (rI (run X d 94 [.inr r1, .inl 0] w1) fun v2 w2 => if l2 = 0 then (R X (d + 1) 0 134 [some (.inr r0), some (.inr r1), none, some (.inl l3), some (.inl l4), none, none, none, some (.inl v2)] [] w2) else (if 0 ≤ v1 then (R X (d + 1) 0 121 [some (.inr r0), some (.inr r1), none, some (.inl l3), some (.inl l4), none, none, none, some (.inl v2)] [] w2) else (if v2 ≠ l5 then (R X (d + 1) 0 134 [some (.inr r0), some (.inr r1), none, some (.inl l3), some (.inl l4), none, none, none, some (.inl v2)] [] w2) else (gd (kd w2 r1 = 16) (rI (run X d 94 [.inr r1, .inl 8] w2) fun v3 w3 => if v3 ≠ l6 then (R X (d + 1) 0 134 [some (.inr r0), some (.inr r1), none, some (.inl l3), some (.inl l4), none, none, none, some (.inl v2)] [] w3) else (R X (d + 1) 0 121 [some (.inr r0), some (.inr r1), none, some (.inl l3), some (.inl l4), none, none, none, some (.inl v2)] [] w3)))))) := q_aload_n (q := 79) (L1 := [some (.inr r0), some (.inr r1), some (.inl l2), some (.inl l3), some (.inl l4), some (.inl l5), some (.inl l6), none, none]) rfl rfl rfl rfl (p_aload_n (q := 80) rfl rfl rfl (p_iload (q := 82) rfl rfl rfl (p_callSi (q := 85) (s2 := []) rfl rfl rfl rfl rfl rfl (fun v1 w1 => p_istore (q := 87) (L2 := [some (.inr r0), some (.inr r1), some (.inl l2), some (.inl l3), some (.inl l4), some (.inl l5), some (.inl l6), some (.inl v1), none]) rfl rfl rfl rfl (p_aload_n (q := 88) rfl rfl rfl (p_iconst (q := 89) (z := 0) rfl (by decide) rfl (p_callVi (q := 92) (s2 := []) rfl rfl rfl rfl rfl rfl rfl (fun v2 w2 => p_istore (q := 94) (L2 := [some (.inr r0), some (.inr r1), some (.inl l2), some (.inl l3), some (.inl l4), some (.inl l5), some (.inl l6), some (.inl v1), some (.inl v2)]) rfl rfl rfl rfl (p_iload_n (q := 95) rfl rfl rfl (p_if_eq (q := 134) (q2 := 98) (off := 39) rfl (by decide) rfl rfl (q_kill rfl rfl rfl rfl) (p_iload (q := 100) rfl rfl rfl (p_if_ge (q := 121) (q2 := 103) (off := 21) rfl (by decide) rfl rfl (q_kill rfl rfl rfl rfl) (p_iload (q := 105) rfl rfl rfl (p_iload (q := 107) rfl rfl rfl (p_icmp_ne (q := 134) (q2 := 110) (off := 27) rfl (by decide) rfl rfl (q_kill rfl rfl rfl rfl) (p_aload_n (q := 111) rfl rfl rfl (p_bipush (q := 113) (z := 8) rfl (by decide) rfl (p_callVi (q := 116) (s2 := []) rfl rfl rfl rfl rfl rfl rfl (fun v3 w3 => p_iload (q := 118) rfl rfl rfl (p_icmp_ne (q := 134) (q2 := 121) (off := 16) rfl (by decide) rfl rfl (q_kill rfl rfl rfl rfl) (q_kill rfl rfl rfl rfl)))))))))))))))))))))
/-- SometimesSumsLaw.law, from 121 -/
theorem b0_121 (X : Nat × (Nat → Int)) (d : Nat) (r0 : Nat) (r1 : Nat) (l3 : Int) (l4 : Int) (l8 : Int) (w : MW) : R X (d + 1) 0 121 [some (.inr r0), some (.inr r1), none, some (.inl l3), some (.inl l4), none, none, none, some (.inl l8)] [] w = rI (run X d 104 [.inr r1, .inl l8] w) fun v1 w1 => if v1 = 0 then (R X (d + 1) 0 134 [some (.inr r0), some (.inr r1), none, some (.inl l3), some (.inl l4), none, none, none, some (.inl l8)] [] w1) else (R X (d + 1) 0 135 [some (.inr r0), some (.inr r1), none, some (.inl l3), some (.inl l4), none, none, none, some (.inl l8)] [.inl 1] w1) := q_aload_n (q := 122) (L1 := [some (.inr r0), some (.inr r1), none, some (.inl l3), some (.inl l4), none, none, none, some (.inl l8)]) rfl rfl rfl rfl (p_iload (q := 124) rfl rfl rfl (p_callSi (q := 127) (s2 := []) rfl rfl rfl rfl rfl rfl (fun v1 w1 => p_if_eq (q := 134) (q2 := 130) (off := 7) rfl (by decide) rfl rfl (rfl) (p_iconst (q := 131) (z := 1) rfl (by decide) rfl (p_goto (q := 135) (off := 4) rfl (by decide) rfl (rfl))))))
/-- SometimesSumsLaw.law, from 134 -/
theorem b0_134 (X : Nat × (Nat → Int)) (d : Nat) (r0 : Nat) (r1 : Nat) (l3 : Int) (l4 : Int) (l8 : Int) (w : MW) : R X (d + 1) 0 134 [some (.inr r0), some (.inr r1), none, some (.inl l3), some (.inl l4), none, none, none, some (.inl l8)] [] w = R X (d + 1) 0 135 [some (.inr r0), some (.inr r1), none, some (.inl l3), some (.inl l4), none, none, none, some (.inl l8)] [.inl 0] w := q_iconst (q := 135) (L1 := [some (.inr r0), some (.inr r1), none, some (.inl l3), some (.inl l4), none, none, none, some (.inl l8)]) (z := 0) rfl rfl (by decide) rfl (rfl)
/-- SometimesSumsLaw.law, from 135 -/
theorem b0_135 (X : Nat × (Nat → Int)) (d : Nat) (r0 : Nat) (r1 : Nat) (l3 : Int) (l4 : Int) (l8 : Int) (t0 : Int) (w : MW) : R X (d + 1) 0 135 [some (.inr r0), some (.inr r1), none, some (.inl l3), some (.inl l4), none, none, none, some (.inl l8)] [.inl t0] w = if t0 = 0 then (R X (d + 1) 0 207 [some (.inr r0), some (.inr r1), none, some (.inl l3), some (.inl l4), none, none, none, some (.inl l8)] [] w) else (gd (kd w r1 = 16) (rI (run X d 94 [.inr r1, .inl 2] w) fun v1 w1 => if v1 ≠ (1 : Int) then (R X (d + 1) 0 154 [some (.inr r0), some (.inr r1), none, some (.inl l3), some (.inl l4), none, none, none, some (.inl l8)] [.inl 0] w1) else (R X (d + 1) 0 154 [some (.inr r0), some (.inr r1), none, some (.inl l3), some (.inl l4), none, none, none, some (.inl l8)] [.inl 1] w1))) := q_istore_n (q := 136) (L1 := [some (.inr r0), some (.inr r1), none, some (.inl l3), some (.inl l4), none, none, none, some (.inl l8)]) (L2 := [some (.inr r0), some (.inr r1), some (.inl t0), some (.inl l3), some (.inl l4), none, none, none, some (.inl l8)]) rfl rfl rfl rfl rfl (p_iload_n (q := 137) rfl rfl rfl (p_if_eq (q := 207) (q2 := 140) (off := 70) rfl (by decide) rfl rfl (q_kill rfl rfl rfl rfl) (p_aload_n (q := 141) rfl rfl rfl (p_iconst (q := 142) (z := 2) rfl (by decide) rfl (p_callVi (q := 145) (s2 := []) rfl rfl rfl rfl rfl rfl rfl (fun v1 w1 => p_iconst (q := 146) (z := 1) rfl (by decide) rfl (p_icmp_ne (q := 153) (q2 := 149) (off := 7) rfl (by decide) rfl rfl (p_iconst (q := 154) (z := 0) rfl (by decide) rfl (q_kill rfl rfl rfl rfl)) (p_iconst (q := 150) (z := 1) rfl (by decide) rfl (p_goto (q := 154) (off := 4) rfl (by decide) rfl (q_kill rfl rfl rfl rfl))))))))))
/-- SometimesSumsLaw.law, from 154 -/
theorem b0_154 (X : Nat × (Nat → Int)) (d : Nat) (r0 : Nat) (r1 : Nat) (l3 : Int) (l4 : Int) (l8 : Int) (t0 : Int) (w : MW) : R X (d + 1) 0 154 [some (.inr r0), some (.inr r1), none, some (.inl l3), some (.inl l4), none, none, none, some (.inl l8)] [.inl t0] w = gd (kd w r1 = 16) (rI (run X d 94 [.inr r1, .inl 7] w) fun v1 w1 => if v1 ≠ 0 then (R X (d + 1) 0 168 [some (.inr r0), some (.inr r1), none, some (.inl l3), some (.inl l4), none, none, none, some (.inl l8)] [.inl 0, .inl t0] w1) else (R X (d + 1) 0 168 [some (.inr r0), some (.inr r1), none, some (.inl l3), some (.inl l4), none, none, none, some (.inl l8)] [.inl 1, .inl t0] w1)) := q_aload_n (q := 155) (L1 := [some (.inr r0), some (.inr r1), none, some (.inl l3), some (.inl l4), none, none, none, some (.inl l8)]) rfl rfl rfl rfl (p_bipush (q := 157) (z := 7) rfl (by decide) rfl (p_callVi (q := 160) (s2 := [.inl t0]) rfl rfl rfl rfl rfl rfl rfl (fun v1 w1 => p_if_ne (q := 167) (q2 := 163) (off := 7) rfl (by decide) rfl rfl (p_iconst (q := 168) (z := 0) rfl (by decide) rfl (rfl)) (p_iconst (q := 164) (z := 1) rfl (by decide) rfl (p_goto (q := 168) (off := 4) rfl (by decide) rfl (rfl))))))
/-- SometimesSumsLaw.law, from 168 -/
theorem b0_168 (X : Nat × (Nat → Int)) (d : Nat) (r0 : Nat) (r1 : Nat) (l3 : Int) (l4 : Int) (l8 : Int) (t0 : Int) (t1 : Int) (w : MW) : R X (d + 1) 0 168 [some (.inr r0), some (.inr r1), none, some (.inl l3), some (.inl l4), none, none, none, some (.inl l8)] [.inl t0, .inl t1] w = if t1 ≠ t0 then (R X (d + 1) 0 207 [some (.inr r0), some (.inr r1), none, some (.inl l3), some (.inl l4), none, none, none, some (.inl l8)] [] w) else (gd (kd w r1 = 16) (rI (run X d 94 [.inr r1, .inl 2] w) fun v1 w1 => if v1 ≠ (1 : Int) then (R X (d + 1) 0 185 [some (.inr r0), some (.inr r1), none, some (.inl l3), some (.inl l4), none, none, none, some (.inl l8)] [.inl 0] w1) else (R X (d + 1) 0 185 [some (.inr r0), some (.inr r1), none, some (.inl l3), some (.inl l4), none, none, none, some (.inl l8)] [.inl 1] w1))) := q_icmp_ne (q := 207) (q2 := 171) (L1 := [some (.inr r0), some (.inr r1), none, some (.inl l3), some (.inl l4), none, none, none, some (.inl l8)]) (off := 39) rfl rfl (by decide) rfl rfl (rfl) (p_aload_n (q := 172) rfl rfl rfl (p_iconst (q := 173) (z := 2) rfl (by decide) rfl (p_callVi (q := 176) (s2 := []) rfl rfl rfl rfl rfl rfl rfl (fun v1 w1 => p_iconst (q := 177) (z := 1) rfl (by decide) rfl (p_icmp_ne (q := 184) (q2 := 180) (off := 7) rfl (by decide) rfl rfl (p_iconst (q := 185) (z := 0) rfl (by decide) rfl (rfl)) (p_iconst (q := 181) (z := 1) rfl (by decide) rfl (p_goto (q := 185) (off := 4) rfl (by decide) rfl (rfl))))))))
/-- SometimesSumsLaw.law, from 185 -/
theorem b0_185 (X : Nat × (Nat → Int)) (d : Nat) (r0 : Nat) (r1 : Nat) (l3 : Int) (l4 : Int) (l8 : Int) (t0 : Int) (w : MW) : R X (d + 1) 0 185 [some (.inr r0), some (.inr r1), none, some (.inl l3), some (.inl l4), none, none, none, some (.inl l8)] [.inl t0] w = gd (kd w r1 = 16) (rI (run X d 87 [.inr r1, .inl 0] w) fun v1 w1 => if v1 ≠ (-5 : Int) then (R X (d + 1) 0 200 [some (.inr r0), some (.inr r1), none, some (.inl l3), some (.inl l4), none, none, none, some (.inl l8)] [.inl 0, .inl t0] w1) else (R X (d + 1) 0 200 [some (.inr r0), some (.inr r1), none, some (.inl l3), some (.inl l4), none, none, none, some (.inl l8)] [.inl 1, .inl t0] w1)) := q_aload_n (q := 186) (L1 := [some (.inr r0), some (.inr r1), none, some (.inl l3), some (.inl l4), none, none, none, some (.inl l8)]) rfl rfl rfl rfl (p_iconst (q := 187) (z := 0) rfl (by decide) rfl (p_callVi (q := 190) (s2 := [.inl t0]) rfl rfl rfl rfl rfl rfl rfl (fun v1 w1 => p_bipush (q := 192) (z := (-5)) rfl (by decide) rfl (p_icmp_ne (q := 199) (q2 := 195) (off := 7) rfl (by decide) rfl rfl (p_iconst (q := 200) (z := 0) rfl (by decide) rfl (rfl)) (p_iconst (q := 196) (z := 1) rfl (by decide) rfl (p_goto (q := 200) (off := 4) rfl (by decide) rfl (rfl)))))))
/-- SometimesSumsLaw.law, from 200 -/
theorem b0_200 (X : Nat × (Nat → Int)) (d : Nat) (r0 : Nat) (r1 : Nat) (l3 : Int) (l4 : Int) (l8 : Int) (t0 : Int) (t1 : Int) (w : MW) : R X (d + 1) 0 200 [some (.inr r0), some (.inr r1), none, some (.inl l3), some (.inl l4), none, none, none, some (.inl l8)] [.inl t0, .inl t1] w = if t1 ≠ t0 then (R X (d + 1) 0 207 [some (.inr r0), some (.inr r1), none, some (.inl l3), some (.inl l4), none, none, none, some (.inl l8)] [] w) else (R X (d + 1) 0 208 [some (.inr r0), some (.inr r1), none, some (.inl l3), some (.inl l4), none, none, none, some (.inl l8)] [.inl 1] w) := q_icmp_ne (q := 207) (q2 := 203) (L1 := [some (.inr r0), some (.inr r1), none, some (.inl l3), some (.inl l4), none, none, none, some (.inl l8)]) (off := 7) rfl rfl (by decide) rfl rfl (rfl) (p_iconst (q := 204) (z := 1) rfl (by decide) rfl (p_goto (q := 208) (off := 4) rfl (by decide) rfl (rfl)))
/-- SometimesSumsLaw.law, from 207 -/
theorem b0_207 (X : Nat × (Nat → Int)) (d : Nat) (r0 : Nat) (r1 : Nat) (l3 : Int) (l4 : Int) (l8 : Int) (w : MW) : R X (d + 1) 0 207 [some (.inr r0), some (.inr r1), none, some (.inl l3), some (.inl l4), none, none, none, some (.inl l8)] [] w = R X (d + 1) 0 208 [some (.inr r0), some (.inr r1), none, some (.inl l3), some (.inl l4), none, none, none, some (.inl l8)] [.inl 0] w := q_iconst (q := 208) (L1 := [some (.inr r0), some (.inr r1), none, some (.inl l3), some (.inl l4), none, none, none, some (.inl l8)]) (z := 0) rfl rfl (by decide) rfl (rfl)
/-- SometimesSumsLaw.law, from 208 -/
theorem b0_208 (X : Nat × (Nat → Int)) (d : Nat) (r0 : Nat) (r1 : Nat) (l3 : Int) (l4 : Int) (l8 : Int) (t0 : Int) (w : MW) : R X (d + 1) 0 208 [some (.inr r0), some (.inr r1), none, some (.inl l3), some (.inl l4), none, none, none, some (.inl l8)] [.inl t0] w = if l4 ≠ (wrap (l3 - 1)) then (R X (d + 1) 0 32 [some (.inr r0), some (.inr r1), some (.inl t0), some (.inl l3), some (.inl (wrap (l4 + 1))), none, none, none, none] [] w) else (if t0 = 0 then (R X (d + 1) 0 32 [some (.inr r0), some (.inr r1), some (.inl 0), some (.inl l3), some (.inl (wrap (l4 + 1))), none, none, none, none] [] w) else (rI (run X d 105 [.inr r1] w) fun v1 w1 => if v1 = 0 then (R X (d + 1) 0 32 [some (.inr r0), some (.inr r1), some (.inl 0), some (.inl l3), some (.inl (wrap (l4 + 1))), none, none, none, none] [] w1) else (rI (run X d 102 [.inr r0, .inl (wrap ((wrap (5 * l4)) + 4))] w1) fun v2 w2 => rI (run X d 101 [.inl v2, .inl 6] w2) fun v3 w3 => rI (run X d 106 [.inr r1, .inl l8, .inl (wrap (1 + v3))] w3) fun v4 w4 => if v4 = 0 then (R X (d + 1) 0 32 [some (.inr r0), some (.inr r1), some (.inl 0), some (.inl l3), some (.inl (wrap (l4 + 1))), none, none, none, none] [] w4) else (R X (d + 1) 0 32 [some (.inr r0), some (.inr r1), some (.inl 1), some (.inl l3), some (.inl (wrap (l4 + 1))), none, none, none, none] [] w4)))) := q_istore_n (q := 209) (L1 := [some (.inr r0), some (.inr r1), none, some (.inl l3), some (.inl l4), none, none, none, some (.inl l8)]) (L2 := [some (.inr r0), some (.inr r1), some (.inl t0), some (.inl l3), some (.inl l4), none, none, none, some (.inl l8)]) rfl rfl rfl rfl rfl (p_iload (q := 211) rfl rfl rfl (p_iload_n (q := 212) rfl rfl rfl (p_iconst (q := 213) (z := 1) rfl (by decide) rfl (p_isub (q := 214) rfl rfl (p_icmp_ne (q := 260) (q2 := 217) (off := 46) rfl (by decide) rfl rfl (p_iinc (q := 263) (z := 1) (L2 := [some (.inr r0), some (.inr r1), some (.inl t0), some (.inl l3), some (.inl (wrap (l4 + 1))), none, none, none, some (.inl l8)]) rfl rfl (by decide) rfl rfl (p_goto (q := 32) (off := (-231)) rfl (by decide) rfl (q_kill rfl rfl rfl rfl))) (p_iload_n (q := 218) rfl rfl rfl (p_if_eq (q := 258) (q2 := 221) (off := 40) rfl (by decide) rfl rfl (p_iconst (q := 259) (z := 0) rfl (by decide) rfl (p_istore_n (q := 260) (L2 := [some (.inr r0), some (.inr r1), some (.inl 0), some (.inl l3), some (.inl l4), none, none, none, some (.inl l8)]) rfl rfl rfl rfl (p_iinc (q := 263) (z := 1) (L2 := [some (.inr r0), some (.inr r1), some (.inl 0), some (.inl l3), some (.inl (wrap (l4 + 1))), none, none, none, some (.inl l8)]) rfl rfl (by decide) rfl rfl (p_goto (q := 32) (off := (-231)) rfl (by decide) rfl (q_kill rfl rfl rfl rfl))))) (p_aload_n (q := 222) rfl rfl rfl (p_callSi (q := 225) (s2 := []) rfl rfl rfl rfl rfl rfl (fun v1 w1 => p_if_eq (q := 258) (q2 := 228) (off := 33) rfl (by decide) rfl rfl (p_iconst (q := 259) (z := 0) rfl (by decide) rfl (p_istore_n (q := 260) (L2 := [some (.inr r0), some (.inr r1), some (.inl 0), some (.inl l3), some (.inl l4), none, none, none, some (.inl l8)]) rfl rfl rfl rfl (p_iinc (q := 263) (z := 1) (L2 := [some (.inr r0), some (.inr r1), some (.inl 0), some (.inl l3), some (.inl (wrap (l4 + 1))), none, none, none, some (.inl l8)]) rfl rfl (by decide) rfl rfl (p_goto (q := 32) (off := (-231)) rfl (by decide) rfl (q_kill rfl rfl rfl rfl))))) (p_aload_n (q := 229) rfl rfl rfl (p_iload (q := 231) rfl rfl rfl (p_iconst (q := 232) (z := 1) rfl (by decide) rfl (p_aload_n (q := 233) rfl rfl rfl (p_iconst (q := 234) (z := 5) rfl (by decide) rfl (p_iload (q := 236) rfl rfl rfl (p_imul (q := 237) rfl rfl (p_iconst (q := 238) (z := 4) rfl (by decide) rfl (p_iadd (q := 239) rfl rfl (p_callSi (q := 242) (s2 := [.inl 1, .inl l8, .inr r1]) rfl rfl rfl rfl rfl rfl (fun v2 w2 => p_bipush (q := 244) (z := 6) rfl (by decide) rfl (p_callSi (q := 247) (s2 := [.inl 1, .inl l8, .inr r1]) rfl rfl rfl rfl rfl rfl (fun v3 w3 => p_iadd (q := 248) rfl rfl (p_callSi (q := 251) (s2 := []) rfl rfl rfl rfl rfl rfl (fun v4 w4 => p_if_eq (q := 258) (q2 := 254) (off := 7) rfl (by decide) rfl rfl (p_iconst (q := 259) (z := 0) rfl (by decide) rfl (p_istore_n (q := 260) (L2 := [some (.inr r0), some (.inr r1), some (.inl 0), some (.inl l3), some (.inl l4), none, none, none, some (.inl l8)]) rfl rfl rfl rfl (p_iinc (q := 263) (z := 1) (L2 := [some (.inr r0), some (.inr r1), some (.inl 0), some (.inl l3), some (.inl (wrap (l4 + 1))), none, none, none, some (.inl l8)]) rfl rfl (by decide) rfl rfl (p_goto (q := 32) (off := (-231)) rfl (by decide) rfl (q_kill rfl rfl rfl rfl))))) (p_iconst (q := 255) (z := 1) rfl (by decide) rfl (p_goto (q := 259) (off := 4) rfl (by decide) rfl (p_istore_n (q := 260) (L2 := [some (.inr r0), some (.inr r1), some (.inl 1), some (.inl l3), some (.inl l4), none, none, none, some (.inl l8)]) rfl rfl rfl rfl (p_iinc (q := 263) (z := 1) (L2 := [some (.inr r0), some (.inr r1), some (.inl 1), some (.inl l3), some (.inl (wrap (l4 + 1))), none, none, none, some (.inl l8)]) rfl rfl (by decide) rfl rfl (p_goto (q := 32) (off := (-231)) rfl (by decide) rfl (q_kill rfl rfl rfl rfl)))))))))))))))))))))))))))))))
/-- SometimesSumsLaw.low, from 0 -/
theorem b101_0 (X : Nat × (Nat → Int)) (d : Nat) (l0 : Int) (l1 : Int) (w : MW) : run X d 101 [.inl l0, .inl l1] w = gd (l1 ≠ 0) (some (some (.inl (remI (andI l0 2147483647) l1)), w)) := (show R X d 101 0 [some (.inl l0), some (.inl l1)] [] w = _ from p_iload_n (q := 1) rfl rfl rfl (p_ldc (q := 3) (z := 2147483647) rfl rfl ⟨rfl, by decide⟩ rfl (p_iand (q := 4) rfl rfl (p_iload_n (q := 5) rfl rfl rfl (p_iremv (q := 6) rfl rfl (p_iret rfl rfl))))))
/-- SometimesSumsLaw.cell, from 0 -/
theorem b102_0 (X : Nat × (Nat → Int)) (d : Nat) (r0 : Nat) (l1 : Int) (w : MW) : run X d 102 [.inr r0, .inl l1] w = gd (r0 = 0 ∧ X.1 < 2147483648) (if ((X.1 : Int)) ≤ l1 then (some (some (.inl (wrap ((wrap (40503 * l1)) + 977))), w)) else (gd (r0 = 0 ∧ 0 ≤ l1 ∧ l1 < X.1) (some (some (.inl (X.2 (Int.toNat (l1)))), w)))) := (show R X d 102 0 [some (.inr r0), some (.inl l1)] [] w = _ from p_iload_n (q := 1) rfl rfl rfl (p_aload_n (q := 2) rfl rfl rfl (p_slen (q := 3) rfl rfl rfl (p_icmp_ge (q := 12) (q2 := 6) (off := 9) rfl (by decide) rfl rfl (p_ldc (q := 14) (z := 40503) rfl rfl ⟨rfl, by decide⟩ rfl (p_iload_n (q := 15) rfl rfl rfl (p_imul (q := 16) rfl rfl (p_sipush (q := 19) (z := 977) rfl (by decide) rfl (p_iadd (q := 20) rfl rfl (p_iret rfl rfl)))))) (p_aload_n (q := 7) rfl rfl rfl (p_iload_n (q := 8) rfl rfl rfl (p_sald (q := 9) rfl rfl rfl (p_goto (q := 20) (off := 11) rfl (by decide) rfl (p_iret rfl rfl)))))))))
/-- SometimesSumsLaw.act, from 0 -/
theorem b103_0 (X : Nat × (Nat → Int)) (d : Nat) (r0 : Nat) (r1 : Nat) (l2 : Int) (w : MW) : run X (d + 1) 103 [.inr r0, .inr r1, .inl l2] w = gd (kd w r0 = 16) (rI (run X d 94 [.inr r0, .inl 0] w) fun v1 w1 => rI (run X d 102 [.inr r1, .inl (wrap (5 * l2))] w1) fun v2 w2 => rI (run X d 101 [.inl v2, .inl 14] w2) fun v3 w3 => rI (run X d 102 [.inr r1, .inl (wrap ((wrap (5 * l2)) + 1))] w3) fun v4 w4 => rI (run X d 101 [.inl v4, .inl (wrap (v1 + 1))] w4) fun v5 w5 => rI (run X d 102 [.inr r1, .inl (wrap ((wrap (5 * l2)) + 2))] w5) fun v6 w6 => rI (run X d 101 [.inl v6, .inl v1] w6) fun v7 w7 => rI (run X d 102 [.inr r1, .inl (wrap ((wrap (5 * l2)) + 3))] w7) fun v8 w8 => rI (run X d 101 [.inl v8, .inl v1] w8) fun v9 w9 => swt v3 [rI (run X d 102 [.inr r1, .inl (wrap ((wrap (5 * l2)) + 1))] w9) fun v10 w10 => rI (run X d 101 [.inl v10, .inl 13] w10) fun v11 w11 => gd (kd w11 r0 = 16) (rI (run X d 71 [.inr r0, .inl 0, .inl v11] w11) fun v12 w12 => some (some (.inl v12), w12)), rI (run X d 102 [.inr r1, .inl (wrap ((wrap (5 * l2)) + 1))] w9) fun v13 w13 => rI (run X d 101 [.inl v13, .inl 5] w13) fun v14 w14 => gd (kd w14 r0 = 16) (rI (run X d 71 [.inr r0, .inl 1, .inl v14] w14) fun v15 w15 => some (some (.inl v15), w15)), gd (kd w9 r0 = 16) (rI (run X d 72 [.inr r0] w9) fun v16 w16 => some (some (.inl v16), w16)), gd (kd w9 r0 = 16) (rI (run X d 73 [.inr r0, .inl v5] w9) fun v17 w17 => some (some (.inl v17), w17)), rI (run X d 102 [.inr r1, .inl (wrap ((wrap (5 * l2)) + 1))] w9) fun v18 w18 => rI (run X d 101 [.inl v18, .inl 5] w18) fun v19 w19 => gd (kd w19 r0 = 16) (rI (run X d 77 [.inr r0, .inl v19] w19) fun v20 w20 => some (some (.inl v20), w20)), gd (kd w9 r0 = 16) (rI (run X d 78 [.inr r0] w9) fun v21 w21 => some (some (.inl v21), w21)), gd (kd w9 r0 = 16) (rI (run X d 79 [.inr r0, .inl v5, .inl v7] w9) fun v22 w22 => some (some (.inl v22), w22)), gd (kd w9 r0 = 16) (rI (run X d 82 [.inr r0] w9) fun v23 w23 => some (some (.inl v23), w23)), gd (kd w9 r0 = 16) (rI (run X d 84 [.inr r0] w9) fun v24 w24 => some (some (.inl v24), w24)), R X (d + 1) 103 221 [some (.inr r0), none, none, none, none, some (.inl v5), some (.inl v7), none] [] w9, R X (d + 1) 103 221 [some (.inr r0), none, none, none, none, some (.inl v5), some (.inl v7), none] [] w9] 0 (gd (kd w9 r0 = 16) (rI (run X d 74 [.inr r0, .inl v5, .inl v7, .inl v9] w9) fun v25 w25 => some (some (.inl v25), w25)))) := (show R X (d + 1) 103 0 [some (.inr r0), some (.inr r1), some (.inl l2), none, none, none, none, none] [] w = _ from p_aload_n (q := 1) rfl rfl rfl (p_iconst (q := 2) (z := 0) rfl (by decide) rfl (p_callVi (q := 5) (s2 := []) rfl rfl rfl rfl rfl rfl rfl (fun v1 w1 => p_istore_n (q := 6) (L2 := [some (.inr r0), some (.inr r1), some (.inl l2), some (.inl v1), none, none, none, none]) rfl rfl rfl rfl (p_aload_n (q := 7) rfl rfl rfl (p_iconst (q := 8) (z := 5) rfl (by decide) rfl (p_iload_n (q := 9) rfl rfl rfl (p_imul (q := 10) rfl rfl (p_callSi (q := 13) (s2 := []) rfl rfl rfl rfl rfl rfl (fun v2 w2 => p_bipush (q := 15) (z := 14) rfl (by decide) rfl (p_callSi (q := 18) (s2 := []) rfl rfl rfl rfl rfl rfl (fun v3 w3 => p_istore (q := 20) (L2 := [some (.inr r0), some (.inr r1), some (.inl l2), some (.inl v1), some (.inl v3), none, none, none]) rfl rfl rfl rfl (p_aload_n (q := 21) rfl rfl rfl (p_iconst (q := 22) (z := 5) rfl (by decide) rfl (p_iload_n (q := 23) rfl rfl rfl (p_imul (q := 24) rfl rfl (p_iconst (q := 25) (z := 1) rfl (by decide) rfl (p_iadd (q := 26) rfl rfl (p_callSi (q := 29) (s2 := []) rfl rfl rfl rfl rfl rfl (fun v4 w4 => p_iload_n (q := 30) rfl rfl rfl (p_iconst (q := 31) (z := 1) rfl (by decide) rfl (p_iadd (q := 32) rfl rfl (p_callSi (q := 35) (s2 := []) rfl rfl rfl rfl rfl rfl (fun v5 w5 => p_istore (q := 37) (L2 := [some (.inr r0), some (.inr r1), some (.inl l2), some (.inl v1), some (.inl v3), some (.inl v5), none, none]) rfl rfl rfl rfl (p_aload_n (q := 38) rfl rfl rfl (p_iconst (q := 39) (z := 5) rfl (by decide) rfl (p_iload_n (q := 40) rfl rfl rfl (p_imul (q := 41) rfl rfl (p_iconst (q := 42) (z := 2) rfl (by decide) rfl (p_iadd (q := 43) rfl rfl (p_callSi (q := 46) (s2 := []) rfl rfl rfl rfl rfl rfl (fun v6 w6 => p_iload_n (q := 47) rfl rfl rfl (p_callSi (q := 50) (s2 := []) rfl rfl rfl rfl rfl rfl (fun v7 w7 => p_istore (q := 52) (L2 := [some (.inr r0), some (.inr r1), some (.inl l2), some (.inl v1), some (.inl v3), some (.inl v5), some (.inl v7), none]) rfl rfl rfl rfl (p_aload_n (q := 53) rfl rfl rfl (p_iconst (q := 54) (z := 5) rfl (by decide) rfl (p_iload_n (q := 55) rfl rfl rfl (p_imul (q := 56) rfl rfl (p_iconst (q := 57) (z := 3) rfl (by decide) rfl (p_iadd (q := 58) rfl rfl (p_callSi (q := 61) (s2 := []) rfl rfl rfl rfl rfl rfl (fun v8 w8 => p_iload_n (q := 62) rfl rfl rfl (p_callSi (q := 65) (s2 := []) rfl rfl rfl rfl rfl rfl (fun v9 w9 => p_istore (q := 67) (L2 := [some (.inr r0), some (.inr r1), some (.inl l2), some (.inl v1), some (.inl v3), some (.inl v5), some (.inl v7), some (.inl v9)]) rfl rfl rfl rfl (p_iload (q := 69) rfl rfl rfl (p_switch (q := 230) (dflt := 161) (hi := 10) (offs := #[59, 79, 98, 103, 110, 128, 133, 142, 147, 152, 152]) rfl (by decide) (by decide) (q_cons (Eq.symm (p_aload_n (q := 129) rfl rfl rfl (p_iconst (q := 130) (z := 0) rfl (by decide) rfl (p_aload_n (q := 131) rfl rfl rfl (p_iconst (q := 132) (z := 5) rfl (by decide) rfl (p_iload_n (q := 133) rfl rfl rfl (p_imul (q := 134) rfl rfl (p_iconst (q := 135) (z := 1) rfl (by decide) rfl (p_iadd (q := 136) rfl rfl (p_callSi (q := 139) (s2 := [.inl 0, .inr r0]) rfl rfl rfl rfl rfl rfl (fun v10 w10 => p_bipush (q := 141) (z := 13) rfl (by decide) rfl (p_callSi (q := 144) (s2 := [.inl 0, .inr r0]) rfl rfl rfl rfl rfl rfl (fun v11 w11 => p_callVi (q := 147) (s2 := []) rfl rfl rfl rfl rfl rfl rfl (fun v12 w12 => p_iret rfl rfl)))))))))))))) (q_cons (Eq.symm (p_aload_n (q := 149) rfl rfl rfl (p_iconst (q := 150) (z := 1) rfl (by decide) rfl (p_aload_n (q := 151) rfl rfl rfl (p_iconst (q := 152) (z := 5) rfl (by decide) rfl (p_iload_n (q := 153) rfl rfl rfl (p_imul (q := 154) rfl rfl (p_iconst (q := 155) (z := 1) rfl (by decide) rfl (p_iadd (q := 156) rfl rfl (p_callSi (q := 159) (s2 := [.inl 1, .inr r0]) rfl rfl rfl rfl rfl rfl (fun v13 w13 => p_iconst (q := 160) (z := 5) rfl (by decide) rfl (p_callSi (q := 163) (s2 := [.inl 1, .inr r0]) rfl rfl rfl rfl rfl rfl (fun v14 w14 => p_callVi (q := 166) (s2 := []) rfl rfl rfl rfl rfl rfl rfl (fun v15 w15 => p_iret rfl rfl)))))))))))))) (q_cons (Eq.symm (p_aload_n (q := 168) rfl rfl rfl (p_callVi (q := 171) (s2 := []) rfl rfl rfl rfl rfl rfl rfl (fun v16 w16 => p_iret rfl rfl)))) (q_cons (Eq.symm (p_aload_n (q := 173) rfl rfl rfl (p_iload (q := 175) rfl rfl rfl (p_callVi (q := 178) (s2 := []) rfl rfl rfl rfl rfl rfl rfl (fun v17 w17 => p_iret rfl rfl))))) (q_cons (Eq.symm (p_aload_n (q := 180) rfl rfl rfl (p_aload_n (q := 181) rfl rfl rfl (p_iconst (q := 182) (z := 5) rfl (by decide) rfl (p_iload_n (q := 183) rfl rfl rfl (p_imul (q := 184) rfl rfl (p_iconst (q := 185) (z := 1) rfl (by decide) rfl (p_iadd (q := 186) rfl rfl (p_callSi (q := 189) (s2 := [.inr r0]) rfl rfl rfl rfl rfl rfl (fun v18 w18 => p_iconst (q := 190) (z := 5) rfl (by decide) rfl (p_callSi (q := 193) (s2 := [.inr r0]) rfl rfl rfl rfl rfl rfl (fun v19 w19 => p_callVi (q := 196) (s2 := []) rfl rfl rfl rfl rfl rfl rfl (fun v20 w20 => p_iret rfl rfl))))))))))))) (q_cons (Eq.symm (p_aload_n (q := 198) rfl rfl rfl (p_callVi (q := 201) (s2 := []) rfl rfl rfl rfl rfl rfl rfl (fun v21 w21 => p_iret rfl rfl)))) (q_cons (Eq.symm (p_aload_n (q := 203) rfl rfl rfl (p_iload (q := 205) rfl rfl rfl (p_iload (q := 207) rfl rfl rfl (p_callVi (q := 210) (s2 := []) rfl rfl rfl rfl rfl rfl rfl (fun v22 w22 => p_iret rfl rfl)))))) (q_cons (Eq.symm (p_aload_n (q := 212) rfl rfl rfl (p_callVi (q := 215) (s2 := []) rfl rfl rfl rfl rfl rfl rfl (fun v23 w23 => p_iret rfl rfl)))) (q_cons (Eq.symm (p_aload_n (q := 217) rfl rfl rfl (p_callVi (q := 220) (s2 := []) rfl rfl rfl rfl rfl rfl rfl (fun v24 w24 => p_iret rfl rfl)))) (q_cons (Eq.symm (q_kill rfl rfl rfl rfl)) (q_cons (Eq.symm (q_kill rfl rfl rfl rfl)) (rfl)))))))))))) rfl (p_aload_n (q := 231) rfl rfl rfl (p_iload (q := 233) rfl rfl rfl (p_iload (q := 235) rfl rfl rfl (p_iload (q := 237) rfl rfl rfl (p_callVi (q := 240) (s2 := []) rfl rfl rfl rfl rfl rfl rfl (fun v25 w25 => p_iret rfl rfl))))))))))))))))))))))))))))))))))))))))))))))))))))
/-- SometimesSumsLaw.act, from 221 -/
theorem b103_221 (X : Nat × (Nat → Int)) (d : Nat) (r0 : Nat) (l5 : Int) (l6 : Int) (w : MW) : R X (d + 1) 103 221 [some (.inr r0), none, none, none, none, some (.inl l5), some (.inl l6), none] [] w = gd (kd w r0 = 16) (rI (run X d 75 [.inr r0, .inl l5, .inl l6] w) fun v1 w1 => some (some (.inl v1), w1)) := q_aload_n (q := 222) (L1 := [some (.inr r0), none, none, none, none, some (.inl l5), some (.inl l6), none]) rfl rfl rfl rfl (p_iload (q := 224) rfl rfl rfl (p_iload (q := 226) rfl rfl rfl (p_callVi (q := 229) (s2 := []) rfl rfl rfl rfl rfl rfl rfl (fun v1 w1 => p_iret rfl rfl))))
/-- SometimesSumsLaw.sums, from 0 -/
theorem b104_0 (X : Nat × (Nat → Int)) (d : Nat) (r0 : Nat) (l1 : Int) (w : MW) : run X (d + 1) 104 [.inr r0, .inl l1] w = if l1 < (2 : Int) then (R X (d + 1) 104 22 [some (.inr r0), some (.inl l1), some (.inl 0), some (.inl 0), some (.inl 0), none, none] [] w) else (if (12 : Int) < l1 then (R X (d + 1) 104 22 [some (.inr r0), some (.inl l1), some (.inl 0), some (.inl 0), some (.inl 0), none, none] [] w) else (R X (d + 1) 104 22 [some (.inr r0), some (.inl l1), some (.inl 0), some (.inl 1), some (.inl 0), none, none] [] w)) := (show R X (d + 1) 104 0 [some (.inr r0), some (.inl l1), none, none, none, none, none] [] w = _ from p_iconst (q := 1) (z := 0) rfl (by decide) rfl (p_istore_n (q := 2) (L2 := [some (.inr r0), some (.inl l1), some (.inl 0), none, none, none, none]) rfl rfl rfl rfl (p_iload_n (q := 3) rfl rfl rfl (p_iconst (q := 4) (z := 2) rfl (by decide) rfl (p_icmp_lt (q := 17) (q2 := 7) (off := 13) rfl (by decide) rfl rfl (p_iconst (q := 18) (z := 0) rfl (by decide) rfl (p_istore_n (q := 19) (L2 := [some (.inr r0), some (.inl l1), some (.inl 0), some (.inl 0), none, none, none]) rfl rfl rfl rfl (p_iconst (q := 20) (z := 0) rfl (by decide) rfl (p_istore (q := 22) (L2 := [some (.inr r0), some (.inl l1), some (.inl 0), some (.inl 0), some (.inl 0), none, none]) rfl rfl rfl rfl (rfl))))) (p_iload_n (q := 8) rfl rfl rfl (p_bipush (q := 10) (z := 12) rfl (by decide) rfl (p_icmp_gt (q := 17) (q2 := 13) (off := 7) rfl (by decide) rfl rfl (p_iconst (q := 18) (z := 0) rfl (by decide) rfl (p_istore_n (q := 19) (L2 := [some (.inr r0), some (.inl l1), some (.inl 0), some (.inl 0), none, none, none]) rfl rfl rfl rfl (p_iconst (q := 20) (z := 0) rfl (by decide) rfl (p_istore (q := 22) (L2 := [some (.inr r0), some (.inl l1), some (.inl 0), some (.inl 0), some (.inl 0), none, none]) rfl rfl rfl rfl (rfl))))) (p_iconst (q := 14) (z := 1) rfl (by decide) rfl (p_goto (q := 18) (off := 4) rfl (by decide) rfl (p_istore_n (q := 19) (L2 := [some (.inr r0), some (.inl l1), some (.inl 0), some (.inl 1), none, none, none]) rfl rfl rfl rfl (p_iconst (q := 20) (z := 0) rfl (by decide) rfl (p_istore (q := 22) (L2 := [some (.inr r0), some (.inl l1), some (.inl 0), some (.inl 1), some (.inl 0), none, none]) rfl rfl rfl rfl (rfl))))))))))))))
/-- SometimesSumsLaw.sums, from 22 -/
theorem b104_22 (X : Nat × (Nat → Int)) (d : Nat) (r0 : Nat) (l1 : Int) (l2 : Int) (l3 : Int) (l4 : Int) (w : MW) : R X (d + 1) 104 22 [some (.inr r0), some (.inl l1), some (.inl l2), some (.inl l3), some (.inl l4), none, none] [] w = if l1 ≤ l4 then (R X (d + 1) 104 262 [some (.inr r0), some (.inl l1), some (.inl l2), some (.inl l3), none, none, none] [] w) else (if l3 = 0 then (R X (d + 1) 104 262 [some (.inr r0), some (.inl l1), some (.inl l2), some (.inl l3), none, none, none] [] w) else (gd (kd w r0 = 16) (rI (run X d 85 [.inr r0, .inl l4, .inl 0] w) fun v1 w1 => if v1 ≠ l4 then (R X (d + 1) 104 53 [some (.inr r0), some (.inl l1), some (.inl l2), some (.inl 0), some (.inl l4), some (.inl 0), none] [] w1) else (R X (d + 1) 104 53 [some (.inr r0), some (.inl l1), some (.inl l2), some (.inl 1), some (.inl l4), some (.inl 0), none] [] w1)))) := q_iload (q := 24) (L1 := [some (.inr r0), some (.inl l1), some (.inl l2), some (.inl l3), some (.inl l4), none, none]) rfl rfl rfl rfl (p_iload_n (q := 25) rfl rfl rfl (p_icmp_ge (q := 262) (q2 := 28) (off := 237) rfl (by decide) rfl rfl (q_kill rfl rfl rfl rfl) (p_iload_n (q := 29) rfl rfl rfl (p_if_eq (q := 262) (q2 := 32) (off := 233) rfl (by decide) rfl rfl (q_kill rfl rfl rfl rfl) (p_aload_n (q := 33) rfl rfl rfl (p_iload (q := 35) rfl rfl rfl (p_iconst (q := 36) (z := 0) rfl (by decide) rfl (p_callVi (q := 39) (s2 := []) rfl rfl rfl rfl rfl rfl rfl (fun v1 w1 => p_iload (q := 41) rfl rfl rfl (p_icmp_ne (q := 48) (q2 := 44) (off := 7) rfl (by decide) rfl rfl (p_iconst (q := 49) (z := 0) rfl (by decide) rfl (p_istore_n (q := 50) (L2 := [some (.inr r0), some (.inl l1), some (.inl l2), some (.inl 0), some (.inl l4), none, none]) rfl rfl rfl rfl (p_iconst (q := 51) (z := 0) rfl (by decide) rfl (p_istore (q := 53) (L2 := [some (.inr r0), some (.inl l1), some (.inl l2), some (.inl 0), some (.inl l4), some (.inl 0), none]) rfl rfl rfl rfl (rfl))))) (p_iconst (q := 45) (z := 1) rfl (by decide) rfl (p_goto (q := 49) (off := 4) rfl (by decide) rfl (p_istore_n (q := 50) (L2 := [some (.inr r0), some (.inl l1), some (.inl l2), some (.inl 1), some (.inl l4), none, none]) rfl rfl rfl rfl (p_iconst (q := 51) (z := 0) rfl (by decide) rfl (p_istore (q := 53) (L2 := [some (.inr r0), some (.inl l1), some (.inl l2), some (.inl 1), some (.inl l4), some (.inl 0), none]) rfl rfl rfl rfl (rfl))))))))))))))))
/-- SometimesSumsLaw.sums, from 53 -/
theorem b104_53 (X : Nat × (Nat → Int)) (d : Nat) (r0 : Nat) (l1 : Int) (l2 : Int) (l3 : Int) (l4 : Int) (l5 : Int) (w : MW) : R X (d + 1) 104 53 [some (.inr r0), some (.inl l1), some (.inl l2), some (.inl l3), some (.inl l4), some (.inl l5), none] [] w = if l1 ≤ l5 then (R X (d + 1) 104 193 [some (.inr r0), some (.inl l1), some (.inl l2), some (.inl l3), some (.inl l4), none, none] [] w) else (if l3 = 0 then (R X (d + 1) 104 193 [some (.inr r0), some (.inl l1), some (.inl l2), some (.inl l3), some (.inl l4), none, none] [] w) else (gd (kd w r0 = 16) (rI (run X d 85 [.inr r0, .inl l4, .inl l5] w) fun v1 w1 => if l4 ≤ 0 then (R X (d + 1) 104 95 [some (.inr r0), some (.inl l1), none, none, some (.inl l4), some (.inl l5), some (.inl v1)] [.inl l2] w1) else (if l5 < l4 then (R X (d + 1) 104 95 [some (.inr r0), some (.inl l1), none, none, some (.inl l4), some (.inl l5), some (.inl v1)] [.inl l2] w1) else (if v1 < 0 then (R X (d + 1) 104 95 [some (.inr r0), some (.inl l1), none, none, some (.inl l4), some (.inl l5), some (.inl v1)] [.inl l2] w1) else (R X (d + 1) 104 96 [some (.inr r0), some (.inl l1), none, none, some (.inl l4), some (.inl l5), some (.inl v1)] [.inl 1, .inl l2] w1)))))) := q_iload (q := 55) (L1 := [some (.inr r0), some (.inl l1), some (.inl l2), some (.inl l3), some (.inl l4), some (.inl l5), none]) rfl rfl rfl rfl (p_iload_n (q := 56) rfl rfl rfl (p_icmp_ge (q := 193) (q2 := 59) (off := 137) rfl (by decide) rfl rfl (q_kill rfl rfl rfl rfl) (p_iload_n (q := 60) rfl rfl rfl (p_if_eq (q := 193) (q2 := 63) (off := 133) rfl (by decide) rfl rfl (q_kill rfl rfl rfl rfl) (p_aload_n (q := 64) rfl rfl rfl (p_iload (q := 66) rfl rfl rfl (p_iload (q := 68) rfl rfl rfl (p_callVi (q := 71) (s2 := []) rfl rfl rfl rfl rfl rfl rfl (fun v1 w1 => p_istore (q := 73) (L2 := [some (.inr r0), some (.inl l1), some (.inl l2), some (.inl l3), some (.inl l4), some (.inl l5), some (.inl v1)]) rfl rfl rfl rfl (p_iload_n (q := 74) rfl rfl rfl (p_iload (q := 76) rfl rfl rfl (p_if_le (q := 95) (q2 := 79) (off := 19) rfl (by decide) rfl rfl (q_kill rfl rfl rfl rfl) (p_iload (q := 81) rfl rfl rfl (p_iload (q := 83) rfl rfl rfl (p_icmp_lt (q := 95) (q2 := 86) (off := 12) rfl (by decide) rfl rfl (q_kill rfl rfl rfl rfl) (p_iload (q := 88) rfl rfl rfl (p_if_lt (q := 95) (q2 := 91) (off := 7) rfl (by decide) rfl rfl (q_kill rfl rfl rfl rfl) (p_iconst (q := 92) (z := 1) rfl (by decide) rfl (p_goto (q := 96) (off := 4) rfl (by decide) rfl (q_kill rfl rfl rfl rfl))))))))))))))))))))
/-- SometimesSumsLaw.sums, from 95 -/
theorem b104_95 (X : Nat × (Nat → Int)) (d : Nat) (r0 : Nat) (l1 : Int) (l4 : Int) (l5 : Int) (l6 : Int) (t0 : Int) (w : MW) : R X (d + 1) 104 95 [some (.inr r0), some (.inl l1), none, none, some (.inl l4), some (.inl l5), some (.inl l6)] [.inl t0] w = R X (d + 1) 104 96 [some (.inr r0), some (.inl l1), none, none, some (.inl l4), some (.inl l5), some (.inl l6)] [.inl 0, .inl t0] w := q_iconst (q := 96) (L1 := [some (.inr r0), some (.inl l1), none, none, some (.inl l4), some (.inl l5), some (.inl l6)]) (z := 0) rfl rfl (by decide) rfl (rfl)
/-- SometimesSumsLaw.sums, from 96 -/
theorem b104_96 (X : Nat × (Nat → Int)) (d : Nat) (r0 : Nat) (l1 : Int) (l4 : Int) (l5 : Int) (l6 : Int) (t0 : Int) (t1 : Int) (w : MW) : R X (d + 1) 104 96 [some (.inr r0), some (.inl l1), none, none, some (.inl l4), some (.inl l5), some (.inl l6)] [.inl t0, .inl t1] w = gd (kd w r0 = 16) (rI (run X d 85 [.inr r0, .inl l5, .inl l4] w) fun v1 w1 => if l6 ≠ v1 then (R X (d + 1) 104 150 [some (.inr r0), some (.inl l1), some (.inl (wrap (t1 + t0))), none, some (.inl l4), some (.inl l5), some (.inl l6)] [] w1) else (if l1 ≤ l6 then (R X (d + 1) 104 150 [some (.inr r0), some (.inl l1), some (.inl (wrap (t1 + t0))), none, some (.inl l4), some (.inl l5), some (.inl l6)] [] w1) else (if l6 < 0 then (R X (d + 1) 104 146 [some (.inr r0), some (.inl l1), some (.inl (wrap (t1 + t0))), none, some (.inl l4), some (.inl l5), some (.inl l6)] [] w1) else (gd (kd w1 r0 = 16) (rI (run X d 86 [.inr r0, .inl l6, .inl l4] w1) fun v2 w2 => if l5 < v2 then (R X (d + 1) 104 150 [some (.inr r0), some (.inl l1), some (.inl (wrap (t1 + t0))), none, some (.inl l4), some (.inl l5), some (.inl l6)] [] w2) else (gd (kd w2 r0 = 16) (rI (run X d 86 [.inr r0, .inl l6, .inl l4] w2) fun v3 w3 => if v3 < 0 then (R X (d + 1) 104 150 [some (.inr r0), some (.inl l1), some (.inl (wrap (t1 + t0))), none, some (.inl l4), some (.inl l5), some (.inl l6)] [] w3) else (R X (d + 1) 104 146 [some (.inr r0), some (.inl l1), some (.inl (wrap (t1 + t0))), none, some (.inl l4), some (.inl l5), some (.inl l6)] [] w3)))))))) := q_iadd (q := 97) (L1 := [some (.inr r0), some (.inl l1), none, none, some (.inl l4), some (.inl l5), some (.inl l6)]) rfl rfl rfl (p_istore_n (q := 98) (L2 := [some (.inr r0), some (.inl l1), some (.inl (wrap (t1 + t0))), none, some (.inl l4), some (.inl l5), some (.inl l6)]) rfl rfl rfl rfl (p_iload (q := 100) rfl rfl rfl (p_aload_n (q := 101) rfl rfl rfl (p_iload (q := 103) rfl rfl rfl (p_iload (q := 105) rfl rfl rfl (p_callVi (q := 108) (s2 := [.inl l6]) rfl rfl rfl rfl rfl rfl rfl (fun v1 w1 => p_icmp_ne (q := 150) (q2 := 111) (off := 42) rfl (by decide) rfl rfl (rfl) (p_iload (q := 113) rfl rfl rfl (p_iload_n (q := 114) rfl rfl rfl (p_icmp_ge (q := 150) (q2 := 117) (off := 36) rfl (by decide) rfl rfl (rfl) (p_iload (q := 119) rfl rfl rfl (p_if_lt (q := 146) (q2 := 122) (off := 27) rfl (by decide) rfl rfl (rfl) (p_aload_n (q := 123) rfl rfl rfl (p_iload (q := 125) rfl rfl rfl (p_iload (q := 127) rfl rfl rfl (p_callVi (q := 130) (s2 := []) rfl rfl rfl rfl rfl rfl rfl (fun v2 w2 => p_iload (q := 132) rfl rfl rfl (p_icmp_gt (q := 150) (q2 := 135) (off := 18) rfl (by decide) rfl rfl (rfl) (p_aload_n (q := 136) rfl rfl rfl (p_iload (q := 138) rfl rfl rfl (p_iload (q := 140) rfl rfl rfl (p_callVi (q := 143) (s2 := []) rfl rfl rfl rfl rfl rfl rfl (fun v3 w3 => p_if_lt (q := 150) (q2 := 146) (off := 7) rfl (by decide) rfl rfl (rfl) (rfl))))))))))))))))))))))))
/-- SometimesSumsLaw.sums, from 146 -/
theorem b104_146 (X : Nat × (Nat → Int)) (d : Nat) (r0 : Nat) (l1 : Int) (l2 : Int) (l4 : Int) (l5 : Int) (l6 : Int) (w : MW) : R X (d + 1) 104 146 [some (.inr r0), some (.inl l1), some (.inl l2), none, some (.inl l4), some (.inl l5), some (.inl l6)] [] w = R X (d + 1) 104 151 [some (.inr r0), some (.inl l1), some (.inl l2), none, some (.inl l4), some (.inl l5), some (.inl l6)] [.inl 1] w := q_iconst (q := 147) (L1 := [some (.inr r0), some (.inl l1), some (.inl l2), none, some (.inl l4), some (.inl l5), some (.inl l6)]) (z := 1) rfl rfl (by decide) rfl (p_goto (q := 151) (off := 4) rfl (by decide) rfl (rfl))
/-- SometimesSumsLaw.sums, from 150 -/
theorem b104_150 (X : Nat × (Nat → Int)) (d : Nat) (r0 : Nat) (l1 : Int) (l2 : Int) (l4 : Int) (l5 : Int) (l6 : Int) (w : MW) : R X (d + 1) 104 150 [some (.inr r0), some (.inl l1), some (.inl l2), none, some (.inl l4), some (.inl l5), some (.inl l6)] [] w = R X (d + 1) 104 151 [some (.inr r0), some (.inl l1), some (.inl l2), none, some (.inl l4), some (.inl l5), some (.inl l6)] [.inl 0] w := q_iconst (q := 151) (L1 := [some (.inr r0), some (.inl l1), some (.inl l2), none, some (.inl l4), some (.inl l5), some (.inl l6)]) (z := 0) rfl rfl (by decide) rfl (rfl)
/-- SometimesSumsLaw.sums, from 151 -/
theorem b104_151 (X : Nat × (Nat → Int)) (d : Nat) (r0 : Nat) (l1 : Int) (l2 : Int) (l4 : Int) (l5 : Int) (l6 : Int) (t0 : Int) (w : MW) : R X (d + 1) 104 151 [some (.inr r0), some (.inl l1), some (.inl l2), none, some (.inl l4), some (.inl l5), some (.inl l6)] [.inl t0] w = if t0 = 0 then (R X (d + 1) 104 53 [some (.inr r0), some (.inl l1), some (.inl l2), some (.inl 0), some (.inl l4), some (.inl (wrap (l5 + 1))), none] [] w) else (if l4 = l5 then (R X (d + 1) 104 53 [some (.inr r0), some (.inl l1), some (.inl l2), some (.inl 1), some (.inl l4), some (.inl (wrap (l5 + 1))), none] [] w) else (gd (kd w r0 = 16) (rI (run X d 89 [.inr r0, .inl (orI (shlI 1 l4) (shlI 1 l5))] w) fun v1 w1 => if v1 ≠ l6 then (R X (d + 1) 104 53 [some (.inr r0), some (.inl l1), some (.inl l2), some (.inl 0), some (.inl l4), some (.inl (wrap (l5 + 1))), none] [] w1) else (R X (d + 1) 104 53 [some (.inr r0), some (.inl l1), some (.inl l2), some (.inl 1), some (.inl l4), some (.inl (wrap (l5 + 1))), none] [] w1)))) := q_istore_n (q := 152) (L1 := [some (.inr r0), some (.inl l1), some (.inl l2), none, some (.inl l4), some (.inl l5), some (.inl l6)]) (L2 := [some (.inr r0), some (.inl l1), some (.inl l2), some (.inl t0), some (.inl l4), some (.inl l5), some (.inl l6)]) rfl rfl rfl rfl rfl (p_iload_n (q := 153) rfl rfl rfl (p_if_eq (q := 185) (q2 := 156) (off := 32) rfl (by decide) rfl rfl (p_iconst (q := 186) (z := 0) rfl (by decide) rfl (p_istore_n (q := 187) (L2 := [some (.inr r0), some (.inl l1), some (.inl l2), some (.inl 0), some (.inl l4), some (.inl l5), some (.inl l6)]) rfl rfl rfl rfl (p_iinc (q := 190) (z := 1) (L2 := [some (.inr r0), some (.inl l1), some (.inl l2), some (.inl 0), some (.inl l4), some (.inl (wrap (l5 + 1))), some (.inl l6)]) rfl rfl (by decide) rfl rfl (p_goto (q := 53) (off := (-137)) rfl (by decide) rfl (q_kill rfl rfl rfl rfl))))) (p_iload (q := 158) rfl rfl rfl (p_iload (q := 160) rfl rfl rfl (p_icmp_eq (q := 181) (q2 := 163) (off := 21) rfl (by decide) rfl rfl (p_iconst (q := 182) (z := 1) rfl (by decide) rfl (p_goto (q := 186) (off := 4) rfl (by decide) rfl (p_istore_n (q := 187) (L2 := [some (.inr r0), some (.inl l1), some (.inl l2), some (.inl 1), some (.inl l4), some (.inl l5), some (.inl l6)]) rfl rfl rfl rfl (p_iinc (q := 190) (z := 1) (L2 := [some (.inr r0), some (.inl l1), some (.inl l2), some (.inl 1), some (.inl l4), some (.inl (wrap (l5 + 1))), some (.inl l6)]) rfl rfl (by decide) rfl rfl (p_goto (q := 53) (off := (-137)) rfl (by decide) rfl (q_kill rfl rfl rfl rfl)))))) (p_aload_n (q := 164) rfl rfl rfl (p_iconst (q := 165) (z := 1) rfl (by decide) rfl (p_iload (q := 167) rfl rfl rfl (p_ishl (q := 168) rfl rfl (p_iconst (q := 169) (z := 1) rfl (by decide) rfl (p_iload (q := 171) rfl rfl rfl (p_ishl (q := 172) rfl rfl (p_ior (q := 173) rfl rfl (p_callVi (q := 176) (s2 := []) rfl rfl rfl rfl rfl rfl rfl (fun v1 w1 => p_iload (q := 178) rfl rfl rfl (p_icmp_ne (q := 185) (q2 := 181) (off := 7) rfl (by decide) rfl rfl (p_iconst (q := 186) (z := 0) rfl (by decide) rfl (p_istore_n (q := 187) (L2 := [some (.inr r0), some (.inl l1), some (.inl l2), some (.inl 0), some (.inl l4), some (.inl l5), some (.inl l6)]) rfl rfl rfl rfl (p_iinc (q := 190) (z := 1) (L2 := [some (.inr r0), some (.inl l1), some (.inl l2), some (.inl 0), some (.inl l4), some (.inl (wrap (l5 + 1))), some (.inl l6)]) rfl rfl (by decide) rfl rfl (p_goto (q := 53) (off := (-137)) rfl (by decide) rfl (q_kill rfl rfl rfl rfl))))) (p_iconst (q := 182) (z := 1) rfl (by decide) rfl (p_goto (q := 186) (off := 4) rfl (by decide) rfl (p_istore_n (q := 187) (L2 := [some (.inr r0), some (.inl l1), some (.inl l2), some (.inl 1), some (.inl l4), some (.inl l5), some (.inl l6)]) rfl rfl rfl rfl (p_iinc (q := 190) (z := 1) (L2 := [some (.inr r0), some (.inl l1), some (.inl l2), some (.inl 1), some (.inl l4), some (.inl (wrap (l5 + 1))), some (.inl l6)]) rfl rfl (by decide) rfl rfl (p_goto (q := 53) (off := (-137)) rfl (by decide) rfl (q_kill rfl rfl rfl rfl))))))))))))))))))))))
/-- SometimesSumsLaw.sums, from 193 -/
theorem b104_193 (X : Nat × (Nat → Int)) (d : Nat) (r0 : Nat) (l1 : Int) (l2 : Int) (l3 : Int) (l4 : Int) (w : MW) : R X (d + 1) 104 193 [some (.inr r0), some (.inl l1), some (.inl l2), some (.inl l3), some (.inl l4), none, none] [] w = gd (kd w r0 = 16) (rI (run X d 85 [.inr r0, .inl l4, .inl l4] w) fun v1 w1 => if l3 = 0 then (R X (d + 1) 104 22 [some (.inr r0), some (.inl l1), some (.inl l2), some (.inl 0), some (.inl (wrap (l4 + 1))), none, none] [] w1) else (gd (kd w1 r0 = 16) (rI (run X d 88 [.inr r0, .inl l4, .inl 7] w1) fun v2 w2 => if v2 ≠ (1 : Int) then (R X (d + 1) 104 224 [some (.inr r0), some (.inl l1), some (.inl l2), none, some (.inl l4), some (.inl v1), none] [.inl 0] w2) else (R X (d + 1) 104 224 [some (.inr r0), some (.inl l1), some (.inl l2), none, some (.inl l4), some (.inl v1), none] [.inl 1] w2)))) := q_aload_n (q := 194) (L1 := [some (.inr r0), some (.inl l1), some (.inl l2), some (.inl l3), some (.inl l4), none, none]) rfl rfl rfl rfl (p_iload (q := 196) rfl rfl rfl (p_iload (q := 198) rfl rfl rfl (p_callVi (q := 201) (s2 := []) rfl rfl rfl rfl rfl rfl rfl (fun v1 w1 => p_istore (q := 203) (L2 := [some (.inr r0), some (.inl l1), some (.inl l2), some (.inl l3), some (.inl l4), some (.inl v1), none]) rfl rfl rfl rfl (p_iload_n (q := 204) rfl rfl rfl (p_if_eq (q := 254) (q2 := 207) (off := 50) rfl (by decide) rfl rfl (p_iconst (q := 255) (z := 0) rfl (by decide) rfl (p_istore_n (q := 256) (L2 := [some (.inr r0), some (.inl l1), some (.inl l2), some (.inl 0), some (.inl l4), some (.inl v1), none]) rfl rfl rfl rfl (p_iinc (q := 259) (z := 1) (L2 := [some (.inr r0), some (.inl l1), some (.inl l2), some (.inl 0), some (.inl (wrap (l4 + 1))), some (.inl v1), none]) rfl rfl (by decide) rfl rfl (p_goto (q := 22) (off := (-237)) rfl (by decide) rfl (q_kill rfl rfl rfl rfl))))) (p_aload_n (q := 208) rfl rfl rfl (p_iload (q := 210) rfl rfl rfl (p_bipush (q := 212) (z := 7) rfl (by decide) rfl (p_callVi (q := 215) (s2 := []) rfl rfl rfl rfl rfl rfl rfl (fun v2 w2 => p_iconst (q := 216) (z := 1) rfl (by decide) rfl (p_icmp_ne (q := 223) (q2 := 219) (off := 7) rfl (by decide) rfl rfl (p_iconst (q := 224) (z := 0) rfl (by decide) rfl (q_kill rfl rfl rfl rfl)) (p_iconst (q := 220) (z := 1) rfl (by decide) rfl (p_goto (q := 224) (off := 4) rfl (by decide) rfl (q_kill rfl rfl rfl rfl)))))))))))))))
/-- SometimesSumsLaw.sums, from 224 -/
theorem b104_224 (X : Nat × (Nat → Int)) (d : Nat) (r0 : Nat) (l1 : Int) (l2 : Int) (l4 : Int) (l5 : Int) (t0 : Int) (w : MW) : R X (d + 1) 104 224 [some (.inr r0), some (.inl l1), some (.inl l2), none, some (.inl l4), some (.inl l5), none] [.inl t0] w = if 0 ≤ l5 then (R X (d + 1) 104 234 [some (.inr r0), some (.inl l1), some (.inl l2), none, some (.inl l4), none, none] [.inl 0, .inl t0] w) else (R X (d + 1) 104 234 [some (.inr r0), some (.inl l1), some (.inl l2), none, some (.inl l4), none, none] [.inl 1, .inl t0] w) := q_iload (q := 226) (L1 := [some (.inr r0), some (.inl l1), some (.inl l2), none, some (.inl l4), some (.inl l5), none]) rfl rfl rfl rfl (p_if_ge (q := 233) (q2 := 229) (off := 7) rfl (by decide) rfl rfl (p_iconst (q := 234) (z := 0) rfl (by decide) rfl (q_kill rfl rfl rfl rfl)) (p_iconst (q := 230) (z := 1) rfl (by decide) rfl (p_goto (q := 234) (off := 4) rfl (by decide) rfl (q_kill rfl rfl rfl rfl))))
/-- SometimesSumsLaw.sums, from 234 -/
theorem b104_234 (X : Nat × (Nat → Int)) (d : Nat) (r0 : Nat) (l1 : Int) (l2 : Int) (l4 : Int) (t0 : Int) (t1 : Int) (w : MW) : R X (d + 1) 104 234 [some (.inr r0), some (.inl l1), some (.inl l2), none, some (.inl l4), none, none] [.inl t0, .inl t1] w = if t1 ≠ t0 then (R X (d + 1) 104 22 [some (.inr r0), some (.inl l1), some (.inl l2), some (.inl 0), some (.inl (wrap (l4 + 1))), none, none] [] w) else (gd (kd w r0 = 16) (rI (run X d 88 [.inr r0, .inl l4, .inl 7] w) fun v1 w1 => if (20 : Int) < v1 then (R X (d + 1) 104 22 [some (.inr r0), some (.inl l1), some (.inl l2), some (.inl 0), some (.inl (wrap (l4 + 1))), none, none] [] w1) else (R X (d + 1) 104 22 [some (.inr r0), some (.inl l1), some (.inl l2), some (.inl 1), some (.inl (wrap (l4 + 1))), none, none] [] w1))) := q_icmp_ne (q := 254) (q2 := 237) (L1 := [some (.inr r0), some (.inl l1), some (.inl l2), none, some (.inl l4), none, none]) (off := 20) rfl rfl (by decide) rfl rfl (p_iconst (q := 255) (z := 0) rfl (by decide) rfl (p_istore_n (q := 256) (L2 := [some (.inr r0), some (.inl l1), some (.inl l2), some (.inl 0), some (.inl l4), none, none]) rfl rfl rfl rfl (p_iinc (q := 259) (z := 1) (L2 := [some (.inr r0), some (.inl l1), some (.inl l2), some (.inl 0), some (.inl (wrap (l4 + 1))), none, none]) rfl rfl (by decide) rfl rfl (p_goto (q := 22) (off := (-237)) rfl (by decide) rfl (rfl))))) (p_aload_n (q := 238) rfl rfl rfl (p_iload (q := 240) rfl rfl rfl (p_bipush (q := 242) (z := 7) rfl (by decide) rfl (p_callVi (q := 245) (s2 := []) rfl rfl rfl rfl rfl rfl rfl (fun v1 w1 => p_bipush (q := 247) (z := 20) rfl (by decide) rfl (p_icmp_gt (q := 254) (q2 := 250) (off := 7) rfl (by decide) rfl rfl (p_iconst (q := 255) (z := 0) rfl (by decide) rfl (p_istore_n (q := 256) (L2 := [some (.inr r0), some (.inl l1), some (.inl l2), some (.inl 0), some (.inl l4), none, none]) rfl rfl rfl rfl (p_iinc (q := 259) (z := 1) (L2 := [some (.inr r0), some (.inl l1), some (.inl l2), some (.inl 0), some (.inl (wrap (l4 + 1))), none, none]) rfl rfl (by decide) rfl rfl (p_goto (q := 22) (off := (-237)) rfl (by decide) rfl (rfl))))) (p_iconst (q := 251) (z := 1) rfl (by decide) rfl (p_goto (q := 255) (off := 4) rfl (by decide) rfl (p_istore_n (q := 256) (L2 := [some (.inr r0), some (.inl l1), some (.inl l2), some (.inl 1), some (.inl l4), none, none]) rfl rfl rfl rfl (p_iinc (q := 259) (z := 1) (L2 := [some (.inr r0), some (.inl l1), some (.inl l2), some (.inl 1), some (.inl (wrap (l4 + 1))), none, none]) rfl rfl (by decide) rfl rfl (p_goto (q := 22) (off := (-237)) rfl (by decide) rfl (rfl))))))))))))
/-- SometimesSumsLaw.sums, from 262 -/
theorem b104_262 (X : Nat × (Nat → Int)) (d : Nat) (r0 : Nat) (l1 : Int) (l2 : Int) (l3 : Int) (w : MW) : R X (d + 1) 104 262 [some (.inr r0), some (.inl l1), some (.inl l2), some (.inl l3), none, none, none] [] w = if l3 = 0 then (some (some (.inl 0), w)) else (gd (kd w r0 = 16) (rI (run X d 94 [.inr r0, .inl 1] w) fun v1 w1 => if v1 ≠ l2 then (some (some (.inl 0), w1)) else (gd (kd w1 r0 = 16) (rI (run X d 89 [.inr r0, .inl 0] w1) fun v2 w2 => if v2 ≠ 0 then (some (some (.inl 0), w2)) else (gd (kd w2 r0 = 16) (rI (run X d 89 [.inr r0, .inl (shlI 1 l1)] w2) fun v3 w3 => if v3 ≠ (-1 : Int) then (some (some (.inl 0), w3)) else (some (some (.inl 1), w3)))))))) := q_iload_n (q := 263) (L1 := [some (.inr r0), some (.inl l1), some (.inl l2), some (.inl l3), none, none, none]) rfl rfl rfl rfl (p_if_eq (q := 298) (q2 := 266) (off := 35) rfl (by decide) rfl rfl (p_iconst (q := 299) (z := 0) rfl (by decide) rfl (p_zret0 rfl rfl)) (p_aload_n (q := 267) rfl rfl rfl (p_iconst (q := 268) (z := 1) rfl (by decide) rfl (p_callVi (q := 271) (s2 := []) rfl rfl rfl rfl rfl rfl rfl (fun v1 w1 => p_iload_n (q := 272) rfl rfl rfl (p_icmp_ne (q := 298) (q2 := 275) (off := 26) rfl (by decide) rfl rfl (p_iconst (q := 299) (z := 0) rfl (by decide) rfl (p_zret0 rfl rfl)) (p_aload_n (q := 276) rfl rfl rfl (p_iconst (q := 277) (z := 0) rfl (by decide) rfl (p_callVi (q := 280) (s2 := []) rfl rfl rfl rfl rfl rfl rfl (fun v2 w2 => p_if_ne (q := 298) (q2 := 283) (off := 18) rfl (by decide) rfl rfl (p_iconst (q := 299) (z := 0) rfl (by decide) rfl (p_zret0 rfl rfl)) (p_aload_n (q := 284) rfl rfl rfl (p_iconst (q := 285) (z := 1) rfl (by decide) rfl (p_iload_n (q := 286) rfl rfl rfl (p_ishl (q := 287) rfl rfl (p_callVi (q := 290) (s2 := []) rfl rfl rfl rfl rfl rfl rfl (fun v3 w3 => p_iconst (q := 291) (z := (-1)) rfl (by decide) rfl (p_icmp_ne (q := 298) (q2 := 294) (off := 7) rfl (by decide) rfl rfl (p_iconst (q := 299) (z := 0) rfl (by decide) rfl (p_zret0 rfl rfl)) (p_iconst (q := 295) (z := 1) rfl (by decide) rfl (p_goto (q := 299) (off := 4) rfl (by decide) rfl (p_zret1 rfl rfl))))))))))))))))))))
/-- SometimesSumsLaw.blocks, from 0 -/
theorem b105_0 (X : Nat × (Nat → Int)) (d : Nat) (r0 : Nat) (w : MW) : run X (d + 1) 105 [.inr r0] w = gd (kd w r0 = 16) (rI (run X d 94 [.inr r0, .inl 3] w) fun v1 w1 => if v1 ≤ 0 then (R X (d + 1) 105 21 [some (.inr r0), some (.inl v1), some (.inl 0), some (.inl 0), some (.inl 0), none] [] w1) else (R X (d + 1) 105 21 [some (.inr r0), some (.inl v1), some (.inl 0), some (.inl 1), some (.inl 0), none] [] w1)) := (show R X (d + 1) 105 0 [some (.inr r0), none, none, none, none, none] [] w = _ from p_aload_n (q := 1) rfl rfl rfl (p_iconst (q := 2) (z := 3) rfl (by decide) rfl (p_callVi (q := 5) (s2 := []) rfl rfl rfl rfl rfl rfl rfl (fun v1 w1 => p_istore_n (q := 6) (L2 := [some (.inr r0), some (.inl v1), none, none, none, none]) rfl rfl rfl rfl (p_iconst (q := 7) (z := 0) rfl (by decide) rfl (p_istore_n (q := 8) (L2 := [some (.inr r0), some (.inl v1), some (.inl 0), none, none, none]) rfl rfl rfl rfl (p_iload_n (q := 9) rfl rfl rfl (p_if_le (q := 16) (q2 := 12) (off := 7) rfl (by decide) rfl rfl (p_iconst (q := 17) (z := 0) rfl (by decide) rfl (p_istore_n (q := 18) (L2 := [some (.inr r0), some (.inl v1), some (.inl 0), some (.inl 0), none, none]) rfl rfl rfl rfl (p_iconst (q := 19) (z := 0) rfl (by decide) rfl (p_istore (q := 21) (L2 := [some (.inr r0), some (.inl v1), some (.inl 0), some (.inl 0), some (.inl 0), none]) rfl rfl rfl rfl (rfl))))) (p_iconst (q := 13) (z := 1) rfl (by decide) rfl (p_goto (q := 17) (off := 4) rfl (by decide) rfl (p_istore_n (q := 18) (L2 := [some (.inr r0), some (.inl v1), some (.inl 0), some (.inl 1), none, none]) rfl rfl rfl rfl (p_iconst (q := 19) (z := 0) rfl (by decide) rfl (p_istore (q := 21) (L2 := [some (.inr r0), some (.inl v1), some (.inl 0), some (.inl 1), some (.inl 0), none]) rfl rfl rfl rfl (rfl))))))))))))))
/-- SometimesSumsLaw.blocks, from 21 -/
theorem b105_21 (X : Nat × (Nat → Int)) (d : Nat) (r0 : Nat) (l1 : Int) (l2 : Int) (l3 : Int) (l4 : Int) (w : MW) : R X (d + 1) 105 21 [some (.inr r0), some (.inl l1), some (.inl l2), some (.inl l3), some (.inl l4), none] [] w = if l1 ≤ l4 then (R X (d + 1) 105 80 [some (.inr r0), some (.inl l1), none, some (.inl l3), none, none] [] w) else (if l3 = 0 then (R X (d + 1) 105 80 [some (.inr r0), some (.inl l1), none, some (.inl l3), none, none] [] w) else (gd (kd w r0 = 16) (rI (run X d 90 [.inr r0, .inl l4, .inl 0] w) fun v1 w1 => if v1 ≤ l2 then (R X (d + 1) 105 21 [some (.inr r0), some (.inl l1), some (.inl v1), some (.inl 0), some (.inl (wrap (l4 + 1))), none] [] w1) else (if l4 = 0 then (R X (d + 1) 105 21 [some (.inr r0), some (.inl l1), some (.inl v1), some (.inl 1), some (.inl (wrap (l4 + 1))), none] [] w1) else (gd (kd w1 r0 = 16) (rI (run X d 90 [.inr r0, .inl 0, .inl 0] w1) fun v2 w2 => if (andI v2 (xorI v1 (-1))) = 0 then (R X (d + 1) 105 21 [some (.inr r0), some (.inl l1), some (.inl v1), some (.inl 0), some (.inl (wrap (l4 + 1))), none] [] w2) else (R X (d + 1) 105 21 [some (.inr r0), some (.inl l1), some (.inl v1), some (.inl 1), some (.inl (wrap (l4 + 1))), none] [] w2))))))) := q_iload (q := 23) (L1 := [some (.inr r0), some (.inl l1), some (.inl l2), some (.inl l3), some (.inl l4), none]) rfl rfl rfl rfl (p_iload_n (q := 24) rfl rfl rfl (p_icmp_ge (q := 80) (q2 := 27) (off := 56) rfl (by decide) rfl rfl (q_kill rfl rfl rfl rfl) (p_iload_n (q := 28) rfl rfl rfl (p_if_eq (q := 80) (q2 := 31) (off := 52) rfl (by decide) rfl rfl (q_kill rfl rfl rfl rfl) (p_aload_n (q := 32) rfl rfl rfl (p_iload (q := 34) rfl rfl rfl (p_iconst (q := 35) (z := 0) rfl (by decide) rfl (p_callVi (q := 38) (s2 := []) rfl rfl rfl rfl rfl rfl rfl (fun v1 w1 => p_istore (q := 40) (L2 := [some (.inr r0), some (.inl l1), some (.inl l2), some (.inl l3), some (.inl l4), some (.inl v1)]) rfl rfl rfl rfl (p_iload (q := 42) rfl rfl rfl (p_iload_n (q := 43) rfl rfl rfl (p_icmp_le (q := 69) (q2 := 46) (off := 26) rfl (by decide) rfl rfl (p_iconst (q := 70) (z := 0) rfl (by decide) rfl (p_istore_n (q := 71) (L2 := [some (.inr r0), some (.inl l1), some (.inl l2), some (.inl 0), some (.inl l4), some (.inl v1)]) rfl rfl rfl rfl (p_iload (q := 73) rfl rfl rfl (p_istore_n (q := 74) (L2 := [some (.inr r0), some (.inl l1), some (.inl v1), some (.inl 0), some (.inl l4), some (.inl v1)]) rfl rfl rfl rfl (p_iinc (q := 77) (z := 1) (L2 := [some (.inr r0), some (.inl l1), some (.inl v1), some (.inl 0), some (.inl (wrap (l4 + 1))), some (.inl v1)]) rfl rfl (by decide) rfl rfl (p_goto (q := 21) (off := (-56)) rfl (by decide) rfl (q_kill rfl rfl rfl rfl))))))) (p_iload (q := 48) rfl rfl rfl (p_if_eq (q := 65) (q2 := 51) (off := 17) rfl (by decide) rfl rfl (p_iconst (q := 66) (z := 1) rfl (by decide) rfl (p_goto (q := 70) (off := 4) rfl (by decide) rfl (p_istore_n (q := 71) (L2 := [some (.inr r0), some (.inl l1), some (.inl l2), some (.inl 1), some (.inl l4), some (.inl v1)]) rfl rfl rfl rfl (p_iload (q := 73) rfl rfl rfl (p_istore_n (q := 74) (L2 := [some (.inr r0), some (.inl l1), some (.inl v1), some (.inl 1), some (.inl l4), some (.inl v1)]) rfl rfl rfl rfl (p_iinc (q := 77) (z := 1) (L2 := [some (.inr r0), some (.inl l1), some (.inl v1), some (.inl 1), some (.inl (wrap (l4 + 1))), some (.inl v1)]) rfl rfl (by decide) rfl rfl (p_goto (q := 21) (off := (-56)) rfl (by decide) rfl (q_kill rfl rfl rfl rfl)))))))) (p_aload_n (q := 52) rfl rfl rfl (p_iconst (q := 53) (z := 0) rfl (by decide) rfl (p_iconst (q := 54) (z := 0) rfl (by decide) rfl (p_callVi (q := 57) (s2 := []) rfl rfl rfl rfl rfl rfl rfl (fun v2 w2 => p_iload (q := 59) rfl rfl rfl (p_iconst (q := 60) (z := (-1)) rfl (by decide) rfl (p_ixor (q := 61) rfl rfl (p_iand (q := 62) rfl rfl (p_if_eq (q := 69) (q2 := 65) (off := 7) rfl (by decide) rfl rfl (p_iconst (q := 70) (z := 0) rfl (by decide) rfl (p_istore_n (q := 71) (L2 := [some (.inr r0), some (.inl l1), some (.inl l2), some (.inl 0), some (.inl l4), some (.inl v1)]) rfl rfl rfl rfl (p_iload (q := 73) rfl rfl rfl (p_istore_n (q := 74) (L2 := [some (.inr r0), some (.inl l1), some (.inl v1), some (.inl 0), some (.inl l4), some (.inl v1)]) rfl rfl rfl rfl (p_iinc (q := 77) (z := 1) (L2 := [some (.inr r0), some (.inl l1), some (.inl v1), some (.inl 0), some (.inl (wrap (l4 + 1))), some (.inl v1)]) rfl rfl (by decide) rfl rfl (p_goto (q := 21) (off := (-56)) rfl (by decide) rfl (q_kill rfl rfl rfl rfl))))))) (p_iconst (q := 66) (z := 1) rfl (by decide) rfl (p_goto (q := 70) (off := 4) rfl (by decide) rfl (p_istore_n (q := 71) (L2 := [some (.inr r0), some (.inl l1), some (.inl l2), some (.inl 1), some (.inl l4), some (.inl v1)]) rfl rfl rfl rfl (p_iload (q := 73) rfl rfl rfl (p_istore_n (q := 74) (L2 := [some (.inr r0), some (.inl l1), some (.inl v1), some (.inl 1), some (.inl l4), some (.inl v1)]) rfl rfl rfl rfl (p_iinc (q := 77) (z := 1) (L2 := [some (.inr r0), some (.inl l1), some (.inl v1), some (.inl 1), some (.inl (wrap (l4 + 1))), some (.inl v1)]) rfl rfl (by decide) rfl rfl (p_goto (q := 21) (off := (-56)) rfl (by decide) rfl (q_kill rfl rfl rfl rfl)))))))))))))))))))))))))))))))
/-- SometimesSumsLaw.blocks, from 80 -/
theorem b105_80 (X : Nat × (Nat → Int)) (d : Nat) (r0 : Nat) (l1 : Int) (l3 : Int) (w : MW) : R X (d + 1) 105 80 [some (.inr r0), some (.inl l1), none, some (.inl l3), none, none] [] w = if l3 = 0 then (some (some (.inl 0), w)) else (gd (kd w r0 = 16) (rI (run X d 90 [.inr r0, .inl l1, .inl 1] w) fun v1 w1 => if v1 ≠ (-5 : Int) then (some (some (.inl 0), w1)) else (some (some (.inl 1), w1)))) := q_iload_n (q := 81) (L1 := [some (.inr r0), some (.inl l1), none, some (.inl l3), none, none]) rfl rfl rfl rfl (p_if_eq (q := 99) (q2 := 84) (off := 18) rfl (by decide) rfl rfl (p_iconst (q := 100) (z := 0) rfl (by decide) rfl (p_zret0 rfl rfl)) (p_aload_n (q := 85) rfl rfl rfl (p_iload_n (q := 86) rfl rfl rfl (p_iconst (q := 87) (z := 1) rfl (by decide) rfl (p_callVi (q := 90) (s2 := []) rfl rfl rfl rfl rfl rfl rfl (fun v1 w1 => p_bipush (q := 92) (z := (-5)) rfl (by decide) rfl (p_icmp_ne (q := 99) (q2 := 95) (off := 7) rfl (by decide) rfl rfl (p_iconst (q := 100) (z := 0) rfl (by decide) rfl (p_zret0 rfl rfl)) (p_iconst (q := 96) (z := 1) rfl (by decide) rfl (p_goto (q := 100) (off := 4) rfl (by decide) rfl (p_zret1 rfl rfl))))))))))
/-- SometimesSumsLaw.weights, from 0 -/
theorem b106_0 (X : Nat × (Nat → Int)) (d : Nat) (r0 : Nat) (l1 : Int) (l2 : Int) (w : MW) : run X (d + 1) 106 [.inr r0, .inl l1, .inl l2] w = gd (kd w r0 = 16) (rI (run X d 91 [.inr r0, .inl l2] w) fun v1 w1 => if v1 < 0 then (R X (d + 1) 106 50 [some (.inr r0), some (.inl l1), some (.inl l2), some (.inl v1), some (.inl 0), some (.inl 1), some (.inl 0), none, none] [] w1) else (if (1000 : Int) < v1 then (R X (d + 1) 106 50 [some (.inr r0), some (.inl l1), some (.inl l2), some (.inl v1), some (.inl 0), some (.inl 1), some (.inl 0), none, none] [] w1) else (gd (kd w1 r0 = 16) (rI (run X d 92 [.inr r0, .inl l2, .inl l1] w1) fun v2 w2 => if v2 ≠ (-1 : Int) then (R X (d + 1) 106 50 [some (.inr r0), some (.inl l1), some (.inl l2), some (.inl v1), some (.inl 0), some (.inl 1), some (.inl 0), none, none] [] w2) else (gd (kd w2 r0 = 16) (rI (run X d 91 [.inr r0, .inl 0] w2) fun v3 w3 => if v3 ≠ (-2 : Int) then (R X (d + 1) 106 50 [some (.inr r0), some (.inl l1), some (.inl l2), some (.inl v1), some (.inl 0), some (.inl 1), some (.inl 0), none, none] [] w3) else (R X (d + 1) 106 50 [some (.inr r0), some (.inl l1), some (.inl l2), some (.inl v1), some (.inl 1), some (.inl 1), some (.inl 0), none, none] [] w3))))))) := (show R X (d + 1) 106 0 [some (.inr r0), some (.inl l1), some (.inl l2), none, none, none, none, none, none] [] w = _ from p_aload_n (q := 1) rfl rfl rfl (p_iload_n (q := 2) rfl rfl rfl (p_callVi (q := 5) (s2 := []) rfl rfl rfl rfl rfl rfl rfl (fun v1 w1 => p_istore_n (q := 6) (L2 := [some (.inr r0), some (.inl l1), some (.inl l2), some (.inl v1), none, none, none, none, none]) rfl rfl rfl rfl (p_iload_n (q := 7) rfl rfl rfl (p_if_lt (q := 41) (q2 := 10) (off := 34) rfl (by decide) rfl rfl (p_iconst (q := 42) (z := 0) rfl (by decide) rfl (p_istore (q := 44) (L2 := [some (.inr r0), some (.inl l1), some (.inl l2), some (.inl v1), some (.inl 0), none, none, none, none]) rfl rfl rfl rfl (p_iconst (q := 45) (z := 1) rfl (by decide) rfl (p_istore (q := 47) (L2 := [some (.inr r0), some (.inl l1), some (.inl l2), some (.inl v1), some (.inl 0), some (.inl 1), none, none, none]) rfl rfl rfl rfl (p_iconst (q := 48) (z := 0) rfl (by decide) rfl (p_istore (q := 50) (L2 := [some (.inr r0), some (.inl l1), some (.inl l2), some (.inl v1), some (.inl 0), some (.inl 1), some (.inl 0), none, none]) rfl rfl rfl rfl (rfl))))))) (p_iload_n (q := 11) rfl rfl rfl (p_sipush (q := 14) (z := 1000) rfl (by decide) rfl (p_icmp_gt (q := 41) (q2 := 17) (off := 27) rfl (by decide) rfl rfl (p_iconst (q := 42) (z := 0) rfl (by decide) rfl (p_istore (q := 44) (L2 := [some (.inr r0), some (.inl l1), some (.inl l2), some (.inl v1), some (.inl 0), none, none, none, none]) rfl rfl rfl rfl (p_iconst (q := 45) (z := 1) rfl (by decide) rfl (p_istore (q := 47) (L2 := [some (.inr r0), some (.inl l1), some (.inl l2), some (.inl v1), some (.inl 0), some (.inl 1), none, none, none]) rfl rfl rfl rfl (p_iconst (q := 48) (z := 0) rfl (by decide) rfl (p_istore (q := 50) (L2 := [some (.inr r0), some (.inl l1), some (.inl l2), some (.inl v1), some (.inl 0), some (.inl 1), some (.inl 0), none, none]) rfl rfl rfl rfl (rfl))))))) (p_aload_n (q := 18) rfl rfl rfl (p_iload_n (q := 19) rfl rfl rfl (p_iload_n (q := 20) rfl rfl rfl (p_callVi (q := 23) (s2 := []) rfl rfl rfl rfl rfl rfl rfl (fun v2 w2 => p_iconst (q := 24) (z := (-1)) rfl (by decide) rfl (p_icmp_ne (q := 41) (q2 := 27) (off := 17) rfl (by decide) rfl rfl (p_iconst (q := 42) (z := 0) rfl (by decide) rfl (p_istore (q := 44) (L2 := [some (.inr r0), some (.inl l1), some (.inl l2), some (.inl v1), some (.inl 0), none, none, none, none]) rfl rfl rfl rfl (p_iconst (q := 45) (z := 1) rfl (by decide) rfl (p_istore (q := 47) (L2 := [some (.inr r0), some (.inl l1), some (.inl l2), some (.inl v1), some (.inl 0), some (.inl 1), none, none, none]) rfl rfl rfl rfl (p_iconst (q := 48) (z := 0) rfl (by decide) rfl (p_istore (q := 50) (L2 := [some (.inr r0), some (.inl l1), some (.inl l2), some (.inl v1), some (.inl 0), some (.inl 1), some (.inl 0), none, none]) rfl rfl rfl rfl (rfl))))))) (p_aload_n (q := 28) rfl rfl rfl (p_iconst (q := 29) (z := 0) rfl (by decide) rfl (p_callVi (q := 32) (s2 := []) rfl rfl rfl rfl rfl rfl rfl (fun v3 w3 => p_bipush (q := 34) (z := (-2)) rfl (by decide) rfl (p_icmp_ne (q := 41) (q2 := 37) (off := 7) rfl (by decide) rfl rfl (p_iconst (q := 42) (z := 0) rfl (by decide) rfl (p_istore (q := 44) (L2 := [some (.inr r0), some (.inl l1), some (.inl l2), some (.inl v1), some (.inl 0), none, none, none, none]) rfl rfl rfl rfl (p_iconst (q := 45) (z := 1) rfl (by decide) rfl (p_istore (q := 47) (L2 := [some (.inr r0), some (.inl l1), some (.inl l2), some (.inl v1), some (.inl 0), some (.inl 1), none, none, none]) rfl rfl rfl rfl (p_iconst (q := 48) (z := 0) rfl (by decide) rfl (p_istore (q := 50) (L2 := [some (.inr r0), some (.inl l1), some (.inl l2), some (.inl v1), some (.inl 0), some (.inl 1), some (.inl 0), none, none]) rfl rfl rfl rfl (rfl))))))) (p_iconst (q := 38) (z := 1) rfl (by decide) rfl (p_goto (q := 42) (off := 4) rfl (by decide) rfl (p_istore (q := 44) (L2 := [some (.inr r0), some (.inl l1), some (.inl l2), some (.inl v1), some (.inl 1), none, none, none, none]) rfl rfl rfl rfl (p_iconst (q := 45) (z := 1) rfl (by decide) rfl (p_istore (q := 47) (L2 := [some (.inr r0), some (.inl l1), some (.inl l2), some (.inl v1), some (.inl 1), some (.inl 1), none, none, none]) rfl rfl rfl rfl (p_iconst (q := 48) (z := 0) rfl (by decide) rfl (p_istore (q := 50) (L2 := [some (.inr r0), some (.inl l1), some (.inl l2), some (.inl v1), some (.inl 1), some (.inl 1), some (.inl 0), none, none]) rfl rfl rfl rfl (rfl))))))))))))))))))))))))))))
/-- SometimesSumsLaw.weights, from 50 -/
theorem b106_50 (X : Nat × (Nat → Int)) (d : Nat) (r0 : Nat) (l1 : Int) (l2 : Int) (l3 : Int) (l4 : Int) (l5 : Int) (l6 : Int) (w : MW) : R X (d + 1) 106 50 [some (.inr r0), some (.inl l1), some (.inl l2), some (.inl l3), some (.inl l4), some (.inl l5), some (.inl l6), none, none] [] w = if l1 ≤ l6 then (R X (d + 1) 106 157 [none, none, none, some (.inl l3), some (.inl l4), some (.inl l5), none, none, none] [] w) else (if l4 = 0 then (R X (d + 1) 106 157 [none, none, none, some (.inl l3), some (.inl l4), some (.inl l5), none, none, none] [] w) else (gd (kd w r0 = 16) (rI (run X d 93 [.inr r0, .inl l2, .inl l6, .inl 0] w) fun v1 w1 => gd (kd w1 r0 = 16) (rI (run X d 93 [.inr r0, .inl l2, .inl l6, .inl 1] w1) fun v2 w2 => if l3 ≠ 0 then (if v1 < 0 then (R X (d + 1) 106 129 [some (.inr r0), some (.inl l1), some (.inl l2), some (.inl l3), none, some (.inl l5), some (.inl l6), some (.inl v1), some (.inl v2)] [] w2) else (if v2 < v1 then (R X (d + 1) 106 129 [some (.inr r0), some (.inl l1), some (.inl l2), some (.inl l3), none, some (.inl l5), some (.inl l6), some (.inl v1), some (.inl v2)] [] w2) else (if l2 < v2 then (R X (d + 1) 106 129 [some (.inr r0), some (.inl l1), some (.inl l2), some (.inl l3), none, some (.inl l5), some (.inl l6), some (.inl v1), some (.inl v2)] [] w2) else (R X (d + 1) 106 130 [some (.inr r0), some (.inl l1), some (.inl l2), some (.inl l3), none, some (.inl l5), some (.inl l6), some (.inl v1), some (.inl v2)] [.inl 1] w2)))) else (if v1 ≠ (-5 : Int) then (R X (d + 1) 106 103 [some (.inr r0), some (.inl l1), some (.inl l2), some (.inl l3), none, some (.inl l5), some (.inl l6), some (.inl v1), some (.inl v2)] [] w2) else (if v2 ≠ (-5 : Int) then (R X (d + 1) 106 103 [some (.inr r0), some (.inl l1), some (.inl l2), some (.inl l3), none, some (.inl l5), some (.inl l6), some (.inl v1), some (.inl v2)] [] w2) else (R X (d + 1) 106 130 [some (.inr r0), some (.inl l1), some (.inl l2), some (.inl l3), none, some (.inl l5), some (.inl l6), some (.inl v1), some (.inl v2)] [.inl 1] w2))))))) := q_iload (q := 52) (L1 := [some (.inr r0), some (.inl l1), some (.inl l2), some (.inl l3), some (.inl l4), some (.inl l5), some (.inl l6), none, none]) rfl rfl rfl rfl (p_iload_n (q := 53) rfl rfl rfl (p_icmp_ge (q := 157) (q2 := 56) (off := 104) rfl (by decide) rfl rfl (q_kill rfl rfl rfl rfl) (p_iload (q := 58) rfl rfl rfl (p_if_eq (q := 157) (q2 := 61) (off := 99) rfl (by decide) rfl rfl (q_kill rfl rfl rfl rfl) (p_aload_n (q := 62) rfl rfl rfl (p_iload_n (q := 63) rfl rfl rfl (p_iload (q := 65) rfl rfl rfl (p_iconst (q := 66) (z := 0) rfl (by decide) rfl (p_callVi (q := 69) (s2 := []) rfl rfl rfl rfl rfl rfl rfl (fun v1 w1 => p_istore (q := 71) (L2 := [some (.inr r0), some (.inl l1), some (.inl l2), some (.inl l3), some (.inl l4), some (.inl l5), some (.inl l6), some (.inl v1), none]) rfl rfl rfl rfl (p_aload_n (q := 72) rfl rfl rfl (p_iload_n (q := 73) rfl rfl rfl (p_iload (q := 75) rfl rfl rfl (p_iconst (q := 76) (z := 1) rfl (by decide) rfl (p_callVi (q := 79) (s2 := []) rfl rfl rfl rfl rfl rfl rfl (fun v2 w2 => p_istore (q := 81) (L2 := [some (.inr r0), some (.inl l1), some (.inl l2), some (.inl l3), some (.inl l4), some (.inl l5), some (.inl l6), some (.inl v1), some (.inl v2)]) rfl rfl rfl rfl (p_iload_n (q := 82) rfl rfl rfl (p_if_ne (q := 107) (q2 := 85) (off := 25) rfl (by decide) rfl rfl (p_iload (q := 109) rfl rfl rfl (p_if_lt (q := 129) (q2 := 112) (off := 20) rfl (by decide) rfl rfl (q_kill rfl rfl rfl rfl) (p_iload (q := 114) rfl rfl rfl (p_iload (q := 116) rfl rfl rfl (p_icmp_gt (q := 129) (q2 := 119) (off := 13) rfl (by decide) rfl rfl (q_kill rfl rfl rfl rfl) (p_iload (q := 121) rfl rfl rfl (p_iload_n (q := 122) rfl rfl rfl (p_icmp_gt (q := 129) (q2 := 125) (off := 7) rfl (by decide) rfl rfl (q_kill rfl rfl rfl rfl) (p_iconst (q := 126) (z := 1) rfl (by decide) rfl (p_goto (q := 130) (off := 4) rfl (by decide) rfl (q_kill rfl rfl rfl rfl))))))))))) (p_iload (q := 87) rfl rfl rfl (p_bipush (q := 89) (z := (-5)) rfl (by decide) rfl (p_icmp_ne (q := 103) (q2 := 92) (off := 14) rfl (by decide) rfl rfl (q_kill rfl rfl rfl rfl) (p_iload (q := 94) rfl rfl rfl (p_bipush (q := 96) (z := (-5)) rfl (by decide) rfl (p_icmp_ne (q := 103) (q2 := 99) (off := 7) rfl (by decide) rfl rfl (q_kill rfl rfl rfl rfl) (p_iconst (q := 100) (z := 1) rfl (by decide) rfl (p_goto (q := 130) (off := 30) rfl (by decide) rfl (q_kill rfl rfl rfl rfl)))))))))))))))))))))))))))
/-- SometimesSumsLaw.weights, from 103 -/
theorem b106_103 (X : Nat × (Nat → Int)) (d : Nat) (r0 : Nat) (l1 : Int) (l2 : Int) (l3 : Int) (l5 : Int) (l6 : Int) (l7 : Int) (l8 : Int) (w : MW) : R X (d + 1) 106 103 [some (.inr r0), some (.inl l1), some (.inl l2), some (.inl l3), none, some (.inl l5), some (.inl l6), some (.inl l7), some (.inl l8)] [] w = R X (d + 1) 106 130 [some (.inr r0), some (.inl l1), some (.inl l2), some (.inl l3), none, some (.inl l5), some (.inl l6), some (.inl l7), some (.inl l8)] [.inl 0] w := q_iconst (q := 104) (L1 := [some (.inr r0), some (.inl l1), some (.inl l2), some (.inl l3), none, some (.inl l5), some (.inl l6), some (.inl l7), some (.inl l8)]) (z := 0) rfl rfl (by decide) rfl (p_goto (q := 130) (off := 26) rfl (by decide) rfl (rfl))
/-- SometimesSumsLaw.weights, from 129 -/
theorem b106_129 (X : Nat × (Nat → Int)) (d : Nat) (r0 : Nat) (l1 : Int) (l2 : Int) (l3 : Int) (l5 : Int) (l6 : Int) (l7 : Int) (l8 : Int) (w : MW) : R X (d + 1) 106 129 [some (.inr r0), some (.inl l1), some (.inl l2), some (.inl l3), none, some (.inl l5), some (.inl l6), some (.inl l7), some (.inl l8)] [] w = R X (d + 1) 106 130 [some (.inr r0), some (.inl l1), some (.inl l2), some (.inl l3), none, some (.inl l5), some (.inl l6), some (.inl l7), some (.inl l8)] [.inl 0] w := q_iconst (q := 130) (L1 := [some (.inr r0), some (.inl l1), some (.inl l2), some (.inl l3), none, some (.inl l5), some (.inl l6), some (.inl l7), some (.inl l8)]) (z := 0) rfl rfl (by decide) rfl (rfl)
/-- SometimesSumsLaw.weights, from 130 -/
theorem b106_130 (X : Nat × (Nat → Int)) (d : Nat) (r0 : Nat) (l1 : Int) (l2 : Int) (l3 : Int) (l5 : Int) (l6 : Int) (l7 : Int) (l8 : Int) (t0 : Int) (w : MW) : R X (d + 1) 106 130 [some (.inr r0), some (.inl l1), some (.inl l2), some (.inl l3), none, some (.inl l5), some (.inl l6), some (.inl l7), some (.inl l8)] [.inl t0] w = if l5 = 0 then (R X (d + 1) 106 50 [some (.inr r0), some (.inl l1), some (.inl l2), some (.inl l3), some (.inl t0), some (.inl 0), some (.inl (wrap (l6 + 1))), none, none] [] w) else (if l7 ≠ l8 then (R X (d + 1) 106 50 [some (.inr r0), some (.inl l1), some (.inl l2), some (.inl l3), some (.inl t0), some (.inl 0), some (.inl (wrap (l6 + 1))), none, none] [] w) else (R X (d + 1) 106 50 [some (.inr r0), some (.inl l1), some (.inl l2), some (.inl l3), some (.inl t0), some (.inl 1), some (.inl (wrap (l6 + 1))), none, none] [] w)) := q_istore (q := 132) (L1 := [some (.inr r0), some (.inl l1), some (.inl l2), some (.inl l3), none, some (.inl l5), some (.inl l6), some (.inl l7), some (.inl l8)]) (L2 := [some (.inr r0), some (.inl l1), some (.inl l2), some (.inl l3), some (.inl t0), some (.inl l5), some (.inl l6), some (.inl l7), some (.inl l8)]) rfl rfl rfl rfl rfl (p_iload (q := 134) rfl rfl rfl (p_if_eq (q := 148) (q2 := 137) (off := 14) rfl (by decide) rfl rfl (p_iconst (q := 149) (z := 0) rfl (by decide) rfl (p_istore (q := 151) (L2 := [some (.inr r0), some (.inl l1), some (.inl l2), some (.inl l3), some (.inl t0), some (.inl 0), some (.inl l6), some (.inl l7), some (.inl l8)]) rfl rfl rfl rfl (p_iinc (q := 154) (z := 1) (L2 := [some (.inr r0), some (.inl l1), some (.inl l2), some (.inl l3), some (.inl t0), some (.inl 0), some (.inl (wrap (l6 + 1))), some (.inl l7), some (.inl l8)]) rfl rfl (by decide) rfl rfl (p_goto (q := 50) (off := (-104)) rfl (by decide) rfl (q_kill rfl rfl rfl rfl))))) (p_iload (q := 139) rfl rfl rfl (p_iload (q := 141) rfl rfl rfl (p_icmp_ne (q := 148) (q2 := 144) (off := 7) rfl (by decide) rfl rfl (p_iconst (q := 149) (z := 0) rfl (by decide) rfl (p_istore (q := 151) (L2 := [some (.inr r0), some (.inl l1), some (.inl l2), some (.inl l3), some (.inl t0), some (.inl 0), some (.inl l6), some (.inl l7), some (.inl l8)]) rfl rfl rfl rfl (p_iinc (q := 154) (z := 1) (L2 := [some (.inr r0), some (.inl l1), some (.inl l2), some (.inl l3), some (.inl t0), some (.inl 0), some (.inl (wrap (l6 + 1))), some (.inl l7), some (.inl l8)]) rfl rfl (by decide) rfl rfl (p_goto (q := 50) (off := (-104)) rfl (by decide) rfl (q_kill rfl rfl rfl rfl))))) (p_iconst (q := 145) (z := 1) rfl (by decide) rfl (p_goto (q := 149) (off := 4) rfl (by decide) rfl (p_istore (q := 151) (L2 := [some (.inr r0), some (.inl l1), some (.inl l2), some (.inl l3), some (.inl t0), some (.inl 1), some (.inl l6), some (.inl l7), some (.inl l8)]) rfl rfl rfl rfl (p_iinc (q := 154) (z := 1) (L2 := [some (.inr r0), some (.inl l1), some (.inl l2), some (.inl l3), some (.inl t0), some (.inl 1), some (.inl (wrap (l6 + 1))), some (.inl l7), some (.inl l8)]) rfl rfl (by decide) rfl rfl (p_goto (q := 50) (off := (-104)) rfl (by decide) rfl (q_kill rfl rfl rfl rfl)))))))))))
/-- SometimesSumsLaw.weights, from 157 -/
theorem b106_157 (X : Nat × (Nat → Int)) (d : Nat) (l3 : Int) (l4 : Int) (l5 : Int) (w : MW) : R X (d + 1) 106 157 [none, none, none, some (.inl l3), some (.inl l4), some (.inl l5), none, none, none] [] w = if l4 = 0 then (some (some (.inl 0), w)) else (if l3 ≠ (1 : Int) then (R X (d + 1) 106 172 [none, none, none, some (.inl l3), none, some (.inl l5), none, none, none] [.inl 0] w) else (R X (d + 1) 106 172 [none, none, none, some (.inl l3), none, some (.inl l5), none, none, none] [.inl 1] w)) := q_iload (q := 159) (L1 := [none, none, none, some (.inl l3), some (.inl l4), some (.inl l5), none, none, none]) rfl rfl rfl rfl (p_if_eq (q := 193) (q2 := 162) (off := 34) rfl (by decide) rfl rfl (p_iconst (q := 194) (z := 0) rfl (by decide) rfl (p_zret0 rfl rfl)) (p_iload_n (q := 163) rfl rfl rfl (p_iconst (q := 164) (z := 1) rfl (by decide) rfl (p_icmp_ne (q := 171) (q2 := 167) (off := 7) rfl (by decide) rfl rfl (p_iconst (q := 172) (z := 0) rfl (by decide) rfl (q_kill rfl rfl rfl rfl)) (p_iconst (q := 168) (z := 1) rfl (by decide) rfl (p_goto (q := 172) (off := 4) rfl (by decide) rfl (q_kill rfl rfl rfl rfl)))))))
/-- SometimesSumsLaw.weights, from 172 -/
theorem b106_172 (X : Nat × (Nat → Int)) (d : Nat) (l3 : Int) (l5 : Int) (t0 : Int) (w : MW) : R X (d + 1) 106 172 [none, none, none, some (.inl l3), none, some (.inl l5), none, none, none] [.inl t0] w = if l3 ≤ 0 then (R X (d + 1) 106 185 [none, none, none, none, none, none, none, none, none] [.inl t0] w) else (if l5 = 0 then (R X (d + 1) 106 185 [none, none, none, none, none, none, none, none, none] [.inl t0] w) else (R X (d + 1) 106 186 [none, none, none, none, none, none, none, none, none] [.inl 1, .inl t0] w)) := q_iload_n (q := 173) (L1 := [none, none, none, some (.inl l3), none, some (.inl l5), none, none, none]) rfl rfl rfl rfl (p_if_le (q := 185) (q2 := 176) (off := 12) rfl (by decide) rfl rfl (q_kill rfl rfl rfl rfl) (p_iload (q := 178) rfl rfl rfl (p_if_eq (q := 185) (q2 := 181) (off := 7) rfl (by decide) rfl rfl (q_kill rfl rfl rfl rfl) (p_iconst (q := 182) (z := 1) rfl (by decide) rfl (p_goto (q := 186) (off := 4) rfl (by decide) rfl (q_kill rfl rfl rfl rfl))))))
/-- SometimesSumsLaw.weights, from 185 -/
theorem b106_185 (X : Nat × (Nat → Int)) (d : Nat) (t0 : Int) (w : MW) : R X (d + 1) 106 185 [none, none, none, none, none, none, none, none, none] [.inl t0] w = R X (d + 1) 106 186 [none, none, none, none, none, none, none, none, none] [.inl 0, .inl t0] w := q_iconst (q := 186) (L1 := [none, none, none, none, none, none, none, none, none]) (z := 0) rfl rfl (by decide) rfl (rfl)
/-- SometimesSumsLaw.weights, from 186 -/
theorem b106_186 (X : Nat × (Nat → Int)) (d : Nat) (t0 : Int) (t1 : Int) (w : MW) : R X (d + 1) 106 186 [none, none, none, none, none, none, none, none, none] [.inl t0, .inl t1] w = if t1 ≠ t0 then (some (some (.inl 0), w)) else (some (some (.inl 1), w)) := q_icmp_ne (q := 193) (q2 := 189) (L1 := [none, none, none, none, none, none, none, none, none]) (off := 7) rfl rfl (by decide) rfl rfl (p_iconst (q := 194) (z := 0) rfl (by decide) rfl (p_zret0 rfl rfl)) (p_iconst (q := 190) (z := 1) rfl (by decide) rfl (p_goto (q := 194) (off := 4) rfl (by decide) rfl (p_zret1 rfl rfl)))
end
section
/-! from the small machine to the machine: what the two have to do with each other -/
def aB (B : Nat) : Nat → Prop := fun q => B ≤ q
def VR (α : Nat → Nat) (n : Nat) : MV → Value → Prop
  | .inl z, .int y => y.toInt = z
  | .inr a, .ref q => q = α a ∧ a < n
  | _, _ => False
def SR (α : Nat → Nat) (n : Nat) : List MV → List Value → Prop
  | [], [] => True
  | v :: r, x :: q => VR α n v x ∧ SR α n r q
  | _, _ => False
def LR (α : Nat → Nat) (n : Nat) (L : List (Option MV)) (ls : Array Slot) : Prop := ∃ lv : List (Nat × Value), lv_has ls L.length lv ∧ (∀ q ∈ lv, q.2.category = 1) ∧ ∀ (i : Nat) (v : MV), L[i]? = some (some v) → ∃ x, (i, x) ∈ lv ∧ VR α n v x
def FR (α : Nat → Nat) (w : MW) (a ci k : Nat) (v : Option Value) : Prop := if skd ci k = 1 then v = some (va_rf ((gr w a k).map α)) ∧ ∀ b, gr w a k = some b → b < nx w else ∃ x : Int32, v = some (.int x) ∧ x.toInt = gi w a k
def CR (α : Nat → Nat) (tys : List (ClassId × FieldType)) (w : MW) (a : Nat) (e : va_E) : Prop :=
  (kd w a = 1 ∧ ∃ (cA : ClassId) (f : Nat → Int32) (t0 : Nat), e = .inl (cA, ln w a, .inl f) ∧ tys[t0]? = some (cA, .int) ∧ ∀ i, (f i).toInt = gi w a i) ∨
  (kd w a = 2 ∧ ∃ (cA : ClassId) (f : Nat → Int32) (t0 : Nat), e = .inl (cA, ln w a, .inl f) ∧ tys[t0]? = some (cA, .char) ∧ ∀ i, (f i).toInt = gi w a i) ∨
  (kd w a = 3 ∧ ∃ (cA : ClassId) (f : Nat → Option Nat) (t0 : Nat), e = .inl (cA, ln w a, .inr (.inr (.inr (.inr f)))) ∧ tys[t0]? = some (cA, .object RX3) ∧ ∀ i, f i = (gr w a i).map α ∧ ∀ b, gr w a i = some b → b < nx w) ∨
  (∃ (ci : Nat) (r : vw_C) (fs : List Value), kd w a = 10 + ci ∧ e = .inr (ci, fs) ∧ vwCl[ci]? = some r ∧ fs.length = r.2.2 ∧ ∀ k, k < r.2.2 → FR α w a ci k (fs[k]?))
def WC (α : Nat → Nat) (D : va_G) (B : Nat) (w : MW) (U : State) (H : Heap) (ws : va_W) (tys : List (ClassId × FieldType)) : Prop :=
  va_K D vwCl tys U ∧ va_P D vwCl ws H ∧ va_D (aB B) ws ∧ 1 ≤ nx w ∧ ws.length + 1 = nx w ∧ (∀ a, 1 ≤ a → a < nx w → ∃ e, ws[a - 1]? = some (α a, e) ∧ CR α tys w a e) ∧ ∀ a, a = 0 ∨ nx w ≤ a → kd w a = 0
def WH (α : Nat → Nat) (D : va_G) (B : Nat) (w : MW) (U : State) (H : Heap) : Prop := ∃ (ws : va_W) (tys : List (ClassId × FieldType)), WC α D B w U H ws tys
theorem VR.mono {α β : Nat → Nat} {n n' : Nat} {v : MV} {x : Value} (h : VR α n v x) (hn : n ≤ n') (hb : ∀ a, a < n → β a = α a) : VR β n' v x := by
  cases v with
  | inl z => cases x <;> first | exact h | exact h.elim
  | inr a => cases x <;> first | exact ⟨by rw [hb a h.2]; exact h.1, Nat.lt_of_lt_of_le h.2 hn⟩ | exact h.elim
theorem SR.mono {α β : Nat → Nat} {n n' : Nat} (hn : n ≤ n') (hb : ∀ a, a < n → β a = α a) : ∀ {st : List MV} {q : List Value}, SR α n st q → SR β n' st q
  | [], [], _ => trivial
  | _ :: _, _ :: _, h => ⟨VR.mono h.1 hn hb, SR.mono hn hb h.2⟩
theorem LR.mono {α β : Nat → Nat} {n n' : Nat} (hn : n ≤ n') (hb : ∀ a, a < n → β a = α a) {L : List (Option MV)} {ls : Array Slot} (h : LR α n L ls) : LR β n' L ls := by
  obtain ⟨lv, h1, h2, h3⟩ := h
  exact ⟨lv, h1, h2, fun i v hv => (h3 i v hv).imp fun x hx => ⟨hx.1, hx.2.mono hn hb⟩⟩
theorem LR.getI {α : Nat → Nat} {n : Nat} {L : List (Option MV)} {ls : Array Slot} (h : LR α n L ls) {i : Nat} {z : Int} (hi : L[i]? = some (some (.inl z))) : ∃ y : Int32, ls[i]? = some (.val (.int y)) ∧ y.toInt = z := by
  obtain ⟨lv, h1, h2, h3⟩ := h
  obtain ⟨x, hx, hv⟩ := h3 i _ hi
  cases x <;> first | exact ⟨_, h1.2.2 _ hx, hv⟩ | exact hv.elim
theorem LR.getR {α : Nat → Nat} {n : Nat} {L : List (Option MV)} {ls : Array Slot} (h : LR α n L ls) {i a : Nat} (hi : L[i]? = some (some (.inr a))) : ls[i]? = some (.val (.ref (α a))) ∧ a < n := by
  obtain ⟨lv, h1, h2, h3⟩ := h
  obtain ⟨x, hx, hv⟩ := h3 i _ hi
  cases x <;> first | exact ⟨by rw [h1.2.2 _ hx]; rw [hv.1], hv.2⟩ | exact hv.elim
theorem LR.len {α : Nat → Nat} {n : Nat} {L : List (Option MV)} {ls : Array Slot} (h : LR α n L ls) : ls.size = L.length := by
  obtain ⟨lv, h1, -⟩ := h
  exact h1.1
theorem LR.set {α : Nat → Nat} {n : Nat} {L : List (Option MV)} {ls : Array Slot} {lv : List (Nat × Value)} {i : Nat} {v : MV} {x : Value} (hc : ∀ q ∈ lv, q.2.category = 1) (hL : ∀ (i : Nat) (v : MV), L[i]? = some (some v) → ∃ x, (i, x) ∈ lv ∧ VR α n v x) (hv : VR α n v x) (hx : x.category = 1)
    (h : lv_has ls L.length ((i, x) :: lv.filter (fun q => !(q.1 == i) && !(q.1 + 1 == i && q.2.category == 2)))) : LR α n (L.set i (some v)) ls := by
  refine ⟨_, by rw [List.length_set]; exact h, fun q hq => ?_, fun j u hu => ?_⟩
  · rcases List.mem_cons.mp hq with e | hq
    · rw [e]; exact hx
    · exact hc q (List.mem_filter.mp hq).1
  · by_cases hj : i = j
    · subst hj
      rw [List.getElem?_set_self'] at hu
      cases hL2 : L[i]? with
      | none => rw [hL2] at hu; cases hu
      | some y =>
        rw [hL2] at hu
        cases hu
        exact ⟨x, List.mem_cons_self, hv⟩
    · rw [List.getElem?_set_ne hj] at hu
      obtain ⟨y, hy, hw⟩ := hL j u hu
      refine ⟨y, List.mem_cons_of_mem _ (List.mem_filter.mpr ⟨hy, ?_⟩), hw⟩
      have h1 := hc _ hy
      dsimp only at h1 ⊢
      rw [h1]
      simp [Ne.symm hj]
theorem LR.kill1 {α : Nat → Nat} {n : Nat} {L : List (Option MV)} {ls : Array Slot} (i : Nat) (h : LR α n L ls) : LR α n (L.set i none) ls := by
  obtain ⟨lv, h1, h2, h3⟩ := h
  refine ⟨lv, by rw [List.length_set]; exact h1, h2, fun j u hu => ?_⟩
  by_cases hj : i = j
  · subst hj
    rw [List.getElem?_set_self'] at hu
    cases hL2 : L[i]? with
    | none => rw [hL2] at hu; cases hu
    | some y => rw [hL2] at hu; cases hu
  · rw [List.getElem?_set_ne hj] at hu
    exact h3 j u hu
theorem LR.kill {α : Nat → Nat} {n : Nat} {ls : Array Slot} : ∀ (ds : List Nat) {L : List (Option MV)}, LR α n L ls → LR α n (kill ds L) ls
  | [], _, h => h
  | i :: ds, _, h => LR.kill ds (h.kill1 i)
theorem bm_id {z : Int} (h1 : -2147483648 ≤ z) (h2 : z < 2147483648) : z.bmod 4294967296 = z := by
  rw [Int.bmod_def]
  split <;> omega
theorem i32_of {z : Int} (h1 : -2147483648 ≤ z) (h2 : z < 2147483648) : (Int32.ofInt z).toInt = z := by
  rw [Int32.toInt_ofInt]
  exact bm_id h1 h2
theorem i32_rng (x : Int32) : -2147483648 ≤ x.toInt ∧ x.toInt < 2147483648 := ⟨Int32.le_toInt x, Int32.toInt_lt x⟩
theorem i32_opI (f : Int32 → Int32 → Int32) (x y : Int32) : (f x y).toInt = opI f x.toInt y.toInt := by
  unfold opI
  rw [Int32.ofInt_toInt, Int32.ofInt_toInt]
theorem i32_wa (x y : Int32) : (x + y).toInt = wrap (x.toInt + y.toInt) := by rw [Int32.toInt_add]; rfl
theorem i32_ws (x y : Int32) : (x - y).toInt = wrap (x.toInt - y.toInt) := by rw [Int32.toInt_sub]; rfl
theorem i32_wm (x y : Int32) : (x * y).toInt = wrap (x.toInt * y.toInt) := by rw [Int32.toInt_mul]; rfl
end
section
/-! context of a frame, the goal from a small state, worlds written and grown -/
def nests : List Cond := [.methodLinkNest RX6 39 yX1_init RX6, .methodLinkNest RX3 61 yX6_bit RX6, .methodLinkNest RX2 39 yX6_bit RX6]
def gtbl : List Cond := lw_tbl.filter goodWord
def NW (U : State) : Prop := (va_Nw (.methodLinkNest RX6 39 yX1_init RX6) U ∧ va_Nw (.methodLinkNest RX3 61 yX6_bit RX6) U ∧ va_Nw (.methodLinkNest RX2 39 yX6_bit RX6) U) ∧ va_AO RX3 U
theorem NW.warm {s U : State} (hW : s.WarmedH U.vm) (h : NW s) : NW U := ⟨⟨va_Nw.warmM hW h.1.1, va_Nw.warmM hW h.1.2.1, va_Nw.warmM hW h.1.2.2⟩, va_AO.moved hW.alike h.2⟩
theorem NW.same {u U : State} (hv : u.vm = U.vm) (h : NW u) : NW U := ⟨⟨va_Nw.same rfl hv h.1.1, va_Nw.same rfl hv h.1.2.1, va_Nw.same rfl hv h.1.2.2⟩, va_AO.moved (by rw [hv]; exact Vm.Alike.refl _) h.2⟩
theorem NW.at {U : State} (h : NW U) : ∀ (j : Nat) (w : Cond), nests[j]? = some w → va_Nw w U := by
  intro j w hj
  match j, hj with
  | 0, hj => cases hj; exact h.1.1
  | 1, hj => cases hj; exact h.1.2.1
  | 2, hj => cases hj; exact h.1.2.2
  | j + 3, hj => simp [nests] at hj
def Cx (p : Program) (Rm : Room) (s : State) (m : MethodId) (args : Array Value) (meth : Method) (c : Code) (B k d : Nat) : Prop :=
  p.tables.exec = Jvm.exec ∧ c.code = mB k ∧ c.maxLocals = mL k ∧ s.vm.findClass (mOwn k) = some m.cls ∧ (∀ w ∈ gtbl, w.before args s = true) ∧ NW s ∧ (d + 1 ≤ Rm.frames ∧ 64 * (d + 1) ≤ Rm.locals) ∧ ((mY k).name = "<init>" → meth.name = "<init>") ∧ B ≤ s.heap.size
def Gw (p : Program) (l : Launch) (e : Env) (Rm : Room) (s : State) (m : MethodId) (args : Array Value) (below : List Frame) (meth : Method) (c : Code) (Q : State → Prop) (D : va_G) (B n0 : Nat) (α0 : Nat → Nat) (cells slots pc : Nat) (L : List (Option MV)) (st : List MV) (w : MW) : Prop :=
  ∀ (α : Nat → Nat) (ls : Array Slot) (stk : List Value) (H : Heap) (locs : List Loc), (∀ a, a < n0 → α a = α0 a) → LR α (nx w) L ls → SR α (nx w) st stk → WH α D B w s H → va_S (aB B) s.heap H locs → W p l e Rm s m args below meth c H locs cells slots Q (F0 m pc ls stk)
theorem SR.cI {α : Nat → Nat} {n : Nat} {z : Int} {st : List MV} {stk : List Value} (h : SR α n (.inl z :: st) stk) : ∃ (y : Int32) (q : List Value), stk = .int y :: q ∧ y.toInt = z ∧ SR α n st q := by
  cases stk with
  | nil => exact h.elim
  | cons x q =>
    obtain ⟨h1, h2⟩ := h
    cases x <;> first | exact ⟨_, q, rfl, h1, h2⟩ | exact h1.elim
theorem SR.cR {α : Nat → Nat} {n a : Nat} {st : List MV} {stk : List Value} (h : SR α n (.inr a :: st) stk) : ∃ (q : List Value), stk = .ref (α a) :: q ∧ a < n ∧ SR α n st q := by
  cases stk with
  | nil => exact h.elim
  | cons x q =>
    obtain ⟨h1, h2⟩ := h
    cases x <;> first | (obtain ⟨e, h1⟩ := h1; subst e; exact ⟨q, rfl, h1, h2⟩) | exact h1.elim
theorem SR.c1 {α : Nat → Nat} {n : Nat} {v : MV} {st : List MV} {stk : List Value} (h : SR α n (v :: st) stk) : ∃ (x : Value) (q : List Value), stk = x :: q ∧ VR α n v x ∧ x.category = 1 ∧ SR α n st q := by
  cases stk with
  | nil => exact h.elim
  | cons x q =>
    obtain ⟨h1, h2⟩ := h
    refine ⟨x, q, rfl, h1, ?_, h2⟩
    cases v <;> cases x <;> first | rfl | exact h1.elim
theorem SR.nil {α : Nat → Nat} {n : Nat} {stk : List Value} (h : SR α n [] stk) : stk = [] := by
  cases stk with
  | nil => rfl
  | cons x q => exact h.elim
theorem SR.cat {α : Nat → Nat} {n : Nat} : ∀ {st : List MV} {stk : List Value}, SR α n st stk → (stk.map fun v => v.category).sum = st.length
  | [], stk, h => by rw [h.nil]; rfl
  | v :: st, stk, h => by
    obtain ⟨x, q, rfl, -, h1, h2⟩ := h.c1
    rw [List.map_cons, List.sum_cons, h1, SR.cat h2, List.length_cons]
    omega
theorem SR.len {α : Nat → Nat} {n : Nat} : ∀ {st : List MV} {stk : List Value}, SR α n st stk → stk.length = st.length
  | [], stk, h => by rw [h.nil]; rfl
  | v :: st, stk, h => by
    obtain ⟨x, q, rfl, -, -, h2⟩ := h.c1
    rw [List.length_cons, SR.len h2, List.length_cons]
theorem SR.app {α : Nat → Nat} {n : Nat} : ∀ {a b : List MV} {stk : List Value}, SR α n (a ++ b) stk → ∃ q r, stk = q ++ r ∧ SR α n a q ∧ SR α n b r
  | [], b, stk, h => ⟨[], stk, rfl, trivial, h⟩
  | v :: a, b, stk, h => by
    obtain ⟨x, q, rfl, h1, -, h2⟩ := SR.c1 (st := a ++ b) h
    obtain ⟨q1, r, rfl, h3, h4⟩ := SR.app h2
    exact ⟨x :: q1, r, rfl, ⟨h1, h3⟩, h4⟩
theorem SR.join {α : Nat → Nat} {n : Nat} : ∀ {a b : List MV} {q r : List Value}, SR α n a q → SR α n b r → SR α n (a ++ b) (q ++ r)
  | [], _, q, _, h, h2 => by rw [h.nil]; exact h2
  | v :: a, b, q, r, h, h2 => by
    obtain ⟨x, q, rfl, h1, -, h3⟩ := SR.c1 h
    exact ⟨h1, SR.join h3 h2⟩
theorem SR.rev {α : Nat → Nat} {n : Nat} : ∀ {a : List MV} {q : List Value}, SR α n a q → SR α n a.reverse q.reverse
  | [], q, h => by rw [h.nil]; trivial
  | v :: a, q, h => by
    obtain ⟨x, q, rfl, h1, -, h3⟩ := SR.c1 h
    rw [List.reverse_cons, List.reverse_cons]
    exact SR.join (SR.rev h3) ⟨h1, trivial⟩
theorem WH.moved {α : Nat → Nat} {D : va_G} {B : Nat} {w : MW} {u U : State} {H : Heap} (hvm : u.vm.Alike U.vm) (h : WH α D B w u H) : WH α D B w U H := by
  obtain ⟨ws, tys, h1, h2⟩ := h
  exact ⟨ws, tys, va_K.moved hvm h1, h2⟩
section WCs
variable {α : Nat → Nat} {D : va_G} {B : Nat} {w w' : MW} {U : State} {H H1 : Heap} {ws : va_W} {tys : List (ClassId × FieldType)} {a : Nat}
theorem WC.rng (h : WC α D B w U H ws tys) (hk : kd w a ≠ 0) : 1 ≤ a ∧ a < nx w := by
  obtain ⟨-, -, -, -, -, -, h7⟩ := h
  rcases Nat.eq_zero_or_pos a with e | e
  · exact absurd (h7 a (Or.inl e)) hk
  · rcases Nat.lt_or_ge a (nx w) with g | g
    · exact ⟨e, g⟩
    · exact absurd (h7 a (Or.inr g)) hk
theorem WC.ia (h : WC α D B w U H ws tys) (hk : kd w a = 1) : ∃ (cA : ClassId) (f : Nat → Int32) (t0 : Nat), ws[a - 1]? = some (α a, .inl (cA, ln w a, .inl f)) ∧ tys[t0]? = some (cA, .int) ∧ ∀ i, (f i).toInt = gi w a i := by
  have hr := h.rng (by rw [hk]; decide)
  obtain ⟨-, -, -, -, -, h6, -⟩ := h
  obtain ⟨e, he, hc⟩ := h6 a hr.1 hr.2
  rcases hc with ⟨-, cA, f, t0, rfl, h1, h2⟩ | ⟨h0, -⟩ | ⟨h0, -⟩ | ⟨ci, r, fs, h0, -⟩
  · exact ⟨cA, f, t0, he, h1, h2⟩
  · omega
  · omega
  · omega
theorem WC.ca (h : WC α D B w U H ws tys) (hk : kd w a = 2) : ∃ (cA : ClassId) (f : Nat → Int32) (t0 : Nat), ws[a - 1]? = some (α a, .inl (cA, ln w a, .inl f)) ∧ tys[t0]? = some (cA, .char) ∧ ∀ i, (f i).toInt = gi w a i := by
  have hr := h.rng (by rw [hk]; decide)
  obtain ⟨-, -, -, -, -, h6, -⟩ := h
  obtain ⟨e, he, hc⟩ := h6 a hr.1 hr.2
  rcases hc with ⟨h0, -⟩ | ⟨-, cA, f, t0, rfl, h1, h2⟩ | ⟨h0, -⟩ | ⟨ci, r, fs, h0, -⟩
  · omega
  · exact ⟨cA, f, t0, he, h1, h2⟩
  · omega
  · omega
theorem WC.qa (h : WC α D B w U H ws tys) (hk : kd w a = 3) : ∃ (cA : ClassId) (f : Nat → Option Nat) (t0 : Nat), ws[a - 1]? = some (α a, .inl (cA, ln w a, .inr (.inr (.inr (.inr f))))) ∧ tys[t0]? = some (cA, .object RX3) ∧ ∀ i, f i = (gr w a i).map α ∧ ∀ b, gr w a i = some b → b < nx w := by
  have hr := h.rng (by rw [hk]; decide)
  obtain ⟨-, -, -, -, -, h6, -⟩ := h
  obtain ⟨e, he, hc⟩ := h6 a hr.1 hr.2
  rcases hc with ⟨h0, -⟩ | ⟨h0, -⟩ | ⟨-, cA, f, t0, rfl, h1, h2⟩ | ⟨ci, r, fs, h0, -⟩
  · omega
  · omega
  · exact ⟨cA, f, t0, he, h1, h2⟩
  · omega
theorem WC.ob {ci : Nat} (h : WC α D B w U H ws tys) (hk : kd w a = 10 + ci) : ∃ (r : vw_C) (fs : List Value), ws[a - 1]? = some (α a, .inr (ci, fs)) ∧ vwCl[ci]? = some r ∧ fs.length = r.2.2 ∧ ∀ k, k < r.2.2 → FR α w a ci k (fs[k]?) := by
  have hr := h.rng (by rw [hk]; omega)
  obtain ⟨-, -, -, -, -, h6, -⟩ := h
  obtain ⟨e, he, hc⟩ := h6 a hr.1 hr.2
  rcases hc with ⟨h0, -⟩ | ⟨h0, -⟩ | ⟨h0, -⟩ | ⟨ci', r, fs, h0, rfl, h1, h2, h3⟩
  · omega
  · omega
  · omega
  · have : ci' = ci := by omega
    subst this
    exact ⟨r, fs, he, h1, h2, h3⟩
theorem CR.cong {β : Nat → Nat} {tys' : List (ClassId × FieldType)} {e : va_E} (h : CR α tys w a e) (hn : nx w ≤ nx w') (hb : ∀ b, b < nx w → β b = α b) (ht : ∀ (t : Nat) (q : ClassId × FieldType), tys[t]? = some q → tys'[t]? = some q) (hk : kd w' a = kd w a) (hl : ln w' a = ln w a) (hi : ∀ j, gi w' a j = gi w a j) (hg : ∀ j, gr w' a j = gr w a j) : CR β tys' w' a e := by
  have hm : ∀ j, (∀ b, gr w a j = some b → b < nx w) → (gr w' a j).map β = (gr w a j).map α := by
    intro j hj
    rw [hg]
    cases hx : gr w a j with
    | none => rfl
    | some b => simp only [Option.map_some]; rw [hb b (hj b hx)]
  rcases h with ⟨h0, cA, f, t0, rfl, h1, h2⟩ | ⟨h0, cA, f, t0, rfl, h1, h2⟩ | ⟨h0, cA, f, t0, rfl, h1, h2⟩ | ⟨ci, r, fs, h0, rfl, h1, h2, h3⟩
  · exact Or.inl ⟨by rw [hk]; exact h0, cA, f, t0, by rw [hl], ht _ _ h1, fun i => by rw [h2, hi]⟩
  · exact Or.inr (Or.inl ⟨by rw [hk]; exact h0, cA, f, t0, by rw [hl], ht _ _ h1, fun i => by rw [h2, hi]⟩)
  · exact Or.inr (Or.inr (Or.inl ⟨by rw [hk]; exact h0, cA, f, t0, by rw [hl], ht _ _ h1, fun i => ⟨by rw [(h2 i).1, hm i (h2 i).2], fun b hb' => Nat.lt_of_lt_of_le ((h2 i).2 b (by rw [← hg]; exact hb')) hn⟩⟩))
  · refine Or.inr (Or.inr (Or.inr ⟨ci, r, fs, by rw [hk]; exact h0, rfl, h1, h2, fun k hk' => ?_⟩))
    have h4 := h3 k hk'
    unfold FR at h4 ⊢
    split
    · rename_i hs
      rw [if_pos hs] at h4
      exact ⟨by rw [h4.1, hm k h4.2], fun b hb' => Nat.lt_of_lt_of_le (h4.2 b (by rw [← hg]; exact hb')) hn⟩
    · rename_i hs
      rw [if_neg hs] at h4
      rw [hi]
      exact h4
theorem WC.upd {e' : va_E} (h : WC α D B w U H ws tys) (hn : nx w' = nx w) (hk : ∀ b, kd w' b = kd w b) (hl : ∀ b, ln w' b = ln w b) (ha : 1 ≤ a ∧ a < nx w) (hP : va_P D vwCl (ws.set (a - 1) (α a, e')) H1) (hD : va_D (aB B) (ws.set (a - 1) (α a, e'))) (ho : ∀ b, b ≠ a → (∀ j, gi w' b j = gi w b j) ∧ ∀ j, gr w' b j = gr w b j) (hc : CR α tys w' a e') : WC α D B w' U H1 (ws.set (a - 1) (α a, e')) tys := by
  obtain ⟨h1, -, -, h4, h5, h6, h7⟩ := h
  refine ⟨h1, hP, hD, by rw [hn]; exact h4, by rw [List.length_set, hn]; exact h5, fun b hb1 hb2 => ?_, fun b hb => by rw [hk]; exact h7 b (by rw [← hn]; exact hb)⟩
  rw [hn] at hb2
  by_cases hba : b = a
  · subst hba
    exact ⟨e', by rw [List.getElem?_set_self (by omega)], hc⟩
  · obtain ⟨e, he, hcr⟩ := h6 b hb1 hb2
    exact ⟨e, by rw [List.getElem?_set_ne (by omega)]; exact he, hcr.cong (by omega) (fun _ _ => rfl) (fun _ _ h => h) (hk b) (hl b) (ho b hba).1 (ho b hba).2⟩
theorem WC.push {kind len sz q : Nat} {e' : va_E} {ty : List (ClassId × FieldType)} {β : Nat → Nat} (h : WC α D B w U H ws tys) (hβ : β = fun b => if b = nx w then q else α b) (hK : va_K D vwCl (tys ++ ty) U) (hP : va_P D vwCl (ws ++ [(q, e')]) H1) (hD : va_D (aB B) (ws ++ [(q, e')])) (hc : CR β (tys ++ ty) (al w kind len sz) (nx w) e') : WC β D B (al w kind len sz) U H1 (ws ++ [(q, e')]) (tys ++ ty) := by
  obtain ⟨-, -, -, h4, h5, h6, h7⟩ := h
  have hnx : nx (al w kind len sz) = nx w + 1 := rfl
  refine ⟨hK, hP, hD, by rw [hnx]; omega, by rw [List.length_append, hnx]; simp only [List.length_singleton]; omega, fun b hb1 hb2 => ?_, fun b hb => ?_⟩
  · rw [hnx] at hb2
    by_cases hb : b = nx w
    · subst hb
      refine ⟨e', ?_, hc⟩
      rw [List.getElem?_append_right (by omega), hβ]
      rw [show nx w - 1 - ws.length = 0 by omega]
      simp
    · obtain ⟨e, he, hcr⟩ := h6 b hb1 (by omega)
      refine ⟨e, ?_, hcr.cong (by rw [hnx]; omega) (fun c hc => ?_) (fun t q ht => ?_) ?_ ?_ ?_ ?_⟩
      · rw [List.getElem?_append_left (by omega), he, hβ]
        simp [hb]
      · rw [hβ]; simp only; rw [if_neg (by omega)]
      · rw [List.getElem?_append_left ((List.getElem?_eq_some_iff.mp ht).1)]
        exact ht
      · simp [kd, al, u1, hb]
      · simp [ln, al, u1, hb]
      · intro j; simp [gi, al, z2, hb]
      · intro j; simp [gr, al, z2, hb]
  · rw [hnx] at hb
    have hb2 : b ≠ nx w := by omega
    have := h7 b (by omega)
    simpa [kd, al, u1, hb2] using this
end WCs
theorem kd_si (w : MW) (a j b : Nat) (v : Int) : kd (si w a j v) b = kd w b := rfl
theorem kd_sr (w : MW) (a j b : Nat) (v : Option Nat) : kd (sr w a j v) b = kd w b := rfl
theorem gi_si (w : MW) (a j b i : Nat) (v : Int) : gi (si w a j v) b i = if b = a ∧ i = j then v else gi w b i := rfl
theorem gr_sr (w : MW) (a j b i : Nat) (v : Option Nat) : gr (sr w a j v) b i = if b = a ∧ i = j then v else gr w b i := rfl
theorem va_S.size {A : Nat → Prop} {H0 H : Heap} {locs : List Loc} (h : va_S A H0 H locs) : H0.size ≤ H.size := h.1
end
section
/-! one row an instruction, from the small machine to the machine -/
theorem pk_charV (x : Int32) (h0 : 0 ≤ x.toInt) (h1 : x.toInt < 65536) : (x.toUInt32.toUInt16.toUInt32.toInt32).toInt = x.toInt := by
  obtain ⟨j, hj, rfl⟩ : ∃ j : Nat, j < 65536 ∧ x = nI j := by
    refine ⟨x.toInt.toNat, by omega, ?_⟩
    rw [← Int32.toInt_inj, nI_toInt (by omega)]
    omega
  have h := (pk_charN hj).1
  have h2 : vp_nar .char (nI j) = nI j := by unfold vp_nar; rw [h]
  rw [vp_nar_char] at h2
  rw [h2]
section G3
variable {p : Program} {l : Launch} {e : Env} {Rm : Room} {s : State} {m : MethodId} {args : Array Value} {below : List Frame} {meth : Method} {c : Code} {Q : State → Prop} {D : va_G} {B n0 : Nat} {α0 : Nat → Nat} {cells slots pc k d : Nat} {L : List (Option MV)} {st : List MV} {w : MW}
theorem g_iconst (C : Cx p Rm s m args meth c B k d) {z : Int} (h : decode (mB k) pc = .ok (.iconst z, 1)) (hz : -1 ≤ z ∧ z ≤ 5) (g : Gw p l e Rm s m args below meth c Q D B n0 α0 cells slots (pc + 1) L (.inl z :: st) w) : Gw p l e Rm s m args below meth c Q D B n0 α0 cells slots pc L st w := by
  intro α ls stk H locs ha hl hs hw hS
  exact lv_iconst C.1 C.2.1 h rfl (g α ls _ H locs ha hl ⟨i32_of (by omega) (by omega), hs⟩ hw hS)
theorem g_bipush (C : Cx p Rm s m args meth c B k d) {z : Int} (h : decode (mB k) pc = .ok (.bipush z, 2)) (hz : -128 ≤ z ∧ z ≤ 127) (g : Gw p l e Rm s m args below meth c Q D B n0 α0 cells slots (pc + 2) L (.inl z :: st) w) : Gw p l e Rm s m args below meth c Q D B n0 α0 cells slots pc L st w := by
  intro α ls stk H locs ha hl hs hw hS
  refine lv_bipush C.1 C.2.1 h rfl (g α ls _ H locs ha hl ⟨?_, hs⟩ hw hS)
  show ((Int8.ofInt z).toInt32).toInt = z
  rw [Int8.toInt_toInt32, Int8.toInt_ofInt, show (Int8.size : Nat) = 256 from rfl, Int.bmod_def]
  split <;> omega
theorem g_ldc (C : Cx p Rm s m args meth c B k d) {j v : Nat} (h : decode (mB k) pc = .ok (.ldc j, 2)) (hw0 : Cond.constant (mOwn k) j (Int32.ofNat v) ∈ gtbl) (hz : v ≤ 2147483647) (g : Gw p l e Rm s m args below meth c Q D B n0 α0 cells slots (pc + 2) L (.inl (v : Int) :: st) w) : Gw p l e Rm s m args below meth c Q D B n0 α0 cells slots pc L st w := by
  intro α ls stk H locs ha hl hs hw hS
  exact lv_ldc C.1 C.2.1 C.2.2.2.1 (C.2.2.2.2.1 _ hw0) h (g α ls _ H locs ha hl ⟨nI_toInt (by omega), hs⟩ hw hS)
theorem g_sipush (C : Cx p Rm s m args meth c B k d) {z : Int} (h : decode (mB k) pc = .ok (.sipush z, 3)) (hz : -32768 ≤ z ∧ z ≤ 32767) (g : Gw p l e Rm s m args below meth c Q D B n0 α0 cells slots (pc + 3) L (.inl z :: st) w) : Gw p l e Rm s m args below meth c Q D B n0 α0 cells slots pc L st w := by
  intro α ls stk H locs ha hl hs hw hS
  refine lv_sipush C.1 C.2.1 h rfl (g α ls _ H locs ha hl ⟨?_, hs⟩ hw hS)
  show ((Int16.ofInt z).toInt32).toInt = z
  rw [Int16.toInt_toInt32, Int16.toInt_ofInt, show (Int16.size : Nat) = 65536 from rfl, Int.bmod_def]
  split <;> omega
theorem g_iload_n (C : Cx p Rm s m args meth c B k d) {j : Fin 4} {z : Int} (h : decode (mB k) pc = .ok (.iload_n j, 1)) (hj : L[(j : Nat)]? = some (some (.inl z))) (g : Gw p l e Rm s m args below meth c Q D B n0 α0 cells slots (pc + 1) L (.inl z :: st) w) : Gw p l e Rm s m args below meth c Q D B n0 α0 cells slots pc L st w := by
  intro α ls stk H locs ha hl hs hw hS
  obtain ⟨x, hx, hv⟩ := hl.getI hj
  exact lv_iload_n C.1 C.2.1 h rfl hx (g α ls _ H locs ha hl ⟨hv, hs⟩ hw hS)
theorem g_iload (C : Cx p Rm s m args meth c B k d) {j : Nat} {z : Int} (h : decode (mB k) pc = .ok (.iload j, 2)) (hj : L[(j : Nat)]? = some (some (.inl z))) (g : Gw p l e Rm s m args below meth c Q D B n0 α0 cells slots (pc + 2) L (.inl z :: st) w) : Gw p l e Rm s m args below meth c Q D B n0 α0 cells slots pc L st w := by
  intro α ls stk H locs ha hl hs hw hS
  obtain ⟨x, hx, hv⟩ := hl.getI hj
  exact lv_iload C.1 C.2.1 h hx (g α ls _ H locs ha hl ⟨hv, hs⟩ hw hS)
theorem g_aload_n (C : Cx p Rm s m args meth c B k d) {j : Fin 4} {z : Nat} (h : decode (mB k) pc = .ok (.aload_n j, 1)) (hj : L[(j : Nat)]? = some (some (.inr z))) (g : Gw p l e Rm s m args below meth c Q D B n0 α0 cells slots (pc + 1) L (.inr z :: st) w) : Gw p l e Rm s m args below meth c Q D B n0 α0 cells slots pc L st w := by
  intro α ls stk H locs ha hl hs hw hS
  obtain ⟨hx, hv⟩ := hl.getR hj
  exact lv_aload_n C.1 C.2.1 h rfl hx (g α ls _ H locs ha hl ⟨⟨rfl, hv⟩, hs⟩ hw hS)
theorem g_aload (C : Cx p Rm s m args meth c B k d) {j : Nat} {z : Nat} (h : decode (mB k) pc = .ok (.aload j, 2)) (hj : L[(j : Nat)]? = some (some (.inr z))) (g : Gw p l e Rm s m args below meth c Q D B n0 α0 cells slots (pc + 2) L (.inr z :: st) w) : Gw p l e Rm s m args below meth c Q D B n0 α0 cells slots pc L st w := by
  intro α ls stk H locs ha hl hs hw hS
  obtain ⟨hx, hv⟩ := hl.getR hj
  exact lv_aload C.1 C.2.1 h hx (g α ls _ H locs ha hl ⟨⟨rfl, hv⟩, hs⟩ hw hS)
theorem g_istore_n (C : Cx p Rm s m args meth c B k d) {j : Fin 4} {z : Int} (h : decode (mB k) pc = .ok (.istore_n j, 1)) (hj : (j : Nat) < L.length) (g : Gw p l e Rm s m args below meth c Q D B n0 α0 cells slots (pc + 1) (L.set (j : Nat) (some (.inl z))) st w) : Gw p l e Rm s m args below meth c Q D B n0 α0 cells slots pc L (.inl z :: st) w := by
  intro α ls stk H locs ha hl hs hw hS
  obtain ⟨x, _, rfl, hx, hs1⟩ := hs.cI
  obtain ⟨lv, h1, h2, h3⟩ := hl
  exact lv_istore_n C.1 C.2.1 h rfl h1 hj rfl (fun ls' h' => g α ls' _ H locs ha (LR.set (v := .inl z) (x := .int x) h2 h3 hx rfl h') hs1 hw hS)
theorem g_istore (C : Cx p Rm s m args meth c B k d) {j : Nat} {z : Int} (h : decode (mB k) pc = .ok (.istore j, 2)) (hj : (j : Nat) < L.length) (g : Gw p l e Rm s m args below meth c Q D B n0 α0 cells slots (pc + 2) (L.set (j : Nat) (some (.inl z))) st w) : Gw p l e Rm s m args below meth c Q D B n0 α0 cells slots pc L (.inl z :: st) w := by
  intro α ls stk H locs ha hl hs hw hS
  obtain ⟨x, _, rfl, hx, hs1⟩ := hs.cI
  obtain ⟨lv, h1, h2, h3⟩ := hl
  exact lv_istore C.1 C.2.1 h h1 hj rfl (fun ls' h' => g α ls' _ H locs ha (LR.set (v := .inl z) (x := .int x) h2 h3 hx rfl h') hs1 hw hS)
theorem g_astore_n (C : Cx p Rm s m args meth c B k d) {j : Fin 4} {z : Nat} (h : decode (mB k) pc = .ok (.astore_n j, 1)) (hj : (j : Nat) < L.length) (g : Gw p l e Rm s m args below meth c Q D B n0 α0 cells slots (pc + 1) (L.set (j : Nat) (some (.inr z))) st w) : Gw p l e Rm s m args below meth c Q D B n0 α0 cells slots pc L (.inr z :: st) w := by
  intro α ls stk H locs ha hl hs hw hS
  obtain ⟨_, rfl, hx, hs1⟩ := hs.cR
  obtain ⟨lv, h1, h2, h3⟩ := hl
  exact lv_astore_n C.1 C.2.1 h rfl h1 hj rfl (fun ls' h' => g α ls' _ H locs ha (LR.set (v := .inr z) (x := .ref (α z)) h2 h3 ⟨rfl, hx⟩ rfl h') hs1 hw hS)
theorem g_astore (C : Cx p Rm s m args meth c B k d) {j : Nat} {z : Nat} (h : decode (mB k) pc = .ok (.astore j, 2)) (hj : (j : Nat) < L.length) (g : Gw p l e Rm s m args below meth c Q D B n0 α0 cells slots (pc + 2) (L.set (j : Nat) (some (.inr z))) st w) : Gw p l e Rm s m args below meth c Q D B n0 α0 cells slots pc L (.inr z :: st) w := by
  intro α ls stk H locs ha hl hs hw hS
  obtain ⟨_, rfl, hx, hs1⟩ := hs.cR
  obtain ⟨lv, h1, h2, h3⟩ := hl
  exact lv_astore C.1 C.2.1 h h1 hj rfl (fun ls' h' => g α ls' _ H locs ha (LR.set (v := .inr z) (x := .ref (α z)) h2 h3 ⟨rfl, hx⟩ rfl h') hs1 hw hS)
theorem g_iadd (C : Cx p Rm s m args meth c B k d) {x y : Int} (h : decode (mB k) pc = .ok (.iadd, 1))  (g : Gw p l e Rm s m args below meth c Q D B n0 α0 cells slots (pc + 1) L (.inl (wrap (x + y)) :: st) w) : Gw p l e Rm s m args below meth c Q D B n0 α0 cells slots pc L (.inl y :: .inl x :: st) w := by
  intro α ls stk H locs ha hl hs hw hS
  obtain ⟨y1, _, rfl, rfl, hs1⟩ := hs.cI
  obtain ⟨x1, _, rfl, rfl, hs2⟩ := hs1.cI
  exact lv_iadd C.1 C.2.1 h (g α ls _ H locs ha hl ⟨i32_wa x1 y1, hs2⟩ hw hS)
theorem g_isub (C : Cx p Rm s m args meth c B k d) {x y : Int} (h : decode (mB k) pc = .ok (.isub, 1))  (g : Gw p l e Rm s m args below meth c Q D B n0 α0 cells slots (pc + 1) L (.inl (wrap (x - y)) :: st) w) : Gw p l e Rm s m args below meth c Q D B n0 α0 cells slots pc L (.inl y :: .inl x :: st) w := by
  intro α ls stk H locs ha hl hs hw hS
  obtain ⟨y1, _, rfl, rfl, hs1⟩ := hs.cI
  obtain ⟨x1, _, rfl, rfl, hs2⟩ := hs1.cI
  exact lv_isub C.1 C.2.1 h (g α ls _ H locs ha hl ⟨i32_ws x1 y1, hs2⟩ hw hS)
theorem g_imul (C : Cx p Rm s m args meth c B k d) {x y : Int} (h : decode (mB k) pc = .ok (.imul, 1))  (g : Gw p l e Rm s m args below meth c Q D B n0 α0 cells slots (pc + 1) L (.inl (wrap (x * y)) :: st) w) : Gw p l e Rm s m args below meth c Q D B n0 α0 cells slots pc L (.inl y :: .inl x :: st) w := by
  intro α ls stk H locs ha hl hs hw hS
  obtain ⟨y1, _, rfl, rfl, hs1⟩ := hs.cI
  obtain ⟨x1, _, rfl, rfl, hs2⟩ := hs1.cI
  exact lv_imul C.1 C.2.1 h (g α ls _ H locs ha hl ⟨i32_wm x1 y1, hs2⟩ hw hS)
theorem g_iand (C : Cx p Rm s m args meth c B k d) {x y : Int} (h : decode (mB k) pc = .ok (.iand, 1))  (g : Gw p l e Rm s m args below meth c Q D B n0 α0 cells slots (pc + 1) L (.inl (andI x y) :: st) w) : Gw p l e Rm s m args below meth c Q D B n0 α0 cells slots pc L (.inl y :: .inl x :: st) w := by
  intro α ls stk H locs ha hl hs hw hS
  obtain ⟨y1, _, rfl, rfl, hs1⟩ := hs.cI
  obtain ⟨x1, _, rfl, rfl, hs2⟩ := hs1.cI
  exact lv_iand C.1 C.2.1 h (g α ls _ H locs ha hl ⟨i32_opI _ x1 y1, hs2⟩ hw hS)
theorem g_ior (C : Cx p Rm s m args meth c B k d) {x y : Int} (h : decode (mB k) pc = .ok (.ior, 1))  (g : Gw p l e Rm s m args below meth c Q D B n0 α0 cells slots (pc + 1) L (.inl (orI x y) :: st) w) : Gw p l e Rm s m args below meth c Q D B n0 α0 cells slots pc L (.inl y :: .inl x :: st) w := by
  intro α ls stk H locs ha hl hs hw hS
  obtain ⟨y1, _, rfl, rfl, hs1⟩ := hs.cI
  obtain ⟨x1, _, rfl, rfl, hs2⟩ := hs1.cI
  exact lv_ior C.1 C.2.1 h (g α ls _ H locs ha hl ⟨i32_opI _ x1 y1, hs2⟩ hw hS)
theorem g_ixor (C : Cx p Rm s m args meth c B k d) {x y : Int} (h : decode (mB k) pc = .ok (.ixor, 1))  (g : Gw p l e Rm s m args below meth c Q D B n0 α0 cells slots (pc + 1) L (.inl (xorI x y) :: st) w) : Gw p l e Rm s m args below meth c Q D B n0 α0 cells slots pc L (.inl y :: .inl x :: st) w := by
  intro α ls stk H locs ha hl hs hw hS
  obtain ⟨y1, _, rfl, rfl, hs1⟩ := hs.cI
  obtain ⟨x1, _, rfl, rfl, hs2⟩ := hs1.cI
  exact lv_ixor C.1 C.2.1 h (g α ls _ H locs ha hl ⟨i32_opI _ x1 y1, hs2⟩ hw hS)
theorem g_ishl (C : Cx p Rm s m args meth c B k d) {x y : Int} (h : decode (mB k) pc = .ok (.ishl, 1))  (g : Gw p l e Rm s m args below meth c Q D B n0 α0 cells slots (pc + 1) L (.inl (shlI x y) :: st) w) : Gw p l e Rm s m args below meth c Q D B n0 α0 cells slots pc L (.inl y :: .inl x :: st) w := by
  intro α ls stk H locs ha hl hs hw hS
  obtain ⟨y1, _, rfl, rfl, hs1⟩ := hs.cI
  obtain ⟨x1, _, rfl, rfl, hs2⟩ := hs1.cI
  exact lv_ishl C.1 C.2.1 h (g α ls _ H locs ha hl ⟨i32_opI (fun x y => x <<< (y &&& 31)) x1 y1, hs2⟩ hw hS)
theorem g_ishr (C : Cx p Rm s m args meth c B k d) {x y : Int} (h : decode (mB k) pc = .ok (.ishr, 1))  (g : Gw p l e Rm s m args below meth c Q D B n0 α0 cells slots (pc + 1) L (.inl (shrI x y) :: st) w) : Gw p l e Rm s m args below meth c Q D B n0 α0 cells slots pc L (.inl y :: .inl x :: st) w := by
  intro α ls stk H locs ha hl hs hw hS
  obtain ⟨y1, _, rfl, rfl, hs1⟩ := hs.cI
  obtain ⟨x1, _, rfl, rfl, hs2⟩ := hs1.cI
  exact lv_ishr C.1 C.2.1 h (g α ls _ H locs ha hl ⟨i32_opI (fun x y => x >>> (y &&& 31)) x1 y1, hs2⟩ hw hS)
theorem g_iushr (C : Cx p Rm s m args meth c B k d) {x y : Int} (h : decode (mB k) pc = .ok (.iushr, 1))  (g : Gw p l e Rm s m args below meth c Q D B n0 α0 cells slots (pc + 1) L (.inl (ushrI x y) :: st) w) : Gw p l e Rm s m args below meth c Q D B n0 α0 cells slots pc L (.inl y :: .inl x :: st) w := by
  intro α ls stk H locs ha hl hs hw hS
  obtain ⟨y1, _, rfl, rfl, hs1⟩ := hs.cI
  obtain ⟨x1, _, rfl, rfl, hs2⟩ := hs1.cI
  exact lv_iushr C.1 C.2.1 h rfl (g α ls _ H locs ha hl ⟨i32_opI (fun x y => (x.toUInt32 >>> (y.toUInt32 &&& Int32.toUInt32 31)).toInt32) x1 y1, hs2⟩ hw hS)
theorem g_idiv (C : Cx p Rm s m args meth c B k d) {x y : Int} (h : decode (mB k) pc = .ok (.idiv, 1)) (hy : y ≠ 0) (g : Gw p l e Rm s m args below meth c Q D B n0 α0 cells slots (pc + 1) L (.inl (divI x y) :: st) w) : Gw p l e Rm s m args below meth c Q D B n0 α0 cells slots pc L (.inl y :: .inl x :: st) w := by
  intro α ls stk H locs ha hl hs hw hS
  obtain ⟨y1, _, rfl, rfl, hs1⟩ := hs.cI
  obtain ⟨x1, _, rfl, rfl, hs2⟩ := hs1.cI
  exact lv_idiv C.1 C.2.1 h (fun e => hy (by rw [e]; rfl)) (g α ls _ H locs ha hl ⟨i32_opI (fun x y => x / y) x1 y1, hs2⟩ hw hS)
theorem g_irem (C : Cx p Rm s m args meth c B k d) {x y : Int} (h : decode (mB k) pc = .ok (.irem, 1)) (hy : y ≠ 0) (g : Gw p l e Rm s m args below meth c Q D B n0 α0 cells slots (pc + 1) L (.inl (remI x y) :: st) w) : Gw p l e Rm s m args below meth c Q D B n0 α0 cells slots pc L (.inl y :: .inl x :: st) w := by
  intro α ls stk H locs ha hl hs hw hS
  obtain ⟨y1, _, rfl, rfl, hs1⟩ := hs.cI
  obtain ⟨x1, _, rfl, rfl, hs2⟩ := hs1.cI
  exact lv_irem C.1 C.2.1 h (fun e => hy (by rw [e]; rfl)) (g α ls _ H locs ha hl ⟨i32_opI (fun x y => x - x / y * y) x1 y1, hs2⟩ hw hS)
theorem g_i2c (C : Cx p Rm s m args meth c B k d) {x : Int} (h : decode (mB k) pc = .ok (.i2c, 1))  (g : Gw p l e Rm s m args below meth c Q D B n0 α0 cells slots (pc + 1) L (.inl (chrI x) :: st) w) : Gw p l e Rm s m args below meth c Q D B n0 α0 cells slots pc L (.inl x :: st) w := by
  intro α ls stk H locs ha hl hs hw hS
  obtain ⟨x1, _, rfl, rfl, hs1⟩ := hs.cI
  refine lv_i2c C.1 C.2.1 h rfl (g α ls _ H locs ha hl ⟨?_, hs1⟩ hw hS)
  show ((x1.toUInt32 % 65536).toInt32).toInt = chrI x1.toInt
  rw [pk_char x1, nI_toInt (by omega)]
  unfold chrI
  have e : (x1.toBitVec.toNat : Int) = x1.toInt % 4294967296 := by
    have := BitVec.toInt_eq_toNat_bmod x1.toBitVec
    have h1 : x1.toInt = x1.toBitVec.toInt := rfl
    have h2 := x1.toBitVec.isLt
    rw [h1, BitVec.toInt_eq_toNat_cond]
    split <;> omega
  omega
theorem g_dup (C : Cx p Rm s m args meth c B k d) {v : MV} (h : decode (mB k) pc = .ok (.dup, 1))  (g : Gw p l e Rm s m args below meth c Q D B n0 α0 cells slots (pc + 1) L (v :: v :: st) w) : Gw p l e Rm s m args below meth c Q D B n0 α0 cells slots pc L (v :: st) w := by
  intro α ls stk H locs ha hl hs hw hS
  obtain ⟨x, _, rfl, hv, hc, hs1⟩ := hs.c1
  exact lv_dup C.1 C.2.1 h hc (g α ls _ H locs ha hl ⟨hv, hv, hs1⟩ hw hS)
theorem g_dup2 (C : Cx p Rm s m args meth c B k d) {v v2 : MV} (h : decode (mB k) pc = .ok (.dup2, 1))  (g : Gw p l e Rm s m args below meth c Q D B n0 α0 cells slots (pc + 1) L (v :: v2 :: v :: v2 :: st) w) : Gw p l e Rm s m args below meth c Q D B n0 α0 cells slots pc L (v :: v2 :: st) w := by
  intro α ls stk H locs ha hl hs hw hS
  obtain ⟨x, _, rfl, hv, hc, hs1⟩ := hs.c1
  obtain ⟨x2, _, rfl, hv2, hc2, hs2⟩ := hs1.c1
  exact lv_dup2_11 C.1 C.2.1 h hc hc2 (g α ls _ H locs ha hl ⟨hv, hv2, hv, hv2, hs2⟩ hw hS)
theorem g_pop (C : Cx p Rm s m args meth c B k d) {v : MV} (h : decode (mB k) pc = .ok (.pop, 1))  (g : Gw p l e Rm s m args below meth c Q D B n0 α0 cells slots (pc + 1) L st w) : Gw p l e Rm s m args below meth c Q D B n0 α0 cells slots pc L (v :: st) w := by
  intro α ls stk H locs ha hl hs hw hS
  obtain ⟨x, _, rfl, hv, hc, hs1⟩ := hs.c1
  exact lv_pop C.1 C.2.1 h hc (g α ls _ H locs ha hl hs1 hw hS)
theorem g_iinc (C : Cx p Rm s m args meth c B k d) {j : Nat} {z x : Int} (h : decode (mB k) pc = .ok (.iinc j z, 3)) (hj : L[j]? = some (some (.inl x))) (hz : -32768 ≤ z ∧ z ≤ 32767) (g : Gw p l e Rm s m args below meth c Q D B n0 α0 cells slots (pc + 3) (L.set j (some (.inl (wrap (x + z))))) st w) : Gw p l e Rm s m args below meth c Q D B n0 α0 cells slots pc L st w := by
  intro α ls stk H locs ha hl hs hw hS
  obtain ⟨lv, h1, h2, h3⟩ := hl
  obtain ⟨x1, hx, hv⟩ := h3 j _ hj
  obtain ⟨x1, rfl, hv⟩ : ∃ y : Int32, x1 = .int y ∧ y.toInt = x := by
    cases x1 <;> first | exact ⟨_, rfl, hv⟩ | exact hv.elim
  obtain ⟨i, hi⟩ := List.getElem?_of_mem hx
  refine lv_iinc C.1 C.2.1 h h1 hi rfl (List.getElem?_eq_some_iff.mp hj).1 rfl (fun ls' h' => g α ls' stk H locs ha (LR.set (v := .inl (wrap (x + z))) (x := .int (x1 + Int32.ofInt z)) h2 h3 ?_ rfl h') hs hw hS)
  show (x1 + Int32.ofInt z).toInt = wrap (x + z)
  rw [i32_wa, hv, i32_of (by omega) (by omega)]
theorem gto_eq {pc : Nat} {off : Int} (h : 0 ≤ (pc : Int) + off) : (pc : Int) + off = (gto pc off : Int) := by
  unfold gto
  rw [Int.toNat_of_nonneg h]
theorem g_goto (C : Cx p Rm s m args meth c B k d) {off : Int} (h : decode (mB k) pc = .ok (.goto off, 3)) (ho : 0 ≤ (pc : Int) + off) (g : Gw p l e Rm s m args below meth c Q D B n0 α0 cells slots (gto pc off) L st w) : Gw p l e Rm s m args below meth c Q D B n0 α0 cells slots pc L st w := by
  intro α ls stk H locs ha hl hs hw hS
  exact lv_goto C.1 C.2.1 h (gto_eq ho) (g α ls stk H locs ha hl hs hw hS)
theorem ic_eq (x y : Int32) : x = y ↔ x.toInt = y.toInt := Int32.toInt_inj.symm
theorem ic_ne (x y : Int32) : x ≠ y ↔ x.toInt ≠ y.toInt := not_congr (ic_eq x y)
theorem ic_nn (x y : Int32) : ¬ x = y ↔ x.toInt ≠ y.toInt := not_congr (ic_eq x y)
theorem ic_lt (x y : Int32) : x < y ↔ x.toInt < y.toInt := Int32.lt_iff_toInt_lt
theorem ic_gt (x y : Int32) : y < x ↔ y.toInt < x.toInt := Int32.lt_iff_toInt_lt
theorem ic_ge (x y : Int32) : y ≤ x ↔ y.toInt ≤ x.toInt := Int32.le_iff_toInt_le
theorem ic_le (x y : Int32) : x ≤ y ↔ x.toInt ≤ y.toInt := Int32.le_iff_toInt_le
theorem g_icmp_eq (C : Cx p Rm s m args meth c B k d) {off : Int} {x y : Int} (h : decode (mB k) pc = .ok (.if_icmp .eq off, 3)) (ho : 0 ≤ (pc : Int) + off) (g : x = y → Gw p l e Rm s m args below meth c Q D B n0 α0 cells slots (gto pc off) L st w) (g2 : ¬ (x = y) → Gw p l e Rm s m args below meth c Q D B n0 α0 cells slots (pc + 3) L st w) : Gw p l e Rm s m args below meth c Q D B n0 α0 cells slots pc L (.inl y :: .inl x :: st) w := by
  intro α ls stk H locs ha hl hs hw hS
  obtain ⟨y1, _, rfl, rfl, hs1⟩ := hs.cI
  obtain ⟨x1, _, rfl, rfl, hs2⟩ := hs1.cI
  exact lv_icmp_eq C.1 C.2.1 h (gto_eq ho) (fun hc => g ((ic_eq x1 y1).mp hc) α ls _ H locs ha hl hs2 hw hS) (fun hc => g2 (fun hd => hc ((ic_eq x1 y1).mpr hd)) α ls _ H locs ha hl hs2 hw hS)
theorem g_if_eq (C : Cx p Rm s m args meth c B k d) {off : Int} {x : Int} (h : decode (mB k) pc = .ok (.ifCond .eq off, 3)) (ho : 0 ≤ (pc : Int) + off) (g : x = 0 → Gw p l e Rm s m args below meth c Q D B n0 α0 cells slots (gto pc off) L st w) (g2 : ¬ (x = 0) → Gw p l e Rm s m args below meth c Q D B n0 α0 cells slots (pc + 3) L st w) : Gw p l e Rm s m args below meth c Q D B n0 α0 cells slots pc L (.inl x :: st) w := by
  intro α ls stk H locs ha hl hs hw hS
  obtain ⟨x1, _, rfl, rfl, hs1⟩ := hs.cI
  exact lv_if_eq C.1 C.2.1 h (gto_eq ho) (fun hc => g ((ic_eq x1 0).mp hc) α ls _ H locs ha hl hs1 hw hS) (fun hc => g2 (fun hd => hc ((ic_eq x1 0).mpr hd)) α ls _ H locs ha hl hs1 hw hS)
theorem g_icmp_ne (C : Cx p Rm s m args meth c B k d) {off : Int} {x y : Int} (h : decode (mB k) pc = .ok (.if_icmp .ne off, 3)) (ho : 0 ≤ (pc : Int) + off) (g : x ≠ y → Gw p l e Rm s m args below meth c Q D B n0 α0 cells slots (gto pc off) L st w) (g2 : ¬ (x ≠ y) → Gw p l e Rm s m args below meth c Q D B n0 α0 cells slots (pc + 3) L st w) : Gw p l e Rm s m args below meth c Q D B n0 α0 cells slots pc L (.inl y :: .inl x :: st) w := by
  intro α ls stk H locs ha hl hs hw hS
  obtain ⟨y1, _, rfl, rfl, hs1⟩ := hs.cI
  obtain ⟨x1, _, rfl, rfl, hs2⟩ := hs1.cI
  exact lv_icmp_ne C.1 C.2.1 h (gto_eq ho) (fun hc => g ((ic_ne x1 y1).mp hc) α ls _ H locs ha hl hs2 hw hS) (fun hc => g2 (fun hd => hd ((ic_eq x1 y1).mp hc)) α ls _ H locs ha hl hs2 hw hS)
theorem g_if_ne (C : Cx p Rm s m args meth c B k d) {off : Int} {x : Int} (h : decode (mB k) pc = .ok (.ifCond .ne off, 3)) (ho : 0 ≤ (pc : Int) + off) (g : x ≠ 0 → Gw p l e Rm s m args below meth c Q D B n0 α0 cells slots (gto pc off) L st w) (g2 : ¬ (x ≠ 0) → Gw p l e Rm s m args below meth c Q D B n0 α0 cells slots (pc + 3) L st w) : Gw p l e Rm s m args below meth c Q D B n0 α0 cells slots pc L (.inl x :: st) w := by
  intro α ls stk H locs ha hl hs hw hS
  obtain ⟨x1, _, rfl, rfl, hs1⟩ := hs.cI
  exact lv_if_ne C.1 C.2.1 h (gto_eq ho) (fun hc => g ((ic_ne x1 0).mp hc) α ls _ H locs ha hl hs1 hw hS) (fun hc => g2 (fun hd => hd ((ic_eq x1 0).mp hc)) α ls _ H locs ha hl hs1 hw hS)
theorem g_icmp_lt (C : Cx p Rm s m args meth c B k d) {off : Int} {x y : Int} (h : decode (mB k) pc = .ok (.if_icmp .lt off, 3)) (ho : 0 ≤ (pc : Int) + off) (g : x < y → Gw p l e Rm s m args below meth c Q D B n0 α0 cells slots (gto pc off) L st w) (g2 : ¬ (x < y) → Gw p l e Rm s m args below meth c Q D B n0 α0 cells slots (pc + 3) L st w) : Gw p l e Rm s m args below meth c Q D B n0 α0 cells slots pc L (.inl y :: .inl x :: st) w := by
  intro α ls stk H locs ha hl hs hw hS
  obtain ⟨y1, _, rfl, rfl, hs1⟩ := hs.cI
  obtain ⟨x1, _, rfl, rfl, hs2⟩ := hs1.cI
  exact lv_icmp_lt C.1 C.2.1 h (gto_eq ho) (fun hc => g ((ic_lt x1 y1).mp hc) α ls _ H locs ha hl hs2 hw hS) (fun hc => g2 (fun hd => hc ((ic_lt x1 y1).mpr hd)) α ls _ H locs ha hl hs2 hw hS)
theorem g_if_lt (C : Cx p Rm s m args meth c B k d) {off : Int} {x : Int} (h : decode (mB k) pc = .ok (.ifCond .lt off, 3)) (ho : 0 ≤ (pc : Int) + off) (g : x < 0 → Gw p l e Rm s m args below meth c Q D B n0 α0 cells slots (gto pc off) L st w) (g2 : ¬ (x < 0) → Gw p l e Rm s m args below meth c Q D B n0 α0 cells slots (pc + 3) L st w) : Gw p l e Rm s m args below meth c Q D B n0 α0 cells slots pc L (.inl x :: st) w := by
  intro α ls stk H locs ha hl hs hw hS
  obtain ⟨x1, _, rfl, rfl, hs1⟩ := hs.cI
  exact lv_if_lt C.1 C.2.1 h (gto_eq ho) (fun hc => g ((ic_lt x1 0).mp hc) α ls _ H locs ha hl hs1 hw hS) (fun hc => g2 (fun hd => hc ((ic_lt x1 0).mpr hd)) α ls _ H locs ha hl hs1 hw hS)
theorem g_icmp_ge (C : Cx p Rm s m args meth c B k d) {off : Int} {x y : Int} (h : decode (mB k) pc = .ok (.if_icmp .ge off, 3)) (ho : 0 ≤ (pc : Int) + off) (g : y ≤ x → Gw p l e Rm s m args below meth c Q D B n0 α0 cells slots (gto pc off) L st w) (g2 : ¬ (y ≤ x) → Gw p l e Rm s m args below meth c Q D B n0 α0 cells slots (pc + 3) L st w) : Gw p l e Rm s m args below meth c Q D B n0 α0 cells slots pc L (.inl y :: .inl x :: st) w := by
  intro α ls stk H locs ha hl hs hw hS
  obtain ⟨y1, _, rfl, rfl, hs1⟩ := hs.cI
  obtain ⟨x1, _, rfl, rfl, hs2⟩ := hs1.cI
  exact lv_icmp_ge C.1 C.2.1 h (gto_eq ho) (fun hc => g ((ic_ge x1 y1).mp hc) α ls _ H locs ha hl hs2 hw hS) (fun hc => g2 (fun hd => hc ((ic_ge x1 y1).mpr hd)) α ls _ H locs ha hl hs2 hw hS)
theorem g_if_ge (C : Cx p Rm s m args meth c B k d) {off : Int} {x : Int} (h : decode (mB k) pc = .ok (.ifCond .ge off, 3)) (ho : 0 ≤ (pc : Int) + off) (g : 0 ≤ x → Gw p l e Rm s m args below meth c Q D B n0 α0 cells slots (gto pc off) L st w) (g2 : ¬ (0 ≤ x) → Gw p l e Rm s m args below meth c Q D B n0 α0 cells slots (pc + 3) L st w) : Gw p l e Rm s m args below meth c Q D B n0 α0 cells slots pc L (.inl x :: st) w := by
  intro α ls stk H locs ha hl hs hw hS
  obtain ⟨x1, _, rfl, rfl, hs1⟩ := hs.cI
  exact lv_if_ge C.1 C.2.1 h (gto_eq ho) (fun hc => g ((ic_ge x1 0).mp hc) α ls _ H locs ha hl hs1 hw hS) (fun hc => g2 (fun hd => hc ((ic_ge x1 0).mpr hd)) α ls _ H locs ha hl hs1 hw hS)
theorem g_icmp_gt (C : Cx p Rm s m args meth c B k d) {off : Int} {x y : Int} (h : decode (mB k) pc = .ok (.if_icmp .gt off, 3)) (ho : 0 ≤ (pc : Int) + off) (g : y < x → Gw p l e Rm s m args below meth c Q D B n0 α0 cells slots (gto pc off) L st w) (g2 : ¬ (y < x) → Gw p l e Rm s m args below meth c Q D B n0 α0 cells slots (pc + 3) L st w) : Gw p l e Rm s m args below meth c Q D B n0 α0 cells slots pc L (.inl y :: .inl x :: st) w := by
  intro α ls stk H locs ha hl hs hw hS
  obtain ⟨y1, _, rfl, rfl, hs1⟩ := hs.cI
  obtain ⟨x1, _, rfl, rfl, hs2⟩ := hs1.cI
  exact lv_icmp_gt C.1 C.2.1 h (gto_eq ho) (fun hc => g ((ic_gt x1 y1).mp hc) α ls _ H locs ha hl hs2 hw hS) (fun hc => g2 (fun hd => hc ((ic_gt x1 y1).mpr hd)) α ls _ H locs ha hl hs2 hw hS)
theorem g_if_gt (C : Cx p Rm s m args meth c B k d) {off : Int} {x : Int} (h : decode (mB k) pc = .ok (.ifCond .gt off, 3)) (ho : 0 ≤ (pc : Int) + off) (g : 0 < x → Gw p l e Rm s m args below meth c Q D B n0 α0 cells slots (gto pc off) L st w) (g2 : ¬ (0 < x) → Gw p l e Rm s m args below meth c Q D B n0 α0 cells slots (pc + 3) L st w) : Gw p l e Rm s m args below meth c Q D B n0 α0 cells slots pc L (.inl x :: st) w := by
  intro α ls stk H locs ha hl hs hw hS
  obtain ⟨x1, _, rfl, rfl, hs1⟩ := hs.cI
  exact lv_if_gt C.1 C.2.1 h (gto_eq ho) (fun hc => g ((ic_gt x1 0).mp hc) α ls _ H locs ha hl hs1 hw hS) (fun hc => g2 (fun hd => hc ((ic_gt x1 0).mpr hd)) α ls _ H locs ha hl hs1 hw hS)
theorem g_icmp_le (C : Cx p Rm s m args meth c B k d) {off : Int} {x y : Int} (h : decode (mB k) pc = .ok (.if_icmp .le off, 3)) (ho : 0 ≤ (pc : Int) + off) (g : x ≤ y → Gw p l e Rm s m args below meth c Q D B n0 α0 cells slots (gto pc off) L st w) (g2 : ¬ (x ≤ y) → Gw p l e Rm s m args below meth c Q D B n0 α0 cells slots (pc + 3) L st w) : Gw p l e Rm s m args below meth c Q D B n0 α0 cells slots pc L (.inl y :: .inl x :: st) w := by
  intro α ls stk H locs ha hl hs hw hS
  obtain ⟨y1, _, rfl, rfl, hs1⟩ := hs.cI
  obtain ⟨x1, _, rfl, rfl, hs2⟩ := hs1.cI
  exact lv_icmp_le C.1 C.2.1 h (gto_eq ho) (fun hc => g ((ic_le x1 y1).mp hc) α ls _ H locs ha hl hs2 hw hS) (fun hc => g2 (fun hd => hc ((ic_le x1 y1).mpr hd)) α ls _ H locs ha hl hs2 hw hS)
theorem g_if_le (C : Cx p Rm s m args meth c B k d) {off : Int} {x : Int} (h : decode (mB k) pc = .ok (.ifCond .le off, 3)) (ho : 0 ≤ (pc : Int) + off) (g : x ≤ 0 → Gw p l e Rm s m args below meth c Q D B n0 α0 cells slots (gto pc off) L st w) (g2 : ¬ (x ≤ 0) → Gw p l e Rm s m args below meth c Q D B n0 α0 cells slots (pc + 3) L st w) : Gw p l e Rm s m args below meth c Q D B n0 α0 cells slots pc L (.inl x :: st) w := by
  intro α ls stk H locs ha hl hs hw hS
  obtain ⟨x1, _, rfl, rfl, hs1⟩ := hs.cI
  exact lv_if_le C.1 C.2.1 h (gto_eq ho) (fun hc => g ((ic_le x1 0).mp hc) α ls _ H locs ha hl hs1 hw hS) (fun hc => g2 (fun hd => hc ((ic_le x1 0).mpr hd)) α ls _ H locs ha hl hs1 hw hS)
theorem g_switchO (C : Cx p Rm s m args meth c B k d) {dflt lo hi : Int} {offs : Array Int} {x : Int} {n : Nat} (h : decode (mB k) pc = .ok (.tableswitch dflt lo hi offs, n)) (hx : x < lo ∨ hi < x) (ho : 0 ≤ (pc : Int) + dflt) (g : Gw p l e Rm s m args below meth c Q D B n0 α0 cells slots (gto pc dflt) L st w) : Gw p l e Rm s m args below meth c Q D B n0 α0 cells slots pc L (.inl x :: st) w := by
  intro α ls stk H locs ha hl hs hw hS
  obtain ⟨x1, _, rfl, rfl, hs1⟩ := hs.cI
  exact lv_tableOut C.1 C.2.1 h hx (gto_eq ho) (g α ls _ H locs ha hl hs1 hw hS)
theorem g_switchI (C : Cx p Rm s m args meth c B k d) {dflt lo hi off : Int} {offs : Array Int} {x : Int} {n : Nat} (h : decode (mB k) pc = .ok (.tableswitch dflt lo hi offs, n)) (h1 : ¬ x < lo) (h2 : ¬ hi < x) (hf : offs[(x - lo).toNat]? = some off) (ho : 0 ≤ (pc : Int) + off) (g : Gw p l e Rm s m args below meth c Q D B n0 α0 cells slots (gto pc off) L st w) : Gw p l e Rm s m args below meth c Q D B n0 α0 cells slots pc L (.inl x :: st) w := by
  intro α ls stk H locs ha hl hs hw hS
  obtain ⟨x1, _, rfl, rfl, hs1⟩ := hs.cI
  exact lv_tableIn C.1 C.2.1 h h1 h2 hf (gto_eq ho) (g α ls _ H locs ha hl hs1 hw hS)
theorem vp_in_of_int {j : Int32} {n : Nat} (h : 0 ≤ j.toInt ∧ j.toInt < n) : vp_in j n := vp_in_iff.mpr h
theorem clamp_toInt (j : Int32) : j.toNatClampNeg = j.toInt.toNat := rfl
theorem g_iald (C : Cx p Rm s m args meth c B k d) {a : Nat} {j : Int} (h : decode (mB k) pc = .ok (.iaload, 1)) (hk : kd w a = 1 ∧ 0 ≤ j ∧ j < ln w a) (g : Gw p l e Rm s m args below meth c Q D B n0 α0 cells slots (pc + 1) L (.inl (gi w a j.toNat) :: st) w) : Gw p l e Rm s m args below meth c Q D B n0 α0 cells slots pc L (.inl j :: .inr a :: st) w := by
  intro α ls stk H locs ha hl hs hw hS
  obtain ⟨j1, _, rfl, rfl, hs1⟩ := hs.cI
  obtain ⟨_, rfl, hr, hs2⟩ := hs1.cR
  obtain ⟨ws, tys, hw⟩ := hw
  obtain ⟨cA, f, t0, h1, h2, h3⟩ := hw.ia hk.1
  exact va_iald C.1 C.2.1 hw.1 hw.2.1 _ t0 h1 h2 (vp_in_of_int hk.2) h (g α ls _ H locs ha hl ⟨h3 _, hs2⟩ ⟨ws, tys, hw⟩ hS)
theorem g_cald (C : Cx p Rm s m args meth c B k d) {a : Nat} {j : Int} (h : decode (mB k) pc = .ok (.caload, 1)) (hk : kd w a = 2 ∧ 0 ≤ j ∧ j < ln w a) (g : Gw p l e Rm s m args below meth c Q D B n0 α0 cells slots (pc + 1) L (.inl (gi w a j.toNat) :: st) w) : Gw p l e Rm s m args below meth c Q D B n0 α0 cells slots pc L (.inl j :: .inr a :: st) w := by
  intro α ls stk H locs ha hl hs hw hS
  obtain ⟨j1, _, rfl, rfl, hs1⟩ := hs.cI
  obtain ⟨_, rfl, hr, hs2⟩ := hs1.cR
  obtain ⟨ws, tys, hw⟩ := hw
  obtain ⟨cA, f, t0, h1, h2, h3⟩ := hw.ca hk.1
  exact va_cald C.1 C.2.1 hw.1 hw.2.1 _ t0 h1 h2 (vp_in_of_int hk.2) h (g α ls _ H locs ha hl ⟨h3 _, hs2⟩ ⟨ws, tys, hw⟩ hS)
theorem g_aald (C : Cx p Rm s m args meth c B k d) {a b : Nat} {j : Int} (h : decode (mB k) pc = .ok (.aaload, 1)) (hk : kd w a = 3 ∧ 0 ≤ j ∧ j < ln w a) (hb : gr w a j.toNat = some b) (g : Gw p l e Rm s m args below meth c Q D B n0 α0 cells slots (pc + 1) L (.inr b :: st) w) : Gw p l e Rm s m args below meth c Q D B n0 α0 cells slots pc L (.inl j :: .inr a :: st) w := by
  intro α ls stk H locs ha hl hs hw hS
  obtain ⟨j1, _, rfl, rfl, hs1⟩ := hs.cI
  obtain ⟨_, rfl, hr, hs2⟩ := hs1.cR
  obtain ⟨ws, tys, hw⟩ := hw
  obtain ⟨cA, f, t0, h1, h2, h3⟩ := hw.qa hk.1
  obtain ⟨h4, h5⟩ := h3 j1.toNatClampNeg
  refine va_aldq C.1 C.2.1 hw.1 hw.2.1 _ t0 h1 h2 (vp_in_of_int hk.2) h ?_
  rw [h4]
  rw [clamp_toInt, hb]
  exact g α ls _ H locs ha hl ⟨⟨rfl, h5 b hb⟩, hs2⟩ ⟨ws, tys, hw⟩ hS
theorem g_iast (C : Cx p Rm s m args meth c B k d) {a : Nat} {j v : Int} (h : decode (mB k) pc = .ok (.iastore, 1)) (hk : kd w a = 1 ∧ 0 ≤ j ∧ j < ln w a) (g : Gw p l e Rm s m args below meth c Q D B n0 α0 cells slots (pc + 1) L st (si w a j.toNat v)) : Gw p l e Rm s m args below meth c Q D B n0 α0 cells slots pc L (.inl v :: .inl j :: .inr a :: st) w := by
  intro α ls stk H locs ha hl hs hw hS
  obtain ⟨x1, _, rfl, rfl, hs1⟩ := hs.cI
  obtain ⟨j1, _, rfl, rfl, hs2⟩ := hs1.cI
  obtain ⟨_, rfl, hr, hs3⟩ := hs2.cR
  obtain ⟨ws, tys, hw⟩ := hw
  obtain ⟨cA, f, t0, h1, h2, h3⟩ := hw.ia hk.1
  have hrg := hw.rng (a := a) (by rw [hk.1]; decide)
  refine va_iast C.1 C.2.1 hw.1 hw.2.1 hw.2.2.1 hS _ t0 h1 h2 (vp_in_of_int hk.2) h (fun H1 locs1 hP1 hD1 hS1 => g α ls _ H1 locs1 ha hl hs3 ⟨_, tys, hw.upd rfl (fun _ => rfl) (fun _ => rfl) hrg hP1 hD1 (fun b hb => ⟨fun i => by rw [gi_si, if_neg (fun q => hb q.1)], fun i => rfl⟩) (Or.inl ⟨hk.1, cA, _, t0, rfl, h2, ?_⟩)⟩ hS1)
  refine fun i => ?_
  rw [gi_si, clamp_toInt]
  unfold upd
  by_cases hi : i = j1.toInt.toNat
  · rw [if_pos hi, if_pos ⟨rfl, hi⟩]
  · rw [if_neg hi, if_neg (fun q => hi q.2)]
    exact h3 i
theorem g_cast (C : Cx p Rm s m args meth c B k d) {a : Nat} {j v : Int} (h : decode (mB k) pc = .ok (.castore, 1)) (hk : kd w a = 2 ∧ 0 ≤ j ∧ j < ln w a) (hv : 0 ≤ v ∧ v < 65536) (g : Gw p l e Rm s m args below meth c Q D B n0 α0 cells slots (pc + 1) L st (si w a j.toNat v)) : Gw p l e Rm s m args below meth c Q D B n0 α0 cells slots pc L (.inl v :: .inl j :: .inr a :: st) w := by
  intro α ls stk H locs ha hl hs hw hS
  obtain ⟨x1, _, rfl, rfl, hs1⟩ := hs.cI
  obtain ⟨j1, _, rfl, rfl, hs2⟩ := hs1.cI
  obtain ⟨_, rfl, hr, hs3⟩ := hs2.cR
  obtain ⟨ws, tys, hw⟩ := hw
  obtain ⟨cA, f, t0, h1, h2, h3⟩ := hw.ca hk.1
  have hrg := hw.rng (a := a) (by rw [hk.1]; decide)
  refine va_cast C.1 C.2.1 hw.1 hw.2.1 hw.2.2.1 hS _ t0 h1 h2 (vp_in_of_int hk.2) h (fun H1 locs1 hP1 hD1 hS1 => g α ls _ H1 locs1 ha hl hs3 ⟨_, tys, hw.upd rfl (fun _ => rfl) (fun _ => rfl) hrg hP1 hD1 (fun b hb => ⟨fun i => by rw [gi_si, if_neg (fun q => hb q.1)], fun i => rfl⟩) (Or.inr (Or.inl ⟨hk.1, cA, _, t0, rfl, h2, ?_⟩))⟩ hS1)
  refine fun i => ?_
  rw [gi_si, clamp_toInt]
  unfold upd
  by_cases hi : i = j1.toInt.toNat
  · rw [if_pos hi, if_pos ⟨rfl, hi⟩]
    rw [vp_nar_char, pk_charV x1 hv.1 hv.2]
  · rw [if_neg hi, if_neg (fun q => hi q.2)]
    exact h3 i
theorem g_aast (C : Cx p Rm s m args meth c B k d) {a v : Nat} {j : Int} (h : decode (mB k) pc = .ok (.aastore, 1)) (hk : kd w a = 3 ∧ 0 ≤ j ∧ j < ln w a) (hv : kd w v = 13) (g : Gw p l e Rm s m args below meth c Q D B n0 α0 cells slots (pc + 1) L st (sr w a j.toNat (some v))) : Gw p l e Rm s m args below meth c Q D B n0 α0 cells slots pc L (.inr v :: .inl j :: .inr a :: st) w := by
  intro α ls stk H locs ha hl hs hw hS
  obtain ⟨_, rfl, hrv, hs1⟩ := hs.cR
  obtain ⟨j1, _, rfl, rfl, hs2⟩ := hs1.cI
  obtain ⟨_, rfl, hr, hs3⟩ := hs2.cR
  obtain ⟨ws, tys, hw⟩ := hw
  obtain ⟨cA, f, t0, h1, h2, h3⟩ := hw.qa hk.1
  obtain ⟨r, fs, e1, e2, -⟩ := hw.ob (ci := 3) hv
  have hrg := hw.rng (a := a) (by rw [hk.1]; decide)
  have er : r = (RX3, TX3, 2) := (Option.some.inj e2).symm
  subst er
  refine va_astq C.1 C.2.1 hw.1 hw.2.1 hw.2.2.1 hS _ t0 (v - 1) 3 (r := (RX3, TX3, 2)) h1 h2 e1 e2 (vp_in_of_int hk.2) h (fun H1 locs1 hP1 hD1 hS1 => g α ls _ H1 locs1 ha hl hs3 ⟨_, tys, hw.upd rfl (fun _ => rfl) (fun _ => rfl) hrg hP1 hD1 (fun b hb => ⟨fun i => rfl, fun i => by rw [gr_sr, if_neg (fun q => hb q.1)]⟩) (Or.inr (Or.inr (Or.inl ⟨hk.1, cA, _, t0, rfl, h2, ?_⟩)))⟩ hS1)
  refine fun i => ?_
  rw [gr_sr, clamp_toInt]
  unfold va_up
  by_cases hi : i = j1.toInt.toNat
  · rw [if_pos hi, if_pos ⟨rfl, hi⟩]
    exact ⟨rfl, fun b hb => by cases hb; exact hrv⟩
  · rw [if_neg hi, if_neg (fun q => hi q.2)]
    exact h3 i
theorem g_alen (C : Cx p Rm s m args meth c B k d) {a : Nat} (h : decode (mB k) pc = .ok (.arraylength, 1)) (hk : kd w a = 1 ∧ ln w a < 2147483648) (g : Gw p l e Rm s m args below meth c Q D B n0 α0 cells slots (pc + 1) L (.inl (ln w a) :: st) w) : Gw p l e Rm s m args below meth c Q D B n0 α0 cells slots pc L (.inr a :: st) w := by
  intro α ls stk H locs ha hl hs hw hS
  obtain ⟨_, rfl, hr, hs1⟩ := hs.cR
  obtain ⟨ws, tys, hw⟩ := hw
  obtain ⟨cA, f, t0, h1, h2, h3⟩ := hw.ia hk.1
  exact va_alen C.1 C.2.1 hw.1 hw.2.1 _ t0 h1 h2 rfl h (g α ls _ H locs ha hl ⟨nI_toInt hk.2, hs1⟩ ⟨ws, tys, hw⟩ hS)
end G3
end
section
/-! fields, new cells, calls -/
def ftk (n : Nat) (ty : FieldType) : Bool := match n, ty with
  | 0, .int => true
  | 2, .boolean => true
  | 1, .object _ => true
  | 1, .array _ => true
  | _, _ => false
def ClsOk (ci : Nat) (C : String) (T : u_T) (N : Nat) : Prop := (∀ w ∈ u_ws C T N, w ∈ gtbl) ∧ ∃ ty : Nat → FieldType, (∀ k, k < N → parseFieldDescriptor (T k).2.2.1 = some (ty k)) ∧ (∀ a, a < N → ∀ b, b < N → a ≠ b → (T a).2.1 ≠ (T b).2.1) ∧ ∀ k, k < N → ftk (skd ci k) (ty k) = true
set_option maxRecDepth 20000 in
theorem clsOk0 : ClsOk 0 RX0 TX0 2 := ⟨by decide +kernel, tyX0, tyX0_ok, nmX0, by decide +kernel⟩
set_option maxRecDepth 20000 in
theorem clsOk1 : ClsOk 1 RX1 TX1 5 := ⟨by decide +kernel, tyX1, tyX1_ok, nmX1, by decide +kernel⟩
set_option maxRecDepth 20000 in
theorem clsOk2 : ClsOk 2 RX2 TX2 5 := ⟨by decide +kernel, tyX2, tyX2_ok, nmX2, by decide +kernel⟩
set_option maxRecDepth 20000 in
theorem clsOk3 : ClsOk 3 RX3 TX3 2 := ⟨by decide +kernel, tyX3, tyX3_ok, nmX3, by decide +kernel⟩
set_option maxRecDepth 20000 in
theorem clsOk4 : ClsOk 4 RX4 TX4 7 := ⟨by decide +kernel, tyX4, tyX4_ok, nmX4, by decide +kernel⟩
set_option maxRecDepth 20000 in
theorem clsOk5 : ClsOk 5 RX5 TX5 13 := ⟨by decide +kernel, tyX5, tyX5_ok, nmX5, by decide +kernel⟩
set_option maxRecDepth 20000 in
theorem clsOk6 : ClsOk 6 RX6 TX6 9 := ⟨by decide +kernel, tyX6, tyX6_ok, nmX6, by decide +kernel⟩
theorem clsOk : ∀ (ci : Nat) (r : vw_C), vwCl[ci]? = some r → ClsOk ci r.1 r.2.1 r.2.2 := by
  intro ci r h
  match ci, h with
  | 0, h => cases h; exact clsOk0
  | 1, h => cases h; exact clsOk1
  | 2, h => cases h; exact clsOk2
  | 3, h => cases h; exact clsOk3
  | 4, h => cases h; exact clsOk4
  | 5, h => cases h; exact clsOk5
  | 6, h => cases h; exact clsOk6
  | n + 7, h => simp [vwCl] at h
theorem ftk1 {ty : FieldType} (h : ftk 1 ty = true) : defaultValue ty = .null := by
  cases ty <;> first | rfl | cases h
theorem ftk0 {n : Nat} {ty : FieldType} (h : ftk n ty = true) (hn : n ≠ 1) : defaultValue ty = .int 0 := by
  unfold ftk at h
  split at h
  · rfl
  · rfl
  · exact absurd rfl hn
  · exact absurd rfl hn
  · cases h
theorem nfw40 : nativeFrameWords "java/lang/System" "arraycopy" 5 ≤ 40 := by decide +kernel
section G4
variable {p : Program} {l : Launch} {e : Env} {Rm : Room} {s : State} {m : MethodId} {args : Array Value} {below : List Frame} {meth : Method} {c : Code} {Q : State → Prop} {D : va_G} {B n0 : Nat} {α0 : Nat → Nat} {cells slots pc k d : Nat} {L : List (Option MV)} {st : List MV} {w : MW}
theorem g_getf (C : Cx p Rm s m args meth c B k d) {j ci f a : Nat} {Cn : String} {T : u_T} {N : Nat} (h : decode (mB k) pc = .ok (.getfield j, 3)) (hk : kd w a = 10 + ci) (hcl : vwCl[ci]? = some (Cn, T, N)) (hf : f < N) (hl0 : Cond.fieldLink (mOwn k) j (T f).1 (T f).2.1 (T f).2.2.1 ∈ gtbl) (hsk : skd ci f ≠ 1) (g : Gw p l e Rm s m args below meth c Q D B n0 α0 cells slots (pc + 3) L (.inl (gi w a f) :: st) w) : Gw p l e Rm s m args below meth c Q D B n0 α0 cells slots pc L (.inr a :: st) w := by
  intro α ls stk H locs ha hl hs hw hS
  obtain ⟨_, rfl, hr, hs1⟩ := hs.cR
  obtain ⟨ws, tys, hw⟩ := hw
  obtain ⟨r, fs, e1, e2, e3, e4⟩ := hw.ob hk
  have er : r = (Cn, T, N) := Option.some.inj (e2.symm.trans hcl)
  subst er
  obtain ⟨hin, ty, hty, hnm, hft⟩ := clsOk _ _ hcl
  have e4f := e4 f hf
  unfold FR at e4f
  rw [if_neg hsk] at e4f
  obtain ⟨x, hx, hv⟩ := e4f
  exact va_get C.1 C.2.1 C.2.2.2.2.1 hin C.2.2.2.1 hw.1 hw.2.1 _ e1 hcl f hf (C.2.2.2.2.1 _ hl0) (fun _ h => h) hx h (g α ls _ H locs ha hl ⟨hv, hs1⟩ ⟨ws, tys, hw⟩ hS)
theorem g_getr (C : Cx p Rm s m args meth c B k d) {j ci f a b : Nat} {Cn : String} {T : u_T} {N : Nat} (h : decode (mB k) pc = .ok (.getfield j, 3)) (hk : kd w a = 10 + ci) (hcl : vwCl[ci]? = some (Cn, T, N)) (hf : f < N) (hl0 : Cond.fieldLink (mOwn k) j (T f).1 (T f).2.1 (T f).2.2.1 ∈ gtbl) (hsk : skd ci f = 1) (hb : gr w a f = some b) (g : Gw p l e Rm s m args below meth c Q D B n0 α0 cells slots (pc + 3) L (.inr b :: st) w) : Gw p l e Rm s m args below meth c Q D B n0 α0 cells slots pc L (.inr a :: st) w := by
  intro α ls stk H locs ha hl hs hw hS
  obtain ⟨_, rfl, hr, hs1⟩ := hs.cR
  obtain ⟨ws, tys, hw⟩ := hw
  obtain ⟨r, fs, e1, e2, e3, e4⟩ := hw.ob hk
  have er : r = (Cn, T, N) := Option.some.inj (e2.symm.trans hcl)
  subst er
  obtain ⟨hin, ty, hty, hnm, hft⟩ := clsOk _ _ hcl
  have e4f := e4 f hf
  unfold FR at e4f
  rw [if_pos hsk] at e4f
  obtain ⟨hx, hv⟩ := e4f
  rw [hb] at hx
  exact va_get C.1 C.2.1 C.2.2.2.2.1 hin C.2.2.2.1 hw.1 hw.2.1 _ e1 hcl f hf (C.2.2.2.2.1 _ hl0) (fun _ h => h) hx h (g α ls _ H locs ha hl ⟨⟨rfl, hv b hb⟩, hs1⟩ ⟨ws, tys, hw⟩ hS)
theorem g_putf (C : Cx p Rm s m args meth c B k d) {j ci f a : Nat} {Cn : String} {T : u_T} {N : Nat} {v : Int} (h : decode (mB k) pc = .ok (.putfield j, 3)) (hk : kd w a = 10 + ci) (hcl : vwCl[ci]? = some (Cn, T, N)) (hf : f < N) (hl0 : Cond.fieldLink (mOwn k) j (T f).1 (T f).2.1 (T f).2.2.1 ∈ gtbl) (hsk : skd ci f = 0) (hfin : (T f).2.2.2 = false) (g : Gw p l e Rm s m args below meth c Q D B n0 α0 cells slots (pc + 3) L st (si w a f v)) : Gw p l e Rm s m args below meth c Q D B n0 α0 cells slots pc L (.inl v :: .inr a :: st) w := by
  intro α ls stk H locs ha hl hs hw hS
  obtain ⟨x1, _, rfl, rfl, hs1⟩ := hs.cI
  obtain ⟨_, rfl, hr, hs2⟩ := hs1.cR
  obtain ⟨ws, tys, hw⟩ := hw
  obtain ⟨r, fs, e1, e2, e3, e4⟩ := hw.ob hk
  have er : r = (Cn, T, N) := Option.some.inj (e2.symm.trans hcl)
  subst er
  obtain ⟨hin, ty, hty, hnm, hft⟩ := clsOk _ _ hcl
  have e4f := e4 f hf
  unfold FR at e4f
  have hrg := hw.rng (a := a) (by rw [hk]; omega)
  have hs1 : skd ci f ≠ 1 := by rw [hsk]; decide
  have ht := hft f hf
  have htf : ty f = .int := by
    rw [hsk] at ht
    revert ht
    cases ty f <;> simp [ftk]
  refine va_put C.1 C.2.1 C.2.2.2.2.1 hin ty hty hnm C.2.2.2.1 hw.1 hw.2.1 hw.2.2.1 hS _ e1 hcl f hf (C.2.2.2.2.1 _ hl0) (fun _ h => h) hfin (ty := .int) (by rw [hty f hf, htf]) rfl rfl (by rw [e3]; exact hf) h (fun H1 locs1 hP1 hD1 hS1 => g α ls _ H1 locs1 ha hl hs2 ⟨_, tys, hw.upd rfl (fun _ => rfl) (fun _ => rfl) hrg hP1 hD1 (fun b hb => ⟨fun i => by rw [gi_si, if_neg (fun q => hb q.1)], fun i => rfl⟩) (Or.inr (Or.inr (Or.inr ⟨ci, _, _, hk, rfl, hcl, by rw [List.length_set]; exact e3, fun i hi => ?_⟩)))⟩ hS1)
  unfold FR
  have e4i := e4 i hi
  unfold FR at e4i
  by_cases hif : i = f
  · subst hif
    rw [if_neg hs1, List.getElem?_set_self (by rw [e3]; exact hi), gi_si, if_pos ⟨rfl, rfl⟩]
    exact ⟨x1, rfl, rfl⟩
  · have e9 : gi (si w a f x1.toInt) a i = gi w a i := by rw [gi_si, if_neg (fun q => hif q.2)]
    rw [List.getElem?_set_ne (Ne.symm hif), e9]
    exact e4i
theorem g_putz (C : Cx p Rm s m args meth c B k d) {j ci f a : Nat} {Cn : String} {T : u_T} {N : Nat} {v : Int} (h : decode (mB k) pc = .ok (.putfield j, 3)) (hk : kd w a = 10 + ci) (hcl : vwCl[ci]? = some (Cn, T, N)) (hf : f < N) (hl0 : Cond.fieldLink (mOwn k) j (T f).1 (T f).2.1 (T f).2.2.1 ∈ gtbl) (hsk : skd ci f = 2) (hfin : (T f).2.2.2 = false) (hv : v = 0 ∨ v = 1) (g : Gw p l e Rm s m args below meth c Q D B n0 α0 cells slots (pc + 3) L st (si w a f v)) : Gw p l e Rm s m args below meth c Q D B n0 α0 cells slots pc L (.inl v :: .inr a :: st) w := by
  intro α ls stk H locs ha hl hs hw hS
  obtain ⟨x1, _, rfl, rfl, hs1⟩ := hs.cI
  obtain ⟨_, rfl, hr, hs2⟩ := hs1.cR
  obtain ⟨ws, tys, hw⟩ := hw
  obtain ⟨r, fs, e1, e2, e3, e4⟩ := hw.ob hk
  have er : r = (Cn, T, N) := Option.some.inj (e2.symm.trans hcl)
  subst er
  obtain ⟨hin, ty, hty, hnm, hft⟩ := clsOk _ _ hcl
  have e4f := e4 f hf
  unfold FR at e4f
  have hrg := hw.rng (a := a) (by rw [hk]; omega)
  have hs1 : skd ci f ≠ 1 := by rw [hsk]; decide
  have ht := hft f hf
  have htf : ty f = .boolean := by
    rw [hsk] at ht
    revert ht
    cases ty f <;> simp [ftk]
  have hz : x1 = 0 ∨ x1 = 1 := by
    rcases hv with h | h
    · exact Or.inl (Int32.toInt_inj.mp h)
    · exact Or.inr (Int32.toInt_inj.mp h)
  refine va_put C.1 C.2.1 C.2.2.2.2.1 hin ty hty hnm C.2.2.2.1 hw.1 hw.2.1 hw.2.2.1 hS _ e1 hcl f hf (C.2.2.2.2.1 _ hl0) (fun _ h => h) hfin (ty := .boolean) (by rw [hty f hf, htf]) (by rcases hz with rfl | rfl <;> rfl) (by rcases hz with rfl | rfl <;> rfl) (by rw [e3]; exact hf) h (fun H1 locs1 hP1 hD1 hS1 => g α ls _ H1 locs1 ha hl hs2 ⟨_, tys, hw.upd rfl (fun _ => rfl) (fun _ => rfl) hrg hP1 hD1 (fun b hb => ⟨fun i => by rw [gi_si, if_neg (fun q => hb q.1)], fun i => rfl⟩) (Or.inr (Or.inr (Or.inr ⟨ci, _, _, hk, rfl, hcl, by rw [List.length_set]; exact e3, fun i hi => ?_⟩)))⟩ hS1)
  unfold FR
  have e4i := e4 i hi
  unfold FR at e4i
  by_cases hif : i = f
  · subst hif
    rw [if_neg hs1, List.getElem?_set_self (by rw [e3]; exact hi), gi_si, if_pos ⟨rfl, rfl⟩]
    exact ⟨x1, rfl, rfl⟩
  · have e9 : gi (si w a f x1.toInt) a i = gi w a i := by rw [gi_si, if_neg (fun q => hif q.2)]
    rw [List.getElem?_set_ne (Ne.symm hif), e9]
    exact e4i
theorem g_putr (C : Cx p Rm s m args meth c B k d) {j ci f a : Nat} {Cn : String} {T : u_T} {N : Nat} {v : Nat} (h : decode (mB k) pc = .ok (.putfield j, 3)) (hk : kd w a = 10 + ci) (hcl : vwCl[ci]? = some (Cn, T, N)) (hf : f < N) (hl0 : Cond.fieldLink (mOwn k) j (T f).1 (T f).2.1 (T f).2.2.1 ∈ gtbl) (hsk : skd ci f = 1) (hfin : (T f).2.2.2 = true) (hdc : (T f).1 = mOwn k) (hini : (mY k).name = "<init>") (g : Gw p l e Rm s m args below meth c Q D B n0 α0 cells slots (pc + 3) L st (sr w a f (some v))) : Gw p l e Rm s m args below meth c Q D B n0 α0 cells slots pc L (.inr v :: .inr a :: st) w := by
  intro α ls stk H locs ha hl hs hw hS
  obtain ⟨_, rfl, hrv, hs1⟩ := hs.cR
  obtain ⟨_, rfl, hr, hs2⟩ := hs1.cR
  obtain ⟨ws, tys, hw⟩ := hw
  obtain ⟨r, fs, e1, e2, e3, e4⟩ := hw.ob hk
  have er : r = (Cn, T, N) := Option.some.inj (e2.symm.trans hcl)
  subst er
  obtain ⟨hin, ty, hty, hnm, hft⟩ := clsOk _ _ hcl
  have e4f := e4 f hf
  unfold FR at e4f
  have hrg := hw.rng (a := a) (by rw [hk]; omega)
  have ht := hft f hf
  have hnf : narrow (ty f) (.ref (α v)) = .ref (α v) ∧ fits (ty f) (.ref (α v)) = true := by
    rw [hsk] at ht
    revert ht
    cases ty f <;> simp [ftk, narrow, Jvm.fits]
  refine va_putF C.1 C.2.1 C.2.2.2.2.1 hin ty hty hnm C.2.2.2.1 hw.1 hw.2.1 hw.2.2.1 hS _ e1 hcl f hf (C.2.2.2.2.1 _ hl0) (fun _ h => h) hfin (C.2.2.2.2.2.2.2.1 hini) hdc (ty := ty f) (hty f hf) hnf.1 hnf.2 (by rw [e3]; exact hf) h (fun H1 locs1 hP1 hD1 hS1 => g α ls _ H1 locs1 ha hl hs2 ⟨_, tys, hw.upd rfl (fun _ => rfl) (fun _ => rfl) hrg hP1 hD1 (fun b hb => ⟨fun i => rfl, fun i => by rw [gr_sr, if_neg (fun q => hb q.1)]⟩) (Or.inr (Or.inr (Or.inr ⟨ci, _, _, hk, rfl, hcl, by rw [List.length_set]; exact e3, fun i hi => ?_⟩)))⟩ hS1)
  unfold FR
  have e4i := e4 i hi
  unfold FR at e4i
  by_cases hif : i = f
  · subst hif
    rw [if_pos hsk, List.getElem?_set_self (by rw [e3]; exact hi), gr_sr, if_pos ⟨rfl, rfl⟩]
    exact ⟨rfl, fun b hb => by cases hb; exact hrv⟩
  · have e9 : gr (sr w a f (some v)) a i = gr w a i := by rw [gr_sr, if_neg (fun q => hif q.2)]
    rw [List.getElem?_set_ne (Ne.symm hif), e9]
    exact e4i
theorem g_newi (C : Cx p Rm s m args meth c B k d) {j : Int} (h : decode (mB k) pc = .ok (.newarray .int, 2)) (hw0 : Cond.arrayClass .int ∈ gtbl) (hR : cells + 1 ≤ Rm.cells ∧ slots + j.toNat ≤ Rm.slots) (hn0 : n0 ≤ nx w) (hj : 0 ≤ j ∧ j ≤ 1000) (g : Gw p l e Rm s m args below meth c Q D B n0 α0 (cells + 1) (slots + j.toNat) (pc + 2) L (.inr (nx w) :: st) (al w 1 j.toNat j.toNat)) : Gw p l e Rm s m args below meth c Q D B n0 α0 cells slots pc L (.inl j :: st) w := by
  intro α ls stk H locs ha hl hs hw hS
  obtain ⟨x1, _, rfl, rfl, hs1⟩ := hs.cI
  obtain ⟨ws, tys, hw⟩ := hw
  have hnn : ¬ x1 < 0 := by rw [Int32.lt_iff_toInt_lt]; simp only [Int32.toInt_zero]; omega
  exact va_newa (atype := .int) (ty := .int) C.1 C.2.1 (C.2.2.2.2.1 _ hw0) rfl hw.1 hw.2.1 hw.2.2.1 hS (fun q hq => Nat.le_trans C.2.2.2.2.2.2.2.2 hq) (a0 := (x1.toInt.toNat, .inl (fun _ => 0))) (fun _ => rfl) hnn rfl (by show x1.toInt.toNat * 4 ≤ _; omega) hR.1 hR.2 h (fun q cA H1 hK1 hP1 hD1 hS1 => g (fun b => if b = nx w then q else α b) ls _ H1 locs (fun b hb => by rw [if_neg (by omega)]; exact ha b hb) (hl.mono (Nat.le_succ _) (fun b hb => if_neg (by omega))) ⟨⟨(if_pos rfl).symm, Nat.lt_succ_self _⟩, hs1.mono (Nat.le_succ _) (fun b hb => if_neg (by omega))⟩ ⟨_, _, hw.push rfl hK1 hP1 hD1 (Or.inl ⟨by simp [kd, al, u1], cA, fun _ => 0, tys.length, by simp [ln, al, u1], by rw [List.getElem?_append_right (Nat.le_refl _)]; simp, fun i => by simp [gi, al, z2]⟩)⟩ hS1)
theorem g_newc (C : Cx p Rm s m args meth c B k d) {j : Int} (h : decode (mB k) pc = .ok (.newarray .char, 2)) (hw0 : Cond.arrayClass .char ∈ gtbl) (hR : cells + 1 ≤ Rm.cells ∧ slots + j.toNat ≤ Rm.slots) (hn0 : n0 ≤ nx w) (hj : 0 ≤ j ∧ j ≤ 1000) (g : Gw p l e Rm s m args below meth c Q D B n0 α0 (cells + 1) (slots + j.toNat) (pc + 2) L (.inr (nx w) :: st) (al w 2 j.toNat j.toNat)) : Gw p l e Rm s m args below meth c Q D B n0 α0 cells slots pc L (.inl j :: st) w := by
  intro α ls stk H locs ha hl hs hw hS
  obtain ⟨x1, _, rfl, rfl, hs1⟩ := hs.cI
  obtain ⟨ws, tys, hw⟩ := hw
  have hnn : ¬ x1 < 0 := by rw [Int32.lt_iff_toInt_lt]; simp only [Int32.toInt_zero]; omega
  exact va_newa (atype := .char) (ty := .char) C.1 C.2.1 (C.2.2.2.2.1 _ hw0) rfl hw.1 hw.2.1 hw.2.2.1 hS (fun q hq => Nat.le_trans C.2.2.2.2.2.2.2.2 hq) (a0 := (x1.toInt.toNat, .inl (fun _ => 0))) (fun _ => rfl) hnn rfl (by show x1.toInt.toNat * 2 ≤ _; omega) hR.1 hR.2 h (fun q cA H1 hK1 hP1 hD1 hS1 => g (fun b => if b = nx w then q else α b) ls _ H1 locs (fun b hb => by rw [if_neg (by omega)]; exact ha b hb) (hl.mono (Nat.le_succ _) (fun b hb => if_neg (by omega))) ⟨⟨(if_pos rfl).symm, Nat.lt_succ_self _⟩, hs1.mono (Nat.le_succ _) (fun b hb => if_neg (by omega))⟩ ⟨_, _, hw.push rfl hK1 hP1 hD1 (Or.inr (Or.inl ⟨by simp [kd, al, u1], cA, fun _ => 0, tys.length, by simp [ln, al, u1], by rw [List.getElem?_append_right (Nat.le_refl _)]; simp, fun i => by simp [gi, al, z2]⟩))⟩ hS1)
theorem g_newq (C : Cx p Rm s m args meth c B k d) {j : Int} {i : Nat} (h : decode (mB k) pc = .ok (.anewarray i, 3)) (hw0 : Cond.classLink (mOwn k) i RX3 ∈ gtbl) (hR : cells + 1 ≤ Rm.cells ∧ slots + j.toNat ≤ Rm.slots) (hn0 : n0 ≤ nx w) (hj : 0 ≤ j ∧ j ≤ 1000) (g : Gw p l e Rm s m args below meth c Q D B n0 α0 (cells + 1) (slots + j.toNat) (pc + 3) L (.inr (nx w) :: st) (al w 3 j.toNat j.toNat)) : Gw p l e Rm s m args below meth c Q D B n0 α0 cells slots pc L (.inl j :: st) w := by
  intro α ls stk H locs ha hl hs hw hS
  obtain ⟨x1, _, rfl, rfl, hs1⟩ := hs.cI
  obtain ⟨ws, tys, hw⟩ := hw
  have hnn : ¬ x1 < 0 := by rw [Int32.lt_iff_toInt_lt]; simp only [Int32.toInt_zero]; omega
  exact va_newq C.1 C.2.1 C.2.2.2.1 (C.2.2.2.2.1 _ hw0) C.2.2.2.2.2.1.2 hw.1 hw.2.1 hw.2.2.1 hS (fun q hq => Nat.le_trans C.2.2.2.2.2.2.2.2 hq) hnn (N' := x1.toInt.toNat) rfl (by omega) hR.1 hR.2 h (fun q cA H1 hK1 hP1 hD1 hS1 => g (fun b => if b = nx w then q else α b) ls _ H1 locs (fun b hb => by rw [if_neg (by omega)]; exact ha b hb) (hl.mono (Nat.le_succ _) (fun b hb => if_neg (by omega))) ⟨⟨(if_pos rfl).symm, Nat.lt_succ_self _⟩, hs1.mono (Nat.le_succ _) (fun b hb => if_neg (by omega))⟩ ⟨_, _, hw.push rfl hK1 hP1 hD1 (Or.inr (Or.inr (Or.inl ⟨by simp [kd, al, u1], cA, fun _ => none, tys.length, by simp [ln, al, u1], by rw [List.getElem?_append_right (Nat.le_refl _)]; simp, fun i => by simp [gr, al, z2]⟩)))⟩ hS1)
theorem g_new (C : Cx p Rm s m args meth c B k d) {i ci : Nat} {Cn : String} {T : u_T} {N : Nat} (h : decode (mB k) pc = .ok (.new i, 3)) (hcl : vwCl[ci]? = some (Cn, T, N)) (hw0 : Cond.classLink (mOwn k) i Cn ∈ gtbl) (hw1 : Cond.instantiable Cn N ∈ gtbl) (hw2 : Cond.initialized Cn ∈ gtbl) (hR : cells + 1 ≤ Rm.cells ∧ slots + N ≤ Rm.slots) (hn0 : n0 ≤ nx w) (g : Gw p l e Rm s m args below meth c Q D B n0 α0 (cells + 1) (slots + N) (pc + 3) L (.inr (nx w) :: st) (al w (10 + ci) 0 N)) : Gw p l e Rm s m args below meth c Q D B n0 α0 cells slots pc L st w := by
  intro α ls stk H locs ha hl hs hw hS
  obtain ⟨ws, tys, hw⟩ := hw
  obtain ⟨hin, ty, hty, hnm, hft⟩ := clsOk _ _ hcl
  have hvf : ∀ j, j < N → defaultValue (ty j) = vp_V ((List.range N).map fun j => defaultValue (ty j)) j := by
    intro j hj
    unfold vp_V
    rw [List.getD_eq_getElem?_getD, List.getElem?_map, List.getElem?_range hj]
    rfl
  refine va_new (ci := ci) (fs := (List.range N).map fun j => defaultValue (ty j)) C.1 C.2.1 C.2.2.2.2.1 hin ty hty C.2.2.2.1 (C.2.2.2.2.1 _ hw0) (C.2.2.2.2.1 _ hw1) (C.2.2.2.2.1 _ hw2) hw.1 hw.2.1 hw.2.2.1 hS (fun q hq => Nat.le_trans C.2.2.2.2.2.2.2.2 hq) hcl hvf hR.1 hR.2 h (fun q H1 hP1 hD1 hS1 => ?_)
  refine g (fun b => if b = nx w then q else α b) ls _ H1 locs (fun b hb => by rw [if_neg (by omega)]; exact ha b hb) (hl.mono (Nat.le_succ _) (fun b hb => if_neg (by omega))) ⟨⟨(if_pos rfl).symm, Nat.lt_succ_self _⟩, hs.mono (Nat.le_succ _) (fun b hb => if_neg (by omega))⟩ ⟨_, tys ++ [], hw.push rfl (by rw [List.append_nil]; exact hw.1) hP1 hD1 (Or.inr (Or.inr (Or.inr ⟨ci, _, _, by simp [kd, al, u1], rfl, hcl, by simp, fun j hj => ?_⟩)))⟩ hS1
  have ht := hft j hj
  unfold FR
  rw [List.getElem?_map, List.getElem?_range hj]
  have hg : gr (al w (10 + ci) 0 N) (nx w) j = none := by simp [gr, al, z2]
  have hi : gi (al w (10 + ci) 0 N) (nx w) j = 0 := by simp [gi, al, z2]
  rw [hg, hi]
  split
  · rename_i h1
    rw [h1] at ht
    rw [Option.map_some, ftk1 ht]
    exact ⟨rfl, fun b hb => by cases hb⟩
  · rename_i h1
    rw [Option.map_some, ftk0 ht h1]
    exact ⟨0, rfl, rfl⟩
theorem g_objinit (C : Cx p Rm s m args meth c B k d) {i a : Nat} (h : decode (mB k) pc = .ok (.invokespecial i, 3)) (hLn : L.length = mL k) (hr : st.length ≤ 8) (hw0 : Cond.methodLink (mOwn k) i Lib.objectInit ∈ gtbl) (hw1 : Cond.instanceMethod Lib.objectInit ∈ gtbl) (hw2 : Cond.code Lib.objectInit ⟨#[0xb1]⟩ 1 none ∈ gtbl) (g : Gw p l e Rm s m args below meth c Q D B n0 α0 cells slots (pc + 3) L st w) : Gw p l e Rm s m args below meth c Q D B n0 α0 cells slots pc L (.inr a :: st) w := by
  intro α ls stk H locs ha hl hs hw hS
  obtain ⟨_, rfl, hra, hs1⟩ := hs.cR
  have hT := C.2.2.2.2.1
  have hR := C.2.2.2.2.2.2.1
  refine W.objInit C.1 C.2.1 C.2.2.2.1 (hT _ hw0) (hT _ hw1) (hT _ hw2) rfl (by rw [C.2.2.1, ← hLn]; exact hl.len) rfl h (by omega) ?_ (g α ls _ H locs ha hl hs1 hw hS)
  show 2 * 0 + _ + 12 ≤ _
  rw [hs1.cat]
  omega
theorem g_max (C : Cx p Rm s m args meth c B k d) {i : Nat} {x y : Int} (h : decode (mB k) pc = .ok (.invokestatic i, 3)) (hLn : L.length = mL k) (hr : st.length ≤ 8) (hR : cells ≤ Rm.cells ∧ slots ≤ Rm.slots) (hw0 : Cond.methodLink (mOwn k) i Lib.Math.max.name ∈ gtbl) (hw1 : Cond.static Lib.Math.max.name ∈ gtbl) (hw2 : Cond.initialized "java/lang/Math" ∈ gtbl) (hw3 : Cond.code Lib.Math.max.name Lib.Math.max.code 2 (some .int) ∈ gtbl) (g : Gw p l e Rm s m args below meth c Q D B n0 α0 cells slots (pc + 3) L (.inl (maxI x y) :: st) w) : Gw p l e Rm s m args below meth c Q D B n0 α0 cells slots pc L (.inl y :: .inl x :: st) w := by
  intro α ls stk H locs ha hl hs hw hS
  obtain ⟨y1, _, rfl, rfl, hs1⟩ := hs.cI
  obtain ⟨x1, _, rfl, rfl, hs2⟩ := hs1.cI
  have hT := C.2.2.2.2.1
  have hRR := C.2.2.2.2.2.2.1
  refine va_mmax C.1 C.2.1 (by rw [C.2.2.1, ← hLn]; exact hl.len.symm) C.2.2.2.1 (hT _ hw0) (hT _ hw1) (hT _ hw2) (hT _ hw3) (by omega) (by rw [hs2.cat]; omega) hR.1 hR.2 h (g α ls _ H locs ha hl ⟨?_, hs2⟩ hw hS)
  show Int32.toInt (if x1 < y1 then y1 else x1) = maxI x1.toInt y1.toInt
  unfold maxI
  split <;> rename_i h9 <;> rw [Int32.lt_iff_toInt_lt] at h9
  · rw [if_pos h9]
  · rw [if_neg h9]
theorem g_min (C : Cx p Rm s m args meth c B k d) {i : Nat} {x y : Int} (h : decode (mB k) pc = .ok (.invokestatic i, 3)) (hLn : L.length = mL k) (hr : st.length ≤ 8) (hR : cells ≤ Rm.cells ∧ slots ≤ Rm.slots) (hw0 : Cond.methodLink (mOwn k) i Lib.Math.min.name ∈ gtbl) (hw1 : Cond.static Lib.Math.min.name ∈ gtbl) (hw2 : Cond.initialized "java/lang/Math" ∈ gtbl) (hw3 : Cond.code Lib.Math.min.name Lib.Math.min.code 2 (some .int) ∈ gtbl) (g : Gw p l e Rm s m args below meth c Q D B n0 α0 cells slots (pc + 3) L (.inl (minI x y) :: st) w) : Gw p l e Rm s m args below meth c Q D B n0 α0 cells slots pc L (.inl y :: .inl x :: st) w := by
  intro α ls stk H locs ha hl hs hw hS
  obtain ⟨y1, _, rfl, rfl, hs1⟩ := hs.cI
  obtain ⟨x1, _, rfl, rfl, hs2⟩ := hs1.cI
  have hT := C.2.2.2.2.1
  have hRR := C.2.2.2.2.2.2.1
  refine va_mmin C.1 C.2.1 (by rw [C.2.2.1, ← hLn]; exact hl.len.symm) C.2.2.2.1 (hT _ hw0) (hT _ hw1) (hT _ hw2) (hT _ hw3) (by omega) (by rw [hs2.cat]; omega) hR.1 hR.2 h (g α ls _ H locs ha hl ⟨?_, hs2⟩ hw hS)
  show Int32.toInt (if y1 < x1 then y1 else x1) = minI x1.toInt y1.toInt
  unfold minI
  split <;> rename_i h9 <;> rw [Int32.lt_iff_toInt_lt] at h9
  · rw [if_pos h9]
  · rw [if_neg h9]
theorem g_copy (C : Cx p Rm s m args meth c B k d) {i a b : Nat} {sp tp j : Int} (h : decode (mB k) pc = .ok (.invokestatic i, 3)) (hLn : L.length = mL k) (hr : st.length ≤ 8) (hw0 : Cond.methodLink (mOwn k) i arraycopyName ∈ gtbl) (hw1 : Cond.native arraycopyName ∈ gtbl) (hw2 : Cond.static arraycopyName ∈ gtbl) (hw3 : Cond.initialized "java/lang/System" ∈ gtbl) (hk : kd w a = 1 ∧ kd w b = 1 ∧ 0 ≤ sp ∧ 0 ≤ tp ∧ 0 ≤ j ∧ sp + j ≤ ln w a ∧ tp + j ≤ ln w b) (g : Gw p l e Rm s m args below meth c Q D B n0 α0 cells slots (pc + 3) L st (cpw w a sp.toNat b tp.toNat j.toNat)) : Gw p l e Rm s m args below meth c Q D B n0 α0 cells slots pc L (.inl j :: .inl tp :: .inr b :: .inl sp :: .inr a :: st) w := by
  intro α ls stk H locs ha hl hs hw hS
  obtain ⟨j1, _, rfl, rfl, hs1⟩ := hs.cI
  obtain ⟨t1, _, rfl, rfl, hs2⟩ := hs1.cI
  obtain ⟨_, rfl, hrb, hs3⟩ := hs2.cR
  obtain ⟨s1, _, rfl, rfl, hs4⟩ := hs3.cI
  obtain ⟨_, rfl, hra, hs5⟩ := hs4.cR
  obtain ⟨ws, tys, hw⟩ := hw
  obtain ⟨hka, hkb, h1, h2, h3, h4, h5⟩ := hk
  obtain ⟨cA, fA, tA, a1, a2, a3⟩ := hw.ia hka
  obtain ⟨cB, fB, tB, b1, b2, b3⟩ := hw.ia hkb
  have hrg := hw.rng (a := b) (by rw [hkb]; decide)
  have hT := C.2.2.2.2.1
  have hRR := C.2.2.2.2.2.2.1
  have hng : ∀ x : Int32, 0 ≤ x.toInt → ¬ x < 0 := fun x hx => by rw [Int32.lt_iff_toInt_lt]; simp only [Int32.toInt_zero]; omega
  refine va_copyi C.1 C.2.1 (by rw [C.2.2.1, ← hLn]; exact hl.len.symm) C.2.2.2.1 (hT _ hw0) (hT _ hw1) (hT _ hw2) (hT _ hw3) hw.1 hw.2.1 hw.2.2.1 hS _ _ tA tB a1 b1 a2 b2 rfl (hng _ h1) (hng _ h2) (hng _ h3) (by rw [clamp_toInt, clamp_toInt]; omega) (by rw [clamp_toInt, clamp_toInt]; omega) (fun _ _ => rfl) (by omega) (by rw [hs5.cat]; have e := nfw40; omega) h (fun H1 locs1 hP1 hD1 hS1 => g α ls _ H1 locs1 ha hl hs5 ⟨_, tys, hw.upd rfl (fun _ => rfl) (fun _ => rfl) hrg hP1 hD1 (fun x hx => ⟨fun i => ?_, fun i => rfl⟩) (Or.inl ⟨hkb, cB, _, tB, rfl, b2, fun i => ?_⟩)⟩ hS1)
  · show cp2 _ _ _ _ _ _ x i = _
    unfold cp2
    rw [if_neg (fun q => hx q.1)]
    rfl
  · show Int32.toInt (va_cpy _ _ _ _ _ i) = cp2 _ _ _ _ _ _ b i
    unfold cp2 va_cpy
    rw [clamp_toInt, clamp_toInt, clamp_toInt]
    by_cases hc : t1.toInt.toNat ≤ i ∧ i < t1.toInt.toNat + j1.toInt.toNat
    · rw [if_pos hc, if_pos ⟨rfl, hc⟩]
      exact a3 _
    · rw [if_neg hc, if_neg (fun q => hc q.2)]
      exact b3 i
end G4
end
section
/-! contracts of methods out of runs of the small machine; calls -/
def rmF (d mc ms : Nat) : Room := { frames := d + 1, cells := mc, slots := ms, locals := 64 * (d + 1) }
/-- the script, at the cell 0 -/
def SX (X : Nat × (Nat → Int)) (B : Nat) (α0 : Nat → Nat) (s : State) : Prop := ∃ xs : Nat → Int32, va_X (α0 0) X.1 xs s s.heap ∧ α0 0 < s.heap.size ∧ ¬ aB B (α0 0) ∧ ∀ i, (xs i).toInt = X.2 i
def QcM (D : va_G) (B : Nat) (α0 : Nat → Nat) (w w' : MW) (v : Option MV) : Array Value → State → Outcome → State → Prop := match v with
  | none => va_Qv (fun α' : Nat → Nat => ∀ a, a < nx w → α' a = α0 a) (fun α' t => WH α' D B w' t t.heap) (aB B)
  | some (.inl z) => va_Qi (fun (r : Int32) (α' : Nat → Nat) => r.toInt = z ∧ ∀ a, a < nx w → α' a = α0 a) (fun α' t => WH α' D B w' t t.heap) (aB B)
  | some (.inr z) => va_Qr (fun α' : Nat → Nat => ∀ a, a < nx w → α' a = α0 a) (fun α' q t => (q = α' z ∧ z < nx w') ∧ WH α' D B w' t t.heap) (aB B)
def PcM (X : Nat × (Nat → Int)) (D : va_G) (B : Nat) (α0 : Nat → Nat) (w : MW) (vals : List Value) : Array Value → State → Prop := va_Pc vals (fun U => B ≤ U.heap.size ∧ NW U ∧ WH α0 D B w U U.heap ∧ SX X B α0 U)
def MetK (X : Nat × (Nat → Int)) (l : Launch) (D : va_G) (B d k : Nat) (as : List MV) (w w' : MW) (v : Option MV) : Prop := as.length ≤ mL k → ∀ (α0 : Nat → Nat) (vals : List Value), SR α0 (nx w) as vals →
  Met l (mY k) (.code (mY k) (mB k) (mL k) (mRet k) :: gtbl) (rmF d (nx w' - nx w) (sl w' - sl w)) (PcM X D B α0 w vals) (QcM D B α0 w w' v) (nx w' - nx w) (sl w' - sl w) (aB B)
theorem goodG {ws : List Cond} (h : ∀ w ∈ ws, w ∈ gtbl) : GoodIn gtbl ws := fun w hw => ⟨h w hw, good_of_word (List.mem_filter.mp (h w hw)).2⟩
theorem blindM {X : Nat × (Nat → Int)} {D : va_G} {B : Nat} {α0 : Nat → Nat} {w : MW} {vals : List Value} : FrameBlind (PcM X D B α0 w vals) := by
  intro a U g mk q
  obtain ⟨q1, q2, q3, ⟨ws, tys, q4, q5⟩, xs, q6, q7⟩ := q
  exact ⟨q1, q2, q3.same rfl, ⟨ws, tys, va_K.moved (u := U) (U := U.calling g mk a) (Vm.Alike.refl U.vm) q4, q5⟩, xs, va_X.moved (u := U) (U := U.calling g mk a) (Vm.Alike.refl U.vm) q6, q7⟩
/-- what the tables must say of a callee -/
def CalleeOk (k1 n : Nat) : Prop := (.code (mY k1) (mB k1) (mL k1) (mRet k1) ∈ gtbl ∧ Cond.initialized (mY k1).cls ∈ gtbl) ∧ ((mY k1).cls ≠ "java/lang/invoke/MethodHandle" ∧ (mY k1).cls ≠ "java/lang/invoke/VarHandle" ∧ (parseMethodDescriptor (mY k1).desc).map (fun d => d.parameters.length) = some n) ∧ mL k1 ≤ 40
section G5
variable {X : Nat × (Nat → Int)} {p : Program} {l : Launch} {e : Env} {Rm : Room} {s : State} {m : MethodId} {args : Array Value} {below : List Frame} {meth : Method} {c : Code} {Q : State → Prop} {D : va_G} {B n0 : Nat} {α0 α : Nat → Nat} {cells slots pc k k1 d n j : Nat} {L : List (Option MV)} {st : List MV} {w w' : MW} {v : Option MV} {as : List MV} {As r : List Value} {ls : Array Slot} {H : Heap} {locs : List Loc}
theorem preM (C : Cx p Rm s m args meth c B k (d + 1)) (hw : WH α D B w s H) (hS : va_S (aB B) s.heap H locs) (hx : SX X B α0 s) (h0 : α 0 = α0 0) {vals : List Value} : ∀ U : State, U.heap = H → s.WarmedH U.vm → PcM X D B α w vals vals.toArray U := by
  intro U hU hW
  refine ⟨rfl, ?_, C.2.2.2.2.2.1.warm hW, ?_, ?_⟩
  · rw [hU]
    exact Nat.le_trans C.2.2.2.2.2.2.2.2 hS.1
  · rw [hU]
    exact hw.moved hW.alike
  · obtain ⟨xs, x1, x2, x3, x5⟩ := hx
    refine ⟨xs, ?_, ?_, by rw [h0]; exact x3, x5⟩
    · rw [hU, h0]
      exact va_X.moved hW.alike (x1.kept (hS.2.1 _ x2 x3))
    · rw [hU, h0]
      exact Nat.lt_of_lt_of_le x2 hS.1
theorem recvM {b ci : Nat} {Cn : String} {T : u_T} {N : Nat} (hw : WH α D B w s H) (hcl : vwCl[ci]? = some (Cn, T, N)) (hk : kd w b = 10 + ci) : ∃ cellB : Cell, H[α b]? = some cellB ∧ cellB.vm.isStatics = false ∧ s.vm.findClass Cn = some cellB.cls := by
  obtain ⟨ws, tys, hw⟩ := hw
  obtain ⟨r, fs, e1, e2, -⟩ := hw.ob hk
  exact va_recv hw.1 hw.2.1 hcl e1
theorem fixM (C : Cx p Rm s m args meth c B k d) : CallFix p m c (mB k) (mL k) s args gtbl (mOwn k) := ⟨C.1, C.2.1, C.2.2.1, C.2.2.2.1, C.2.2.2.2.1⟩
theorem roomM {mc ms : Nat} (C : Cx p Rm s m args meth c B k (d + 1)) (h : mL k1 ≤ 40) : (rmF d mc ms).frames + 1 ≤ Rm.frames ∧ 8 + (mL k1 + 11) + (rmF d mc ms).locals ≤ Rm.locals := by
  have := C.2.2.2.2.2.2.1
  constructor
  · show d + 1 + 1 ≤ _; omega
  · show 8 + (mL k1 + 11) + 64 * (d + 1) ≤ _; omega
theorem memM {w1 : Cond} (hc : CalleeOk k1 n) : ∀ w2 ∈ (Cond.code (mY k1) (mB k1) (mL k1) (mRet k1) :: gtbl), w2 ∈ gtbl := by
  intro w2 h2
  rcases List.mem_cons.mp h2 with h2 | h2
  · rw [h2]; exact hc.1.1
  · exact h2
theorem run_virt {b ci : Nat} {Cn : String} {T : u_T} {N : Nat} (C : Cx p Rm s m args meth c B k (d + 1)) (h : decode (mB k) pc = .ok (.invokevirtual j, 3)) (hM : MetK X l D B d k1 (.inr b :: as) w w' v) (hal : (Sum.inr b :: as : List MV).length ≤ mL k1) (hc : CalleeOk k1 n) (hw0 : Cond.methodLink (mOwn k) j (mY k1) ∈ gtbl) (hw1 : Cond.instanceMethod (mY k1) ∈ gtbl) (hw2 : Cond.selects (mY k1).cls (mY k1) (mY k1) ∈ gtbl)
    (hcl : vwCl[ci]? = some (Cn, T, N)) (hCn : Cn = (mY k1).cls) (hk : kd w b = 10 + ci) (hln : as.length = n) (hLn : L.length = mL k) (hr : st.length ≤ 8) (hmc : cells + (nx w' - nx w) ≤ Rm.cells ∧ slots + (sl w' - sl w) ≤ Rm.slots) (hl : LR α (nx w) L ls) (hs : SR α (nx w) (.inr b :: as) (.ref (α b) :: As)) (hs2 : SR α (nx w) st r) (hw : WH α D B w s H) (hS : va_S (aB B) s.heap H locs) (hx : SX X B α0 s) (h0 : α 0 = α0 0) :
    va_Run p l e Rm s m args below meth c H locs cells slots (nx w' - nx w) (sl w' - sl w) (F0 m pc ls (As.reverse ++ .ref (α b) :: r)) r (QcM D B α w w' v (Value.ref (α b) :: As).toArray) (aB B) := by
  subst hCn
  refine va_runV (As := As) (rest := r) (n := n) (C := (mY k1).cls) (fixM C) (hM hal α _ hs) (cwV n C.2.2.2.2.1 (goodG ?_) rfl rfl rfl ⟨rfl, hc.2.1⟩ (roomM C hc.2.2)) ⟨blindM, recvM hw hcl hk, preM C hw hS hx h0⟩ rfl ?_ (by show ls.size = _; rw [hl.len]; exact hLn) rfl (lv_room (by rw [hs2.cat]; exact hr)) h hmc
  · intro w2 h2
    unfold wsV at h2
    rcases List.mem_append.mp h2 with h2 | h2
    · simp only [List.mem_cons, List.not_mem_nil, or_false] at h2
      rcases h2 with rfl | rfl | rfl | rfl
      · exact hw0
      · exact hw1
      · exact hw2
      · exact hc.1.2
    · exact memM (w1 := .tt) hc w2 h2
  · have := hs.2.len
    rw [this]; exact hln
theorem run_stat (C : Cx p Rm s m args meth c B k (d + 1)) (h : decode (mB k) pc = .ok (.invokestatic j, 3)) (hM : MetK X l D B d k1 as w w' v) (hal : as.length ≤ mL k1) (hc : CalleeOk k1 n) (hw0 : Cond.methodLink (mOwn k) j (mY k1) ∈ gtbl) (hw1 : Cond.static (mY k1) ∈ gtbl)
    (hln : as.length = n) (hLn : L.length = mL k) (hr : st.length ≤ 8) (hmc : cells + (nx w' - nx w) ≤ Rm.cells ∧ slots + (sl w' - sl w) ≤ Rm.slots) (hl : LR α (nx w) L ls) (hs : SR α (nx w) as As) (hs2 : SR α (nx w) st r) (hw : WH α D B w s H) (hS : va_S (aB B) s.heap H locs) (hx : SX X B α0 s) (h0 : α 0 = α0 0) :
    va_Run p l e Rm s m args below meth c H locs cells slots (nx w' - nx w) (sl w' - sl w) (F0 m pc ls (As.reverse ++ r)) r (QcM D B α w w' v As.toArray) (aB B) := by
  refine va_runS (As := As) (rest := r) (n := n) (fixM C) (hM hal α _ hs) (va_cwS n C.2.2.2.2.1 (goodG ?_) rfl rfl rfl hc.2.1 (roomM C hc.2.2)) ⟨blindM, preM C hw hS hx h0⟩ rfl ?_ (by show ls.size = _; rw [hl.len]; exact hLn) rfl (lv_room (by rw [hs2.cat]; exact hr)) h hmc
  · intro w2 h2
    unfold va_wsS at h2
    rcases List.mem_append.mp h2 with h2 | h2
    · simp only [List.mem_cons, List.not_mem_nil, or_false] at h2
      rcases h2 with rfl | rfl | rfl
      · exact hw0
      · exact hw1
      · exact hc.1.2
    · exact memM (w1 := .tt) hc w2 h2
  · rw [hs.len]; exact hln
theorem run_statN {host : String} (C : Cx p Rm s m args meth c B k (d + 1)) (h : decode (mB k) pc = .ok (.invokestatic j, 3)) (hM : MetK X l D B d k1 as w w' v) (hal : as.length ≤ mL k1) (hc : CalleeOk k1 n) (hw0 : va_Nw (.methodLinkNest (mOwn k) j (mY k1) host) s) (hw1 : Cond.static (mY k1) ∈ gtbl)
    (hln : as.length = n) (hLn : L.length = mL k) (hr : st.length ≤ 8) (hmc : cells + (nx w' - nx w) ≤ Rm.cells ∧ slots + (sl w' - sl w) ≤ Rm.slots) (hl : LR α (nx w) L ls) (hs : SR α (nx w) as As) (hs2 : SR α (nx w) st r) (hw : WH α D B w s H) (hS : va_S (aB B) s.heap H locs) (hx : SX X B α0 s) (h0 : α 0 = α0 0) :
    va_Run p l e Rm s m args below meth c H locs cells slots (nx w' - nx w) (sl w' - sl w) (F0 m pc ls (As.reverse ++ r)) r (QcM D B α w w' v As.toArray) (aB B) := by
  refine va_runSN (As := As) (rest := r) (n := n) (fixM C) (hM hal α _ hs) ⟨va_cnB n C.2.2.2.2.1 (goodG (memM (w1 := .tt) hc)) rfl rfl rfl hw0 (C.2.2.2.2.1 _ hc.1.2) hc.2.1 (roomM C hc.2.2), C.2.2.2.2.1 _ hw1, trivial⟩ ⟨blindM, preM C hw hS hx h0⟩ rfl ?_ (by show ls.size = _; rw [hl.len]; exact hLn) rfl (lv_room (by rw [hs2.cat]; exact hr)) h hmc
  rw [hs.len]; exact hln
theorem run_init {b : Nat} (C : Cx p Rm s m args meth c B k (d + 1)) (h : decode (mB k) pc = .ok (.invokespecial j, 3)) (hM : MetK X l D B d k1 (.inr b :: as) w w' v) (hal : (Sum.inr b :: as : List MV).length ≤ mL k1) (hc : CalleeOk k1 n) (hw0 : Cond.methodLink (mOwn k) j (mY k1) ∈ gtbl) (hw1 : Cond.instanceMethod (mY k1) ∈ gtbl) (hnm : (mY k1).name = "<init>") (hrt : mRet k1 = none)
    (hln : as.length = n) (hLn : L.length = mL k) (hr : st.length ≤ 8) (hmc : cells + (nx w' - nx w) ≤ Rm.cells ∧ slots + (sl w' - sl w) ≤ Rm.slots) (hl : LR α (nx w) L ls) (hs : SR α (nx w) (.inr b :: as) (.ref (α b) :: As)) (hs2 : SR α (nx w) st r) (hw : WH α D B w s H) (hS : va_S (aB B) s.heap H locs) (hx : SX X B α0 s) (h0 : α 0 = α0 0) :
    va_Run p l e Rm s m args below meth c H locs cells slots (nx w' - nx w) (sl w' - sl w) (F0 m pc ls (As.reverse ++ .ref (α b) :: r)) r (QcM D B α w w' v (Value.ref (α b) :: As).toArray) (aB B) := by
  have hM2 := hM hal α _ hs
  have hc2 := hc.1.1
  have hmem := memM (w1 := .tt) hc
  rw [hrt] at hM2 hmem
  refine va_runI (As := As) (rest := r) (n := n) (fixM C) hM2 (cwI n C.2.2.2.2.1 (goodG hmem) rfl rfl rfl (C.2.2.2.2.1 _ hc.1.2) (C.2.2.2.2.1 _ hw0) (C.2.2.2.2.1 _ hw1) hnm hc.2.1 (roomM C hc.2.2)) ⟨blindM, preM C hw hS hx h0⟩ rfl ?_ (by show ls.size = _; rw [hl.len]; exact hLn) rfl (lv_room (by rw [hs2.cat]; exact hr)) h hmc
  have := hs.2.len
  rw [this]; exact hln
theorem run_initN {b : Nat} {host : String} (C : Cx p Rm s m args meth c B k (d + 1)) (h : decode (mB k) pc = .ok (.invokespecial j, 3)) (hM : MetK X l D B d k1 (.inr b :: as) w w' v) (hal : (Sum.inr b :: as : List MV).length ≤ mL k1) (hc : CalleeOk k1 n) (hw0 : va_Nw (.methodLinkNest (mOwn k) j (mY k1) host) s) (hw1 : Cond.instanceMethod (mY k1) ∈ gtbl) (hnm : (mY k1).name = "<init>") (hrt : mRet k1 = none)
    (hln : as.length = n) (hLn : L.length = mL k) (hr : st.length ≤ 8) (hmc : cells + (nx w' - nx w) ≤ Rm.cells ∧ slots + (sl w' - sl w) ≤ Rm.slots) (hl : LR α (nx w) L ls) (hs : SR α (nx w) (.inr b :: as) (.ref (α b) :: As)) (hs2 : SR α (nx w) st r) (hw : WH α D B w s H) (hS : va_S (aB B) s.heap H locs) (hx : SX X B α0 s) (h0 : α 0 = α0 0) :
    va_Run p l e Rm s m args below meth c H locs cells slots (nx w' - nx w) (sl w' - sl w) (F0 m pc ls (As.reverse ++ .ref (α b) :: r)) r (QcM D B α w w' v (Value.ref (α b) :: As).toArray) (aB B) := by
  have hM2 := hM hal α _ hs
  have hmem := memM (w1 := .tt) hc
  rw [hrt] at hM2 hmem
  refine va_runIN (As := As) (rest := r) (n := n) (fixM C) hM2 ⟨va_cnB n C.2.2.2.2.1 (goodG hmem) rfl rfl rfl hw0 (C.2.2.2.2.1 _ hc.1.2) hc.2.1 (roomM C hc.2.2), hnm, C.2.2.2.2.1 _ hw1⟩ ⟨blindM, preM C hw hS hx h0⟩ rfl ?_ (by show ls.size = _; rw [hl.len]; exact hLn) rfl (lv_room (by rw [hs2.cat]; exact hr)) h hmc
  have := hs.2.len
  rw [this]; exact hln
/-- behind a call -/
theorem g_back {kind : Nat} {st2 : List MV} {stk : List Value} {a : Array Value} {mc ms : Nat} (hrun : va_Run p l e Rm s m args below meth c H locs cells slots mc ms (F0 m pc ls stk) r (QcM D B α w w' v a) (aB B)) (hp : pushR kind v st = some st2) (hn0 : n0 ≤ nx w) (hnn : nx w ≤ nx w')
    (ha : ∀ a, a < n0 → α a = α0 a) (hl : LR α (nx w) L ls) (hs2 : SR α (nx w) st r) (hS : va_S (aB B) s.heap H locs) (g : Gw p l e Rm s m args below meth c Q D B n0 α0 (cells + mc) (slots + ms) (pc + 3) L st2 w') : W p l e Rm s m args below meth c H locs cells slots Q (F0 m pc ls stk) := by
  rcases v with _ | z | z
  · have : st2 = st := by
      unfold pushR at hp
      split at hp <;> simp_all
    subst this
    refine va_callv (a := a) hrun hS (fun _ _ h => h) (fun _ h => h) (fun u t H1 locs1 ht hvm hq hB hz hk hS1 => ?_)
    rw [ht] at hB
    exact g u ls r H1 locs1 (fun x hx => by rw [hq x (by omega)]; exact ha x hx) (hl.mono hnn hq) (hs2.mono hnn hq) (hB.moved hvm.symm) hS1
  · have : st2 = .inl z :: st := by
      unfold pushR at hp
      split at hp <;> simp_all
    subst this
    refine va_calli (a := a) hrun hS (fun _ _ h => h) (fun _ h => h) (fun x u t H1 locs1 ht hvm hq hB hz hk hS1 => ?_)
    rw [ht] at hB
    exact g u ls _ H1 locs1 (fun x hx => by rw [hq.2 x (by omega)]; exact ha x hx) (hl.mono hnn hq.2) ⟨hq.1, hs2.mono hnn hq.2⟩ (hB.moved hvm.symm) hS1
  · have : st2 = .inr z :: st := by
      unfold pushR at hp
      split at hp <;> simp_all
    subst this
    refine va_callr (a := a) hrun hS (fun _ _ h => h) (fun _ h => h) (fun u x t H1 locs1 ht hvm hq hB hz hk hS1 => ?_)
    obtain ⟨hB1, hB⟩ := hB
    rw [ht] at hB
    exact g u ls _ H1 locs1 (fun x hx => by rw [hq x (by omega)]; exact ha x hx) (hl.mono hnn hq) ⟨hB1, hs2.mono hnn hq⟩ (hB.moved hvm.symm) hS1
end G5
end
section
/-! the check of the code tables against the machine's bytes and words -/
def wk (pl : Nat) (w : Cond) : Bool := decide (lw_tbl[pl]? = some w) && goodWord w
theorem wk_mem {pl : Nat} {w : Cond} (h : wk pl w = true) : w ∈ gtbl := by
  unfold wk at h
  rw [Bool.and_eq_true, decide_eq_true_eq] at h
  exact List.mem_filter.mpr ⟨List.mem_of_getElem? h.1, h.2⟩
theorem gmem {w : Cond} (pl : Nat) (h : lw_tbl[pl]? = some w) (hg : goodWord w = true) : w ∈ gtbl := List.mem_filter.mpr ⟨List.mem_of_getElem? h, hg⟩
def npsL : List (List Nat) := [[1, 0, 1, 0, 1, 0, 1, 3, 2, 4, 0, 1, 4, 1, 2, 1], [0, 1, 0, 0, 0, 1, 1, 0, 1, 2, 2, 3, 1, 1, 1, 2], [1, 1, 2, 1, 1, 2, 2, 1, 1, 0, 2, 0, 0, 0, 0, 0], [0, 0, 0, 0, 0, 0, 2, 1, 1, 1, 3, 3, 1, 1, 0, 2], [2, 2, 4, 2, 1, 2, 0, 2, 0, 1, 3, 2, 0, 1, 0, 2], [0, 0, 0, 0, 0, 2, 2, 1, 2, 1, 2, 1, 2, 3, 1, 1], [1, 1, 1, 2, 1, 2, 2, 3, 2, 1, 3]]
def nps (k : Nat) : Nat := (npsL.getD (k / 16) []).getD (k % 16) 99
set_option maxRecDepth 20000 in
theorem cok1 : CalleeOk 1 0 := ⟨⟨gmem 79 rfl rfl, gmem 26 rfl rfl⟩, by decide +kernel, by decide +kernel⟩
set_option maxRecDepth 20000 in
theorem cok2 : CalleeOk 2 1 := ⟨⟨gmem 368 rfl rfl, gmem 26 rfl rfl⟩, by decide +kernel, by decide +kernel⟩
set_option maxRecDepth 20000 in
theorem cok3 : CalleeOk 3 0 := ⟨⟨gmem 372 rfl rfl, gmem 26 rfl rfl⟩, by decide +kernel, by decide +kernel⟩
set_option maxRecDepth 20000 in
theorem cok4 : CalleeOk 4 1 := ⟨⟨gmem 437 rfl rfl, gmem 26 rfl rfl⟩, by decide +kernel, by decide +kernel⟩
set_option maxRecDepth 20000 in
theorem cok5 : CalleeOk 5 0 := ⟨⟨gmem 123 rfl rfl, gmem 28 rfl rfl⟩, by decide +kernel, by decide +kernel⟩
set_option maxRecDepth 20000 in
theorem cok6 : CalleeOk 6 1 := ⟨⟨gmem 267 rfl rfl, gmem 28 rfl rfl⟩, by decide +kernel, by decide +kernel⟩
set_option maxRecDepth 20000 in
theorem cok7 : CalleeOk 7 3 := ⟨⟨gmem 271 rfl rfl, gmem 28 rfl rfl⟩, by decide +kernel, by decide +kernel⟩
set_option maxRecDepth 20000 in
theorem cok8 : CalleeOk 8 2 := ⟨⟨gmem 282 rfl rfl, gmem 28 rfl rfl⟩, by decide +kernel, by decide +kernel⟩
set_option maxRecDepth 20000 in
theorem cok9 : CalleeOk 9 4 := ⟨⟨gmem 279 rfl rfl, gmem 28 rfl rfl⟩, by decide +kernel, by decide +kernel⟩
set_option maxRecDepth 20000 in
theorem cok10 : CalleeOk 10 0 := ⟨⟨gmem 150 rfl rfl, gmem 29 rfl rfl⟩, by decide +kernel, by decide +kernel⟩
set_option maxRecDepth 20000 in
theorem cok11 : CalleeOk 11 1 := ⟨⟨gmem 300 rfl rfl, gmem 29 rfl rfl⟩, by decide +kernel, by decide +kernel⟩
set_option maxRecDepth 20000 in
theorem cok12 : CalleeOk 12 4 := ⟨⟨gmem 316 rfl rfl, gmem 29 rfl rfl⟩, by decide +kernel, by decide +kernel⟩
set_option maxRecDepth 20000 in
theorem cok13 : CalleeOk 13 1 := ⟨⟨gmem 333 rfl rfl, gmem 29 rfl rfl⟩, by decide +kernel, by decide +kernel⟩
set_option maxRecDepth 20000 in
theorem cok14 : CalleeOk 14 2 := ⟨⟨gmem 337 rfl rfl, gmem 29 rfl rfl⟩, by decide +kernel, by decide +kernel⟩
set_option maxRecDepth 20000 in
theorem cok15 : CalleeOk 15 1 := ⟨⟨gmem 345 rfl rfl, gmem 29 rfl rfl⟩, by decide +kernel, by decide +kernel⟩
set_option maxRecDepth 20000 in
theorem cok16 : CalleeOk 16 0 := ⟨⟨gmem 329 rfl rfl, gmem 29 rfl rfl⟩, by decide +kernel, by decide +kernel⟩
set_option maxRecDepth 20000 in
theorem cok17 : CalleeOk 17 1 := ⟨⟨gmem 501 rfl rfl, gmem 29 rfl rfl⟩, by decide +kernel, by decide +kernel⟩
set_option maxRecDepth 20000 in
theorem cok18 : CalleeOk 18 0 := ⟨⟨gmem 341 rfl rfl, gmem 29 rfl rfl⟩, by decide +kernel, by decide +kernel⟩
set_option maxRecDepth 20000 in
theorem cok19 : CalleeOk 19 0 := ⟨⟨gmem 349 rfl rfl, gmem 29 rfl rfl⟩, by decide +kernel, by decide +kernel⟩
set_option maxRecDepth 20000 in
theorem cok20 : CalleeOk 20 0 := ⟨⟨gmem 321 rfl rfl, gmem 29 rfl rfl⟩, by decide +kernel, by decide +kernel⟩
set_option maxRecDepth 20000 in
theorem cok21 : CalleeOk 21 1 := ⟨⟨gmem 497 rfl rfl, gmem 29 rfl rfl⟩, by decide +kernel, by decide +kernel⟩
set_option maxRecDepth 20000 in
theorem cok22 : CalleeOk 22 1 := ⟨⟨gmem 325 rfl rfl, gmem 29 rfl rfl⟩, by decide +kernel, by decide +kernel⟩
set_option maxRecDepth 20000 in
theorem cok23 : CalleeOk 23 0 := ⟨⟨gmem 45 rfl rfl, gmem 25 rfl rfl⟩, by decide +kernel, by decide +kernel⟩
set_option maxRecDepth 20000 in
theorem cok24 : CalleeOk 24 1 := ⟨⟨gmem 62 rfl rfl, gmem 25 rfl rfl⟩, by decide +kernel, by decide +kernel⟩
set_option maxRecDepth 20000 in
theorem cok25 : CalleeOk 25 2 := ⟨⟨gmem 275 rfl rfl, gmem 25 rfl rfl⟩, by decide +kernel, by decide +kernel⟩
set_option maxRecDepth 20000 in
theorem cok26 : CalleeOk 26 2 := ⟨⟨gmem 286 rfl rfl, gmem 25 rfl rfl⟩, by decide +kernel, by decide +kernel⟩
set_option maxRecDepth 20000 in
theorem cok27 : CalleeOk 27 3 := ⟨⟨gmem 58 rfl rfl, gmem 25 rfl rfl⟩, by decide +kernel, by decide +kernel⟩
set_option maxRecDepth 20000 in
theorem cok28 : CalleeOk 28 1 := ⟨⟨gmem 50 rfl rfl, gmem 25 rfl rfl⟩, by decide +kernel, by decide +kernel⟩
set_option maxRecDepth 20000 in
theorem cok29 : CalleeOk 29 1 := ⟨⟨gmem 54 rfl rfl, gmem 25 rfl rfl⟩, by decide +kernel, by decide +kernel⟩
set_option maxRecDepth 20000 in
theorem cok30 : CalleeOk 30 1 := ⟨⟨gmem 256 rfl rfl, gmem 25 rfl rfl⟩, by decide +kernel, by decide +kernel⟩
set_option maxRecDepth 20000 in
theorem cok31 : CalleeOk 31 2 := ⟨⟨gmem 402 rfl rfl, gmem 25 rfl rfl⟩, by decide +kernel, by decide +kernel⟩
set_option maxRecDepth 20000 in
theorem cok32 : CalleeOk 32 1 := ⟨⟨gmem 378 rfl rfl, gmem 25 rfl rfl⟩, by decide +kernel, by decide +kernel⟩
set_option maxRecDepth 20000 in
theorem cok33 : CalleeOk 33 1 := ⟨⟨gmem 382 rfl rfl, gmem 25 rfl rfl⟩, by decide +kernel, by decide +kernel⟩
set_option maxRecDepth 20000 in
theorem cok34 : CalleeOk 34 2 := ⟨⟨gmem 385 rfl rfl, gmem 25 rfl rfl⟩, by decide +kernel, by decide +kernel⟩
set_option maxRecDepth 20000 in
theorem cok35 : CalleeOk 35 1 := ⟨⟨gmem 414 rfl rfl, gmem 25 rfl rfl⟩, by decide +kernel, by decide +kernel⟩
set_option maxRecDepth 20000 in
theorem cok36 : CalleeOk 36 1 := ⟨⟨gmem 417 rfl rfl, gmem 25 rfl rfl⟩, by decide +kernel, by decide +kernel⟩
set_option maxRecDepth 20000 in
theorem cok37 : CalleeOk 37 2 := ⟨⟨gmem 420 rfl rfl, gmem 25 rfl rfl⟩, by decide +kernel, by decide +kernel⟩
set_option maxRecDepth 20000 in
theorem cok38 : CalleeOk 38 2 := ⟨⟨gmem 308 rfl rfl, gmem 25 rfl rfl⟩, by decide +kernel, by decide +kernel⟩
set_option maxRecDepth 20000 in
theorem cok39 : CalleeOk 39 1 := ⟨⟨gmem 304 rfl rfl, gmem 25 rfl rfl⟩, by decide +kernel, by decide +kernel⟩
set_option maxRecDepth 20000 in
theorem cok40 : CalleeOk 40 1 := ⟨⟨gmem 482 rfl rfl, gmem 25 rfl rfl⟩, by decide +kernel, by decide +kernel⟩
set_option maxRecDepth 20000 in
theorem cok41 : CalleeOk 41 0 := ⟨⟨gmem 295 rfl rfl, gmem 25 rfl rfl⟩, by decide +kernel, by decide +kernel⟩
set_option maxRecDepth 20000 in
theorem cok42 : CalleeOk 42 2 := ⟨⟨gmem 428 rfl rfl, gmem 25 rfl rfl⟩, by decide +kernel, by decide +kernel⟩
set_option maxRecDepth 20000 in
theorem cok43 : CalleeOk 43 0 := ⟨⟨gmem 96 rfl rfl, gmem 27 rfl rfl⟩, by decide +kernel, by decide +kernel⟩
set_option maxRecDepth 20000 in
theorem cok53 : CalleeOk 53 0 := ⟨⟨gmem 175 rfl rfl, gmem 30 rfl rfl⟩, by decide +kernel, by decide +kernel⟩
set_option maxRecDepth 20000 in
theorem cok54 : CalleeOk 54 2 := ⟨⟨gmem 515 rfl rfl, gmem 30 rfl rfl⟩, by decide +kernel, by decide +kernel⟩
set_option maxRecDepth 20000 in
theorem cok55 : CalleeOk 55 1 := ⟨⟨gmem 519 rfl rfl, gmem 30 rfl rfl⟩, by decide +kernel, by decide +kernel⟩
set_option maxRecDepth 20000 in
theorem cok56 : CalleeOk 56 1 := ⟨⟨gmem 524 rfl rfl, gmem 30 rfl rfl⟩, by decide +kernel, by decide +kernel⟩
set_option maxRecDepth 20000 in
theorem cok57 : CalleeOk 57 1 := ⟨⟨gmem 528 rfl rfl, gmem 30 rfl rfl⟩, by decide +kernel, by decide +kernel⟩
set_option maxRecDepth 20000 in
theorem cok58 : CalleeOk 58 3 := ⟨⟨gmem 536 rfl rfl, gmem 30 rfl rfl⟩, by decide +kernel, by decide +kernel⟩
set_option maxRecDepth 20000 in
theorem cok59 : CalleeOk 59 3 := ⟨⟨gmem 540 rfl rfl, gmem 30 rfl rfl⟩, by decide +kernel, by decide +kernel⟩
set_option maxRecDepth 20000 in
theorem cok60 : CalleeOk 60 1 := ⟨⟨gmem 532 rfl rfl, gmem 30 rfl rfl⟩, by decide +kernel, by decide +kernel⟩
set_option maxRecDepth 20000 in
theorem cok61 : CalleeOk 61 1 := ⟨⟨gmem 548 rfl rfl, gmem 30 rfl rfl⟩, by decide +kernel, by decide +kernel⟩
set_option maxRecDepth 20000 in
theorem cok62 : CalleeOk 62 0 := ⟨⟨gmem 544 rfl rfl, gmem 30 rfl rfl⟩, by decide +kernel, by decide +kernel⟩
set_option maxRecDepth 20000 in
theorem cok63 : CalleeOk 63 2 := ⟨⟨gmem 552 rfl rfl, gmem 30 rfl rfl⟩, by decide +kernel, by decide +kernel⟩
set_option maxRecDepth 20000 in
theorem cok64 : CalleeOk 64 2 := ⟨⟨gmem 559 rfl rfl, gmem 30 rfl rfl⟩, by decide +kernel, by decide +kernel⟩
set_option maxRecDepth 20000 in
theorem cok65 : CalleeOk 65 2 := ⟨⟨gmem 563 rfl rfl, gmem 30 rfl rfl⟩, by decide +kernel, by decide +kernel⟩
set_option maxRecDepth 20000 in
theorem cok66 : CalleeOk 66 4 := ⟨⟨gmem 578 rfl rfl, gmem 30 rfl rfl⟩, by decide +kernel, by decide +kernel⟩
set_option maxRecDepth 20000 in
theorem cok67 : CalleeOk 67 2 := ⟨⟨gmem 567 rfl rfl, gmem 30 rfl rfl⟩, by decide +kernel, by decide +kernel⟩
set_option maxRecDepth 20000 in
theorem cok68 : CalleeOk 68 1 := ⟨⟨gmem 582 rfl rfl, gmem 30 rfl rfl⟩, by decide +kernel, by decide +kernel⟩
set_option maxRecDepth 20000 in
theorem cok69 : CalleeOk 69 2 := ⟨⟨gmem 571 rfl rfl, gmem 30 rfl rfl⟩, by decide +kernel, by decide +kernel⟩
set_option maxRecDepth 20000 in
theorem cok70 : CalleeOk 70 0 := ⟨⟨gmem 37 rfl rfl, gmem 24 rfl rfl⟩, by decide +kernel, by decide +kernel⟩
set_option maxRecDepth 20000 in
theorem cok71 : CalleeOk 71 2 := ⟨⟨gmem 364 rfl rfl, gmem 24 rfl rfl⟩, by decide +kernel, by decide +kernel⟩
set_option maxRecDepth 20000 in
theorem cok72 : CalleeOk 72 0 := ⟨⟨gmem 389 rfl rfl, gmem 24 rfl rfl⟩, by decide +kernel, by decide +kernel⟩
set_option maxRecDepth 20000 in
theorem cok73 : CalleeOk 73 1 := ⟨⟨gmem 394 rfl rfl, gmem 24 rfl rfl⟩, by decide +kernel, by decide +kernel⟩
set_option maxRecDepth 20000 in
theorem cok74 : CalleeOk 74 3 := ⟨⟨gmem 451 rfl rfl, gmem 24 rfl rfl⟩, by decide +kernel, by decide +kernel⟩
set_option maxRecDepth 20000 in
theorem cok75 : CalleeOk 75 2 := ⟨⟨gmem 445 rfl rfl, gmem 24 rfl rfl⟩, by decide +kernel, by decide +kernel⟩
set_option maxRecDepth 20000 in
theorem cok77 : CalleeOk 77 1 := ⟨⟨gmem 406 rfl rfl, gmem 24 rfl rfl⟩, by decide +kernel, by decide +kernel⟩
set_option maxRecDepth 20000 in
theorem cok78 : CalleeOk 78 0 := ⟨⟨gmem 410 rfl rfl, gmem 24 rfl rfl⟩, by decide +kernel, by decide +kernel⟩
set_option maxRecDepth 20000 in
theorem cok79 : CalleeOk 79 2 := ⟨⟨gmem 424 rfl rfl, gmem 24 rfl rfl⟩, by decide +kernel, by decide +kernel⟩
set_option maxRecDepth 20000 in
theorem cok82 : CalleeOk 82 0 := ⟨⟨gmem 433 rfl rfl, gmem 24 rfl rfl⟩, by decide +kernel, by decide +kernel⟩
set_option maxRecDepth 20000 in
theorem cok83 : CalleeOk 83 0 := ⟨⟨gmem 252 rfl rfl, gmem 24 rfl rfl⟩, by decide +kernel, by decide +kernel⟩
set_option maxRecDepth 20000 in
theorem cok84 : CalleeOk 84 0 := ⟨⟨gmem 441 rfl rfl, gmem 24 rfl rfl⟩, by decide +kernel, by decide +kernel⟩
set_option maxRecDepth 20000 in
theorem cok85 : CalleeOk 85 2 := ⟨⟨gmem 458 rfl rfl, gmem 24 rfl rfl⟩, by decide +kernel, by decide +kernel⟩
set_option maxRecDepth 20000 in
theorem cok86 : CalleeOk 86 2 := ⟨⟨gmem 465 rfl rfl, gmem 24 rfl rfl⟩, by decide +kernel, by decide +kernel⟩
set_option maxRecDepth 20000 in
theorem cok87 : CalleeOk 87 1 := ⟨⟨gmem 263 rfl rfl, gmem 24 rfl rfl⟩, by decide +kernel, by decide +kernel⟩
set_option maxRecDepth 20000 in
theorem cok88 : CalleeOk 88 2 := ⟨⟨gmem 475 rfl rfl, gmem 24 rfl rfl⟩, by decide +kernel, by decide +kernel⟩
set_option maxRecDepth 20000 in
theorem cok89 : CalleeOk 89 1 := ⟨⟨gmem 470 rfl rfl, gmem 24 rfl rfl⟩, by decide +kernel, by decide +kernel⟩
set_option maxRecDepth 20000 in
theorem cok90 : CalleeOk 90 2 := ⟨⟨gmem 493 rfl rfl, gmem 24 rfl rfl⟩, by decide +kernel, by decide +kernel⟩
set_option maxRecDepth 20000 in
theorem cok91 : CalleeOk 91 1 := ⟨⟨gmem 508 rfl rfl, gmem 24 rfl rfl⟩, by decide +kernel, by decide +kernel⟩
set_option maxRecDepth 20000 in
theorem cok92 : CalleeOk 92 2 := ⟨⟨gmem 587 rfl rfl, gmem 24 rfl rfl⟩, by decide +kernel, by decide +kernel⟩
set_option maxRecDepth 20000 in
theorem cok93 : CalleeOk 93 3 := ⟨⟨gmem 595 rfl rfl, gmem 24 rfl rfl⟩, by decide +kernel, by decide +kernel⟩
set_option maxRecDepth 20000 in
theorem cok94 : CalleeOk 94 1 := ⟨⟨gmem 291 rfl rfl, gmem 24 rfl rfl⟩, by decide +kernel, by decide +kernel⟩
set_option maxRecDepth 20000 in
theorem cok95 : CalleeOk 95 1 := ⟨⟨gmem 312 rfl rfl, gmem 24 rfl rfl⟩, by decide +kernel, by decide +kernel⟩
set_option maxRecDepth 20000 in
theorem cok96 : CalleeOk 96 1 := ⟨⟨gmem 398 rfl rfl, gmem 24 rfl rfl⟩, by decide +kernel, by decide +kernel⟩
set_option maxRecDepth 20000 in
theorem cok97 : CalleeOk 97 1 := ⟨⟨gmem 461 rfl rfl, gmem 24 rfl rfl⟩, by decide +kernel, by decide +kernel⟩
set_option maxRecDepth 20000 in
theorem cok98 : CalleeOk 98 1 := ⟨⟨gmem 511 rfl rfl, gmem 24 rfl rfl⟩, by decide +kernel, by decide +kernel⟩
set_option maxRecDepth 20000 in
theorem cok99 : CalleeOk 99 2 := ⟨⟨gmem 591 rfl rfl, gmem 24 rfl rfl⟩, by decide +kernel, by decide +kernel⟩
set_option maxRecDepth 20000 in
theorem cok100 : CalleeOk 100 1 := ⟨⟨gmem 486 rfl rfl, gmem 24 rfl rfl⟩, by decide +kernel, by decide +kernel⟩
set_option maxRecDepth 20000 in
theorem cok101 : CalleeOk 101 2 := ⟨⟨gmem 352 rfl rfl, gmem 23 rfl rfl⟩, by decide +kernel, by decide +kernel⟩
set_option maxRecDepth 20000 in
theorem cok102 : CalleeOk 102 2 := ⟨⟨gmem 356 rfl rfl, gmem 23 rfl rfl⟩, by decide +kernel, by decide +kernel⟩
set_option maxRecDepth 20000 in
theorem cok103 : CalleeOk 103 3 := ⟨⟨gmem 360 rfl rfl, gmem 23 rfl rfl⟩, by decide +kernel, by decide +kernel⟩
set_option maxRecDepth 20000 in
theorem cok104 : CalleeOk 104 2 := ⟨⟨gmem 454 rfl rfl, gmem 23 rfl rfl⟩, by decide +kernel, by decide +kernel⟩
set_option maxRecDepth 20000 in
theorem cok105 : CalleeOk 105 1 := ⟨⟨gmem 489 rfl rfl, gmem 23 rfl rfl⟩, by decide +kernel, by decide +kernel⟩
set_option maxRecDepth 20000 in
theorem cok106 : CalleeOk 106 3 := ⟨⟨gmem 504 rfl rfl, gmem 23 rfl rfl⟩, by decide +kernel, by decide +kernel⟩
def cks : List Nat := [1, 2, 3, 4, 5, 6, 7, 8, 9, 10, 11, 12, 13, 14, 15, 16, 17, 18, 19, 20, 21, 22, 23, 24, 25, 26, 27, 28, 29, 30, 31, 32, 33, 34, 35, 36, 37, 38, 39, 40, 41, 42, 43, 53, 54, 55, 56, 57, 58, 59, 60, 61, 62, 63, 64, 65, 66, 67, 68, 69, 70, 71, 72, 73, 74, 75, 77, 78, 79, 82, 83, 84, 85, 86, 87, 88, 89, 90, 91, 92, 93, 94, 95, 96, 97, 98, 99, 100, 101, 102, 103, 104, 105, 106]
set_option maxRecDepth 20000 in
theorem cokAll : ∀ k ∈ cks, CalleeOk k (nps k) := List.forall_mem_cons.mpr ⟨cok1, List.forall_mem_cons.mpr ⟨cok2, List.forall_mem_cons.mpr ⟨cok3, List.forall_mem_cons.mpr ⟨cok4, List.forall_mem_cons.mpr ⟨cok5, List.forall_mem_cons.mpr ⟨cok6, List.forall_mem_cons.mpr ⟨cok7, List.forall_mem_cons.mpr ⟨cok8, List.forall_mem_cons.mpr ⟨cok9, List.forall_mem_cons.mpr ⟨cok10, List.forall_mem_cons.mpr ⟨cok11, List.forall_mem_cons.mpr ⟨cok12, List.forall_mem_cons.mpr ⟨cok13, List.forall_mem_cons.mpr ⟨cok14, List.forall_mem_cons.mpr ⟨cok15, List.forall_mem_cons.mpr ⟨cok16, List.forall_mem_cons.mpr ⟨cok17, List.forall_mem_cons.mpr ⟨cok18, List.forall_mem_cons.mpr ⟨cok19, List.forall_mem_cons.mpr ⟨cok20, List.forall_mem_cons.mpr ⟨cok21, List.forall_mem_cons.mpr ⟨cok22, List.forall_mem_cons.mpr ⟨cok23, List.forall_mem_cons.mpr ⟨cok24, List.forall_mem_cons.mpr ⟨cok25, List.forall_mem_cons.mpr ⟨cok26, List.forall_mem_cons.mpr ⟨cok27, List.forall_mem_cons.mpr ⟨cok28, List.forall_mem_cons.mpr ⟨cok29, List.forall_mem_cons.mpr ⟨cok30, List.forall_mem_cons.mpr ⟨cok31, List.forall_mem_cons.mpr ⟨cok32, List.forall_mem_cons.mpr ⟨cok33, List.forall_mem_cons.mpr ⟨cok34, List.forall_mem_cons.mpr ⟨cok35, List.forall_mem_cons.mpr ⟨cok36, List.forall_mem_cons.mpr ⟨cok37, List.forall_mem_cons.mpr ⟨cok38, List.forall_mem_cons.mpr ⟨cok39, List.forall_mem_cons.mpr ⟨cok40, List.forall_mem_cons.mpr ⟨cok41, List.forall_mem_cons.mpr ⟨cok42, List.forall_mem_cons.mpr ⟨cok43, List.forall_mem_cons.mpr ⟨cok53, List.forall_mem_cons.mpr ⟨cok54, List.forall_mem_cons.mpr ⟨cok55, List.forall_mem_cons.mpr ⟨cok56, List.forall_mem_cons.mpr ⟨cok57, List.forall_mem_cons.mpr ⟨cok58, List.forall_mem_cons.mpr ⟨cok59, List.forall_mem_cons.mpr ⟨cok60, List.forall_mem_cons.mpr ⟨cok61, List.forall_mem_cons.mpr ⟨cok62, List.forall_mem_cons.mpr ⟨cok63, List.forall_mem_cons.mpr ⟨cok64, List.forall_mem_cons.mpr ⟨cok65, List.forall_mem_cons.mpr ⟨cok66, List.forall_mem_cons.mpr ⟨cok67, List.forall_mem_cons.mpr ⟨cok68, List.forall_mem_cons.mpr ⟨cok69, List.forall_mem_cons.mpr ⟨cok70, List.forall_mem_cons.mpr ⟨cok71, List.forall_mem_cons.mpr ⟨cok72, List.forall_mem_cons.mpr ⟨cok73, List.forall_mem_cons.mpr ⟨cok74, List.forall_mem_cons.mpr ⟨cok75, List.forall_mem_cons.mpr ⟨cok77, List.forall_mem_cons.mpr ⟨cok78, List.forall_mem_cons.mpr ⟨cok79, List.forall_mem_cons.mpr ⟨cok82, List.forall_mem_cons.mpr ⟨cok83, List.forall_mem_cons.mpr ⟨cok84, List.forall_mem_cons.mpr ⟨cok85, List.forall_mem_cons.mpr ⟨cok86, List.forall_mem_cons.mpr ⟨cok87, List.forall_mem_cons.mpr ⟨cok88, List.forall_mem_cons.mpr ⟨cok89, List.forall_mem_cons.mpr ⟨cok90, List.forall_mem_cons.mpr ⟨cok91, List.forall_mem_cons.mpr ⟨cok92, List.forall_mem_cons.mpr ⟨cok93, List.forall_mem_cons.mpr ⟨cok94, List.forall_mem_cons.mpr ⟨cok95, List.forall_mem_cons.mpr ⟨cok96, List.forall_mem_cons.mpr ⟨cok97, List.forall_mem_cons.mpr ⟨cok98, List.forall_mem_cons.mpr ⟨cok99, List.forall_mem_cons.mpr ⟨cok100, List.forall_mem_cons.mpr ⟨cok101, List.forall_mem_cons.mpr ⟨cok102, List.forall_mem_cons.mpr ⟨cok103, List.forall_mem_cons.mpr ⟨cok104, List.forall_mem_cons.mpr ⟨cok105, List.forall_mem_cons.mpr ⟨cok106, fun _ h => absurd h List.not_mem_nil⟩⟩⟩⟩⟩⟩⟩⟩⟩⟩⟩⟩⟩⟩⟩⟩⟩⟩⟩⟩⟩⟩⟩⟩⟩⟩⟩⟩⟩⟩⟩⟩⟩⟩⟩⟩⟩⟩⟩⟩⟩⟩⟩⟩⟩⟩⟩⟩⟩⟩⟩⟩⟩⟩⟩⟩⟩⟩⟩⟩⟩⟩⟩⟩⟩⟩⟩⟩⟩⟩⟩⟩⟩⟩⟩⟩⟩⟩⟩⟩⟩⟩⟩⟩⟩⟩⟩⟩⟩⟩⟩⟩⟩⟩
theorem calleeOk {k : Nat} (h : decide (1 ≤ k ∧ k ∈ cks) = true) : CalleeOk k (nps k) := by
  rw [decide_eq_true_eq] at h
  exact cokAll k h.2
end
section
/-! each instruction of the code tables is what the bytes and the tables' words say -/
def mlen (i : Instr) (n : Nat) : Nat := match i with
  | .bipush _ | .ldc _ | .iload _ | .aload _ | .istore _ | .astore _ | .newarray _ => 2
  | .sipush _ | .iinc _ _ | .goto _ | .ifCond _ _ | .if_icmp _ _ | .getfield _ | .putfield _ | .anewarray _ | .new _ | .invokespecial _ | .invokevirtual _ | .invokestatic _ => 3
  | .tableswitch _ _ _ _ => n
  | _ => 1
def okF (k j ci f pl : Nat) : Bool := match vwCl[ci]? with
  | some (_, T, N) => decide (f < N) && wk pl (.fieldLink (mOwn k) j (T f).1 (T f).2.1 (T f).2.2.1)
  | none => false
def fldB (ci f : Nat) : Bool := match vwCl[ci]? with
  | some (_, T, _) => (T f).2.2.2
  | none => false
def fldO (ci f : Nat) : String := match vwCl[ci]? with
  | some (_, T, _) => (T f).1
  | none => ""
def clsN (ci : Nat) : String := match vwCl[ci]? with
  | some (C, _, _) => C
  | none => ""
def rk (k : Nat) : Nat := match mRet k with
  | none => 0
  | some .int => 1
  | some .boolean => 1
  | _ => 2
def okR (k : Nat) (i : Instr) (u : List Nat) : Bool := match i with
  | .getfield j => (match u with
    | [ci, f, 0, pl] => okF k j ci f pl && decide (skd ci f ≠ 1)
    | [ci, f, 1, pl] => okF k j ci f pl && decide (skd ci f = 1)
    | _ => true)
  | .putfield j => (match u with
    | [ci, f, 0, pl] => okF k j ci f pl && decide (skd ci f = 0) && !fldB ci f
    | [ci, f, 2, pl] => okF k j ci f pl && decide (skd ci f = 2) && !fldB ci f
    | [ci, f, 1, pl] => okF k j ci f pl && decide (skd ci f = 1) && fldB ci f && decide (fldO ci f = mOwn k) && decide ((mY k).name = "<init>")
    | _ => true)
  | .ldc j => (match u with
    | [v, p] => wk p (.constant (mOwn k) j (Int32.ofNat v))
    | _ => false)
  | .newarray t => (match u with
    | [pl] => wk pl (.arrayClass (newarray.typeOf t))
    | _ => false)
  | .anewarray j => (match u with
    | pl :: _ => wk pl (.classLink (mOwn k) j RX3)
    | _ => false)
  | .new j => (match u with
    | [ci, nf, p1, p2, p3] => (match vwCl[ci]? with
      | some (C, _, N) => decide (nf = N) && wk p1 (.classLink (mOwn k) j C) && wk p2 (.instantiable C N) && wk p3 (.initialized C)
      | none => false)
    | _ => false)
  | .invokespecial j => (match u with
    | [0, p1, p2, p3] => wk p1 (.methodLink (mOwn k) j Lib.objectInit) && wk p2 (.instanceMethod Lib.objectInit) && wk p3 (.code Lib.objectInit ⟨#[0xb1]⟩ 1 none)
    | [1, k1, n, _, p1, p2, _, _] => decide (1 ≤ k1 ∧ k1 ∈ cks) && decide (n = nps k1 + 1 ∧ n ≤ mL k1) && wk p1 (.methodLink (mOwn k) j (mY k1)) && wk p2 (.instanceMethod (mY k1)) && decide ((mY k1).name = "<init>") && decide (mRet k1 = none)
    | [2, k1, n, _, p1, p2, _, _] => decide (1 ≤ k1 ∧ k1 ∈ cks) && decide (n = nps k1 + 1 ∧ n ≤ mL k1) && decide (nests[p1]? = some (.methodLinkNest (mOwn k) j (mY k1) RX6)) && wk p2 (.instanceMethod (mY k1)) && decide ((mY k1).name = "<init>") && decide (mRet k1 = none)
    | _ => false)
  | .invokevirtual j => (match u with
    | [_, k1, n, ci, p1, p2, p3, _, _] => decide (1 ≤ k1 ∧ k1 ∈ cks) && decide (n = nps k1 + 1 ∧ n ≤ mL k1) && decide (ci < 7) && decide (clsN ci = (mY k1).cls) && wk p1 (.methodLink (mOwn k) j (mY k1)) && wk p2 (.instanceMethod (mY k1)) && wk p3 (.selects (mY k1).cls (mY k1) (mY k1))
    | _ => false)
  | .invokestatic j => (match u with
    | [0, _, k1, n, p1, p2, _, _] => decide (1 ≤ k1 ∧ k1 ∈ cks) && decide (n = nps k1 ∧ n ≤ mL k1) && wk p1 (.methodLink (mOwn k) j (mY k1)) && wk p2 (.static (mY k1))
    | [4, _, k1, n, p1, p2, _, _] => decide (1 ≤ k1 ∧ k1 ∈ cks) && decide (n = nps k1 ∧ n ≤ mL k1) && decide (nests[p1]? = some (.methodLinkNest (mOwn k) j (mY k1) RX6)) && wk p2 (.static (mY k1))
    | [1, p1, p2, p3, p4] => wk p1 (.methodLink (mOwn k) j Lib.Math.max.name) && wk p2 (.static Lib.Math.max.name) && wk p3 (.initialized "java/lang/Math") && wk p4 (.code Lib.Math.max.name Lib.Math.max.code 2 (some .int))
    | [2, p1, p2, p3, p4] => wk p1 (.methodLink (mOwn k) j Lib.Math.min.name) && wk p2 (.static Lib.Math.min.name) && wk p3 (.initialized "java/lang/Math") && wk p4 (.code Lib.Math.min.name Lib.Math.min.code 2 (some .int))
    | [3, p1, p2, p3, p4] => wk p1 (.methodLink (mOwn k) j arraycopyName) && wk p2 (.native arraycopyName) && wk p3 (.static arraycopyName) && wk p4 (.initialized "java/lang/System")
    | _ => false)
  | .ireturn => (match u with
    | [0] => decide (mRet k = some .int)
    | [1] => decide (mRet k = some .boolean)
    | _ => false)
  | .areturn => decide (mRet k = some (.object "SometimesSums$Table"))
  | .return_ => decide (mRet k = none)
  | _ => true
def okI (k pc : Nat) (e : MC) : Bool := decide (decode (mB k) pc = .ok (e.1, e.2.1)) && decide (mlen e.1 e.2.1 = e.2.1) && okR k e.1 e.2.2.1
def okT (k : Nat) (t : List (List (Nat × MC))) : Bool := t.all fun r => r.all fun q => okI k q.1 q.2
theorem mfind_mem {r : List (Nat × MC)} {pc : Nat} {e : MC} (h : mfind r pc = some e) : (pc, e) ∈ r := by
  induction r with
  | nil => cases h
  | cons a r ih =>
    obtain ⟨q, f⟩ := a
    unfold mfind at h
    cases hq : Nat.beq q pc with
    | true =>
      rw [hq] at h
      have := Nat.eq_of_beq_eq_true hq
      subst this
      cases h
      exact List.mem_cons_self
    | false =>
      rw [hq] at h
      exact List.mem_cons_of_mem _ (ih h)
theorem okT_use {k : Nat} {t : List (List (Nat × MC))} (hc : okT k t = true) {pc : Nat} {e : MC} (h : cdT t pc = some e) : okI k pc e = true := by
  unfold cdT at h
  unfold okT at hc
  have h1 := mfind_mem h
  rw [List.getD_eq_getElem?_getD] at h1
  cases hr : t[pc / 16]? with
  | none => rw [hr] at h1; cases h1
  | some r =>
    rw [hr] at h1
    rw [Option.getD_some] at h1
    have h2 : (r.all fun q => okI k q.1 q.2) = true := List.all_eq_true.mp hc r (List.mem_of_getElem? hr)
    have h4 := List.all_eq_true.mp h2 (pc, e) h1
    dsimp only at h4
    exact h4
end
section
/-! THE SIMULATION: what the small machine runs, the machine runs -/
theorem gd_inv {α : Type} {c : Prop} [Decidable c] {o : Option α} {a : α} (h : gd c o = some a) : c ∧ o = some a := by
  unfold gd at h
  split at h
  · rename_i hc
    exact ⟨hc, h⟩
  · cases h
theorem aGo_inv {pc : Nat} {L : List (Option MV)} {st : List MV} {w : MW} {a : Act} (h : aGo pc L st w = some a) : a = .inl (pc, L, st, w) := (Option.some.inj h).symm
theorem aRet_inv {v : Option MV} {w : MW} {a : Act} (h : aRet v w = some a) : a = .inr (.inl (v, w)) := (Option.some.inj h).symm
theorem s1I_inv {st : List MV} {f : Int → List MV → Option Act} {a : Act} (h : s1I st f = some a) : ∃ x r, st = .inl x :: r ∧ f x r = some a := by
  unfold s1I at h
  split at h
  · exact ⟨_, _, rfl, h⟩
  · cases h
theorem s1R_inv {st : List MV} {f : Nat → List MV → Option Act} {a : Act} (h : s1R st f = some a) : ∃ x r, st = .inr x :: r ∧ f x r = some a := by
  unfold s1R at h
  split at h
  · exact ⟨_, _, rfl, h⟩
  · cases h
theorem s2I_inv {st : List MV} {f : Int → Int → List MV → Option Act} {a : Act} (h : s2I st f = some a) : ∃ x y r, st = .inl y :: .inl x :: r ∧ f x y r = some a := by
  unfold s2I at h
  obtain ⟨y, r1, rfl, h1⟩ := s1I_inv h
  obtain ⟨x, r2, rfl, h2⟩ := s1I_inv h1
  exact ⟨x, y, r2, rfl, h2⟩
theorem lgI_inv {L : List (Option MV)} {i : Nat} {f : Int → Option Act} {a : Act} (h : lgI L i f = some a) : ∃ x, L[i]? = some (some (.inl x)) ∧ f x = some a := by
  unfold lgI at h
  split at h
  · rename_i x hx
    exact ⟨x, hx, h⟩
  · cases h
theorem lgR_inv {L : List (Option MV)} {i : Nat} {f : Nat → Option Act} {a : Act} (h : lgR L i f = some a) : ∃ x, L[i]? = some (some (.inr x)) ∧ f x = some a := by
  unfold lgR at h
  split at h
  · rename_i x hx
    exact ⟨x, hx, h⟩
  · cases h
theorem mcallV_inv {kind k n ci pc : Nat} {L : List (Option MV)} {st : List MV} {w : MW} {a : Act} (h : mcall kind k n ci true pc L st w = some a) : ∃ b as s2, st = (as.reverse ++ [.inr b]) ++ s2 ∧ as.length + 1 = n ∧ s2.length ≤ 8 ∧ kd w b = 10 + ci ∧ a = .inr (.inr (kind, k, .inr b :: as, pc + 3, L, s2, w)) := by
  unfold mcall at h
  obtain ⟨⟨h1, h2⟩, h⟩ := gd_inv h
  dsimp only at h
  split at h
  · rename_i b as he
    obtain ⟨h3, h⟩ := gd_inv h
    have e1 : st.take n = as.reverse ++ [.inr b] := by
      have := congrArg List.reverse he
      rw [List.reverse_reverse, List.reverse_cons] at this
      exact this
    refine ⟨b, as, st.drop n, ?_, ?_, h2, h3, (Option.some.inj h).symm⟩
    · rw [← e1, List.take_append_drop]
    · have := congrArg List.length e1
      rw [List.length_take, List.length_append, List.length_reverse] at this
      simp only [List.length_singleton] at this
      omega
  · cases h
theorem mcallS_inv {kind k n ci pc : Nat} {L : List (Option MV)} {st : List MV} {w : MW} {a : Act} (h : mcall kind k n ci false pc L st w = some a) : ∃ as s2, st = as.reverse ++ s2 ∧ as.length = n ∧ s2.length ≤ 8 ∧ a = .inr (.inr (kind, k, as, pc + 3, L, s2, w)) := by
  unfold mcall at h
  obtain ⟨⟨h1, h2⟩, h⟩ := gd_inv h
  dsimp only at h
  refine ⟨(st.take n).reverse, st.drop n, ?_, ?_, h2, (Option.some.inj h).symm⟩
  · rw [List.reverse_reverse, List.take_append_drop]
  · rw [List.length_reverse, List.length_take]
    omega
theorem okF_inv {k j ci f pl : Nat} (h : okF k j ci f pl = true) : ∃ (Cn : String) (T : u_T) (N : Nat), vwCl[ci]? = some (Cn, T, N) ∧ f < N ∧ Cond.fieldLink (mOwn k) j (T f).1 (T f).2.1 (T f).2.2.1 ∈ gtbl ∧ fldB ci f = (T f).2.2.2 ∧ fldO ci f = (T f).1 := by
  unfold okF at h
  split at h
  · rename_i Cn T N he
    rw [Bool.and_eq_true, decide_eq_true_eq] at h
    exact ⟨Cn, T, N, he, h.1, wk_mem h.2, by unfold fldB; rw [he], by unfold fldO; rw [he]⟩
  · cases h
theorem kill_len (ds : List Nat) : ∀ (L : List (Option MV)), (kill ds L).length = L.length := by
  induction ds with
  | nil => intro L; rfl
  | cons i ds ih => intro L; show (kill ds (L.set i none)).length = _; rw [ih, List.length_set]
theorem clsN_inv {ci : Nat} (h : ci < 7) : ∃ (Cn : String) (T : u_T) (N : Nat), vwCl[ci]? = some (Cn, T, N) ∧ clsN ci = Cn := by
  have h2 : ci < vwCl.length := h
  refine ⟨(vwCl[ci]).1, (vwCl[ci]).2.1, (vwCl[ci]).2.2, List.getElem?_eq_getElem h2, ?_⟩
  unfold clsN
  rw [List.getElem?_eq_getElem h2]
section SM
variable {p : Program} {l : Launch} {e : Env} {Rm : Room} {s : State} {m : MethodId} {args : Array Value} {below : List Frame} {meth : Method} {c : Code} {Q : State → Prop} {D : va_G} {B n0 : Nat} {α0 : Nat → Nat}
/-- from here to the method's end -/
def Cont (p : Program) (l : Launch) (e : Env) (Rm : Room) (s : State) (m : MethodId) (args : Array Value) (below : List Frame) (meth : Method) (c : Code) (Q : State → Prop) (D : va_G) (B n0 : Nat) (α0 : Nat → Nat) (k mc ms : Nat) (r : Option MV × MW) (pc : Nat) (L : List (Option MV)) (st : List MV) (w : MW) : Prop :=
  (nx w ≤ nx r.2 ∧ sl w ≤ sl r.2) ∧ ∀ cells slots : Nat, L.length = mL k → cells + nx r.2 = mc + nx w → slots + sl r.2 = ms + sl w → n0 ≤ nx w → Gw p l e Rm s m args below meth c Q D B n0 α0 cells slots pc L st w
/-- at a return: what the frame has -/
def RetAt (k : Nat) (α : Nat → Nat) (r : Option MV × MW) (pc : Nat) (stk : List Value) : Prop := match r.1 with
  | none => decode (mB k) pc = .ok (.return_, 1) ∧ stk = [] ∧ mRet k = none
  | some (.inl z) => ∃ x : Int32, decode (mB k) pc = .ok (.ireturn, 1) ∧ stk = [.int x] ∧ x.toInt = z ∧ (mRet k = some .int ∨ (mRet k = some .boolean ∧ (z = 0 ∨ z = 1)))
  | some (.inr a) => decode (mB k) pc = .ok (.areturn, 1) ∧ stk = [.ref (α a)] ∧ a < nx r.2 ∧ mRet k = some (.object "SometimesSums$Table")
def EndOk (p : Program) (l : Launch) (e : Env) (Rm : Room) (s : State) (m : MethodId) (args : Array Value) (below : List Frame) (meth : Method) (c : Code) (Q : State → Prop) (D : va_G) (B n0 : Nat) (α0 : Nat → Nat) (k mc ms : Nat) (r : Option MV × MW) : Prop :=
  ∀ (α : Nat → Nat) (pc : Nat) (ls : Array Slot) (stk : List Value) (H : Heap) (locs : List Loc), (∀ a, a < n0 → α a = α0 a) → RetAt k α r pc stk → WH α D B r.2 s H → va_S (aB B) s.heap H locs → W p l e Rm s m args below meth c H locs mc ms Q (F0 m pc ls stk)
def ScrOk (s : State) (B n0 k : Nat) (α0 : Nat → Nat) (X : Nat × (Nat → Int)) : Prop := SX X B α0 s ∧ 0 < n0
def CallOk (X : Nat × (Nat → Int)) (l : Launch) (D : va_G) (B d : Nat) (Cn : Nat → List (Option MV) → List MV → MW → Prop) (act : Act) : Prop := match act with
  | .inr (.inr (kind, k', as, pc', L', st', w')) => ∃ (d' : Nat) (r1 : Option MV × MW) (st2 : List MV), d = d' + 1 ∧ (1 ≤ k' → (nx w' ≤ nx r1.2 ∧ sl w' ≤ sl r1.2) ∧ MetK X l D B d' k' as w' r1.2 r1.1) ∧ pushR kind r1.1 st' = some st2 ∧ Cn pc' L' st2 r1.2
  | _ => True

set_option maxHeartbeats 4000000 in
theorem sim_step {X : Nat × (Nat → Int)} {k d mc ms pc nn : Nat} {r : Option MV × MW} {i : Instr} {u : List Nat} {L : List (Option MV)} {st : List MV} {w : MW} {act : Act} (C : Cx p Rm s m args meth c B k d) (hR : mc ≤ Rm.cells ∧ ms ≤ Rm.slots) (hend : EndOk p l e Rm s m args below meth c Q D B n0 α0 k mc ms r) (hscr : ScrOk s B n0 k α0 X)
    (hdec : decode (mB k) pc = .ok (i, nn)) (hlen : mlen i nn = nn) (hok : okR k i u = true) (hm : mstep X i nn u pc L st w = some act)
    (hgo : ∀ (pc' : Nat) (L' : List (Option MV)) (st' : List MV) (w' : MW), act = .inl (pc', L', st', w') → Cont p l e Rm s m args below meth c Q D B n0 α0 k mc ms r pc' L' st' w')
    (hret : ∀ (v : Option MV) (w' : MW), act = .inr (.inl (v, w')) → r = (v, w'))
    (hcall : CallOk X l D B d (Cont p l e Rm s m args below meth c Q D B n0 α0 k mc ms r) act) : Cont p l e Rm s m args below meth c Q D B n0 α0 k mc ms r pc L st w := by
  unfold mstep at hm
  split at hm
  · rename_i z
    simp only [mlen] at hlen
    subst hlen
    obtain ⟨hz, hm1⟩ := gd_inv hm
    have K := hgo _ _ _ _ (aGo_inv hm1)
    exact ⟨K.1, fun cells slots h1 h2 h3 h4 => g_iconst C hdec hz (K.2 cells slots h1 h2 h3 h4)⟩
  · rename_i z
    simp only [mlen] at hlen
    subst hlen
    obtain ⟨hz, hm1⟩ := gd_inv hm
    have K := hgo _ _ _ _ (aGo_inv hm1)
    exact ⟨K.1, fun cells slots h1 h2 h3 h4 => g_bipush C hdec hz (K.2 cells slots h1 h2 h3 h4)⟩
  · rename_i z
    simp only [mlen] at hlen
    subst hlen
    obtain ⟨hz, hm1⟩ := gd_inv hm
    have K := hgo _ _ _ _ (aGo_inv hm1)
    exact ⟨K.1, fun cells slots h1 h2 h3 h4 => g_sipush C hdec hz (K.2 cells slots h1 h2 h3 h4)⟩
  · rename_i j
    simp only [mlen] at hlen
    subst hlen
    split at hm
    · rename_i v us
      obtain ⟨hz, hm1⟩ := gd_inv hm
      have K := hgo _ _ _ _ (aGo_inv hm1)
      simp only [okR] at hok
      split at hok
      · rename_i hu
        cases hu
        exact ⟨K.1, fun cells slots h1 h2 h3 h4 => g_ldc C hdec (wk_mem hok) hz (K.2 cells slots h1 h2 h3 h4)⟩
      · cases hok
    · cases hm
  · rename_i j
    simp only [mlen] at hlen
    subst hlen
    obtain ⟨x, hx, hm1⟩ := lgI_inv hm
    have K := hgo _ _ _ _ (aGo_inv hm1)
    exact ⟨K.1, fun cells slots h1 h2 h3 h4 => g_iload_n C hdec hx (K.2 cells slots h1 h2 h3 h4)⟩
  · rename_i j
    simp only [mlen] at hlen
    subst hlen
    obtain ⟨x, hx, hm1⟩ := lgI_inv hm
    have K := hgo _ _ _ _ (aGo_inv hm1)
    exact ⟨K.1, fun cells slots h1 h2 h3 h4 => g_iload C hdec hx (K.2 cells slots h1 h2 h3 h4)⟩
  · rename_i j
    simp only [mlen] at hlen
    subst hlen
    obtain ⟨x, hx, hm1⟩ := lgR_inv hm
    have K := hgo _ _ _ _ (aGo_inv hm1)
    exact ⟨K.1, fun cells slots h1 h2 h3 h4 => g_aload_n C hdec hx (K.2 cells slots h1 h2 h3 h4)⟩
  · rename_i j
    simp only [mlen] at hlen
    subst hlen
    obtain ⟨x, hx, hm1⟩ := lgR_inv hm
    have K := hgo _ _ _ _ (aGo_inv hm1)
    exact ⟨K.1, fun cells slots h1 h2 h3 h4 => g_aload C hdec hx (K.2 cells slots h1 h2 h3 h4)⟩
  · rename_i j
    simp only [mlen] at hlen
    subst hlen
    obtain ⟨x, _, rfl, hm1⟩ := s1I_inv hm
    obtain ⟨hj, hm2⟩ := gd_inv hm1
    have K := hgo _ _ _ _ (aGo_inv hm2)
    exact ⟨K.1, fun cells slots h1 h2 h3 h4 => g_istore_n C hdec hj (K.2 cells slots (by rw [List.length_set]; exact h1) h2 h3 h4)⟩
  · rename_i j
    simp only [mlen] at hlen
    subst hlen
    obtain ⟨x, _, rfl, hm1⟩ := s1I_inv hm
    obtain ⟨hj, hm2⟩ := gd_inv hm1
    have K := hgo _ _ _ _ (aGo_inv hm2)
    exact ⟨K.1, fun cells slots h1 h2 h3 h4 => g_istore C hdec hj (K.2 cells slots (by rw [List.length_set]; exact h1) h2 h3 h4)⟩
  · rename_i j
    simp only [mlen] at hlen
    subst hlen
    obtain ⟨x, _, rfl, hm1⟩ := s1R_inv hm
    obtain ⟨hj, hm2⟩ := gd_inv hm1
    have K := hgo _ _ _ _ (aGo_inv hm2)
    exact ⟨K.1, fun cells slots h1 h2 h3 h4 => g_astore_n C hdec hj (K.2 cells slots (by rw [List.length_set]; exact h1) h2 h3 h4)⟩
  · rename_i j
    simp only [mlen] at hlen
    subst hlen
    obtain ⟨x, _, rfl, hm1⟩ := s1R_inv hm
    obtain ⟨hj, hm2⟩ := gd_inv hm1
    have K := hgo _ _ _ _ (aGo_inv hm2)
    exact ⟨K.1, fun cells slots h1 h2 h3 h4 => g_astore C hdec hj (K.2 cells slots (by rw [List.length_set]; exact h1) h2 h3 h4)⟩
  · simp only [mlen] at hlen
    subst hlen
    obtain ⟨x, y, _, rfl, hm1⟩ := s2I_inv hm
    have K := hgo _ _ _ _ (aGo_inv hm1)
    exact ⟨K.1, fun cells slots h1 h2 h3 h4 => g_iadd C hdec (K.2 cells slots h1 h2 h3 h4)⟩
  · simp only [mlen] at hlen
    subst hlen
    obtain ⟨x, y, _, rfl, hm1⟩ := s2I_inv hm
    have K := hgo _ _ _ _ (aGo_inv hm1)
    exact ⟨K.1, fun cells slots h1 h2 h3 h4 => g_isub C hdec (K.2 cells slots h1 h2 h3 h4)⟩
  · simp only [mlen] at hlen
    subst hlen
    obtain ⟨x, y, _, rfl, hm1⟩ := s2I_inv hm
    have K := hgo _ _ _ _ (aGo_inv hm1)
    exact ⟨K.1, fun cells slots h1 h2 h3 h4 => g_imul C hdec (K.2 cells slots h1 h2 h3 h4)⟩
  · simp only [mlen] at hlen
    subst hlen
    obtain ⟨x, y, _, rfl, hm1⟩ := s2I_inv hm
    obtain ⟨hy, hm2⟩ := gd_inv hm1
    have K := hgo _ _ _ _ (aGo_inv hm2)
    exact ⟨K.1, fun cells slots h1 h2 h3 h4 => g_idiv C hdec hy (K.2 cells slots h1 h2 h3 h4)⟩
  · simp only [mlen] at hlen
    subst hlen
    obtain ⟨x, y, _, rfl, hm1⟩ := s2I_inv hm
    obtain ⟨hy, hm2⟩ := gd_inv hm1
    have K := hgo _ _ _ _ (aGo_inv hm2)
    exact ⟨K.1, fun cells slots h1 h2 h3 h4 => g_irem C hdec hy (K.2 cells slots h1 h2 h3 h4)⟩
  · simp only [mlen] at hlen
    subst hlen
    obtain ⟨x, y, _, rfl, hm1⟩ := s2I_inv hm
    have K := hgo _ _ _ _ (aGo_inv hm1)
    exact ⟨K.1, fun cells slots h1 h2 h3 h4 => g_iand C hdec (K.2 cells slots h1 h2 h3 h4)⟩
  · simp only [mlen] at hlen
    subst hlen
    obtain ⟨x, y, _, rfl, hm1⟩ := s2I_inv hm
    have K := hgo _ _ _ _ (aGo_inv hm1)
    exact ⟨K.1, fun cells slots h1 h2 h3 h4 => g_ior C hdec (K.2 cells slots h1 h2 h3 h4)⟩
  · simp only [mlen] at hlen
    subst hlen
    obtain ⟨x, y, _, rfl, hm1⟩ := s2I_inv hm
    have K := hgo _ _ _ _ (aGo_inv hm1)
    exact ⟨K.1, fun cells slots h1 h2 h3 h4 => g_ixor C hdec (K.2 cells slots h1 h2 h3 h4)⟩
  · simp only [mlen] at hlen
    subst hlen
    obtain ⟨x, y, _, rfl, hm1⟩ := s2I_inv hm
    have K := hgo _ _ _ _ (aGo_inv hm1)
    exact ⟨K.1, fun cells slots h1 h2 h3 h4 => g_ishl C hdec (K.2 cells slots h1 h2 h3 h4)⟩
  · simp only [mlen] at hlen
    subst hlen
    obtain ⟨x, y, _, rfl, hm1⟩ := s2I_inv hm
    have K := hgo _ _ _ _ (aGo_inv hm1)
    exact ⟨K.1, fun cells slots h1 h2 h3 h4 => g_ishr C hdec (K.2 cells slots h1 h2 h3 h4)⟩
  · simp only [mlen] at hlen
    subst hlen
    obtain ⟨x, y, _, rfl, hm1⟩ := s2I_inv hm
    have K := hgo _ _ _ _ (aGo_inv hm1)
    exact ⟨K.1, fun cells slots h1 h2 h3 h4 => g_iushr C hdec (K.2 cells slots h1 h2 h3 h4)⟩
  · simp only [mlen] at hlen
    subst hlen
    obtain ⟨x, _, rfl, hm1⟩ := s1I_inv hm
    have K := hgo _ _ _ _ (aGo_inv hm1)
    exact ⟨K.1, fun cells slots h1 h2 h3 h4 => g_i2c C hdec (K.2 cells slots h1 h2 h3 h4)⟩
  · simp only [mlen] at hlen
    subst hlen
    split at hm
    · have K := hgo _ _ _ _ (aGo_inv hm)
      exact ⟨K.1, fun cells slots h1 h2 h3 h4 => g_dup C hdec (K.2 cells slots h1 h2 h3 h4)⟩
    · cases hm
  · simp only [mlen] at hlen
    subst hlen
    split at hm
    · have K := hgo _ _ _ _ (aGo_inv hm)
      exact ⟨K.1, fun cells slots h1 h2 h3 h4 => g_dup2 C hdec (K.2 cells slots h1 h2 h3 h4)⟩
    · cases hm
  · simp only [mlen] at hlen
    subst hlen
    split at hm
    · have K := hgo _ _ _ _ (aGo_inv hm)
      exact ⟨K.1, fun cells slots h1 h2 h3 h4 => g_pop C hdec (K.2 cells slots h1 h2 h3 h4)⟩
    · cases hm
  · rename_i j z
    simp only [mlen] at hlen
    subst hlen
    obtain ⟨x, hx, hm1⟩ := lgI_inv hm
    obtain ⟨hz, hm2⟩ := gd_inv hm1
    have K := hgo _ _ _ _ (aGo_inv hm2)
    exact ⟨K.1, fun cells slots h1 h2 h3 h4 => g_iinc C hdec hx hz.2 (K.2 cells slots (by rw [List.length_set]; exact h1) h2 h3 h4)⟩
  · rename_i off
    simp only [mlen] at hlen
    subst hlen
    obtain ⟨hz, hm1⟩ := gd_inv hm
    have K := hgo _ _ _ _ (aGo_inv hm1)
    exact ⟨K.1, fun cells slots h1 h2 h3 h4 => g_goto C hdec hz (K.2 cells slots h1 h2 h3 h4)⟩
  · rename_i cc off
    simp only [mlen] at hlen
    subst hlen
    obtain ⟨x, _, rfl, hm1⟩ := s1I_inv hm
    obtain ⟨hz, hm2⟩ := gd_inv hm1
    cases cc
    · simp only [tst, decide_eq_true_eq] at hm2
      split at hm2
      · rename_i hcd
        have K := hgo _ _ _ _ (aGo_inv hm2)
        exact ⟨K.1, fun cells slots h1 h2 h3 h4 => g_if_eq C hdec hz (fun _ => K.2 cells slots h1 h2 h3 h4) (fun hn => absurd hcd hn)⟩
      · rename_i hcd
        have K := hgo _ _ _ _ (aGo_inv hm2)
        exact ⟨K.1, fun cells slots h1 h2 h3 h4 => g_if_eq C hdec hz (fun hp => absurd hp hcd) (fun _ => K.2 cells slots h1 h2 h3 h4)⟩
    · simp only [tst, decide_eq_true_eq] at hm2
      split at hm2
      · rename_i hcd
        have K := hgo _ _ _ _ (aGo_inv hm2)
        exact ⟨K.1, fun cells slots h1 h2 h3 h4 => g_if_ne C hdec hz (fun _ => K.2 cells slots h1 h2 h3 h4) (fun hn => absurd hcd hn)⟩
      · rename_i hcd
        have K := hgo _ _ _ _ (aGo_inv hm2)
        exact ⟨K.1, fun cells slots h1 h2 h3 h4 => g_if_ne C hdec hz (fun hp => absurd hp hcd) (fun _ => K.2 cells slots h1 h2 h3 h4)⟩
    · simp only [tst, decide_eq_true_eq] at hm2
      split at hm2
      · rename_i hcd
        have K := hgo _ _ _ _ (aGo_inv hm2)
        exact ⟨K.1, fun cells slots h1 h2 h3 h4 => g_if_lt C hdec hz (fun _ => K.2 cells slots h1 h2 h3 h4) (fun hn => absurd hcd hn)⟩
      · rename_i hcd
        have K := hgo _ _ _ _ (aGo_inv hm2)
        exact ⟨K.1, fun cells slots h1 h2 h3 h4 => g_if_lt C hdec hz (fun hp => absurd hp hcd) (fun _ => K.2 cells slots h1 h2 h3 h4)⟩
    · simp only [tst, decide_eq_true_eq] at hm2
      split at hm2
      · rename_i hcd
        have K := hgo _ _ _ _ (aGo_inv hm2)
        exact ⟨K.1, fun cells slots h1 h2 h3 h4 => g_if_ge C hdec hz (fun _ => K.2 cells slots h1 h2 h3 h4) (fun hn => absurd hcd hn)⟩
      · rename_i hcd
        have K := hgo _ _ _ _ (aGo_inv hm2)
        exact ⟨K.1, fun cells slots h1 h2 h3 h4 => g_if_ge C hdec hz (fun hp => absurd hp hcd) (fun _ => K.2 cells slots h1 h2 h3 h4)⟩
    · simp only [tst, decide_eq_true_eq] at hm2
      split at hm2
      · rename_i hcd
        have K := hgo _ _ _ _ (aGo_inv hm2)
        exact ⟨K.1, fun cells slots h1 h2 h3 h4 => g_if_gt C hdec hz (fun _ => K.2 cells slots h1 h2 h3 h4) (fun hn => absurd hcd hn)⟩
      · rename_i hcd
        have K := hgo _ _ _ _ (aGo_inv hm2)
        exact ⟨K.1, fun cells slots h1 h2 h3 h4 => g_if_gt C hdec hz (fun hp => absurd hp hcd) (fun _ => K.2 cells slots h1 h2 h3 h4)⟩
    · simp only [tst, decide_eq_true_eq] at hm2
      split at hm2
      · rename_i hcd
        have K := hgo _ _ _ _ (aGo_inv hm2)
        exact ⟨K.1, fun cells slots h1 h2 h3 h4 => g_if_le C hdec hz (fun _ => K.2 cells slots h1 h2 h3 h4) (fun hn => absurd hcd hn)⟩
      · rename_i hcd
        have K := hgo _ _ _ _ (aGo_inv hm2)
        exact ⟨K.1, fun cells slots h1 h2 h3 h4 => g_if_le C hdec hz (fun hp => absurd hp hcd) (fun _ => K.2 cells slots h1 h2 h3 h4)⟩
  · rename_i cc off
    simp only [mlen] at hlen
    subst hlen
    obtain ⟨x, y, _, rfl, hm1⟩ := s2I_inv hm
    obtain ⟨hz, hm2⟩ := gd_inv hm1
    cases cc
    · simp only [tst, decide_eq_true_eq] at hm2
      split at hm2
      · rename_i hcd
        have K := hgo _ _ _ _ (aGo_inv hm2)
        exact ⟨K.1, fun cells slots h1 h2 h3 h4 => g_icmp_eq C hdec hz (fun _ => K.2 cells slots h1 h2 h3 h4) (fun hn => absurd hcd hn)⟩
      · rename_i hcd
        have K := hgo _ _ _ _ (aGo_inv hm2)
        exact ⟨K.1, fun cells slots h1 h2 h3 h4 => g_icmp_eq C hdec hz (fun hp => absurd hp hcd) (fun _ => K.2 cells slots h1 h2 h3 h4)⟩
    · simp only [tst, decide_eq_true_eq] at hm2
      split at hm2
      · rename_i hcd
        have K := hgo _ _ _ _ (aGo_inv hm2)
        exact ⟨K.1, fun cells slots h1 h2 h3 h4 => g_icmp_ne C hdec hz (fun _ => K.2 cells slots h1 h2 h3 h4) (fun hn => absurd hcd hn)⟩
      · rename_i hcd
        have K := hgo _ _ _ _ (aGo_inv hm2)
        exact ⟨K.1, fun cells slots h1 h2 h3 h4 => g_icmp_ne C hdec hz (fun hp => absurd hp hcd) (fun _ => K.2 cells slots h1 h2 h3 h4)⟩
    · simp only [tst, decide_eq_true_eq] at hm2
      split at hm2
      · rename_i hcd
        have K := hgo _ _ _ _ (aGo_inv hm2)
        exact ⟨K.1, fun cells slots h1 h2 h3 h4 => g_icmp_lt C hdec hz (fun _ => K.2 cells slots h1 h2 h3 h4) (fun hn => absurd hcd hn)⟩
      · rename_i hcd
        have K := hgo _ _ _ _ (aGo_inv hm2)
        exact ⟨K.1, fun cells slots h1 h2 h3 h4 => g_icmp_lt C hdec hz (fun hp => absurd hp hcd) (fun _ => K.2 cells slots h1 h2 h3 h4)⟩
    · simp only [tst, decide_eq_true_eq] at hm2
      split at hm2
      · rename_i hcd
        have K := hgo _ _ _ _ (aGo_inv hm2)
        exact ⟨K.1, fun cells slots h1 h2 h3 h4 => g_icmp_ge C hdec hz (fun _ => K.2 cells slots h1 h2 h3 h4) (fun hn => absurd hcd hn)⟩
      · rename_i hcd
        have K := hgo _ _ _ _ (aGo_inv hm2)
        exact ⟨K.1, fun cells slots h1 h2 h3 h4 => g_icmp_ge C hdec hz (fun hp => absurd hp hcd) (fun _ => K.2 cells slots h1 h2 h3 h4)⟩
    · simp only [tst, decide_eq_true_eq] at hm2
      split at hm2
      · rename_i hcd
        have K := hgo _ _ _ _ (aGo_inv hm2)
        exact ⟨K.1, fun cells slots h1 h2 h3 h4 => g_icmp_gt C hdec hz (fun _ => K.2 cells slots h1 h2 h3 h4) (fun hn => absurd hcd hn)⟩
      · rename_i hcd
        have K := hgo _ _ _ _ (aGo_inv hm2)
        exact ⟨K.1, fun cells slots h1 h2 h3 h4 => g_icmp_gt C hdec hz (fun hp => absurd hp hcd) (fun _ => K.2 cells slots h1 h2 h3 h4)⟩
    · simp only [tst, decide_eq_true_eq] at hm2
      split at hm2
      · rename_i hcd
        have K := hgo _ _ _ _ (aGo_inv hm2)
        exact ⟨K.1, fun cells slots h1 h2 h3 h4 => g_icmp_le C hdec hz (fun _ => K.2 cells slots h1 h2 h3 h4) (fun hn => absurd hcd hn)⟩
      · rename_i hcd
        have K := hgo _ _ _ _ (aGo_inv hm2)
        exact ⟨K.1, fun cells slots h1 h2 h3 h4 => g_icmp_le C hdec hz (fun hp => absurd hp hcd) (fun _ => K.2 cells slots h1 h2 h3 h4)⟩
  · rename_i dflt lo hi offs
    obtain ⟨x, _, rfl, hm1⟩ := s1I_inv hm
    split at hm1
    · rename_i hx
      obtain ⟨hz, hm2⟩ := gd_inv hm1
      have K := hgo _ _ _ _ (aGo_inv hm2)
      exact ⟨K.1, fun cells slots h1 h2 h3 h4 => g_switchO C hdec hx hz (K.2 cells slots h1 h2 h3 h4)⟩
    · rename_i hx
      split at hm1
      · rename_i off hf
        obtain ⟨hz, hm3⟩ := gd_inv hm1
        have K := hgo _ _ _ _ (aGo_inv hm3)
        exact ⟨K.1, fun cells slots h1 h2 h3 h4 => g_switchI C hdec (fun q => hx (Or.inl q)) (fun q => hx (Or.inr q)) hf hz (K.2 cells slots h1 h2 h3 h4)⟩
      · cases hm1
  · rename_i j
    simp only [mlen] at hlen
    subst hlen
    obtain ⟨a, _, rfl, hm1⟩ := s1R_inv hm
    split at hm1
    · obtain ⟨hk, hm2⟩ := gd_inv hm1
      have K := hgo _ _ _ _ (aGo_inv hm2)
      simp only [okR, Bool.and_eq_true, decide_eq_true_eq] at hok
      obtain ⟨Cn, T, N, e1, e2, e3, -⟩ := okF_inv hok.1
      exact ⟨K.1, fun cells slots h1 h2 h3 h4 => g_getf C hdec hk e1 e2 e3 hok.2 (K.2 cells slots h1 h2 h3 h4)⟩
    · obtain ⟨hk, hm3⟩ := gd_inv hm1
      split at hm3
      · rename_i hb
        have K := hgo _ _ _ _ (aGo_inv hm3)
        simp only [okR, Bool.and_eq_true, decide_eq_true_eq] at hok
        obtain ⟨Cn, T, N, e1, e2, e3, -⟩ := okF_inv hok.1
        exact ⟨K.1, fun cells slots h1 h2 h3 h4 => g_getr C hdec hk e1 e2 e3 hok.2 hb (K.2 cells slots h1 h2 h3 h4)⟩
      · cases hm3
    · cases hm1
  · rename_i j
    simp only [mlen] at hlen
    subst hlen
    split at hm
    · obtain ⟨v, _, rfl, hm1⟩ := s1I_inv hm
      obtain ⟨a, _, rfl, hm2⟩ := s1R_inv hm1
      obtain ⟨hk, hm3⟩ := gd_inv hm2
      have K := hgo _ _ _ _ (aGo_inv hm3)
      simp only [okR, Bool.and_eq_true, decide_eq_true_eq, Bool.not_eq_true'] at hok
      obtain ⟨Cn, T, N, e1, e2, e3, e4, -⟩ := okF_inv hok.1.1
      exact ⟨K.1, fun cells slots h1 h2 h3 h4 => g_putf C hdec hk e1 e2 e3 hok.1.2 (by rw [← e4]; exact hok.2) (K.2 cells slots h1 h2 h3 h4)⟩
    · obtain ⟨v, _, rfl, hm4⟩ := s1I_inv hm
      obtain ⟨a, _, rfl, hm5⟩ := s1R_inv hm4
      obtain ⟨hk, hm6⟩ := gd_inv hm5
      have K := hgo _ _ _ _ (aGo_inv hm6)
      simp only [okR, Bool.and_eq_true, decide_eq_true_eq, Bool.not_eq_true'] at hok
      obtain ⟨Cn, T, N, e1, e2, e3, e4, -⟩ := okF_inv hok.1.1
      exact ⟨K.1, fun cells slots h1 h2 h3 h4 => g_putz C hdec hk.1 e1 e2 e3 hok.1.2 (by rw [← e4]; exact hok.2) hk.2 (K.2 cells slots h1 h2 h3 h4)⟩
    · obtain ⟨v, _, rfl, hm7⟩ := s1R_inv hm
      obtain ⟨a, _, rfl, hm8⟩ := s1R_inv hm7
      obtain ⟨hk, hm9⟩ := gd_inv hm8
      have K := hgo _ _ _ _ (aGo_inv hm9)
      simp only [okR, Bool.and_eq_true, decide_eq_true_eq] at hok
      obtain ⟨Cn, T, N, e1, e2, e3, e4, e5⟩ := okF_inv hok.1.1.1.1
      exact ⟨K.1, fun cells slots h1 h2 h3 h4 => g_putr C hdec hk e1 e2 e3 hok.1.1.1.2 (by rw [← e4]; exact hok.1.1.2) (by rw [← e5]; exact hok.1.2) hok.2 (K.2 cells slots h1 h2 h3 h4)⟩
    · cases hm
  · simp only [mlen] at hlen
    subst hlen
    obtain ⟨j, _, rfl, hm1⟩ := s1I_inv hm
    obtain ⟨a, _, rfl, hm2⟩ := s1R_inv hm1
    split at hm2
    · obtain ⟨hk, hm3⟩ := gd_inv hm2
      have K := hgo _ _ _ _ (aGo_inv hm3)
      exact ⟨K.1, fun cells slots h1 h2 h3 h4 => g_iald C hdec hk (K.2 cells slots h1 h2 h3 h4)⟩
    · rename_i hu
      obtain ⟨hk, hm4⟩ := gd_inv hm2
      have K := hgo _ _ _ _ (aGo_inv hm4)
      obtain ⟨⟨xs, x1, x2, x3, x5⟩, x4⟩ := hscr
      refine ⟨K.1, fun cells slots h1 h2 h3 h4 => ?_⟩
      intro α ls stk H locs ha hl hs hw hS
      obtain ⟨j1, _, rfl, rfl, hs1⟩ := hs.cI
      obtain ⟨_, rfl, hr, hs2⟩ := hs1.cR
      obtain ⟨hk1, hk2⟩ := hk
      subst hk1
      rw [ha 0 x4]
      exact va_sld C.1 C.2.1 x1 x2 x3 hS (vp_in_of_int hk2) hdec (K.2 cells slots h1 h2 h3 h4 α ls _ H locs ha hl ⟨x5 _, hs2⟩ hw hS)
  · simp only [mlen] at hlen
    subst hlen
    obtain ⟨v, _, rfl, hm1⟩ := s1I_inv hm
    obtain ⟨j, _, rfl, hm2⟩ := s1I_inv hm1
    obtain ⟨a, _, rfl, hm3⟩ := s1R_inv hm2
    obtain ⟨hk, hm4⟩ := gd_inv hm3
    have K := hgo _ _ _ _ (aGo_inv hm4)
    exact ⟨K.1, fun cells slots h1 h2 h3 h4 => g_iast C hdec hk (K.2 cells slots h1 h2 h3 h4)⟩
  · simp only [mlen] at hlen
    subst hlen
    obtain ⟨j, _, rfl, hm1⟩ := s1I_inv hm
    obtain ⟨a, _, rfl, hm2⟩ := s1R_inv hm1
    obtain ⟨hk, hm3⟩ := gd_inv hm2
    have K := hgo _ _ _ _ (aGo_inv hm3)
    exact ⟨K.1, fun cells slots h1 h2 h3 h4 => g_cald C hdec hk (K.2 cells slots h1 h2 h3 h4)⟩
  · simp only [mlen] at hlen
    subst hlen
    obtain ⟨v, _, rfl, hm1⟩ := s1I_inv hm
    obtain ⟨j, _, rfl, hm2⟩ := s1I_inv hm1
    obtain ⟨a, _, rfl, hm3⟩ := s1R_inv hm2
    obtain ⟨hk, hm4⟩ := gd_inv hm3
    have K := hgo _ _ _ _ (aGo_inv hm4)
    exact ⟨K.1, fun cells slots h1 h2 h3 h4 => g_cast C hdec hk.1 hk.2 (K.2 cells slots h1 h2 h3 h4)⟩
  · simp only [mlen] at hlen
    subst hlen
    obtain ⟨j, _, rfl, hm1⟩ := s1I_inv hm
    obtain ⟨a, _, rfl, hm2⟩ := s1R_inv hm1
    obtain ⟨hk, hm3⟩ := gd_inv hm2
    split at hm3
    · rename_i b hb
      have K := hgo _ _ _ _ (aGo_inv hm3)
      exact ⟨K.1, fun cells slots h1 h2 h3 h4 => g_aald C hdec hk hb (K.2 cells slots h1 h2 h3 h4)⟩
    · cases hm3
  · simp only [mlen] at hlen
    subst hlen
    obtain ⟨v, _, rfl, hm1⟩ := s1R_inv hm
    obtain ⟨j, _, rfl, hm2⟩ := s1I_inv hm1
    obtain ⟨a, _, rfl, hm3⟩ := s1R_inv hm2
    obtain ⟨hk, hm4⟩ := gd_inv hm3
    have K := hgo _ _ _ _ (aGo_inv hm4)
    exact ⟨K.1, fun cells slots h1 h2 h3 h4 => g_aast C hdec hk.1 hk.2 (K.2 cells slots h1 h2 h3 h4)⟩
  · simp only [mlen] at hlen
    subst hlen
    obtain ⟨a, _, rfl, hm1⟩ := s1R_inv hm
    split at hm1
    · obtain ⟨hk, hm2⟩ := gd_inv hm1
      have K := hgo _ _ _ _ (aGo_inv hm2)
      exact ⟨K.1, fun cells slots h1 h2 h3 h4 => g_alen C hdec hk (K.2 cells slots h1 h2 h3 h4)⟩
    · rename_i hu
      obtain ⟨hk, hm3⟩ := gd_inv hm1
      have K := hgo _ _ _ _ (aGo_inv hm3)
      obtain ⟨⟨xs, x1, x2, x3, x5⟩, x4⟩ := hscr
      refine ⟨K.1, fun cells slots h1 h2 h3 h4 => ?_⟩
      intro α ls stk H locs ha hl hs hw hS
      obtain ⟨_, rfl, hr, hs2⟩ := hs.cR
      obtain ⟨hk1, hk2⟩ := hk
      subst hk1
      rw [ha 0 x4]
      exact va_slen C.1 C.2.1 x1 x2 x3 hS hdec (K.2 cells slots h1 h2 h3 h4 α ls _ H locs ha hl ⟨nI_toInt hk2, hs2⟩ hw hS)
  · rename_i t
    simp only [mlen] at hlen
    subst hlen
    obtain ⟨j, _, rfl, hm1⟩ := s1I_inv hm
    obtain ⟨hj, hm2⟩ := gd_inv hm1
    split at hm2
    · have K := hgo _ _ _ _ (aGo_inv hm2)
      have K1 : nx w + 1 ≤ nx r.2 := K.1.1
      have K2 : sl w + j.toNat ≤ sl r.2 := K.1.2
      simp only [okR] at hok
      split at hok
      · exact ⟨⟨by omega, by omega⟩, fun cells slots h1 h2 h3 h4 => g_newi C hdec (wk_mem hok) ⟨by omega, by omega⟩ h4 hj (K.2 _ _ h1 (by show cells + 1 + _ = _ + (nx w + 1); omega) (by show slots + j.toNat + _ = _ + (sl w + j.toNat); omega) (Nat.le_succ_of_le h4))⟩
      · cases hok
    · have K := hgo _ _ _ _ (aGo_inv hm2)
      have K1 : nx w + 1 ≤ nx r.2 := K.1.1
      have K2 : sl w + j.toNat ≤ sl r.2 := K.1.2
      simp only [okR] at hok
      split at hok
      · exact ⟨⟨by omega, by omega⟩, fun cells slots h1 h2 h3 h4 => g_newc C hdec (wk_mem hok) ⟨by omega, by omega⟩ h4 hj (K.2 _ _ h1 (by show cells + 1 + _ = _ + (nx w + 1); omega) (by show slots + j.toNat + _ = _ + (sl w + j.toNat); omega) (Nat.le_succ_of_le h4))⟩
      · cases hok
    · cases hm2
  · rename_i i0
    simp only [mlen] at hlen
    subst hlen
    obtain ⟨j, _, rfl, hm1⟩ := s1I_inv hm
    obtain ⟨hj, hm2⟩ := gd_inv hm1
    have K := hgo _ _ _ _ (aGo_inv hm2)
    have K1 : nx w + 1 ≤ nx r.2 := K.1.1
    have K2 : sl w + j.toNat ≤ sl r.2 := K.1.2
    simp only [okR] at hok
    split at hok
    · exact ⟨⟨by omega, by omega⟩, fun cells slots h1 h2 h3 h4 => g_newq C hdec (wk_mem hok) ⟨by omega, by omega⟩ h4 hj (K.2 _ _ h1 (by show cells + 1 + _ = _ + (nx w + 1); omega) (by show slots + j.toNat + _ = _ + (sl w + j.toNat); omega) (Nat.le_succ_of_le h4))⟩
    · cases hok
  · rename_i i0
    simp only [mlen] at hlen
    subst hlen
    split at hm
    · rename_i ci nf us
      have K := hgo _ _ _ _ (aGo_inv hm)
      have K1 : nx w + 1 ≤ nx r.2 := K.1.1
      have K2 : sl w + nf ≤ sl r.2 := K.1.2
      simp only [okR] at hok
      split at hok
      · rename_i ci2 nf2 p1 p2 p3 hu
        cases hu
        split at hok
        · rename_i Cn T N hcl
          simp only [Bool.and_eq_true, decide_eq_true_eq] at hok
          obtain ⟨⟨⟨e1, e2⟩, e3⟩, e4⟩ := hok
          subst e1
          exact ⟨⟨by omega, by omega⟩, fun cells slots h1 h2 h3 h4 => g_new C hdec hcl (wk_mem e2) (wk_mem e3) (wk_mem e4) ⟨by omega, by omega⟩ h4 (K.2 _ _ h1 (by show cells + 1 + _ = _ + (nx w + 1); omega) (by show slots + _ + _ = _ + (sl w + _); omega) (Nat.le_succ_of_le h4))⟩
        · cases hok
      · cases hok
    · cases hm
  · rename_i j
    simp only [mlen] at hlen
    subst hlen
    split at hm
    · obtain ⟨a, _, rfl, hm1⟩ := s1R_inv hm
      obtain ⟨h8, hm2⟩ := gd_inv hm1
      have K := hgo _ _ _ _ (aGo_inv hm2)
      simp only [okR] at hok
      split at hok
      · rename_i hu
        cases hu
        simp only [Bool.and_eq_true] at hok
        exact ⟨K.1, fun cells slots h1 h2 h3 h4 => g_objinit C hdec h1 h8 (wk_mem hok.1.1) (wk_mem hok.1.2) (wk_mem hok.2) (K.2 cells slots h1 h2 h3 h4)⟩
      · rename_i hu
        cases hu
      · rename_i hu
        cases hu
      · cases hok
    · obtain ⟨b, as, s2, rfl, hln, h8, hkb, rfl⟩ := mcallV_inv hm
      simp only [okR] at hok
      split at hok
      · rename_i hu
        cases hu
      · rename_i hu
        cases hu
        simp only [Bool.and_eq_true, decide_eq_true_eq] at hok
        obtain ⟨⟨⟨⟨⟨hk1, hn⟩, hlk⟩, hin⟩, hnm⟩, hrt⟩ := hok
        obtain ⟨d1, r1, st2, rfl, hM, hp, K⟩ := hcall
        obtain ⟨hgr, hM⟩ := hM hk1.1
        have hK := K.1
        have hc := calleeOk (decide_eq_true_eq.mpr hk1)
        refine ⟨⟨by omega, by omega⟩, fun cells slots h1 h2 h3 h4 => ?_⟩
        intro α ls stk H locs ha hl hs hw hS
        obtain ⟨q0, rr, rfl, hs1, hs2⟩ := SR.app hs
        have hs3 := hs1.rev
        rw [List.reverse_append, List.reverse_reverse, List.reverse_singleton, List.singleton_append] at hs3
        obtain ⟨As, eA, hbn, hs4⟩ := hs3.cR
        have eq0 : q0 = As.reverse ++ [.ref (α b)] := by
          have := congrArg List.reverse eA
          rw [List.reverse_reverse, List.reverse_cons] at this
          exact this
        subst eq0
        have hrun := run_init (e := e) (below := below) (α := α) (r := rr) (st := s2) (cells := cells) (slots := slots) (As := As) C hdec hM (by first | (simp only [List.length_cons]; omega) | omega) hc (wk_mem hlk) (wk_mem hin) hnm hrt (by omega) h1 h8 ⟨by omega, by omega⟩ hl ⟨⟨rfl, hbn⟩, hs4⟩ hs2 hw hS hscr.1 (ha 0 hscr.2)
        rw [List.append_assoc, List.singleton_append]
        exact g_back hrun hp h4 hgr.1 ha hl hs2 hS (K.2 _ _ h1 (by omega) (by omega) (by omega))
      · rename_i hu
        cases hu
      · cases hok
    · obtain ⟨b, as, s2, rfl, hln, h8, hkb, rfl⟩ := mcallV_inv hm
      simp only [okR] at hok
      split at hok
      · rename_i hu
        cases hu
      · rename_i hu
        cases hu
      · rename_i hu
        cases hu
        simp only [Bool.and_eq_true, decide_eq_true_eq] at hok
        obtain ⟨⟨⟨⟨⟨hk1, hn⟩, hlk⟩, hin⟩, hnm⟩, hrt⟩ := hok
        obtain ⟨d1, r1, st2, rfl, hM, hp, K⟩ := hcall
        obtain ⟨hgr, hM⟩ := hM hk1.1
        have hK := K.1
        have hc := calleeOk (decide_eq_true_eq.mpr hk1)
        have hlk := C.2.2.2.2.2.1.at _ _ hlk
        refine ⟨⟨by omega, by omega⟩, fun cells slots h1 h2 h3 h4 => ?_⟩
        intro α ls stk H locs ha hl hs hw hS
        obtain ⟨q0, rr, rfl, hs1, hs2⟩ := SR.app hs
        have hs3 := hs1.rev
        rw [List.reverse_append, List.reverse_reverse, List.reverse_singleton, List.singleton_append] at hs3
        obtain ⟨As, eA, hbn, hs4⟩ := hs3.cR
        have eq0 : q0 = As.reverse ++ [.ref (α b)] := by
          have := congrArg List.reverse eA
          rw [List.reverse_reverse, List.reverse_cons] at this
          exact this
        subst eq0
        have hrun := run_initN (e := e) (below := below) (α := α) (r := rr) (st := s2) (cells := cells) (slots := slots) (As := As) C hdec hM (by first | (simp only [List.length_cons]; omega) | omega) hc hlk (wk_mem hin) hnm hrt (by omega) h1 h8 ⟨by omega, by omega⟩ hl ⟨⟨rfl, hbn⟩, hs4⟩ hs2 hw hS hscr.1 (ha 0 hscr.2)
        rw [List.append_assoc, List.singleton_append]
        exact g_back hrun hp h4 hgr.1 ha hl hs2 hS (K.2 _ _ h1 (by omega) (by omega) (by omega))
      · cases hok
    · cases hm
  · rename_i j
    simp only [mlen] at hlen
    subst hlen
    split at hm
    · obtain ⟨b, as, s2, rfl, hln, h8, hkb, rfl⟩ := mcallV_inv hm
      simp only [okR] at hok
      split at hok
      · rename_i hu
        cases hu
        simp only [Bool.and_eq_true, decide_eq_true_eq] at hok
        obtain ⟨⟨⟨⟨⟨⟨hk1, hn⟩, hci⟩, hcn⟩, hlk⟩, hin⟩, hse⟩ := hok
        obtain ⟨d1, r1, st2, rfl, hM, hp, K⟩ := hcall
        obtain ⟨hgr, hM⟩ := hM hk1.1
        have hK := K.1
        have hc := calleeOk (decide_eq_true_eq.mpr hk1)
        obtain ⟨Cn, T, N, hcl, hcn2⟩ := clsN_inv hci
        refine ⟨⟨by omega, by omega⟩, fun cells slots h1 h2 h3 h4 => ?_⟩
        intro α ls stk H locs ha hl hs hw hS
        obtain ⟨q0, rr, rfl, hs1, hs2⟩ := SR.app hs
        have hs3 := hs1.rev
        rw [List.reverse_append, List.reverse_reverse, List.reverse_singleton, List.singleton_append] at hs3
        obtain ⟨As, eA, hbn, hs4⟩ := hs3.cR
        have eq0 : q0 = As.reverse ++ [.ref (α b)] := by
          have := congrArg List.reverse eA
          rw [List.reverse_reverse, List.reverse_cons] at this
          exact this
        subst eq0
        have hrun := run_virt (e := e) (below := below) (α := α) (r := rr) (st := s2) (cells := cells) (slots := slots) (As := As) C hdec hM (by first | (simp only [List.length_cons]; omega) | omega) hc (wk_mem hlk) (wk_mem hin) (wk_mem hse) hcl (hcn2.symm.trans hcn) hkb (by omega) h1 h8 ⟨by omega, by omega⟩ hl ⟨⟨rfl, hbn⟩, hs4⟩ hs2 hw hS hscr.1 (ha 0 hscr.2)
        rw [List.append_assoc, List.singleton_append]
        exact g_back hrun hp h4 hgr.1 ha hl hs2 hS (K.2 _ _ h1 (by omega) (by omega) (by omega))
      · cases hok
    · cases hm
  · rename_i j
    simp only [mlen] at hlen
    subst hlen
    split at hm
    · obtain ⟨as, s2, rfl, hln, h8, rfl⟩ := mcallS_inv hm
      simp only [okR] at hok
      split at hok
      · rename_i hu
        cases hu
        simp only [Bool.and_eq_true, decide_eq_true_eq] at hok
        obtain ⟨⟨⟨hk1, hn⟩, hlk⟩, hin⟩ := hok
        obtain ⟨d1, r1, st2, rfl, hM, hp, K⟩ := hcall
        obtain ⟨hgr, hM⟩ := hM hk1.1
        have hK := K.1
        have hc := calleeOk (decide_eq_true_eq.mpr hk1)
        refine ⟨⟨by omega, by omega⟩, fun cells slots h1 h2 h3 h4 => ?_⟩
        intro α ls stk H locs ha hl hs hw hS
        obtain ⟨q0, rr, rfl, hs1, hs2⟩ := SR.app hs
        have hs3 := hs1.rev
        rw [List.reverse_reverse] at hs3
        have hrun := run_stat (e := e) (below := below) (α := α) (r := rr) (st := s2) (cells := cells) (slots := slots) (As := q0.reverse) C hdec hM (by first | (simp only [List.length_cons]; omega) | omega) hc (wk_mem hlk) (wk_mem hin) (by omega) h1 h8 ⟨by omega, by omega⟩ hl hs3 hs2 hw hS hscr.1 (ha 0 hscr.2)
        rw [List.reverse_reverse] at hrun
        exact g_back hrun hp h4 hgr.1 ha hl hs2 hS (K.2 _ _ h1 (by omega) (by omega) (by omega))
      · rename_i hu
        cases hu
      · rename_i hu
        cases hu
      · rename_i hu
        cases hu
      · rename_i hu
        cases hu
      · cases hok
    · obtain ⟨x, y, _, rfl, hm1⟩ := s2I_inv hm
      obtain ⟨h8, hm2⟩ := gd_inv hm1
      have K := hgo _ _ _ _ (aGo_inv hm2)
      simp only [okR] at hok
      split at hok
      · rename_i hu
        cases hu
      · rename_i hu
        cases hu
      · rename_i hu
        cases hu
        simp only [Bool.and_eq_true] at hok
        exact ⟨K.1, fun cells slots h1 h2 h3 h4 => g_max C hdec h1 h8 ⟨by have := K.1.1; omega, by have := K.1.2; omega⟩ (wk_mem hok.1.1.1) (wk_mem hok.1.1.2) (wk_mem hok.1.2) (wk_mem hok.2) (K.2 cells slots h1 h2 h3 h4)⟩
      · rename_i hu
        cases hu
      · rename_i hu
        cases hu
      · cases hok
    · obtain ⟨x, y, _, rfl, hm3⟩ := s2I_inv hm
      obtain ⟨h8, hm4⟩ := gd_inv hm3
      have K := hgo _ _ _ _ (aGo_inv hm4)
      simp only [okR] at hok
      split at hok
      · rename_i hu
        cases hu
      · rename_i hu
        cases hu
      · rename_i hu
        cases hu
      · rename_i hu
        cases hu
        simp only [Bool.and_eq_true] at hok
        exact ⟨K.1, fun cells slots h1 h2 h3 h4 => g_min C hdec h1 h8 ⟨by have := K.1.1; omega, by have := K.1.2; omega⟩ (wk_mem hok.1.1.1) (wk_mem hok.1.1.2) (wk_mem hok.1.2) (wk_mem hok.2) (K.2 cells slots h1 h2 h3 h4)⟩
      · rename_i hu
        cases hu
      · cases hok
    · obtain ⟨as, s2, rfl, hln, h8, rfl⟩ := mcallS_inv hm
      simp only [okR] at hok
      split at hok
      · rename_i hu
        cases hu
      · rename_i hu
        cases hu
        simp only [Bool.and_eq_true, decide_eq_true_eq] at hok
        obtain ⟨⟨⟨hk1, hn⟩, hlk⟩, hin⟩ := hok
        obtain ⟨d1, r1, st2, rfl, hM, hp, K⟩ := hcall
        obtain ⟨hgr, hM⟩ := hM hk1.1
        have hK := K.1
        have hc := calleeOk (decide_eq_true_eq.mpr hk1)
        have hlk := C.2.2.2.2.2.1.at _ _ hlk
        refine ⟨⟨by omega, by omega⟩, fun cells slots h1 h2 h3 h4 => ?_⟩
        intro α ls stk H locs ha hl hs hw hS
        obtain ⟨q0, rr, rfl, hs1, hs2⟩ := SR.app hs
        have hs3 := hs1.rev
        rw [List.reverse_reverse] at hs3
        have hrun := run_statN (e := e) (below := below) (α := α) (r := rr) (st := s2) (cells := cells) (slots := slots) (As := q0.reverse) C hdec hM (by first | (simp only [List.length_cons]; omega) | omega) hc hlk (wk_mem hin) (by omega) h1 h8 ⟨by omega, by omega⟩ hl hs3 hs2 hw hS hscr.1 (ha 0 hscr.2)
        rw [List.reverse_reverse] at hrun
        exact g_back hrun hp h4 hgr.1 ha hl hs2 hS (K.2 _ _ h1 (by omega) (by omega) (by omega))
      · rename_i hu
        cases hu
      · rename_i hu
        cases hu
      · rename_i hu
        cases hu
      · cases hok
    · obtain ⟨tp, j1, _, rfl, hm5⟩ := s2I_inv hm
      obtain ⟨t, _, rfl, hm6⟩ := s1R_inv hm5
      obtain ⟨sp, _, rfl, hm7⟩ := s1I_inv hm6
      obtain ⟨s1, _, rfl, hm8⟩ := s1R_inv hm7
      obtain ⟨hk, hm9⟩ := gd_inv hm8
      have K := hgo _ _ _ _ (aGo_inv hm9)
      simp only [okR] at hok
      split at hok
      · rename_i hu
        cases hu
      · rename_i hu
        cases hu
      · rename_i hu
        cases hu
      · rename_i hu
        cases hu
      · rename_i hu
        cases hu
        simp only [Bool.and_eq_true] at hok
        exact ⟨K.1, fun cells slots h1 h2 h3 h4 => g_copy C hdec h1 hk.1 (wk_mem hok.1.1.1) (wk_mem hok.1.1.2) (wk_mem hok.1.2) (wk_mem hok.2) hk.2 (K.2 cells slots h1 h2 h3 h4)⟩
      · cases hok
    · cases hm
  · simp only [mlen] at hlen
    subst hlen
    split at hm
    · obtain ⟨x, q9, rfl, hm1⟩ := s1I_inv hm
      obtain ⟨hq, hm2⟩ := gd_inv hm1
      subst hq
      have er := hret _ _ (aRet_inv hm2)
      subst er
      simp only [okR] at hok
      split at hok
      · simp only [decide_eq_true_eq] at hok
        refine ⟨⟨Nat.le_refl _, Nat.le_refl _⟩, fun cells slots h1 h2 h3 h4 => ?_⟩
        intro α ls stk H locs ha hl hs hw hS
        have ec : cells = mc := by dsimp only at h2; omega
        have es : slots = ms := by dsimp only at h3; omega
        subst ec; subst es
        obtain ⟨x1, q1, rfl, hx, hs1⟩ := hs.cI
        have := hs1.nil
        subst this
        exact hend α pc ls _ H locs ha ⟨x1, hdec, rfl, hx, Or.inl hok⟩ hw hS
      · rename_i hu
        cases hu
      · cases hok
    · obtain ⟨x, q9, rfl, hm3⟩ := s1I_inv hm
      obtain ⟨hq, hm4⟩ := gd_inv hm3
      obtain ⟨hq, hz⟩ := hq
      subst hq
      have er := hret _ _ (aRet_inv hm4)
      subst er
      simp only [okR] at hok
      split at hok
      · rename_i hu
        cases hu
      · simp only [decide_eq_true_eq] at hok
        refine ⟨⟨Nat.le_refl _, Nat.le_refl _⟩, fun cells slots h1 h2 h3 h4 => ?_⟩
        intro α ls stk H locs ha hl hs hw hS
        have ec : cells = mc := by dsimp only at h2; omega
        have es : slots = ms := by dsimp only at h3; omega
        subst ec; subst es
        obtain ⟨x1, q1, rfl, hx, hs1⟩ := hs.cI
        have := hs1.nil
        subst this
        exact hend α pc ls _ H locs ha ⟨x1, hdec, rfl, hx, Or.inr ⟨hok, hz⟩⟩ hw hS
      · cases hok
    · cases hm
  · simp only [mlen] at hlen
    subst hlen
    obtain ⟨x, q9, rfl, hm1⟩ := s1R_inv hm
    obtain ⟨hq, hm2⟩ := gd_inv hm1
    subst hq
    have er := hret _ _ (aRet_inv hm2)
    subst er
    simp only [okR, decide_eq_true_eq] at hok
    refine ⟨⟨Nat.le_refl _, Nat.le_refl _⟩, fun cells slots h1 h2 h3 h4 => ?_⟩
    intro α ls stk H locs ha hl hs hw hS
    have ec : cells = mc := by dsimp only at h2; omega
    have es : slots = ms := by dsimp only at h3; omega
    subst ec; subst es
    obtain ⟨q1, rfl, hx, hs1⟩ := hs.cR
    have := hs1.nil
    subst this
    exact hend α pc ls _ H locs ha ⟨hdec, rfl, hx, hok⟩ hw hS
  · simp only [mlen] at hlen
    subst hlen
    obtain ⟨hq, hm1⟩ := gd_inv hm
    subst hq
    have er := hret _ _ (aRet_inv hm1)
    subst er
    simp only [okR, decide_eq_true_eq] at hok
    refine ⟨⟨Nat.le_refl _, Nat.le_refl _⟩, fun cells slots h1 h2 h3 h4 => ?_⟩
    intro α ls stk H locs ha hl hs hw hS
    have ec : cells = mc := by dsimp only at h2; omega
    have es : slots = ms := by dsimp only at h3; omega
    subst ec; subst es
    have := hs.nil
    subst this
    exact hend α pc ls _ H locs ha ⟨hdec, rfl, hok⟩ hw hS
  · cases hm
end SM
end
section
/-! runs grow the world; a frame from its run; contracts of all methods -/
def GrowAct (w : MW) (act : Act) : Prop := match act with
  | .inl (_, _, _, w') => nx w ≤ nx w' ∧ sl w ≤ sl w'
  | .inr (.inl (_, w')) => nx w ≤ nx w' ∧ sl w ≤ sl w'
  | .inr (.inr (_, _, _, _, _, _, w')) => nx w ≤ nx w' ∧ sl w ≤ sl w'
def GO (w : MW) (o : Option Act) : Prop := ∀ a, o = some a → GrowAct w a
theorem GO_none {w : MW} : GO w none := fun _ h => by cases h
theorem GO_gd {w : MW} {c : Prop} [Decidable c] {o : Option Act} (h : GO w o) : GO w (gd c o) := fun a ha => h a (gd_inv ha).2
theorem GO_ite {w : MW} {c : Prop} [Decidable c] {o o2 : Option Act} (h : GO w o) (h2 : GO w o2) : GO w (if c then o else o2) := by
  split
  · exact h
  · exact h2
theorem GO_s1I {w : MW} {st : List MV} {f : Int → List MV → Option Act} (h : ∀ x r, GO w (f x r)) : GO w (s1I st f) := fun a ha => by
  obtain ⟨x, r, -, ha⟩ := s1I_inv ha
  exact h x r a ha
theorem GO_s1R {w : MW} {st : List MV} {f : Nat → List MV → Option Act} (h : ∀ x r, GO w (f x r)) : GO w (s1R st f) := fun a ha => by
  obtain ⟨x, r, -, ha⟩ := s1R_inv ha
  exact h x r a ha
theorem GO_s2I {w : MW} {st : List MV} {f : Int → Int → List MV → Option Act} (h : ∀ x y r, GO w (f x y r)) : GO w (s2I st f) := fun a ha => by
  obtain ⟨x, y, r, -, ha⟩ := s2I_inv ha
  exact h x y r a ha
theorem GO_lgI {w : MW} {L : List (Option MV)} {i : Nat} {f : Int → Option Act} (h : ∀ x, GO w (f x)) : GO w (lgI L i f) := fun a ha => by
  obtain ⟨x, -, ha⟩ := lgI_inv ha
  exact h x a ha
theorem GO_lgR {w : MW} {L : List (Option MV)} {i : Nat} {f : Nat → Option Act} (h : ∀ x, GO w (f x)) : GO w (lgR L i f) := fun a ha => by
  obtain ⟨x, -, ha⟩ := lgR_inv ha
  exact h x a ha
theorem GO_go {w w' : MW} {pc : Nat} {L : List (Option MV)} {st : List MV} (h : nx w ≤ nx w' ∧ sl w ≤ sl w') : GO w (aGo pc L st w') := fun a ha => by
  rw [aGo_inv ha]
  exact h
theorem GO_ret {w : MW} {v : Option MV} : GO w (aRet v w) := fun a ha => by
  rw [aRet_inv ha]
  exact ⟨Nat.le_refl _, Nat.le_refl _⟩
theorem GO_call {w : MW} {kind k n ci pc : Nat} {b : Bool} {L : List (Option MV)} {st : List MV} : GO w (mcall kind k n ci b pc L st w) := fun a ha => by
  cases b with
  | true =>
    obtain ⟨b, as, s2, -, -, -, -, rfl⟩ := mcallV_inv ha
    exact ⟨Nat.le_refl _, Nat.le_refl _⟩
  | false =>
    obtain ⟨as, s2, -, -, -, rfl⟩ := mcallS_inv ha
    exact ⟨Nat.le_refl _, Nat.le_refl _⟩
set_option maxHeartbeats 4000000 in
theorem mstep_grow {X : Nat × (Nat → Int)} {i : Instr} {n : Nat} {u : List Nat} {pc : Nat} {L : List (Option MV)} {st : List MV} {w : MW} : GO w (mstep X i n u pc L st w) := by
  unfold mstep
  split
  all_goals (repeat' (first | exact GO_none | exact GO_ret | exact GO_call | exact GO_go ⟨Nat.le_refl _, Nat.le_refl _⟩ | exact GO_go ⟨Nat.le_succ _, Nat.le_add_right _ _⟩ | refine GO_gd ?_ | refine GO_s2I fun _ _ _ => ?_ | refine GO_s1I fun _ _ => ?_ | refine GO_s1R fun _ _ => ?_ | refine GO_lgI fun _ => ?_ | refine GO_lgR fun _ => ?_ | split))
theorem ex_grow {X : Nat × (Nat → Int)} : ∀ (n d k pc : Nat) (L : List (Option MV)) (st : List MV) (w : MW) (r : Option MV × MW), ex X n d k pc L st w = some r → nx w ≤ nx r.2 ∧ sl w ≤ sl r.2 := by
  intro n
  induction n with
  | zero => intro d k pc L st w r h; simp [ex] at h
  | succ n ih =>
    intro d k pc L st w r h
    rw [ex] at h
    cases hs : stepAt X k pc L st w with
    | none => rw [hs] at h; cases h
    | some a =>
      rw [hs] at h
      have hg : GrowAct w a := by
        unfold stepAt at hs
        split at hs
        · cases hs
        · exact mstep_grow a hs
      rcases a with ⟨pc', L', st', w'⟩ | ⟨v, w'⟩ | ⟨kind, k', as, pc', L', st', w'⟩
      · have h1 := ih _ _ _ _ _ _ _ h
        exact ⟨Nat.le_trans hg.1 h1.1, Nat.le_trans hg.2 h1.2⟩
      · cases h
        exact hg
      · cases d with
        | zero => cases h
        | succ d =>
          dsimp only at h
          cases h1 : ex X n d k' 0 (entry k' as) [] w' with
          | none => rw [h1] at h; cases h
          | some r1 =>
            rw [h1] at h
            dsimp only at h
            cases h2 : pushR kind r1.1 st' with
            | none => rw [h2] at h; cases h
            | some st2 =>
              rw [h2] at h
              have a1 := ih _ _ _ _ _ _ _ h1
              have a2 := ih _ _ _ _ _ _ _ h
              exact ⟨Nat.le_trans hg.1 (Nat.le_trans a1.1 a2.1), Nat.le_trans hg.2 (Nat.le_trans a1.2 a2.2)⟩
def OkAll : Prop := ∀ (k pc : Nat) (e : MC), cd k pc = some e → okI k pc e = true
section SF
variable {p : Program} {l : Launch} {e : Env} {Rm : Room} {s : State} {m : MethodId} {args : Array Value} {below : List Frame} {meth : Method} {c : Code} {Q : State → Prop} {D : va_G} {B n0 : Nat} {α0 : Nat → Nat}
theorem cont_kill {k mc ms pc : Nat} {r : Option MV × MW} {ds : List Nat} {L : List (Option MV)} {st : List MV} {w : MW} (h : Cont p l e Rm s m args below meth c Q D B n0 α0 k mc ms r pc (kill ds L) st w) : Cont p l e Rm s m args below meth c Q D B n0 α0 k mc ms r pc L st w := by
  refine ⟨h.1, fun cells slots h1 h2 h3 h4 => ?_⟩
  intro α ls stk H locs ha hl hs hw hS
  exact h.2 cells slots (by rw [kill_len]; exact h1) h2 h3 h4 α ls stk H locs ha (hl.kill ds) hs hw hS
theorem sim_frame {X : Nat × (Nat → Int)} {k d mc ms : Nat} {r : Option MV × MW} (hokA : OkAll) (hmet : ∀ (d' n' k' : Nat) (as : List MV) (w1 : MW) (r1 : Option MV × MW), d = d' + 1 → 1 ≤ k' → ex X n' d' k' 0 (entry k' as) [] w1 = some r1 → MetK X l D B d' k' as w1 r1.2 r1.1)
    (C : Cx p Rm s m args meth c B k d) (hR : mc ≤ Rm.cells ∧ ms ≤ Rm.slots) (hend : EndOk p l e Rm s m args below meth c Q D B n0 α0 k mc ms r) (hscr : ScrOk s B n0 k α0 X) :
    ∀ (n pc : Nat) (L : List (Option MV)) (st : List MV) (w : MW), ex X n d k pc L st w = some r → Cont p l e Rm s m args below meth c Q D B n0 α0 k mc ms r pc L st w := by
  intro n
  induction n with
  | zero => intro pc L st w h; simp [ex] at h
  | succ n ih =>
    intro pc L st w h
    rw [ex] at h
    cases hs : stepAt X k pc L st w with
    | none => rw [hs] at h; cases h
    | some act =>
      rw [hs] at h
      unfold stepAt at hs
      split at hs
      · cases hs
      · rename_i i nn u ds hcd
        have hok := hokA k pc _ hcd
        unfold okI at hok
        simp only [Bool.and_eq_true, decide_eq_true_eq] at hok
        obtain ⟨⟨hdec, hlen⟩, hokr⟩ := hok
        refine cont_kill (ds := ds) (sim_step C hR hend hscr hdec hlen hokr hs ?_ ?_ ?_)
        · intro pc' L' st' w' ea
          subst ea
          exact ih _ _ _ _ h
        · intro v w' ea
          subst ea
          exact (Option.some.inj h).symm
        · rcases act with ⟨pc', L', st', w'⟩ | ⟨v, w'⟩ | ⟨kind, k', as, pc', L', st', w'⟩
          · trivial
          · trivial
          · cases d with
            | zero => cases h
            | succ d =>
              dsimp only at h
              cases h1 : ex X n d k' 0 (entry k' as) [] w' with
              | none => rw [h1] at h; cases h
              | some r1 =>
                rw [h1] at h
                dsimp only at h
                cases h2 : pushR kind r1.1 st' with
                | none => rw [h2] at h; cases h
                | some st2 =>
                  rw [h2] at h
                  exact ⟨d, r1, st2, rfl, fun hk => ⟨ex_grow _ _ _ _ _ _ _ _ h1, hmet d n k' as w' r1 rfl hk h1⟩, h2, ih _ _ _ _ h⟩
end SF
end
section
/-! contracts of all methods; the law from its run -/
theorem lg_sl1 : ∀ {vals : List Value}, (∀ v ∈ vals, v.category = 1) → lg_sl vals = vals.map Slot.val
  | [], _ => rfl
  | v :: vs, h => by
    have h1 := h v List.mem_cons_self
    have h2 := lg_sl1 (vals := vs) (fun x hx => h x (List.mem_cons_of_mem _ hx))
    unfold lg_sl at h2 ⊢
    rw [List.flatMap_cons, h2, if_neg (by rw [h1]; decide)]
    rfl
theorem lv_args1 : ∀ {vals : List Value} (i : Nat), (∀ v ∈ vals, v.category = 1) → ∀ (j : Nat) (x : Value), vals[j]? = some x → (i + j, x) ∈ lv_args i vals
  | [], _, _, _, _, hx => by simp at hx
  | v :: vs, i, h, j, x, hx => by
    have h1 := h v List.mem_cons_self
    unfold lv_args
    cases j with
    | zero =>
      have : v = x := by simpa using hx
      subst this
      exact List.mem_cons_self
    | succ j =>
      rw [if_neg (by rw [h1]; decide)]
      have := lv_args1 (i + 1) (fun x hx => h x (List.mem_cons_of_mem _ hx)) j x (by simpa using hx)
      rw [show i + (j + 1) = i + 1 + j by omega]
      exact List.mem_cons_of_mem _ this
theorem lv_args_mem : ∀ {vals : List Value} (i : Nat) (q : Nat × Value), q ∈ lv_args i vals → q.2 ∈ vals
  | [], _, _, h => by cases h
  | v :: vs, i, q, h => by
    unfold lv_args at h
    rcases List.mem_cons.mp h with h | h
    · rw [h]; exact List.mem_cons_self
    · exact List.mem_cons_of_mem _ (lv_args_mem _ _ h)
theorem SR.get {α : Nat → Nat} {n : Nat} : ∀ {as : List MV} {vals : List Value}, SR α n as vals → ∀ (i : Nat) (v : MV), as[i]? = some v → ∃ x, vals[i]? = some x ∧ VR α n v x
  | [], _, _, i, v, hi => by simp at hi
  | a :: as, vals, h, i, v, hi => by
    obtain ⟨x, q, rfl, h1, -, h2⟩ := h.c1
    cases i with
    | zero =>
      have : a = v := by simpa using hi
      subst this
      exact ⟨x, rfl, h1⟩
    | succ i => exact SR.get h2 i v (by simpa using hi)
theorem SR.cats {α : Nat → Nat} {n : Nat} : ∀ {as : List MV} {vals : List Value}, SR α n as vals → ∀ x ∈ vals, x.category = 1
  | [], vals, h => by rw [h.nil]; intro x hx; cases hx
  | a :: as, vals, h => by
    obtain ⟨x, q, rfl, h1, hc, h2⟩ := h.c1
    intro y hy
    rcases List.mem_cons.mp hy with hy | hy
    · rw [hy]; exact hc
    · exact SR.cats h2 y hy
theorem entry_len {k : Nat} {as : List MV} (h : as.length ≤ mL k) : (entry k as).length = mL k := by
  unfold entry
  rw [List.length_append, List.length_map, List.length_replicate]
  omega
theorem entry_LR {α : Nat → Nat} {n k : Nat} {as : List MV} {vals : List Value} (h : SR α n as vals) (hk : as.length ≤ mL k) : LR α n (entry k as) ((lg_sl vals ++ List.replicate (mL k - (lg_sl vals).length) Slot.unset).toArray) := by
  have hc := h.cats
  have hl : (lg_sl vals).length = as.length := by rw [lg_sl1 hc, List.length_map, h.len]
  refine ⟨lv_args 0 vals, ?_, fun q hq => hc _ (lv_args_mem _ _ hq), fun i v hi => ?_⟩
  · rw [entry_len hk]
    exact lv_entry vals (by omega)
  · unfold entry at hi
    by_cases hlt : i < as.length
    · rw [List.getElem?_append_left (by rw [List.length_map]; exact hlt), List.getElem?_map] at hi
      cases ha : as[i]? with
      | none => rw [ha] at hi; cases hi
      | some u =>
        rw [ha] at hi
        cases hi
        obtain ⟨x, hx, hv⟩ := h.get i _ ha
        refine ⟨x, ?_, hv⟩
        have := lv_args1 0 hc i x hx
        rw [Nat.zero_add] at this
        exact this
    · rw [List.getElem?_append_right (by rw [List.length_map]; omega)] at hi
      have := List.mem_of_getElem? hi
      have := List.eq_of_mem_replicate this
      cases this
theorem plainAll : ∀ k, k < 107 → 1 ≤ k → plainName (mY k).cls = true ∧ mOwn k = (mY k).cls := by decide +kernel
theorem cd_lt {k pc : Nat} {e : MC} (h : cd k pc = some e) : k < 107 := by
  rcases Nat.lt_or_ge k 107 with hk | hk
  · exact hk
  · exfalso
    have hn : mt k = mNone := by
      unfold mt
      rcases Nat.lt_or_ge k 112 with hk2 | hk2
      · have key2 : ∀ k, k < 112 → 107 ≤ k → k / 16 = 6 ∧ 11 ≤ k % 16 := by decide +kernel
        obtain ⟨e1, e2⟩ := key2 k hk2 hk
        rw [e1, List.getD_eq_getElem?_getD, List.getElem?_eq_none]
        · rfl
        · exact e2
      · have e3 : mtls.getD (k / 16) [] = [] := by
          rw [List.getD_eq_getElem?_getD, List.getElem?_eq_none]
          · rfl
          · show 7 ≤ k / 16
            omega
        rw [e3]
        rfl
    unfold cd at h
    rw [hn] at h
    cases h
theorem ex_lt {X : Nat × (Nat → Int)} {n d k pc : Nat} {L : List (Option MV)} {st : List MV} {w : MW} {r : Option MV × MW} (h : ex X n d k pc L st w = some r) : k < 107 := by
  cases n with
  | zero => simp [ex] at h
  | succ n =>
    rw [ex] at h
    cases hs : stepAt X k pc L st w with
    | none => rw [hs] at h; cases h
    | some act =>
      unfold stepAt at hs
      split at hs
      · cases hs
      · rename_i hcd
        exact cd_lt hcd
theorem met_one {X : Nat × (Nat → Int)} (hokA : OkAll) {l : Launch} {D : va_G} {B d n k : Nat} {as : List MV} {w : MW} {r : Option MV × MW} (hmet : ∀ (d' n' k' : Nat) (as : List MV) (w1 : MW) (r1 : Option MV × MW), d = d' + 1 → 1 ≤ k' → ex X n' d' k' 0 (entry k' as) [] w1 = some r1 → MetK X l D B d' k' as w1 r1.2 r1.1)
    (hk : 1 ≤ k) (h : ex X n d k 0 (entry k as) [] w = some r) : MetK X l D B d k as w r.2 r.1 := by
  intro hal α0 vals hvs
  have hgr := ex_grow _ _ _ _ _ _ _ _ h
  have hpl := plainAll k (ex_lt h) hk
  refine Met.ofW (cc := mB k) (maxL := mL k) (ret := mRet k) hpl.1 rfl ?_
  intro p e s m args below meth c s₁ Bd hml hv
  obtain ⟨rfl, hB, hN, hW, hX⟩ := hv
  have hts := atoms_spec (ws := .code (mY k) (mB k) (mL k) (mRet k) :: gtbl) Bd.pre
  have hlocks := Bd.notSynchronized
  have C : Cx p (rmF d (nx r.2 - nx w) (sl r.2 - sl w)) s m vals.toArray meth c B k d :=
    ⟨Bd.exec, Bd.bytes, hml, by rw [hpl.2]; exact findClass_of_methodNamed Bd.named, fun w hw => hts w (List.mem_cons_of_mem _ hw), hN, ⟨Nat.le_refl _, Nat.le_refl _⟩, fun hi => by rw [(name_of_methodNamed Bd.named Bd.method).1]; exact hi, hB⟩
  rw [lg_entry_eq]
  have hcont := sim_frame (l := l) (e := e) (below := below) (Q := MQ below (QcM D B α0 w r.2 r.1) vals.toArray s (nx r.2 - nx w) (sl r.2 - sl w) (aB B)) (D := D) (n0 := nx w) (α0 := α0) (X := X) (mc := nx r.2 - nx w) (ms := sl r.2 - sl w) (r := r) hokA hmet C ⟨Nat.le_refl _, Nat.le_refl _⟩ ?_ ⟨hX, by obtain ⟨ws, tys, q1, q2, q3, q4, -⟩ := hW; exact q4⟩ n 0 (entry k as) [] w h
  · exact hcont.2 0 0 (entry_len hal) (by omega) (by omega) (Nat.le_refl _) α0 _ [] s.heap [] (fun _ _ => rfl) (entry_LR hvs hal) trivial hW va_S.rf
  · intro α pc ls stk H locs ha hra hw hS
    obtain ⟨v, w'⟩ := r
    rcases v with _ | z | z
    · obtain ⟨h1, rfl, h3⟩ := hra
      exact W.vret C.1 C.2.1 (by rw [Bd.returns]; exact h3) (fun t ht hWt => ⟨⟨α, rfl, ha, by show WH _ _ _ _ t t.heap; rw [ht]; exact hw.moved hWt.alike⟩, hS.F ht⟩) hS.2.2 h1
    · obtain ⟨x, h1, rfl, rfl, h3⟩ := hra
      rcases h3 with h3 | ⟨h3, h4⟩
      · exact W.iret C.1 C.2.1 (by rw [Bd.returns]; exact h3) (fun t ht hWt => ⟨⟨x, α, rfl, ⟨rfl, ha⟩, by show WH _ _ _ _ t t.heap; rw [ht]; exact hw.moved hWt.alike⟩, hS.F ht⟩) hS.2.2 h1
      · refine W.zret (ty := .boolean) C.1 C.2.1 (by rw [Bd.returns]; exact h3) ?_ (fun t ht hWt => ⟨⟨x, α, rfl, ⟨rfl, ha⟩, by show WH _ _ _ _ t t.heap; rw [ht]; exact hw.moved hWt.alike⟩, hS.F ht⟩) hS.2.2 h1
        have hz : x = 0 ∨ x = 1 := by
          rcases h4 with h | h
          · exact Or.inl (Int32.toInt_inj.mp h)
          · exact Or.inr (Int32.toInt_inj.mp h)
        rcases hz with rfl | rfl <;> rfl
    · obtain ⟨h1, rfl, h2, h3⟩ := hra
      exact W.aret C.1 C.2.1 (by rw [Bd.returns]; exact h3) (Or.inl ⟨_, rfl⟩) (Or.inr ⟨_, rfl⟩) (fun t ht hWt => ⟨⟨α, _, rfl, ha, ⟨rfl, h2⟩, by show WH _ _ _ _ t t.heap; rw [ht]; exact hw.moved hWt.alike⟩, hS.F ht⟩) hS.2.2 h1
theorem met_all {X : Nat × (Nat → Int)} (hokA : OkAll) (l : Launch) (D : va_G) (B : Nat) : ∀ (d n k : Nat) (as : List MV) (w : MW) (r : Option MV × MW), 1 ≤ k → ex X n d k 0 (entry k as) [] w = some r → MetK X l D B d k as w r.2 r.1 := by
  intro d
  induction d with
  | zero =>
    intro n k as w r hk h
    exact met_one hokA (fun _ _ _ _ _ _ h0 => absurd h0 (by omega)) hk h
  | succ d ih =>
    intro n k as w r hk h
    refine met_one hokA (fun d' n' k' as' w1 r1 h0 hk' h1 => ?_) hk h
    have : d = d' := by omega
    subst this
    exact ih n' k' as' w1 r1 hk' h1
end
section
/-! THE CLAIM OUT OF ONE WALK OF THE LAW'S BODY. Your part is whole_start (and what it stands on); all else here is the same for every law, but numbers. -/
def R_law : String := "SometimesSumsLaw"
def lw_P (b : Addr) (xs : List Int32) (args : Array Value) (s : State) : Prop := args = #[.ref b] ∧ s.IntsAt b xs ∧ xs.length ≤ 260 ∧ (Jvm.Cond.and given_1 narrow_1).before args s = true
def lw_Q (_ : Array Value) (s : State) (o : Outcome) (t : State) : Prop := o = .returned (some (.int 1)) ∧ Framed s o t [] 600000 7302250
def lw_Z (below : List Frame) (a : Array Value) (s : State) : State → Prop := fun t => ∃ o, t.status = .running ∧ Ended t below o ∧ lw_Q a s o t
/-- the law's own end, with 1 on the stack, nothing written that was there before, its room as the claim has it -/
theorem lw_ret {p : Program} {l : Launch} {e : Env} {s : State} {m : MethodId} {below : List Frame} {meth : Method} {c : Code} {b : Nat} (hx : p.tables.exec = Jvm.exec) (hb : c.code = code) (hr : meth.sig.returnType = ret) (hlocks : meth.locks = false) {pc : Nat} {H : Heap} {ls : Array Slot} (hdg : decode code pc = .ok (.ireturn, 1)) : W p l e room_1 s m #[Value.ref b] below meth c H [] 600000 7302250 (lw_Z below #[Value.ref b] s) (F0 m pc ls [.int 1]) := by
  intro T hT X
  obtain ⟨fs, hret, hrun, hended, hW, hframe⟩ := X.leave (v := some (.int 1)) (hlocks := hlocks) (fun h => by rw [hr] at h; cases h)
  have hmeth' : T.vm.method? m = some meth := X.method'
  refine ⟨T.setFrames fs, ?_, .returned (some (.int 1)), hrun, hended, rfl, ⟨_, rfl⟩, hW, hframe⟩
  jvm_step X.here [X.here.top, hx, hb, hdg, hmeth', hr, ret, narrow_b1]
  (try refine ⟨rfl, ?_⟩); (try refine ⟨rfl, ?_⟩)
  first | (intro acts; rw [hret _ acts rfl rfl rfl]) | rw [hret _ _ rfl rfl rfl]
  exact Steps.refl _
/-- what holds at the law's entry: the machine, the code, the tables' words (any of lw_tbl by 'hts w (by decide +kernel)'), the script of L ints xs at the cell b, what the Statement gives of the start (any of its parts by flat_of_before) -/
def lw_At (p : Program) (s : State) (m : MethodId) (meth : Method) (c : Code) (b L : Nat) (xs : Nat → Int32) : Prop :=
  p.tables.exec = Jvm.exec ∧ c.code = code ∧ meth.sig.returnType = ret ∧ c.maxLocals = 9 ∧ s.vm.findClass R_law = some m.cls ∧ (∀ w ∈ lw_tbl, w.before #[Value.ref b] s = true) ∧ va_X b L xs s s.heap ∧ b < s.heap.size ∧ meth.locks = false ∧ (Jvm.Cond.and given_1 narrow_1).before #[Value.ref b] s = true
/-- the start: no cell yet -/
def w00 : MW := (((1, 0), fun _ => 0, fun _ => 0), fun _ _ => 0, fun _ _ => none)
/-- what is left: the small machine's run of the law answers 1 -/
def LawRuns : Prop := ∀ (L : Nat) (f : Nat → Int), L ≤ 260 → (∀ i, -2147483648 ≤ f i ∧ f i < 2147483648) → ∃ (d : Nat) (w1 : MW), d ≤ 100 ∧ run (L, f) d 0 [.inr 0] w00 = some (some (.inl 1), w1) ∧ nx w1 ≤ 1000 ∧ sl w1 ≤ 100000
theorem instAll : ∀ (ci : Nat) (r : vw_C), vwCl[ci]? = some r → ∃ n, Cond.instantiable r.1 n ∈ gtbl := by
  intro ci r h
  match ci, h with
  | 0, h => cases h; exact ⟨2, by decide +kernel⟩
  | 1, h => cases h; exact ⟨5, by decide +kernel⟩
  | 2, h => cases h; exact ⟨5, by decide +kernel⟩
  | 3, h => cases h; exact ⟨2, by decide +kernel⟩
  | 4, h => cases h; exact ⟨7, by decide +kernel⟩
  | 5, h => cases h; exact ⟨13, by decide +kernel⟩
  | 6, h => cases h; exact ⟨9, by decide +kernel⟩
  | n + 7, h => simp [vwCl] at h
theorem start_of (hokA : OkAll) (hrun : LawRuns) {p : Program} {e : Env} {s : State} {m : MethodId} {below : List Frame} {meth : Method} {c : Code} (l : Launch) {b L : Nat} {xs : Nat → Int32} (hL : L ≤ 260) (C0 : lw_At p s m meth c b L xs) : W p l e room_1 s m #[Value.ref b] below meth c s.heap [] 0 0 (lw_Z below #[Value.ref b] s) (entryFrame m ([Value.ref b] : List Value).toArray 9) := by
  obtain ⟨hx, hb, hr, hml, hown, hts, hX, hbl, hlocks, hgv⟩ := id C0
  obtain ⟨d, w1, hd, hr1, hn1, hs1⟩ := hrun L (fun i => (xs i).toInt) hL (fun i => i32_rng (xs i))
  obtain ⟨n, hex⟩ := R_iff.mp hr1
  have hg : ∀ w ∈ gtbl, w.before #[Value.ref b] s = true := fun w hw => hts w (List.mem_filter.mp hw).1
  have key : ∀ k : Nat, ∃ (q : ClassId × (Nat → Nat)), ∀ r : vw_C, vwCl[k]? = some r → u_Kn s r.1 r.2.1 r.2.2 q.1 q.2 := by
    intro k
    cases hk : vwCl[k]? with
    | none => exact ⟨(0, fun _ => 0), fun r h => by cases h⟩
    | some r =>
      obtain ⟨n, hi⟩ := instAll k r hk
      obtain ⟨cC, iS, h1⟩ := u_known hg (clsOk k r hk).1 (hg _ hi)
      exact ⟨(cC, iS), fun r' h => by cases h; exact h1⟩
  have hK : va_K (fun k => (Classical.choose (key k)).1, fun k => (Classical.choose (key k)).2) vwCl [] s := ⟨fun k q h => Classical.choose_spec (key k) q h, fun k q h => by simp at h⟩
  have hNW : NW s := ⟨⟨va_Nw.of rfl (hts _ (by decide +kernel)), va_Nw.of rfl (hts _ (by decide +kernel)), va_Nw.of rfl (hts _ (by decide +kernel))⟩, va_AO.of (hts _ (by decide +kernel))⟩
  have C : Cx p room_1 s m #[Value.ref b] meth c s.heap.size 0 d := ⟨hx, hb, hml, hown, hg, hNW, ⟨by show d + 1 ≤ 2048; omega, by show 64 * (d + 1) ≤ 84000; omega⟩, fun h => absurd h (by decide +kernel), Nat.le_refl _⟩
  have hgr := ex_grow _ _ _ _ _ _ _ _ hex
  have hn0 : nx w00 = 1 := rfl
  have hs0 : sl w00 = 0 := rfl
  rw [lg_entry_eq]
  have hcont := sim_frame (l := l) (e := e) (below := below) (Q := lw_Z below #[Value.ref b] s) (D := (fun k => (Classical.choose (key k)).1, fun k => (Classical.choose (key k)).2)) (n0 := 1) (α0 := fun _ => b) (X := (L, fun i => (xs i).toInt)) (mc := nx w1 - 1) (ms := sl w1) (r := (some (.inl 1), w1)) hokA (fun d' n' k' as w2 r2 _ hk' h1 => met_all hokA l _ _ d' n' k' as w2 r2 hk' h1) C ⟨by show nx w1 - 1 ≤ 600000; omega, by show sl w1 ≤ 7302250; omega⟩ ?_ ⟨⟨xs, hX, hbl, Nat.not_le.mpr hbl, fun _ => rfl⟩, Nat.zero_lt_one⟩ n 0 (entry 0 [.inr 0]) [] w00 hex
  · refine hcont.2 0 0 (by decide +kernel) (by dsimp only; dsimp only at hgr; omega) (by dsimp only; dsimp only at hgr; omega) (Nat.le_refl _) (fun _ => b) _ [] s.heap [] (fun _ _ => rfl) (entry_LR (vals := [.ref b]) ⟨⟨rfl, Nat.zero_lt_one⟩, trivial⟩ (by decide +kernel)) trivial ⟨[], [], hK, fun k q h => by simp at h, ⟨fun i j p q h => by simp at h, fun k q h => by simp at h⟩, Nat.le_refl _, rfl, fun a h1 h2 => by rw [hn0] at h2; omega, fun _ _ => rfl⟩ va_S.rf
  · intro α pc ls stk H locs ha hra hw hS
    obtain ⟨x, h1, rfl, h2, -⟩ := hra
    have hx1 : x = 1 := Int32.toInt_inj.mp h2
    subst hx1
    refine va_forget (fun q hq => hS.2.2 q hq) ?_
    refine W.widen (k := 600000) (n := 7302250) (by omega) (by omega) ?_
    exact lw_ret hx hb hr hlocks h1
end
