-- ===== PART A: goes FIRST, ahead of the names: the tables' words, and 'selects' of the private methods out of them =====
/-- a private method of a class that the tables say can be made, by its rows of tables_1 -/
def lw_okq (q : MethodName × Nat) : Prop := (q.1.cls ≠ "java/lang/invoke/MethodHandle" ∧ q.1.cls ≠ "java/lang/invoke/VarHandle") ∧ Cond.instantiable q.1.cls q.2 ∈ tables_1 ∧ Cond.privateMethod q.1 ∈ tables_1 ∧ Cond.instanceMethod q.1 ∈ tables_1
theorem lw_p0 : lw_okq (⟨"YesNoClones$Places", "findSets", "()V"⟩, 5) := ⟨⟨by decide +kernel, by decide +kernel⟩, List.mem_of_getElem? (i := 45) (by decide +kernel), List.mem_of_getElem? (i := 101) (by decide +kernel), List.mem_of_getElem? (i := 102) (by decide +kernel)⟩
theorem lw_p1 : lw_okq (⟨"YesNoClones$Places", "numberSets", "()V"⟩, 5) := ⟨⟨by decide +kernel, by decide +kernel⟩, List.mem_of_getElem? (i := 45) (by decide +kernel), List.mem_of_getElem? (i := 105) (by decide +kernel), List.mem_of_getElem? (i := 106) (by decide +kernel)⟩
theorem lw_p2 : lw_okq (⟨"YesNoClones", "common", "()I"⟩, 10) := ⟨⟨by decide +kernel, by decide +kernel⟩, List.mem_of_getElem? (i := 14) (by decide +kernel), List.mem_of_getElem? (i := 331) (by decide +kernel), List.mem_of_getElem? (i := 332) (by decide +kernel)⟩
theorem lw_p3 : lw_okq (⟨"YesNoClones", "commonOf", "(I)I"⟩, 10) := ⟨⟨by decide +kernel, by decide +kernel⟩, List.mem_of_getElem? (i := 14) (by decide +kernel), List.mem_of_getElem? (i := 335) (by decide +kernel), List.mem_of_getElem? (i := 336) (by decide +kernel)⟩
theorem lw_p4 : lw_okq (⟨"YesNoClones", "reckoned", "()LYesNoClones$Costs;"⟩, 10) := ⟨⟨by decide +kernel, by decide +kernel⟩, List.mem_of_getElem? (i := 14) (by decide +kernel), List.mem_of_getElem? (i := 355) (by decide +kernel), List.mem_of_getElem? (i := 356) (by decide +kernel)⟩
theorem lw_p5 : lw_okq (⟨"YesNoClones$Costs", "start", "(LYesNoClones$Shelf;)V"⟩, 15) := ⟨⟨by decide +kernel, by decide +kernel⟩, List.mem_of_getElem? (i := 131) (by decide +kernel), List.mem_of_getElem? (i := 377) (by decide +kernel), List.mem_of_getElem? (i := 378) (by decide +kernel)⟩
theorem lw_p6 : lw_okq (⟨"YesNoClones$Costs", "miss", "(LYesNoClones$Places;I)V"⟩, 15) := ⟨⟨by decide +kernel, by decide +kernel⟩, List.mem_of_getElem? (i := 131) (by decide +kernel), List.mem_of_getElem? (i := 381) (by decide +kernel), List.mem_of_getElem? (i := 382) (by decide +kernel)⟩
theorem lw_p7 : lw_okq (⟨"YesNoClones$Costs", "settle", "()V"⟩, 15) := ⟨⟨by decide +kernel, by decide +kernel⟩, List.mem_of_getElem? (i := 131) (by decide +kernel), List.mem_of_getElem? (i := 390) (by decide +kernel), List.mem_of_getElem? (i := 391) (by decide +kernel)⟩
theorem lw_p8 : lw_okq (⟨"YesNoClones$Costs", "tryTop", "(II)V"⟩, 15) := ⟨⟨by decide +kernel, by decide +kernel⟩, List.mem_of_getElem? (i := 131) (by decide +kernel), List.mem_of_getElem? (i := 394) (by decide +kernel), List.mem_of_getElem? (i := 395) (by decide +kernel)⟩
theorem lw_p9 : lw_okq (⟨"YesNoClones$Putting", "spread", "(I)I"⟩, 6) := ⟨⟨by decide +kernel, by decide +kernel⟩, List.mem_of_getElem? (i := 137) (by decide +kernel), List.mem_of_getElem? (i := 428) (by decide +kernel), List.mem_of_getElem? (i := 429) (by decide +kernel)⟩
theorem lw_p10 : lw_okq (⟨"YesNoClones$Costs", "aim", "()V"⟩, 15) := ⟨⟨by decide +kernel, by decide +kernel⟩, List.mem_of_getElem? (i := 131) (by decide +kernel), List.mem_of_getElem? (i := 436) (by decide +kernel), List.mem_of_getElem? (i := 437) (by decide +kernel)⟩
theorem lw_p11 : lw_okq (⟨"YesNoClones$Costs", "isMade", "(I)Z"⟩, 15) := ⟨⟨by decide +kernel, by decide +kernel⟩, List.mem_of_getElem? (i := 131) (by decide +kernel), List.mem_of_getElem? (i := 440) (by decide +kernel), List.mem_of_getElem? (i := 441) (by decide +kernel)⟩
theorem lw_p12 : lw_okq (⟨"YesNoClones$Costs", "trySeconds", "(I)V"⟩, 15) := ⟨⟨by decide +kernel, by decide +kernel⟩, List.mem_of_getElem? (i := 131) (by decide +kernel), List.mem_of_getElem? (i := 451) (by decide +kernel), List.mem_of_getElem? (i := 452) (by decide +kernel)⟩
theorem lw_p13 : lw_okq (⟨"YesNoClones$Costs", "tryThirds", "(II)V"⟩, 15) := ⟨⟨by decide +kernel, by decide +kernel⟩, List.mem_of_getElem? (i := 131) (by decide +kernel), List.mem_of_getElem? (i := 459) (by decide +kernel), List.mem_of_getElem? (i := 460) (by decide +kernel)⟩
theorem lw_p14 : lw_okq (⟨"YesNoClones$Costs", "someThird", "(III)Z"⟩, 15) := ⟨⟨by decide +kernel, by decide +kernel⟩, List.mem_of_getElem? (i := 131) (by decide +kernel), List.mem_of_getElem? (i := 467) (by decide +kernel), List.mem_of_getElem? (i := 468) (by decide +kernel)⟩
theorem lw_p15 : lw_okq (⟨"YesNoClones$Costs", "make", "(I)V"⟩, 15) := ⟨⟨by decide +kernel, by decide +kernel⟩, List.mem_of_getElem? (i := 131) (by decide +kernel), List.mem_of_getElem? (i := 475) (by decide +kernel), List.mem_of_getElem? (i := 476) (by decide +kernel)⟩
def lw_privs_1 : List (MethodName × Nat) := [(⟨"YesNoClones$Places", "findSets", "()V"⟩, 5), (⟨"YesNoClones$Places", "numberSets", "()V"⟩, 5), (⟨"YesNoClones", "common", "()I"⟩, 10), (⟨"YesNoClones", "commonOf", "(I)I"⟩, 10), (⟨"YesNoClones", "reckoned", "()LYesNoClones$Costs;"⟩, 10), (⟨"YesNoClones$Costs", "start", "(LYesNoClones$Shelf;)V"⟩, 15), (⟨"YesNoClones$Costs", "miss", "(LYesNoClones$Places;I)V"⟩, 15), (⟨"YesNoClones$Costs", "settle", "()V"⟩, 15), (⟨"YesNoClones$Costs", "tryTop", "(II)V"⟩, 15), (⟨"YesNoClones$Putting", "spread", "(I)I"⟩, 6), (⟨"YesNoClones$Costs", "aim", "()V"⟩, 15), (⟨"YesNoClones$Costs", "isMade", "(I)Z"⟩, 15), (⟨"YesNoClones$Costs", "trySeconds", "(I)V"⟩, 15), (⟨"YesNoClones$Costs", "tryThirds", "(II)V"⟩, 15), (⟨"YesNoClones$Costs", "someThird", "(III)Z"⟩, 15), (⟨"YesNoClones$Costs", "make", "(I)V"⟩, 15)]
theorem lw_r1 : ∀ q ∈ lw_privs_1, lw_okq q := List.forall_mem_cons.mpr ⟨lw_p0, List.forall_mem_cons.mpr ⟨lw_p1, List.forall_mem_cons.mpr ⟨lw_p2, List.forall_mem_cons.mpr ⟨lw_p3, List.forall_mem_cons.mpr ⟨lw_p4, List.forall_mem_cons.mpr ⟨lw_p5, List.forall_mem_cons.mpr ⟨lw_p6, List.forall_mem_cons.mpr ⟨lw_p7, List.forall_mem_cons.mpr ⟨lw_p8, List.forall_mem_cons.mpr ⟨lw_p9, List.forall_mem_cons.mpr ⟨lw_p10, List.forall_mem_cons.mpr ⟨lw_p11, List.forall_mem_cons.mpr ⟨lw_p12, List.forall_mem_cons.mpr ⟨lw_p13, List.forall_mem_cons.mpr ⟨lw_p14, List.forall_mem_cons.mpr ⟨lw_p15, fun _ h => absurd h List.not_mem_nil⟩⟩⟩⟩⟩⟩⟩⟩⟩⟩⟩⟩⟩⟩⟩⟩
theorem lw_p16 : lw_okq (⟨"YesNoClones$Costs", "dropMade", "()V"⟩, 15) := ⟨⟨by decide +kernel, by decide +kernel⟩, List.mem_of_getElem? (i := 131) (by decide +kernel), List.mem_of_getElem? (i := 479) (by decide +kernel), List.mem_of_getElem? (i := 480) (by decide +kernel)⟩
theorem lw_p17 : lw_okq (⟨"YesNoClones", "spare", "()I"⟩, 10) := ⟨⟨by decide +kernel, by decide +kernel⟩, List.mem_of_getElem? (i := 14) (by decide +kernel), List.mem_of_getElem? (i := 503) (by decide +kernel), List.mem_of_getElem? (i := 504) (by decide +kernel)⟩
theorem lw_p18 : lw_okq (⟨"YesNoClones$Ways", "lookFor", "(I)V"⟩, 6) := ⟨⟨by decide +kernel, by decide +kernel⟩, List.mem_of_getElem? (i := 125) (by decide +kernel), List.mem_of_getElem? (i := 542) (by decide +kernel), List.mem_of_getElem? (i := 543) (by decide +kernel)⟩
theorem lw_p19 : lw_okq (⟨"YesNoClones$Ways", "isPart", "(III)Z"⟩, 6) := ⟨⟨by decide +kernel, by decide +kernel⟩, List.mem_of_getElem? (i := 125) (by decide +kernel), List.mem_of_getElem? (i := 553) (by decide +kernel), List.mem_of_getElem? (i := 554) (by decide +kernel)⟩
theorem lw_p20 : lw_okq (⟨"YesNoClones$Ways", "lookForSecond", "(III)Z"⟩, 6) := ⟨⟨by decide +kernel, by decide +kernel⟩, List.mem_of_getElem? (i := 125) (by decide +kernel), List.mem_of_getElem? (i := 560) (by decide +kernel), List.mem_of_getElem? (i := 561) (by decide +kernel)⟩
theorem lw_p21 : lw_okq (⟨"YesNoClones$Ways", "third", "(II)I"⟩, 6) := ⟨⟨by decide +kernel, by decide +kernel⟩, List.mem_of_getElem? (i := 125) (by decide +kernel), List.mem_of_getElem? (i := 566) (by decide +kernel), List.mem_of_getElem? (i := 567) (by decide +kernel)⟩
theorem lw_p22 : lw_okq (⟨"YesNoClones$Ways", "know", "(IIII)V"⟩, 6) := ⟨⟨by decide +kernel, by decide +kernel⟩, List.mem_of_getElem? (i := 125) (by decide +kernel), List.mem_of_getElem? (i := 574) (by decide +kernel), List.mem_of_getElem? (i := 575) (by decide +kernel)⟩
theorem lw_p23 : lw_okq (⟨"YesNoClones$Ways", "knownPart", "(II)I"⟩, 6) := ⟨⟨by decide +kernel, by decide +kernel⟩, List.mem_of_getElem? (i := 125) (by decide +kernel), List.mem_of_getElem? (i := 583) (by decide +kernel), List.mem_of_getElem? (i := 584) (by decide +kernel)⟩
theorem lw_p24 : lw_okq (⟨"YesNoClones$Ways", "needParts", "(I)V"⟩, 6) := ⟨⟨by decide +kernel, by decide +kernel⟩, List.mem_of_getElem? (i := 125) (by decide +kernel), List.mem_of_getElem? (i := 591) (by decide +kernel), List.mem_of_getElem? (i := 592) (by decide +kernel)⟩
theorem lw_p25 : lw_okq (⟨"YesNoClones$Ways", "measure", "(I)V"⟩, 6) := ⟨⟨by decide +kernel, by decide +kernel⟩, List.mem_of_getElem? (i := 125) (by decide +kernel), List.mem_of_getElem? (i := 595) (by decide +kernel), List.mem_of_getElem? (i := 596) (by decide +kernel)⟩
theorem lw_p26 : lw_okq (⟨"YesNoClones$Ways", "partLength", "(II)I"⟩, 6) := ⟨⟨by decide +kernel, by decide +kernel⟩, List.mem_of_getElem? (i := 125) (by decide +kernel), List.mem_of_getElem? (i := 599) (by decide +kernel), List.mem_of_getElem? (i := 600) (by decide +kernel)⟩
theorem lw_p27 : lw_okq (⟨"YesNoClones$Past", "save", "(ILYesNoClones$Shelf;)V"⟩, 5) := ⟨⟨by decide +kernel, by decide +kernel⟩, List.mem_of_getElem? (i := 262) (by decide +kernel), List.mem_of_getElem? (i := 618) (by decide +kernel), List.mem_of_getElem? (i := 619) (by decide +kernel)⟩
theorem lw_p28 : lw_okq (⟨"YesNoClones$Past", "load", "(ILYesNoClones$Shelf;)V"⟩, 5) := ⟨⟨by decide +kernel, by decide +kernel⟩, List.mem_of_getElem? (i := 262) (by decide +kernel), List.mem_of_getElem? (i := 665) (by decide +kernel), List.mem_of_getElem? (i := 666) (by decide +kernel)⟩
theorem lw_p29 : lw_okq (⟨"YesNoClones$Formula", "pop", "()I"⟩, 5) := ⟨⟨by decide +kernel, by decide +kernel⟩, List.mem_of_getElem? (i := 22) (by decide +kernel), List.mem_of_getElem? (i := 726) (by decide +kernel), List.mem_of_getElem? (i := 727) (by decide +kernel)⟩
theorem lw_p30 : lw_okq (⟨"YesNoClones$Formula", "push", "(I)V"⟩, 5) := ⟨⟨by decide +kernel, by decide +kernel⟩, List.mem_of_getElem? (i := 22) (by decide +kernel), List.mem_of_getElem? (i := 731) (by decide +kernel), List.mem_of_getElem? (i := 732) (by decide +kernel)⟩
theorem lw_p31 : lw_okq (⟨"YesNoClones$Ways", "firstLetterOf", "(I)I"⟩, 6) := ⟨⟨by decide +kernel, by decide +kernel⟩, List.mem_of_getElem? (i := 125) (by decide +kernel), List.mem_of_getElem? (i := 767) (by decide +kernel), List.mem_of_getElem? (i := 768) (by decide +kernel)⟩
def lw_privs_2 : List (MethodName × Nat) := [(⟨"YesNoClones$Costs", "dropMade", "()V"⟩, 15), (⟨"YesNoClones", "spare", "()I"⟩, 10), (⟨"YesNoClones$Ways", "lookFor", "(I)V"⟩, 6), (⟨"YesNoClones$Ways", "isPart", "(III)Z"⟩, 6), (⟨"YesNoClones$Ways", "lookForSecond", "(III)Z"⟩, 6), (⟨"YesNoClones$Ways", "third", "(II)I"⟩, 6), (⟨"YesNoClones$Ways", "know", "(IIII)V"⟩, 6), (⟨"YesNoClones$Ways", "knownPart", "(II)I"⟩, 6), (⟨"YesNoClones$Ways", "needParts", "(I)V"⟩, 6), (⟨"YesNoClones$Ways", "measure", "(I)V"⟩, 6), (⟨"YesNoClones$Ways", "partLength", "(II)I"⟩, 6), (⟨"YesNoClones$Past", "save", "(ILYesNoClones$Shelf;)V"⟩, 5), (⟨"YesNoClones$Past", "load", "(ILYesNoClones$Shelf;)V"⟩, 5), (⟨"YesNoClones$Formula", "pop", "()I"⟩, 5), (⟨"YesNoClones$Formula", "push", "(I)V"⟩, 5), (⟨"YesNoClones$Ways", "firstLetterOf", "(I)I"⟩, 6)]
theorem lw_r2 : ∀ q ∈ lw_privs_2, lw_okq q := List.forall_mem_cons.mpr ⟨lw_p16, List.forall_mem_cons.mpr ⟨lw_p17, List.forall_mem_cons.mpr ⟨lw_p18, List.forall_mem_cons.mpr ⟨lw_p19, List.forall_mem_cons.mpr ⟨lw_p20, List.forall_mem_cons.mpr ⟨lw_p21, List.forall_mem_cons.mpr ⟨lw_p22, List.forall_mem_cons.mpr ⟨lw_p23, List.forall_mem_cons.mpr ⟨lw_p24, List.forall_mem_cons.mpr ⟨lw_p25, List.forall_mem_cons.mpr ⟨lw_p26, List.forall_mem_cons.mpr ⟨lw_p27, List.forall_mem_cons.mpr ⟨lw_p28, List.forall_mem_cons.mpr ⟨lw_p29, List.forall_mem_cons.mpr ⟨lw_p30, List.forall_mem_cons.mpr ⟨lw_p31, fun _ h => absurd h List.not_mem_nil⟩⟩⟩⟩⟩⟩⟩⟩⟩⟩⟩⟩⟩⟩⟩⟩
def lw_privs : List (MethodName × Nat) := lw_privs_1 ++ (lw_privs_2)
def lw_tbl : List Cond := k2_sels lw_privs ++ tables_1
theorem lw_privs_ok : ∀ q ∈ lw_privs, lw_okq q := by
  show ∀ q ∈ lw_privs_1 ++ (lw_privs_2), lw_okq q
  exact List.forall_mem_append.mpr ⟨lw_r1, lw_r2⟩
-- ===== end of PART A
/-! ===== BEGIN printed: names, fields, word lists, decode rows ===== -/
def RX0 : String := "YesNoClones$Book"
def TX0 : u_T := fun k => match k with
  | 0 => ("YesNoClones$Book", "codes", "[I", true)
  | 1 => ("YesNoClones$Book", "values", "[I", true)
  | _ => ("YesNoClones$Book", "size", "I", false)
def tyX0 : Nat → FieldType := fun k => match k with
  | 0 => .array .int
  | 1 => .array .int
  | _ => .int
abbrev wsX00 : List Cond := u_ws RX0 TX0 3
theorem nmX0 : ∀ a, a < 3 → ∀ b, b < 3 → a ≠ b → (TX0 a).2.1 ≠ (TX0 b).2.1 := by decide +kernel
theorem tyX0_ok : ∀ k, k < 3 → parseFieldDescriptor (TX0 k).2.2.1 = some (tyX0 k) := by decide +kernel
abbrev cX0_init : ByteArray := prog_2_method_1_code
def yX0_init : MethodName := ⟨RX0, "<init>", "()V"⟩
abbrev cX0_size : ByteArray := prog_2_method_2_code
def yX0_size : MethodName := ⟨RX0, "size", "()I"⟩
abbrev cX0_firstWrong : ByteArray := prog_2_method_5_code
def yX0_firstWrong : MethodName := ⟨RX0, "firstWrong", "(LYesNoClones$Costs;)I"⟩
def RX1 : String := "YesNoClones$Codes"
def TX1 : u_T := fun k => match k with
  | _ => ("", "", "", false)
def tyX1 : Nat → FieldType := fun k => match k with
  | _ => .int
abbrev wsX10 : List Cond := u_ws RX1 TX1 0
theorem nmX1 : ∀ a, a < 0 → ∀ b, b < 0 → a ≠ b → (TX1 a).2.1 ≠ (TX1 b).2.1 := by decide +kernel
theorem tyX1_ok : ∀ k, k < 0 → parseFieldDescriptor (TX1 k).2.2.1 = some (tyX1 k) := by decide +kernel
abbrev cX1_tells : ByteArray := prog_3_method_2_code
def yX1_tells : MethodName := ⟨RX1, "tells", "(II)I"⟩
abbrev cX1_isWithin : ByteArray := prog_3_method_3_code
def yX1_isWithin : MethodName := ⟨RX1, "isWithin", "(II)Z"⟩
abbrev cX1_bitOf : ByteArray := prog_3_method_4_code
def yX1_bitOf : MethodName := ⟨RX1, "bitOf", "(I)I"⟩
abbrev cX1_putOn : ByteArray := prog_3_method_5_code
def yX1_putOn : MethodName := ⟨RX1, "putOn", "(IIII)I"⟩
abbrev cX1_putOnBits : ByteArray := prog_3_method_6_code
def yX1_putOnBits : MethodName := ⟨RX1, "putOnBits", "(IIIII)I"⟩
abbrev cX1_turnedOver : ByteArray := prog_3_method_7_code
def yX1_turnedOver : MethodName := ⟨RX1, "turnedOver", "(I)I"⟩
abbrev cX1_hangsOn : ByteArray := prog_3_method_8_code
def yX1_hangsOn : MethodName := ⟨RX1, "hangsOn", "(II)Z"⟩
abbrev cX1_variablesOf : ByteArray := prog_3_method_9_code
def yX1_variablesOf : MethodName := ⟨RX1, "variablesOf", "(I)I"⟩
abbrev cX1_arityOf : ByteArray := prog_3_method_10_code
def yX1_arityOf : MethodName := ⟨RX1, "arityOf", "(I)I"⟩
abbrev cX1_sumOf : ByteArray := prog_3_method_11_code
def yX1_sumOf : MethodName := ⟨RX1, "sumOf", "(I)I"⟩
def RX2 : String := "YesNoClones$Costs"
def TX2 : u_T := fun k => match k with
  | 0 => ("YesNoClones$Costs", "costs", "[I", true)
  | 1 => ("YesNoClones$Costs", "tops", "[I", true)
  | 2 => ("YesNoClones$Costs", "byCost", "[I", true)
  | 3 => ("YesNoClones$Costs", "starts", "[I", true)
  | 4 => ("YesNoClones$Costs", "missing", "[I", true)
  | 5 => ("YesNoClones$Costs", "aims", "[I", true)
  | 6 => ("YesNoClones$Costs", "baseCodes", "[I", true)
  | 7 => ("YesNoClones$Costs", "putting", "LYesNoClones$Putting;", true)
  | 8 => ("YesNoClones$Costs", "baseSet", "I", false)
  | 9 => ("YesNoClones$Costs", "listed", "I", false)
  | 10 => ("YesNoClones$Costs", "missingCount", "I", false)
  | 11 => ("YesNoClones$Costs", "aimCount", "I", false)
  | 12 => ("YesNoClones$Costs", "level", "I", false)
  | 13 => ("YesNoClones$Costs", "greatest", "I", false)
  | _ => ("YesNoClones$Costs", "top", "I", false)
def tyX2 : Nat → FieldType := fun k => match k with
  | 0 => .array .int
  | 1 => .array .int
  | 2 => .array .int
  | 3 => .array .int
  | 4 => .array .int
  | 5 => .array .int
  | 6 => .array .int
  | 7 => .object "YesNoClones$Putting"
  | 8 => .int
  | 9 => .int
  | 10 => .int
  | 11 => .int
  | 12 => .int
  | 13 => .int
  | _ => .int
abbrev wsX20 : List Cond := u_ws RX2 TX2 15
theorem nmX2 : ∀ a, a < 15 → ∀ b, b < 15 → a ≠ b → (TX2 a).2.1 ≠ (TX2 b).2.1 := by decide +kernel
theorem tyX2_ok : ∀ k, k < 15 → parseFieldDescriptor (TX2 k).2.2.1 = some (tyX2 k) := by decide +kernel
abbrev cX2_init : ByteArray := prog_4_method_1_code
def yX2_init : MethodName := ⟨RX2, "<init>", "()V"⟩
abbrev cX2_areOf : ByteArray := prog_4_method_2_code
def yX2_areOf : MethodName := ⟨RX2, "areOf", "(LYesNoClones$Shelf;)Z"⟩
abbrev cX2_reckon : ByteArray := prog_4_method_3_code
def yX2_reckon : MethodName := ⟨RX2, "reckon", "(LYesNoClones$Shelf;LYesNoClones$Places;I)V"⟩
abbrev cX2_start : ByteArray := prog_4_method_4_code
def yX2_start : MethodName := ⟨RX2, "start", "(LYesNoClones$Shelf;)V"⟩
abbrev cX2_miss : ByteArray := prog_4_method_5_code
def yX2_miss : MethodName := ⟨RX2, "miss", "(LYesNoClones$Places;I)V"⟩
abbrev cX2_dropMade : ByteArray := prog_4_method_6_code
def yX2_dropMade : MethodName := ⟨RX2, "dropMade", "()V"⟩
abbrev cX2_settle : ByteArray := prog_4_method_7_code
def yX2_settle : MethodName := ⟨RX2, "settle", "()V"⟩
abbrev cX2_tryTop : ByteArray := prog_4_method_8_code
def yX2_tryTop : MethodName := ⟨RX2, "tryTop", "(II)V"⟩
abbrev cX2_aim : ByteArray := prog_4_method_9_code
def yX2_aim : MethodName := ⟨RX2, "aim", "()V"⟩
abbrev cX2_trySeconds : ByteArray := prog_4_method_10_code
def yX2_trySeconds : MethodName := ⟨RX2, "trySeconds", "(I)V"⟩
abbrev cX2_tryThirds : ByteArray := prog_4_method_11_code
def yX2_tryThirds : MethodName := ⟨RX2, "tryThirds", "(II)V"⟩
abbrev cX2_someThird : ByteArray := prog_4_method_12_code
def yX2_someThird : MethodName := ⟨RX2, "someThird", "(III)Z"⟩
abbrev cX2_make : ByteArray := prog_4_method_13_code
def yX2_make : MethodName := ⟨RX2, "make", "(I)V"⟩
abbrev cX2_partsFrom : ByteArray := prog_4_method_14_code
def yX2_partsFrom : MethodName := ⟨RX2, "partsFrom", "(IZ)I"⟩
abbrev cX2_partsTo : ByteArray := prog_4_method_15_code
def yX2_partsTo : MethodName := ⟨RX2, "partsTo", "(IZ)I"⟩
abbrev cX2_madeAt : ByteArray := prog_4_method_16_code
def yX2_madeAt : MethodName := ⟨RX2, "madeAt", "(I)I"⟩
abbrev cX2_madeCount : ByteArray := prog_4_method_17_code
def yX2_madeCount : MethodName := ⟨RX2, "madeCount", "()I"⟩
abbrev cX2_greatestCost : ByteArray := prog_4_method_18_code
def yX2_greatestCost : MethodName := ⟨RX2, "greatestCost", "()I"⟩
abbrev cX2_leastCodeCosting : ByteArray := prog_4_method_19_code
def yX2_leastCodeCosting : MethodName := ⟨RX2, "leastCodeCosting", "(I)I"⟩
abbrev cX2_isMade : ByteArray := prog_4_method_21_code
def yX2_isMade : MethodName := ⟨RX2, "isMade", "(I)Z"⟩
abbrev cX2_costOf : ByteArray := prog_4_method_22_code
def yX2_costOf : MethodName := ⟨RX2, "costOf", "(I)I"⟩
abbrev cX2_topOf : ByteArray := prog_4_method_23_code
def yX2_topOf : MethodName := ⟨RX2, "topOf", "(I)I"⟩
abbrev cX2_topCodeOf : ByteArray := prog_4_method_24_code
def yX2_topCodeOf : MethodName := ⟨RX2, "topCodeOf", "(I)I"⟩
def RX3 : String := "YesNoClones$Formula"
def TX3 : u_T := fun k => match k with
  | 0 => ("YesNoClones$Formula", "text", "[I", true)
  | 1 => ("YesNoClones$Formula", "stack", "[I", true)
  | 2 => ("YesNoClones$Formula", "size", "I", false)
  | 3 => ("YesNoClones$Formula", "depth", "I", false)
  | _ => ("YesNoClones$Formula", "reached", "I", false)
def tyX3 : Nat → FieldType := fun k => match k with
  | 0 => .array .int
  | 1 => .array .int
  | 2 => .int
  | 3 => .int
  | _ => .int
abbrev wsX30 : List Cond := u_ws RX3 TX3 5
theorem nmX3 : ∀ a, a < 5 → ∀ b, b < 5 → a ≠ b → (TX3 a).2.1 ≠ (TX3 b).2.1 := by decide +kernel
theorem tyX3_ok : ∀ k, k < 5 → parseFieldDescriptor (TX3 k).2.2.1 = some (tyX3 k) := by decide +kernel
abbrev cX3_init : ByteArray := prog_5_method_1_code
def yX3_init : MethodName := ⟨RX3, "<init>", "()V"⟩
abbrev cX3_size : ByteArray := prog_5_method_2_code
def yX3_size : MethodName := ⟨RX3, "size", "()I"⟩
abbrev cX3_clear : ByteArray := prog_5_method_3_code
def yX3_clear : MethodName := ⟨RX3, "clear", "()V"⟩
abbrev cX3_type : ByteArray := prog_5_method_4_code
def yX3_type : MethodName := ⟨RX3, "type", "(I)Z"⟩
abbrev cX3_reached : ByteArray := prog_5_method_5_code
def yX3_reached : MethodName := ⟨RX3, "reached", "()I"⟩
abbrev cX3_firstFault : ByteArray := prog_5_method_6_code
def yX3_firstFault : MethodName := ⟨RX3, "firstFault", "(I)I"⟩
abbrev cX3_faultOf : ByteArray := prog_5_method_7_code
def yX3_faultOf : MethodName := ⟨RX3, "faultOf", "(II)I"⟩
abbrev cX3_value : ByteArray := prog_5_method_8_code
def yX3_value : MethodName := ⟨RX3, "value", "(LYesNoClones$Shelf;)I"⟩
abbrev cX3_push : ByteArray := prog_5_method_9_code
def yX3_push : MethodName := ⟨RX3, "push", "(I)V"⟩
abbrev cX3_pop : ByteArray := prog_5_method_10_code
def yX3_pop : MethodName := ⟨RX3, "pop", "()I"⟩
abbrev cX3_isFunction : ByteArray := prog_5_method_11_code
def yX3_isFunction : MethodName := ⟨RX3, "isFunction", "(I)Z"⟩
abbrev cX3_bound : ByteArray := prog_5_method_12_code
def yX3_bound : MethodName := ⟨RX3, "bound", "(I)I"⟩
abbrev cX3_codeOf : ByteArray := prog_5_method_13_code
def yX3_codeOf : MethodName := ⟨RX3, "codeOf", "(I)I"⟩
def RX4 : String := "YesNoClones$Past"
def TX4 : u_T := fun k => match k with
  | 0 => ("YesNoClones$Past", "sizes", "[I", true)
  | 1 => ("YesNoClones$Past", "sets", "[I", true)
  | 2 => ("YesNoClones$Past", "codes", "[I", true)
  | 3 => ("YesNoClones$Past", "size", "I", false)
  | _ => ("YesNoClones$Past", "next", "I", false)
def tyX4 : Nat → FieldType := fun k => match k with
  | 0 => .array .int
  | 1 => .array .int
  | 2 => .array .int
  | 3 => .int
  | _ => .int
abbrev wsX40 : List Cond := u_ws RX4 TX4 5
theorem nmX4 : ∀ a, a < 5 → ∀ b, b < 5 → a ≠ b → (TX4 a).2.1 ≠ (TX4 b).2.1 := by decide +kernel
theorem tyX4_ok : ∀ k, k < 5 → parseFieldDescriptor (TX4 k).2.2.1 = some (tyX4 k) := by decide +kernel
abbrev cX4_init : ByteArray := prog_6_method_1_code
def yX4_init : MethodName := ⟨RX4, "<init>", "()V"⟩
abbrev cX4_size : ByteArray := prog_6_method_2_code
def yX4_size : MethodName := ⟨RX4, "size", "()I"⟩
abbrev cX4_push : ByteArray := prog_6_method_3_code
def yX4_push : MethodName := ⟨RX4, "push", "(LYesNoClones$Shelf;)V"⟩
abbrev cX4_goBackBy : ByteArray := prog_6_method_4_code
def yX4_goBackBy : MethodName := ⟨RX4, "goBackBy", "(ILYesNoClones$Shelf;)Z"⟩
abbrev cX4_save : ByteArray := prog_6_method_7_code
def yX4_save : MethodName := ⟨RX4, "save", "(ILYesNoClones$Shelf;)V"⟩
abbrev cX4_load : ByteArray := prog_6_method_8_code
def yX4_load : MethodName := ⟨RX4, "load", "(ILYesNoClones$Shelf;)V"⟩
def RX5 : String := "YesNoClones$Places"
def TX5 : u_T := fun k => match k with
  | 0 => ("YesNoClones$Places", "traits", "[I", true)
  | 1 => ("YesNoClones$Places", "sets", "[I", true)
  | 2 => ("YesNoClones$Places", "numbers", "[I", true)
  | 3 => ("YesNoClones$Places", "ranks", "[I", true)
  | _ => ("YesNoClones$Places", "count", "I", false)
def tyX5 : Nat → FieldType := fun k => match k with
  | 0 => .array .int
  | 1 => .array .int
  | 2 => .array .int
  | 3 => .array .int
  | _ => .int
abbrev wsX50 : List Cond := u_ws RX5 TX5 5
theorem nmX5 : ∀ a, a < 5 → ∀ b, b < 5 → a ≠ b → (TX5 a).2.1 ≠ (TX5 b).2.1 := by decide +kernel
theorem tyX5_ok : ∀ k, k < 5 → parseFieldDescriptor (TX5 k).2.2.1 = some (tyX5 k) := by decide +kernel
abbrev cX5_init : ByteArray := prog_7_method_1_code
def yX5_init : MethodName := ⟨RX5, "<init>", "()V"⟩
abbrev cX5_findSets : ByteArray := prog_7_method_2_code
def yX5_findSets : MethodName := ⟨RX5, "findSets", "()V"⟩
abbrev cX5_numberSets : ByteArray := prog_7_method_3_code
def yX5_numberSets : MethodName := ⟨RX5, "numberSets", "()V"⟩
abbrev cX5_count : ByteArray := prog_7_method_4_code
def yX5_count : MethodName := ⟨RX5, "count", "()I"⟩
abbrev cX5_traitsOf : ByteArray := prog_7_method_6_code
def yX5_traitsOf : MethodName := ⟨RX5, "traitsOf", "(I)I"⟩
abbrev cX5_numberOf : ByteArray := prog_7_method_8_code
def yX5_numberOf : MethodName := ⟨RX5, "numberOf", "(I)I"⟩
abbrev cX5_isIn : ByteArray := prog_7_method_10_code
def yX5_isIn : MethodName := ⟨RX5, "isIn", "(II)Z"⟩
def RX6 : String := "YesNoClones$Putting"
def TX6 : u_T := fun k => match k with
  | 0 => ("YesNoClones$Putting", "function", "I", false)
  | 1 => ("YesNoClones$Putting", "variables", "I", false)
  | 2 => ("YesNoClones$Putting", "arity", "I", false)
  | 3 => ("YesNoClones$Putting", "cases", "[I", true)
  | 4 => ("YesNoClones$Putting", "low", "I", false)
  | _ => ("YesNoClones$Putting", "turns", "I", false)
def tyX6 : Nat → FieldType := fun k => match k with
  | 0 => .int
  | 1 => .int
  | 2 => .int
  | 3 => .array .int
  | 4 => .int
  | _ => .int
abbrev wsX60 : List Cond := u_ws RX6 TX6 6
theorem nmX6 : ∀ a, a < 6 → ∀ b, b < 6 → a ≠ b → (TX6 a).2.1 ≠ (TX6 b).2.1 := by decide +kernel
theorem tyX6_ok : ∀ k, k < 6 → parseFieldDescriptor (TX6 k).2.2.1 = some (tyX6 k) := by decide +kernel
abbrev cX6_init : ByteArray := prog_8_method_1_code
def yX6_init : MethodName := ⟨RX6, "<init>", "()V"⟩
abbrev cX6_begin : ByteArray := prog_8_method_2_code
def yX6_begin : MethodName := ⟨RX6, "begin", "(I)V"⟩
abbrev cX6_arity : ByteArray := prog_8_method_3_code
def yX6_arity : MethodName := ⟨RX6, "arity", "()I"⟩
abbrev cX6_hangsOn : ByteArray := prog_8_method_4_code
def yX6_hangsOn : MethodName := ⟨RX6, "hangsOn", "(I)Z"⟩
abbrev cX6_first : ByteArray := prog_8_method_5_code
def yX6_first : MethodName := ⟨RX6, "first", "(I)V"⟩
abbrev cX6_mayBecome : ByteArray := prog_8_method_6_code
def yX6_mayBecome : MethodName := ⟨RX6, "mayBecome", "(I)Z"⟩
abbrev cX6_second : ByteArray := prog_8_method_7_code
def yX6_second : MethodName := ⟨RX6, "second", "(I)V"⟩
abbrev cX6_canBecome : ByteArray := prog_8_method_8_code
def yX6_canBecome : MethodName := ⟨RX6, "canBecome", "(I)Z"⟩
abbrev cX6_third : ByteArray := prog_8_method_9_code
def yX6_third : MethodName := ⟨RX6, "third", "(I)I"⟩
abbrev cX6_spread : ByteArray := prog_8_method_10_code
def yX6_spread : MethodName := ⟨RX6, "spread", "(I)I"⟩
abbrev cX6_choose : ByteArray := prog_8_method_11_code
def yX6_choose : MethodName := ⟨RX6, "choose", "(III)I"⟩
def RX7 : String := "YesNoClones$Relations"
def TX7 : u_T := fun k => match k with
  | _ => ("", "", "", false)
def tyX7 : Nat → FieldType := fun k => match k with
  | _ => .int
abbrev wsX70 : List Cond := u_ws RX7 TX7 0
theorem nmX7 : ∀ a, a < 0 → ∀ b, b < 0 → a ≠ b → (TX7 a).2.1 ≠ (TX7 b).2.1 := by decide +kernel
theorem tyX7_ok : ∀ k, k < 0 → parseFieldDescriptor (TX7 k).2.2.1 = some (tyX7 k) := by decide +kernel
def RX8 : String := "YesNoClones$Shelf"
def TX8 : u_T := fun k => match k with
  | 0 => ("YesNoClones$Shelf", "codes", "[I", true)
  | 1 => ("YesNoClones$Shelf", "size", "I", false)
  | _ => ("YesNoClones$Shelf", "chosen", "I", false)
def tyX8 : Nat → FieldType := fun k => match k with
  | 0 => .array .int
  | 1 => .int
  | _ => .int
abbrev wsX80 : List Cond := u_ws RX8 TX8 3
theorem nmX8 : ∀ a, a < 3 → ∀ b, b < 3 → a ≠ b → (TX8 a).2.1 ≠ (TX8 b).2.1 := by decide +kernel
theorem tyX8_ok : ∀ k, k < 3 → parseFieldDescriptor (TX8 k).2.2.1 = some (tyX8 k) := by decide +kernel
abbrev cX8_init : ByteArray := prog_10_method_1_code
def yX8_init : MethodName := ⟨RX8, "<init>", "()V"⟩
abbrev cX8_size : ByteArray := prog_10_method_2_code
def yX8_size : MethodName := ⟨RX8, "size", "()I"⟩
abbrev cX8_isFull : ByteArray := prog_10_method_3_code
def yX8_isFull : MethodName := ⟨RX8, "isFull", "()Z"⟩
abbrev cX8_holds : ByteArray := prog_10_method_4_code
def yX8_holds : MethodName := ⟨RX8, "holds", "(I)Z"⟩
abbrev cX8_codeAt : ByteArray := prog_10_method_5_code
def yX8_codeAt : MethodName := ⟨RX8, "codeAt", "(I)I"⟩
abbrev cX8_chosenSet : ByteArray := prog_10_method_6_code
def yX8_chosenSet : MethodName := ⟨RX8, "chosenSet", "()I"⟩
abbrev cX8_isChosen : ByteArray := prog_10_method_7_code
def yX8_isChosen : MethodName := ⟨RX8, "isChosen", "(I)Z"⟩
abbrev cX8_add : ByteArray := prog_10_method_8_code
def yX8_add : MethodName := ⟨RX8, "add", "(I)I"⟩
abbrev cX8_change : ByteArray := prog_10_method_9_code
def yX8_change : MethodName := ⟨RX8, "change", "(II)V"⟩
abbrev cX8_choose : ByteArray := prog_10_method_11_code
def yX8_choose : MethodName := ⟨RX8, "choose", "(I)V"⟩
abbrev cX8_restart : ByteArray := prog_10_method_12_code
def yX8_restart : MethodName := ⟨RX8, "restart", "(I)V"⟩
def RX9 : String := "YesNoClones$Traits"
def TX9 : u_T := fun k => match k with
  | _ => ("", "", "", false)
def tyX9 : Nat → FieldType := fun k => match k with
  | _ => .int
abbrev wsX90 : List Cond := u_ws RX9 TX9 0
theorem nmX9 : ∀ a, a < 0 → ∀ b, b < 0 → a ≠ b → (TX9 a).2.1 ≠ (TX9 b).2.1 := by decide +kernel
theorem tyX9_ok : ∀ k, k < 0 → parseFieldDescriptor (TX9 k).2.2.1 = some (tyX9 k) := by decide +kernel
abbrev cX9_of : ByteArray := prog_11_method_2_code
def yX9_of : MethodName := ⟨RX9, "of", "(I)I"⟩
abbrev cX9_firstFail : ByteArray := prog_11_method_3_code
def yX9_firstFail : MethodName := ⟨RX9, "firstFail", "(II)I"⟩
abbrev cX9_firstFall : ByteArray := prog_11_method_4_code
def yX9_firstFall : MethodName := ⟨RX9, "firstFall", "(I)I"⟩
abbrev cX9_firstLikeness : ByteArray := prog_11_method_5_code
def yX9_firstLikeness : MethodName := ⟨RX9, "firstLikeness", "(I)I"⟩
abbrev cX9_firstProduct : ByteArray := prog_11_method_6_code
def yX9_firstProduct : MethodName := ⟨RX9, "firstProduct", "(I)I"⟩
abbrev cX9_firstUnlikeBoth : ByteArray := prog_11_method_7_code
def yX9_firstUnlikeBoth : MethodName := ⟨RX9, "firstUnlikeBoth", "(I)I"⟩
abbrev cX9_firstUnlikeEither : ByteArray := prog_11_method_8_code
def yX9_firstUnlikeEither : MethodName := ⟨RX9, "firstUnlikeEither", "(I)I"⟩
abbrev cX9_firstTwoVariables : ByteArray := prog_11_method_9_code
def yX9_firstTwoVariables : MethodName := ⟨RX9, "firstTwoVariables", "(I)I"⟩
abbrev cX9_firstStrangers : ByteArray := prog_11_method_10_code
def yX9_firstStrangers : MethodName := ⟨RX9, "firstStrangers", "(IIZ)I"⟩
abbrev cX9_firstThird : ByteArray := prog_11_method_11_code
def yX9_firstThird : MethodName := ⟨RX9, "firstThird", "(IIII)I"⟩
abbrev cX9_areStrangers : ByteArray := prog_11_method_12_code
def yX9_areStrangers : MethodName := ⟨RX9, "areStrangers", "(IIII)Z"⟩
def RX10 : String := "YesNoClones$Ways"
def TX10 : u_T := fun k => match k with
  | 0 => ("YesNoClones$Ways", "costs", "LYesNoClones$Costs;", true)
  | 1 => ("YesNoClones$Ways", "putting", "LYesNoClones$Putting;", true)
  | 2 => ("YesNoClones$Ways", "parts", "[I", true)
  | 3 => ("YesNoClones$Ways", "known", "[Z", true)
  | 4 => ("YesNoClones$Ways", "needed", "[Z", true)
  | _ => ("YesNoClones$Ways", "lengths", "[I", true)
def tyX10 : Nat → FieldType := fun k => match k with
  | 0 => .object "YesNoClones$Costs"
  | 1 => .object "YesNoClones$Putting"
  | 2 => .array .int
  | 3 => .array .boolean
  | 4 => .array .boolean
  | _ => .array .int
abbrev wsX100 : List Cond := u_ws RX10 TX10 6
theorem nmX10 : ∀ a, a < 6 → ∀ b, b < 6 → a ≠ b → (TX10 a).2.1 ≠ (TX10 b).2.1 := by decide +kernel
theorem tyX10_ok : ∀ k, k < 6 → parseFieldDescriptor (TX10 k).2.2.1 = some (tyX10 k) := by decide +kernel
abbrev cX10_init : ByteArray := prog_12_method_1_code
def yX10_init : MethodName := ⟨RX10, "<init>", "()V"⟩
abbrev cX10_costs : ByteArray := prog_12_method_2_code
def yX10_costs : MethodName := ⟨RX10, "costs", "()LYesNoClones$Costs;"⟩
abbrev cX10_forget : ByteArray := prog_12_method_3_code
def yX10_forget : MethodName := ⟨RX10, "forget", "()V"⟩
abbrev cX10_partOf : ByteArray := prog_12_method_4_code
def yX10_partOf : MethodName := ⟨RX10, "partOf", "(II)I"⟩
abbrev cX10_knownPart : ByteArray := prog_12_method_5_code
def yX10_knownPart : MethodName := ⟨RX10, "knownPart", "(II)I"⟩
abbrev cX10_lookFor : ByteArray := prog_12_method_6_code
def yX10_lookFor : MethodName := ⟨RX10, "lookFor", "(I)V"⟩
abbrev cX10_lookForSecond : ByteArray := prog_12_method_7_code
def yX10_lookForSecond : MethodName := ⟨RX10, "lookForSecond", "(III)Z"⟩
abbrev cX10_third : ByteArray := prog_12_method_8_code
def yX10_third : MethodName := ⟨RX10, "third", "(II)I"⟩
abbrev cX10_isPart : ByteArray := prog_12_method_9_code
def yX10_isPart : MethodName := ⟨RX10, "isPart", "(III)Z"⟩
abbrev cX10_know : ByteArray := prog_12_method_10_code
def yX10_know : MethodName := ⟨RX10, "know", "(IIII)V"⟩
abbrev cX10_lengthOf : ByteArray := prog_12_method_11_code
def yX10_lengthOf : MethodName := ⟨RX10, "lengthOf", "(I)I"⟩
abbrev cX10_needParts : ByteArray := prog_12_method_12_code
def yX10_needParts : MethodName := ⟨RX10, "needParts", "(I)V"⟩
abbrev cX10_measure : ByteArray := prog_12_method_13_code
def yX10_measure : MethodName := ⟨RX10, "measure", "(I)V"⟩
abbrev cX10_partLength : ByteArray := prog_12_method_14_code
def yX10_partLength : MethodName := ⟨RX10, "partLength", "(II)I"⟩
abbrev cX10_letterOf : ByteArray := prog_12_method_15_code
def yX10_letterOf : MethodName := ⟨RX10, "letterOf", "(II)I"⟩
abbrev cX10_firstLetterOf : ByteArray := prog_12_method_16_code
def yX10_firstLetterOf : MethodName := ⟨RX10, "firstLetterOf", "(I)I"⟩
def RX11 : String := "YesNoClones"
def TX11 : u_T := fun k => match k with
  | 0 => ("YesNoClones", "formula", "LYesNoClones$Formula;", true)
  | 1 => ("YesNoClones", "places", "LYesNoClones$Places;", true)
  | 2 => ("YesNoClones", "ways", "LYesNoClones$Ways;", true)
  | 3 => ("YesNoClones", "book", "LYesNoClones$Book;", true)
  | 4 => ("YesNoClones", "shelf", "LYesNoClones$Shelf;", true)
  | 5 => ("YesNoClones", "past", "LYesNoClones$Past;", true)
  | 6 => ("YesNoClones", "imageSeeds", "[I", true)
  | 7 => ("YesNoClones", "imageKept", "[Z", true)
  | 8 => ("YesNoClones", "seedNow", "I", false)
  | _ => ("YesNoClones", "faultPlace", "I", false)
def tyX11 : Nat → FieldType := fun k => match k with
  | 0 => .object "YesNoClones$Formula"
  | 1 => .object "YesNoClones$Places"
  | 2 => .object "YesNoClones$Ways"
  | 3 => .object "YesNoClones$Book"
  | 4 => .object "YesNoClones$Shelf"
  | 5 => .object "YesNoClones$Past"
  | 6 => .array .int
  | 7 => .array .boolean
  | 8 => .int
  | _ => .int
abbrev wsX110 : List Cond := u_ws RX11 TX11 10
theorem nmX11 : ∀ a, a < 10 → ∀ b, b < 10 → a ≠ b → (TX11 a).2.1 ≠ (TX11 b).2.1 := by decide +kernel
theorem tyX11_ok : ∀ k, k < 10 → parseFieldDescriptor (TX11 k).2.2.1 = some (tyX11 k) := by decide +kernel
abbrev cX11_init : ByteArray := prog_1_method_1_code
def yX11_init : MethodName := ⟨RX11, "<init>", "()V"⟩
abbrev cX11_feed : ByteArray := prog_1_method_2_code
def yX11_feed : MethodName := ⟨RX11, "feed", "(I)I"⟩
abbrev cX11_tell : ByteArray := prog_1_method_3_code
def yX11_tell : MethodName := ⟨RX11, "tell", "()I"⟩
abbrev cX11_told : ByteArray := prog_1_method_5_code
def yX11_told : MethodName := ⟨RX11, "told", "(I)I"⟩
abbrev cX11_function : ByteArray := prog_1_method_6_code
def yX11_function : MethodName := ⟨RX11, "function", "(II)I"⟩
abbrev cX11_cost : ByteArray := prog_1_method_8_code
def yX11_cost : MethodName := ⟨RX11, "cost", "(II)I"⟩
abbrev cX11_spell : ByteArray := prog_1_method_9_code
def yX11_spell : MethodName := ⟨RX11, "spell", "(II)I"⟩
abbrev cX11_put : ByteArray := prog_1_method_18_code
def yX11_put : MethodName := ⟨RX11, "put", "(IIII)I"⟩
abbrev cX11_turn : ByteArray := prog_1_method_19_code
def yX11_turn : MethodName := ⟨RX11, "turn", "(I)I"⟩
abbrev cX11_base : ByteArray := prog_1_method_21_code
def yX11_base : MethodName := ⟨RX11, "base", "(I)I"⟩
abbrev cX11_undo : ByteArray := prog_1_method_23_code
def yX11_undo : MethodName := ⟨RX11, "undo", "(I)I"⟩
abbrev cX11_isCode : ByteArray := prog_1_method_29_code
def yX11_isCode : MethodName := ⟨RX11, "isCode", "(I)Z"⟩
abbrev cX11_common : ByteArray := prog_1_method_31_code
def yX11_common : MethodName := ⟨RX11, "common", "()I"⟩
abbrev cX11_commonOf : ByteArray := prog_1_method_32_code
def yX11_commonOf : MethodName := ⟨RX11, "commonOf", "(I)I"⟩
abbrev cX11_spare : ByteArray := prog_1_method_33_code
def yX11_spare : MethodName := ⟨RX11, "spare", "()I"⟩
abbrev cX11_reckoned : ByteArray := prog_1_method_34_code
def yX11_reckoned : MethodName := ⟨RX11, "reckoned", "()LYesNoClones$Costs;"⟩
def RX12 : String := "YesNoClonesModel"
def TX12 : u_T := fun k => match k with
  | _ => ("", "", "", false)
def tyX12 : Nat → FieldType := fun k => match k with
  | _ => .int
abbrev wsX120 : List Cond := u_ws RX12 TX12 0
theorem nmX12 : ∀ a, a < 0 → ∀ b, b < 0 → a ≠ b → (TX12 a).2.1 ≠ (TX12 b).2.1 := by decide +kernel
theorem tyX12_ok : ∀ k, k < 0 → parseFieldDescriptor (TX12 k).2.2.1 = some (tyX12 k) := by decide +kernel
def RJ9 : String := "java/lang/Math"
def TJ9 : u_T := fun k => match k with
  | _ => ("", "", "", false)
def tyJ9 : Nat → FieldType := fun k => match k with
  | _ => .int
theorem nmJ9 : ∀ a, a < 0 → ∀ b, b < 0 → a ≠ b → (TJ9 a).2.1 ≠ (TJ9 b).2.1 := by decide +kernel
theorem tyJ9_ok : ∀ k, k < 0 → parseFieldDescriptor (TJ9 k).2.2.1 = some (tyJ9 k) := by decide +kernel
abbrev cJ9_max_7cf53 : ByteArray := prog_15_method_65_code
def yJ9_max_7cf53 : MethodName := ⟨RJ9, "max", "(II)I"⟩
abbrev cJ9_min_7cf53 : ByteArray := prog_15_method_69_code
def yJ9_min_7cf53 : MethodName := ⟨RJ9, "min", "(II)I"⟩
def RL : String := "YesNoClonesLaw"
abbrev cL_cell : ByteArray := method_2_code
def yL_cell : MethodName := ⟨RL, "cell", "([II)I"⟩
abbrev cL_low : ByteArray := method_3_code
def yL_low : MethodName := ⟨RL, "low", "(II)I"⟩
abbrev cL_t : ByteArray := method_4_code
def yL_t : MethodName := ⟨RL, "t", "(LYesNoClones;I)Z"⟩
abbrev cL_half : ByteArray := method_5_code
def yL_half : MethodName := ⟨RL, "half", "(LYesNoClones;I)Z"⟩
abbrev cL_told : ByteArray := method_6_code
def yL_told : MethodName := ⟨RL, "told", "(LYesNoClones;II)Z"⟩
abbrev cL_drawn : ByteArray := method_7_code
def yL_drawn : MethodName := ⟨RL, "drawn", "(I)I"⟩
abbrev cL_putOn : ByteArray := method_8_code
def yL_putOn : MethodName := ⟨RL, "putOn", "(IIII)I"⟩
abbrev cL_isMade : ByteArray := method_9_code
def yL_isMade : MethodName := ⟨RL, "isMade", "(LYesNoClones;I)Z"⟩
abbrev cL_isCheap : ByteArray := method_10_code
def yL_isCheap : MethodName := ⟨RL, "isCheap", "(LYesNoClones;II)Z"⟩
abbrev cL_law : ByteArray := code
def yL_law : MethodName := ⟨RL, "law", "([I)Z"⟩
abbrev vwCl : List vw_C := [(RX0, TX0, 3), (RX2, TX2, 15), (RX3, TX3, 5), (RX4, TX4, 5), (RX5, TX5, 5), (RX6, TX6, 6), (RX8, TX8, 3), (RX10, TX10, 6), (RX11, TX11, 10)]
