-- ===== PART A: goes FIRST, ahead of the names: the tables' words, and 'selects' of the private methods out of them =====
/-- a private method of a class that the tables say can be made, by its rows of tables_1 -/
def lw_okq (q : MethodName × Nat) : Prop := (q.1.cls ≠ "java/lang/invoke/MethodHandle" ∧ q.1.cls ≠ "java/lang/invoke/VarHandle") ∧ Cond.instantiable q.1.cls q.2 ∈ tables_1 ∧ Cond.privateMethod q.1 ∈ tables_1 ∧ Cond.instanceMethod q.1 ∈ tables_1
theorem lw_p0 : lw_okq (⟨"YesNoClones$Places", "findSets", "()V"⟩, 5) := ⟨⟨by decide +kernel, by decide +kernel⟩, List.mem_of_getElem? (i := 47) (by decide +kernel), List.mem_of_getElem? (i := 103) (by decide +kernel), List.mem_of_getElem? (i := 104) (by decide +kernel)⟩
theorem lw_p1 : lw_okq (⟨"YesNoClones$Places", "numberSets", "()V"⟩, 5) := ⟨⟨by decide +kernel, by decide +kernel⟩, List.mem_of_getElem? (i := 47) (by decide +kernel), List.mem_of_getElem? (i := 107) (by decide +kernel), List.mem_of_getElem? (i := 108) (by decide +kernel)⟩
theorem lw_p2 : lw_okq (⟨"YesNoClones$Formula", "pop", "()I"⟩, 5) := ⟨⟨by decide +kernel, by decide +kernel⟩, List.mem_of_getElem? (i := 24) (by decide +kernel), List.mem_of_getElem? (i := 374) (by decide +kernel), List.mem_of_getElem? (i := 375) (by decide +kernel)⟩
theorem lw_p3 : lw_okq (⟨"YesNoClones$Formula", "push", "(I)V"⟩, 5) := ⟨⟨by decide +kernel, by decide +kernel⟩, List.mem_of_getElem? (i := 24) (by decide +kernel), List.mem_of_getElem? (i := 384) (by decide +kernel), List.mem_of_getElem? (i := 385) (by decide +kernel)⟩
theorem lw_p4 : lw_okq (⟨"YesNoClones$Past", "save", "(ILYesNoClones$Shelf;)V"⟩, 5) := ⟨⟨by decide +kernel, by decide +kernel⟩, List.mem_of_getElem? (i := 264) (by decide +kernel), List.mem_of_getElem? (i := 400) (by decide +kernel), List.mem_of_getElem? (i := 401) (by decide +kernel)⟩
theorem lw_p5 : lw_okq (⟨"YesNoClones", "common", "()I"⟩, 10) := ⟨⟨by decide +kernel, by decide +kernel⟩, List.mem_of_getElem? (i := 16) (by decide +kernel), List.mem_of_getElem? (i := 424) (by decide +kernel), List.mem_of_getElem? (i := 425) (by decide +kernel)⟩
theorem lw_p6 : lw_okq (⟨"YesNoClones", "commonOf", "(I)I"⟩, 10) := ⟨⟨by decide +kernel, by decide +kernel⟩, List.mem_of_getElem? (i := 16) (by decide +kernel), List.mem_of_getElem? (i := 428) (by decide +kernel), List.mem_of_getElem? (i := 429) (by decide +kernel)⟩
theorem lw_p7 : lw_okq (⟨"YesNoClones", "reckoned", "()LYesNoClones$Costs;"⟩, 10) := ⟨⟨by decide +kernel, by decide +kernel⟩, List.mem_of_getElem? (i := 16) (by decide +kernel), List.mem_of_getElem? (i := 441) (by decide +kernel), List.mem_of_getElem? (i := 442) (by decide +kernel)⟩
theorem lw_p8 : lw_okq (⟨"YesNoClones$Costs", "start", "(LYesNoClones$Shelf;)V"⟩, 15) := ⟨⟨by decide +kernel, by decide +kernel⟩, List.mem_of_getElem? (i := 133) (by decide +kernel), List.mem_of_getElem? (i := 463) (by decide +kernel), List.mem_of_getElem? (i := 464) (by decide +kernel)⟩
theorem lw_p9 : lw_okq (⟨"YesNoClones$Costs", "miss", "(LYesNoClones$Places;I)V"⟩, 15) := ⟨⟨by decide +kernel, by decide +kernel⟩, List.mem_of_getElem? (i := 133) (by decide +kernel), List.mem_of_getElem? (i := 467) (by decide +kernel), List.mem_of_getElem? (i := 468) (by decide +kernel)⟩
theorem lw_p10 : lw_okq (⟨"YesNoClones$Costs", "settle", "()V"⟩, 15) := ⟨⟨by decide +kernel, by decide +kernel⟩, List.mem_of_getElem? (i := 133) (by decide +kernel), List.mem_of_getElem? (i := 476) (by decide +kernel), List.mem_of_getElem? (i := 477) (by decide +kernel)⟩
theorem lw_p11 : lw_okq (⟨"YesNoClones$Costs", "tryTop", "(II)V"⟩, 15) := ⟨⟨by decide +kernel, by decide +kernel⟩, List.mem_of_getElem? (i := 133) (by decide +kernel), List.mem_of_getElem? (i := 480) (by decide +kernel), List.mem_of_getElem? (i := 481) (by decide +kernel)⟩
theorem lw_p12 : lw_okq (⟨"YesNoClones$Putting", "spread", "(I)I"⟩, 6) := ⟨⟨by decide +kernel, by decide +kernel⟩, List.mem_of_getElem? (i := 139) (by decide +kernel), List.mem_of_getElem? (i := 514) (by decide +kernel), List.mem_of_getElem? (i := 515) (by decide +kernel)⟩
theorem lw_p13 : lw_okq (⟨"YesNoClones$Costs", "aim", "()V"⟩, 15) := ⟨⟨by decide +kernel, by decide +kernel⟩, List.mem_of_getElem? (i := 133) (by decide +kernel), List.mem_of_getElem? (i := 522) (by decide +kernel), List.mem_of_getElem? (i := 523) (by decide +kernel)⟩
theorem lw_p14 : lw_okq (⟨"YesNoClones$Costs", "isMade", "(I)Z"⟩, 15) := ⟨⟨by decide +kernel, by decide +kernel⟩, List.mem_of_getElem? (i := 133) (by decide +kernel), List.mem_of_getElem? (i := 526) (by decide +kernel), List.mem_of_getElem? (i := 527) (by decide +kernel)⟩
theorem lw_p15 : lw_okq (⟨"YesNoClones$Costs", "trySeconds", "(I)V"⟩, 15) := ⟨⟨by decide +kernel, by decide +kernel⟩, List.mem_of_getElem? (i := 133) (by decide +kernel), List.mem_of_getElem? (i := 537) (by decide +kernel), List.mem_of_getElem? (i := 538) (by decide +kernel)⟩
def lw_privs_1 : List (MethodName × Nat) := [(⟨"YesNoClones$Places", "findSets", "()V"⟩, 5), (⟨"YesNoClones$Places", "numberSets", "()V"⟩, 5), (⟨"YesNoClones$Formula", "pop", "()I"⟩, 5), (⟨"YesNoClones$Formula", "push", "(I)V"⟩, 5), (⟨"YesNoClones$Past", "save", "(ILYesNoClones$Shelf;)V"⟩, 5), (⟨"YesNoClones", "common", "()I"⟩, 10), (⟨"YesNoClones", "commonOf", "(I)I"⟩, 10), (⟨"YesNoClones", "reckoned", "()LYesNoClones$Costs;"⟩, 10), (⟨"YesNoClones$Costs", "start", "(LYesNoClones$Shelf;)V"⟩, 15), (⟨"YesNoClones$Costs", "miss", "(LYesNoClones$Places;I)V"⟩, 15), (⟨"YesNoClones$Costs", "settle", "()V"⟩, 15), (⟨"YesNoClones$Costs", "tryTop", "(II)V"⟩, 15), (⟨"YesNoClones$Putting", "spread", "(I)I"⟩, 6), (⟨"YesNoClones$Costs", "aim", "()V"⟩, 15), (⟨"YesNoClones$Costs", "isMade", "(I)Z"⟩, 15), (⟨"YesNoClones$Costs", "trySeconds", "(I)V"⟩, 15)]
theorem lw_r1 : ∀ q ∈ lw_privs_1, lw_okq q := List.forall_mem_cons.mpr ⟨lw_p0, List.forall_mem_cons.mpr ⟨lw_p1, List.forall_mem_cons.mpr ⟨lw_p2, List.forall_mem_cons.mpr ⟨lw_p3, List.forall_mem_cons.mpr ⟨lw_p4, List.forall_mem_cons.mpr ⟨lw_p5, List.forall_mem_cons.mpr ⟨lw_p6, List.forall_mem_cons.mpr ⟨lw_p7, List.forall_mem_cons.mpr ⟨lw_p8, List.forall_mem_cons.mpr ⟨lw_p9, List.forall_mem_cons.mpr ⟨lw_p10, List.forall_mem_cons.mpr ⟨lw_p11, List.forall_mem_cons.mpr ⟨lw_p12, List.forall_mem_cons.mpr ⟨lw_p13, List.forall_mem_cons.mpr ⟨lw_p14, List.forall_mem_cons.mpr ⟨lw_p15, fun _ h => absurd h List.not_mem_nil⟩⟩⟩⟩⟩⟩⟩⟩⟩⟩⟩⟩⟩⟩⟩⟩
theorem lw_p16 : lw_okq (⟨"YesNoClones$Costs", "tryThirds", "(II)V"⟩, 15) := ⟨⟨by decide +kernel, by decide +kernel⟩, List.mem_of_getElem? (i := 133) (by decide +kernel), List.mem_of_getElem? (i := 545) (by decide +kernel), List.mem_of_getElem? (i := 546) (by decide +kernel)⟩
theorem lw_p17 : lw_okq (⟨"YesNoClones$Costs", "someThird", "(III)Z"⟩, 15) := ⟨⟨by decide +kernel, by decide +kernel⟩, List.mem_of_getElem? (i := 133) (by decide +kernel), List.mem_of_getElem? (i := 553) (by decide +kernel), List.mem_of_getElem? (i := 554) (by decide +kernel)⟩
theorem lw_p18 : lw_okq (⟨"YesNoClones$Costs", "make", "(I)V"⟩, 15) := ⟨⟨by decide +kernel, by decide +kernel⟩, List.mem_of_getElem? (i := 133) (by decide +kernel), List.mem_of_getElem? (i := 561) (by decide +kernel), List.mem_of_getElem? (i := 562) (by decide +kernel)⟩
theorem lw_p19 : lw_okq (⟨"YesNoClones$Costs", "dropMade", "()V"⟩, 15) := ⟨⟨by decide +kernel, by decide +kernel⟩, List.mem_of_getElem? (i := 133) (by decide +kernel), List.mem_of_getElem? (i := 565) (by decide +kernel), List.mem_of_getElem? (i := 566) (by decide +kernel)⟩
theorem lw_p20 : lw_okq (⟨"YesNoClones", "spare", "()I"⟩, 10) := ⟨⟨by decide +kernel, by decide +kernel⟩, List.mem_of_getElem? (i := 16) (by decide +kernel), List.mem_of_getElem? (i := 589) (by decide +kernel), List.mem_of_getElem? (i := 590) (by decide +kernel)⟩
theorem lw_p21 : lw_okq (⟨"YesNoClones$Ways", "lookFor", "(I)V"⟩, 6) := ⟨⟨by decide +kernel, by decide +kernel⟩, List.mem_of_getElem? (i := 127) (by decide +kernel), List.mem_of_getElem? (i := 644) (by decide +kernel), List.mem_of_getElem? (i := 645) (by decide +kernel)⟩
theorem lw_p22 : lw_okq (⟨"YesNoClones$Ways", "isPart", "(III)Z"⟩, 6) := ⟨⟨by decide +kernel, by decide +kernel⟩, List.mem_of_getElem? (i := 127) (by decide +kernel), List.mem_of_getElem? (i := 655) (by decide +kernel), List.mem_of_getElem? (i := 656) (by decide +kernel)⟩
theorem lw_p23 : lw_okq (⟨"YesNoClones$Ways", "lookForSecond", "(III)Z"⟩, 6) := ⟨⟨by decide +kernel, by decide +kernel⟩, List.mem_of_getElem? (i := 127) (by decide +kernel), List.mem_of_getElem? (i := 662) (by decide +kernel), List.mem_of_getElem? (i := 663) (by decide +kernel)⟩
theorem lw_p24 : lw_okq (⟨"YesNoClones$Ways", "third", "(II)I"⟩, 6) := ⟨⟨by decide +kernel, by decide +kernel⟩, List.mem_of_getElem? (i := 127) (by decide +kernel), List.mem_of_getElem? (i := 668) (by decide +kernel), List.mem_of_getElem? (i := 669) (by decide +kernel)⟩
theorem lw_p25 : lw_okq (⟨"YesNoClones$Ways", "know", "(IIII)V"⟩, 6) := ⟨⟨by decide +kernel, by decide +kernel⟩, List.mem_of_getElem? (i := 127) (by decide +kernel), List.mem_of_getElem? (i := 676) (by decide +kernel), List.mem_of_getElem? (i := 677) (by decide +kernel)⟩
theorem lw_p26 : lw_okq (⟨"YesNoClones$Ways", "knownPart", "(II)I"⟩, 6) := ⟨⟨by decide +kernel, by decide +kernel⟩, List.mem_of_getElem? (i := 127) (by decide +kernel), List.mem_of_getElem? (i := 685) (by decide +kernel), List.mem_of_getElem? (i := 686) (by decide +kernel)⟩
theorem lw_p27 : lw_okq (⟨"YesNoClones$Ways", "needParts", "(I)V"⟩, 6) := ⟨⟨by decide +kernel, by decide +kernel⟩, List.mem_of_getElem? (i := 127) (by decide +kernel), List.mem_of_getElem? (i := 693) (by decide +kernel), List.mem_of_getElem? (i := 694) (by decide +kernel)⟩
theorem lw_p28 : lw_okq (⟨"YesNoClones$Ways", "measure", "(I)V"⟩, 6) := ⟨⟨by decide +kernel, by decide +kernel⟩, List.mem_of_getElem? (i := 127) (by decide +kernel), List.mem_of_getElem? (i := 697) (by decide +kernel), List.mem_of_getElem? (i := 698) (by decide +kernel)⟩
theorem lw_p29 : lw_okq (⟨"YesNoClones$Ways", "partLength", "(II)I"⟩, 6) := ⟨⟨by decide +kernel, by decide +kernel⟩, List.mem_of_getElem? (i := 127) (by decide +kernel), List.mem_of_getElem? (i := 701) (by decide +kernel), List.mem_of_getElem? (i := 702) (by decide +kernel)⟩
theorem lw_p30 : lw_okq (⟨"YesNoClones$Ways", "firstLetterOf", "(I)I"⟩, 6) := ⟨⟨by decide +kernel, by decide +kernel⟩, List.mem_of_getElem? (i := 127) (by decide +kernel), List.mem_of_getElem? (i := 713) (by decide +kernel), List.mem_of_getElem? (i := 714) (by decide +kernel)⟩
theorem lw_p31 : lw_okq (⟨"YesNoClones$Places", "isNext", "(IIZ)Z"⟩, 5) := ⟨⟨by decide +kernel, by decide +kernel⟩, List.mem_of_getElem? (i := 47) (by decide +kernel), List.mem_of_getElem? (i := 748) (by decide +kernel), List.mem_of_getElem? (i := 749) (by decide +kernel)⟩
def lw_privs_2 : List (MethodName × Nat) := [(⟨"YesNoClones$Costs", "tryThirds", "(II)V"⟩, 15), (⟨"YesNoClones$Costs", "someThird", "(III)Z"⟩, 15), (⟨"YesNoClones$Costs", "make", "(I)V"⟩, 15), (⟨"YesNoClones$Costs", "dropMade", "()V"⟩, 15), (⟨"YesNoClones", "spare", "()I"⟩, 10), (⟨"YesNoClones$Ways", "lookFor", "(I)V"⟩, 6), (⟨"YesNoClones$Ways", "isPart", "(III)Z"⟩, 6), (⟨"YesNoClones$Ways", "lookForSecond", "(III)Z"⟩, 6), (⟨"YesNoClones$Ways", "third", "(II)I"⟩, 6), (⟨"YesNoClones$Ways", "know", "(IIII)V"⟩, 6), (⟨"YesNoClones$Ways", "knownPart", "(II)I"⟩, 6), (⟨"YesNoClones$Ways", "needParts", "(I)V"⟩, 6), (⟨"YesNoClones$Ways", "measure", "(I)V"⟩, 6), (⟨"YesNoClones$Ways", "partLength", "(II)I"⟩, 6), (⟨"YesNoClones$Ways", "firstLetterOf", "(I)I"⟩, 6), (⟨"YesNoClones$Places", "isNext", "(IIZ)Z"⟩, 5)]
theorem lw_r2 : ∀ q ∈ lw_privs_2, lw_okq q := List.forall_mem_cons.mpr ⟨lw_p16, List.forall_mem_cons.mpr ⟨lw_p17, List.forall_mem_cons.mpr ⟨lw_p18, List.forall_mem_cons.mpr ⟨lw_p19, List.forall_mem_cons.mpr ⟨lw_p20, List.forall_mem_cons.mpr ⟨lw_p21, List.forall_mem_cons.mpr ⟨lw_p22, List.forall_mem_cons.mpr ⟨lw_p23, List.forall_mem_cons.mpr ⟨lw_p24, List.forall_mem_cons.mpr ⟨lw_p25, List.forall_mem_cons.mpr ⟨lw_p26, List.forall_mem_cons.mpr ⟨lw_p27, List.forall_mem_cons.mpr ⟨lw_p28, List.forall_mem_cons.mpr ⟨lw_p29, List.forall_mem_cons.mpr ⟨lw_p30, List.forall_mem_cons.mpr ⟨lw_p31, fun _ h => absurd h List.not_mem_nil⟩⟩⟩⟩⟩⟩⟩⟩⟩⟩⟩⟩⟩⟩⟩⟩
theorem lw_p32 : lw_okq (⟨"YesNoClones$Places", "isJustAbove", "(II)Z"⟩, 5) := ⟨⟨by decide +kernel, by decide +kernel⟩, List.mem_of_getElem? (i := 47) (by decide +kernel), List.mem_of_getElem? (i := 752) (by decide +kernel), List.mem_of_getElem? (i := 753) (by decide +kernel)⟩
theorem lw_p33 : lw_okq (⟨"YesNoClones$Places", "isAbove", "(II)Z"⟩, 5) := ⟨⟨by decide +kernel, by decide +kernel⟩, List.mem_of_getElem? (i := 47) (by decide +kernel), List.mem_of_getElem? (i := 756) (by decide +kernel), List.mem_of_getElem? (i := 757) (by decide +kernel)⟩
theorem lw_p34 : lw_okq (⟨"YesNoClones", "nextPlace", "(IIZ)I"⟩, 10) := ⟨⟨by decide +kernel, by decide +kernel⟩, List.mem_of_getElem? (i := 16) (by decide +kernel), List.mem_of_getElem? (i := 769) (by decide +kernel), List.mem_of_getElem? (i := 770) (by decide +kernel)⟩
theorem lw_p35 : lw_okq (⟨"YesNoClones", "draw", "(I)I"⟩, 10) := ⟨⟨by decide +kernel, by decide +kernel⟩, List.mem_of_getElem? (i := 16) (by decide +kernel), List.mem_of_getElem? (i := 844) (by decide +kernel), List.mem_of_getElem? (i := 845) (by decide +kernel)⟩
theorem lw_p36 : lw_okq (⟨"YesNoClones$Past", "load", "(ILYesNoClones$Shelf;)V"⟩, 5) := ⟨⟨by decide +kernel, by decide +kernel⟩, List.mem_of_getElem? (i := 264) (by decide +kernel), List.mem_of_getElem? (i := 860) (by decide +kernel), List.mem_of_getElem? (i := 861) (by decide +kernel)⟩
theorem lw_p37 : lw_okq (⟨"YesNoClonesModel", "faultOf", "()I"⟩, 26) := ⟨⟨by decide +kernel, by decide +kernel⟩, List.mem_of_getElem? (i := 906) (by decide +kernel), List.mem_of_getElem? (i := 1005) (by decide +kernel), List.mem_of_getElem? (i := 1006) (by decide +kernel)⟩
theorem lw_p38 : lw_okq (⟨"YesNoClonesModel", "worth", "()I"⟩, 26) := ⟨⟨by decide +kernel, by decide +kernel⟩, List.mem_of_getElem? (i := 906) (by decide +kernel), List.mem_of_getElem? (i := 1016) (by decide +kernel), List.mem_of_getElem? (i := 1017) (by decide +kernel)⟩
theorem lw_p39 : lw_okq (⟨"YesNoClonesModel", "byItself", "(I)I"⟩, 26) := ⟨⟨by decide +kernel, by decide +kernel⟩, List.mem_of_getElem? (i := 906) (by decide +kernel), List.mem_of_getElem? (i := 1020) (by decide +kernel), List.mem_of_getElem? (i := 1021) (by decide +kernel)⟩
theorem lw_p40 : lw_okq (⟨"YesNoClonesModel", "byTwo", "(III)I"⟩, 26) := ⟨⟨by decide +kernel, by decide +kernel⟩, List.mem_of_getElem? (i := 906) (by decide +kernel), List.mem_of_getElem? (i := 1024) (by decide +kernel), List.mem_of_getElem? (i := 1025) (by decide +kernel)⟩
theorem lw_p41 : lw_okq (⟨"YesNoClonesModel", "byThree", "(IIII)I"⟩, 26) := ⟨⟨by decide +kernel, by decide +kernel⟩, List.mem_of_getElem? (i := 906) (by decide +kernel), List.mem_of_getElem? (i := 1028) (by decide +kernel), List.mem_of_getElem? (i := 1029) (by decide +kernel)⟩
theorem lw_p42 : lw_okq (⟨"YesNoClonesModel", "add", "(I)I"⟩, 26) := ⟨⟨by decide +kernel, by decide +kernel⟩, List.mem_of_getElem? (i := 906) (by decide +kernel), List.mem_of_getElem? (i := 1038) (by decide +kernel), List.mem_of_getElem? (i := 1039) (by decide +kernel)⟩
theorem lw_p43 : lw_okq (⟨"YesNoClonesModel", "remember", "()V"⟩, 26) := ⟨⟨by decide +kernel, by decide +kernel⟩, List.mem_of_getElem? (i := 906) (by decide +kernel), List.mem_of_getElem? (i := 1042) (by decide +kernel), List.mem_of_getElem? (i := 1043) (by decide +kernel)⟩
theorem lw_p44 : lw_okq (⟨"YesNoClonesModel", "copyRow", "(II)V"⟩, 26) := ⟨⟨by decide +kernel, by decide +kernel⟩, List.mem_of_getElem? (i := 906) (by decide +kernel), List.mem_of_getElem? (i := 1046) (by decide +kernel), List.mem_of_getElem? (i := 1047) (by decide +kernel)⟩
theorem lw_p45 : lw_okq (⟨"YesNoClonesModel", "common", "(I)I"⟩, 26) := ⟨⟨by decide +kernel, by decide +kernel⟩, List.mem_of_getElem? (i := 906) (by decide +kernel), List.mem_of_getElem? (i := 1058) (by decide +kernel), List.mem_of_getElem? (i := 1059) (by decide +kernel)⟩
theorem lw_p46 : lw_okq (⟨"YesNoClonesModel", "layTraits", "()V"⟩, 26) := ⟨⟨by decide +kernel, by decide +kernel⟩, List.mem_of_getElem? (i := 906) (by decide +kernel), List.mem_of_getElem? (i := 1062) (by decide +kernel), List.mem_of_getElem? (i := 1063) (by decide +kernel)⟩
theorem lw_p47 : lw_okq (⟨"YesNoClonesModel", "placeOf", "(I)I"⟩, 26) := ⟨⟨by decide +kernel, by decide +kernel⟩, List.mem_of_getElem? (i := 906) (by decide +kernel), List.mem_of_getElem? (i := 1099) (by decide +kernel), List.mem_of_getElem? (i := 1100) (by decide +kernel)⟩
def lw_privs_3 : List (MethodName × Nat) := [(⟨"YesNoClones$Places", "isJustAbove", "(II)Z"⟩, 5), (⟨"YesNoClones$Places", "isAbove", "(II)Z"⟩, 5), (⟨"YesNoClones", "nextPlace", "(IIZ)I"⟩, 10), (⟨"YesNoClones", "draw", "(I)I"⟩, 10), (⟨"YesNoClones$Past", "load", "(ILYesNoClones$Shelf;)V"⟩, 5), (⟨"YesNoClonesModel", "faultOf", "()I"⟩, 26), (⟨"YesNoClonesModel", "worth", "()I"⟩, 26), (⟨"YesNoClonesModel", "byItself", "(I)I"⟩, 26), (⟨"YesNoClonesModel", "byTwo", "(III)I"⟩, 26), (⟨"YesNoClonesModel", "byThree", "(IIII)I"⟩, 26), (⟨"YesNoClonesModel", "add", "(I)I"⟩, 26), (⟨"YesNoClonesModel", "remember", "()V"⟩, 26), (⟨"YesNoClonesModel", "copyRow", "(II)V"⟩, 26), (⟨"YesNoClonesModel", "common", "(I)I"⟩, 26), (⟨"YesNoClonesModel", "layTraits", "()V"⟩, 26), (⟨"YesNoClonesModel", "placeOf", "(I)I"⟩, 26)]
theorem lw_r3 : ∀ q ∈ lw_privs_3, lw_okq q := List.forall_mem_cons.mpr ⟨lw_p32, List.forall_mem_cons.mpr ⟨lw_p33, List.forall_mem_cons.mpr ⟨lw_p34, List.forall_mem_cons.mpr ⟨lw_p35, List.forall_mem_cons.mpr ⟨lw_p36, List.forall_mem_cons.mpr ⟨lw_p37, List.forall_mem_cons.mpr ⟨lw_p38, List.forall_mem_cons.mpr ⟨lw_p39, List.forall_mem_cons.mpr ⟨lw_p40, List.forall_mem_cons.mpr ⟨lw_p41, List.forall_mem_cons.mpr ⟨lw_p42, List.forall_mem_cons.mpr ⟨lw_p43, List.forall_mem_cons.mpr ⟨lw_p44, List.forall_mem_cons.mpr ⟨lw_p45, List.forall_mem_cons.mpr ⟨lw_p46, List.forall_mem_cons.mpr ⟨lw_p47, fun _ h => absurd h List.not_mem_nil⟩⟩⟩⟩⟩⟩⟩⟩⟩⟩⟩⟩⟩⟩⟩⟩
theorem lw_p48 : lw_okq (⟨"YesNoClonesModel", "layPlaces", "()V"⟩, 26) := ⟨⟨by decide +kernel, by decide +kernel⟩, List.mem_of_getElem? (i := 906) (by decide +kernel), List.mem_of_getElem? (i := 1103) (by decide +kernel), List.mem_of_getElem? (i := 1104) (by decide +kernel)⟩
theorem lw_p49 : lw_okq (⟨"YesNoClonesModel", "shut", "(I)I"⟩, 26) := ⟨⟨by decide +kernel, by decide +kernel⟩, List.mem_of_getElem? (i := 906) (by decide +kernel), List.mem_of_getElem? (i := 1107) (by decide +kernel), List.mem_of_getElem? (i := 1108) (by decide +kernel)⟩
theorem lw_p50 : lw_okq (⟨"YesNoClonesModel", "madeMany", "()I"⟩, 26) := ⟨⟨by decide +kernel, by decide +kernel⟩, List.mem_of_getElem? (i := 906) (by decide +kernel), List.mem_of_getElem? (i := 1114) (by decide +kernel), List.mem_of_getElem? (i := 1115) (by decide +kernel)⟩
theorem lw_p51 : lw_okq (⟨"YesNoClonesModel", "layCosts", "()V"⟩, 26) := ⟨⟨by decide +kernel, by decide +kernel⟩, List.mem_of_getElem? (i := 906) (by decide +kernel), List.mem_of_getElem? (i := 1118) (by decide +kernel), List.mem_of_getElem? (i := 1119) (by decide +kernel)⟩
theorem lw_p52 : lw_okq (⟨"YesNoClonesModel", "closeLevel", "(I)I"⟩, 26) := ⟨⟨by decide +kernel, by decide +kernel⟩, List.mem_of_getElem? (i := 906) (by decide +kernel), List.mem_of_getElem? (i := 1122) (by decide +kernel), List.mem_of_getElem? (i := 1123) (by decide +kernel)⟩
theorem lw_p53 : lw_okq (⟨"YesNoClonesModel", "offerAll", "(I)V"⟩, 26) := ⟨⟨by decide +kernel, by decide +kernel⟩, List.mem_of_getElem? (i := 906) (by decide +kernel), List.mem_of_getElem? (i := 1126) (by decide +kernel), List.mem_of_getElem? (i := 1127) (by decide +kernel)⟩
theorem lw_p54 : lw_okq (⟨"YesNoClonesModel", "offer", "(IIIII)V"⟩, 26) := ⟨⟨by decide +kernel, by decide +kernel⟩, List.mem_of_getElem? (i := 906) (by decide +kernel), List.mem_of_getElem? (i := 1133) (by decide +kernel), List.mem_of_getElem? (i := 1134) (by decide +kernel)⟩
theorem lw_p55 : lw_okq (⟨"YesNoClonesModel", "isMade", "(I)Z"⟩, 26) := ⟨⟨by decide +kernel, by decide +kernel⟩, List.mem_of_getElem? (i := 906) (by decide +kernel), List.mem_of_getElem? (i := 1137) (by decide +kernel), List.mem_of_getElem? (i := 1138) (by decide +kernel)⟩
theorem lw_p56 : lw_okq (⟨"YesNoClonesModel", "offerSecond", "(III)V"⟩, 26) := ⟨⟨by decide +kernel, by decide +kernel⟩, List.mem_of_getElem? (i := 906) (by decide +kernel), List.mem_of_getElem? (i := 1141) (by decide +kernel), List.mem_of_getElem? (i := 1142) (by decide +kernel)⟩
theorem lw_p57 : lw_okq (⟨"YesNoClonesModel", "offerThird", "(IIII)V"⟩, 26) := ⟨⟨by decide +kernel, by decide +kernel⟩, List.mem_of_getElem? (i := 906) (by decide +kernel), List.mem_of_getElem? (i := 1145) (by decide +kernel), List.mem_of_getElem? (i := 1146) (by decide +kernel)⟩
theorem lw_p58 : lw_okq (⟨"YesNoClonesModel", "dearestCode", "()I"⟩, 26) := ⟨⟨by decide +kernel, by decide +kernel⟩, List.mem_of_getElem? (i := 906) (by decide +kernel), List.mem_of_getElem? (i := 1149) (by decide +kernel), List.mem_of_getElem? (i := 1150) (by decide +kernel)⟩
theorem lw_p59 : lw_okq (⟨"YesNoClonesModel", "toldOfAll", "(I)I"⟩, 26) := ⟨⟨by decide +kernel, by decide +kernel⟩, List.mem_of_getElem? (i := 906) (by decide +kernel), List.mem_of_getElem? (i := 1153) (by decide +kernel), List.mem_of_getElem? (i := 1154) (by decide +kernel)⟩
theorem lw_p60 : lw_okq (⟨"YesNoClonesModel", "spare", "()I"⟩, 26) := ⟨⟨by decide +kernel, by decide +kernel⟩, List.mem_of_getElem? (i := 906) (by decide +kernel), List.mem_of_getElem? (i := 1157) (by decide +kernel), List.mem_of_getElem? (i := 1158) (by decide +kernel)⟩
theorem lw_p61 : lw_okq (⟨"YesNoClonesModel", "wrong", "()I"⟩, 26) := ⟨⟨by decide +kernel, by decide +kernel⟩, List.mem_of_getElem? (i := 906) (by decide +kernel), List.mem_of_getElem? (i := 1161) (by decide +kernel), List.mem_of_getElem? (i := 1162) (by decide +kernel)⟩
theorem lw_p62 : lw_okq (⟨"YesNoClonesModel", "isFunction", "(I)Z"⟩, 26) := ⟨⟨by decide +kernel, by decide +kernel⟩, List.mem_of_getElem? (i := 906) (by decide +kernel), List.mem_of_getElem? (i := 1169) (by decide +kernel), List.mem_of_getElem? (i := 1170) (by decide +kernel)⟩
theorem lw_p63 : lw_okq (⟨"YesNoClonesModel", "traitsNow", "(I)I"⟩, 26) := ⟨⟨by decide +kernel, by decide +kernel⟩, List.mem_of_getElem? (i := 906) (by decide +kernel), List.mem_of_getElem? (i := 1174) (by decide +kernel), List.mem_of_getElem? (i := 1175) (by decide +kernel)⟩
def lw_privs_4 : List (MethodName × Nat) := [(⟨"YesNoClonesModel", "layPlaces", "()V"⟩, 26), (⟨"YesNoClonesModel", "shut", "(I)I"⟩, 26), (⟨"YesNoClonesModel", "madeMany", "()I"⟩, 26), (⟨"YesNoClonesModel", "layCosts", "()V"⟩, 26), (⟨"YesNoClonesModel", "closeLevel", "(I)I"⟩, 26), (⟨"YesNoClonesModel", "offerAll", "(I)V"⟩, 26), (⟨"YesNoClonesModel", "offer", "(IIIII)V"⟩, 26), (⟨"YesNoClonesModel", "isMade", "(I)Z"⟩, 26), (⟨"YesNoClonesModel", "offerSecond", "(III)V"⟩, 26), (⟨"YesNoClonesModel", "offerThird", "(IIII)V"⟩, 26), (⟨"YesNoClonesModel", "dearestCode", "()I"⟩, 26), (⟨"YesNoClonesModel", "toldOfAll", "(I)I"⟩, 26), (⟨"YesNoClonesModel", "spare", "()I"⟩, 26), (⟨"YesNoClonesModel", "wrong", "()I"⟩, 26), (⟨"YesNoClonesModel", "isFunction", "(I)Z"⟩, 26), (⟨"YesNoClonesModel", "traitsNow", "(I)I"⟩, 26)]
theorem lw_r4 : ∀ q ∈ lw_privs_4, lw_okq q := List.forall_mem_cons.mpr ⟨lw_p48, List.forall_mem_cons.mpr ⟨lw_p49, List.forall_mem_cons.mpr ⟨lw_p50, List.forall_mem_cons.mpr ⟨lw_p51, List.forall_mem_cons.mpr ⟨lw_p52, List.forall_mem_cons.mpr ⟨lw_p53, List.forall_mem_cons.mpr ⟨lw_p54, List.forall_mem_cons.mpr ⟨lw_p55, List.forall_mem_cons.mpr ⟨lw_p56, List.forall_mem_cons.mpr ⟨lw_p57, List.forall_mem_cons.mpr ⟨lw_p58, List.forall_mem_cons.mpr ⟨lw_p59, List.forall_mem_cons.mpr ⟨lw_p60, List.forall_mem_cons.mpr ⟨lw_p61, List.forall_mem_cons.mpr ⟨lw_p62, List.forall_mem_cons.mpr ⟨lw_p63, fun _ h => absurd h List.not_mem_nil⟩⟩⟩⟩⟩⟩⟩⟩⟩⟩⟩⟩⟩⟩⟩⟩
theorem lw_p64 : lw_okq (⟨"YesNoClonesModel", "costNow", "(I)I"⟩, 26) := ⟨⟨by decide +kernel, by decide +kernel⟩, List.mem_of_getElem? (i := 906) (by decide +kernel), List.mem_of_getElem? (i := 1181) (by decide +kernel), List.mem_of_getElem? (i := 1182) (by decide +kernel)⟩
theorem lw_p65 : lw_okq (⟨"YesNoClonesModel", "isPlace", "(I)Z"⟩, 26) := ⟨⟨by decide +kernel, by decide +kernel⟩, List.mem_of_getElem? (i := 906) (by decide +kernel), List.mem_of_getElem? (i := 1210) (by decide +kernel), List.mem_of_getElem? (i := 1211) (by decide +kernel)⟩
theorem lw_p66 : lw_okq (⟨"YesNoClonesModel", "inside", "(I)I"⟩, 26) := ⟨⟨by decide +kernel, by decide +kernel⟩, List.mem_of_getElem? (i := 906) (by decide +kernel), List.mem_of_getElem? (i := 1214) (by decide +kernel), List.mem_of_getElem? (i := 1215) (by decide +kernel)⟩
theorem lw_p67 : lw_okq (⟨"YesNoClonesModel", "neighbour", "(IIZ)I"⟩, 26) := ⟨⟨by decide +kernel, by decide +kernel⟩, List.mem_of_getElem? (i := 906) (by decide +kernel), List.mem_of_getElem? (i := 1218) (by decide +kernel), List.mem_of_getElem? (i := 1219) (by decide +kernel)⟩
theorem lw_p68 : lw_okq (⟨"YesNoClonesModel", "isJustAbove", "(II)Z"⟩, 26) := ⟨⟨by decide +kernel, by decide +kernel⟩, List.mem_of_getElem? (i := 906) (by decide +kernel), List.mem_of_getElem? (i := 1222) (by decide +kernel), List.mem_of_getElem? (i := 1223) (by decide +kernel)⟩
theorem lw_p69 : lw_okq (⟨"YesNoClonesModel", "isAbove", "(II)Z"⟩, 26) := ⟨⟨by decide +kernel, by decide +kernel⟩, List.mem_of_getElem? (i := 906) (by decide +kernel), List.mem_of_getElem? (i := 1226) (by decide +kernel), List.mem_of_getElem? (i := 1227) (by decide +kernel)⟩
theorem lw_p70 : lw_okq (⟨"YesNoClonesModel", "rankOf", "(I)I"⟩, 26) := ⟨⟨by decide +kernel, by decide +kernel⟩, List.mem_of_getElem? (i := 906) (by decide +kernel), List.mem_of_getElem? (i := 1230) (by decide +kernel), List.mem_of_getElem? (i := 1231) (by decide +kernel)⟩
theorem lw_p71 : lw_okq (⟨"YesNoClonesModel", "growRanks", "(I)V"⟩, 26) := ⟨⟨by decide +kernel, by decide +kernel⟩, List.mem_of_getElem? (i := 906) (by decide +kernel), List.mem_of_getElem? (i := 1234) (by decide +kernel), List.mem_of_getElem? (i := 1235) (by decide +kernel)⟩
theorem lw_p72 : lw_okq (⟨"YesNoClonesModel", "beside", "(IIZ)I"⟩, 26) := ⟨⟨by decide +kernel, by decide +kernel⟩, List.mem_of_getElem? (i := 906) (by decide +kernel), List.mem_of_getElem? (i := 1242) (by decide +kernel), List.mem_of_getElem? (i := 1243) (by decide +kernel)⟩
theorem lw_p73 : lw_okq (⟨"YesNoClonesModel", "draw", "(I)I"⟩, 26) := ⟨⟨by decide +kernel, by decide +kernel⟩, List.mem_of_getElem? (i := 906) (by decide +kernel), List.mem_of_getElem? (i := 1297) (by decide +kernel), List.mem_of_getElem? (i := 1298) (by decide +kernel)⟩
def lw_privs_5 : List (MethodName × Nat) := [(⟨"YesNoClonesModel", "costNow", "(I)I"⟩, 26), (⟨"YesNoClonesModel", "isPlace", "(I)Z"⟩, 26), (⟨"YesNoClonesModel", "inside", "(I)I"⟩, 26), (⟨"YesNoClonesModel", "neighbour", "(IIZ)I"⟩, 26), (⟨"YesNoClonesModel", "isJustAbove", "(II)Z"⟩, 26), (⟨"YesNoClonesModel", "isAbove", "(II)Z"⟩, 26), (⟨"YesNoClonesModel", "rankOf", "(I)I"⟩, 26), (⟨"YesNoClonesModel", "growRanks", "(I)V"⟩, 26), (⟨"YesNoClonesModel", "beside", "(IIZ)I"⟩, 26), (⟨"YesNoClonesModel", "draw", "(I)I"⟩, 26)]
theorem lw_r5 : ∀ q ∈ lw_privs_5, lw_okq q := List.forall_mem_cons.mpr ⟨lw_p64, List.forall_mem_cons.mpr ⟨lw_p65, List.forall_mem_cons.mpr ⟨lw_p66, List.forall_mem_cons.mpr ⟨lw_p67, List.forall_mem_cons.mpr ⟨lw_p68, List.forall_mem_cons.mpr ⟨lw_p69, List.forall_mem_cons.mpr ⟨lw_p70, List.forall_mem_cons.mpr ⟨lw_p71, List.forall_mem_cons.mpr ⟨lw_p72, List.forall_mem_cons.mpr ⟨lw_p73, fun _ h => absurd h List.not_mem_nil⟩⟩⟩⟩⟩⟩⟩⟩⟩⟩
def lw_privs : List (MethodName × Nat) := lw_privs_1 ++ (lw_privs_2 ++ (lw_privs_3 ++ (lw_privs_4 ++ (lw_privs_5))))
def lw_tbl : List Cond := k2_sels lw_privs ++ tables_1
theorem lw_privs_ok : ∀ q ∈ lw_privs, lw_okq q := by
  show ∀ q ∈ lw_privs_1 ++ (lw_privs_2 ++ (lw_privs_3 ++ (lw_privs_4 ++ (lw_privs_5)))), lw_okq q
  exact List.forall_mem_append.mpr ⟨lw_r1, List.forall_mem_append.mpr ⟨lw_r2, List.forall_mem_append.mpr ⟨lw_r3, List.forall_mem_append.mpr ⟨lw_r4, lw_r5⟩⟩⟩⟩
-- ===== end of PART A
/-! ===== BEGIN printed: names, fields, word lists, decode rows ===== -/
def RX0 : String := "YesNoClones$Book"
def TX0 : u_T := fun k => match k with
  | 0 => ("YesNoClones$Book", "codes", "[I", true)
  | 1 => ("YesNoClones$Book", "values", "[I", true)
  | _ => ("YesNoClones$Book", "size", "I", false)
def tyX0 : Nat → FieldType := fun k => match k with
  | 0 => .array .int
  | 1 => .array .int
  | _ => .int
abbrev wsX00 : List Cond := u_ws RX0 TX0 3
theorem nmX0 : ∀ a, a < 3 → ∀ b, b < 3 → a ≠ b → (TX0 a).2.1 ≠ (TX0 b).2.1 := by decide +kernel
theorem tyX0_ok : ∀ k, k < 3 → parseFieldDescriptor (TX0 k).2.2.1 = some (tyX0 k) := by decide +kernel
abbrev cX0_init : ByteArray := prog_2_method_1_code
def yX0_init : MethodName := ⟨RX0, "<init>", "()V"⟩
abbrev cX0_size : ByteArray := prog_2_method_2_code
def yX0_size : MethodName := ⟨RX0, "size", "()I"⟩
abbrev cX0_clear : ByteArray := prog_2_method_3_code
def yX0_clear : MethodName := ⟨RX0, "clear", "()V"⟩
abbrev cX0_add : ByteArray := prog_2_method_4_code
def yX0_add : MethodName := ⟨RX0, "add", "(II)Z"⟩
abbrev cX0_firstWrong : ByteArray := prog_2_method_5_code
def yX0_firstWrong : MethodName := ⟨RX0, "firstWrong", "(LYesNoClones$Costs;)I"⟩
def RX1 : String := "YesNoClones$Codes"
def TX1 : u_T := fun k => match k with
  | _ => ("", "", "", false)
def tyX1 : Nat → FieldType := fun k => match k with
  | _ => .int
abbrev wsX10 : List Cond := u_ws RX1 TX1 0
theorem nmX1 : ∀ a, a < 0 → ∀ b, b < 0 → a ≠ b → (TX1 a).2.1 ≠ (TX1 b).2.1 := by decide +kernel
theorem tyX1_ok : ∀ k, k < 0 → parseFieldDescriptor (TX1 k).2.2.1 = some (tyX1 k) := by decide +kernel
abbrev cX1_tells : ByteArray := prog_3_method_2_code
def yX1_tells : MethodName := ⟨RX1, "tells", "(II)I"⟩
abbrev cX1_isWithin : ByteArray := prog_3_method_3_code
def yX1_isWithin : MethodName := ⟨RX1, "isWithin", "(II)Z"⟩
abbrev cX1_bitOf : ByteArray := prog_3_method_4_code
def yX1_bitOf : MethodName := ⟨RX1, "bitOf", "(I)I"⟩
abbrev cX1_putOn : ByteArray := prog_3_method_5_code
def yX1_putOn : MethodName := ⟨RX1, "putOn", "(IIII)I"⟩
abbrev cX1_putOnBits : ByteArray := prog_3_method_6_code
def yX1_putOnBits : MethodName := ⟨RX1, "putOnBits", "(IIIII)I"⟩
abbrev cX1_turnedOver : ByteArray := prog_3_method_7_code
def yX1_turnedOver : MethodName := ⟨RX1, "turnedOver", "(I)I"⟩
abbrev cX1_hangsOn : ByteArray := prog_3_method_8_code
def yX1_hangsOn : MethodName := ⟨RX1, "hangsOn", "(II)Z"⟩
abbrev cX1_variablesOf : ByteArray := prog_3_method_9_code
def yX1_variablesOf : MethodName := ⟨RX1, "variablesOf", "(I)I"⟩
abbrev cX1_arityOf : ByteArray := prog_3_method_10_code
def yX1_arityOf : MethodName := ⟨RX1, "arityOf", "(I)I"⟩
abbrev cX1_sumOf : ByteArray := prog_3_method_11_code
def yX1_sumOf : MethodName := ⟨RX1, "sumOf", "(I)I"⟩
def RX2 : String := "YesNoClones$Costs"
def TX2 : u_T := fun k => match k with
  | 0 => ("YesNoClones$Costs", "costs", "[I", true)
  | 1 => ("YesNoClones$Costs", "tops", "[I", true)
  | 2 => ("YesNoClones$Costs", "byCost", "[I", true)
  | 3 => ("YesNoClones$Costs", "starts", "[I", true)
  | 4 => ("YesNoClones$Costs", "missing", "[I", true)
  | 5 => ("YesNoClones$Costs", "aims", "[I", true)
  | 6 => ("YesNoClones$Costs", "baseCodes", "[I", true)
  | 7 => ("YesNoClones$Costs", "putting", "LYesNoClones$Putting;", true)
  | 8 => ("YesNoClones$Costs", "baseSet", "I", false)
  | 9 => ("YesNoClones$Costs", "listed", "I", false)
  | 10 => ("YesNoClones$Costs", "missingCount", "I", false)
  | 11 => ("YesNoClones$Costs", "aimCount", "I", false)
  | 12 => ("YesNoClones$Costs", "level", "I", false)
  | 13 => ("YesNoClones$Costs", "greatest", "I", false)
  | _ => ("YesNoClones$Costs", "top", "I", false)
def tyX2 : Nat → FieldType := fun k => match k with
  | 0 => .array .int
  | 1 => .array .int
  | 2 => .array .int
  | 3 => .array .int
  | 4 => .array .int
  | 5 => .array .int
  | 6 => .array .int
  | 7 => .object "YesNoClones$Putting"
  | 8 => .int
  | 9 => .int
  | 10 => .int
  | 11 => .int
  | 12 => .int
  | 13 => .int
  | _ => .int
abbrev wsX20 : List Cond := u_ws RX2 TX2 15
theorem nmX2 : ∀ a, a < 15 → ∀ b, b < 15 → a ≠ b → (TX2 a).2.1 ≠ (TX2 b).2.1 := by decide +kernel
theorem tyX2_ok : ∀ k, k < 15 → parseFieldDescriptor (TX2 k).2.2.1 = some (tyX2 k) := by decide +kernel
abbrev cX2_init : ByteArray := prog_4_method_1_code
def yX2_init : MethodName := ⟨RX2, "<init>", "()V"⟩
abbrev cX2_areOf : ByteArray := prog_4_method_2_code
def yX2_areOf : MethodName := ⟨RX2, "areOf", "(LYesNoClones$Shelf;)Z"⟩
abbrev cX2_reckon : ByteArray := prog_4_method_3_code
def yX2_reckon : MethodName := ⟨RX2, "reckon", "(LYesNoClones$Shelf;LYesNoClones$Places;I)V"⟩
abbrev cX2_start : ByteArray := prog_4_method_4_code
def yX2_start : MethodName := ⟨RX2, "start", "(LYesNoClones$Shelf;)V"⟩
abbrev cX2_miss : ByteArray := prog_4_method_5_code
def yX2_miss : MethodName := ⟨RX2, "miss", "(LYesNoClones$Places;I)V"⟩
abbrev cX2_dropMade : ByteArray := prog_4_method_6_code
def yX2_dropMade : MethodName := ⟨RX2, "dropMade", "()V"⟩
abbrev cX2_settle : ByteArray := prog_4_method_7_code
def yX2_settle : MethodName := ⟨RX2, "settle", "()V"⟩
abbrev cX2_tryTop : ByteArray := prog_4_method_8_code
def yX2_tryTop : MethodName := ⟨RX2, "tryTop", "(II)V"⟩
abbrev cX2_aim : ByteArray := prog_4_method_9_code
def yX2_aim : MethodName := ⟨RX2, "aim", "()V"⟩
abbrev cX2_trySeconds : ByteArray := prog_4_method_10_code
def yX2_trySeconds : MethodName := ⟨RX2, "trySeconds", "(I)V"⟩
abbrev cX2_tryThirds : ByteArray := prog_4_method_11_code
def yX2_tryThirds : MethodName := ⟨RX2, "tryThirds", "(II)V"⟩
abbrev cX2_someThird : ByteArray := prog_4_method_12_code
def yX2_someThird : MethodName := ⟨RX2, "someThird", "(III)Z"⟩
abbrev cX2_make : ByteArray := prog_4_method_13_code
def yX2_make : MethodName := ⟨RX2, "make", "(I)V"⟩
abbrev cX2_partsFrom : ByteArray := prog_4_method_14_code
def yX2_partsFrom : MethodName := ⟨RX2, "partsFrom", "(IZ)I"⟩
abbrev cX2_partsTo : ByteArray := prog_4_method_15_code
def yX2_partsTo : MethodName := ⟨RX2, "partsTo", "(IZ)I"⟩
abbrev cX2_madeAt : ByteArray := prog_4_method_16_code
def yX2_madeAt : MethodName := ⟨RX2, "madeAt", "(I)I"⟩
abbrev cX2_madeCount : ByteArray := prog_4_method_17_code
def yX2_madeCount : MethodName := ⟨RX2, "madeCount", "()I"⟩
abbrev cX2_greatestCost : ByteArray := prog_4_method_18_code
def yX2_greatestCost : MethodName := ⟨RX2, "greatestCost", "()I"⟩
abbrev cX2_leastCodeCosting : ByteArray := prog_4_method_19_code
def yX2_leastCodeCosting : MethodName := ⟨RX2, "leastCodeCosting", "(I)I"⟩
abbrev cX2_countCosting : ByteArray := prog_4_method_20_code
def yX2_countCosting : MethodName := ⟨RX2, "countCosting", "(I)I"⟩
abbrev cX2_isMade : ByteArray := prog_4_method_21_code
def yX2_isMade : MethodName := ⟨RX2, "isMade", "(I)Z"⟩
abbrev cX2_costOf : ByteArray := prog_4_method_22_code
def yX2_costOf : MethodName := ⟨RX2, "costOf", "(I)I"⟩
abbrev cX2_topOf : ByteArray := prog_4_method_23_code
def yX2_topOf : MethodName := ⟨RX2, "topOf", "(I)I"⟩
abbrev cX2_topCodeOf : ByteArray := prog_4_method_24_code
def yX2_topCodeOf : MethodName := ⟨RX2, "topCodeOf", "(I)I"⟩
def RX3 : String := "YesNoClones$Formula"
def TX3 : u_T := fun k => match k with
  | 0 => ("YesNoClones$Formula", "text", "[I", true)
  | 1 => ("YesNoClones$Formula", "stack", "[I", true)
  | 2 => ("YesNoClones$Formula", "size", "I", false)
  | 3 => ("YesNoClones$Formula", "depth", "I", false)
  | _ => ("YesNoClones$Formula", "reached", "I", false)
def tyX3 : Nat → FieldType := fun k => match k with
  | 0 => .array .int
  | 1 => .array .int
  | 2 => .int
  | 3 => .int
  | _ => .int
abbrev wsX30 : List Cond := u_ws RX3 TX3 5
theorem nmX3 : ∀ a, a < 5 → ∀ b, b < 5 → a ≠ b → (TX3 a).2.1 ≠ (TX3 b).2.1 := by decide +kernel
theorem tyX3_ok : ∀ k, k < 5 → parseFieldDescriptor (TX3 k).2.2.1 = some (tyX3 k) := by decide +kernel
abbrev cX3_init : ByteArray := prog_5_method_1_code
def yX3_init : MethodName := ⟨RX3, "<init>", "()V"⟩
abbrev cX3_size : ByteArray := prog_5_method_2_code
def yX3_size : MethodName := ⟨RX3, "size", "()I"⟩
abbrev cX3_clear : ByteArray := prog_5_method_3_code
def yX3_clear : MethodName := ⟨RX3, "clear", "()V"⟩
abbrev cX3_type : ByteArray := prog_5_method_4_code
def yX3_type : MethodName := ⟨RX3, "type", "(I)Z"⟩
abbrev cX3_reached : ByteArray := prog_5_method_5_code
def yX3_reached : MethodName := ⟨RX3, "reached", "()I"⟩
abbrev cX3_firstFault : ByteArray := prog_5_method_6_code
def yX3_firstFault : MethodName := ⟨RX3, "firstFault", "(I)I"⟩
abbrev cX3_faultOf : ByteArray := prog_5_method_7_code
def yX3_faultOf : MethodName := ⟨RX3, "faultOf", "(II)I"⟩
abbrev cX3_value : ByteArray := prog_5_method_8_code
def yX3_value : MethodName := ⟨RX3, "value", "(LYesNoClones$Shelf;)I"⟩
abbrev cX3_push : ByteArray := prog_5_method_9_code
def yX3_push : MethodName := ⟨RX3, "push", "(I)V"⟩
abbrev cX3_pop : ByteArray := prog_5_method_10_code
def yX3_pop : MethodName := ⟨RX3, "pop", "()I"⟩
abbrev cX3_isFunction : ByteArray := prog_5_method_11_code
def yX3_isFunction : MethodName := ⟨RX3, "isFunction", "(I)Z"⟩
abbrev cX3_bound : ByteArray := prog_5_method_12_code
def yX3_bound : MethodName := ⟨RX3, "bound", "(I)I"⟩
abbrev cX3_codeOf : ByteArray := prog_5_method_13_code
def yX3_codeOf : MethodName := ⟨RX3, "codeOf", "(I)I"⟩
def RX4 : String := "YesNoClones$Past"
def TX4 : u_T := fun k => match k with
  | 0 => ("YesNoClones$Past", "sizes", "[I", true)
  | 1 => ("YesNoClones$Past", "sets", "[I", true)
  | 2 => ("YesNoClones$Past", "codes", "[I", true)
  | 3 => ("YesNoClones$Past", "size", "I", false)
  | _ => ("YesNoClones$Past", "next", "I", false)
def tyX4 : Nat → FieldType := fun k => match k with
  | 0 => .array .int
  | 1 => .array .int
  | 2 => .array .int
  | 3 => .int
  | _ => .int
abbrev wsX40 : List Cond := u_ws RX4 TX4 5
theorem nmX4 : ∀ a, a < 5 → ∀ b, b < 5 → a ≠ b → (TX4 a).2.1 ≠ (TX4 b).2.1 := by decide +kernel
theorem tyX4_ok : ∀ k, k < 5 → parseFieldDescriptor (TX4 k).2.2.1 = some (tyX4 k) := by decide +kernel
abbrev cX4_init : ByteArray := prog_6_method_1_code
def yX4_init : MethodName := ⟨RX4, "<init>", "()V"⟩
abbrev cX4_size : ByteArray := prog_6_method_2_code
def yX4_size : MethodName := ⟨RX4, "size", "()I"⟩
abbrev cX4_push : ByteArray := prog_6_method_3_code
def yX4_push : MethodName := ⟨RX4, "push", "(LYesNoClones$Shelf;)V"⟩
abbrev cX4_goBackBy : ByteArray := prog_6_method_4_code
def yX4_goBackBy : MethodName := ⟨RX4, "goBackBy", "(ILYesNoClones$Shelf;)Z"⟩
abbrev cX4_saveImage : ByteArray := prog_6_method_5_code
def yX4_saveImage : MethodName := ⟨RX4, "saveImage", "(ILYesNoClones$Shelf;)V"⟩
abbrev cX4_loadImage : ByteArray := prog_6_method_6_code
def yX4_loadImage : MethodName := ⟨RX4, "loadImage", "(ILYesNoClones$Shelf;)V"⟩
abbrev cX4_save : ByteArray := prog_6_method_7_code
def yX4_save : MethodName := ⟨RX4, "save", "(ILYesNoClones$Shelf;)V"⟩
abbrev cX4_load : ByteArray := prog_6_method_8_code
def yX4_load : MethodName := ⟨RX4, "load", "(ILYesNoClones$Shelf;)V"⟩
def RX5 : String := "YesNoClones$Places"
def TX5 : u_T := fun k => match k with
  | 0 => ("YesNoClones$Places", "traits", "[I", true)
  | 1 => ("YesNoClones$Places", "sets", "[I", true)
  | 2 => ("YesNoClones$Places", "numbers", "[I", true)
  | 3 => ("YesNoClones$Places", "ranks", "[I", true)
  | _ => ("YesNoClones$Places", "count", "I", false)
def tyX5 : Nat → FieldType := fun k => match k with
  | 0 => .array .int
  | 1 => .array .int
  | 2 => .array .int
  | 3 => .array .int
  | _ => .int
abbrev wsX50 : List Cond := u_ws RX5 TX5 5
theorem nmX5 : ∀ a, a < 5 → ∀ b, b < 5 → a ≠ b → (TX5 a).2.1 ≠ (TX5 b).2.1 := by decide +kernel
theorem tyX5_ok : ∀ k, k < 5 → parseFieldDescriptor (TX5 k).2.2.1 = some (tyX5 k) := by decide +kernel
abbrev cX5_init : ByteArray := prog_7_method_1_code
def yX5_init : MethodName := ⟨RX5, "<init>", "()V"⟩
abbrev cX5_findSets : ByteArray := prog_7_method_2_code
def yX5_findSets : MethodName := ⟨RX5, "findSets", "()V"⟩
abbrev cX5_numberSets : ByteArray := prog_7_method_3_code
def yX5_numberSets : MethodName := ⟨RX5, "numberSets", "()V"⟩
abbrev cX5_count : ByteArray := prog_7_method_4_code
def yX5_count : MethodName := ⟨RX5, "count", "()I"⟩
abbrev cX5_holds : ByteArray := prog_7_method_5_code
def yX5_holds : MethodName := ⟨RX5, "holds", "(I)Z"⟩
abbrev cX5_traitsOf : ByteArray := prog_7_method_6_code
def yX5_traitsOf : MethodName := ⟨RX5, "traitsOf", "(I)I"⟩
abbrev cX5_setOf : ByteArray := prog_7_method_7_code
def yX5_setOf : MethodName := ⟨RX5, "setOf", "(I)I"⟩
abbrev cX5_numberOf : ByteArray := prog_7_method_8_code
def yX5_numberOf : MethodName := ⟨RX5, "numberOf", "(I)I"⟩
abbrev cX5_rankOf : ByteArray := prog_7_method_9_code
def yX5_rankOf : MethodName := ⟨RX5, "rankOf", "(I)I"⟩
abbrev cX5_isIn : ByteArray := prog_7_method_10_code
def yX5_isIn : MethodName := ⟨RX5, "isIn", "(II)Z"⟩
abbrev cX5_countIn : ByteArray := prog_7_method_11_code
def yX5_countIn : MethodName := ⟨RX5, "countIn", "(I)I"⟩
abbrev cX5_closureOf : ByteArray := prog_7_method_12_code
def yX5_closureOf : MethodName := ⟨RX5, "closureOf", "(I)I"⟩
abbrev cX5_countNext : ByteArray := prog_7_method_13_code
def yX5_countNext : MethodName := ⟨RX5, "countNext", "(IZ)I"⟩
abbrev cX5_next : ByteArray := prog_7_method_14_code
def yX5_next : MethodName := ⟨RX5, "next", "(IIZ)I"⟩
abbrev cX5_isNext : ByteArray := prog_7_method_15_code
def yX5_isNext : MethodName := ⟨RX5, "isNext", "(IIZ)Z"⟩
abbrev cX5_isJustAbove : ByteArray := prog_7_method_16_code
def yX5_isJustAbove : MethodName := ⟨RX5, "isJustAbove", "(II)Z"⟩
abbrev cX5_isAbove : ByteArray := prog_7_method_17_code
def yX5_isAbove : MethodName := ⟨RX5, "isAbove", "(II)Z"⟩
def RX6 : String := "YesNoClones$Putting"
def TX6 : u_T := fun k => match k with
  | 0 => ("YesNoClones$Putting", "function", "I", false)
  | 1 => ("YesNoClones$Putting", "variables", "I", false)
  | 2 => ("YesNoClones$Putting", "arity", "I", false)
  | 3 => ("YesNoClones$Putting", "cases", "[I", true)
  | 4 => ("YesNoClones$Putting", "low", "I", false)
  | _ => ("YesNoClones$Putting", "turns", "I", false)
def tyX6 : Nat → FieldType := fun k => match k with
  | 0 => .int
  | 1 => .int
  | 2 => .int
  | 3 => .array .int
  | 4 => .int
  | _ => .int
abbrev wsX60 : List Cond := u_ws RX6 TX6 6
theorem nmX6 : ∀ a, a < 6 → ∀ b, b < 6 → a ≠ b → (TX6 a).2.1 ≠ (TX6 b).2.1 := by decide +kernel
theorem tyX6_ok : ∀ k, k < 6 → parseFieldDescriptor (TX6 k).2.2.1 = some (tyX6 k) := by decide +kernel
abbrev cX6_init : ByteArray := prog_8_method_1_code
def yX6_init : MethodName := ⟨RX6, "<init>", "()V"⟩
abbrev cX6_begin : ByteArray := prog_8_method_2_code
def yX6_begin : MethodName := ⟨RX6, "begin", "(I)V"⟩
abbrev cX6_arity : ByteArray := prog_8_method_3_code
def yX6_arity : MethodName := ⟨RX6, "arity", "()I"⟩
abbrev cX6_hangsOn : ByteArray := prog_8_method_4_code
def yX6_hangsOn : MethodName := ⟨RX6, "hangsOn", "(I)Z"⟩
abbrev cX6_first : ByteArray := prog_8_method_5_code
def yX6_first : MethodName := ⟨RX6, "first", "(I)V"⟩
abbrev cX6_mayBecome : ByteArray := prog_8_method_6_code
def yX6_mayBecome : MethodName := ⟨RX6, "mayBecome", "(I)Z"⟩
abbrev cX6_second : ByteArray := prog_8_method_7_code
def yX6_second : MethodName := ⟨RX6, "second", "(I)V"⟩
abbrev cX6_canBecome : ByteArray := prog_8_method_8_code
def yX6_canBecome : MethodName := ⟨RX6, "canBecome", "(I)Z"⟩
abbrev cX6_third : ByteArray := prog_8_method_9_code
def yX6_third : MethodName := ⟨RX6, "third", "(I)I"⟩
abbrev cX6_spread : ByteArray := prog_8_method_10_code
def yX6_spread : MethodName := ⟨RX6, "spread", "(I)I"⟩
abbrev cX6_choose : ByteArray := prog_8_method_11_code
def yX6_choose : MethodName := ⟨RX6, "choose", "(III)I"⟩
def RX7 : String := "YesNoClones$Relations"
def TX7 : u_T := fun k => match k with
  | _ => ("", "", "", false)
def tyX7 : Nat → FieldType := fun k => match k with
  | _ => .int
abbrev wsX70 : List Cond := u_ws RX7 TX7 0
theorem nmX7 : ∀ a, a < 0 → ∀ b, b < 0 → a ≠ b → (TX7 a).2.1 ≠ (TX7 b).2.1 := by decide +kernel
theorem tyX7_ok : ∀ k, k < 0 → parseFieldDescriptor (TX7 k).2.2.1 = some (tyX7 k) := by decide +kernel
abbrev cX7_isRelation : ByteArray := prog_9_method_2_code
def yX7_isRelation : MethodName := ⟨RX7, "isRelation", "(II)Z"⟩
abbrev cX7_isKeptBy : ByteArray := prog_9_method_3_code
def yX7_isKeptBy : MethodName := ⟨RX7, "isKeptBy", "(III)Z"⟩
abbrev cX7_has : ByteArray := prog_9_method_4_code
def yX7_has : MethodName := ⟨RX7, "has", "(II)Z"⟩
def RX8 : String := "YesNoClones$Shelf"
def TX8 : u_T := fun k => match k with
  | 0 => ("YesNoClones$Shelf", "codes", "[I", true)
  | 1 => ("YesNoClones$Shelf", "size", "I", false)
  | _ => ("YesNoClones$Shelf", "chosen", "I", false)
def tyX8 : Nat → FieldType := fun k => match k with
  | 0 => .array .int
  | 1 => .int
  | _ => .int
abbrev wsX80 : List Cond := u_ws RX8 TX8 3
theorem nmX8 : ∀ a, a < 3 → ∀ b, b < 3 → a ≠ b → (TX8 a).2.1 ≠ (TX8 b).2.1 := by decide +kernel
theorem tyX8_ok : ∀ k, k < 3 → parseFieldDescriptor (TX8 k).2.2.1 = some (tyX8 k) := by decide +kernel
abbrev cX8_init : ByteArray := prog_10_method_1_code
def yX8_init : MethodName := ⟨RX8, "<init>", "()V"⟩
abbrev cX8_size : ByteArray := prog_10_method_2_code
def yX8_size : MethodName := ⟨RX8, "size", "()I"⟩
abbrev cX8_isFull : ByteArray := prog_10_method_3_code
def yX8_isFull : MethodName := ⟨RX8, "isFull", "()Z"⟩
abbrev cX8_holds : ByteArray := prog_10_method_4_code
def yX8_holds : MethodName := ⟨RX8, "holds", "(I)Z"⟩
abbrev cX8_codeAt : ByteArray := prog_10_method_5_code
def yX8_codeAt : MethodName := ⟨RX8, "codeAt", "(I)I"⟩
abbrev cX8_chosenSet : ByteArray := prog_10_method_6_code
def yX8_chosenSet : MethodName := ⟨RX8, "chosenSet", "()I"⟩
abbrev cX8_isChosen : ByteArray := prog_10_method_7_code
def yX8_isChosen : MethodName := ⟨RX8, "isChosen", "(I)Z"⟩
abbrev cX8_add : ByteArray := prog_10_method_8_code
def yX8_add : MethodName := ⟨RX8, "add", "(I)I"⟩
abbrev cX8_change : ByteArray := prog_10_method_9_code
def yX8_change : MethodName := ⟨RX8, "change", "(II)V"⟩
abbrev cX8_remove : ByteArray := prog_10_method_10_code
def yX8_remove : MethodName := ⟨RX8, "remove", "(I)V"⟩
abbrev cX8_choose : ByteArray := prog_10_method_11_code
def yX8_choose : MethodName := ⟨RX8, "choose", "(I)V"⟩
abbrev cX8_restart : ByteArray := prog_10_method_12_code
def yX8_restart : MethodName := ⟨RX8, "restart", "(I)V"⟩
def RX9 : String := "YesNoClones$Traits"
def TX9 : u_T := fun k => match k with
  | _ => ("", "", "", false)
def tyX9 : Nat → FieldType := fun k => match k with
  | _ => .int
abbrev wsX90 : List Cond := u_ws RX9 TX9 0
theorem nmX9 : ∀ a, a < 0 → ∀ b, b < 0 → a ≠ b → (TX9 a).2.1 ≠ (TX9 b).2.1 := by decide +kernel
theorem tyX9_ok : ∀ k, k < 0 → parseFieldDescriptor (TX9 k).2.2.1 = some (tyX9 k) := by decide +kernel
abbrev cX9_of : ByteArray := prog_11_method_2_code
def yX9_of : MethodName := ⟨RX9, "of", "(I)I"⟩
abbrev cX9_firstFail : ByteArray := prog_11_method_3_code
def yX9_firstFail : MethodName := ⟨RX9, "firstFail", "(II)I"⟩
abbrev cX9_firstFall : ByteArray := prog_11_method_4_code
def yX9_firstFall : MethodName := ⟨RX9, "firstFall", "(I)I"⟩
abbrev cX9_firstLikeness : ByteArray := prog_11_method_5_code
def yX9_firstLikeness : MethodName := ⟨RX9, "firstLikeness", "(I)I"⟩
abbrev cX9_firstProduct : ByteArray := prog_11_method_6_code
def yX9_firstProduct : MethodName := ⟨RX9, "firstProduct", "(I)I"⟩
abbrev cX9_firstUnlikeBoth : ByteArray := prog_11_method_7_code
def yX9_firstUnlikeBoth : MethodName := ⟨RX9, "firstUnlikeBoth", "(I)I"⟩
abbrev cX9_firstUnlikeEither : ByteArray := prog_11_method_8_code
def yX9_firstUnlikeEither : MethodName := ⟨RX9, "firstUnlikeEither", "(I)I"⟩
abbrev cX9_firstTwoVariables : ByteArray := prog_11_method_9_code
def yX9_firstTwoVariables : MethodName := ⟨RX9, "firstTwoVariables", "(I)I"⟩
abbrev cX9_firstStrangers : ByteArray := prog_11_method_10_code
def yX9_firstStrangers : MethodName := ⟨RX9, "firstStrangers", "(IIZ)I"⟩
abbrev cX9_firstThird : ByteArray := prog_11_method_11_code
def yX9_firstThird : MethodName := ⟨RX9, "firstThird", "(IIII)I"⟩
abbrev cX9_areStrangers : ByteArray := prog_11_method_12_code
def yX9_areStrangers : MethodName := ⟨RX9, "areStrangers", "(IIII)Z"⟩
def RX10 : String := "YesNoClones$Ways"
def TX10 : u_T := fun k => match k with
  | 0 => ("YesNoClones$Ways", "costs", "LYesNoClones$Costs;", true)
  | 1 => ("YesNoClones$Ways", "putting", "LYesNoClones$Putting;", true)
  | 2 => ("YesNoClones$Ways", "parts", "[I", true)
  | 3 => ("YesNoClones$Ways", "known", "[Z", true)
  | 4 => ("YesNoClones$Ways", "needed", "[Z", true)
  | _ => ("YesNoClones$Ways", "lengths", "[I", true)
def tyX10 : Nat → FieldType := fun k => match k with
  | 0 => .object "YesNoClones$Costs"
  | 1 => .object "YesNoClones$Putting"
  | 2 => .array .int
  | 3 => .array .boolean
  | 4 => .array .boolean
  | _ => .array .int
abbrev wsX100 : List Cond := u_ws RX10 TX10 6
theorem nmX10 : ∀ a, a < 6 → ∀ b, b < 6 → a ≠ b → (TX10 a).2.1 ≠ (TX10 b).2.1 := by decide +kernel
theorem tyX10_ok : ∀ k, k < 6 → parseFieldDescriptor (TX10 k).2.2.1 = some (tyX10 k) := by decide +kernel
abbrev cX10_init : ByteArray := prog_12_method_1_code
def yX10_init : MethodName := ⟨RX10, "<init>", "()V"⟩
abbrev cX10_costs : ByteArray := prog_12_method_2_code
def yX10_costs : MethodName := ⟨RX10, "costs", "()LYesNoClones$Costs;"⟩
abbrev cX10_forget : ByteArray := prog_12_method_3_code
def yX10_forget : MethodName := ⟨RX10, "forget", "()V"⟩
abbrev cX10_partOf : ByteArray := prog_12_method_4_code
def yX10_partOf : MethodName := ⟨RX10, "partOf", "(II)I"⟩
abbrev cX10_knownPart : ByteArray := prog_12_method_5_code
def yX10_knownPart : MethodName := ⟨RX10, "knownPart", "(II)I"⟩
abbrev cX10_lookFor : ByteArray := prog_12_method_6_code
def yX10_lookFor : MethodName := ⟨RX10, "lookFor", "(I)V"⟩
abbrev cX10_lookForSecond : ByteArray := prog_12_method_7_code
def yX10_lookForSecond : MethodName := ⟨RX10, "lookForSecond", "(III)Z"⟩
abbrev cX10_third : ByteArray := prog_12_method_8_code
def yX10_third : MethodName := ⟨RX10, "third", "(II)I"⟩
abbrev cX10_isPart : ByteArray := prog_12_method_9_code
def yX10_isPart : MethodName := ⟨RX10, "isPart", "(III)Z"⟩
abbrev cX10_know : ByteArray := prog_12_method_10_code
def yX10_know : MethodName := ⟨RX10, "know", "(IIII)V"⟩
abbrev cX10_lengthOf : ByteArray := prog_12_method_11_code
def yX10_lengthOf : MethodName := ⟨RX10, "lengthOf", "(I)I"⟩
abbrev cX10_needParts : ByteArray := prog_12_method_12_code
def yX10_needParts : MethodName := ⟨RX10, "needParts", "(I)V"⟩
abbrev cX10_measure : ByteArray := prog_12_method_13_code
def yX10_measure : MethodName := ⟨RX10, "measure", "(I)V"⟩
abbrev cX10_partLength : ByteArray := prog_12_method_14_code
def yX10_partLength : MethodName := ⟨RX10, "partLength", "(II)I"⟩
abbrev cX10_letterOf : ByteArray := prog_12_method_15_code
def yX10_letterOf : MethodName := ⟨RX10, "letterOf", "(II)I"⟩
abbrev cX10_firstLetterOf : ByteArray := prog_12_method_16_code
def yX10_firstLetterOf : MethodName := ⟨RX10, "firstLetterOf", "(I)I"⟩
def RX11 : String := "YesNoClones"
def TX11 : u_T := fun k => match k with
  | 0 => ("YesNoClones", "formula", "LYesNoClones$Formula;", true)
  | 1 => ("YesNoClones", "places", "LYesNoClones$Places;", true)
  | 2 => ("YesNoClones", "ways", "LYesNoClones$Ways;", true)
  | 3 => ("YesNoClones", "book", "LYesNoClones$Book;", true)
  | 4 => ("YesNoClones", "shelf", "LYesNoClones$Shelf;", true)
  | 5 => ("YesNoClones", "past", "LYesNoClones$Past;", true)
  | 6 => ("YesNoClones", "imageSeeds", "[I", true)
  | 7 => ("YesNoClones", "imageKept", "[Z", true)
  | 8 => ("YesNoClones", "seedNow", "I", false)
  | _ => ("YesNoClones", "faultPlace", "I", false)
def tyX11 : Nat → FieldType := fun k => match k with
  | 0 => .object "YesNoClones$Formula"
  | 1 => .object "YesNoClones$Places"
  | 2 => .object "YesNoClones$Ways"
  | 3 => .object "YesNoClones$Book"
  | 4 => .object "YesNoClones$Shelf"
  | 5 => .object "YesNoClones$Past"
  | 6 => .array .int
  | 7 => .array .boolean
  | 8 => .int
  | _ => .int
abbrev wsX110 : List Cond := u_ws RX11 TX11 10
theorem nmX11 : ∀ a, a < 10 → ∀ b, b < 10 → a ≠ b → (TX11 a).2.1 ≠ (TX11 b).2.1 := by decide +kernel
theorem tyX11_ok : ∀ k, k < 10 → parseFieldDescriptor (TX11 k).2.2.1 = some (tyX11 k) := by decide +kernel
abbrev cX11_init : ByteArray := prog_1_method_1_code
def yX11_init : MethodName := ⟨RX11, "<init>", "()V"⟩
abbrev cX11_feed : ByteArray := prog_1_method_2_code
def yX11_feed : MethodName := ⟨RX11, "feed", "(I)I"⟩
abbrev cX11_tell : ByteArray := prog_1_method_3_code
def yX11_tell : MethodName := ⟨RX11, "tell", "()I"⟩
abbrev cX11_fault : ByteArray := prog_1_method_4_code
def yX11_fault : MethodName := ⟨RX11, "fault", "()I"⟩
abbrev cX11_told : ByteArray := prog_1_method_5_code
def yX11_told : MethodName := ⟨RX11, "told", "(I)I"⟩
abbrev cX11_function : ByteArray := prog_1_method_6_code
def yX11_function : MethodName := ⟨RX11, "function", "(II)I"⟩
abbrev cX11_fails : ByteArray := prog_1_method_7_code
def yX11_fails : MethodName := ⟨RX11, "fails", "(II)I"⟩
abbrev cX11_cost : ByteArray := prog_1_method_8_code
def yX11_cost : MethodName := ⟨RX11, "cost", "(II)I"⟩
abbrev cX11_spell : ByteArray := prog_1_method_9_code
def yX11_spell : MethodName := ⟨RX11, "spell", "(II)I"⟩
abbrev cX11_costing : ByteArray := prog_1_method_10_code
def yX11_costing : MethodName := ⟨RX11, "costing", "(I)I"⟩
abbrev cX11_place : ByteArray := prog_1_method_11_code
def yX11_place : MethodName := ⟨RX11, "place", "(II)I"⟩
abbrev cX11_above : ByteArray := prog_1_method_12_code
def yX11_above : MethodName := ⟨RX11, "above", "(II)I"⟩
abbrev cX11_below : ByteArray := prog_1_method_13_code
def yX11_below : MethodName := ⟨RX11, "below", "(II)I"⟩
abbrev cX11_meet : ByteArray := prog_1_method_14_code
def yX11_meet : MethodName := ⟨RX11, "meet", "(II)I"⟩
abbrev cX11_join : ByteArray := prog_1_method_15_code
def yX11_join : MethodName := ⟨RX11, "join", "(II)I"⟩
abbrev cX11_relation : ByteArray := prog_1_method_16_code
def yX11_relation : MethodName := ⟨RX11, "relation", "(III)I"⟩
abbrev cX11_keeps : ByteArray := prog_1_method_17_code
def yX11_keeps : MethodName := ⟨RX11, "keeps", "(III)I"⟩
abbrev cX11_put : ByteArray := prog_1_method_18_code
def yX11_put : MethodName := ⟨RX11, "put", "(IIII)I"⟩
abbrev cX11_turn : ByteArray := prog_1_method_19_code
def yX11_turn : MethodName := ⟨RX11, "turn", "(I)I"⟩
abbrev cX11_take : ByteArray := prog_1_method_20_code
def yX11_take : MethodName := ⟨RX11, "take", "(I)I"⟩
abbrev cX11_base : ByteArray := prog_1_method_21_code
def yX11_base : MethodName := ⟨RX11, "base", "(I)I"⟩
abbrev cX11_drift : ByteArray := prog_1_method_22_code
def yX11_drift : MethodName := ⟨RX11, "drift", "(I)I"⟩
abbrev cX11_undo : ByteArray := prog_1_method_23_code
def yX11_undo : MethodName := ⟨RX11, "undo", "(I)I"⟩
abbrev cX11_write : ByteArray := prog_1_method_24_code
def yX11_write : MethodName := ⟨RX11, "write", "(II)I"⟩
abbrev cX11_tear : ByteArray := prog_1_method_25_code
def yX11_tear : MethodName := ⟨RX11, "tear", "()I"⟩
abbrev cX11_seed : ByteArray := prog_1_method_26_code
def yX11_seed : MethodName := ⟨RX11, "seed", "(I)I"⟩
abbrev cX11_keep : ByteArray := prog_1_method_27_code
def yX11_keep : MethodName := ⟨RX11, "keep", "(I)I"⟩
abbrev cX11_goBack : ByteArray := prog_1_method_28_code
def yX11_goBack : MethodName := ⟨RX11, "goBack", "(I)I"⟩
abbrev cX11_isCode : ByteArray := prog_1_method_29_code
def yX11_isCode : MethodName := ⟨RX11, "isCode", "(I)Z"⟩
abbrev cX11_nextPlace : ByteArray := prog_1_method_30_code
def yX11_nextPlace : MethodName := ⟨RX11, "nextPlace", "(IIZ)I"⟩
abbrev cX11_common : ByteArray := prog_1_method_31_code
def yX11_common : MethodName := ⟨RX11, "common", "()I"⟩
abbrev cX11_commonOf : ByteArray := prog_1_method_32_code
def yX11_commonOf : MethodName := ⟨RX11, "commonOf", "(I)I"⟩
abbrev cX11_spare : ByteArray := prog_1_method_33_code
def yX11_spare : MethodName := ⟨RX11, "spare", "()I"⟩
abbrev cX11_reckoned : ByteArray := prog_1_method_34_code
def yX11_reckoned : MethodName := ⟨RX11, "reckoned", "()LYesNoClones$Costs;"⟩
abbrev cX11_draw : ByteArray := prog_1_method_35_code
def yX11_draw : MethodName := ⟨RX11, "draw", "(I)I"⟩
def RX12 : String := "YesNoClonesModel"
def TX12 : u_T := fun k => match k with
  | 0 => ("YesNoClonesModel", "w", "[I", true)
  | 1 => ("YesNoClonesModel", "known", "I", false)
  | 2 => ("YesNoClonesModel", "kept", "I", false)
  | 3 => ("YesNoClonesModel", "seed", "I", false)
  | 4 => ("YesNoClonesModel", "imageSeed", "[I", true)
  | 5 => ("YesNoClonesModel", "text", "[I", true)
  | 6 => ("YesNoClonesModel", "size", "I", false)
  | 7 => ("YesNoClonesModel", "faultAt", "I", false)
  | 8 => ("YesNoClonesModel", "bookOf", "[I", true)
  | 9 => ("YesNoClonesModel", "bookIs", "[I", true)
  | 10 => ("YesNoClonesModel", "written", "I", false)
  | 11 => ("YesNoClonesModel", "traits", "[I", true)
  | 12 => ("YesNoClonesModel", "known12", "Z", false)
  | 13 => ("YesNoClonesModel", "places", "[I", true)
  | 14 => ("YesNoClonesModel", "placeMany", "I", false)
  | 15 => ("YesNoClonesModel", "ranks", "[I", true)
  | 16 => ("YesNoClonesModel", "ranked", "Z", false)
  | 17 => ("YesNoClonesModel", "costs", "[I", true)
  | 18 => ("YesNoClonesModel", "tops", "[I", true)
  | 19 => ("YesNoClonesModel", "parts", "[I", true)
  | 20 => ("YesNoClonesModel", "lengths", "[I", true)
  | 21 => ("YesNoClonesModel", "byCost", "[I", true)
  | 22 => ("YesNoClonesModel", "begins", "[I", true)
  | 23 => ("YesNoClonesModel", "laid", "Z", false)
  | 24 => ("YesNoClonesModel", "level", "I", false)
  | _ => ("YesNoClonesModel", "stack", "[I", true)
def tyX12 : Nat → FieldType := fun k => match k with
  | 0 => .array .int
  | 1 => .int
  | 2 => .int
  | 3 => .int
  | 4 => .array .int
  | 5 => .array .int
  | 6 => .int
  | 7 => .int
  | 8 => .array .int
  | 9 => .array .int
  | 10 => .int
  | 11 => .array .int
  | 12 => .boolean
  | 13 => .array .int
  | 14 => .int
  | 15 => .array .int
  | 16 => .boolean
  | 17 => .array .int
  | 18 => .array .int
  | 19 => .array .int
  | 20 => .array .int
  | 21 => .array .int
  | 22 => .array .int
  | 23 => .boolean
  | 24 => .int
  | _ => .array .int
abbrev wsX120 : List Cond := u_ws RX12 TX12 26
theorem nmX12 : ∀ a, a < 26 → ∀ b, b < 26 → a ≠ b → (TX12 a).2.1 ≠ (TX12 b).2.1 := by decide +kernel
theorem tyX12_ok : ∀ k, k < 26 → parseFieldDescriptor (TX12 k).2.2.1 = some (tyX12 k) := by decide +kernel
abbrev cX12_init : ByteArray := prog_14_method_1_code
def yX12_init : MethodName := ⟨RX12, "<init>", "()V"⟩
abbrev cX12_in : ByteArray := prog_14_method_2_code
def yX12_in : MethodName := ⟨RX12, "in", "(JJJ)Z"⟩
abbrev cX12_has : ByteArray := prog_14_method_3_code
def yX12_has : MethodName := ⟨RX12, "has", "(II)Z"⟩
abbrev cX12_copyRow : ByteArray := prog_14_method_4_code
def yX12_copyRow : MethodName := ⟨RX12, "copyRow", "(II)V"⟩
abbrev cX12_remember : ByteArray := prog_14_method_5_code
def yX12_remember : MethodName := ⟨RX12, "remember", "()V"⟩
abbrev cX12_tells : ByteArray := prog_14_method_6_code
def yX12_tells : MethodName := ⟨RX12, "tells", "(II)I"⟩
abbrev cX12_bitOf : ByteArray := prog_14_method_7_code
def yX12_bitOf : MethodName := ⟨RX12, "bitOf", "(I)I"⟩
abbrev cX12_hangs : ByteArray := prog_14_method_8_code
def yX12_hangs : MethodName := ⟨RX12, "hangs", "(I)I"⟩
abbrev cX12_arity : ByteArray := prog_14_method_9_code
def yX12_arity : MethodName := ⟨RX12, "arity", "(I)I"⟩
abbrev cX12_turned : ByteArray := prog_14_method_10_code
def yX12_turned : MethodName := ⟨RX12, "turned", "(I)I"⟩
abbrev cX12_within : ByteArray := prog_14_method_11_code
def yX12_within : MethodName := ⟨RX12, "within", "(II)Z"⟩
abbrev cX12_sumOf : ByteArray := prog_14_method_12_code
def yX12_sumOf : MethodName := ⟨RX12, "sumOf", "(I)I"⟩
abbrev cX12_putOn : ByteArray := prog_14_method_13_code
def yX12_putOn : MethodName := ⟨RX12, "putOn", "(IIII)I"⟩
abbrev cX12_failsAt : ByteArray := prog_14_method_14_code
def yX12_failsAt : MethodName := ⟨RX12, "failsAt", "(IIII)Z"⟩
abbrev cX12_failsOfTwo : ByteArray := prog_14_method_15_code
def yX12_failsOfTwo : MethodName := ⟨RX12, "failsOfTwo", "(II)I"⟩
abbrev cX12_failsOfThree : ByteArray := prog_14_method_16_code
def yX12_failsOfThree : MethodName := ⟨RX12, "failsOfThree", "(II)I"⟩
abbrev cX12_failsOfOne : ByteArray := prog_14_method_17_code
def yX12_failsOfOne : MethodName := ⟨RX12, "failsOfOne", "(II)I"⟩
abbrev cX12_failsOfHanging : ByteArray := prog_14_method_18_code
def yX12_failsOfHanging : MethodName := ⟨RX12, "failsOfHanging", "(I)I"⟩
abbrev cX12_failsOf : ByteArray := prog_14_method_19_code
def yX12_failsOf : MethodName := ⟨RX12, "failsOf", "(II)I"⟩
abbrev cX12_layTraits : ByteArray := prog_14_method_20_code
def yX12_layTraits : MethodName := ⟨RX12, "layTraits", "()V"⟩
abbrev cX12_hasAll : ByteArray := prog_14_method_21_code
def yX12_hasAll : MethodName := ⟨RX12, "hasAll", "(II)Z"⟩
abbrev cX12_shut : ByteArray := prog_14_method_22_code
def yX12_shut : MethodName := ⟨RX12, "shut", "(I)I"⟩
abbrev cX12_layPlaces : ByteArray := prog_14_method_23_code
def yX12_layPlaces : MethodName := ⟨RX12, "layPlaces", "()V"⟩
abbrev cX12_placeOf : ByteArray := prog_14_method_24_code
def yX12_placeOf : MethodName := ⟨RX12, "placeOf", "(I)I"⟩
abbrev cX12_isPlace : ByteArray := prog_14_method_25_code
def yX12_isPlace : MethodName := ⟨RX12, "isPlace", "(I)Z"⟩
abbrev cX12_isAbove : ByteArray := prog_14_method_26_code
def yX12_isAbove : MethodName := ⟨RX12, "isAbove", "(II)Z"⟩
abbrev cX12_isJustAbove : ByteArray := prog_14_method_27_code
def yX12_isJustAbove : MethodName := ⟨RX12, "isJustAbove", "(II)Z"⟩
abbrev cX12_neighbour : ByteArray := prog_14_method_28_code
def yX12_neighbour : MethodName := ⟨RX12, "neighbour", "(IIZ)I"⟩
abbrev cX12_inside : ByteArray := prog_14_method_29_code
def yX12_inside : MethodName := ⟨RX12, "inside", "(I)I"⟩
abbrev cX12_growRanks : ByteArray := prog_14_method_30_code
def yX12_growRanks : MethodName := ⟨RX12, "growRanks", "(I)V"⟩
abbrev cX12_rankOf : ByteArray := prog_14_method_31_code
def yX12_rankOf : MethodName := ⟨RX12, "rankOf", "(I)I"⟩
abbrev cX12_keepsRow : ByteArray := prog_14_method_32_code
def yX12_keepsRow : MethodName := ⟨RX12, "keepsRow", "(IIII)Z"⟩
abbrev cX12_keepsAll : ByteArray := prog_14_method_33_code
def yX12_keepsAll : MethodName := ⟨RX12, "keepsAll", "(III)Z"⟩
abbrev cX12_isRelation : ByteArray := prog_14_method_34_code
def yX12_isRelation : MethodName := ⟨RX12, "isRelation", "(II)Z"⟩
abbrev cX12_offer : ByteArray := prog_14_method_35_code
def yX12_offer : MethodName := ⟨RX12, "offer", "(IIIII)V"⟩
abbrev cX12_isMade : ByteArray := prog_14_method_36_code
def yX12_isMade : MethodName := ⟨RX12, "isMade", "(I)Z"⟩
abbrev cX12_offerThird : ByteArray := prog_14_method_37_code
def yX12_offerThird : MethodName := ⟨RX12, "offerThird", "(IIII)V"⟩
abbrev cX12_offerSecond : ByteArray := prog_14_method_38_code
def yX12_offerSecond : MethodName := ⟨RX12, "offerSecond", "(III)V"⟩
abbrev cX12_offerAll : ByteArray := prog_14_method_39_code
def yX12_offerAll : MethodName := ⟨RX12, "offerAll", "(I)V"⟩
abbrev cX12_closeLevel : ByteArray := prog_14_method_40_code
def yX12_closeLevel : MethodName := ⟨RX12, "closeLevel", "(I)I"⟩
abbrev cX12_layCosts : ByteArray := prog_14_method_41_code
def yX12_layCosts : MethodName := ⟨RX12, "layCosts", "()V"⟩
abbrev cX12_madeMany : ByteArray := prog_14_method_42_code
def yX12_madeMany : MethodName := ⟨RX12, "madeMany", "()I"⟩
abbrev cX12_dearestCode : ByteArray := prog_14_method_43_code
def yX12_dearestCode : MethodName := ⟨RX12, "dearestCode", "()I"⟩
abbrev cX12_common : ByteArray := prog_14_method_44_code
def yX12_common : MethodName := ⟨RX12, "common", "(I)I"⟩
abbrev cX12_spare : ByteArray := prog_14_method_45_code
def yX12_spare : MethodName := ⟨RX12, "spare", "()I"⟩
abbrev cX12_wants : ByteArray := prog_14_method_46_code
def yX12_wants : MethodName := ⟨RX12, "wants", "(I)I"⟩
abbrev cX12_faultOf : ByteArray := prog_14_method_47_code
def yX12_faultOf : MethodName := ⟨RX12, "faultOf", "()I"⟩
abbrev cX12_byTwo : ByteArray := prog_14_method_48_code
def yX12_byTwo : MethodName := ⟨RX12, "byTwo", "(III)I"⟩
abbrev cX12_byThree : ByteArray := prog_14_method_49_code
def yX12_byThree : MethodName := ⟨RX12, "byThree", "(IIII)I"⟩
abbrev cX12_byItself : ByteArray := prog_14_method_50_code
def yX12_byItself : MethodName := ⟨RX12, "byItself", "(I)I"⟩
abbrev cX12_worth : ByteArray := prog_14_method_51_code
def yX12_worth : MethodName := ⟨RX12, "worth", "()I"⟩
abbrev cX12_feed : ByteArray := prog_14_method_52_code
def yX12_feed : MethodName := ⟨RX12, "feed", "(I)I"⟩
abbrev cX12_add : ByteArray := prog_14_method_53_code
def yX12_add : MethodName := ⟨RX12, "add", "(I)I"⟩
abbrev cX12_tell : ByteArray := prog_14_method_54_code
def yX12_tell : MethodName := ⟨RX12, "tell", "()I"⟩
abbrev cX12_fault : ByteArray := prog_14_method_55_code
def yX12_fault : MethodName := ⟨RX12, "fault", "()I"⟩
abbrev cX12_wrong : ByteArray := prog_14_method_56_code
def yX12_wrong : MethodName := ⟨RX12, "wrong", "()I"⟩
abbrev cX12_toldOfAll : ByteArray := prog_14_method_57_code
def yX12_toldOfAll : MethodName := ⟨RX12, "toldOfAll", "(I)I"⟩
abbrev cX12_told : ByteArray := prog_14_method_58_code
def yX12_told : MethodName := ⟨RX12, "told", "(I)I"⟩
abbrev cX12_isFunction : ByteArray := prog_14_method_59_code
def yX12_isFunction : MethodName := ⟨RX12, "isFunction", "(I)Z"⟩
abbrev cX12_costNow : ByteArray := prog_14_method_60_code
def yX12_costNow : MethodName := ⟨RX12, "costNow", "(I)I"⟩
abbrev cX12_traitsNow : ByteArray := prog_14_method_61_code
def yX12_traitsNow : MethodName := ⟨RX12, "traitsNow", "(I)I"⟩
abbrev cX12_function : ByteArray := prog_14_method_62_code
def yX12_function : MethodName := ⟨RX12, "function", "(II)I"⟩
abbrev cX12_fails : ByteArray := prog_14_method_63_code
def yX12_fails : MethodName := ⟨RX12, "fails", "(II)I"⟩
abbrev cX12_cost : ByteArray := prog_14_method_64_code
def yX12_cost : MethodName := ⟨RX12, "cost", "(II)I"⟩
abbrev cX12_letterOf : ByteArray := prog_14_method_65_code
def yX12_letterOf : MethodName := ⟨RX12, "letterOf", "(I)I"⟩
abbrev cX12_spell : ByteArray := prog_14_method_66_code
def yX12_spell : MethodName := ⟨RX12, "spell", "(II)I"⟩
abbrev cX12_costing : ByteArray := prog_14_method_67_code
def yX12_costing : MethodName := ⟨RX12, "costing", "(I)I"⟩
abbrev cX12_place : ByteArray := prog_14_method_68_code
def yX12_place : MethodName := ⟨RX12, "place", "(II)I"⟩
abbrev cX12_beside : ByteArray := prog_14_method_69_code
def yX12_beside : MethodName := ⟨RX12, "beside", "(IIZ)I"⟩
abbrev cX12_above : ByteArray := prog_14_method_70_code
def yX12_above : MethodName := ⟨RX12, "above", "(II)I"⟩
abbrev cX12_below : ByteArray := prog_14_method_71_code
def yX12_below : MethodName := ⟨RX12, "below", "(II)I"⟩
abbrev cX12_meet : ByteArray := prog_14_method_72_code
def yX12_meet : MethodName := ⟨RX12, "meet", "(II)I"⟩
abbrev cX12_join : ByteArray := prog_14_method_73_code
def yX12_join : MethodName := ⟨RX12, "join", "(II)I"⟩
abbrev cX12_relation : ByteArray := prog_14_method_74_code
def yX12_relation : MethodName := ⟨RX12, "relation", "(III)I"⟩
abbrev cX12_keeps : ByteArray := prog_14_method_75_code
def yX12_keeps : MethodName := ⟨RX12, "keeps", "(III)I"⟩
abbrev cX12_put : ByteArray := prog_14_method_76_code
def yX12_put : MethodName := ⟨RX12, "put", "(IIII)I"⟩
abbrev cX12_turn : ByteArray := prog_14_method_77_code
def yX12_turn : MethodName := ⟨RX12, "turn", "(I)I"⟩
abbrev cX12_take : ByteArray := prog_14_method_78_code
def yX12_take : MethodName := ⟨RX12, "take", "(I)I"⟩
abbrev cX12_base : ByteArray := prog_14_method_79_code
def yX12_base : MethodName := ⟨RX12, "base", "(I)I"⟩
abbrev cX12_draw : ByteArray := prog_14_method_80_code
def yX12_draw : MethodName := ⟨RX12, "draw", "(I)I"⟩
abbrev cX12_drift : ByteArray := prog_14_method_81_code
def yX12_drift : MethodName := ⟨RX12, "drift", "(I)I"⟩
abbrev cX12_undo : ByteArray := prog_14_method_82_code
def yX12_undo : MethodName := ⟨RX12, "undo", "(I)I"⟩
abbrev cX12_write : ByteArray := prog_14_method_83_code
def yX12_write : MethodName := ⟨RX12, "write", "(II)I"⟩
abbrev cX12_tear : ByteArray := prog_14_method_84_code
def yX12_tear : MethodName := ⟨RX12, "tear", "()I"⟩
abbrev cX12_seed : ByteArray := prog_14_method_85_code
def yX12_seed : MethodName := ⟨RX12, "seed", "(I)I"⟩
abbrev cX12_keep : ByteArray := prog_14_method_86_code
def yX12_keep : MethodName := ⟨RX12, "keep", "(I)I"⟩
abbrev cX12_goBack : ByteArray := prog_14_method_87_code
def yX12_goBack : MethodName := ⟨RX12, "goBack", "(I)I"⟩
def RJ9 : String := "java/lang/Math"
def TJ9 : u_T := fun k => match k with
  | _ => ("", "", "", false)
def tyJ9 : Nat → FieldType := fun k => match k with
  | _ => .int
theorem nmJ9 : ∀ a, a < 0 → ∀ b, b < 0 → a ≠ b → (TJ9 a).2.1 ≠ (TJ9 b).2.1 := by decide +kernel
theorem tyJ9_ok : ∀ k, k < 0 → parseFieldDescriptor (TJ9 k).2.2.1 = some (tyJ9 k) := by decide +kernel
abbrev cJ9_max_7cf53 : ByteArray := prog_15_method_65_code
def yJ9_max_7cf53 : MethodName := ⟨RJ9, "max", "(II)I"⟩
abbrev cJ9_min_7cf53 : ByteArray := prog_15_method_69_code
def yJ9_min_7cf53 : MethodName := ⟨RJ9, "min", "(II)I"⟩
def RL : String := "YesNoClonesLaw"
abbrev cL_law : ByteArray := code
def yL_law : MethodName := ⟨RL, "law", "([I)Z"⟩
abbrev vwCl : List vw_C := [(RX0, TX0, 3), (RX2, TX2, 15), (RX3, TX3, 5), (RX4, TX4, 5), (RX5, TX5, 5), (RX6, TX6, 6), (RX8, TX8, 3), (RX10, TX10, 6), (RX11, TX11, 10), (RX12, TX12, 26)]
